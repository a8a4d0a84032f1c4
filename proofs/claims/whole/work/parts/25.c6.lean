def m_X5_addToSequence_J28 (E_se : Nat → Int32) (E_sn : Int32) : Option ((Nat → Int32) × Int32) := some (E_se, E_sn)
def m_X5_addToSequence (E_se : Nat → Int32) (E_sn : Int32) (x1 : Int32) : Option ((Nat → Int32) × Int32) := if 5 ≤ E_sn then (m_X5_addToSequence_J28 E_se E_sn) else (ck E_sn 5 (m_X5_addToSequence_J28 (upd E_se (Int32.toNatClampNeg E_sn) x1) (E_sn + 1)))
def m_X5_codeAt_J23 (y0 : Int32) : Option (Int32) := some y0
def m_X5_codeAt_J21 : Option (Int32) := m_X5_codeAt_J23 (-9)
def m_X5_codeAt (E_n : Int32) (E_li : Nat → Int32) (x1 : Int32) : Option (Int32) := if x1 < 0 then (m_X5_codeAt_J21) else (if E_n ≤ x1 then (m_X5_codeAt_J21) else (ck x1 100 (m_X5_codeAt_J23 (E_li (Int32.toNatClampNeg x1)))))
def m_X5_collapsesNames_J27 (y0 : Int32) : Option (Int32) := ckb y0 (some y0)
def m_X5_collapsesNames_J26 : Option (Int32) := m_X5_collapsesNames_J27 0
def m_X5_collapsesNames (S_cl : Int32) (L_nk : Nat → Int64) (x1 : Int32) (x2 : Int32) : Option (Int32) := if S_cl ≤ 0 then (m_X5_collapsesNames_J26) else ((m_X3_sameNames L_nk x1 x2).bind fun e3 => if e3 = 0 then (m_X5_collapsesNames_J26) else (m_X5_collapsesNames_J27 1))
def m_X5_numberAt (A_nu : Nat → Int32) (E_se : Nat → Int32) (x1 : Int32) : Option (Int32) := ck x1 5 (ck (E_se (Int32.toNatClampNeg x1)) 8 (some (A_nu (Int32.toNatClampNeg (E_se (Int32.toNatClampNeg x1))))))
def m_X5_putInSequence_J96 (x1 : Int32) (x2 : Int32) (E_se : Nat → Int32) (E_sn : Int32) : Option ((Int32 × (Nat → Int32) × Int32) ⊕ (((Nat → Int32) × Int32))) := some (Sum.inl ((x2 + 1), E_se, E_sn))
def m_X5_putInSequence_B52 (x1 : Int32) (W_n : Int32) (C_sz : Nat → Int32) (C_cd : Nat → Int32) (A_li : Nat → Int32) (st : Int32 × (Nat → Int32) × Int32) : Option ((Int32 × (Nat → Int32) × Int32) ⊕ (((Nat → Int32) × Int32))) := if W_n ≤ st.1 then (some (Sum.inr (st.2.1, st.2.2))) else (ck st.1 8 ((m_X1_cites C_sz C_cd x1 (A_li (Int32.toNatClampNeg st.1))).bind fun e5 => if e5 = 0 then (m_X5_putInSequence_J96 x1 st.1 st.2.1 st.2.2) else (ck st.1 8 ((m_X5_addToSequence st.2.1 st.2.2 (A_li (Int32.toNatClampNeg st.1))).bind fun e8 => m_X5_putInSequence_J96 x1 st.1 e8.1 e8.2))))
def m_X5_putInSequence_B17 (x1 : Int32) (C_sz : Nat → Int32) (C_cd : Nat → Int32) (st : Int32 × (Nat → Int32) × Int32) : Option ((Int32 × (Nat → Int32) × Int32) ⊕ (((Nat → Int32) × Int32))) := ck x1 10 (if (C_sz (Int32.toNatClampNeg x1)) ≤ st.1 then (some (Sum.inr (st.2.1, st.2.2))) else ((m_X1_workAt C_cd x1 st.1).bind fun e12 => (m_X5_addToSequence st.2.1 st.2.2 e12).bind fun e13 => some (Sum.inl ((st.1 + 1), e13.1, e13.2))))
def m_X5_putInSequence (W_n : Int32) (S_co : Int32) (C_sz : Nat → Int32) (C_cd : Nat → Int32) (A_li : Nat → Int32) (E_se : Nat → Int32) (E_sn : Int32) (x1 : Int32) : Option ((Nat → Int32) × Int32) := if S_co = 0 then ((it (m_X5_putInSequence_B17 x1 C_sz C_cd) fu (0, E_se, 0)).bind fun e9 => some (e9.1, e9.2)) else ((it (m_X5_putInSequence_B52 x1 W_n C_sz C_cd A_li) fu (0, E_se, 0)).bind fun e2 => some (e2.1, e2.2))
def m_X5_write_J29 (E_n : Int32) (E_li : Nat → Int32) : Option (Int32 × (Nat → Int32)) := some (E_n, E_li)
def m_X5_write (E_n : Int32) (E_li : Nat → Int32) (x1 : Int32) : Option (Int32 × (Nat → Int32)) := if 100 ≤ E_n then (m_X5_write_J29 E_n E_li) else (ck E_n 100 (m_X5_write_J29 (E_n + 1) (upd E_li (Int32.toNatClampNeg E_n) x1)))
def m_X5_repeatsNoteBefore_J44 (y0 : Int32) : Option (Int32) := ckb y0 (some y0)
def m_X5_repeatsNoteBefore_J43 : Option (Int32) := m_X5_repeatsNoteBefore_J44 0
def m_X5_repeatsNoteBefore (C_sz : Nat → Int32) (C_cd : Nat → Int32) (E_se : Nat → Int32) (x1 : Int32) : Option (Int32) := if x1 ≤ 0 then (m_X5_repeatsNoteBefore_J43) else (ck (x1 - 1) 10 (if (C_sz (Int32.toNatClampNeg (x1 - 1))) = 1 then ((m_X1_workAt C_cd (x1 - 1) 0).bind fun e5 => ck 0 5 (if e5 = (E_se (Int32.toNatClampNeg 0)) then (m_X5_repeatsNoteBefore_J44 1) else (m_X5_repeatsNoteBefore_J43))) else (m_X5_repeatsNoteBefore_J43)))
def m_X5_writeAuthors_J60 (x1 : Int32) (x2 : Int32) (x3 : Int32) (x4 : Int32) (E_n : Int32) (E_li : Nat → Int32) : Option ((Int32 × Int32 × (Nat → Int32)) ⊕ ((Int32 × (Nat → Int32)))) := some (Sum.inl ((x4 + 1), E_n, E_li))
def m_X5_writeAuthors_J20 (x1 : Int32) (x2 : Int32) (x3 : Int32) (x4 : Int32) (W_fa : Nat → Int32) (W_in : Nat → Int32) (E_n : Int32) (E_li : Nat → Int32) : Option ((Int32 × Int32 × (Nat → Int32)) ⊕ ((Int32 × (Nat → Int32)))) := ck ((x1 * 4) + x4) 32 ((m_X5_write E_n E_li (W_fa (Int32.toNatClampNeg ((x1 * 4) + x4)))).bind fun e3 => if x3 = 0 then (m_X5_writeAuthors_J60 x1 x2 x3 x4 e3.1 e3.2) else (ck ((x1 * 4) + x4) 32 ((m_X5_write e3.1 e3.2 (W_in (Int32.toNatClampNeg ((x1 * 4) + x4)))).bind fun e6 => m_X5_writeAuthors_J60 x1 x2 x3 x4 e6.1 e6.2)))
def m_X5_writeAuthors_B3 (x1 : Int32) (x2 : Int32) (x3 : Int32) (W_fa : Nat → Int32) (W_in : Nat → Int32) (st : Int32 × Int32 × (Nat → Int32)) : Option ((Int32 × Int32 × (Nat → Int32)) ⊕ ((Int32 × (Nat → Int32)))) := if x2 ≤ st.1 then (some (Sum.inr (st.2.1, st.2.2))) else (if st.1 ≤ 0 then (m_X5_writeAuthors_J20 x1 x2 x3 st.1 W_fa W_in st.2.1 st.2.2) else ((m_X5_write st.2.1 st.2.2 38).bind fun e9 => m_X5_writeAuthors_J20 x1 x2 x3 st.1 W_fa W_in e9.1 e9.2))
def m_X5_writeAuthors (W_fa : Nat → Int32) (W_in : Nat → Int32) (E_n : Int32) (E_li : Nat → Int32) (x1 : Int32) (x2 : Int32) (x3 : Int32) : Option (Int32 × (Nat → Int32)) := (it (m_X5_writeAuthors_B3 x1 x2 x3 W_fa W_in) fu (0, E_n, E_li)).bind fun e1 => some (e1.1, e1.2)
def m_X5_writeNames_J40 (E_n : Int32) (E_li : Nat → Int32) : Option (Int32 × (Nat → Int32)) := some (E_n, E_li)
def m_X5_writeNames (W_ac : Nat → Int32) (W_fa : Nat → Int32) (W_in : Nat → Int32) (L_sh : Nat → Int32) (L_wi : Nat → Int32) (E_n : Int32) (E_li : Nat → Int32) (x1 : Int32) : Option (Int32 × (Nat → Int32)) := ck x1 8 (ck x1 8 ((m_X5_writeAuthors W_fa W_in E_n E_li x1 (L_sh (Int32.toNatClampNeg x1)) (L_wi (Int32.toNatClampNeg x1))).bind fun e3 => (m_X3_hidesAuthors W_ac L_sh x1).bind fun e4 => if e4 = 0 then (m_X5_writeNames_J40 e3.1 e3.2) else ((m_X5_write e3.1 e3.2 43).bind fun e6 => m_X5_writeNames_J40 e6.1 e6.2)))
def m_X5_writeDigit (E_n : Int32) (E_li : Nat → Int32) (x1 : Int32) : Option (Int32 × (Nat → Int32)) := (m_X5_write E_n E_li (48 + x1)).bind fun e1 => some (e1.1, e1.2)
def m_X5_writeAllAuthors (W_ac : Nat → Int32) (W_fa : Nat → Int32) (W_in : Nat → Int32) (E_n : Int32) (E_li : Nat → Int32) (x1 : Int32) : Option (Int32 × (Nat → Int32)) := ck x1 8 ((m_X5_writeAuthors W_fa W_in E_n E_li x1 (W_ac (Int32.toNatClampNeg x1)) 1).bind fun e2 => some (e2.1, e2.2))
def m_X5_writeYear (W_yr : Nat → Int32) (E_n : Int32) (E_li : Nat → Int32) (x1 : Int32) : Option (Int32 × (Nat → Int32)) := ck x1 8 ((m_X5_writeDigit E_n E_li ((W_yr (Int32.toNatClampNeg x1)) / 10)).bind fun e2 => ck x1 8 ((m_X5_writeDigit e2.1 e2.2 ((W_yr (Int32.toNatClampNeg x1)) - (W_yr (Int32.toNatClampNeg x1)) / 10 * 10)).bind fun e4 => some (e4.1, e4.2)))
def m_X5_writeNoted (W_ac : Nat → Int32) (W_fa : Nat → Int32) (W_in : Nat → Int32) (W_yr : Nat → Int32) (W_ti : Nat → Int32) (C_n : Int32) (C_sz : Nat → Int32) (C_cd : Nat → Int32) (L_sh : Nat → Int32) (L_wi : Nat → Int32) (E_n : Int32) (E_li : Nat → Int32) (x1 : Int32) (x2 : Int32) : Option (Int32 × (Nat → Int32)) := (m_X1_earliestCiting C_n C_sz C_cd x2).bind fun e1 => if x1 ≤ e1 then ((m_X5_writeAllAuthors W_ac W_fa W_in E_n E_li x2).bind fun e3 => ck x2 8 ((m_X5_write e3.1 e3.2 (W_ti (Int32.toNatClampNeg x2))).bind fun e5 => (m_X5_writeYear W_yr e5.1 e5.2 x2).bind fun e6 => some (e6.1, e6.2))) else ((m_X5_writeNames W_ac W_fa W_in L_sh L_wi E_n E_li x2).bind fun e7 => (m_X5_write e7.1 e7.2 110).bind fun e8 => (m_X5_writeDigit e8.1 e8.2 (e1 + 1)).bind fun e9 => some (e9.1, e9.2))
def m_X5_writeNote_J52 (x1 : Int32) (x2 : Int32) (E_n : Int32) (E_li : Nat → Int32) : Option ((Int32 × Int32 × (Nat → Int32)) ⊕ ((Int32 × (Nat → Int32)))) := some (Sum.inl ((x2 + 1), E_n, E_li))
def m_X5_writeNote_J41 (x1 : Int32) (x2 : Int32) (W_ac : Nat → Int32) (W_fa : Nat → Int32) (W_in : Nat → Int32) (W_yr : Nat → Int32) (W_ti : Nat → Int32) (C_n : Int32) (C_sz : Nat → Int32) (C_cd : Nat → Int32) (L_sh : Nat → Int32) (L_wi : Nat → Int32) (E_n : Int32) (E_li : Nat → Int32) (E_se : Nat → Int32) : Option ((Int32 × Int32 × (Nat → Int32)) ⊕ ((Int32 × (Nat → Int32)))) := ck x2 5 ((m_X5_writeNoted W_ac W_fa W_in W_yr W_ti C_n C_sz C_cd L_sh L_wi E_n E_li x1 (E_se (Int32.toNatClampNeg x2))).bind fun e4 => m_X5_writeNote_J52 x1 x2 e4.1 e4.2)
def m_X5_writeNote_J20 (x1 : Int32) (x2 : Int32) (W_ac : Nat → Int32) (W_fa : Nat → Int32) (W_in : Nat → Int32) (W_yr : Nat → Int32) (W_ti : Nat → Int32) (C_n : Int32) (C_sz : Nat → Int32) (C_cd : Nat → Int32) (L_sh : Nat → Int32) (L_wi : Nat → Int32) (E_n : Int32) (E_li : Nat → Int32) (E_se : Nat → Int32) : Option ((Int32 × Int32 × (Nat → Int32)) ⊕ ((Int32 × (Nat → Int32)))) := if x2 = 0 then ((m_X5_repeatsNoteBefore C_sz C_cd E_se x1).bind fun e6 => if e6 = 0 then (m_X5_writeNote_J41 x1 x2 W_ac W_fa W_in W_yr W_ti C_n C_sz C_cd L_sh L_wi E_n E_li E_se) else ((m_X5_write E_n E_li 105).bind fun e8 => m_X5_writeNote_J52 x1 x2 e8.1 e8.2)) else (m_X5_writeNote_J41 x1 x2 W_ac W_fa W_in W_yr W_ti C_n C_sz C_cd L_sh L_wi E_n E_li E_se)
def m_X5_writeNote_B2 (x1 : Int32) (W_ac : Nat → Int32) (W_fa : Nat → Int32) (W_in : Nat → Int32) (W_yr : Nat → Int32) (W_ti : Nat → Int32) (C_n : Int32) (C_sz : Nat → Int32) (C_cd : Nat → Int32) (L_sh : Nat → Int32) (L_wi : Nat → Int32) (E_se : Nat → Int32) (E_sn : Int32) (st : Int32 × Int32 × (Nat → Int32)) : Option ((Int32 × Int32 × (Nat → Int32)) ⊕ ((Int32 × (Nat → Int32)))) := if E_sn ≤ st.1 then (some (Sum.inr (st.2.1, st.2.2))) else (if st.1 ≤ 0 then (m_X5_writeNote_J20 x1 st.1 W_ac W_fa W_in W_yr W_ti C_n C_sz C_cd L_sh L_wi st.2.1 st.2.2 E_se) else ((m_X5_write st.2.1 st.2.2 59).bind fun e11 => m_X5_writeNote_J20 x1 st.1 W_ac W_fa W_in W_yr W_ti C_n C_sz C_cd L_sh L_wi e11.1 e11.2 E_se))
def m_X5_writeNote (W_ac : Nat → Int32) (W_fa : Nat → Int32) (W_in : Nat → Int32) (W_yr : Nat → Int32) (W_ti : Nat → Int32) (C_n : Int32) (C_sz : Nat → Int32) (C_cd : Nat → Int32) (L_sh : Nat → Int32) (L_wi : Nat → Int32) (E_n : Int32) (E_li : Nat → Int32) (E_se : Nat → Int32) (E_sn : Int32) (x1 : Int32) : Option (Int32 × (Nat → Int32)) := (it (m_X5_writeNote_B2 x1 W_ac W_fa W_in W_yr W_ti C_n C_sz C_cd L_sh L_wi E_se E_sn) fu (0, E_n, E_li)).bind fun e1 => (m_X5_write e1.1 e1.2 46).bind fun e2 => some (e2.1, e2.2)
def m_X5_runEnd_B2 (A_nu : Nat → Int32) (E_se : Nat → Int32) (E_sn : Int32) (st : Int32) : Option (Int32 ⊕ Int32) := if E_sn ≤ (st + 1) then (some (Sum.inr st)) else ((m_X5_numberAt A_nu E_se (st + 1)).bind fun e3 => (m_X5_numberAt A_nu E_se st).bind fun e4 => if e3 = (e4 + 1) then (some (Sum.inl (st + 1))) else (some (Sum.inr st)))
def m_X5_runEnd (A_nu : Nat → Int32) (E_se : Nat → Int32) (E_sn : Int32) (x1 : Int32) : Option (Int32) := (it (m_X5_runEnd_B2 A_nu E_se E_sn) fu x1).bind fun e1 => some e1
def m_X5_writeNumeric_J79 (x1 : Int32) (E_n : Int32) (E_li : Nat → Int32) : Option ((Int32 × Int32 × (Nat → Int32)) ⊕ ((Int32 × (Nat → Int32)))) := some (Sum.inl ((x1 + 1), E_n, E_li))
def m_X5_writeNumeric_J54 (x1 : Int32) (y0 : Int32) (A_nu : Nat → Int32) (E_n : Int32) (E_li : Nat → Int32) (E_se : Nat → Int32) : Option ((Int32 × Int32 × (Nat → Int32)) ⊕ ((Int32 × (Nat → Int32)))) := if (y0 - x1) < 2 then (m_X5_writeNumeric_J79 x1 E_n E_li) else ((m_X5_write E_n E_li 45).bind fun e5 => (m_X5_numberAt A_nu E_se y0).bind fun e6 => (m_X5_writeDigit e5.1 e5.2 e6).bind fun e7 => m_X5_writeNumeric_J79 y0 e7.1 e7.2)
def m_X5_writeNumeric_J26 (x1 : Int32) (S_cl : Int32) (A_nu : Nat → Int32) (E_n : Int32) (E_li : Nat → Int32) (E_se : Nat → Int32) (E_sn : Int32) : Option ((Int32 × Int32 × (Nat → Int32)) ⊕ ((Int32 × (Nat → Int32)))) := (m_X5_numberAt A_nu E_se x1).bind fun e8 => (m_X5_writeDigit E_n E_li e8).bind fun e9 => if S_cl = 0 then (m_X5_writeNumeric_J54 x1 x1 A_nu e9.1 e9.2 E_se) else ((m_X5_runEnd A_nu E_se E_sn x1).bind fun e11 => m_X5_writeNumeric_J54 x1 e11 A_nu e9.1 e9.2 E_se)
def m_X5_writeNumeric_B8 (S_cl : Int32) (A_nu : Nat → Int32) (E_se : Nat → Int32) (E_sn : Int32) (st : Int32 × Int32 × (Nat → Int32)) : Option ((Int32 × Int32 × (Nat → Int32)) ⊕ ((Int32 × (Nat → Int32)))) := if E_sn ≤ st.1 then (some (Sum.inr (st.2.1, st.2.2))) else (if st.1 ≤ 0 then (m_X5_writeNumeric_J26 st.1 S_cl A_nu st.2.1 st.2.2 E_se E_sn) else ((m_X5_write st.2.1 st.2.2 44).bind fun e14 => m_X5_writeNumeric_J26 st.1 S_cl A_nu e14.1 e14.2 E_se E_sn))
def m_X5_writeNumeric (S_cl : Int32) (A_nu : Nat → Int32) (E_n : Int32) (E_li : Nat → Int32) (E_se : Nat → Int32) (E_sn : Int32) : Option (Int32 × (Nat → Int32)) := (m_X5_write E_n E_li 91).bind fun e1 => (it (m_X5_writeNumeric_B8 S_cl A_nu E_se E_sn) fu (0, e1.1, e1.2)).bind fun e2 => (m_X5_write e2.1 e2.2 93).bind fun e3 => some (e3.1, e3.2)
def m_X5_writeSuffix_J25 (E_n : Int32) (E_li : Nat → Int32) : Option (Int32 × (Nat → Int32)) := some (E_n, E_li)
def m_X5_writeSuffix (L_su : Nat → Int32) (E_n : Int32) (E_li : Nat → Int32) (x1 : Int32) : Option (Int32 × (Nat → Int32)) := ck x1 8 (if (L_su (Int32.toNatClampNeg x1)) = 0 then (m_X5_writeSuffix_J25 E_n E_li) else (ck x1 8 ((m_X5_write E_n E_li (L_su (Int32.toNatClampNeg x1))).bind fun e4 => m_X5_writeSuffix_J25 e4.1 e4.2)))
def m_X5_writeCollapsed_J59 (x2 : Int32) (L_su : Nat → Int32) (E_n : Int32) (E_li : Nat → Int32) : Option (Int32 × (Nat → Int32)) := (m_X5_writeSuffix L_su E_n E_li x2).bind fun e1 => some (e1.1, e1.2)
def m_X5_writeCollapsed_J49 (x2 : Int32) (y0 : Int32) (W_yr : Nat → Int32) (L_su : Nat → Int32) (E_n : Int32) (E_li : Nat → Int32) : Option (Int32 × (Nat → Int32)) := if y0 = 0 then ((m_X5_writeYear W_yr E_n E_li x2).bind fun e3 => m_X5_writeCollapsed_J59 x2 L_su e3.1 e3.2) else (m_X5_writeCollapsed_J59 x2 L_su E_n E_li)
def m_X5_writeCollapsed_J48 (x2 : Int32) (W_yr : Nat → Int32) (L_su : Nat → Int32) (E_n : Int32) (E_li : Nat → Int32) : Option (Int32 × (Nat → Int32)) := m_X5_writeCollapsed_J49 x2 0 W_yr L_su E_n E_li
def m_X5_writeCollapsed (W_yr : Nat → Int32) (S_cl : Int32) (L_su : Nat → Int32) (E_n : Int32) (E_li : Nat → Int32) (x1 : Int32) (x2 : Int32) : Option (Int32 × (Nat → Int32)) := if S_cl = 2 then (ck x2 8 (if (L_su (Int32.toNatClampNeg x2)) = 0 then (m_X5_writeCollapsed_J48 x2 W_yr L_su E_n E_li) else (ck x1 8 (ck x2 8 (if (W_yr (Int32.toNatClampNeg x1)) = (W_yr (Int32.toNatClampNeg x2)) then (m_X5_writeCollapsed_J49 x2 1 W_yr L_su E_n E_li) else (m_X5_writeCollapsed_J48 x2 W_yr L_su E_n E_li)))))) else (m_X5_writeCollapsed_J48 x2 W_yr L_su E_n E_li)
def m_X5_writeLabel (W_ac : Nat → Int32) (W_fa : Nat → Int32) (W_in : Nat → Int32) (W_yr : Nat → Int32) (L_sh : Nat → Int32) (L_wi : Nat → Int32) (L_su : Nat → Int32) (E_n : Int32) (E_li : Nat → Int32) (x1 : Int32) : Option (Int32 × (Nat → Int32)) := (m_X5_writeNames W_ac W_fa W_in L_sh L_wi E_n E_li x1).bind fun e1 => (m_X5_writeYear W_yr e1.1 e1.2 x1).bind fun e2 => (m_X5_writeSuffix L_su e2.1 e2.2 x1).bind fun e3 => some (e3.1, e3.2)
def m_X5_writeAuthorYear_J80 (x1 : Int32) (E_n : Int32) (E_li : Nat → Int32) : Option ((Int32 × Int32 × (Nat → Int32)) ⊕ ((Int32 × (Nat → Int32)))) := some (Sum.inl ((x1 + 1), E_n, E_li))
def m_X5_writeAuthorYear_J75 (x1 : Int32) (x2 : Int32) (W_ac : Nat → Int32) (W_fa : Nat → Int32) (W_in : Nat → Int32) (W_yr : Nat → Int32) (L_sh : Nat → Int32) (L_wi : Nat → Int32) (L_su : Nat → Int32) (E_n : Int32) (E_li : Nat → Int32) : Option ((Int32 × Int32 × (Nat → Int32)) ⊕ ((Int32 × (Nat → Int32)))) := (m_X5_writeLabel W_ac W_fa W_in W_yr L_sh L_wi L_su E_n E_li x2).bind fun e4 => m_X5_writeAuthorYear_J80 x1 e4.1 e4.2
def m_X5_writeAuthorYear_J65 (x1 : Int32) (x2 : Int32) (W_ac : Nat → Int32) (W_fa : Nat → Int32) (W_in : Nat → Int32) (W_yr : Nat → Int32) (L_sh : Nat → Int32) (L_wi : Nat → Int32) (L_su : Nat → Int32) (E_n : Int32) (E_li : Nat → Int32) : Option ((Int32 × Int32 × (Nat → Int32)) ⊕ ((Int32 × (Nat → Int32)))) := if x1 ≤ 0 then (m_X5_writeAuthorYear_J75 x1 x2 W_ac W_fa W_in W_yr L_sh L_wi L_su E_n E_li) else ((m_X5_write E_n E_li 59).bind fun e6 => m_X5_writeAuthorYear_J75 x1 x2 W_ac W_fa W_in W_yr L_sh L_wi L_su e6.1 e6.2)
def m_X5_writeAuthorYear_B8 (W_ac : Nat → Int32) (W_fa : Nat → Int32) (W_in : Nat → Int32) (W_yr : Nat → Int32) (S_cl : Int32) (L_sh : Nat → Int32) (L_wi : Nat → Int32) (L_su : Nat → Int32) (L_nk : Nat → Int64) (E_se : Nat → Int32) (E_sn : Int32) (st : Int32 × Int32 × (Nat → Int32)) : Option ((Int32 × Int32 × (Nat → Int32)) ⊕ ((Int32 × (Nat → Int32)))) := if E_sn ≤ st.1 then (some (Sum.inr (st.2.1, st.2.2))) else (ck st.1 5 (if st.1 ≤ 0 then (m_X5_writeAuthorYear_J65 st.1 (E_se (Int32.toNatClampNeg st.1)) W_ac W_fa W_in W_yr L_sh L_wi L_su st.2.1 st.2.2) else (ck (st.1 - 1) 5 ((m_X5_collapsesNames S_cl L_nk (E_se (Int32.toNatClampNeg (st.1 - 1))) (E_se (Int32.toNatClampNeg st.1))).bind fun e11 => if e11 = 0 then (m_X5_writeAuthorYear_J65 st.1 (E_se (Int32.toNatClampNeg st.1)) W_ac W_fa W_in W_yr L_sh L_wi L_su st.2.1 st.2.2) else ((m_X5_write st.2.1 st.2.2 44).bind fun e13 => ck (st.1 - 1) 5 ((m_X5_writeCollapsed W_yr S_cl L_su e13.1 e13.2 (E_se (Int32.toNatClampNeg (st.1 - 1))) (E_se (Int32.toNatClampNeg st.1))).bind fun e15 => m_X5_writeAuthorYear_J80 st.1 e15.1 e15.2))))))
def m_X5_writeAuthorYear (W_ac : Nat → Int32) (W_fa : Nat → Int32) (W_in : Nat → Int32) (W_yr : Nat → Int32) (S_cl : Int32) (L_sh : Nat → Int32) (L_wi : Nat → Int32) (L_su : Nat → Int32) (L_nk : Nat → Int64) (E_n : Int32) (E_li : Nat → Int32) (E_se : Nat → Int32) (E_sn : Int32) : Option (Int32 × (Nat → Int32)) := (m_X5_write E_n E_li 40).bind fun e1 => (it (m_X5_writeAuthorYear_B8 W_ac W_fa W_in W_yr S_cl L_sh L_wi L_su L_nk E_se E_sn) fu (0, e1.1, e1.2)).bind fun e2 => (m_X5_write e2.1 e2.2 41).bind fun e3 => some (e3.1, e3.2)
def m_X5_renderCitation_J63 (E_n : Int32) (E_li : Nat → Int32) (E_se : Nat → Int32) (E_sn : Int32) : Option (Int32 × (Nat → Int32) × (Nat → Int32) × Int32) := some (E_n, E_li, E_se, E_sn)
def m_X5_renderCitation (W_n : Int32) (W_ac : Nat → Int32) (W_fa : Nat → Int32) (W_in : Nat → Int32) (W_yr : Nat → Int32) (W_ti : Nat → Int32) (S_st : Int32) (S_cl : Int32) (S_co : Int32) (C_n : Int32) (C_sz : Nat → Int32) (C_cd : Nat → Int32) (A_nu : Nat → Int32) (A_li : Nat → Int32) (L_sh : Nat → Int32) (L_wi : Nat → Int32) (L_su : Nat → Int32) (L_nk : Nat → Int64) (E_n : Int32) (E_li : Nat → Int32) (E_se : Nat → Int32) (E_sn : Int32) (x1 : Int32) : Option (Int32 × (Nat → Int32) × (Nat → Int32) × Int32) := (m_X5_putInSequence W_n S_co C_sz C_cd A_li E_se E_sn x1).bind fun e1 => if S_st = 0 then ((m_X5_writeAuthorYear W_ac W_fa W_in W_yr S_cl L_sh L_wi L_su L_nk 0 E_li e1.1 e1.2).bind fun e3 => m_X5_renderCitation_J63 e3.1 e3.2 e1.1 e1.2) else (if S_st = 1 then ((m_X5_writeNumeric S_cl A_nu 0 E_li e1.1 e1.2).bind fun e5 => m_X5_renderCitation_J63 e5.1 e5.2 e1.1 e1.2) else ((m_X5_writeNote W_ac W_fa W_in W_yr W_ti C_n C_sz C_cd L_sh L_wi 0 E_li e1.1 e1.2 x1).bind fun e6 => m_X5_renderCitation_J63 e6.1 e6.2 e1.1 e1.2))
def m_X5_renderEntry_J72 (x1 : Int32) (W_ti : Nat → Int32) (E_n : Int32) (E_li : Nat → Int32) : Option (Int32 × (Nat → Int32)) := (m_X5_write E_n E_li 41).bind fun e1 => ck x1 8 ((m_X5_write e1.1 e1.2 (W_ti (Int32.toNatClampNeg x1))).bind fun e3 => (m_X5_write e3.1 e3.2 46).bind fun e4 => some (e4.1, e4.2))
def m_X5_renderEntry_J41 (x1 : Int32) (W_ac : Nat → Int32) (W_fa : Nat → Int32) (W_in : Nat → Int32) (W_yr : Nat → Int32) (W_ti : Nat → Int32) (S_st : Int32) (L_su : Nat → Int32) (E_n : Int32) (E_li : Nat → Int32) : Option (Int32 × (Nat → Int32)) := (m_X5_writeAllAuthors W_ac W_fa W_in E_n E_li x1).bind fun e5 => (m_X5_write e5.1 e5.2 40).bind fun e6 => (m_X5_writeYear W_yr e6.1 e6.2 x1).bind fun e7 => if S_st = 0 then ((m_X5_writeSuffix L_su e7.1 e7.2 x1).bind fun e9 => m_X5_renderEntry_J72 x1 W_ti e9.1 e9.2) else (m_X5_renderEntry_J72 x1 W_ti e7.1 e7.2)
def m_X5_renderEntry (W_ac : Nat → Int32) (W_fa : Nat → Int32) (W_in : Nat → Int32) (W_yr : Nat → Int32) (W_ti : Nat → Int32) (S_st : Int32) (A_nu : Nat → Int32) (L_su : Nat → Int32) (E_n : Int32) (E_li : Nat → Int32) (x1 : Int32) : Option (Int32 × (Nat → Int32)) := if S_st = 1 then ((m_X5_write 0 E_li 91).bind fun e11 => ck x1 8 ((m_X5_writeDigit e11.1 e11.2 (A_nu (Int32.toNatClampNeg x1))).bind fun e13 => (m_X5_write e13.1 e13.2 93).bind fun e14 => m_X5_renderEntry_J41 x1 W_ac W_fa W_in W_yr W_ti S_st L_su e14.1 e14.2)) else (m_X5_renderEntry_J41 x1 W_ac W_fa W_in W_yr W_ti S_st L_su 0 E_li)
def w_X5_addToSequence (cI : ClassId) (aE aE_li aW aS aC aA aL aE_se : Nat) (E_n : Int32) (E_se : Nat → Int32) (E_sn : Int32) : va_W := [(aE, .inr (5, [.int E_n, .ref aE_li, .ref aW, .ref aS, .ref aC, .ref aA, .ref aL, .ref aE_se, .int E_sn])), (aE_se, .inl (cI, 5, .inl E_se))]
theorem wa_X5_addToSequence {cI : ClassId} {aE aE_li aW aS aC aA aL aE_se : Nat} {E_n E_n' : Int32} {E_se E_se' : Nat → Int32} {E_sn E_sn' : Int32} : (w_X5_addToSequence cI aE aE_li aW aS aC aA aL aE_se E_n' E_se' E_sn').map Prod.fst = (w_X5_addToSequence cI aE aE_li aW aS aC aA aL aE_se E_n E_se E_sn).map Prod.fst := rfl
abbrev rm_X5_addToSequence : Room := { frames := 0, cells := 0, slots := 0, locals := 0 }
def w_X5_codeAt (cI : ClassId) (aE aE_li aW aS aC aA aL aE_se : Nat) (E_n : Int32) (E_li : Nat → Int32) (E_sn : Int32) : va_W := [(aE, .inr (5, [.int E_n, .ref aE_li, .ref aW, .ref aS, .ref aC, .ref aA, .ref aL, .ref aE_se, .int E_sn])), (aE_li, .inl (cI, 100, .inl E_li))]
theorem wa_X5_codeAt {cI : ClassId} {aE aE_li aW aS aC aA aL aE_se : Nat} {E_n E_n' : Int32} {E_li E_li' : Nat → Int32} {E_sn E_sn' : Int32} : (w_X5_codeAt cI aE aE_li aW aS aC aA aL aE_se E_n' E_li' E_sn').map Prod.fst = (w_X5_codeAt cI aE aE_li aW aS aC aA aL aE_se E_n E_li E_sn).map Prod.fst := rfl
abbrev rm_X5_codeAt : Room := { frames := 0, cells := 0, slots := 0, locals := 0 }
def w_X5_collapsesNames (cJ : ClassId) (aS aS_ke aS_di aL aL_sh aL_wi aL_su aW aA aL_nk aL_gr aE aE_li aC aE_se : Nat) (S_st : Int32) (S_mi : Int32) (S_fi : Int32) (S_sp : Int32) (S_cl : Int32) (S_nu : Int32) (S_co : Int32) (L_nk : Nat → Int64) (E_n : Int32) (E_sn : Int32) : va_W := [(aS, .inr (6, [.int S_st, .int S_mi, .int S_fi, .int S_sp, .int S_cl, .int S_nu, .int S_co, .ref aS_ke, .ref aS_di])), (aL, .inr (3, [.ref aL_sh, .ref aL_wi, .ref aL_su, .ref aW, .ref aS, .ref aA, .ref aL_nk, .ref aL_gr])), (aL_nk, .inl (cJ, 8, .inr (.inl L_nk))), (aE, .inr (5, [.int E_n, .ref aE_li, .ref aW, .ref aS, .ref aC, .ref aA, .ref aL, .ref aE_se, .int E_sn]))]
theorem wa_X5_collapsesNames {cJ : ClassId} {aS aS_ke aS_di aL aL_sh aL_wi aL_su aW aA aL_nk aL_gr aE aE_li aC aE_se : Nat} {S_st S_st' : Int32} {S_mi S_mi' : Int32} {S_fi S_fi' : Int32} {S_sp S_sp' : Int32} {S_cl S_cl' : Int32} {S_nu S_nu' : Int32} {S_co S_co' : Int32} {L_nk L_nk' : Nat → Int64} {E_n E_n' : Int32} {E_sn E_sn' : Int32} : (w_X5_collapsesNames cJ aS aS_ke aS_di aL aL_sh aL_wi aL_su aW aA aL_nk aL_gr aE aE_li aC aE_se S_st' S_mi' S_fi' S_sp' S_cl' S_nu' S_co' L_nk' E_n' E_sn').map Prod.fst = (w_X5_collapsesNames cJ aS aS_ke aS_di aL aL_sh aL_wi aL_su aW aA aL_nk aL_gr aE aE_li aC aE_se S_st S_mi S_fi S_sp S_cl S_nu S_co L_nk E_n E_sn).map Prod.fst := rfl
abbrev rm_X5_collapsesNames : Room := { frames := 1, cells := 0, slots := 0, locals := 22 }
def w_X5_numberAt (cI : ClassId) (aA aA_or aA_nu aA_li aW aS aC aE aE_li aL aE_se : Nat) (A_nu : Nat → Int32) (E_n : Int32) (E_se : Nat → Int32) (E_sn : Int32) : va_W := [(aA, .inr (0, [.ref aA_or, .ref aA_nu, .ref aA_li, .ref aW, .ref aS, .ref aC])), (aA_nu, .inl (cI, 8, .inl A_nu)), (aE, .inr (5, [.int E_n, .ref aE_li, .ref aW, .ref aS, .ref aC, .ref aA, .ref aL, .ref aE_se, .int E_sn])), (aE_se, .inl (cI, 5, .inl E_se))]
theorem wa_X5_numberAt {cI : ClassId} {aA aA_or aA_nu aA_li aW aS aC aE aE_li aL aE_se : Nat} {A_nu A_nu' : Nat → Int32} {E_n E_n' : Int32} {E_se E_se' : Nat → Int32} {E_sn E_sn' : Int32} : (w_X5_numberAt cI aA aA_or aA_nu aA_li aW aS aC aE aE_li aL aE_se A_nu' E_n' E_se' E_sn').map Prod.fst = (w_X5_numberAt cI aA aA_or aA_nu aA_li aW aS aC aE aE_li aL aE_se A_nu E_n E_se E_sn).map Prod.fst := rfl
abbrev rm_X5_numberAt : Room := { frames := 0, cells := 0, slots := 0, locals := 0 }
def w_X5_putInSequence (cI : ClassId) (aW aW_ac aW_fa aW_in aW_yr aW_ti aS aS_ke aS_di aC aC_sz aC_cd aA aA_or aA_nu aA_li aE aE_li aL aE_se : Nat) (W_n : Int32) (S_st : Int32) (S_mi : Int32) (S_fi : Int32) (S_sp : Int32) (S_cl : Int32) (S_nu : Int32) (S_co : Int32) (C_n : Int32) (C_sz : Nat → Int32) (C_cd : Nat → Int32) (A_li : Nat → Int32) (E_n : Int32) (E_se : Nat → Int32) (E_sn : Int32) : va_W := [(aW, .inr (9, [.int W_n, .ref aW_ac, .ref aW_fa, .ref aW_in, .ref aW_yr, .ref aW_ti])), (aS, .inr (6, [.int S_st, .int S_mi, .int S_fi, .int S_sp, .int S_cl, .int S_nu, .int S_co, .ref aS_ke, .ref aS_di])), (aC, .inr (1, [.int C_n, .ref aC_sz, .ref aC_cd])), (aC_sz, .inl (cI, 10, .inl C_sz)), (aC_cd, .inl (cI, 50, .inl C_cd)), (aA, .inr (0, [.ref aA_or, .ref aA_nu, .ref aA_li, .ref aW, .ref aS, .ref aC])), (aA_li, .inl (cI, 8, .inl A_li)), (aE, .inr (5, [.int E_n, .ref aE_li, .ref aW, .ref aS, .ref aC, .ref aA, .ref aL, .ref aE_se, .int E_sn])), (aE_se, .inl (cI, 5, .inl E_se))]
theorem wa_X5_putInSequence {cI : ClassId} {aW aW_ac aW_fa aW_in aW_yr aW_ti aS aS_ke aS_di aC aC_sz aC_cd aA aA_or aA_nu aA_li aE aE_li aL aE_se : Nat} {W_n W_n' : Int32} {S_st S_st' : Int32} {S_mi S_mi' : Int32} {S_fi S_fi' : Int32} {S_sp S_sp' : Int32} {S_cl S_cl' : Int32} {S_nu S_nu' : Int32} {S_co S_co' : Int32} {C_n C_n' : Int32} {C_sz C_sz' : Nat → Int32} {C_cd C_cd' : Nat → Int32} {A_li A_li' : Nat → Int32} {E_n E_n' : Int32} {E_se E_se' : Nat → Int32} {E_sn E_sn' : Int32} : (w_X5_putInSequence cI aW aW_ac aW_fa aW_in aW_yr aW_ti aS aS_ke aS_di aC aC_sz aC_cd aA aA_or aA_nu aA_li aE aE_li aL aE_se W_n' S_st' S_mi' S_fi' S_sp' S_cl' S_nu' S_co' C_n' C_sz' C_cd' A_li' E_n' E_se' E_sn').map Prod.fst = (w_X5_putInSequence cI aW aW_ac aW_fa aW_in aW_yr aW_ti aS aS_ke aS_di aC aC_sz aC_cd aA aA_or aA_nu aA_li aE aE_li aL aE_se W_n S_st S_mi S_fi S_sp S_cl S_nu S_co C_n C_sz C_cd A_li E_n E_se E_sn).map Prod.fst := rfl
abbrev rm_X5_putInSequence : Room := { frames := 2, cells := 0, slots := 0, locals := 45 }
def w_X5_write (cI : ClassId) (aE aE_li aW aS aC aA aL aE_se : Nat) (E_n : Int32) (E_li : Nat → Int32) (E_sn : Int32) : va_W := [(aE, .inr (5, [.int E_n, .ref aE_li, .ref aW, .ref aS, .ref aC, .ref aA, .ref aL, .ref aE_se, .int E_sn])), (aE_li, .inl (cI, 100, .inl E_li))]
theorem wa_X5_write {cI : ClassId} {aE aE_li aW aS aC aA aL aE_se : Nat} {E_n E_n' : Int32} {E_li E_li' : Nat → Int32} {E_sn E_sn' : Int32} : (w_X5_write cI aE aE_li aW aS aC aA aL aE_se E_n' E_li' E_sn').map Prod.fst = (w_X5_write cI aE aE_li aW aS aC aA aL aE_se E_n E_li E_sn).map Prod.fst := rfl
abbrev rm_X5_write : Room := { frames := 0, cells := 0, slots := 0, locals := 0 }
def w_X5_repeatsNoteBefore (cI : ClassId) (aC aC_sz aC_cd aE aE_li aW aS aA aL aE_se : Nat) (C_n : Int32) (C_sz : Nat → Int32) (C_cd : Nat → Int32) (E_n : Int32) (E_se : Nat → Int32) (E_sn : Int32) : va_W := [(aC, .inr (1, [.int C_n, .ref aC_sz, .ref aC_cd])), (aC_sz, .inl (cI, 10, .inl C_sz)), (aC_cd, .inl (cI, 50, .inl C_cd)), (aE, .inr (5, [.int E_n, .ref aE_li, .ref aW, .ref aS, .ref aC, .ref aA, .ref aL, .ref aE_se, .int E_sn])), (aE_se, .inl (cI, 5, .inl E_se))]
theorem wa_X5_repeatsNoteBefore {cI : ClassId} {aC aC_sz aC_cd aE aE_li aW aS aA aL aE_se : Nat} {C_n C_n' : Int32} {C_sz C_sz' : Nat → Int32} {C_cd C_cd' : Nat → Int32} {E_n E_n' : Int32} {E_se E_se' : Nat → Int32} {E_sn E_sn' : Int32} : (w_X5_repeatsNoteBefore cI aC aC_sz aC_cd aE aE_li aW aS aA aL aE_se C_n' C_sz' C_cd' E_n' E_se' E_sn').map Prod.fst = (w_X5_repeatsNoteBefore cI aC aC_sz aC_cd aE aE_li aW aS aA aL aE_se C_n C_sz C_cd E_n E_se E_sn).map Prod.fst := rfl
abbrev rm_X5_repeatsNoteBefore : Room := { frames := 1, cells := 0, slots := 0, locals := 22 }
def w_X5_writeAuthors (cI : ClassId) (aW aW_ac aW_fa aW_in aW_yr aW_ti aE aE_li aS aC aA aL aE_se : Nat) (W_n : Int32) (W_fa : Nat → Int32) (W_in : Nat → Int32) (E_n : Int32) (E_li : Nat → Int32) (E_sn : Int32) : va_W := [(aW, .inr (9, [.int W_n, .ref aW_ac, .ref aW_fa, .ref aW_in, .ref aW_yr, .ref aW_ti])), (aW_fa, .inl (cI, 32, .inl W_fa)), (aW_in, .inl (cI, 32, .inl W_in)), (aE, .inr (5, [.int E_n, .ref aE_li, .ref aW, .ref aS, .ref aC, .ref aA, .ref aL, .ref aE_se, .int E_sn])), (aE_li, .inl (cI, 100, .inl E_li))]
theorem wa_X5_writeAuthors {cI : ClassId} {aW aW_ac aW_fa aW_in aW_yr aW_ti aE aE_li aS aC aA aL aE_se : Nat} {W_n W_n' : Int32} {W_fa W_fa' : Nat → Int32} {W_in W_in' : Nat → Int32} {E_n E_n' : Int32} {E_li E_li' : Nat → Int32} {E_sn E_sn' : Int32} : (w_X5_writeAuthors cI aW aW_ac aW_fa aW_in aW_yr aW_ti aE aE_li aS aC aA aL aE_se W_n' W_fa' W_in' E_n' E_li' E_sn').map Prod.fst = (w_X5_writeAuthors cI aW aW_ac aW_fa aW_in aW_yr aW_ti aE aE_li aS aC aA aL aE_se W_n W_fa W_in E_n E_li E_sn).map Prod.fst := rfl
abbrev rm_X5_writeAuthors : Room := { frames := 1, cells := 0, slots := 0, locals := 21 }
def w_X5_writeNames (cI : ClassId) (cZ : ClassId) (aW aW_ac aW_fa aW_in aW_yr aW_ti aL aL_sh aL_wi aL_su aS aA aL_nk aL_gr aE aE_li aC aE_se : Nat) (W_n : Int32) (W_ac : Nat → Int32) (W_fa : Nat → Int32) (W_in : Nat → Int32) (L_sh : Nat → Int32) (L_wi : Nat → Int32) (E_n : Int32) (E_li : Nat → Int32) (E_sn : Int32) : va_W := [(aW, .inr (9, [.int W_n, .ref aW_ac, .ref aW_fa, .ref aW_in, .ref aW_yr, .ref aW_ti])), (aW_ac, .inl (cI, 8, .inl W_ac)), (aW_fa, .inl (cI, 32, .inl W_fa)), (aW_in, .inl (cI, 32, .inl W_in)), (aL, .inr (3, [.ref aL_sh, .ref aL_wi, .ref aL_su, .ref aW, .ref aS, .ref aA, .ref aL_nk, .ref aL_gr])), (aL_sh, .inl (cI, 8, .inl L_sh)), (aL_wi, .inl (cZ, 8, .inl L_wi)), (aE, .inr (5, [.int E_n, .ref aE_li, .ref aW, .ref aS, .ref aC, .ref aA, .ref aL, .ref aE_se, .int E_sn])), (aE_li, .inl (cI, 100, .inl E_li))]
theorem wa_X5_writeNames {cI : ClassId} {cZ : ClassId} {aW aW_ac aW_fa aW_in aW_yr aW_ti aL aL_sh aL_wi aL_su aS aA aL_nk aL_gr aE aE_li aC aE_se : Nat} {W_n W_n' : Int32} {W_ac W_ac' : Nat → Int32} {W_fa W_fa' : Nat → Int32} {W_in W_in' : Nat → Int32} {L_sh L_sh' : Nat → Int32} {L_wi L_wi' : Nat → Int32} {E_n E_n' : Int32} {E_li E_li' : Nat → Int32} {E_sn E_sn' : Int32} : (w_X5_writeNames cI cZ aW aW_ac aW_fa aW_in aW_yr aW_ti aL aL_sh aL_wi aL_su aS aA aL_nk aL_gr aE aE_li aC aE_se W_n' W_ac' W_fa' W_in' L_sh' L_wi' E_n' E_li' E_sn').map Prod.fst = (w_X5_writeNames cI cZ aW aW_ac aW_fa aW_in aW_yr aW_ti aL aL_sh aL_wi aL_su aS aA aL_nk aL_gr aE aE_li aC aE_se W_n W_ac W_fa W_in L_sh L_wi E_n E_li E_sn).map Prod.fst := rfl
abbrev rm_X5_writeNames : Room := { frames := 2, cells := 0, slots := 0, locals := 45 }
def w_X5_writeDigit (cI : ClassId) (aE aE_li aW aS aC aA aL aE_se : Nat) (E_n : Int32) (E_li : Nat → Int32) (E_sn : Int32) : va_W := [(aE, .inr (5, [.int E_n, .ref aE_li, .ref aW, .ref aS, .ref aC, .ref aA, .ref aL, .ref aE_se, .int E_sn])), (aE_li, .inl (cI, 100, .inl E_li))]
theorem wa_X5_writeDigit {cI : ClassId} {aE aE_li aW aS aC aA aL aE_se : Nat} {E_n E_n' : Int32} {E_li E_li' : Nat → Int32} {E_sn E_sn' : Int32} : (w_X5_writeDigit cI aE aE_li aW aS aC aA aL aE_se E_n' E_li' E_sn').map Prod.fst = (w_X5_writeDigit cI aE aE_li aW aS aC aA aL aE_se E_n E_li E_sn).map Prod.fst := rfl
abbrev rm_X5_writeDigit : Room := { frames := 1, cells := 0, slots := 0, locals := 21 }
def w_X5_writeAllAuthors (cI : ClassId) (aW aW_ac aW_fa aW_in aW_yr aW_ti aE aE_li aS aC aA aL aE_se : Nat) (W_n : Int32) (W_ac : Nat → Int32) (W_fa : Nat → Int32) (W_in : Nat → Int32) (E_n : Int32) (E_li : Nat → Int32) (E_sn : Int32) : va_W := [(aW, .inr (9, [.int W_n, .ref aW_ac, .ref aW_fa, .ref aW_in, .ref aW_yr, .ref aW_ti])), (aW_ac, .inl (cI, 8, .inl W_ac)), (aW_fa, .inl (cI, 32, .inl W_fa)), (aW_in, .inl (cI, 32, .inl W_in)), (aE, .inr (5, [.int E_n, .ref aE_li, .ref aW, .ref aS, .ref aC, .ref aA, .ref aL, .ref aE_se, .int E_sn])), (aE_li, .inl (cI, 100, .inl E_li))]
theorem wa_X5_writeAllAuthors {cI : ClassId} {aW aW_ac aW_fa aW_in aW_yr aW_ti aE aE_li aS aC aA aL aE_se : Nat} {W_n W_n' : Int32} {W_ac W_ac' : Nat → Int32} {W_fa W_fa' : Nat → Int32} {W_in W_in' : Nat → Int32} {E_n E_n' : Int32} {E_li E_li' : Nat → Int32} {E_sn E_sn' : Int32} : (w_X5_writeAllAuthors cI aW aW_ac aW_fa aW_in aW_yr aW_ti aE aE_li aS aC aA aL aE_se W_n' W_ac' W_fa' W_in' E_n' E_li' E_sn').map Prod.fst = (w_X5_writeAllAuthors cI aW aW_ac aW_fa aW_in aW_yr aW_ti aE aE_li aS aC aA aL aE_se W_n W_ac W_fa W_in E_n E_li E_sn).map Prod.fst := rfl
abbrev rm_X5_writeAllAuthors : Room := { frames := 2, cells := 0, slots := 0, locals := 45 }
def w_X5_writeYear (cI : ClassId) (aW aW_ac aW_fa aW_in aW_yr aW_ti aE aE_li aS aC aA aL aE_se : Nat) (W_n : Int32) (W_yr : Nat → Int32) (E_n : Int32) (E_li : Nat → Int32) (E_sn : Int32) : va_W := [(aW, .inr (9, [.int W_n, .ref aW_ac, .ref aW_fa, .ref aW_in, .ref aW_yr, .ref aW_ti])), (aW_yr, .inl (cI, 8, .inl W_yr)), (aE, .inr (5, [.int E_n, .ref aE_li, .ref aW, .ref aS, .ref aC, .ref aA, .ref aL, .ref aE_se, .int E_sn])), (aE_li, .inl (cI, 100, .inl E_li))]
theorem wa_X5_writeYear {cI : ClassId} {aW aW_ac aW_fa aW_in aW_yr aW_ti aE aE_li aS aC aA aL aE_se : Nat} {W_n W_n' : Int32} {W_yr W_yr' : Nat → Int32} {E_n E_n' : Int32} {E_li E_li' : Nat → Int32} {E_sn E_sn' : Int32} : (w_X5_writeYear cI aW aW_ac aW_fa aW_in aW_yr aW_ti aE aE_li aS aC aA aL aE_se W_n' W_yr' E_n' E_li' E_sn').map Prod.fst = (w_X5_writeYear cI aW aW_ac aW_fa aW_in aW_yr aW_ti aE aE_li aS aC aA aL aE_se W_n W_yr E_n E_li E_sn).map Prod.fst := rfl
abbrev rm_X5_writeYear : Room := { frames := 2, cells := 0, slots := 0, locals := 42 }
def w_X5_writeNoted (cI : ClassId) (cZ : ClassId) (aW aW_ac aW_fa aW_in aW_yr aW_ti aC aC_sz aC_cd aL aL_sh aL_wi aL_su aS aA aL_nk aL_gr aE aE_li aE_se : Nat) (W_n : Int32) (W_ac : Nat → Int32) (W_fa : Nat → Int32) (W_in : Nat → Int32) (W_yr : Nat → Int32) (W_ti : Nat → Int32) (C_n : Int32) (C_sz : Nat → Int32) (C_cd : Nat → Int32) (L_sh : Nat → Int32) (L_wi : Nat → Int32) (E_n : Int32) (E_li : Nat → Int32) (E_sn : Int32) : va_W := [(aW, .inr (9, [.int W_n, .ref aW_ac, .ref aW_fa, .ref aW_in, .ref aW_yr, .ref aW_ti])), (aW_ac, .inl (cI, 8, .inl W_ac)), (aW_fa, .inl (cI, 32, .inl W_fa)), (aW_in, .inl (cI, 32, .inl W_in)), (aW_yr, .inl (cI, 8, .inl W_yr)), (aW_ti, .inl (cI, 8, .inl W_ti)), (aC, .inr (1, [.int C_n, .ref aC_sz, .ref aC_cd])), (aC_sz, .inl (cI, 10, .inl C_sz)), (aC_cd, .inl (cI, 50, .inl C_cd)), (aL, .inr (3, [.ref aL_sh, .ref aL_wi, .ref aL_su, .ref aW, .ref aS, .ref aA, .ref aL_nk, .ref aL_gr])), (aL_sh, .inl (cI, 8, .inl L_sh)), (aL_wi, .inl (cZ, 8, .inl L_wi)), (aE, .inr (5, [.int E_n, .ref aE_li, .ref aW, .ref aS, .ref aC, .ref aA, .ref aL, .ref aE_se, .int E_sn])), (aE_li, .inl (cI, 100, .inl E_li))]
theorem wa_X5_writeNoted {cI : ClassId} {cZ : ClassId} {aW aW_ac aW_fa aW_in aW_yr aW_ti aC aC_sz aC_cd aL aL_sh aL_wi aL_su aS aA aL_nk aL_gr aE aE_li aE_se : Nat} {W_n W_n' : Int32} {W_ac W_ac' : Nat → Int32} {W_fa W_fa' : Nat → Int32} {W_in W_in' : Nat → Int32} {W_yr W_yr' : Nat → Int32} {W_ti W_ti' : Nat → Int32} {C_n C_n' : Int32} {C_sz C_sz' : Nat → Int32} {C_cd C_cd' : Nat → Int32} {L_sh L_sh' : Nat → Int32} {L_wi L_wi' : Nat → Int32} {E_n E_n' : Int32} {E_li E_li' : Nat → Int32} {E_sn E_sn' : Int32} : (w_X5_writeNoted cI cZ aW aW_ac aW_fa aW_in aW_yr aW_ti aC aC_sz aC_cd aL aL_sh aL_wi aL_su aS aA aL_nk aL_gr aE aE_li aE_se W_n' W_ac' W_fa' W_in' W_yr' W_ti' C_n' C_sz' C_cd' L_sh' L_wi' E_n' E_li' E_sn').map Prod.fst = (w_X5_writeNoted cI cZ aW aW_ac aW_fa aW_in aW_yr aW_ti aC aC_sz aC_cd aL aL_sh aL_wi aL_su aS aA aL_nk aL_gr aE aE_li aE_se W_n W_ac W_fa W_in W_yr W_ti C_n C_sz C_cd L_sh L_wi E_n E_li E_sn).map Prod.fst := rfl
abbrev rm_X5_writeNoted : Room := { frames := 3, cells := 0, slots := 0, locals := 67 }
def w_X5_writeNote (cI : ClassId) (cZ : ClassId) (aW aW_ac aW_fa aW_in aW_yr aW_ti aC aC_sz aC_cd aL aL_sh aL_wi aL_su aS aA aL_nk aL_gr aE aE_li aE_se : Nat) (W_n : Int32) (W_ac : Nat → Int32) (W_fa : Nat → Int32) (W_in : Nat → Int32) (W_yr : Nat → Int32) (W_ti : Nat → Int32) (C_n : Int32) (C_sz : Nat → Int32) (C_cd : Nat → Int32) (L_sh : Nat → Int32) (L_wi : Nat → Int32) (E_n : Int32) (E_li : Nat → Int32) (E_se : Nat → Int32) (E_sn : Int32) : va_W := [(aW, .inr (9, [.int W_n, .ref aW_ac, .ref aW_fa, .ref aW_in, .ref aW_yr, .ref aW_ti])), (aW_ac, .inl (cI, 8, .inl W_ac)), (aW_fa, .inl (cI, 32, .inl W_fa)), (aW_in, .inl (cI, 32, .inl W_in)), (aW_yr, .inl (cI, 8, .inl W_yr)), (aW_ti, .inl (cI, 8, .inl W_ti)), (aC, .inr (1, [.int C_n, .ref aC_sz, .ref aC_cd])), (aC_sz, .inl (cI, 10, .inl C_sz)), (aC_cd, .inl (cI, 50, .inl C_cd)), (aL, .inr (3, [.ref aL_sh, .ref aL_wi, .ref aL_su, .ref aW, .ref aS, .ref aA, .ref aL_nk, .ref aL_gr])), (aL_sh, .inl (cI, 8, .inl L_sh)), (aL_wi, .inl (cZ, 8, .inl L_wi)), (aE, .inr (5, [.int E_n, .ref aE_li, .ref aW, .ref aS, .ref aC, .ref aA, .ref aL, .ref aE_se, .int E_sn])), (aE_li, .inl (cI, 100, .inl E_li)), (aE_se, .inl (cI, 5, .inl E_se))]
theorem wa_X5_writeNote {cI : ClassId} {cZ : ClassId} {aW aW_ac aW_fa aW_in aW_yr aW_ti aC aC_sz aC_cd aL aL_sh aL_wi aL_su aS aA aL_nk aL_gr aE aE_li aE_se : Nat} {W_n W_n' : Int32} {W_ac W_ac' : Nat → Int32} {W_fa W_fa' : Nat → Int32} {W_in W_in' : Nat → Int32} {W_yr W_yr' : Nat → Int32} {W_ti W_ti' : Nat → Int32} {C_n C_n' : Int32} {C_sz C_sz' : Nat → Int32} {C_cd C_cd' : Nat → Int32} {L_sh L_sh' : Nat → Int32} {L_wi L_wi' : Nat → Int32} {E_n E_n' : Int32} {E_li E_li' : Nat → Int32} {E_se E_se' : Nat → Int32} {E_sn E_sn' : Int32} : (w_X5_writeNote cI cZ aW aW_ac aW_fa aW_in aW_yr aW_ti aC aC_sz aC_cd aL aL_sh aL_wi aL_su aS aA aL_nk aL_gr aE aE_li aE_se W_n' W_ac' W_fa' W_in' W_yr' W_ti' C_n' C_sz' C_cd' L_sh' L_wi' E_n' E_li' E_se' E_sn').map Prod.fst = (w_X5_writeNote cI cZ aW aW_ac aW_fa aW_in aW_yr aW_ti aC aC_sz aC_cd aL aL_sh aL_wi aL_su aS aA aL_nk aL_gr aE aE_li aE_se W_n W_ac W_fa W_in W_yr W_ti C_n C_sz C_cd L_sh L_wi E_n E_li E_se E_sn).map Prod.fst := rfl
abbrev rm_X5_writeNote : Room := { frames := 4, cells := 0, slots := 0, locals := 90 }
def w_X5_runEnd (cI : ClassId) (aA aA_or aA_nu aA_li aW aS aC aE aE_li aL aE_se : Nat) (A_nu : Nat → Int32) (E_n : Int32) (E_se : Nat → Int32) (E_sn : Int32) : va_W := [(aA, .inr (0, [.ref aA_or, .ref aA_nu, .ref aA_li, .ref aW, .ref aS, .ref aC])), (aA_nu, .inl (cI, 8, .inl A_nu)), (aE, .inr (5, [.int E_n, .ref aE_li, .ref aW, .ref aS, .ref aC, .ref aA, .ref aL, .ref aE_se, .int E_sn])), (aE_se, .inl (cI, 5, .inl E_se))]
theorem wa_X5_runEnd {cI : ClassId} {aA aA_or aA_nu aA_li aW aS aC aE aE_li aL aE_se : Nat} {A_nu A_nu' : Nat → Int32} {E_n E_n' : Int32} {E_se E_se' : Nat → Int32} {E_sn E_sn' : Int32} : (w_X5_runEnd cI aA aA_or aA_nu aA_li aW aS aC aE aE_li aL aE_se A_nu' E_n' E_se' E_sn').map Prod.fst = (w_X5_runEnd cI aA aA_or aA_nu aA_li aW aS aC aE aE_li aL aE_se A_nu E_n E_se E_sn).map Prod.fst := rfl
abbrev rm_X5_runEnd : Room := { frames := 1, cells := 0, slots := 0, locals := 21 }
def w_X5_writeNumeric (cI : ClassId) (aS aS_ke aS_di aA aA_or aA_nu aA_li aW aC aE aE_li aL aE_se : Nat) (S_st : Int32) (S_mi : Int32) (S_fi : Int32) (S_sp : Int32) (S_cl : Int32) (S_nu : Int32) (S_co : Int32) (A_nu : Nat → Int32) (E_n : Int32) (E_li : Nat → Int32) (E_se : Nat → Int32) (E_sn : Int32) : va_W := [(aS, .inr (6, [.int S_st, .int S_mi, .int S_fi, .int S_sp, .int S_cl, .int S_nu, .int S_co, .ref aS_ke, .ref aS_di])), (aA, .inr (0, [.ref aA_or, .ref aA_nu, .ref aA_li, .ref aW, .ref aS, .ref aC])), (aA_nu, .inl (cI, 8, .inl A_nu)), (aE, .inr (5, [.int E_n, .ref aE_li, .ref aW, .ref aS, .ref aC, .ref aA, .ref aL, .ref aE_se, .int E_sn])), (aE_li, .inl (cI, 100, .inl E_li)), (aE_se, .inl (cI, 5, .inl E_se))]
theorem wa_X5_writeNumeric {cI : ClassId} {aS aS_ke aS_di aA aA_or aA_nu aA_li aW aC aE aE_li aL aE_se : Nat} {S_st S_st' : Int32} {S_mi S_mi' : Int32} {S_fi S_fi' : Int32} {S_sp S_sp' : Int32} {S_cl S_cl' : Int32} {S_nu S_nu' : Int32} {S_co S_co' : Int32} {A_nu A_nu' : Nat → Int32} {E_n E_n' : Int32} {E_li E_li' : Nat → Int32} {E_se E_se' : Nat → Int32} {E_sn E_sn' : Int32} : (w_X5_writeNumeric cI aS aS_ke aS_di aA aA_or aA_nu aA_li aW aC aE aE_li aL aE_se S_st' S_mi' S_fi' S_sp' S_cl' S_nu' S_co' A_nu' E_n' E_li' E_se' E_sn').map Prod.fst = (w_X5_writeNumeric cI aS aS_ke aS_di aA aA_or aA_nu aA_li aW aC aE aE_li aL aE_se S_st S_mi S_fi S_sp S_cl S_nu S_co A_nu E_n E_li E_se E_sn).map Prod.fst := rfl
abbrev rm_X5_writeNumeric : Room := { frames := 2, cells := 0, slots := 0, locals := 43 }
def w_X5_writeSuffix (cI : ClassId) (aL aL_sh aL_wi aL_su aW aS aA aL_nk aL_gr aE aE_li aC aE_se : Nat) (L_su : Nat → Int32) (E_n : Int32) (E_li : Nat → Int32) (E_sn : Int32) : va_W := [(aL, .inr (3, [.ref aL_sh, .ref aL_wi, .ref aL_su, .ref aW, .ref aS, .ref aA, .ref aL_nk, .ref aL_gr])), (aL_su, .inl (cI, 8, .inl L_su)), (aE, .inr (5, [.int E_n, .ref aE_li, .ref aW, .ref aS, .ref aC, .ref aA, .ref aL, .ref aE_se, .int E_sn])), (aE_li, .inl (cI, 100, .inl E_li))]
theorem wa_X5_writeSuffix {cI : ClassId} {aL aL_sh aL_wi aL_su aW aS aA aL_nk aL_gr aE aE_li aC aE_se : Nat} {L_su L_su' : Nat → Int32} {E_n E_n' : Int32} {E_li E_li' : Nat → Int32} {E_sn E_sn' : Int32} : (w_X5_writeSuffix cI aL aL_sh aL_wi aL_su aW aS aA aL_nk aL_gr aE aE_li aC aE_se L_su' E_n' E_li' E_sn').map Prod.fst = (w_X5_writeSuffix cI aL aL_sh aL_wi aL_su aW aS aA aL_nk aL_gr aE aE_li aC aE_se L_su E_n E_li E_sn).map Prod.fst := rfl
abbrev rm_X5_writeSuffix : Room := { frames := 1, cells := 0, slots := 0, locals := 21 }
def w_X5_writeCollapsed (cI : ClassId) (aW aW_ac aW_fa aW_in aW_yr aW_ti aS aS_ke aS_di aL aL_sh aL_wi aL_su aA aL_nk aL_gr aE aE_li aC aE_se : Nat) (W_n : Int32) (W_yr : Nat → Int32) (S_st : Int32) (S_mi : Int32) (S_fi : Int32) (S_sp : Int32) (S_cl : Int32) (S_nu : Int32) (S_co : Int32) (L_su : Nat → Int32) (E_n : Int32) (E_li : Nat → Int32) (E_sn : Int32) : va_W := [(aW, .inr (9, [.int W_n, .ref aW_ac, .ref aW_fa, .ref aW_in, .ref aW_yr, .ref aW_ti])), (aW_yr, .inl (cI, 8, .inl W_yr)), (aS, .inr (6, [.int S_st, .int S_mi, .int S_fi, .int S_sp, .int S_cl, .int S_nu, .int S_co, .ref aS_ke, .ref aS_di])), (aL, .inr (3, [.ref aL_sh, .ref aL_wi, .ref aL_su, .ref aW, .ref aS, .ref aA, .ref aL_nk, .ref aL_gr])), (aL_su, .inl (cI, 8, .inl L_su)), (aE, .inr (5, [.int E_n, .ref aE_li, .ref aW, .ref aS, .ref aC, .ref aA, .ref aL, .ref aE_se, .int E_sn])), (aE_li, .inl (cI, 100, .inl E_li))]
theorem wa_X5_writeCollapsed {cI : ClassId} {aW aW_ac aW_fa aW_in aW_yr aW_ti aS aS_ke aS_di aL aL_sh aL_wi aL_su aA aL_nk aL_gr aE aE_li aC aE_se : Nat} {W_n W_n' : Int32} {W_yr W_yr' : Nat → Int32} {S_st S_st' : Int32} {S_mi S_mi' : Int32} {S_fi S_fi' : Int32} {S_sp S_sp' : Int32} {S_cl S_cl' : Int32} {S_nu S_nu' : Int32} {S_co S_co' : Int32} {L_su L_su' : Nat → Int32} {E_n E_n' : Int32} {E_li E_li' : Nat → Int32} {E_sn E_sn' : Int32} : (w_X5_writeCollapsed cI aW aW_ac aW_fa aW_in aW_yr aW_ti aS aS_ke aS_di aL aL_sh aL_wi aL_su aA aL_nk aL_gr aE aE_li aC aE_se W_n' W_yr' S_st' S_mi' S_fi' S_sp' S_cl' S_nu' S_co' L_su' E_n' E_li' E_sn').map Prod.fst = (w_X5_writeCollapsed cI aW aW_ac aW_fa aW_in aW_yr aW_ti aS aS_ke aS_di aL aL_sh aL_wi aL_su aA aL_nk aL_gr aE aE_li aC aE_se W_n W_yr S_st S_mi S_fi S_sp S_cl S_nu S_co L_su E_n E_li E_sn).map Prod.fst := rfl
abbrev rm_X5_writeCollapsed : Room := { frames := 3, cells := 0, slots := 0, locals := 63 }
def w_X5_writeLabel (cI : ClassId) (cZ : ClassId) (aW aW_ac aW_fa aW_in aW_yr aW_ti aL aL_sh aL_wi aL_su aS aA aL_nk aL_gr aE aE_li aC aE_se : Nat) (W_n : Int32) (W_ac : Nat → Int32) (W_fa : Nat → Int32) (W_in : Nat → Int32) (W_yr : Nat → Int32) (L_sh : Nat → Int32) (L_wi : Nat → Int32) (L_su : Nat → Int32) (E_n : Int32) (E_li : Nat → Int32) (E_sn : Int32) : va_W := [(aW, .inr (9, [.int W_n, .ref aW_ac, .ref aW_fa, .ref aW_in, .ref aW_yr, .ref aW_ti])), (aW_ac, .inl (cI, 8, .inl W_ac)), (aW_fa, .inl (cI, 32, .inl W_fa)), (aW_in, .inl (cI, 32, .inl W_in)), (aW_yr, .inl (cI, 8, .inl W_yr)), (aL, .inr (3, [.ref aL_sh, .ref aL_wi, .ref aL_su, .ref aW, .ref aS, .ref aA, .ref aL_nk, .ref aL_gr])), (aL_sh, .inl (cI, 8, .inl L_sh)), (aL_wi, .inl (cZ, 8, .inl L_wi)), (aL_su, .inl (cI, 8, .inl L_su)), (aE, .inr (5, [.int E_n, .ref aE_li, .ref aW, .ref aS, .ref aC, .ref aA, .ref aL, .ref aE_se, .int E_sn])), (aE_li, .inl (cI, 100, .inl E_li))]
theorem wa_X5_writeLabel {cI : ClassId} {cZ : ClassId} {aW aW_ac aW_fa aW_in aW_yr aW_ti aL aL_sh aL_wi aL_su aS aA aL_nk aL_gr aE aE_li aC aE_se : Nat} {W_n W_n' : Int32} {W_ac W_ac' : Nat → Int32} {W_fa W_fa' : Nat → Int32} {W_in W_in' : Nat → Int32} {W_yr W_yr' : Nat → Int32} {L_sh L_sh' : Nat → Int32} {L_wi L_wi' : Nat → Int32} {L_su L_su' : Nat → Int32} {E_n E_n' : Int32} {E_li E_li' : Nat → Int32} {E_sn E_sn' : Int32} : (w_X5_writeLabel cI cZ aW aW_ac aW_fa aW_in aW_yr aW_ti aL aL_sh aL_wi aL_su aS aA aL_nk aL_gr aE aE_li aC aE_se W_n' W_ac' W_fa' W_in' W_yr' L_sh' L_wi' L_su' E_n' E_li' E_sn').map Prod.fst = (w_X5_writeLabel cI cZ aW aW_ac aW_fa aW_in aW_yr aW_ti aL aL_sh aL_wi aL_su aS aA aL_nk aL_gr aE aE_li aC aE_se W_n W_ac W_fa W_in W_yr L_sh L_wi L_su E_n E_li E_sn).map Prod.fst := rfl
abbrev rm_X5_writeLabel : Room := { frames := 3, cells := 0, slots := 0, locals := 66 }
def w_X5_writeAuthorYear (cI : ClassId) (cJ : ClassId) (cZ : ClassId) (aW aW_ac aW_fa aW_in aW_yr aW_ti aS aS_ke aS_di aL aL_sh aL_wi aL_su aA aL_nk aL_gr aE aE_li aC aE_se : Nat) (W_n : Int32) (W_ac : Nat → Int32) (W_fa : Nat → Int32) (W_in : Nat → Int32) (W_yr : Nat → Int32) (S_st : Int32) (S_mi : Int32) (S_fi : Int32) (S_sp : Int32) (S_cl : Int32) (S_nu : Int32) (S_co : Int32) (L_sh : Nat → Int32) (L_wi : Nat → Int32) (L_su : Nat → Int32) (L_nk : Nat → Int64) (E_n : Int32) (E_li : Nat → Int32) (E_se : Nat → Int32) (E_sn : Int32) : va_W := [(aW, .inr (9, [.int W_n, .ref aW_ac, .ref aW_fa, .ref aW_in, .ref aW_yr, .ref aW_ti])), (aW_ac, .inl (cI, 8, .inl W_ac)), (aW_fa, .inl (cI, 32, .inl W_fa)), (aW_in, .inl (cI, 32, .inl W_in)), (aW_yr, .inl (cI, 8, .inl W_yr)), (aS, .inr (6, [.int S_st, .int S_mi, .int S_fi, .int S_sp, .int S_cl, .int S_nu, .int S_co, .ref aS_ke, .ref aS_di])), (aL, .inr (3, [.ref aL_sh, .ref aL_wi, .ref aL_su, .ref aW, .ref aS, .ref aA, .ref aL_nk, .ref aL_gr])), (aL_sh, .inl (cI, 8, .inl L_sh)), (aL_wi, .inl (cZ, 8, .inl L_wi)), (aL_su, .inl (cI, 8, .inl L_su)), (aL_nk, .inl (cJ, 8, .inr (.inl L_nk))), (aE, .inr (5, [.int E_n, .ref aE_li, .ref aW, .ref aS, .ref aC, .ref aA, .ref aL, .ref aE_se, .int E_sn])), (aE_li, .inl (cI, 100, .inl E_li)), (aE_se, .inl (cI, 5, .inl E_se))]
theorem wa_X5_writeAuthorYear {cI : ClassId} {cJ : ClassId} {cZ : ClassId} {aW aW_ac aW_fa aW_in aW_yr aW_ti aS aS_ke aS_di aL aL_sh aL_wi aL_su aA aL_nk aL_gr aE aE_li aC aE_se : Nat} {W_n W_n' : Int32} {W_ac W_ac' : Nat → Int32} {W_fa W_fa' : Nat → Int32} {W_in W_in' : Nat → Int32} {W_yr W_yr' : Nat → Int32} {S_st S_st' : Int32} {S_mi S_mi' : Int32} {S_fi S_fi' : Int32} {S_sp S_sp' : Int32} {S_cl S_cl' : Int32} {S_nu S_nu' : Int32} {S_co S_co' : Int32} {L_sh L_sh' : Nat → Int32} {L_wi L_wi' : Nat → Int32} {L_su L_su' : Nat → Int32} {L_nk L_nk' : Nat → Int64} {E_n E_n' : Int32} {E_li E_li' : Nat → Int32} {E_se E_se' : Nat → Int32} {E_sn E_sn' : Int32} : (w_X5_writeAuthorYear cI cJ cZ aW aW_ac aW_fa aW_in aW_yr aW_ti aS aS_ke aS_di aL aL_sh aL_wi aL_su aA aL_nk aL_gr aE aE_li aC aE_se W_n' W_ac' W_fa' W_in' W_yr' S_st' S_mi' S_fi' S_sp' S_cl' S_nu' S_co' L_sh' L_wi' L_su' L_nk' E_n' E_li' E_se' E_sn').map Prod.fst = (w_X5_writeAuthorYear cI cJ cZ aW aW_ac aW_fa aW_in aW_yr aW_ti aS aS_ke aS_di aL aL_sh aL_wi aL_su aA aL_nk aL_gr aE aE_li aC aE_se W_n W_ac W_fa W_in W_yr S_st S_mi S_fi S_sp S_cl S_nu S_co L_sh L_wi L_su L_nk E_n E_li E_se E_sn).map Prod.fst := rfl
abbrev rm_X5_writeAuthorYear : Room := { frames := 4, cells := 0, slots := 0, locals := 87 }
def w_X5_renderCitation (cI : ClassId) (cJ : ClassId) (cZ : ClassId) (aW aW_ac aW_fa aW_in aW_yr aW_ti aS aS_ke aS_di aC aC_sz aC_cd aA aA_or aA_nu aA_li aL aL_sh aL_wi aL_su aL_nk aL_gr aE aE_li aE_se : Nat) (W_n : Int32) (W_ac : Nat → Int32) (W_fa : Nat → Int32) (W_in : Nat → Int32) (W_yr : Nat → Int32) (W_ti : Nat → Int32) (S_st : Int32) (S_mi : Int32) (S_fi : Int32) (S_sp : Int32) (S_cl : Int32) (S_nu : Int32) (S_co : Int32) (C_n : Int32) (C_sz : Nat → Int32) (C_cd : Nat → Int32) (A_nu : Nat → Int32) (A_li : Nat → Int32) (L_sh : Nat → Int32) (L_wi : Nat → Int32) (L_su : Nat → Int32) (L_nk : Nat → Int64) (E_n : Int32) (E_li : Nat → Int32) (E_se : Nat → Int32) (E_sn : Int32) : va_W := [(aW, .inr (9, [.int W_n, .ref aW_ac, .ref aW_fa, .ref aW_in, .ref aW_yr, .ref aW_ti])), (aW_ac, .inl (cI, 8, .inl W_ac)), (aW_fa, .inl (cI, 32, .inl W_fa)), (aW_in, .inl (cI, 32, .inl W_in)), (aW_yr, .inl (cI, 8, .inl W_yr)), (aW_ti, .inl (cI, 8, .inl W_ti)), (aS, .inr (6, [.int S_st, .int S_mi, .int S_fi, .int S_sp, .int S_cl, .int S_nu, .int S_co, .ref aS_ke, .ref aS_di])), (aC, .inr (1, [.int C_n, .ref aC_sz, .ref aC_cd])), (aC_sz, .inl (cI, 10, .inl C_sz)), (aC_cd, .inl (cI, 50, .inl C_cd)), (aA, .inr (0, [.ref aA_or, .ref aA_nu, .ref aA_li, .ref aW, .ref aS, .ref aC])), (aA_nu, .inl (cI, 8, .inl A_nu)), (aA_li, .inl (cI, 8, .inl A_li)), (aL, .inr (3, [.ref aL_sh, .ref aL_wi, .ref aL_su, .ref aW, .ref aS, .ref aA, .ref aL_nk, .ref aL_gr])), (aL_sh, .inl (cI, 8, .inl L_sh)), (aL_wi, .inl (cZ, 8, .inl L_wi)), (aL_su, .inl (cI, 8, .inl L_su)), (aL_nk, .inl (cJ, 8, .inr (.inl L_nk))), (aE, .inr (5, [.int E_n, .ref aE_li, .ref aW, .ref aS, .ref aC, .ref aA, .ref aL, .ref aE_se, .int E_sn])), (aE_li, .inl (cI, 100, .inl E_li)), (aE_se, .inl (cI, 5, .inl E_se))]
theorem wa_X5_renderCitation {cI : ClassId} {cJ : ClassId} {cZ : ClassId} {aW aW_ac aW_fa aW_in aW_yr aW_ti aS aS_ke aS_di aC aC_sz aC_cd aA aA_or aA_nu aA_li aL aL_sh aL_wi aL_su aL_nk aL_gr aE aE_li aE_se : Nat} {W_n W_n' : Int32} {W_ac W_ac' : Nat → Int32} {W_fa W_fa' : Nat → Int32} {W_in W_in' : Nat → Int32} {W_yr W_yr' : Nat → Int32} {W_ti W_ti' : Nat → Int32} {S_st S_st' : Int32} {S_mi S_mi' : Int32} {S_fi S_fi' : Int32} {S_sp S_sp' : Int32} {S_cl S_cl' : Int32} {S_nu S_nu' : Int32} {S_co S_co' : Int32} {C_n C_n' : Int32} {C_sz C_sz' : Nat → Int32} {C_cd C_cd' : Nat → Int32} {A_nu A_nu' : Nat → Int32} {A_li A_li' : Nat → Int32} {L_sh L_sh' : Nat → Int32} {L_wi L_wi' : Nat → Int32} {L_su L_su' : Nat → Int32} {L_nk L_nk' : Nat → Int64} {E_n E_n' : Int32} {E_li E_li' : Nat → Int32} {E_se E_se' : Nat → Int32} {E_sn E_sn' : Int32} : (w_X5_renderCitation cI cJ cZ aW aW_ac aW_fa aW_in aW_yr aW_ti aS aS_ke aS_di aC aC_sz aC_cd aA aA_or aA_nu aA_li aL aL_sh aL_wi aL_su aL_nk aL_gr aE aE_li aE_se W_n' W_ac' W_fa' W_in' W_yr' W_ti' S_st' S_mi' S_fi' S_sp' S_cl' S_nu' S_co' C_n' C_sz' C_cd' A_nu' A_li' L_sh' L_wi' L_su' L_nk' E_n' E_li' E_se' E_sn').map Prod.fst = (w_X5_renderCitation cI cJ cZ aW aW_ac aW_fa aW_in aW_yr aW_ti aS aS_ke aS_di aC aC_sz aC_cd aA aA_or aA_nu aA_li aL aL_sh aL_wi aL_su aL_nk aL_gr aE aE_li aE_se W_n W_ac W_fa W_in W_yr W_ti S_st S_mi S_fi S_sp S_cl S_nu S_co C_n C_sz C_cd A_nu A_li L_sh L_wi L_su L_nk E_n E_li E_se E_sn).map Prod.fst := rfl
abbrev rm_X5_renderCitation : Room := { frames := 5, cells := 0, slots := 0, locals := 112 }
def w_X5_renderEntry (cI : ClassId) (aW aW_ac aW_fa aW_in aW_yr aW_ti aS aS_ke aS_di aA aA_or aA_nu aA_li aC aL aL_sh aL_wi aL_su aL_nk aL_gr aE aE_li aE_se : Nat) (W_n : Int32) (W_ac : Nat → Int32) (W_fa : Nat → Int32) (W_in : Nat → Int32) (W_yr : Nat → Int32) (W_ti : Nat → Int32) (S_st : Int32) (S_mi : Int32) (S_fi : Int32) (S_sp : Int32) (S_cl : Int32) (S_nu : Int32) (S_co : Int32) (A_nu : Nat → Int32) (L_su : Nat → Int32) (E_n : Int32) (E_li : Nat → Int32) (E_sn : Int32) : va_W := [(aW, .inr (9, [.int W_n, .ref aW_ac, .ref aW_fa, .ref aW_in, .ref aW_yr, .ref aW_ti])), (aW_ac, .inl (cI, 8, .inl W_ac)), (aW_fa, .inl (cI, 32, .inl W_fa)), (aW_in, .inl (cI, 32, .inl W_in)), (aW_yr, .inl (cI, 8, .inl W_yr)), (aW_ti, .inl (cI, 8, .inl W_ti)), (aS, .inr (6, [.int S_st, .int S_mi, .int S_fi, .int S_sp, .int S_cl, .int S_nu, .int S_co, .ref aS_ke, .ref aS_di])), (aA, .inr (0, [.ref aA_or, .ref aA_nu, .ref aA_li, .ref aW, .ref aS, .ref aC])), (aA_nu, .inl (cI, 8, .inl A_nu)), (aL, .inr (3, [.ref aL_sh, .ref aL_wi, .ref aL_su, .ref aW, .ref aS, .ref aA, .ref aL_nk, .ref aL_gr])), (aL_su, .inl (cI, 8, .inl L_su)), (aE, .inr (5, [.int E_n, .ref aE_li, .ref aW, .ref aS, .ref aC, .ref aA, .ref aL, .ref aE_se, .int E_sn])), (aE_li, .inl (cI, 100, .inl E_li))]
theorem wa_X5_renderEntry {cI : ClassId} {aW aW_ac aW_fa aW_in aW_yr aW_ti aS aS_ke aS_di aA aA_or aA_nu aA_li aC aL aL_sh aL_wi aL_su aL_nk aL_gr aE aE_li aE_se : Nat} {W_n W_n' : Int32} {W_ac W_ac' : Nat → Int32} {W_fa W_fa' : Nat → Int32} {W_in W_in' : Nat → Int32} {W_yr W_yr' : Nat → Int32} {W_ti W_ti' : Nat → Int32} {S_st S_st' : Int32} {S_mi S_mi' : Int32} {S_fi S_fi' : Int32} {S_sp S_sp' : Int32} {S_cl S_cl' : Int32} {S_nu S_nu' : Int32} {S_co S_co' : Int32} {A_nu A_nu' : Nat → Int32} {L_su L_su' : Nat → Int32} {E_n E_n' : Int32} {E_li E_li' : Nat → Int32} {E_sn E_sn' : Int32} : (w_X5_renderEntry cI aW aW_ac aW_fa aW_in aW_yr aW_ti aS aS_ke aS_di aA aA_or aA_nu aA_li aC aL aL_sh aL_wi aL_su aL_nk aL_gr aE aE_li aE_se W_n' W_ac' W_fa' W_in' W_yr' W_ti' S_st' S_mi' S_fi' S_sp' S_cl' S_nu' S_co' A_nu' L_su' E_n' E_li' E_sn').map Prod.fst = (w_X5_renderEntry cI aW aW_ac aW_fa aW_in aW_yr aW_ti aS aS_ke aS_di aA aA_or aA_nu aA_li aC aL aL_sh aL_wi aL_su aL_nk aL_gr aE aE_li aE_se W_n W_ac W_fa W_in W_yr W_ti S_st S_mi S_fi S_sp S_cl S_nu S_co A_nu L_su E_n E_li E_sn).map Prod.fst := rfl
abbrev rm_X5_renderEntry : Room := { frames := 3, cells := 0, slots := 0, locals := 66 }
set_option maxHeartbeats 4000000 in
set_option maxRecDepth 100000 in
theorem c_X5_addToSequence (l : Launch) (D : va_G) (cI cJ cZ cS : ClassId) (aE aE_li aW aS aC aA aL aE_se : Nat) (E_n : Int32) (E_se : Nat → Int32) (E_sn : Int32) (x1 : Int32) (o : (Nat → Int32) × Int32) (hm : m_X5_addToSequence E_se E_sn x1 = some o) : MV l yX5_addToSequence wsX5_addToSequence rm_X5_addToSequence D (TY cI cJ cZ cS) [.ref aE, .int x1] (w_X5_addToSequence cI aE aE_li aW aS aC aA aL aE_se E_n E_se E_sn) (w_X5_addToSequence cI aE aE_li aW aS aC aA aL aE_se E_n o.1 o.2) := by
  refine MV_of (cc := cX5_addToSequence) (maxL := 2) (by decide) rfl (Nat.le_of_ble_eq_true rfl) ?_
  intro p e s m args below meth c A Q ls H locs hx hb hml hts hown hK hA hP hD hS hl hret
  have hown : s.vm.findClass RX5 = some m.cls := hown
  have hKv : va_K D vwCl (TY cI cJ cZ cS) s := hK.1
  have hl : lv_has ls 2 [(0, .ref aE), (1, .int x1)] := hl
  have S : CallFix p m c cX5_addToSequence 2 s args wsX5_addToSequence RX5 := ⟨hx, hb, hml, hown, hts⟩
  have k1 := hts (.fieldLink RX5 22 "CitationFormatter$Renderer" "sequenceSize" "I") (by decide +kernel)
  have k2 : ∀ w ∈ wsX50, w ∈ wsX5_addToSequence := by decide +kernel
  have k3 := hts (.fieldLink RX5 19 "CitationFormatter$Renderer" "sequence" "[I") (by decide +kernel)
  have J28 : ∀ (E_se_j28 : Nat → Int32) (E_sn_j28 : Int32), (m_X5_addToSequence_J28 E_se_j28 E_sn_j28 = some o) → ∀ (H : Heap) (locs : List Loc) (ls : Array Slot), va_P D vwCl (w_X5_addToSequence cI aE aE_li aW aS aC aA aL aE_se E_n E_se_j28 E_sn_j28) H → va_D A (w_X5_addToSequence cI aE aE_li aW aS aC aA aL aE_se E_n E_se_j28 E_sn_j28) → va_S A s.heap H locs → lv_has ls 2 [(0, .ref aE)] → W p l e rm_X5_addToSequence s m args below meth c H locs 0 0 Q (F0 m 28 ls []) := by
    intro E_se_j28 E_sn_j28 hm H locs ls hP hD hS hl
    have h9 := Option.some.inj hm
    subst h9
    exact hret H locs _ ls hP hD hS dX5_addToSequence_28
  refine lv_aload_n hx hb dX5_addToSequence_0 rfl (lv_at hl 0 rfl) ?_
  refine va_get (D := D) (ci := 5) (v := .int E_sn) (C := RX5) (T := TX5) (N := 9) hx hb hts k2 hown hKv hP 0 rfl rfl 8 (by decide) k1 (fun _ h9 => h9) rfl dX5_addToSequence_1 ?_
  refine lv_iconst (v := 5) hx hb dX5_addToSequence_4 (by decide) ?_
  refine lv_icmp_ge (tgt := 28) hx hb dX5_addToSequence_5 (by decide) (fun c1 => ?_) (fun c1 => ?_)
  · replace hm := if_t c1 hm
    exact J28 E_se E_sn hm H locs ls hP hD hS (lv_sub hl [0] rfl)
  · replace hm := if_f c1 hm
    refine lv_aload_n hx hb dX5_addToSequence_8 rfl (lv_at hl 0 rfl) ?_
    refine va_get (D := D) (ci := 5) (v := .ref aE_se) (C := RX5) (T := TX5) (N := 9) hx hb hts k2 hown hKv hP 0 rfl rfl 7 (by decide) k3 (fun _ h9 => h9) rfl dX5_addToSequence_9 ?_
    refine lv_aload_n hx hb dX5_addToSequence_12 rfl (lv_at hl 0 rfl) ?_
    refine va_get (D := D) (ci := 5) (v := .int E_sn) (C := RX5) (T := TX5) (N := 9) hx hb hts k2 hown hKv hP 0 rfl rfl 8 (by decide) k1 (fun _ h9 => h9) rfl dX5_addToSequence_13 ?_
    refine lv_iload_n hx hb dX5_addToSequence_16 rfl (lv_at hl 1 rfl) ?_
    replace hm := ck_some hm
    obtain ⟨h2, hm⟩ := hm
    refine va_iast hx hb hKv hP hD hS 1 0 rfl rfl h2 dX5_addToSequence_17 (fun H locs hP hD hS => ?_)
    replace hP : va_P D vwCl (w_X5_addToSequence cI aE aE_li aW aS aC aA aL aE_se E_n (upd E_se (Int32.toNatClampNeg E_sn) x1) E_sn) H := hP
    replace hD : va_D A (w_X5_addToSequence cI aE aE_li aW aS aC aA aL aE_se E_n (upd E_se (Int32.toNatClampNeg E_sn) x1) E_sn) := hD
    refine lv_aload_n hx hb dX5_addToSequence_18 rfl (lv_at hl 0 rfl) ?_
    refine lv_dup hx hb dX5_addToSequence_19 rfl ?_
    refine va_get (D := D) (ci := 5) (v := .int E_sn) (C := RX5) (T := TX5) (N := 9) hx hb hts k2 hown hKv hP 0 rfl rfl 8 (by decide) k1 (fun _ h9 => h9) rfl dX5_addToSequence_20 ?_
    refine lv_iconst (v := 1) hx hb dX5_addToSequence_23 (by decide) ?_
    refine lv_iadd hx hb dX5_addToSequence_24 ?_
    refine va_put (D := D) (ci := 5) (v := .int (E_sn + 1)) (ty := .int) (C := RX5) (T := TX5) (N := 9) hx hb hts k2 tyX5 tyX5_ok nmX5 hown hKv hP hD hS 0 rfl rfl 8 (by decide) k1 (fun _ h9 => h9) rfl (by decide +kernel) rfl rfl (Nat.le_of_ble_eq_true rfl) dX5_addToSequence_25 (fun H locs hP hD hS => ?_)
    replace hP : va_P D vwCl (w_X5_addToSequence cI aE aE_li aW aS aC aA aL aE_se E_n (upd E_se (Int32.toNatClampNeg E_sn) x1) (E_sn + 1)) H := hP
    replace hD : va_D A (w_X5_addToSequence cI aE aE_li aW aS aC aA aL aE_se E_n (upd E_se (Int32.toNatClampNeg E_sn) x1) (E_sn + 1)) := hD
    exact J28 (upd E_se (Int32.toNatClampNeg E_sn) x1) (E_sn + 1) hm H locs ls hP hD hS (lv_sub hl [0] rfl)
set_option maxHeartbeats 4000000 in
set_option maxRecDepth 100000 in
theorem c_X5_codeAt (l : Launch) (D : va_G) (cI cJ cZ cS : ClassId) (aE aE_li aW aS aC aA aL aE_se : Nat) (E_n : Int32) (E_li : Nat → Int32) (E_sn : Int32) (x1 : Int32) (o : Int32) (hm : m_X5_codeAt E_n E_li x1 = some o) : MI l yX5_codeAt wsX5_codeAt rm_X5_codeAt D (TY cI cJ cZ cS) [.ref aE, .int x1] (w_X5_codeAt cI aE aE_li aW aS aC aA aL aE_se E_n E_li E_sn) (w_X5_codeAt cI aE aE_li aW aS aC aA aL aE_se E_n E_li E_sn) (o) := by
  refine MI_of (cc := cX5_codeAt) (maxL := 2) (by decide) rfl (Nat.le_of_ble_eq_true rfl) ?_
  intro p e s m args below meth c A Q ls H locs hx hb hml hts hown hK hA hP hD hS hl hret
  have hown : s.vm.findClass RX5 = some m.cls := hown
  have hKv : va_K D vwCl (TY cI cJ cZ cS) s := hK.1
  have hl : lv_has ls 2 [(0, .ref aE), (1, .int x1)] := hl
  have S : CallFix p m c cX5_codeAt 2 s args wsX5_codeAt RX5 := ⟨hx, hb, hml, hown, hts⟩
  have k1 := hts (.fieldLink RX5 9 "CitationFormatter$Renderer" "length" "I") (by decide +kernel)
  have k2 : ∀ w ∈ wsX50, w ∈ wsX5_codeAt := by decide +kernel
  have k3 := hts (.fieldLink RX5 15 "CitationFormatter$Renderer" "line" "[I") (by decide +kernel)
  have J23 : ∀ (y0_j23 : Int32), (m_X5_codeAt_J23 y0_j23 = some o) → ∀ (H : Heap) (locs : List Loc) (ls : Array Slot), va_P D vwCl (w_X5_codeAt cI aE aE_li aW aS aC aA aL aE_se E_n E_li E_sn) H → va_D A (w_X5_codeAt cI aE aE_li aW aS aC aA aL aE_se E_n E_li E_sn) → va_S A s.heap H locs → lv_has ls 2 [(0, .ref aE)] → W p l e rm_X5_codeAt s m args below meth c H locs 0 0 Q (F0 m 23 ls [.int y0_j23]) := by
    intro y0_j23 hm H locs ls hP hD hS hl
    have h9 := Option.some.inj hm
    subst h9
    exact hret H locs _ ls _ hP hD hS rfl dX5_codeAt_23
  have J21 : (m_X5_codeAt_J21 = some o) → ∀ (H : Heap) (locs : List Loc) (ls : Array Slot), va_P D vwCl (w_X5_codeAt cI aE aE_li aW aS aC aA aL aE_se E_n E_li E_sn) H → va_D A (w_X5_codeAt cI aE aE_li aW aS aC aA aL aE_se E_n E_li E_sn) → va_S A s.heap H locs → lv_has ls 2 [(0, .ref aE)] → W p l e rm_X5_codeAt s m args below meth c H locs 0 0 Q (F0 m 21 ls []) := by
    intro  hm H locs ls hP hD hS hl
    refine lv_bipush (v := (-9)) hx hb dX5_codeAt_21 (by decide) ?_
    exact J23 (-9) hm H locs ls hP hD hS (lv_sub hl [0] rfl)
  refine lv_iload_n hx hb dX5_codeAt_0 rfl (lv_at hl 1 rfl) ?_
  refine lv_if_lt (tgt := 21) hx hb dX5_codeAt_1 (by decide) (fun c1 => ?_) (fun c1 => ?_)
  · replace hm := if_t c1 hm
    exact J21  hm H locs ls hP hD hS (lv_sub hl [0] rfl)
  · replace hm := if_f c1 hm
    refine lv_iload_n hx hb dX5_codeAt_4 rfl (lv_at hl 1 rfl) ?_
    refine lv_aload_n hx hb dX5_codeAt_5 rfl (lv_at hl 0 rfl) ?_
    refine va_get (D := D) (ci := 5) (v := .int E_n) (C := RX5) (T := TX5) (N := 9) hx hb hts k2 hown hKv hP 0 rfl rfl 0 (by decide) k1 (fun _ h9 => h9) rfl dX5_codeAt_6 ?_
    refine lv_icmp_ge (tgt := 21) hx hb dX5_codeAt_9 (by decide) (fun c2 => ?_) (fun c2 => ?_)
    · replace hm := if_t c2 hm
      exact J21  hm H locs ls hP hD hS (lv_sub hl [0] rfl)
    · replace hm := if_f c2 hm
      refine lv_aload_n hx hb dX5_codeAt_12 rfl (lv_at hl 0 rfl) ?_
      refine va_get (D := D) (ci := 5) (v := .ref aE_li) (C := RX5) (T := TX5) (N := 9) hx hb hts k2 hown hKv hP 0 rfl rfl 1 (by decide) k3 (fun _ h9 => h9) rfl dX5_codeAt_13 ?_
      refine lv_iload_n hx hb dX5_codeAt_16 rfl (lv_at hl 1 rfl) ?_
      replace hm := ck_some hm
      obtain ⟨h3, hm⟩ := hm
      refine va_iald hx hb hKv hP 1 0 rfl rfl h3 dX5_codeAt_17 ?_
      refine lv_goto (tgt := 23) hx hb dX5_codeAt_18 (by decide) ?_
      exact J23 (E_li (Int32.toNatClampNeg x1)) hm H locs ls hP hD hS (lv_sub hl [0] rfl)
set_option maxHeartbeats 4000000 in
set_option maxRecDepth 100000 in
theorem c_X5_collapsesNames (l : Launch) (D : va_G) (cI cJ cZ cS : ClassId) (aS aS_ke aS_di aL aL_sh aL_wi aL_su aW aA aL_nk aL_gr aE aE_li aC aE_se : Nat) (S_st : Int32) (S_mi : Int32) (S_fi : Int32) (S_sp : Int32) (S_cl : Int32) (S_nu : Int32) (S_co : Int32) (L_nk : Nat → Int64) (E_n : Int32) (E_sn : Int32) (x1 : Int32) (x2 : Int32) (o : Int32) (hm : m_X5_collapsesNames S_cl L_nk x1 x2 = some o) : MI l yX5_collapsesNames wsX5_collapsesNames rm_X5_collapsesNames D (TY cI cJ cZ cS) [.ref aE, .int x1, .int x2] (w_X5_collapsesNames cJ aS aS_ke aS_di aL aL_sh aL_wi aL_su aW aA aL_nk aL_gr aE aE_li aC aE_se S_st S_mi S_fi S_sp S_cl S_nu S_co L_nk E_n E_sn) (w_X5_collapsesNames cJ aS aS_ke aS_di aL aL_sh aL_wi aL_su aW aA aL_nk aL_gr aE aE_li aC aE_se S_st S_mi S_fi S_sp S_cl S_nu S_co L_nk E_n E_sn) (o) := by
  refine MZ_of (cc := cX5_collapsesNames) (maxL := 3) (by decide) rfl (Nat.le_of_ble_eq_true rfl) ?_
  intro p e s m args below meth c A Q ls H locs hx hb hml hts hown hK hA hP hD hS hl hret
  have hown : s.vm.findClass RX5 = some m.cls := hown
  have hKv : va_K D vwCl (TY cI cJ cZ cS) s := hK.1
  have hl : lv_has ls 3 [(0, .ref aE), (1, .int x1), (2, .int x2)] := hl
  have S : CallFix p m c cX5_collapsesNames 3 s args wsX5_collapsesNames RX5 := ⟨hx, hb, hml, hown, hts⟩
  have k1 := hts (.fieldLink RX5 36 "CitationFormatter$Renderer" "settings" "LCitationFormatter$Settings;") (by decide +kernel)
  have k2 : ∀ w ∈ wsX50, w ∈ wsX5_collapsesNames := by decide +kernel
  have k3 := hts (.fieldLink RX5 128 "CitationFormatter$Settings" "collapseLevel" "I") (by decide +kernel)
  have k4 : ∀ w ∈ wsX60, w ∈ wsX5_collapsesNames := by decide +kernel
  have k5 := hts (.fieldLink RX5 46 "CitationFormatter$Renderer" "labels" "LCitationFormatter$Labels;") (by decide +kernel)
  have k6 : CallW rm_X5_collapsesNames s args RX5 RX3 131 yX3_sameNames cX3_sameNames 3 (some .boolean) wsX3_sameNames rm_X3_sameNames 0 0 2 := cwV 2 hts gX5_collapsesNames_X3_sameNames rfl rfl rfl (by decide +kernel) ⟨Nat.le_of_ble_eq_true rfl, Nat.le_of_ble_eq_true rfl⟩
  have J27 : ∀ (y0_j27 : Int32), (m_X5_collapsesNames_J27 y0_j27 = some o) → ∀ (H : Heap) (locs : List Loc) (ls : Array Slot), va_P D vwCl (w_X5_collapsesNames cJ aS aS_ke aS_di aL aL_sh aL_wi aL_su aW aA aL_nk aL_gr aE aE_li aC aE_se S_st S_mi S_fi S_sp S_cl S_nu S_co L_nk E_n E_sn) H → va_D A (w_X5_collapsesNames cJ aS aS_ke aS_di aL aL_sh aL_wi aL_su aW aA aL_nk aL_gr aE aE_li aC aE_se S_st S_mi S_fi S_sp S_cl S_nu S_co L_nk E_n E_sn) → va_S A s.heap H locs → lv_has ls 3 [(0, .ref aE)] → W p l e rm_X5_collapsesNames s m args below meth c H locs 0 0 Q (F0 m 27 ls [.int y0_j27]) := by
    intro y0_j27 hm H locs ls hP hD hS hl
    replace hm := ckb_some hm
    obtain ⟨h1, hm⟩ := hm
    have h9 := Option.some.inj hm
    subst h9
    exact hret H locs _ ls _ h1 hP hD hS rfl dX5_collapsesNames_27
  have J26 : (m_X5_collapsesNames_J26 = some o) → ∀ (H : Heap) (locs : List Loc) (ls : Array Slot), va_P D vwCl (w_X5_collapsesNames cJ aS aS_ke aS_di aL aL_sh aL_wi aL_su aW aA aL_nk aL_gr aE aE_li aC aE_se S_st S_mi S_fi S_sp S_cl S_nu S_co L_nk E_n E_sn) H → va_D A (w_X5_collapsesNames cJ aS aS_ke aS_di aL aL_sh aL_wi aL_su aW aA aL_nk aL_gr aE aE_li aC aE_se S_st S_mi S_fi S_sp S_cl S_nu S_co L_nk E_n E_sn) → va_S A s.heap H locs → lv_has ls 3 [(0, .ref aE)] → W p l e rm_X5_collapsesNames s m args below meth c H locs 0 0 Q (F0 m 26 ls []) := by
    intro  hm H locs ls hP hD hS hl
    refine lv_iconst (v := 0) hx hb dX5_collapsesNames_26 (by decide) ?_
    exact J27 0 hm H locs ls hP hD hS (lv_sub hl [0] rfl)
  refine lv_aload_n hx hb dX5_collapsesNames_0 rfl (lv_at hl 0 rfl) ?_
  refine va_get (D := D) (ci := 5) (v := .ref aS) (C := RX5) (T := TX5) (N := 9) hx hb hts k2 hown hKv hP 3 rfl rfl 3 (by decide) k1 (fun _ h9 => h9) rfl dX5_collapsesNames_1 ?_
  refine va_get (D := D) (ci := 6) (v := .int S_cl) (C := RX6) (T := TX6) (N := 9) hx hb hts k4 hown hKv hP 0 rfl rfl 4 (by decide) k3 (fun _ h9 => h9) rfl dX5_collapsesNames_4 ?_
  refine lv_if_le (tgt := 26) hx hb dX5_collapsesNames_7 (by decide) (fun c2 => ?_) (fun c2 => ?_)
  · replace hm := if_t c2 hm
    exact J26  hm H locs ls hP hD hS (lv_sub hl [0] rfl)
  · replace hm := if_f c2 hm
    refine lv_aload_n hx hb dX5_collapsesNames_10 rfl (lv_at hl 0 rfl) ?_
    refine va_get (D := D) (ci := 5) (v := .ref aL) (C := RX5) (T := TX5) (N := 9) hx hb hts k2 hown hKv hP 3 rfl rfl 6 (by decide) k5 (fun _ h9 => h9) rfl dX5_collapsesNames_11 ?_
    refine lv_iload_n hx hb dX5_collapsesNames_14 rfl (lv_at hl 1 rfl) ?_
    refine lv_iload_n hx hb dX5_collapsesNames_15 rfl (lv_at hl 2 rfl) ?_
    replace hm := bd_some hm
    obtain ⟨e3, hc3, hm⟩ := hm
    refine kV_i (rest := []) (ws' := (w_X5_collapsesNames cJ aS aS_ke aS_di aL aL_sh aL_wi aL_su aW aA aL_nk aL_gr aE aE_li aC aE_se S_st S_mi S_fi S_sp S_cl S_nu S_co L_nk E_n E_sn)) S (c_X3_sameNames l D cI cJ cZ cS aL aL_sh aL_wi aL_su aW aS aA aL_nk aL_gr L_nk x1 x2 e3 hc3) k6 hK hP hD hS hA 1 rfl rfl rfl rfl hl.1 rfl (Nat.le_of_ble_eq_true rfl) ⟨Nat.zero_le _, Nat.zero_le _⟩ dX5_collapsesNames_16 [1, 2] rfl rfl wa_X3_sameNames (sa_eq [(aS, .inr (6, [.int S_st, .int S_mi, .int S_fi, .int S_sp, .int S_cl, .int S_nu, .int S_co, .ref aS_ke, .ref aS_di])), (aE, .inr (5, [.int E_n, .ref aE_li, .ref aW, .ref aS, .ref aC, .ref aA, .ref aL, .ref aE_se, .int E_sn]))] [0, 3] 4 rfl rfl rfl rfl rfl rfl rfl) (fun H locs hP hD hS => ?_)
    refine lv_if_eq (tgt := 26) hx hb dX5_collapsesNames_19 (by decide) (fun c4 => ?_) (fun c4 => ?_)
    · replace hm := if_t c4 hm
      exact J26  hm H locs ls hP hD hS (lv_sub hl [0] rfl)
    · replace hm := if_f c4 hm
      refine lv_iconst (v := 1) hx hb dX5_collapsesNames_22 (by decide) ?_
      refine lv_goto (tgt := 27) hx hb dX5_collapsesNames_23 (by decide) ?_
      exact J27 1 hm H locs ls hP hD hS (lv_sub hl [0] rfl)
set_option maxHeartbeats 4000000 in
set_option maxRecDepth 100000 in
theorem c_X5_numberAt (l : Launch) (D : va_G) (cI cJ cZ cS : ClassId) (aA aA_or aA_nu aA_li aW aS aC aE aE_li aL aE_se : Nat) (A_nu : Nat → Int32) (E_n : Int32) (E_se : Nat → Int32) (E_sn : Int32) (x1 : Int32) (o : Int32) (hm : m_X5_numberAt A_nu E_se x1 = some o) : MI l yX5_numberAt wsX5_numberAt rm_X5_numberAt D (TY cI cJ cZ cS) [.ref aE, .int x1] (w_X5_numberAt cI aA aA_or aA_nu aA_li aW aS aC aE aE_li aL aE_se A_nu E_n E_se E_sn) (w_X5_numberAt cI aA aA_or aA_nu aA_li aW aS aC aE aE_li aL aE_se A_nu E_n E_se E_sn) (o) := by
  refine MI_of (cc := cX5_numberAt) (maxL := 2) (by decide) rfl (Nat.le_of_ble_eq_true rfl) ?_
  intro p e s m args below meth c A Q ls H locs hx hb hml hts hown hK hA hP hD hS hl hret
  have hown : s.vm.findClass RX5 = some m.cls := hown
  have hKv : va_K D vwCl (TY cI cJ cZ cS) s := hK.1
  have hl : lv_has ls 2 [(0, .ref aE), (1, .int x1)] := hl
  have S : CallFix p m c cX5_numberAt 2 s args wsX5_numberAt RX5 := ⟨hx, hb, hml, hown, hts⟩
  have k1 := hts (.fieldLink RX5 42 "CitationFormatter$Renderer" "arrangement" "LCitationFormatter$Arrangement;") (by decide +kernel)
  have k2 : ∀ w ∈ wsX50, w ∈ wsX5_numberAt := by decide +kernel
  have k3 := hts (.fieldLink RX5 71 "CitationFormatter$Arrangement" "numbers" "[I") (by decide +kernel)
  have k4 : ∀ w ∈ wsX00, w ∈ wsX5_numberAt := by decide +kernel
  have k5 := hts (.fieldLink RX5 19 "CitationFormatter$Renderer" "sequence" "[I") (by decide +kernel)
  refine lv_aload_n hx hb dX5_numberAt_0 rfl (lv_at hl 0 rfl) ?_
  refine va_get (D := D) (ci := 5) (v := .ref aA) (C := RX5) (T := TX5) (N := 9) hx hb hts k2 hown hKv hP 2 rfl rfl 5 (by decide) k1 (fun _ h9 => h9) rfl dX5_numberAt_1 ?_
  refine va_get (D := D) (ci := 0) (v := .ref aA_nu) (C := RX0) (T := TX0) (N := 6) hx hb hts k4 hown hKv hP 0 rfl rfl 1 (by decide) k3 (fun _ h9 => h9) rfl dX5_numberAt_4 ?_
  refine lv_aload_n hx hb dX5_numberAt_7 rfl (lv_at hl 0 rfl) ?_
  refine va_get (D := D) (ci := 5) (v := .ref aE_se) (C := RX5) (T := TX5) (N := 9) hx hb hts k2 hown hKv hP 2 rfl rfl 7 (by decide) k5 (fun _ h9 => h9) rfl dX5_numberAt_8 ?_
  refine lv_iload_n hx hb dX5_numberAt_11 rfl (lv_at hl 1 rfl) ?_
  replace hm := ck_some hm
  obtain ⟨h1, hm⟩ := hm
  refine va_iald hx hb hKv hP 3 0 rfl rfl h1 dX5_numberAt_12 ?_
  replace hm := ck_some hm
  obtain ⟨h2, hm⟩ := hm
  refine va_iald hx hb hKv hP 1 0 rfl rfl h2 dX5_numberAt_13 ?_
  have h9 := Option.some.inj hm
  subst h9
  exact hret H locs _ ls _ hP hD hS rfl dX5_numberAt_14
set_option maxHeartbeats 4000000 in
set_option maxRecDepth 100000 in
theorem c_X5_putInSequence (l : Launch) (D : va_G) (cI cJ cZ cS : ClassId) (aW aW_ac aW_fa aW_in aW_yr aW_ti aS aS_ke aS_di aC aC_sz aC_cd aA aA_or aA_nu aA_li aE aE_li aL aE_se : Nat) (W_n : Int32) (S_st : Int32) (S_mi : Int32) (S_fi : Int32) (S_sp : Int32) (S_cl : Int32) (S_nu : Int32) (S_co : Int32) (C_n : Int32) (C_sz : Nat → Int32) (C_cd : Nat → Int32) (A_li : Nat → Int32) (E_n : Int32) (E_se : Nat → Int32) (E_sn : Int32) (x1 : Int32) (o : (Nat → Int32) × Int32) (hm : m_X5_putInSequence W_n S_co C_sz C_cd A_li E_se E_sn x1 = some o) : MV l yX5_putInSequence wsX5_putInSequence rm_X5_putInSequence D (TY cI cJ cZ cS) [.ref aE, .int x1] (w_X5_putInSequence cI aW aW_ac aW_fa aW_in aW_yr aW_ti aS aS_ke aS_di aC aC_sz aC_cd aA aA_or aA_nu aA_li aE aE_li aL aE_se W_n S_st S_mi S_fi S_sp S_cl S_nu S_co C_n C_sz C_cd A_li E_n E_se E_sn) (w_X5_putInSequence cI aW aW_ac aW_fa aW_in aW_yr aW_ti aS aS_ke aS_di aC aC_sz aC_cd aA aA_or aA_nu aA_li aE aE_li aL aE_se W_n S_st S_mi S_fi S_sp S_cl S_nu S_co C_n C_sz C_cd A_li E_n o.1 o.2) := by
  refine MV_of (cc := cX5_putInSequence) (maxL := 3) (by decide) rfl (Nat.le_of_ble_eq_true rfl) ?_
  intro p e s m args below meth c A Q ls H locs hx hb hml hts hown hK hA hP hD hS hl hret
  have hown : s.vm.findClass RX5 = some m.cls := hown
  have hKv : va_K D vwCl (TY cI cJ cZ cS) s := hK.1
  have hl : lv_has ls 3 [(0, .ref aE), (1, .int x1)] := hl
  have S : CallFix p m c cX5_putInSequence 3 s args wsX5_putInSequence RX5 := ⟨hx, hb, hml, hown, hts⟩
  have k1 := hts (.fieldLink RX5 22 "CitationFormatter$Renderer" "sequenceSize" "I") (by decide +kernel)
  have k2 : ∀ w ∈ wsX50, w ∈ wsX5_putInSequence := by decide +kernel
  have k3 := hts (.fieldLink RX5 36 "CitationFormatter$Renderer" "settings" "LCitationFormatter$Settings;") (by decide +kernel)
  have k4 := hts (.fieldLink RX5 93 "CitationFormatter$Settings" "citeOrder" "I") (by decide +kernel)
  have k5 : ∀ w ∈ wsX60, w ∈ wsX5_putInSequence := by decide +kernel
  have k6 := hts (.fieldLink RX5 31 "CitationFormatter$Renderer" "works" "LCitationFormatter$Works;") (by decide +kernel)
  have k7 := hts (.fieldLink RX5 108 "CitationFormatter$Works" "count" "I") (by decide +kernel)
  have k8 : ∀ w ∈ wsX90, w ∈ wsX5_putInSequence := by decide +kernel
  have k9 := hts (.fieldLink RX5 41 "CitationFormatter$Renderer" "citations" "LCitationFormatter$Citations;") (by decide +kernel)
  have k10 := hts (.fieldLink RX5 42 "CitationFormatter$Renderer" "arrangement" "LCitationFormatter$Arrangement;") (by decide +kernel)
  have k11 := hts (.fieldLink RX5 111 "CitationFormatter$Arrangement" "listing" "[I") (by decide +kernel)
  have k12 : ∀ w ∈ wsX00, w ∈ wsX5_putInSequence := by decide +kernel
  have k13 : CallW rm_X5_putInSequence s args RX5 RX1 114 yX1_cites cX1_cites 4 (some .boolean) wsX1_cites rm_X1_cites 0 0 2 := cwV 2 hts gX5_putInSequence_X1_cites rfl rfl rfl (by decide +kernel) ⟨Nat.le_of_ble_eq_true rfl, Nat.le_of_ble_eq_true rfl⟩
  have k14 : CallW rm_X5_putInSequence s args RX5 RX5 105 yX5_addToSequence cX5_addToSequence 2 none wsX5_addToSequence rm_X5_addToSequence 0 0 1 := cwV 1 hts gX5_putInSequence_X5_addToSequence rfl rfl rfl (by decide +kernel) ⟨Nat.le_of_ble_eq_true rfl, Nat.le_of_ble_eq_true rfl⟩
  have k15 := hts (.fieldLink RX5 96 "CitationFormatter$Citations" "sizes" "[I") (by decide +kernel)
  have k16 : ∀ w ∈ wsX10, w ∈ wsX5_putInSequence := by decide +kernel
  have k17 : CallW rm_X5_putInSequence s args RX5 RX1 101 yX1_workAt cX1_workAt 3 (some .int) wsX1_workAt rm_X1_workAt 0 0 2 := cwV 2 hts gX5_putInSequence_X1_workAt rfl rfl rfl (by decide +kernel) ⟨Nat.le_of_ble_eq_true rfl, Nat.le_of_ble_eq_true rfl⟩
  refine lv_aload_n hx hb dX5_putInSequence_0 rfl (lv_at hl 0 rfl) ?_
  refine lv_iconst (v := 0) hx hb dX5_putInSequence_1 (by decide) ?_
  refine va_put (D := D) (ci := 5) (v := .int 0) (ty := .int) (C := RX5) (T := TX5) (N := 9) hx hb hts k2 tyX5 tyX5_ok nmX5 hown hKv hP hD hS 7 rfl rfl 8 (by decide) k1 (fun _ h9 => h9) rfl (by decide +kernel) rfl rfl (Nat.le_of_ble_eq_true rfl) dX5_putInSequence_2 (fun H locs hP hD hS => ?_)
  replace hP : va_P D vwCl (w_X5_putInSequence cI aW aW_ac aW_fa aW_in aW_yr aW_ti aS aS_ke aS_di aC aC_sz aC_cd aA aA_or aA_nu aA_li aE aE_li aL aE_se W_n S_st S_mi S_fi S_sp S_cl S_nu S_co C_n C_sz C_cd A_li E_n E_se 0) H := hP
  replace hD : va_D A (w_X5_putInSequence cI aW aW_ac aW_fa aW_in aW_yr aW_ti aS aS_ke aS_di aC aC_sz aC_cd aA aA_or aA_nu aA_li aE aE_li aL aE_se W_n S_st S_mi S_fi S_sp S_cl S_nu S_co C_n C_sz C_cd A_li E_n E_se 0) := hD
  refine lv_aload_n hx hb dX5_putInSequence_5 rfl (lv_at hl 0 rfl) ?_
  refine va_get (D := D) (ci := 5) (v := .ref aS) (C := RX5) (T := TX5) (N := 9) hx hb hts k2 hown hKv hP 7 rfl rfl 3 (by decide) k3 (fun _ h9 => h9) rfl dX5_putInSequence_6 ?_
  refine va_get (D := D) (ci := 6) (v := .int S_co) (C := RX6) (T := TX6) (N := 9) hx hb hts k5 hown hKv hP 1 rfl rfl 6 (by decide) k4 (fun _ h9 => h9) rfl dX5_putInSequence_9 ?_
  refine lv_if_ne (tgt := 50) hx hb dX5_putInSequence_12 (by decide) (fun c1 => ?_) (fun c1 => ?_)
  · replace hm := if_f c1 hm
    refine lv_iconst (v := 0) hx hb dX5_putInSequence_50 (by decide) ?_
    refine lv_istore_n (lv' := [(2, .int 0), (0, .ref aE), (1, .int x1)]) hx hb dX5_putInSequence_51 rfl hl (by decide) rfl (fun ls hl => ?_)
    replace hm := bd_some hm
    obtain ⟨e2, hc2, hm⟩ := hm
    have X2_0 : ∀ (H : Heap) (locs : List Loc) (ls : Array Slot), va_P D vwCl (w_X5_putInSequence cI aW aW_ac aW_fa aW_in aW_yr aW_ti aS aS_ke aS_di aC aC_sz aC_cd aA aA_or aA_nu aA_li aE aE_li aL aE_se W_n S_st S_mi S_fi S_sp S_cl S_nu S_co C_n C_sz C_cd A_li E_n e2.1 e2.2) H → va_D A (w_X5_putInSequence cI aW aW_ac aW_fa aW_in aW_yr aW_ti aS aS_ke aS_di aC aC_sz aC_cd aA aA_or aA_nu aA_li aE aE_li aL aE_se W_n S_st S_mi S_fi S_sp S_cl S_nu S_co C_n C_sz C_cd A_li E_n e2.1 e2.2) → va_S A s.heap H locs → lv_has ls 3 [(0, .ref aE)] → W p l e rm_X5_putInSequence s m args below meth c H locs 0 0 Q (F0 m 102 ls []) := by
      intro H locs ls hP hD hS hl
      have h9 := Option.some.inj hm
      subst h9
      exact hret H locs _ ls hP hD hS dX5_putInSequence_102
    refine it_W (G := fun (st52 : Int32 × (Nat → Int32) × Int32) => ∀ (H : Heap) (locs : List Loc) (ls : Array Slot), va_P D vwCl (w_X5_putInSequence cI aW aW_ac aW_fa aW_in aW_yr aW_ti aS aS_ke aS_di aC aC_sz aC_cd aA aA_or aA_nu aA_li aE aE_li aL aE_se W_n S_st S_mi S_fi S_sp S_cl S_nu S_co C_n C_sz C_cd A_li E_n st52.2.1 st52.2.2) H → va_D A (w_X5_putInSequence cI aW aW_ac aW_fa aW_in aW_yr aW_ti aS aS_ke aS_di aC aC_sz aC_cd aA aA_or aA_nu aA_li aE aE_li aL aE_se W_n S_st S_mi S_fi S_sp S_cl S_nu S_co C_n C_sz C_cd A_li E_n st52.2.1 st52.2.2) → va_S A s.heap H locs → lv_has ls 3 [(0, .ref aE), (1, .int x1), (2, .int st52.1)] → W p l e rm_X5_putInSequence s m args below meth c H locs 0 0 Q (F0 m 52 ls [])) (e := e2) (fun st52 x hm hG hE => ?_) fu _ hc2 H locs ls hP hD hS (lv_sub hl [1, 2, 0] rfl)
    intro H locs ls hP hD hS hl
    have J96 : ∀ (x2_j96 : Int32) (E_se_j96 : Nat → Int32) (E_sn_j96 : Int32), (m_X5_putInSequence_J96 x1 x2_j96 E_se_j96 E_sn_j96 = some x) → ∀ (H : Heap) (locs : List Loc) (ls : Array Slot), va_P D vwCl (w_X5_putInSequence cI aW aW_ac aW_fa aW_in aW_yr aW_ti aS aS_ke aS_di aC aC_sz aC_cd aA aA_or aA_nu aA_li aE aE_li aL aE_se W_n S_st S_mi S_fi S_sp S_cl S_nu S_co C_n C_sz C_cd A_li E_n E_se_j96 E_sn_j96) H → va_D A (w_X5_putInSequence cI aW aW_ac aW_fa aW_in aW_yr aW_ti aS aS_ke aS_di aC aC_sz aC_cd aA aA_or aA_nu aA_li aE aE_li aL aE_se W_n S_st S_mi S_fi S_sp S_cl S_nu S_co C_n C_sz C_cd A_li E_n E_se_j96 E_sn_j96) → va_S A s.heap H locs → lv_has ls 3 [(0, .ref aE), (1, .int x1), (2, .int x2_j96)] → W p l e rm_X5_putInSequence s m args below meth c H locs 0 0 Q (F0 m 96 ls []) := by
      intro x2_j96 E_se_j96 E_sn_j96 hm H locs ls hP hD hS hl
      refine lv_iinc (v := (x2_j96 + 1)) (lv' := [(2, .int (x2_j96 + 1)), (0, .ref aE), (1, .int x1)]) hx hb dX5_putInSequence_96 hl (k := 2) rfl rfl (by decide) rfl (fun ls hl => ?_)
      refine lv_goto (tgt := 52) hx hb dX5_putInSequence_99 (by decide) ?_
      exact hG _ (Option.some.inj hm).symm H locs ls hP hD hS (lv_sub hl [1, 2, 0] rfl)
    refine lv_iload_n hx hb dX5_putInSequence_52 rfl (lv_at hl 2 rfl) ?_
    refine lv_aload_n hx hb dX5_putInSequence_53 rfl (lv_at hl 0 rfl) ?_
    refine va_get (D := D) (ci := 5) (v := .ref aW) (C := RX5) (T := TX5) (N := 9) hx hb hts k2 hown hKv hP 7 rfl rfl 2 (by decide) k6 (fun _ h9 => h9) rfl dX5_putInSequence_54 ?_
    refine va_get (D := D) (ci := 9) (v := .int W_n) (C := RX9) (T := TX9) (N := 6) hx hb hts k8 hown hKv hP 0 rfl rfl 0 (by decide) k7 (fun _ h9 => h9) rfl dX5_putInSequence_57 ?_
    refine lv_icmp_ge (tgt := 102) hx hb dX5_putInSequence_60 (by decide) (fun c3 => ?_) (fun c3 => ?_)
    · replace hm := if_t c3 hm
      have h9 := hE _ (Option.some.inj hm).symm
      subst h9
      exact X2_0 H locs ls hP hD hS (lv_sub hl [0] rfl)
    · replace hm := if_f c3 hm
      refine lv_aload_n hx hb dX5_putInSequence_63 rfl (lv_at hl 0 rfl) ?_
      refine va_get (D := D) (ci := 5) (v := .ref aC) (C := RX5) (T := TX5) (N := 9) hx hb hts k2 hown hKv hP 7 rfl rfl 4 (by decide) k9 (fun _ h9 => h9) rfl dX5_putInSequence_64 ?_
      refine lv_iload_n hx hb dX5_putInSequence_67 rfl (lv_at hl 1 rfl) ?_
      refine lv_aload_n hx hb dX5_putInSequence_68 rfl (lv_at hl 0 rfl) ?_
      refine va_get (D := D) (ci := 5) (v := .ref aA) (C := RX5) (T := TX5) (N := 9) hx hb hts k2 hown hKv hP 7 rfl rfl 5 (by decide) k10 (fun _ h9 => h9) rfl dX5_putInSequence_69 ?_
      refine va_get (D := D) (ci := 0) (v := .ref aA_li) (C := RX0) (T := TX0) (N := 6) hx hb hts k12 hown hKv hP 5 rfl rfl 2 (by decide) k11 (fun _ h9 => h9) rfl dX5_putInSequence_72 ?_
      refine lv_iload_n hx hb dX5_putInSequence_75 rfl (lv_at hl 2 rfl) ?_
      replace hm := ck_some hm
      obtain ⟨h4, hm⟩ := hm
      refine va_iald hx hb hKv hP 6 0 rfl rfl h4 dX5_putInSequence_76 ?_
      replace hm := bd_some hm
      obtain ⟨e5, hc5, hm⟩ := hm
      refine kV_i (rest := []) (ws' := (w_X5_putInSequence cI aW aW_ac aW_fa aW_in aW_yr aW_ti aS aS_ke aS_di aC aC_sz aC_cd aA aA_or aA_nu aA_li aE aE_li aL aE_se W_n S_st S_mi S_fi S_sp S_cl S_nu S_co C_n C_sz C_cd A_li E_n st52.2.1 st52.2.2)) S (c_X1_cites l D cI cJ cZ cS aC aC_sz aC_cd C_n C_sz C_cd x1 (A_li (Int32.toNatClampNeg st52.1)) e5 hc5) k13 hK hP hD hS hA 2 rfl rfl rfl rfl hl.1 rfl (Nat.le_of_ble_eq_true rfl) ⟨Nat.zero_le _, Nat.zero_le _⟩ dX5_putInSequence_77 [2, 3, 4] rfl rfl wa_X1_cites (sa_eq [(aW, .inr (9, [.int W_n, .ref aW_ac, .ref aW_fa, .ref aW_in, .ref aW_yr, .ref aW_ti])), (aS, .inr (6, [.int S_st, .int S_mi, .int S_fi, .int S_sp, .int S_cl, .int S_nu, .int S_co, .ref aS_ke, .ref aS_di])), (aA, .inr (0, [.ref aA_or, .ref aA_nu, .ref aA_li, .ref aW, .ref aS, .ref aC])), (aA_li, .inl (cI, 8, .inl A_li)), (aE, .inr (5, [.int E_n, .ref aE_li, .ref aW, .ref aS, .ref aC, .ref aA, .ref aL, .ref aE_se, .int st52.2.2])), (aE_se, .inl (cI, 5, .inl st52.2.1))] [0, 1, 5, 6, 7, 8] 9 rfl rfl rfl rfl rfl rfl rfl) (fun H locs hP hD hS => ?_)
      refine lv_if_eq (tgt := 96) hx hb dX5_putInSequence_80 (by decide) (fun c6 => ?_) (fun c6 => ?_)
      · replace hm := if_t c6 hm
        exact J96 st52.1 st52.2.1 st52.2.2 hm H locs ls hP hD hS (lv_sub hl [0, 1, 2] rfl)
      · replace hm := if_f c6 hm
        refine lv_aload_n hx hb dX5_putInSequence_83 rfl (lv_at hl 0 rfl) ?_
        refine lv_aload_n hx hb dX5_putInSequence_84 rfl (lv_at hl 0 rfl) ?_
        refine va_get (D := D) (ci := 5) (v := .ref aA) (C := RX5) (T := TX5) (N := 9) hx hb hts k2 hown hKv hP 7 rfl rfl 5 (by decide) k10 (fun _ h9 => h9) rfl dX5_putInSequence_85 ?_
        refine va_get (D := D) (ci := 0) (v := .ref aA_li) (C := RX0) (T := TX0) (N := 6) hx hb hts k12 hown hKv hP 5 rfl rfl 2 (by decide) k11 (fun _ h9 => h9) rfl dX5_putInSequence_88 ?_
        refine lv_iload_n hx hb dX5_putInSequence_91 rfl (lv_at hl 2 rfl) ?_
        replace hm := ck_some hm
        obtain ⟨h7, hm⟩ := hm
        refine va_iald hx hb hKv hP 6 0 rfl rfl h7 dX5_putInSequence_92 ?_
        replace hm := bd_some hm
        obtain ⟨e8, hc8, hm⟩ := hm
        refine kV_v (rest := []) (ws' := (w_X5_putInSequence cI aW aW_ac aW_fa aW_in aW_yr aW_ti aS aS_ke aS_di aC aC_sz aC_cd aA aA_or aA_nu aA_li aE aE_li aL aE_se W_n S_st S_mi S_fi S_sp S_cl S_nu S_co C_n C_sz C_cd A_li E_n e8.1 e8.2)) S (c_X5_addToSequence l D cI cJ cZ cS aE aE_li aW aS aC aA aL aE_se E_n st52.2.1 st52.2.2 (A_li (Int32.toNatClampNeg st52.1)) e8 hc8) k14 hK hP hD hS hA 7 rfl rfl rfl rfl hl.1 rfl (Nat.le_of_ble_eq_true rfl) ⟨Nat.zero_le _, Nat.zero_le _⟩ dX5_putInSequence_93 [7, 8] rfl rfl wa_X5_addToSequence (sa_eq [(aW, .inr (9, [.int W_n, .ref aW_ac, .ref aW_fa, .ref aW_in, .ref aW_yr, .ref aW_ti])), (aS, .inr (6, [.int S_st, .int S_mi, .int S_fi, .int S_sp, .int S_cl, .int S_nu, .int S_co, .ref aS_ke, .ref aS_di])), (aC, .inr (1, [.int C_n, .ref aC_sz, .ref aC_cd])), (aC_sz, .inl (cI, 10, .inl C_sz)), (aC_cd, .inl (cI, 50, .inl C_cd)), (aA, .inr (0, [.ref aA_or, .ref aA_nu, .ref aA_li, .ref aW, .ref aS, .ref aC])), (aA_li, .inl (cI, 8, .inl A_li))] [0, 1, 2, 3, 4, 5, 6] 9 rfl rfl rfl rfl rfl rfl rfl) (fun H locs hP hD hS => ?_)
        exact J96 st52.1 e8.1 e8.2 hm H locs ls hP hD hS (lv_sub hl [0, 1, 2] rfl)
  · replace hm := if_t c1 hm
    refine lv_iconst (v := 0) hx hb dX5_putInSequence_15 (by decide) ?_
    refine lv_istore_n (lv' := [(2, .int 0), (0, .ref aE), (1, .int x1)]) hx hb dX5_putInSequence_16 rfl hl (by decide) rfl (fun ls hl => ?_)
    replace hm := bd_some hm
    obtain ⟨e9, hc9, hm⟩ := hm
    have X9_0 : ∀ (H : Heap) (locs : List Loc) (ls : Array Slot), va_P D vwCl (w_X5_putInSequence cI aW aW_ac aW_fa aW_in aW_yr aW_ti aS aS_ke aS_di aC aC_sz aC_cd aA aA_or aA_nu aA_li aE aE_li aL aE_se W_n S_st S_mi S_fi S_sp S_cl S_nu S_co C_n C_sz C_cd A_li E_n e9.1 e9.2) H → va_D A (w_X5_putInSequence cI aW aW_ac aW_fa aW_in aW_yr aW_ti aS aS_ke aS_di aC aC_sz aC_cd aA aA_or aA_nu aA_li aE aE_li aL aE_se W_n S_st S_mi S_fi S_sp S_cl S_nu S_co C_n C_sz C_cd A_li E_n e9.1 e9.2) → va_S A s.heap H locs → lv_has ls 3 [(0, .ref aE)] → W p l e rm_X5_putInSequence s m args below meth c H locs 0 0 Q (F0 m 49 ls []) := by
      intro H locs ls hP hD hS hl
      have h9 := Option.some.inj hm
      subst h9
      exact hret H locs _ ls hP hD hS dX5_putInSequence_49
    refine it_W (G := fun (st17 : Int32 × (Nat → Int32) × Int32) => ∀ (H : Heap) (locs : List Loc) (ls : Array Slot), va_P D vwCl (w_X5_putInSequence cI aW aW_ac aW_fa aW_in aW_yr aW_ti aS aS_ke aS_di aC aC_sz aC_cd aA aA_or aA_nu aA_li aE aE_li aL aE_se W_n S_st S_mi S_fi S_sp S_cl S_nu S_co C_n C_sz C_cd A_li E_n st17.2.1 st17.2.2) H → va_D A (w_X5_putInSequence cI aW aW_ac aW_fa aW_in aW_yr aW_ti aS aS_ke aS_di aC aC_sz aC_cd aA aA_or aA_nu aA_li aE aE_li aL aE_se W_n S_st S_mi S_fi S_sp S_cl S_nu S_co C_n C_sz C_cd A_li E_n st17.2.1 st17.2.2) → va_S A s.heap H locs → lv_has ls 3 [(0, .ref aE), (1, .int x1), (2, .int st17.1)] → W p l e rm_X5_putInSequence s m args below meth c H locs 0 0 Q (F0 m 17 ls [])) (e := e9) (fun st17 x hm hG hE => ?_) fu _ hc9 H locs ls hP hD hS (lv_sub hl [1, 2, 0] rfl)
    intro H locs ls hP hD hS hl
    refine lv_iload_n hx hb dX5_putInSequence_17 rfl (lv_at hl 2 rfl) ?_
    refine lv_aload_n hx hb dX5_putInSequence_18 rfl (lv_at hl 0 rfl) ?_
    refine va_get (D := D) (ci := 5) (v := .ref aC) (C := RX5) (T := TX5) (N := 9) hx hb hts k2 hown hKv hP 7 rfl rfl 4 (by decide) k9 (fun _ h9 => h9) rfl dX5_putInSequence_19 ?_
    refine va_get (D := D) (ci := 1) (v := .ref aC_sz) (C := RX1) (T := TX1) (N := 3) hx hb hts k16 hown hKv hP 2 rfl rfl 1 (by decide) k15 (fun _ h9 => h9) rfl dX5_putInSequence_22 ?_
    refine lv_iload_n hx hb dX5_putInSequence_25 rfl (lv_at hl 1 rfl) ?_
    replace hm := ck_some hm
    obtain ⟨h10, hm⟩ := hm
    refine va_iald hx hb hKv hP 3 0 rfl rfl h10 dX5_putInSequence_26 ?_
    refine lv_icmp_ge (tgt := 49) hx hb dX5_putInSequence_27 (by decide) (fun c11 => ?_) (fun c11 => ?_)
    · replace hm := if_t c11 hm
      have h9 := hE _ (Option.some.inj hm).symm
      subst h9
      exact X9_0 H locs ls hP hD hS (lv_sub hl [0] rfl)
    · replace hm := if_f c11 hm
      refine lv_aload_n hx hb dX5_putInSequence_30 rfl (lv_at hl 0 rfl) ?_
      refine lv_aload_n hx hb dX5_putInSequence_31 rfl (lv_at hl 0 rfl) ?_
      refine va_get (D := D) (ci := 5) (v := .ref aC) (C := RX5) (T := TX5) (N := 9) hx hb hts k2 hown hKv hP 7 rfl rfl 4 (by decide) k9 (fun _ h9 => h9) rfl dX5_putInSequence_32 ?_
      refine lv_iload_n hx hb dX5_putInSequence_35 rfl (lv_at hl 1 rfl) ?_
      refine lv_iload_n hx hb dX5_putInSequence_36 rfl (lv_at hl 2 rfl) ?_
      replace hm := bd_some hm
      obtain ⟨e12, hc12, hm⟩ := hm
      refine kV_i (rest := [.ref aE]) (ws' := (w_X5_putInSequence cI aW aW_ac aW_fa aW_in aW_yr aW_ti aS aS_ke aS_di aC aC_sz aC_cd aA aA_or aA_nu aA_li aE aE_li aL aE_se W_n S_st S_mi S_fi S_sp S_cl S_nu S_co C_n C_sz C_cd A_li E_n st17.2.1 st17.2.2)) S (c_X1_workAt l D cI cJ cZ cS aC aC_sz aC_cd C_n C_cd x1 st17.1 e12 hc12) k17 hK hP hD hS hA 2 rfl rfl rfl rfl hl.1 rfl (Nat.le_of_ble_eq_true rfl) ⟨Nat.zero_le _, Nat.zero_le _⟩ dX5_putInSequence_37 [2, 4] rfl rfl wa_X1_workAt (sa_eq [(aW, .inr (9, [.int W_n, .ref aW_ac, .ref aW_fa, .ref aW_in, .ref aW_yr, .ref aW_ti])), (aS, .inr (6, [.int S_st, .int S_mi, .int S_fi, .int S_sp, .int S_cl, .int S_nu, .int S_co, .ref aS_ke, .ref aS_di])), (aC_sz, .inl (cI, 10, .inl C_sz)), (aA, .inr (0, [.ref aA_or, .ref aA_nu, .ref aA_li, .ref aW, .ref aS, .ref aC])), (aA_li, .inl (cI, 8, .inl A_li)), (aE, .inr (5, [.int E_n, .ref aE_li, .ref aW, .ref aS, .ref aC, .ref aA, .ref aL, .ref aE_se, .int st17.2.2])), (aE_se, .inl (cI, 5, .inl st17.2.1))] [0, 1, 3, 5, 6, 7, 8] 9 rfl rfl rfl rfl rfl rfl rfl) (fun H locs hP hD hS => ?_)
      replace hm := bd_some hm
      obtain ⟨e13, hc13, hm⟩ := hm
      refine kV_v (rest := []) (ws' := (w_X5_putInSequence cI aW aW_ac aW_fa aW_in aW_yr aW_ti aS aS_ke aS_di aC aC_sz aC_cd aA aA_or aA_nu aA_li aE aE_li aL aE_se W_n S_st S_mi S_fi S_sp S_cl S_nu S_co C_n C_sz C_cd A_li E_n e13.1 e13.2)) S (c_X5_addToSequence l D cI cJ cZ cS aE aE_li aW aS aC aA aL aE_se E_n st17.2.1 st17.2.2 e12 e13 hc13) k14 hK hP hD hS hA 7 rfl rfl rfl rfl hl.1 rfl (Nat.le_of_ble_eq_true rfl) ⟨Nat.zero_le _, Nat.zero_le _⟩ dX5_putInSequence_40 [7, 8] rfl rfl wa_X5_addToSequence (sa_eq [(aW, .inr (9, [.int W_n, .ref aW_ac, .ref aW_fa, .ref aW_in, .ref aW_yr, .ref aW_ti])), (aS, .inr (6, [.int S_st, .int S_mi, .int S_fi, .int S_sp, .int S_cl, .int S_nu, .int S_co, .ref aS_ke, .ref aS_di])), (aC, .inr (1, [.int C_n, .ref aC_sz, .ref aC_cd])), (aC_sz, .inl (cI, 10, .inl C_sz)), (aC_cd, .inl (cI, 50, .inl C_cd)), (aA, .inr (0, [.ref aA_or, .ref aA_nu, .ref aA_li, .ref aW, .ref aS, .ref aC])), (aA_li, .inl (cI, 8, .inl A_li))] [0, 1, 2, 3, 4, 5, 6] 9 rfl rfl rfl rfl rfl rfl rfl) (fun H locs hP hD hS => ?_)
      refine lv_iinc (v := (st17.1 + 1)) (lv' := [(2, .int (st17.1 + 1)), (0, .ref aE), (1, .int x1)]) hx hb dX5_putInSequence_43 hl (k := 2) rfl rfl (by decide) rfl (fun ls hl => ?_)
      refine lv_goto (tgt := 17) hx hb dX5_putInSequence_46 (by decide) ?_
      exact hG _ (Option.some.inj hm).symm H locs ls hP hD hS (lv_sub hl [1, 2, 0] rfl)
set_option maxHeartbeats 4000000 in
set_option maxRecDepth 100000 in
theorem c_X5_write (l : Launch) (D : va_G) (cI cJ cZ cS : ClassId) (aE aE_li aW aS aC aA aL aE_se : Nat) (E_n : Int32) (E_li : Nat → Int32) (E_sn : Int32) (x1 : Int32) (o : Int32 × (Nat → Int32)) (hm : m_X5_write E_n E_li x1 = some o) : MV l yX5_write wsX5_write rm_X5_write D (TY cI cJ cZ cS) [.ref aE, .int x1] (w_X5_write cI aE aE_li aW aS aC aA aL aE_se E_n E_li E_sn) (w_X5_write cI aE aE_li aW aS aC aA aL aE_se o.1 o.2 E_sn) := by
  refine MV_of (cc := cX5_write) (maxL := 2) (by decide) rfl (Nat.le_of_ble_eq_true rfl) ?_
  intro p e s m args below meth c A Q ls H locs hx hb hml hts hown hK hA hP hD hS hl hret
  have hown : s.vm.findClass RX5 = some m.cls := hown
  have hKv : va_K D vwCl (TY cI cJ cZ cS) s := hK.1
  have hl : lv_has ls 2 [(0, .ref aE), (1, .int x1)] := hl
  have S : CallFix p m c cX5_write 2 s args wsX5_write RX5 := ⟨hx, hb, hml, hown, hts⟩
  have k1 := hts (.fieldLink RX5 9 "CitationFormatter$Renderer" "length" "I") (by decide +kernel)
  have k2 : ∀ w ∈ wsX50, w ∈ wsX5_write := by decide +kernel
  have k3 := hts (.fieldLink RX5 15 "CitationFormatter$Renderer" "line" "[I") (by decide +kernel)
  have J29 : ∀ (E_n_j29 : Int32) (E_li_j29 : Nat → Int32), (m_X5_write_J29 E_n_j29 E_li_j29 = some o) → ∀ (H : Heap) (locs : List Loc) (ls : Array Slot), va_P D vwCl (w_X5_write cI aE aE_li aW aS aC aA aL aE_se E_n_j29 E_li_j29 E_sn) H → va_D A (w_X5_write cI aE aE_li aW aS aC aA aL aE_se E_n_j29 E_li_j29 E_sn) → va_S A s.heap H locs → lv_has ls 2 [(0, .ref aE)] → W p l e rm_X5_write s m args below meth c H locs 0 0 Q (F0 m 29 ls []) := by
    intro E_n_j29 E_li_j29 hm H locs ls hP hD hS hl
    have h9 := Option.some.inj hm
    subst h9
    exact hret H locs _ ls hP hD hS dX5_write_29
  refine lv_aload_n hx hb dX5_write_0 rfl (lv_at hl 0 rfl) ?_
  refine va_get (D := D) (ci := 5) (v := .int E_n) (C := RX5) (T := TX5) (N := 9) hx hb hts k2 hown hKv hP 0 rfl rfl 0 (by decide) k1 (fun _ h9 => h9) rfl dX5_write_1 ?_
  refine lv_bipush (v := 100) hx hb dX5_write_4 (by decide) ?_
  refine lv_icmp_ge (tgt := 29) hx hb dX5_write_6 (by decide) (fun c1 => ?_) (fun c1 => ?_)
  · replace hm := if_t c1 hm
    exact J29 E_n E_li hm H locs ls hP hD hS (lv_sub hl [0] rfl)
  · replace hm := if_f c1 hm
    refine lv_aload_n hx hb dX5_write_9 rfl (lv_at hl 0 rfl) ?_
    refine va_get (D := D) (ci := 5) (v := .ref aE_li) (C := RX5) (T := TX5) (N := 9) hx hb hts k2 hown hKv hP 0 rfl rfl 1 (by decide) k3 (fun _ h9 => h9) rfl dX5_write_10 ?_
    refine lv_aload_n hx hb dX5_write_13 rfl (lv_at hl 0 rfl) ?_
    refine va_get (D := D) (ci := 5) (v := .int E_n) (C := RX5) (T := TX5) (N := 9) hx hb hts k2 hown hKv hP 0 rfl rfl 0 (by decide) k1 (fun _ h9 => h9) rfl dX5_write_14 ?_
    refine lv_iload_n hx hb dX5_write_17 rfl (lv_at hl 1 rfl) ?_
    replace hm := ck_some hm
    obtain ⟨h2, hm⟩ := hm
    refine va_iast hx hb hKv hP hD hS 1 0 rfl rfl h2 dX5_write_18 (fun H locs hP hD hS => ?_)
    replace hP : va_P D vwCl (w_X5_write cI aE aE_li aW aS aC aA aL aE_se E_n (upd E_li (Int32.toNatClampNeg E_n) x1) E_sn) H := hP
    replace hD : va_D A (w_X5_write cI aE aE_li aW aS aC aA aL aE_se E_n (upd E_li (Int32.toNatClampNeg E_n) x1) E_sn) := hD
    refine lv_aload_n hx hb dX5_write_19 rfl (lv_at hl 0 rfl) ?_
    refine lv_dup hx hb dX5_write_20 rfl ?_
    refine va_get (D := D) (ci := 5) (v := .int E_n) (C := RX5) (T := TX5) (N := 9) hx hb hts k2 hown hKv hP 0 rfl rfl 0 (by decide) k1 (fun _ h9 => h9) rfl dX5_write_21 ?_
    refine lv_iconst (v := 1) hx hb dX5_write_24 (by decide) ?_
    refine lv_iadd hx hb dX5_write_25 ?_
    refine va_put (D := D) (ci := 5) (v := .int (E_n + 1)) (ty := .int) (C := RX5) (T := TX5) (N := 9) hx hb hts k2 tyX5 tyX5_ok nmX5 hown hKv hP hD hS 0 rfl rfl 0 (by decide) k1 (fun _ h9 => h9) rfl (by decide +kernel) rfl rfl (Nat.le_of_ble_eq_true rfl) dX5_write_26 (fun H locs hP hD hS => ?_)
    replace hP : va_P D vwCl (w_X5_write cI aE aE_li aW aS aC aA aL aE_se (E_n + 1) (upd E_li (Int32.toNatClampNeg E_n) x1) E_sn) H := hP
    replace hD : va_D A (w_X5_write cI aE aE_li aW aS aC aA aL aE_se (E_n + 1) (upd E_li (Int32.toNatClampNeg E_n) x1) E_sn) := hD
    exact J29 (E_n + 1) (upd E_li (Int32.toNatClampNeg E_n) x1) hm H locs ls hP hD hS (lv_sub hl [0] rfl)
set_option maxHeartbeats 4000000 in
set_option maxRecDepth 100000 in
theorem c_X5_repeatsNoteBefore (l : Launch) (D : va_G) (cI cJ cZ cS : ClassId) (aC aC_sz aC_cd aE aE_li aW aS aA aL aE_se : Nat) (C_n : Int32) (C_sz : Nat → Int32) (C_cd : Nat → Int32) (E_n : Int32) (E_se : Nat → Int32) (E_sn : Int32) (x1 : Int32) (o : Int32) (hm : m_X5_repeatsNoteBefore C_sz C_cd E_se x1 = some o) : MI l yX5_repeatsNoteBefore wsX5_repeatsNoteBefore rm_X5_repeatsNoteBefore D (TY cI cJ cZ cS) [.ref aE, .int x1] (w_X5_repeatsNoteBefore cI aC aC_sz aC_cd aE aE_li aW aS aA aL aE_se C_n C_sz C_cd E_n E_se E_sn) (w_X5_repeatsNoteBefore cI aC aC_sz aC_cd aE aE_li aW aS aA aL aE_se C_n C_sz C_cd E_n E_se E_sn) (o) := by
  refine MZ_of (cc := cX5_repeatsNoteBefore) (maxL := 2) (by decide) rfl (Nat.le_of_ble_eq_true rfl) ?_
  intro p e s m args below meth c A Q ls H locs hx hb hml hts hown hK hA hP hD hS hl hret
  have hown : s.vm.findClass RX5 = some m.cls := hown
  have hKv : va_K D vwCl (TY cI cJ cZ cS) s := hK.1
  have hl : lv_has ls 2 [(0, .ref aE), (1, .int x1)] := hl
  have S : CallFix p m c cX5_repeatsNoteBefore 2 s args wsX5_repeatsNoteBefore RX5 := ⟨hx, hb, hml, hown, hts⟩
  have k1 := hts (.fieldLink RX5 41 "CitationFormatter$Renderer" "citations" "LCitationFormatter$Citations;") (by decide +kernel)
  have k2 : ∀ w ∈ wsX50, w ∈ wsX5_repeatsNoteBefore := by decide +kernel
  have k3 := hts (.fieldLink RX5 96 "CitationFormatter$Citations" "sizes" "[I") (by decide +kernel)
  have k4 : ∀ w ∈ wsX10, w ∈ wsX5_repeatsNoteBefore := by decide +kernel
  have k5 : CallW rm_X5_repeatsNoteBefore s args RX5 RX1 101 yX1_workAt cX1_workAt 3 (some .int) wsX1_workAt rm_X1_workAt 0 0 2 := cwV 2 hts gX5_repeatsNoteBefore_X1_workAt rfl rfl rfl (by decide +kernel) ⟨Nat.le_of_ble_eq_true rfl, Nat.le_of_ble_eq_true rfl⟩
  have k6 := hts (.fieldLink RX5 19 "CitationFormatter$Renderer" "sequence" "[I") (by decide +kernel)
  have J44 : ∀ (y0_j44 : Int32), (m_X5_repeatsNoteBefore_J44 y0_j44 = some o) → ∀ (H : Heap) (locs : List Loc) (ls : Array Slot), va_P D vwCl (w_X5_repeatsNoteBefore cI aC aC_sz aC_cd aE aE_li aW aS aA aL aE_se C_n C_sz C_cd E_n E_se E_sn) H → va_D A (w_X5_repeatsNoteBefore cI aC aC_sz aC_cd aE aE_li aW aS aA aL aE_se C_n C_sz C_cd E_n E_se E_sn) → va_S A s.heap H locs → lv_has ls 2 [(0, .ref aE)] → W p l e rm_X5_repeatsNoteBefore s m args below meth c H locs 0 0 Q (F0 m 44 ls [.int y0_j44]) := by
    intro y0_j44 hm H locs ls hP hD hS hl
    replace hm := ckb_some hm
    obtain ⟨h1, hm⟩ := hm
    have h9 := Option.some.inj hm
    subst h9
    exact hret H locs _ ls _ h1 hP hD hS rfl dX5_repeatsNoteBefore_44
  have J43 : (m_X5_repeatsNoteBefore_J43 = some o) → ∀ (H : Heap) (locs : List Loc) (ls : Array Slot), va_P D vwCl (w_X5_repeatsNoteBefore cI aC aC_sz aC_cd aE aE_li aW aS aA aL aE_se C_n C_sz C_cd E_n E_se E_sn) H → va_D A (w_X5_repeatsNoteBefore cI aC aC_sz aC_cd aE aE_li aW aS aA aL aE_se C_n C_sz C_cd E_n E_se E_sn) → va_S A s.heap H locs → lv_has ls 2 [(0, .ref aE)] → W p l e rm_X5_repeatsNoteBefore s m args below meth c H locs 0 0 Q (F0 m 43 ls []) := by
    intro  hm H locs ls hP hD hS hl
    refine lv_iconst (v := 0) hx hb dX5_repeatsNoteBefore_43 (by decide) ?_
    exact J44 0 hm H locs ls hP hD hS (lv_sub hl [0] rfl)
  refine lv_iload_n hx hb dX5_repeatsNoteBefore_0 rfl (lv_at hl 1 rfl) ?_
  refine lv_if_le (tgt := 43) hx hb dX5_repeatsNoteBefore_1 (by decide) (fun c2 => ?_) (fun c2 => ?_)
  · replace hm := if_t c2 hm
    exact J43  hm H locs ls hP hD hS (lv_sub hl [0] rfl)
  · replace hm := if_f c2 hm
    refine lv_aload_n hx hb dX5_repeatsNoteBefore_4 rfl (lv_at hl 0 rfl) ?_
    refine va_get (D := D) (ci := 5) (v := .ref aC) (C := RX5) (T := TX5) (N := 9) hx hb hts k2 hown hKv hP 3 rfl rfl 4 (by decide) k1 (fun _ h9 => h9) rfl dX5_repeatsNoteBefore_5 ?_
    refine va_get (D := D) (ci := 1) (v := .ref aC_sz) (C := RX1) (T := TX1) (N := 3) hx hb hts k4 hown hKv hP 0 rfl rfl 1 (by decide) k3 (fun _ h9 => h9) rfl dX5_repeatsNoteBefore_8 ?_
    refine lv_iload_n hx hb dX5_repeatsNoteBefore_11 rfl (lv_at hl 1 rfl) ?_
    refine lv_iconst (v := 1) hx hb dX5_repeatsNoteBefore_12 (by decide) ?_
    refine lv_isub hx hb dX5_repeatsNoteBefore_13 ?_
    replace hm := ck_some hm
    obtain ⟨h3, hm⟩ := hm
    refine va_iald hx hb hKv hP 1 0 rfl rfl h3 dX5_repeatsNoteBefore_14 ?_
    refine lv_iconst (v := 1) hx hb dX5_repeatsNoteBefore_15 (by decide) ?_
    refine lv_icmp_ne (tgt := 43) hx hb dX5_repeatsNoteBefore_16 (by decide) (fun c4 => ?_) (fun c4 => ?_)
    · replace hm := if_f c4 hm
      exact J43  hm H locs ls hP hD hS (lv_sub hl [0] rfl)
    · replace hm := if_t c4 hm
      refine lv_aload_n hx hb dX5_repeatsNoteBefore_19 rfl (lv_at hl 0 rfl) ?_
      refine va_get (D := D) (ci := 5) (v := .ref aC) (C := RX5) (T := TX5) (N := 9) hx hb hts k2 hown hKv hP 3 rfl rfl 4 (by decide) k1 (fun _ h9 => h9) rfl dX5_repeatsNoteBefore_20 ?_
      refine lv_iload_n hx hb dX5_repeatsNoteBefore_23 rfl (lv_at hl 1 rfl) ?_
      refine lv_iconst (v := 1) hx hb dX5_repeatsNoteBefore_24 (by decide) ?_
      refine lv_isub hx hb dX5_repeatsNoteBefore_25 ?_
      refine lv_iconst (v := 0) hx hb dX5_repeatsNoteBefore_26 (by decide) ?_
      replace hm := bd_some hm
      obtain ⟨e5, hc5, hm⟩ := hm
      refine kV_i (rest := []) (ws' := (w_X5_repeatsNoteBefore cI aC aC_sz aC_cd aE aE_li aW aS aA aL aE_se C_n C_sz C_cd E_n E_se E_sn)) S (c_X1_workAt l D cI cJ cZ cS aC aC_sz aC_cd C_n C_cd (x1 - 1) 0 e5 hc5) k5 hK hP hD hS hA 0 rfl rfl rfl rfl hl.1 rfl (Nat.le_of_ble_eq_true rfl) ⟨Nat.zero_le _, Nat.zero_le _⟩ dX5_repeatsNoteBefore_27 [0, 2] rfl rfl wa_X1_workAt (sa_eq [(aC_sz, .inl (cI, 10, .inl C_sz)), (aE, .inr (5, [.int E_n, .ref aE_li, .ref aW, .ref aS, .ref aC, .ref aA, .ref aL, .ref aE_se, .int E_sn])), (aE_se, .inl (cI, 5, .inl E_se))] [1, 3, 4] 5 rfl rfl rfl rfl rfl rfl rfl) (fun H locs hP hD hS => ?_)
      refine lv_aload_n hx hb dX5_repeatsNoteBefore_30 rfl (lv_at hl 0 rfl) ?_
      refine va_get (D := D) (ci := 5) (v := .ref aE_se) (C := RX5) (T := TX5) (N := 9) hx hb hts k2 hown hKv hP 3 rfl rfl 7 (by decide) k6 (fun _ h9 => h9) rfl dX5_repeatsNoteBefore_31 ?_
      refine lv_iconst (v := 0) hx hb dX5_repeatsNoteBefore_34 (by decide) ?_
      replace hm := ck_some hm
      obtain ⟨h6, hm⟩ := hm
      refine va_iald hx hb hKv hP 4 0 rfl rfl h6 dX5_repeatsNoteBefore_35 ?_
      refine lv_icmp_ne (tgt := 43) hx hb dX5_repeatsNoteBefore_36 (by decide) (fun c7 => ?_) (fun c7 => ?_)
      · replace hm := if_f c7 hm
        exact J43  hm H locs ls hP hD hS (lv_sub hl [0] rfl)
      · replace hm := if_t c7 hm
        refine lv_iconst (v := 1) hx hb dX5_repeatsNoteBefore_39 (by decide) ?_
        refine lv_goto (tgt := 44) hx hb dX5_repeatsNoteBefore_40 (by decide) ?_
        exact J44 1 hm H locs ls hP hD hS (lv_sub hl [0] rfl)
set_option maxHeartbeats 4000000 in
set_option maxRecDepth 100000 in
theorem c_X5_writeAuthors (l : Launch) (D : va_G) (cI cJ cZ cS : ClassId) (aW aW_ac aW_fa aW_in aW_yr aW_ti aE aE_li aS aC aA aL aE_se : Nat) (W_n : Int32) (W_fa : Nat → Int32) (W_in : Nat → Int32) (E_n : Int32) (E_li : Nat → Int32) (E_sn : Int32) (x1 : Int32) (x2 : Int32) (x3 : Int32) (o : Int32 × (Nat → Int32)) (hm : m_X5_writeAuthors W_fa W_in E_n E_li x1 x2 x3 = some o) : MV l yX5_writeAuthors wsX5_writeAuthors rm_X5_writeAuthors D (TY cI cJ cZ cS) [.ref aE, .int x1, .int x2, .int x3] (w_X5_writeAuthors cI aW aW_ac aW_fa aW_in aW_yr aW_ti aE aE_li aS aC aA aL aE_se W_n W_fa W_in E_n E_li E_sn) (w_X5_writeAuthors cI aW aW_ac aW_fa aW_in aW_yr aW_ti aE aE_li aS aC aA aL aE_se W_n W_fa W_in o.1 o.2 E_sn) := by
  refine MV_of (cc := cX5_writeAuthors) (maxL := 5) (by decide) rfl (Nat.le_of_ble_eq_true rfl) ?_
  intro p e s m args below meth c A Q ls H locs hx hb hml hts hown hK hA hP hD hS hl hret
  have hown : s.vm.findClass RX5 = some m.cls := hown
  have hKv : va_K D vwCl (TY cI cJ cZ cS) s := hK.1
  have hl : lv_has ls 5 [(0, .ref aE), (1, .int x1), (2, .int x2), (3, .int x3)] := hl
  have S : CallFix p m c cX5_writeAuthors 5 s args wsX5_writeAuthors RX5 := ⟨hx, hb, hml, hown, hts⟩
  have k1 := hts (.fieldLink RX5 31 "CitationFormatter$Renderer" "works" "LCitationFormatter$Works;") (by decide +kernel)
  have k2 : ∀ w ∈ wsX50, w ∈ wsX5_writeAuthors := by decide +kernel
  have k3 := hts (.fieldLink RX5 179 "CitationFormatter$Works" "families" "[I") (by decide +kernel)
  have k4 : ∀ w ∈ wsX90, w ∈ wsX5_writeAuthors := by decide +kernel
  have k5 : CallW rm_X5_writeAuthors s args RX5 RX5 68 yX5_write cX5_write 2 none wsX5_write rm_X5_write 0 0 1 := cwV 1 hts gX5_writeAuthors_X5_write rfl rfl rfl (by decide +kernel) ⟨Nat.le_of_ble_eq_true rfl, Nat.le_of_ble_eq_true rfl⟩
  have k6 := hts (.fieldLink RX5 182 "CitationFormatter$Works" "initials" "[I") (by decide +kernel)
  refine lv_iconst (v := 0) hx hb dX5_writeAuthors_0 (by decide) ?_
  refine lv_istore (lv' := [(4, .int 0), (0, .ref aE), (1, .int x1), (2, .int x2), (3, .int x3)]) hx hb dX5_writeAuthors_1 hl (by decide) rfl (fun ls hl => ?_)
  replace hm := bd_some hm
  obtain ⟨e1, hc1, hm⟩ := hm
  have X1_0 : ∀ (H : Heap) (locs : List Loc) (ls : Array Slot), va_P D vwCl (w_X5_writeAuthors cI aW aW_ac aW_fa aW_in aW_yr aW_ti aE aE_li aS aC aA aL aE_se W_n W_fa W_in e1.1 e1.2 E_sn) H → va_D A (w_X5_writeAuthors cI aW aW_ac aW_fa aW_in aW_yr aW_ti aE aE_li aS aC aA aL aE_se W_n W_fa W_in e1.1 e1.2 E_sn) → va_S A s.heap H locs → lv_has ls 5 [(0, .ref aE)] → W p l e rm_X5_writeAuthors s m args below meth c H locs 0 0 Q (F0 m 66 ls []) := by
    intro H locs ls hP hD hS hl
    have h9 := Option.some.inj hm
    subst h9
    exact hret H locs _ ls hP hD hS dX5_writeAuthors_66
  refine it_W (G := fun (st3 : Int32 × Int32 × (Nat → Int32)) => ∀ (H : Heap) (locs : List Loc) (ls : Array Slot), va_P D vwCl (w_X5_writeAuthors cI aW aW_ac aW_fa aW_in aW_yr aW_ti aE aE_li aS aC aA aL aE_se W_n W_fa W_in st3.2.1 st3.2.2 E_sn) H → va_D A (w_X5_writeAuthors cI aW aW_ac aW_fa aW_in aW_yr aW_ti aE aE_li aS aC aA aL aE_se W_n W_fa W_in st3.2.1 st3.2.2 E_sn) → va_S A s.heap H locs → lv_has ls 5 [(0, .ref aE), (1, .int x1), (2, .int x2), (3, .int x3), (4, .int st3.1)] → W p l e rm_X5_writeAuthors s m args below meth c H locs 0 0 Q (F0 m 3 ls [])) (e := e1) (fun st3 x hm hG hE => ?_) fu _ hc1 H locs ls hP hD hS (lv_sub hl [1, 2, 3, 4, 0] rfl)
  intro H locs ls hP hD hS hl
  have J60 : ∀ (x4_j60 : Int32) (E_n_j60 : Int32) (E_li_j60 : Nat → Int32), (m_X5_writeAuthors_J60 x1 x2 x3 x4_j60 E_n_j60 E_li_j60 = some x) → ∀ (H : Heap) (locs : List Loc) (ls : Array Slot), va_P D vwCl (w_X5_writeAuthors cI aW aW_ac aW_fa aW_in aW_yr aW_ti aE aE_li aS aC aA aL aE_se W_n W_fa W_in E_n_j60 E_li_j60 E_sn) H → va_D A (w_X5_writeAuthors cI aW aW_ac aW_fa aW_in aW_yr aW_ti aE aE_li aS aC aA aL aE_se W_n W_fa W_in E_n_j60 E_li_j60 E_sn) → va_S A s.heap H locs → lv_has ls 5 [(0, .ref aE), (1, .int x1), (2, .int x2), (3, .int x3), (4, .int x4_j60)] → W p l e rm_X5_writeAuthors s m args below meth c H locs 0 0 Q (F0 m 60 ls []) := by
    intro x4_j60 E_n_j60 E_li_j60 hm H locs ls hP hD hS hl
    refine lv_iinc (v := (x4_j60 + 1)) (lv' := [(4, .int (x4_j60 + 1)), (0, .ref aE), (1, .int x1), (2, .int x2), (3, .int x3)]) hx hb dX5_writeAuthors_60 hl (k := 4) rfl rfl (by decide) rfl (fun ls hl => ?_)
    refine lv_goto (tgt := 3) hx hb dX5_writeAuthors_63 (by decide) ?_
    exact hG _ (Option.some.inj hm).symm H locs ls hP hD hS (lv_sub hl [1, 2, 3, 4, 0] rfl)
  have J20 : ∀ (x4_j20 : Int32) (E_n_j20 : Int32) (E_li_j20 : Nat → Int32), (m_X5_writeAuthors_J20 x1 x2 x3 x4_j20 W_fa W_in E_n_j20 E_li_j20 = some x) → ∀ (H : Heap) (locs : List Loc) (ls : Array Slot), va_P D vwCl (w_X5_writeAuthors cI aW aW_ac aW_fa aW_in aW_yr aW_ti aE aE_li aS aC aA aL aE_se W_n W_fa W_in E_n_j20 E_li_j20 E_sn) H → va_D A (w_X5_writeAuthors cI aW aW_ac aW_fa aW_in aW_yr aW_ti aE aE_li aS aC aA aL aE_se W_n W_fa W_in E_n_j20 E_li_j20 E_sn) → va_S A s.heap H locs → lv_has ls 5 [(0, .ref aE), (1, .int x1), (2, .int x2), (3, .int x3), (4, .int x4_j20)] → W p l e rm_X5_writeAuthors s m args below meth c H locs 0 0 Q (F0 m 20 ls []) := by
    intro x4_j20 E_n_j20 E_li_j20 hm H locs ls hP hD hS hl
    refine lv_aload_n hx hb dX5_writeAuthors_20 rfl (lv_at hl 0 rfl) ?_
    refine lv_aload_n hx hb dX5_writeAuthors_21 rfl (lv_at hl 0 rfl) ?_
    refine va_get (D := D) (ci := 5) (v := .ref aW) (C := RX5) (T := TX5) (N := 9) hx hb hts k2 hown hKv hP 3 rfl rfl 2 (by decide) k1 (fun _ h9 => h9) rfl dX5_writeAuthors_22 ?_
    refine va_get (D := D) (ci := 9) (v := .ref aW_fa) (C := RX9) (T := TX9) (N := 6) hx hb hts k4 hown hKv hP 0 rfl rfl 2 (by decide) k3 (fun _ h9 => h9) rfl dX5_writeAuthors_25 ?_
    refine lv_iload_n hx hb dX5_writeAuthors_28 rfl (lv_at hl 1 rfl) ?_
    refine lv_iconst (v := 4) hx hb dX5_writeAuthors_29 (by decide) ?_
    refine lv_imul hx hb dX5_writeAuthors_30 ?_
    refine lv_iload hx hb dX5_writeAuthors_31 (lv_at hl 4 rfl) ?_
    refine lv_iadd hx hb dX5_writeAuthors_33 ?_
    replace hm := ck_some hm
    obtain ⟨h2, hm⟩ := hm
    refine va_iald hx hb hKv hP 1 0 rfl rfl h2 dX5_writeAuthors_34 ?_
    replace hm := bd_some hm
    obtain ⟨e3, hc3, hm⟩ := hm
    refine kV_v (rest := []) (ws' := (w_X5_writeAuthors cI aW aW_ac aW_fa aW_in aW_yr aW_ti aE aE_li aS aC aA aL aE_se W_n W_fa W_in e3.1 e3.2 E_sn)) S (c_X5_write l D cI cJ cZ cS aE aE_li aW aS aC aA aL aE_se E_n_j20 E_li_j20 E_sn (W_fa (Int32.toNatClampNeg ((x1 * 4) + x4_j20))) e3 hc3) k5 hK hP hD hS hA 3 rfl rfl rfl rfl hl.1 rfl (Nat.le_of_ble_eq_true rfl) ⟨Nat.zero_le _, Nat.zero_le _⟩ dX5_writeAuthors_35 [3, 4] rfl rfl wa_X5_write (sa_eq [(aW, .inr (9, [.int W_n, .ref aW_ac, .ref aW_fa, .ref aW_in, .ref aW_yr, .ref aW_ti])), (aW_fa, .inl (cI, 32, .inl W_fa)), (aW_in, .inl (cI, 32, .inl W_in))] [0, 1, 2] 5 rfl rfl rfl rfl rfl rfl rfl) (fun H locs hP hD hS => ?_)
    refine lv_iload_n hx hb dX5_writeAuthors_38 rfl (lv_at hl 3 rfl) ?_
    refine lv_if_eq (tgt := 60) hx hb dX5_writeAuthors_39 (by decide) (fun c4 => ?_) (fun c4 => ?_)
    · replace hm := if_t c4 hm
      exact J60 x4_j20 e3.1 e3.2 hm H locs ls hP hD hS (lv_sub hl [0, 1, 2, 3, 4] rfl)
    · replace hm := if_f c4 hm
      refine lv_aload_n hx hb dX5_writeAuthors_42 rfl (lv_at hl 0 rfl) ?_
      refine lv_aload_n hx hb dX5_writeAuthors_43 rfl (lv_at hl 0 rfl) ?_
      refine va_get (D := D) (ci := 5) (v := .ref aW) (C := RX5) (T := TX5) (N := 9) hx hb hts k2 hown hKv hP 3 rfl rfl 2 (by decide) k1 (fun _ h9 => h9) rfl dX5_writeAuthors_44 ?_
      refine va_get (D := D) (ci := 9) (v := .ref aW_in) (C := RX9) (T := TX9) (N := 6) hx hb hts k4 hown hKv hP 0 rfl rfl 3 (by decide) k6 (fun _ h9 => h9) rfl dX5_writeAuthors_47 ?_
      refine lv_iload_n hx hb dX5_writeAuthors_50 rfl (lv_at hl 1 rfl) ?_
      refine lv_iconst (v := 4) hx hb dX5_writeAuthors_51 (by decide) ?_
      refine lv_imul hx hb dX5_writeAuthors_52 ?_
      refine lv_iload hx hb dX5_writeAuthors_53 (lv_at hl 4 rfl) ?_
      refine lv_iadd hx hb dX5_writeAuthors_55 ?_
      replace hm := ck_some hm
      obtain ⟨h5, hm⟩ := hm
      refine va_iald hx hb hKv hP 2 0 rfl rfl h5 dX5_writeAuthors_56 ?_
      replace hm := bd_some hm
      obtain ⟨e6, hc6, hm⟩ := hm
      refine kV_v (rest := []) (ws' := (w_X5_writeAuthors cI aW aW_ac aW_fa aW_in aW_yr aW_ti aE aE_li aS aC aA aL aE_se W_n W_fa W_in e6.1 e6.2 E_sn)) S (c_X5_write l D cI cJ cZ cS aE aE_li aW aS aC aA aL aE_se e3.1 e3.2 E_sn (W_in (Int32.toNatClampNeg ((x1 * 4) + x4_j20))) e6 hc6) k5 hK hP hD hS hA 3 rfl rfl rfl rfl hl.1 rfl (Nat.le_of_ble_eq_true rfl) ⟨Nat.zero_le _, Nat.zero_le _⟩ dX5_writeAuthors_57 [3, 4] rfl rfl wa_X5_write (sa_eq [(aW, .inr (9, [.int W_n, .ref aW_ac, .ref aW_fa, .ref aW_in, .ref aW_yr, .ref aW_ti])), (aW_fa, .inl (cI, 32, .inl W_fa)), (aW_in, .inl (cI, 32, .inl W_in))] [0, 1, 2] 5 rfl rfl rfl rfl rfl rfl rfl) (fun H locs hP hD hS => ?_)
      exact J60 x4_j20 e6.1 e6.2 hm H locs ls hP hD hS (lv_sub hl [0, 1, 2, 3, 4] rfl)
  refine lv_iload hx hb dX5_writeAuthors_3 (lv_at hl 4 rfl) ?_
  refine lv_iload_n hx hb dX5_writeAuthors_5 rfl (lv_at hl 2 rfl) ?_
  refine lv_icmp_ge (tgt := 66) hx hb dX5_writeAuthors_6 (by decide) (fun c7 => ?_) (fun c7 => ?_)
  · replace hm := if_t c7 hm
    have h9 := hE _ (Option.some.inj hm).symm
    subst h9
    exact X1_0 H locs ls hP hD hS (lv_sub hl [0] rfl)
  · replace hm := if_f c7 hm
    refine lv_iload hx hb dX5_writeAuthors_9 (lv_at hl 4 rfl) ?_
    refine lv_if_le (tgt := 20) hx hb dX5_writeAuthors_11 (by decide) (fun c8 => ?_) (fun c8 => ?_)
    · replace hm := if_t c8 hm
      exact J20 st3.1 st3.2.1 st3.2.2 hm H locs ls hP hD hS (lv_sub hl [0, 1, 2, 3, 4] rfl)
    · replace hm := if_f c8 hm
      refine lv_aload_n hx hb dX5_writeAuthors_14 rfl (lv_at hl 0 rfl) ?_
      refine lv_bipush (v := 38) hx hb dX5_writeAuthors_15 (by decide) ?_
      replace hm := bd_some hm
      obtain ⟨e9, hc9, hm⟩ := hm
      refine kV_v (rest := []) (ws' := (w_X5_writeAuthors cI aW aW_ac aW_fa aW_in aW_yr aW_ti aE aE_li aS aC aA aL aE_se W_n W_fa W_in e9.1 e9.2 E_sn)) S (c_X5_write l D cI cJ cZ cS aE aE_li aW aS aC aA aL aE_se st3.2.1 st3.2.2 E_sn 38 e9 hc9) k5 hK hP hD hS hA 3 rfl rfl rfl rfl hl.1 rfl (Nat.le_of_ble_eq_true rfl) ⟨Nat.zero_le _, Nat.zero_le _⟩ dX5_writeAuthors_17 [3, 4] rfl rfl wa_X5_write (sa_eq [(aW, .inr (9, [.int W_n, .ref aW_ac, .ref aW_fa, .ref aW_in, .ref aW_yr, .ref aW_ti])), (aW_fa, .inl (cI, 32, .inl W_fa)), (aW_in, .inl (cI, 32, .inl W_in))] [0, 1, 2] 5 rfl rfl rfl rfl rfl rfl rfl) (fun H locs hP hD hS => ?_)
      exact J20 st3.1 e9.1 e9.2 hm H locs ls hP hD hS (lv_sub hl [0, 1, 2, 3, 4] rfl)
set_option maxHeartbeats 4000000 in
set_option maxRecDepth 100000 in
theorem c_X5_writeNames (l : Launch) (D : va_G) (cI cJ cZ cS : ClassId) (aW aW_ac aW_fa aW_in aW_yr aW_ti aL aL_sh aL_wi aL_su aS aA aL_nk aL_gr aE aE_li aC aE_se : Nat) (W_n : Int32) (W_ac : Nat → Int32) (W_fa : Nat → Int32) (W_in : Nat → Int32) (L_sh : Nat → Int32) (L_wi : Nat → Int32) (E_n : Int32) (E_li : Nat → Int32) (E_sn : Int32) (x1 : Int32) (o : Int32 × (Nat → Int32)) (hm : m_X5_writeNames W_ac W_fa W_in L_sh L_wi E_n E_li x1 = some o) : MV l yX5_writeNames wsX5_writeNames rm_X5_writeNames D (TY cI cJ cZ cS) [.ref aE, .int x1] (w_X5_writeNames cI cZ aW aW_ac aW_fa aW_in aW_yr aW_ti aL aL_sh aL_wi aL_su aS aA aL_nk aL_gr aE aE_li aC aE_se W_n W_ac W_fa W_in L_sh L_wi E_n E_li E_sn) (w_X5_writeNames cI cZ aW aW_ac aW_fa aW_in aW_yr aW_ti aL aL_sh aL_wi aL_su aS aA aL_nk aL_gr aE aE_li aC aE_se W_n W_ac W_fa W_in L_sh L_wi o.1 o.2 E_sn) := by
  refine MV_of (cc := cX5_writeNames) (maxL := 2) (by decide) rfl (Nat.le_of_ble_eq_true rfl) ?_
  intro p e s m args below meth c A Q ls H locs hx hb hml hts hown hK hA hP hD hS hl hret
  have hown : s.vm.findClass RX5 = some m.cls := hown
  have hKv : va_K D vwCl (TY cI cJ cZ cS) s := hK.1
  have hl : lv_has ls 2 [(0, .ref aE), (1, .int x1)] := hl
  have S : CallFix p m c cX5_writeNames 2 s args wsX5_writeNames RX5 := ⟨hx, hb, hml, hown, hts⟩
  have k1 := hts (.fieldLink RX5 46 "CitationFormatter$Renderer" "labels" "LCitationFormatter$Labels;") (by decide +kernel)
  have k2 : ∀ w ∈ wsX50, w ∈ wsX5_writeNames := by decide +kernel
  have k3 := hts (.fieldLink RX5 162 "CitationFormatter$Labels" "shown" "[I") (by decide +kernel)
  have k4 : ∀ w ∈ wsX30, w ∈ wsX5_writeNames := by decide +kernel
  have k5 := hts (.fieldLink RX5 165 "CitationFormatter$Labels" "withInitials" "[Z") (by decide +kernel)
  have k6 : CallW rm_X5_writeNames s args RX5 RX5 169 yX5_writeAuthors cX5_writeAuthors 5 none wsX5_writeAuthors rm_X5_writeAuthors 0 0 3 := cwV 3 hts gX5_writeNames_X5_writeAuthors rfl rfl rfl (by decide +kernel) ⟨Nat.le_of_ble_eq_true rfl, Nat.le_of_ble_eq_true rfl⟩
  have k7 : CallW rm_X5_writeNames s args RX5 RX3 173 yX3_hidesAuthors cX3_hidesAuthors 2 (some .boolean) wsX3_hidesAuthors rm_X3_hidesAuthors 0 0 1 := cwV 1 hts gX5_writeNames_X3_hidesAuthors rfl rfl rfl (by decide +kernel) ⟨Nat.le_of_ble_eq_true rfl, Nat.le_of_ble_eq_true rfl⟩
  have k8 : CallW rm_X5_writeNames s args RX5 RX5 68 yX5_write cX5_write 2 none wsX5_write rm_X5_write 0 0 1 := cwV 1 hts gX5_writeNames_X5_write rfl rfl rfl (by decide +kernel) ⟨Nat.le_of_ble_eq_true rfl, Nat.le_of_ble_eq_true rfl⟩
  have J40 : ∀ (E_n_j40 : Int32) (E_li_j40 : Nat → Int32), (m_X5_writeNames_J40 E_n_j40 E_li_j40 = some o) → ∀ (H : Heap) (locs : List Loc) (ls : Array Slot), va_P D vwCl (w_X5_writeNames cI cZ aW aW_ac aW_fa aW_in aW_yr aW_ti aL aL_sh aL_wi aL_su aS aA aL_nk aL_gr aE aE_li aC aE_se W_n W_ac W_fa W_in L_sh L_wi E_n_j40 E_li_j40 E_sn) H → va_D A (w_X5_writeNames cI cZ aW aW_ac aW_fa aW_in aW_yr aW_ti aL aL_sh aL_wi aL_su aS aA aL_nk aL_gr aE aE_li aC aE_se W_n W_ac W_fa W_in L_sh L_wi E_n_j40 E_li_j40 E_sn) → va_S A s.heap H locs → lv_has ls 2 [(0, .ref aE)] → W p l e rm_X5_writeNames s m args below meth c H locs 0 0 Q (F0 m 40 ls []) := by
    intro E_n_j40 E_li_j40 hm H locs ls hP hD hS hl
    have h9 := Option.some.inj hm
    subst h9
    exact hret H locs _ ls hP hD hS dX5_writeNames_40
  refine lv_aload_n hx hb dX5_writeNames_0 rfl (lv_at hl 0 rfl) ?_
  refine lv_iload_n hx hb dX5_writeNames_1 rfl (lv_at hl 1 rfl) ?_
  refine lv_aload_n hx hb dX5_writeNames_2 rfl (lv_at hl 0 rfl) ?_
  refine va_get (D := D) (ci := 5) (v := .ref aL) (C := RX5) (T := TX5) (N := 9) hx hb hts k2 hown hKv hP 7 rfl rfl 6 (by decide) k1 (fun _ h9 => h9) rfl dX5_writeNames_3 ?_
  refine va_get (D := D) (ci := 3) (v := .ref aL_sh) (C := RX3) (T := TX3) (N := 8) hx hb hts k4 hown hKv hP 4 rfl rfl 0 (by decide) k3 (fun _ h9 => h9) rfl dX5_writeNames_6 ?_
  refine lv_iload_n hx hb dX5_writeNames_9 rfl (lv_at hl 1 rfl) ?_
  replace hm := ck_some hm
  obtain ⟨h1, hm⟩ := hm
  refine va_iald hx hb hKv hP 5 0 rfl rfl h1 dX5_writeNames_10 ?_
  refine lv_aload_n hx hb dX5_writeNames_11 rfl (lv_at hl 0 rfl) ?_
  refine va_get (D := D) (ci := 5) (v := .ref aL) (C := RX5) (T := TX5) (N := 9) hx hb hts k2 hown hKv hP 7 rfl rfl 6 (by decide) k1 (fun _ h9 => h9) rfl dX5_writeNames_12 ?_
  refine va_get (D := D) (ci := 3) (v := .ref aL_wi) (C := RX3) (T := TX3) (N := 8) hx hb hts k4 hown hKv hP 4 rfl rfl 1 (by decide) k5 (fun _ h9 => h9) rfl dX5_writeNames_15 ?_
  refine lv_iload_n hx hb dX5_writeNames_18 rfl (lv_at hl 1 rfl) ?_
  replace hm := ck_some hm
  obtain ⟨h2, hm⟩ := hm
  refine va_zald hx hb hKv hP 6 2 rfl rfl h2 dX5_writeNames_19 ?_
  replace hm := bd_some hm
  obtain ⟨e3, hc3, hm⟩ := hm
  refine kV_v (rest := []) (ws' := (w_X5_writeNames cI cZ aW aW_ac aW_fa aW_in aW_yr aW_ti aL aL_sh aL_wi aL_su aS aA aL_nk aL_gr aE aE_li aC aE_se W_n W_ac W_fa W_in L_sh L_wi e3.1 e3.2 E_sn)) S (c_X5_writeAuthors l D cI cJ cZ cS aW aW_ac aW_fa aW_in aW_yr aW_ti aE aE_li aS aC aA aL aE_se W_n W_fa W_in E_n E_li E_sn x1 (L_sh (Int32.toNatClampNeg x1)) (L_wi (Int32.toNatClampNeg x1)) e3 hc3) k6 hK hP hD hS hA 7 rfl rfl rfl rfl hl.1 rfl (Nat.le_of_ble_eq_true rfl) ⟨Nat.zero_le _, Nat.zero_le _⟩ dX5_writeNames_20 [0, 2, 3, 7, 8] rfl rfl wa_X5_writeAuthors (sa_eq [(aW_ac, .inl (cI, 8, .inl W_ac)), (aL, .inr (3, [.ref aL_sh, .ref aL_wi, .ref aL_su, .ref aW, .ref aS, .ref aA, .ref aL_nk, .ref aL_gr])), (aL_sh, .inl (cI, 8, .inl L_sh)), (aL_wi, .inl (cZ, 8, .inl L_wi))] [1, 4, 5, 6] 9 rfl rfl rfl rfl rfl rfl rfl) (fun H locs hP hD hS => ?_)
  refine lv_aload_n hx hb dX5_writeNames_23 rfl (lv_at hl 0 rfl) ?_
  refine va_get (D := D) (ci := 5) (v := .ref aL) (C := RX5) (T := TX5) (N := 9) hx hb hts k2 hown hKv hP 7 rfl rfl 6 (by decide) k1 (fun _ h9 => h9) rfl dX5_writeNames_24 ?_
  refine lv_iload_n hx hb dX5_writeNames_27 rfl (lv_at hl 1 rfl) ?_
  replace hm := bd_some hm
  obtain ⟨e4, hc4, hm⟩ := hm
  refine kV_i (rest := []) (ws' := (w_X5_writeNames cI cZ aW aW_ac aW_fa aW_in aW_yr aW_ti aL aL_sh aL_wi aL_su aS aA aL_nk aL_gr aE aE_li aC aE_se W_n W_ac W_fa W_in L_sh L_wi e3.1 e3.2 E_sn)) S (c_X3_hidesAuthors l D cI cJ cZ cS aW aW_ac aW_fa aW_in aW_yr aW_ti aL aL_sh aL_wi aL_su aS aA aL_nk aL_gr W_n W_ac L_sh x1 e4 hc4) k7 hK hP hD hS hA 4 rfl rfl rfl rfl hl.1 rfl (Nat.le_of_ble_eq_true rfl) ⟨Nat.zero_le _, Nat.zero_le _⟩ dX5_writeNames_28 [0, 1, 4, 5] rfl rfl wa_X3_hidesAuthors (sa_eq [(aW_fa, .inl (cI, 32, .inl W_fa)), (aW_in, .inl (cI, 32, .inl W_in)), (aL_wi, .inl (cZ, 8, .inl L_wi)), (aE, .inr (5, [.int e3.1, .ref aE_li, .ref aW, .ref aS, .ref aC, .ref aA, .ref aL, .ref aE_se, .int E_sn])), (aE_li, .inl (cI, 100, .inl e3.2))] [2, 3, 6, 7, 8] 9 rfl rfl rfl rfl rfl rfl rfl) (fun H locs hP hD hS => ?_)
  refine lv_if_eq (tgt := 40) hx hb dX5_writeNames_31 (by decide) (fun c5 => ?_) (fun c5 => ?_)
  · replace hm := if_t c5 hm
    exact J40 e3.1 e3.2 hm H locs ls hP hD hS (lv_sub hl [0] rfl)
  · replace hm := if_f c5 hm
    refine lv_aload_n hx hb dX5_writeNames_34 rfl (lv_at hl 0 rfl) ?_
    refine lv_bipush (v := 43) hx hb dX5_writeNames_35 (by decide) ?_
    replace hm := bd_some hm
    obtain ⟨e6, hc6, hm⟩ := hm
    refine kV_v (rest := []) (ws' := (w_X5_writeNames cI cZ aW aW_ac aW_fa aW_in aW_yr aW_ti aL aL_sh aL_wi aL_su aS aA aL_nk aL_gr aE aE_li aC aE_se W_n W_ac W_fa W_in L_sh L_wi e6.1 e6.2 E_sn)) S (c_X5_write l D cI cJ cZ cS aE aE_li aW aS aC aA aL aE_se e3.1 e3.2 E_sn 43 e6 hc6) k8 hK hP hD hS hA 7 rfl rfl rfl rfl hl.1 rfl (Nat.le_of_ble_eq_true rfl) ⟨Nat.zero_le _, Nat.zero_le _⟩ dX5_writeNames_37 [7, 8] rfl rfl wa_X5_write (sa_eq [(aW, .inr (9, [.int W_n, .ref aW_ac, .ref aW_fa, .ref aW_in, .ref aW_yr, .ref aW_ti])), (aW_ac, .inl (cI, 8, .inl W_ac)), (aW_fa, .inl (cI, 32, .inl W_fa)), (aW_in, .inl (cI, 32, .inl W_in)), (aL, .inr (3, [.ref aL_sh, .ref aL_wi, .ref aL_su, .ref aW, .ref aS, .ref aA, .ref aL_nk, .ref aL_gr])), (aL_sh, .inl (cI, 8, .inl L_sh)), (aL_wi, .inl (cZ, 8, .inl L_wi))] [0, 1, 2, 3, 4, 5, 6] 9 rfl rfl rfl rfl rfl rfl rfl) (fun H locs hP hD hS => ?_)
    exact J40 e6.1 e6.2 hm H locs ls hP hD hS (lv_sub hl [0] rfl)
set_option maxHeartbeats 4000000 in
set_option maxRecDepth 100000 in
theorem c_X5_writeDigit (l : Launch) (D : va_G) (cI cJ cZ cS : ClassId) (aE aE_li aW aS aC aA aL aE_se : Nat) (E_n : Int32) (E_li : Nat → Int32) (E_sn : Int32) (x1 : Int32) (o : Int32 × (Nat → Int32)) (hm : m_X5_writeDigit E_n E_li x1 = some o) : MV l yX5_writeDigit wsX5_writeDigit rm_X5_writeDigit D (TY cI cJ cZ cS) [.ref aE, .int x1] (w_X5_writeDigit cI aE aE_li aW aS aC aA aL aE_se E_n E_li E_sn) (w_X5_writeDigit cI aE aE_li aW aS aC aA aL aE_se o.1 o.2 E_sn) := by
  refine MV_of (cc := cX5_writeDigit) (maxL := 2) (by decide) rfl (Nat.le_of_ble_eq_true rfl) ?_
  intro p e s m args below meth c A Q ls H locs hx hb hml hts hown hK hA hP hD hS hl hret
  have hown : s.vm.findClass RX5 = some m.cls := hown
  have hKv : va_K D vwCl (TY cI cJ cZ cS) s := hK.1
  have hl : lv_has ls 2 [(0, .ref aE), (1, .int x1)] := hl
  have S : CallFix p m c cX5_writeDigit 2 s args wsX5_writeDigit RX5 := ⟨hx, hb, hml, hown, hts⟩
  have k1 : CallW rm_X5_writeDigit s args RX5 RX5 68 yX5_write cX5_write 2 none wsX5_write rm_X5_write 0 0 1 := cwV 1 hts gX5_writeDigit_X5_write rfl rfl rfl (by decide +kernel) ⟨Nat.le_of_ble_eq_true rfl, Nat.le_of_ble_eq_true rfl⟩
  refine lv_aload_n hx hb dX5_writeDigit_0 rfl (lv_at hl 0 rfl) ?_
  refine lv_bipush (v := 48) hx hb dX5_writeDigit_1 (by decide) ?_
  refine lv_iload_n hx hb dX5_writeDigit_3 rfl (lv_at hl 1 rfl) ?_
  refine lv_iadd hx hb dX5_writeDigit_4 ?_
  replace hm := bd_some hm
  obtain ⟨e1, hc1, hm⟩ := hm
  refine kV_v (rest := []) (ws' := (w_X5_writeDigit cI aE aE_li aW aS aC aA aL aE_se e1.1 e1.2 E_sn)) S (c_X5_write l D cI cJ cZ cS aE aE_li aW aS aC aA aL aE_se E_n E_li E_sn (48 + x1) e1 hc1) k1 hK hP hD hS hA 0 rfl rfl rfl rfl hl.1 rfl (Nat.le_of_ble_eq_true rfl) ⟨Nat.zero_le _, Nat.zero_le _⟩ dX5_writeDigit_5 [0, 1] rfl rfl wa_X5_write (sa_eq [] [] 2 rfl rfl rfl rfl rfl rfl rfl) (fun H locs hP hD hS => ?_)
  have h9 := Option.some.inj hm
  subst h9
  exact hret H locs _ ls hP hD hS dX5_writeDigit_8
set_option maxHeartbeats 4000000 in
set_option maxRecDepth 100000 in
theorem c_X5_writeAllAuthors (l : Launch) (D : va_G) (cI cJ cZ cS : ClassId) (aW aW_ac aW_fa aW_in aW_yr aW_ti aE aE_li aS aC aA aL aE_se : Nat) (W_n : Int32) (W_ac : Nat → Int32) (W_fa : Nat → Int32) (W_in : Nat → Int32) (E_n : Int32) (E_li : Nat → Int32) (E_sn : Int32) (x1 : Int32) (o : Int32 × (Nat → Int32)) (hm : m_X5_writeAllAuthors W_ac W_fa W_in E_n E_li x1 = some o) : MV l yX5_writeAllAuthors wsX5_writeAllAuthors rm_X5_writeAllAuthors D (TY cI cJ cZ cS) [.ref aE, .int x1] (w_X5_writeAllAuthors cI aW aW_ac aW_fa aW_in aW_yr aW_ti aE aE_li aS aC aA aL aE_se W_n W_ac W_fa W_in E_n E_li E_sn) (w_X5_writeAllAuthors cI aW aW_ac aW_fa aW_in aW_yr aW_ti aE aE_li aS aC aA aL aE_se W_n W_ac W_fa W_in o.1 o.2 E_sn) := by
  refine MV_of (cc := cX5_writeAllAuthors) (maxL := 2) (by decide) rfl (Nat.le_of_ble_eq_true rfl) ?_
  intro p e s m args below meth c A Q ls H locs hx hb hml hts hown hK hA hP hD hS hl hret
  have hown : s.vm.findClass RX5 = some m.cls := hown
  have hKv : va_K D vwCl (TY cI cJ cZ cS) s := hK.1
  have hl : lv_has ls 2 [(0, .ref aE), (1, .int x1)] := hl
  have S : CallFix p m c cX5_writeAllAuthors 2 s args wsX5_writeAllAuthors RX5 := ⟨hx, hb, hml, hown, hts⟩
  have k1 := hts (.fieldLink RX5 31 "CitationFormatter$Renderer" "works" "LCitationFormatter$Works;") (by decide +kernel)
  have k2 : ∀ w ∈ wsX50, w ∈ wsX5_writeAllAuthors := by decide +kernel
  have k3 := hts (.fieldLink RX5 176 "CitationFormatter$Works" "authorCounts" "[I") (by decide +kernel)
  have k4 : ∀ w ∈ wsX90, w ∈ wsX5_writeAllAuthors := by decide +kernel
  have k5 : CallW rm_X5_writeAllAuthors s args RX5 RX5 169 yX5_writeAuthors cX5_writeAuthors 5 none wsX5_writeAuthors rm_X5_writeAuthors 0 0 3 := cwV 3 hts gX5_writeAllAuthors_X5_writeAuthors rfl rfl rfl (by decide +kernel) ⟨Nat.le_of_ble_eq_true rfl, Nat.le_of_ble_eq_true rfl⟩
  refine lv_aload_n hx hb dX5_writeAllAuthors_0 rfl (lv_at hl 0 rfl) ?_
  refine lv_iload_n hx hb dX5_writeAllAuthors_1 rfl (lv_at hl 1 rfl) ?_
  refine lv_aload_n hx hb dX5_writeAllAuthors_2 rfl (lv_at hl 0 rfl) ?_
  refine va_get (D := D) (ci := 5) (v := .ref aW) (C := RX5) (T := TX5) (N := 9) hx hb hts k2 hown hKv hP 4 rfl rfl 2 (by decide) k1 (fun _ h9 => h9) rfl dX5_writeAllAuthors_3 ?_
  refine va_get (D := D) (ci := 9) (v := .ref aW_ac) (C := RX9) (T := TX9) (N := 6) hx hb hts k4 hown hKv hP 0 rfl rfl 1 (by decide) k3 (fun _ h9 => h9) rfl dX5_writeAllAuthors_6 ?_
  refine lv_iload_n hx hb dX5_writeAllAuthors_9 rfl (lv_at hl 1 rfl) ?_
  replace hm := ck_some hm
  obtain ⟨h1, hm⟩ := hm
  refine va_iald hx hb hKv hP 1 0 rfl rfl h1 dX5_writeAllAuthors_10 ?_
  refine lv_iconst (v := 1) hx hb dX5_writeAllAuthors_11 (by decide) ?_
  replace hm := bd_some hm
  obtain ⟨e2, hc2, hm⟩ := hm
  refine kV_v (rest := []) (ws' := (w_X5_writeAllAuthors cI aW aW_ac aW_fa aW_in aW_yr aW_ti aE aE_li aS aC aA aL aE_se W_n W_ac W_fa W_in e2.1 e2.2 E_sn)) S (c_X5_writeAuthors l D cI cJ cZ cS aW aW_ac aW_fa aW_in aW_yr aW_ti aE aE_li aS aC aA aL aE_se W_n W_fa W_in E_n E_li E_sn x1 (W_ac (Int32.toNatClampNeg x1)) 1 e2 hc2) k5 hK hP hD hS hA 4 rfl rfl rfl rfl hl.1 rfl (Nat.le_of_ble_eq_true rfl) ⟨Nat.zero_le _, Nat.zero_le _⟩ dX5_writeAllAuthors_12 [0, 2, 3, 4, 5] rfl rfl wa_X5_writeAuthors (sa_eq [(aW_ac, .inl (cI, 8, .inl W_ac))] [1] 6 rfl rfl rfl rfl rfl rfl rfl) (fun H locs hP hD hS => ?_)
  have h9 := Option.some.inj hm
  subst h9
  exact hret H locs _ ls hP hD hS dX5_writeAllAuthors_15
set_option maxHeartbeats 4000000 in
set_option maxRecDepth 100000 in
theorem c_X5_writeYear (l : Launch) (D : va_G) (cI cJ cZ cS : ClassId) (aW aW_ac aW_fa aW_in aW_yr aW_ti aE aE_li aS aC aA aL aE_se : Nat) (W_n : Int32) (W_yr : Nat → Int32) (E_n : Int32) (E_li : Nat → Int32) (E_sn : Int32) (x1 : Int32) (o : Int32 × (Nat → Int32)) (hm : m_X5_writeYear W_yr E_n E_li x1 = some o) : MV l yX5_writeYear wsX5_writeYear rm_X5_writeYear D (TY cI cJ cZ cS) [.ref aE, .int x1] (w_X5_writeYear cI aW aW_ac aW_fa aW_in aW_yr aW_ti aE aE_li aS aC aA aL aE_se W_n W_yr E_n E_li E_sn) (w_X5_writeYear cI aW aW_ac aW_fa aW_in aW_yr aW_ti aE aE_li aS aC aA aL aE_se W_n W_yr o.1 o.2 E_sn) := by
  refine MV_of (cc := cX5_writeYear) (maxL := 2) (by decide) rfl (Nat.le_of_ble_eq_true rfl) ?_
  intro p e s m args below meth c A Q ls H locs hx hb hml hts hown hK hA hP hD hS hl hret
  have hown : s.vm.findClass RX5 = some m.cls := hown
  have hKv : va_K D vwCl (TY cI cJ cZ cS) s := hK.1
  have hl : lv_has ls 2 [(0, .ref aE), (1, .int x1)] := hl
  have S : CallFix p m c cX5_writeYear 2 s args wsX5_writeYear RX5 := ⟨hx, hb, hml, hown, hts⟩
  have k1 := hts (.fieldLink RX5 31 "CitationFormatter$Renderer" "works" "LCitationFormatter$Works;") (by decide +kernel)
  have k2 : ∀ w ∈ wsX50, w ∈ wsX5_writeYear := by decide +kernel
  have k3 := hts (.fieldLink RX5 139 "CitationFormatter$Works" "years" "[I") (by decide +kernel)
  have k4 : ∀ w ∈ wsX90, w ∈ wsX5_writeYear := by decide +kernel
  have k5 : CallW rm_X5_writeYear s args RX5 RX5 76 yX5_writeDigit cX5_writeDigit 2 none wsX5_writeDigit rm_X5_writeDigit 0 0 1 := cwV 1 hts gX5_writeYear_X5_writeDigit rfl rfl rfl (by decide +kernel) ⟨Nat.le_of_ble_eq_true rfl, Nat.le_of_ble_eq_true rfl⟩
  refine lv_aload_n hx hb dX5_writeYear_0 rfl (lv_at hl 0 rfl) ?_
  refine lv_aload_n hx hb dX5_writeYear_1 rfl (lv_at hl 0 rfl) ?_
  refine va_get (D := D) (ci := 5) (v := .ref aW) (C := RX5) (T := TX5) (N := 9) hx hb hts k2 hown hKv hP 2 rfl rfl 2 (by decide) k1 (fun _ h9 => h9) rfl dX5_writeYear_2 ?_
  refine va_get (D := D) (ci := 9) (v := .ref aW_yr) (C := RX9) (T := TX9) (N := 6) hx hb hts k4 hown hKv hP 0 rfl rfl 4 (by decide) k3 (fun _ h9 => h9) rfl dX5_writeYear_5 ?_
  refine lv_iload_n hx hb dX5_writeYear_8 rfl (lv_at hl 1 rfl) ?_
  replace hm := ck_some hm
  obtain ⟨h1, hm⟩ := hm
  refine va_iald hx hb hKv hP 1 0 rfl rfl h1 dX5_writeYear_9 ?_
  refine lv_bipush (v := 10) hx hb dX5_writeYear_10 (by decide) ?_
  refine lv_idiv hx hb dX5_writeYear_12 (by decide) ?_
  replace hm := bd_some hm
  obtain ⟨e2, hc2, hm⟩ := hm
  refine kV_v (rest := []) (ws' := (w_X5_writeYear cI aW aW_ac aW_fa aW_in aW_yr aW_ti aE aE_li aS aC aA aL aE_se W_n W_yr e2.1 e2.2 E_sn)) S (c_X5_writeDigit l D cI cJ cZ cS aE aE_li aW aS aC aA aL aE_se E_n E_li E_sn ((W_yr (Int32.toNatClampNeg x1)) / 10) e2 hc2) k5 hK hP hD hS hA 2 rfl rfl rfl rfl hl.1 rfl (Nat.le_of_ble_eq_true rfl) ⟨Nat.zero_le _, Nat.zero_le _⟩ dX5_writeYear_13 [2, 3] rfl rfl wa_X5_writeDigit (sa_eq [(aW, .inr (9, [.int W_n, .ref aW_ac, .ref aW_fa, .ref aW_in, .ref aW_yr, .ref aW_ti])), (aW_yr, .inl (cI, 8, .inl W_yr))] [0, 1] 4 rfl rfl rfl rfl rfl rfl rfl) (fun H locs hP hD hS => ?_)
  refine lv_aload_n hx hb dX5_writeYear_16 rfl (lv_at hl 0 rfl) ?_
  refine lv_aload_n hx hb dX5_writeYear_17 rfl (lv_at hl 0 rfl) ?_
  refine va_get (D := D) (ci := 5) (v := .ref aW) (C := RX5) (T := TX5) (N := 9) hx hb hts k2 hown hKv hP 2 rfl rfl 2 (by decide) k1 (fun _ h9 => h9) rfl dX5_writeYear_18 ?_
  refine va_get (D := D) (ci := 9) (v := .ref aW_yr) (C := RX9) (T := TX9) (N := 6) hx hb hts k4 hown hKv hP 0 rfl rfl 4 (by decide) k3 (fun _ h9 => h9) rfl dX5_writeYear_21 ?_
  refine lv_iload_n hx hb dX5_writeYear_24 rfl (lv_at hl 1 rfl) ?_
  replace hm := ck_some hm
  obtain ⟨h3, hm⟩ := hm
  refine va_iald hx hb hKv hP 1 0 rfl rfl h3 dX5_writeYear_25 ?_
  refine lv_bipush (v := 10) hx hb dX5_writeYear_26 (by decide) ?_
  refine lv_irem hx hb dX5_writeYear_28 (by decide) ?_
  replace hm := bd_some hm
  obtain ⟨e4, hc4, hm⟩ := hm
  refine kV_v (rest := []) (ws' := (w_X5_writeYear cI aW aW_ac aW_fa aW_in aW_yr aW_ti aE aE_li aS aC aA aL aE_se W_n W_yr e4.1 e4.2 E_sn)) S (c_X5_writeDigit l D cI cJ cZ cS aE aE_li aW aS aC aA aL aE_se e2.1 e2.2 E_sn ((W_yr (Int32.toNatClampNeg x1)) - (W_yr (Int32.toNatClampNeg x1)) / 10 * 10) e4 hc4) k5 hK hP hD hS hA 2 rfl rfl rfl rfl hl.1 rfl (Nat.le_of_ble_eq_true rfl) ⟨Nat.zero_le _, Nat.zero_le _⟩ dX5_writeYear_29 [2, 3] rfl rfl wa_X5_writeDigit (sa_eq [(aW, .inr (9, [.int W_n, .ref aW_ac, .ref aW_fa, .ref aW_in, .ref aW_yr, .ref aW_ti])), (aW_yr, .inl (cI, 8, .inl W_yr))] [0, 1] 4 rfl rfl rfl rfl rfl rfl rfl) (fun H locs hP hD hS => ?_)
  have h9 := Option.some.inj hm
  subst h9
  exact hret H locs _ ls hP hD hS dX5_writeYear_32
set_option maxHeartbeats 4000000 in
set_option maxRecDepth 100000 in
theorem c_X5_writeNoted (l : Launch) (D : va_G) (cI cJ cZ cS : ClassId) (aW aW_ac aW_fa aW_in aW_yr aW_ti aC aC_sz aC_cd aL aL_sh aL_wi aL_su aS aA aL_nk aL_gr aE aE_li aE_se : Nat) (W_n : Int32) (W_ac : Nat → Int32) (W_fa : Nat → Int32) (W_in : Nat → Int32) (W_yr : Nat → Int32) (W_ti : Nat → Int32) (C_n : Int32) (C_sz : Nat → Int32) (C_cd : Nat → Int32) (L_sh : Nat → Int32) (L_wi : Nat → Int32) (E_n : Int32) (E_li : Nat → Int32) (E_sn : Int32) (x1 : Int32) (x2 : Int32) (o : Int32 × (Nat → Int32)) (hm : m_X5_writeNoted W_ac W_fa W_in W_yr W_ti C_n C_sz C_cd L_sh L_wi E_n E_li x1 x2 = some o) : MV l yX5_writeNoted wsX5_writeNoted rm_X5_writeNoted D (TY cI cJ cZ cS) [.ref aE, .int x1, .int x2] (w_X5_writeNoted cI cZ aW aW_ac aW_fa aW_in aW_yr aW_ti aC aC_sz aC_cd aL aL_sh aL_wi aL_su aS aA aL_nk aL_gr aE aE_li aE_se W_n W_ac W_fa W_in W_yr W_ti C_n C_sz C_cd L_sh L_wi E_n E_li E_sn) (w_X5_writeNoted cI cZ aW aW_ac aW_fa aW_in aW_yr aW_ti aC aC_sz aC_cd aL aL_sh aL_wi aL_su aS aA aL_nk aL_gr aE aE_li aE_se W_n W_ac W_fa W_in W_yr W_ti C_n C_sz C_cd L_sh L_wi o.1 o.2 E_sn) := by
  refine MV_of (cc := cX5_writeNoted) (maxL := 4) (by decide) rfl (Nat.le_of_ble_eq_true rfl) ?_
  intro p e s m args below meth c A Q ls H locs hx hb hml hts hown hK hA hP hD hS hl hret
  have hown : s.vm.findClass RX5 = some m.cls := hown
  have hKv : va_K D vwCl (TY cI cJ cZ cS) s := hK.1
  have hl : lv_has ls 4 [(0, .ref aE), (1, .int x1), (2, .int x2)] := hl
  have S : CallFix p m c cX5_writeNoted 4 s args wsX5_writeNoted RX5 := ⟨hx, hb, hml, hown, hts⟩
  have k1 := hts (.fieldLink RX5 41 "CitationFormatter$Renderer" "citations" "LCitationFormatter$Citations;") (by decide +kernel)
  have k2 : ∀ w ∈ wsX50, w ∈ wsX5_writeNoted := by decide +kernel
  have k3 : CallW rm_X5_writeNoted s args RX5 RX1 156 yX1_earliestCiting cX1_earliestCiting 3 (some .int) wsX1_earliestCiting rm_X1_earliestCiting 0 0 1 := cwV 1 hts gX5_writeNoted_X1_earliestCiting rfl rfl rfl (by decide +kernel) ⟨Nat.le_of_ble_eq_true rfl, Nat.le_of_ble_eq_true rfl⟩
  have k4 : CallW rm_X5_writeNoted s args RX5 RX5 79 yX5_writeAllAuthors cX5_writeAllAuthors 2 none wsX5_writeAllAuthors rm_X5_writeAllAuthors 0 0 1 := cwV 1 hts gX5_writeNoted_X5_writeAllAuthors rfl rfl rfl (by decide +kernel) ⟨Nat.le_of_ble_eq_true rfl, Nat.le_of_ble_eq_true rfl⟩
  have k5 := hts (.fieldLink RX5 31 "CitationFormatter$Renderer" "works" "LCitationFormatter$Works;") (by decide +kernel)
  have k6 := hts (.fieldLink RX5 88 "CitationFormatter$Works" "titles" "[I") (by decide +kernel)
  have k7 : ∀ w ∈ wsX90, w ∈ wsX5_writeNoted := by decide +kernel
  have k8 : CallW rm_X5_writeNoted s args RX5 RX5 68 yX5_write cX5_write 2 none wsX5_write rm_X5_write 0 0 1 := cwV 1 hts gX5_writeNoted_X5_write rfl rfl rfl (by decide +kernel) ⟨Nat.le_of_ble_eq_true rfl, Nat.le_of_ble_eq_true rfl⟩
  have k9 : CallW rm_X5_writeNoted s args RX5 RX5 82 yX5_writeYear cX5_writeYear 2 none wsX5_writeYear rm_X5_writeYear 0 0 1 := cwV 1 hts gX5_writeNoted_X5_writeYear rfl rfl rfl (by decide +kernel) ⟨Nat.le_of_ble_eq_true rfl, Nat.le_of_ble_eq_true rfl⟩
  have k10 : CallW rm_X5_writeNoted s args RX5 RX5 159 yX5_writeNames cX5_writeNames 2 none wsX5_writeNames rm_X5_writeNames 0 0 1 := cwV 1 hts gX5_writeNoted_X5_writeNames rfl rfl rfl (by decide +kernel) ⟨Nat.le_of_ble_eq_true rfl, Nat.le_of_ble_eq_true rfl⟩
  have k11 : CallW rm_X5_writeNoted s args RX5 RX5 76 yX5_writeDigit cX5_writeDigit 2 none wsX5_writeDigit rm_X5_writeDigit 0 0 1 := cwV 1 hts gX5_writeNoted_X5_writeDigit rfl rfl rfl (by decide +kernel) ⟨Nat.le_of_ble_eq_true rfl, Nat.le_of_ble_eq_true rfl⟩
  refine lv_aload_n hx hb dX5_writeNoted_0 rfl (lv_at hl 0 rfl) ?_
  refine va_get (D := D) (ci := 5) (v := .ref aC) (C := RX5) (T := TX5) (N := 9) hx hb hts k2 hown hKv hP 12 rfl rfl 4 (by decide) k1 (fun _ h9 => h9) rfl dX5_writeNoted_1 ?_
  refine lv_iload_n hx hb dX5_writeNoted_4 rfl (lv_at hl 2 rfl) ?_
  replace hm := bd_some hm
  obtain ⟨e1, hc1, hm⟩ := hm
  refine kV_i (rest := []) (ws' := (w_X5_writeNoted cI cZ aW aW_ac aW_fa aW_in aW_yr aW_ti aC aC_sz aC_cd aL aL_sh aL_wi aL_su aS aA aL_nk aL_gr aE aE_li aE_se W_n W_ac W_fa W_in W_yr W_ti C_n C_sz C_cd L_sh L_wi E_n E_li E_sn)) S (c_X1_earliestCiting l D cI cJ cZ cS aC aC_sz aC_cd C_n C_sz C_cd x2 e1 hc1) k3 hK hP hD hS hA 6 rfl rfl rfl rfl hl.1 rfl (Nat.le_of_ble_eq_true rfl) ⟨Nat.zero_le _, Nat.zero_le _⟩ dX5_writeNoted_5 [6, 7, 8] rfl rfl wa_X1_earliestCiting (sa_eq [(aW, .inr (9, [.int W_n, .ref aW_ac, .ref aW_fa, .ref aW_in, .ref aW_yr, .ref aW_ti])), (aW_ac, .inl (cI, 8, .inl W_ac)), (aW_fa, .inl (cI, 32, .inl W_fa)), (aW_in, .inl (cI, 32, .inl W_in)), (aW_yr, .inl (cI, 8, .inl W_yr)), (aW_ti, .inl (cI, 8, .inl W_ti)), (aL, .inr (3, [.ref aL_sh, .ref aL_wi, .ref aL_su, .ref aW, .ref aS, .ref aA, .ref aL_nk, .ref aL_gr])), (aL_sh, .inl (cI, 8, .inl L_sh)), (aL_wi, .inl (cZ, 8, .inl L_wi)), (aE, .inr (5, [.int E_n, .ref aE_li, .ref aW, .ref aS, .ref aC, .ref aA, .ref aL, .ref aE_se, .int E_sn])), (aE_li, .inl (cI, 100, .inl E_li))] [0, 1, 2, 3, 4, 5, 9, 10, 11, 12, 13] 14 rfl rfl rfl rfl rfl rfl rfl) (fun H locs hP hD hS => ?_)
  refine lv_istore_n (lv' := [(3, .int e1), (0, .ref aE), (1, .int x1), (2, .int x2)]) hx hb dX5_writeNoted_8 rfl hl (by decide) rfl (fun ls hl => ?_)
  refine lv_iload_n hx hb dX5_writeNoted_9 rfl (lv_at hl 0 rfl) ?_
  refine lv_iload_n hx hb dX5_writeNoted_10 rfl (lv_at hl 2 rfl) ?_
  refine lv_icmp_ge (tgt := 33) hx hb dX5_writeNoted_11 (by decide) (fun c2 => ?_) (fun c2 => ?_)
  · replace hm := if_t c2 hm
    refine lv_aload_n hx hb dX5_writeNoted_33 rfl (lv_at hl 1 rfl) ?_
    refine lv_iload_n hx hb dX5_writeNoted_34 rfl (lv_at hl 3 rfl) ?_
    replace hm := bd_some hm
    obtain ⟨e3, hc3, hm⟩ := hm
    refine kV_v (rest := []) (ws' := (w_X5_writeNoted cI cZ aW aW_ac aW_fa aW_in aW_yr aW_ti aC aC_sz aC_cd aL aL_sh aL_wi aL_su aS aA aL_nk aL_gr aE aE_li aE_se W_n W_ac W_fa W_in W_yr W_ti C_n C_sz C_cd L_sh L_wi e3.1 e3.2 E_sn)) S (c_X5_writeAllAuthors l D cI cJ cZ cS aW aW_ac aW_fa aW_in aW_yr aW_ti aE aE_li aS aC aA aL aE_se W_n W_ac W_fa W_in E_n E_li E_sn x2 e3 hc3) k4 hK hP hD hS hA 12 rfl rfl rfl rfl hl.1 rfl (Nat.le_of_ble_eq_true rfl) ⟨Nat.zero_le _, Nat.zero_le _⟩ dX5_writeNoted_35 [0, 1, 2, 3, 12, 13] rfl rfl wa_X5_writeAllAuthors (sa_eq [(aW_yr, .inl (cI, 8, .inl W_yr)), (aW_ti, .inl (cI, 8, .inl W_ti)), (aC, .inr (1, [.int C_n, .ref aC_sz, .ref aC_cd])), (aC_sz, .inl (cI, 10, .inl C_sz)), (aC_cd, .inl (cI, 50, .inl C_cd)), (aL, .inr (3, [.ref aL_sh, .ref aL_wi, .ref aL_su, .ref aW, .ref aS, .ref aA, .ref aL_nk, .ref aL_gr])), (aL_sh, .inl (cI, 8, .inl L_sh)), (aL_wi, .inl (cZ, 8, .inl L_wi))] [4, 5, 6, 7, 8, 9, 10, 11] 14 rfl rfl rfl rfl rfl rfl rfl) (fun H locs hP hD hS => ?_)
    refine lv_aload_n hx hb dX5_writeNoted_38 rfl (lv_at hl 1 rfl) ?_
    refine lv_aload_n hx hb dX5_writeNoted_39 rfl (lv_at hl 1 rfl) ?_
    refine va_get (D := D) (ci := 5) (v := .ref aW) (C := RX5) (T := TX5) (N := 9) hx hb hts k2 hown hKv hP 12 rfl rfl 2 (by decide) k5 (fun _ h9 => h9) rfl dX5_writeNoted_40 ?_
    refine va_get (D := D) (ci := 9) (v := .ref aW_ti) (C := RX9) (T := TX9) (N := 6) hx hb hts k7 hown hKv hP 0 rfl rfl 5 (by decide) k6 (fun _ h9 => h9) rfl dX5_writeNoted_43 ?_
    refine lv_iload_n hx hb dX5_writeNoted_46 rfl (lv_at hl 3 rfl) ?_
    replace hm := ck_some hm
    obtain ⟨h4, hm⟩ := hm
    refine va_iald hx hb hKv hP 5 0 rfl rfl h4 dX5_writeNoted_47 ?_
    replace hm := bd_some hm
    obtain ⟨e5, hc5, hm⟩ := hm
    refine kV_v (rest := []) (ws' := (w_X5_writeNoted cI cZ aW aW_ac aW_fa aW_in aW_yr aW_ti aC aC_sz aC_cd aL aL_sh aL_wi aL_su aS aA aL_nk aL_gr aE aE_li aE_se W_n W_ac W_fa W_in W_yr W_ti C_n C_sz C_cd L_sh L_wi e5.1 e5.2 E_sn)) S (c_X5_write l D cI cJ cZ cS aE aE_li aW aS aC aA aL aE_se e3.1 e3.2 E_sn (W_ti (Int32.toNatClampNeg x2)) e5 hc5) k8 hK hP hD hS hA 12 rfl rfl rfl rfl hl.1 rfl (Nat.le_of_ble_eq_true rfl) ⟨Nat.zero_le _, Nat.zero_le _⟩ dX5_writeNoted_48 [12, 13] rfl rfl wa_X5_write (sa_eq [(aW, .inr (9, [.int W_n, .ref aW_ac, .ref aW_fa, .ref aW_in, .ref aW_yr, .ref aW_ti])), (aW_ac, .inl (cI, 8, .inl W_ac)), (aW_fa, .inl (cI, 32, .inl W_fa)), (aW_in, .inl (cI, 32, .inl W_in)), (aW_yr, .inl (cI, 8, .inl W_yr)), (aW_ti, .inl (cI, 8, .inl W_ti)), (aC, .inr (1, [.int C_n, .ref aC_sz, .ref aC_cd])), (aC_sz, .inl (cI, 10, .inl C_sz)), (aC_cd, .inl (cI, 50, .inl C_cd)), (aL, .inr (3, [.ref aL_sh, .ref aL_wi, .ref aL_su, .ref aW, .ref aS, .ref aA, .ref aL_nk, .ref aL_gr])), (aL_sh, .inl (cI, 8, .inl L_sh)), (aL_wi, .inl (cZ, 8, .inl L_wi))] [0, 1, 2, 3, 4, 5, 6, 7, 8, 9, 10, 11] 14 rfl rfl rfl rfl rfl rfl rfl) (fun H locs hP hD hS => ?_)
    refine lv_aload_n hx hb dX5_writeNoted_51 rfl (lv_at hl 1 rfl) ?_
    refine lv_iload_n hx hb dX5_writeNoted_52 rfl (lv_at hl 3 rfl) ?_
    replace hm := bd_some hm
    obtain ⟨e6, hc6, hm⟩ := hm
    refine kV_v (rest := []) (ws' := (w_X5_writeNoted cI cZ aW aW_ac aW_fa aW_in aW_yr aW_ti aC aC_sz aC_cd aL aL_sh aL_wi aL_su aS aA aL_nk aL_gr aE aE_li aE_se W_n W_ac W_fa W_in W_yr W_ti C_n C_sz C_cd L_sh L_wi e6.1 e6.2 E_sn)) S (c_X5_writeYear l D cI cJ cZ cS aW aW_ac aW_fa aW_in aW_yr aW_ti aE aE_li aS aC aA aL aE_se W_n W_yr e5.1 e5.2 E_sn x2 e6 hc6) k9 hK hP hD hS hA 12 rfl rfl rfl rfl hl.1 rfl (Nat.le_of_ble_eq_true rfl) ⟨Nat.zero_le _, Nat.zero_le _⟩ dX5_writeNoted_53 [0, 4, 12, 13] rfl rfl wa_X5_writeYear (sa_eq [(aW_ac, .inl (cI, 8, .inl W_ac)), (aW_fa, .inl (cI, 32, .inl W_fa)), (aW_in, .inl (cI, 32, .inl W_in)), (aW_ti, .inl (cI, 8, .inl W_ti)), (aC, .inr (1, [.int C_n, .ref aC_sz, .ref aC_cd])), (aC_sz, .inl (cI, 10, .inl C_sz)), (aC_cd, .inl (cI, 50, .inl C_cd)), (aL, .inr (3, [.ref aL_sh, .ref aL_wi, .ref aL_su, .ref aW, .ref aS, .ref aA, .ref aL_nk, .ref aL_gr])), (aL_sh, .inl (cI, 8, .inl L_sh)), (aL_wi, .inl (cZ, 8, .inl L_wi))] [1, 2, 3, 5, 6, 7, 8, 9, 10, 11] 14 rfl rfl rfl rfl rfl rfl rfl) (fun H locs hP hD hS => ?_)
    have h9 := Option.some.inj hm
    subst h9
    exact hret H locs _ ls hP hD hS dX5_writeNoted_56
  · replace hm := if_f c2 hm
    refine lv_aload_n hx hb dX5_writeNoted_14 rfl (lv_at hl 1 rfl) ?_
    refine lv_iload_n hx hb dX5_writeNoted_15 rfl (lv_at hl 3 rfl) ?_
    replace hm := bd_some hm
    obtain ⟨e7, hc7, hm⟩ := hm
    refine kV_v (rest := []) (ws' := (w_X5_writeNoted cI cZ aW aW_ac aW_fa aW_in aW_yr aW_ti aC aC_sz aC_cd aL aL_sh aL_wi aL_su aS aA aL_nk aL_gr aE aE_li aE_se W_n W_ac W_fa W_in W_yr W_ti C_n C_sz C_cd L_sh L_wi e7.1 e7.2 E_sn)) S (c_X5_writeNames l D cI cJ cZ cS aW aW_ac aW_fa aW_in aW_yr aW_ti aL aL_sh aL_wi aL_su aS aA aL_nk aL_gr aE aE_li aC aE_se W_n W_ac W_fa W_in L_sh L_wi E_n E_li E_sn x2 e7 hc7) k10 hK hP hD hS hA 12 rfl rfl rfl rfl hl.1 rfl (Nat.le_of_ble_eq_true rfl) ⟨Nat.zero_le _, Nat.zero_le _⟩ dX5_writeNoted_16 [0, 1, 2, 3, 9, 10, 11, 12, 13] rfl rfl wa_X5_writeNames (sa_eq [(aW_yr, .inl (cI, 8, .inl W_yr)), (aW_ti, .inl (cI, 8, .inl W_ti)), (aC, .inr (1, [.int C_n, .ref aC_sz, .ref aC_cd])), (aC_sz, .inl (cI, 10, .inl C_sz)), (aC_cd, .inl (cI, 50, .inl C_cd))] [4, 5, 6, 7, 8] 14 rfl rfl rfl rfl rfl rfl rfl) (fun H locs hP hD hS => ?_)
    refine lv_aload_n hx hb dX5_writeNoted_19 rfl (lv_at hl 1 rfl) ?_
    refine lv_bipush (v := 110) hx hb dX5_writeNoted_20 (by decide) ?_
    replace hm := bd_some hm
    obtain ⟨e8, hc8, hm⟩ := hm
    refine kV_v (rest := []) (ws' := (w_X5_writeNoted cI cZ aW aW_ac aW_fa aW_in aW_yr aW_ti aC aC_sz aC_cd aL aL_sh aL_wi aL_su aS aA aL_nk aL_gr aE aE_li aE_se W_n W_ac W_fa W_in W_yr W_ti C_n C_sz C_cd L_sh L_wi e8.1 e8.2 E_sn)) S (c_X5_write l D cI cJ cZ cS aE aE_li aW aS aC aA aL aE_se e7.1 e7.2 E_sn 110 e8 hc8) k8 hK hP hD hS hA 12 rfl rfl rfl rfl hl.1 rfl (Nat.le_of_ble_eq_true rfl) ⟨Nat.zero_le _, Nat.zero_le _⟩ dX5_writeNoted_22 [12, 13] rfl rfl wa_X5_write (sa_eq [(aW, .inr (9, [.int W_n, .ref aW_ac, .ref aW_fa, .ref aW_in, .ref aW_yr, .ref aW_ti])), (aW_ac, .inl (cI, 8, .inl W_ac)), (aW_fa, .inl (cI, 32, .inl W_fa)), (aW_in, .inl (cI, 32, .inl W_in)), (aW_yr, .inl (cI, 8, .inl W_yr)), (aW_ti, .inl (cI, 8, .inl W_ti)), (aC, .inr (1, [.int C_n, .ref aC_sz, .ref aC_cd])), (aC_sz, .inl (cI, 10, .inl C_sz)), (aC_cd, .inl (cI, 50, .inl C_cd)), (aL, .inr (3, [.ref aL_sh, .ref aL_wi, .ref aL_su, .ref aW, .ref aS, .ref aA, .ref aL_nk, .ref aL_gr])), (aL_sh, .inl (cI, 8, .inl L_sh)), (aL_wi, .inl (cZ, 8, .inl L_wi))] [0, 1, 2, 3, 4, 5, 6, 7, 8, 9, 10, 11] 14 rfl rfl rfl rfl rfl rfl rfl) (fun H locs hP hD hS => ?_)
    refine lv_aload_n hx hb dX5_writeNoted_25 rfl (lv_at hl 1 rfl) ?_
    refine lv_iload_n hx hb dX5_writeNoted_26 rfl (lv_at hl 0 rfl) ?_
    refine lv_iconst (v := 1) hx hb dX5_writeNoted_27 (by decide) ?_
    refine lv_iadd hx hb dX5_writeNoted_28 ?_
    replace hm := bd_some hm
    obtain ⟨e9, hc9, hm⟩ := hm
    refine kV_v (rest := []) (ws' := (w_X5_writeNoted cI cZ aW aW_ac aW_fa aW_in aW_yr aW_ti aC aC_sz aC_cd aL aL_sh aL_wi aL_su aS aA aL_nk aL_gr aE aE_li aE_se W_n W_ac W_fa W_in W_yr W_ti C_n C_sz C_cd L_sh L_wi e9.1 e9.2 E_sn)) S (c_X5_writeDigit l D cI cJ cZ cS aE aE_li aW aS aC aA aL aE_se e8.1 e8.2 E_sn (e1 + 1) e9 hc9) k11 hK hP hD hS hA 12 rfl rfl rfl rfl hl.1 rfl (Nat.le_of_ble_eq_true rfl) ⟨Nat.zero_le _, Nat.zero_le _⟩ dX5_writeNoted_29 [12, 13] rfl rfl wa_X5_writeDigit (sa_eq [(aW, .inr (9, [.int W_n, .ref aW_ac, .ref aW_fa, .ref aW_in, .ref aW_yr, .ref aW_ti])), (aW_ac, .inl (cI, 8, .inl W_ac)), (aW_fa, .inl (cI, 32, .inl W_fa)), (aW_in, .inl (cI, 32, .inl W_in)), (aW_yr, .inl (cI, 8, .inl W_yr)), (aW_ti, .inl (cI, 8, .inl W_ti)), (aC, .inr (1, [.int C_n, .ref aC_sz, .ref aC_cd])), (aC_sz, .inl (cI, 10, .inl C_sz)), (aC_cd, .inl (cI, 50, .inl C_cd)), (aL, .inr (3, [.ref aL_sh, .ref aL_wi, .ref aL_su, .ref aW, .ref aS, .ref aA, .ref aL_nk, .ref aL_gr])), (aL_sh, .inl (cI, 8, .inl L_sh)), (aL_wi, .inl (cZ, 8, .inl L_wi))] [0, 1, 2, 3, 4, 5, 6, 7, 8, 9, 10, 11] 14 rfl rfl rfl rfl rfl rfl rfl) (fun H locs hP hD hS => ?_)
    have h9 := Option.some.inj hm
    subst h9
    exact hret H locs _ ls hP hD hS dX5_writeNoted_32
set_option maxHeartbeats 4000000 in
set_option maxRecDepth 100000 in
theorem c_X5_writeNote (l : Launch) (D : va_G) (cI cJ cZ cS : ClassId) (aW aW_ac aW_fa aW_in aW_yr aW_ti aC aC_sz aC_cd aL aL_sh aL_wi aL_su aS aA aL_nk aL_gr aE aE_li aE_se : Nat) (W_n : Int32) (W_ac : Nat → Int32) (W_fa : Nat → Int32) (W_in : Nat → Int32) (W_yr : Nat → Int32) (W_ti : Nat → Int32) (C_n : Int32) (C_sz : Nat → Int32) (C_cd : Nat → Int32) (L_sh : Nat → Int32) (L_wi : Nat → Int32) (E_n : Int32) (E_li : Nat → Int32) (E_se : Nat → Int32) (E_sn : Int32) (x1 : Int32) (o : Int32 × (Nat → Int32)) (hm : m_X5_writeNote W_ac W_fa W_in W_yr W_ti C_n C_sz C_cd L_sh L_wi E_n E_li E_se E_sn x1 = some o) : MV l yX5_writeNote wsX5_writeNote rm_X5_writeNote D (TY cI cJ cZ cS) [.ref aE, .int x1] (w_X5_writeNote cI cZ aW aW_ac aW_fa aW_in aW_yr aW_ti aC aC_sz aC_cd aL aL_sh aL_wi aL_su aS aA aL_nk aL_gr aE aE_li aE_se W_n W_ac W_fa W_in W_yr W_ti C_n C_sz C_cd L_sh L_wi E_n E_li E_se E_sn) (w_X5_writeNote cI cZ aW aW_ac aW_fa aW_in aW_yr aW_ti aC aC_sz aC_cd aL aL_sh aL_wi aL_su aS aA aL_nk aL_gr aE aE_li aE_se W_n W_ac W_fa W_in W_yr W_ti C_n C_sz C_cd L_sh L_wi o.1 o.2 E_se E_sn) := by
  refine MV_of (cc := cX5_writeNote) (maxL := 3) (by decide) rfl (Nat.le_of_ble_eq_true rfl) ?_
  intro p e s m args below meth c A Q ls H locs hx hb hml hts hown hK hA hP hD hS hl hret
  have hown : s.vm.findClass RX5 = some m.cls := hown
  have hKv : va_K D vwCl (TY cI cJ cZ cS) s := hK.1
  have hl : lv_has ls 3 [(0, .ref aE), (1, .int x1)] := hl
  have S : CallFix p m c cX5_writeNote 3 s args wsX5_writeNote RX5 := ⟨hx, hb, hml, hown, hts⟩
  have k1 : CallW rm_X5_writeNote s args RX5 RX5 68 yX5_write cX5_write 2 none wsX5_write rm_X5_write 0 0 1 := cwV 1 hts gX5_writeNote_X5_write rfl rfl rfl (by decide +kernel) ⟨Nat.le_of_ble_eq_true rfl, Nat.le_of_ble_eq_true rfl⟩
  have k2 := hts (.fieldLink RX5 19 "CitationFormatter$Renderer" "sequence" "[I") (by decide +kernel)
  have k3 : ∀ w ∈ wsX50, w ∈ wsX5_writeNote := by decide +kernel
  have k4 : CallW rm_X5_writeNote s args RX5 RX5 153 yX5_writeNoted cX5_writeNoted 4 none wsX5_writeNoted rm_X5_writeNoted 0 0 2 := cwV 2 hts gX5_writeNote_X5_writeNoted rfl rfl rfl (by decide +kernel) ⟨Nat.le_of_ble_eq_true rfl, Nat.le_of_ble_eq_true rfl⟩
  have k5 : CallW rm_X5_writeNote s args RX5 RX5 149 yX5_repeatsNoteBefore cX5_repeatsNoteBefore 2 (some .boolean) wsX5_repeatsNoteBefore rm_X5_repeatsNoteBefore 0 0 1 := cwV 1 hts gX5_writeNote_X5_repeatsNoteBefore rfl rfl rfl (by decide +kernel) ⟨Nat.le_of_ble_eq_true rfl, Nat.le_of_ble_eq_true rfl⟩
  have k6 := hts (.fieldLink RX5 22 "CitationFormatter$Renderer" "sequenceSize" "I") (by decide +kernel)
  refine lv_iconst (v := 0) hx hb dX5_writeNote_0 (by decide) ?_
  refine lv_istore_n (lv' := [(2, .int 0), (0, .ref aE), (1, .int x1)]) hx hb dX5_writeNote_1 rfl hl (by decide) rfl (fun ls hl => ?_)
  replace hm := bd_some hm
  obtain ⟨e1, hc1, hm⟩ := hm
  have X1_0 : ∀ (H : Heap) (locs : List Loc) (ls : Array Slot), va_P D vwCl (w_X5_writeNote cI cZ aW aW_ac aW_fa aW_in aW_yr aW_ti aC aC_sz aC_cd aL aL_sh aL_wi aL_su aS aA aL_nk aL_gr aE aE_li aE_se W_n W_ac W_fa W_in W_yr W_ti C_n C_sz C_cd L_sh L_wi e1.1 e1.2 E_se E_sn) H → va_D A (w_X5_writeNote cI cZ aW aW_ac aW_fa aW_in aW_yr aW_ti aC aC_sz aC_cd aL aL_sh aL_wi aL_su aS aA aL_nk aL_gr aE aE_li aE_se W_n W_ac W_fa W_in W_yr W_ti C_n C_sz C_cd L_sh L_wi e1.1 e1.2 E_se E_sn) → va_S A s.heap H locs → lv_has ls 3 [(0, .ref aE)] → W p l e rm_X5_writeNote s m args below meth c H locs 0 0 Q (F0 m 58 ls []) := by
    intro H locs ls hP hD hS hl
    refine lv_aload_n hx hb dX5_writeNote_58 rfl (lv_at hl 0 rfl) ?_
    refine lv_bipush (v := 46) hx hb dX5_writeNote_59 (by decide) ?_
    replace hm := bd_some hm
    obtain ⟨e2, hc2, hm⟩ := hm
    refine kV_v (rest := []) (ws' := (w_X5_writeNote cI cZ aW aW_ac aW_fa aW_in aW_yr aW_ti aC aC_sz aC_cd aL aL_sh aL_wi aL_su aS aA aL_nk aL_gr aE aE_li aE_se W_n W_ac W_fa W_in W_yr W_ti C_n C_sz C_cd L_sh L_wi e2.1 e2.2 E_se E_sn)) S (c_X5_write l D cI cJ cZ cS aE aE_li aW aS aC aA aL aE_se e1.1 e1.2 E_sn 46 e2 hc2) k1 hK hP hD hS hA 12 rfl rfl rfl rfl hl.1 rfl (Nat.le_of_ble_eq_true rfl) ⟨Nat.zero_le _, Nat.zero_le _⟩ dX5_writeNote_61 [12, 13] rfl rfl wa_X5_write (sa_eq [(aW, .inr (9, [.int W_n, .ref aW_ac, .ref aW_fa, .ref aW_in, .ref aW_yr, .ref aW_ti])), (aW_ac, .inl (cI, 8, .inl W_ac)), (aW_fa, .inl (cI, 32, .inl W_fa)), (aW_in, .inl (cI, 32, .inl W_in)), (aW_yr, .inl (cI, 8, .inl W_yr)), (aW_ti, .inl (cI, 8, .inl W_ti)), (aC, .inr (1, [.int C_n, .ref aC_sz, .ref aC_cd])), (aC_sz, .inl (cI, 10, .inl C_sz)), (aC_cd, .inl (cI, 50, .inl C_cd)), (aL, .inr (3, [.ref aL_sh, .ref aL_wi, .ref aL_su, .ref aW, .ref aS, .ref aA, .ref aL_nk, .ref aL_gr])), (aL_sh, .inl (cI, 8, .inl L_sh)), (aL_wi, .inl (cZ, 8, .inl L_wi)), (aE_se, .inl (cI, 5, .inl E_se))] [0, 1, 2, 3, 4, 5, 6, 7, 8, 9, 10, 11, 14] 15 rfl rfl rfl rfl rfl rfl rfl) (fun H locs hP hD hS => ?_)
    have h9 := Option.some.inj hm
    subst h9
    exact hret H locs _ ls hP hD hS dX5_writeNote_64
  refine it_W (G := fun (st2 : Int32 × Int32 × (Nat → Int32)) => ∀ (H : Heap) (locs : List Loc) (ls : Array Slot), va_P D vwCl (w_X5_writeNote cI cZ aW aW_ac aW_fa aW_in aW_yr aW_ti aC aC_sz aC_cd aL aL_sh aL_wi aL_su aS aA aL_nk aL_gr aE aE_li aE_se W_n W_ac W_fa W_in W_yr W_ti C_n C_sz C_cd L_sh L_wi st2.2.1 st2.2.2 E_se E_sn) H → va_D A (w_X5_writeNote cI cZ aW aW_ac aW_fa aW_in aW_yr aW_ti aC aC_sz aC_cd aL aL_sh aL_wi aL_su aS aA aL_nk aL_gr aE aE_li aE_se W_n W_ac W_fa W_in W_yr W_ti C_n C_sz C_cd L_sh L_wi st2.2.1 st2.2.2 E_se E_sn) → va_S A s.heap H locs → lv_has ls 3 [(0, .ref aE), (1, .int x1), (2, .int st2.1)] → W p l e rm_X5_writeNote s m args below meth c H locs 0 0 Q (F0 m 2 ls [])) (e := e1) (fun st2 x hm hG hE => ?_) fu _ hc1 H locs ls hP hD hS (lv_sub hl [1, 2, 0] rfl)
  intro H locs ls hP hD hS hl
  have J52 : ∀ (x2_j52 : Int32) (E_n_j52 : Int32) (E_li_j52 : Nat → Int32), (m_X5_writeNote_J52 x1 x2_j52 E_n_j52 E_li_j52 = some x) → ∀ (H : Heap) (locs : List Loc) (ls : Array Slot), va_P D vwCl (w_X5_writeNote cI cZ aW aW_ac aW_fa aW_in aW_yr aW_ti aC aC_sz aC_cd aL aL_sh aL_wi aL_su aS aA aL_nk aL_gr aE aE_li aE_se W_n W_ac W_fa W_in W_yr W_ti C_n C_sz C_cd L_sh L_wi E_n_j52 E_li_j52 E_se E_sn) H → va_D A (w_X5_writeNote cI cZ aW aW_ac aW_fa aW_in aW_yr aW_ti aC aC_sz aC_cd aL aL_sh aL_wi aL_su aS aA aL_nk aL_gr aE aE_li aE_se W_n W_ac W_fa W_in W_yr W_ti C_n C_sz C_cd L_sh L_wi E_n_j52 E_li_j52 E_se E_sn) → va_S A s.heap H locs → lv_has ls 3 [(0, .ref aE), (1, .int x1), (2, .int x2_j52)] → W p l e rm_X5_writeNote s m args below meth c H locs 0 0 Q (F0 m 52 ls []) := by
    intro x2_j52 E_n_j52 E_li_j52 hm H locs ls hP hD hS hl
    refine lv_iinc (v := (x2_j52 + 1)) (lv' := [(2, .int (x2_j52 + 1)), (0, .ref aE), (1, .int x1)]) hx hb dX5_writeNote_52 hl (k := 2) rfl rfl (by decide) rfl (fun ls hl => ?_)
    refine lv_goto (tgt := 2) hx hb dX5_writeNote_55 (by decide) ?_
    exact hG _ (Option.some.inj hm).symm H locs ls hP hD hS (lv_sub hl [1, 2, 0] rfl)
  have J41 : ∀ (x2_j41 : Int32) (E_n_j41 : Int32) (E_li_j41 : Nat → Int32), (m_X5_writeNote_J41 x1 x2_j41 W_ac W_fa W_in W_yr W_ti C_n C_sz C_cd L_sh L_wi E_n_j41 E_li_j41 E_se = some x) → ∀ (H : Heap) (locs : List Loc) (ls : Array Slot), va_P D vwCl (w_X5_writeNote cI cZ aW aW_ac aW_fa aW_in aW_yr aW_ti aC aC_sz aC_cd aL aL_sh aL_wi aL_su aS aA aL_nk aL_gr aE aE_li aE_se W_n W_ac W_fa W_in W_yr W_ti C_n C_sz C_cd L_sh L_wi E_n_j41 E_li_j41 E_se E_sn) H → va_D A (w_X5_writeNote cI cZ aW aW_ac aW_fa aW_in aW_yr aW_ti aC aC_sz aC_cd aL aL_sh aL_wi aL_su aS aA aL_nk aL_gr aE aE_li aE_se W_n W_ac W_fa W_in W_yr W_ti C_n C_sz C_cd L_sh L_wi E_n_j41 E_li_j41 E_se E_sn) → va_S A s.heap H locs → lv_has ls 3 [(0, .ref aE), (1, .int x1), (2, .int x2_j41)] → W p l e rm_X5_writeNote s m args below meth c H locs 0 0 Q (F0 m 41 ls []) := by
    intro x2_j41 E_n_j41 E_li_j41 hm H locs ls hP hD hS hl
    refine lv_aload_n hx hb dX5_writeNote_41 rfl (lv_at hl 0 rfl) ?_
    refine lv_iload_n hx hb dX5_writeNote_42 rfl (lv_at hl 1 rfl) ?_
    refine lv_aload_n hx hb dX5_writeNote_43 rfl (lv_at hl 0 rfl) ?_
    refine va_get (D := D) (ci := 5) (v := .ref aE_se) (C := RX5) (T := TX5) (N := 9) hx hb hts k3 hown hKv hP 12 rfl rfl 7 (by decide) k2 (fun _ h9 => h9) rfl dX5_writeNote_44 ?_
    refine lv_iload_n hx hb dX5_writeNote_47 rfl (lv_at hl 2 rfl) ?_
    replace hm := ck_some hm
    obtain ⟨h3, hm⟩ := hm
    refine va_iald hx hb hKv hP 14 0 rfl rfl h3 dX5_writeNote_48 ?_
    replace hm := bd_some hm
    obtain ⟨e4, hc4, hm⟩ := hm
    refine kV_v (rest := []) (ws' := (w_X5_writeNote cI cZ aW aW_ac aW_fa aW_in aW_yr aW_ti aC aC_sz aC_cd aL aL_sh aL_wi aL_su aS aA aL_nk aL_gr aE aE_li aE_se W_n W_ac W_fa W_in W_yr W_ti C_n C_sz C_cd L_sh L_wi e4.1 e4.2 E_se E_sn)) S (c_X5_writeNoted l D cI cJ cZ cS aW aW_ac aW_fa aW_in aW_yr aW_ti aC aC_sz aC_cd aL aL_sh aL_wi aL_su aS aA aL_nk aL_gr aE aE_li aE_se W_n W_ac W_fa W_in W_yr W_ti C_n C_sz C_cd L_sh L_wi E_n_j41 E_li_j41 E_sn x1 (E_se (Int32.toNatClampNeg x2_j41)) e4 hc4) k4 hK hP hD hS hA 12 rfl rfl rfl rfl hl.1 rfl (Nat.le_of_ble_eq_true rfl) ⟨Nat.zero_le _, Nat.zero_le _⟩ dX5_writeNote_49 [0, 1, 2, 3, 4, 5, 6, 7, 8, 9, 10, 11, 12, 13] rfl rfl wa_X5_writeNoted (sa_eq [(aE_se, .inl (cI, 5, .inl E_se))] [14] 15 rfl rfl rfl rfl rfl rfl rfl) (fun H locs hP hD hS => ?_)
    exact J52 x2_j41 e4.1 e4.2 hm H locs ls hP hD hS (lv_sub hl [0, 1, 2] rfl)
  have J20 : ∀ (x2_j20 : Int32) (E_n_j20 : Int32) (E_li_j20 : Nat → Int32), (m_X5_writeNote_J20 x1 x2_j20 W_ac W_fa W_in W_yr W_ti C_n C_sz C_cd L_sh L_wi E_n_j20 E_li_j20 E_se = some x) → ∀ (H : Heap) (locs : List Loc) (ls : Array Slot), va_P D vwCl (w_X5_writeNote cI cZ aW aW_ac aW_fa aW_in aW_yr aW_ti aC aC_sz aC_cd aL aL_sh aL_wi aL_su aS aA aL_nk aL_gr aE aE_li aE_se W_n W_ac W_fa W_in W_yr W_ti C_n C_sz C_cd L_sh L_wi E_n_j20 E_li_j20 E_se E_sn) H → va_D A (w_X5_writeNote cI cZ aW aW_ac aW_fa aW_in aW_yr aW_ti aC aC_sz aC_cd aL aL_sh aL_wi aL_su aS aA aL_nk aL_gr aE aE_li aE_se W_n W_ac W_fa W_in W_yr W_ti C_n C_sz C_cd L_sh L_wi E_n_j20 E_li_j20 E_se E_sn) → va_S A s.heap H locs → lv_has ls 3 [(0, .ref aE), (1, .int x1), (2, .int x2_j20)] → W p l e rm_X5_writeNote s m args below meth c H locs 0 0 Q (F0 m 20 ls []) := by
    intro x2_j20 E_n_j20 E_li_j20 hm H locs ls hP hD hS hl
    refine lv_iload_n hx hb dX5_writeNote_20 rfl (lv_at hl 2 rfl) ?_
    refine lv_if_ne (tgt := 41) hx hb dX5_writeNote_21 (by decide) (fun c5 => ?_) (fun c5 => ?_)
    · replace hm := if_f c5 hm
      exact J41 x2_j20 E_n_j20 E_li_j20 hm H locs ls hP hD hS (lv_sub hl [0, 1, 2] rfl)
    · replace hm := if_t c5 hm
      refine lv_aload_n hx hb dX5_writeNote_24 rfl (lv_at hl 0 rfl) ?_
      refine lv_iload_n hx hb dX5_writeNote_25 rfl (lv_at hl 1 rfl) ?_
      replace hm := bd_some hm
      obtain ⟨e6, hc6, hm⟩ := hm
      refine kV_i (rest := []) (ws' := (w_X5_writeNote cI cZ aW aW_ac aW_fa aW_in aW_yr aW_ti aC aC_sz aC_cd aL aL_sh aL_wi aL_su aS aA aL_nk aL_gr aE aE_li aE_se W_n W_ac W_fa W_in W_yr W_ti C_n C_sz C_cd L_sh L_wi E_n_j20 E_li_j20 E_se E_sn)) S (c_X5_repeatsNoteBefore l D cI cJ cZ cS aC aC_sz aC_cd aE aE_li aW aS aA aL aE_se C_n C_sz C_cd E_n_j20 E_se E_sn x1 e6 hc6) k5 hK hP hD hS hA 12 rfl rfl rfl rfl hl.1 rfl (Nat.le_of_ble_eq_true rfl) ⟨Nat.zero_le _, Nat.zero_le _⟩ dX5_writeNote_26 [6, 7, 8, 12, 14] rfl rfl wa_X5_repeatsNoteBefore (sa_eq [(aW, .inr (9, [.int W_n, .ref aW_ac, .ref aW_fa, .ref aW_in, .ref aW_yr, .ref aW_ti])), (aW_ac, .inl (cI, 8, .inl W_ac)), (aW_fa, .inl (cI, 32, .inl W_fa)), (aW_in, .inl (cI, 32, .inl W_in)), (aW_yr, .inl (cI, 8, .inl W_yr)), (aW_ti, .inl (cI, 8, .inl W_ti)), (aL, .inr (3, [.ref aL_sh, .ref aL_wi, .ref aL_su, .ref aW, .ref aS, .ref aA, .ref aL_nk, .ref aL_gr])), (aL_sh, .inl (cI, 8, .inl L_sh)), (aL_wi, .inl (cZ, 8, .inl L_wi)), (aE_li, .inl (cI, 100, .inl E_li_j20))] [0, 1, 2, 3, 4, 5, 9, 10, 11, 13] 15 rfl rfl rfl rfl rfl rfl rfl) (fun H locs hP hD hS => ?_)
      refine lv_if_eq (tgt := 41) hx hb dX5_writeNote_29 (by decide) (fun c7 => ?_) (fun c7 => ?_)
      · replace hm := if_t c7 hm
        exact J41 x2_j20 E_n_j20 E_li_j20 hm H locs ls hP hD hS (lv_sub hl [0, 1, 2] rfl)
      · replace hm := if_f c7 hm
        refine lv_aload_n hx hb dX5_writeNote_32 rfl (lv_at hl 0 rfl) ?_
        refine lv_bipush (v := 105) hx hb dX5_writeNote_33 (by decide) ?_
        replace hm := bd_some hm
        obtain ⟨e8, hc8, hm⟩ := hm
        refine kV_v (rest := []) (ws' := (w_X5_writeNote cI cZ aW aW_ac aW_fa aW_in aW_yr aW_ti aC aC_sz aC_cd aL aL_sh aL_wi aL_su aS aA aL_nk aL_gr aE aE_li aE_se W_n W_ac W_fa W_in W_yr W_ti C_n C_sz C_cd L_sh L_wi e8.1 e8.2 E_se E_sn)) S (c_X5_write l D cI cJ cZ cS aE aE_li aW aS aC aA aL aE_se E_n_j20 E_li_j20 E_sn 105 e8 hc8) k1 hK hP hD hS hA 12 rfl rfl rfl rfl hl.1 rfl (Nat.le_of_ble_eq_true rfl) ⟨Nat.zero_le _, Nat.zero_le _⟩ dX5_writeNote_35 [12, 13] rfl rfl wa_X5_write (sa_eq [(aW, .inr (9, [.int W_n, .ref aW_ac, .ref aW_fa, .ref aW_in, .ref aW_yr, .ref aW_ti])), (aW_ac, .inl (cI, 8, .inl W_ac)), (aW_fa, .inl (cI, 32, .inl W_fa)), (aW_in, .inl (cI, 32, .inl W_in)), (aW_yr, .inl (cI, 8, .inl W_yr)), (aW_ti, .inl (cI, 8, .inl W_ti)), (aC, .inr (1, [.int C_n, .ref aC_sz, .ref aC_cd])), (aC_sz, .inl (cI, 10, .inl C_sz)), (aC_cd, .inl (cI, 50, .inl C_cd)), (aL, .inr (3, [.ref aL_sh, .ref aL_wi, .ref aL_su, .ref aW, .ref aS, .ref aA, .ref aL_nk, .ref aL_gr])), (aL_sh, .inl (cI, 8, .inl L_sh)), (aL_wi, .inl (cZ, 8, .inl L_wi)), (aE_se, .inl (cI, 5, .inl E_se))] [0, 1, 2, 3, 4, 5, 6, 7, 8, 9, 10, 11, 14] 15 rfl rfl rfl rfl rfl rfl rfl) (fun H locs hP hD hS => ?_)
        refine lv_goto (tgt := 52) hx hb dX5_writeNote_38 (by decide) ?_
        exact J52 x2_j20 e8.1 e8.2 hm H locs ls hP hD hS (lv_sub hl [0, 1, 2] rfl)
  refine lv_iload_n hx hb dX5_writeNote_2 rfl (lv_at hl 2 rfl) ?_
  refine lv_aload_n hx hb dX5_writeNote_3 rfl (lv_at hl 0 rfl) ?_
  refine va_get (D := D) (ci := 5) (v := .int E_sn) (C := RX5) (T := TX5) (N := 9) hx hb hts k3 hown hKv hP 12 rfl rfl 8 (by decide) k6 (fun _ h9 => h9) rfl dX5_writeNote_4 ?_
  refine lv_icmp_ge (tgt := 58) hx hb dX5_writeNote_7 (by decide) (fun c9 => ?_) (fun c9 => ?_)
  · replace hm := if_t c9 hm
    have h9 := hE _ (Option.some.inj hm).symm
    subst h9
    exact X1_0 H locs ls hP hD hS (lv_sub hl [0] rfl)
  · replace hm := if_f c9 hm
    refine lv_iload_n hx hb dX5_writeNote_10 rfl (lv_at hl 2 rfl) ?_
    refine lv_if_le (tgt := 20) hx hb dX5_writeNote_11 (by decide) (fun c10 => ?_) (fun c10 => ?_)
    · replace hm := if_t c10 hm
      exact J20 st2.1 st2.2.1 st2.2.2 hm H locs ls hP hD hS (lv_sub hl [0, 1, 2] rfl)
    · replace hm := if_f c10 hm
      refine lv_aload_n hx hb dX5_writeNote_14 rfl (lv_at hl 0 rfl) ?_
      refine lv_bipush (v := 59) hx hb dX5_writeNote_15 (by decide) ?_
      replace hm := bd_some hm
      obtain ⟨e11, hc11, hm⟩ := hm
      refine kV_v (rest := []) (ws' := (w_X5_writeNote cI cZ aW aW_ac aW_fa aW_in aW_yr aW_ti aC aC_sz aC_cd aL aL_sh aL_wi aL_su aS aA aL_nk aL_gr aE aE_li aE_se W_n W_ac W_fa W_in W_yr W_ti C_n C_sz C_cd L_sh L_wi e11.1 e11.2 E_se E_sn)) S (c_X5_write l D cI cJ cZ cS aE aE_li aW aS aC aA aL aE_se st2.2.1 st2.2.2 E_sn 59 e11 hc11) k1 hK hP hD hS hA 12 rfl rfl rfl rfl hl.1 rfl (Nat.le_of_ble_eq_true rfl) ⟨Nat.zero_le _, Nat.zero_le _⟩ dX5_writeNote_17 [12, 13] rfl rfl wa_X5_write (sa_eq [(aW, .inr (9, [.int W_n, .ref aW_ac, .ref aW_fa, .ref aW_in, .ref aW_yr, .ref aW_ti])), (aW_ac, .inl (cI, 8, .inl W_ac)), (aW_fa, .inl (cI, 32, .inl W_fa)), (aW_in, .inl (cI, 32, .inl W_in)), (aW_yr, .inl (cI, 8, .inl W_yr)), (aW_ti, .inl (cI, 8, .inl W_ti)), (aC, .inr (1, [.int C_n, .ref aC_sz, .ref aC_cd])), (aC_sz, .inl (cI, 10, .inl C_sz)), (aC_cd, .inl (cI, 50, .inl C_cd)), (aL, .inr (3, [.ref aL_sh, .ref aL_wi, .ref aL_su, .ref aW, .ref aS, .ref aA, .ref aL_nk, .ref aL_gr])), (aL_sh, .inl (cI, 8, .inl L_sh)), (aL_wi, .inl (cZ, 8, .inl L_wi)), (aE_se, .inl (cI, 5, .inl E_se))] [0, 1, 2, 3, 4, 5, 6, 7, 8, 9, 10, 11, 14] 15 rfl rfl rfl rfl rfl rfl rfl) (fun H locs hP hD hS => ?_)
      exact J20 st2.1 e11.1 e11.2 hm H locs ls hP hD hS (lv_sub hl [0, 1, 2] rfl)
set_option maxHeartbeats 4000000 in
set_option maxRecDepth 100000 in
theorem c_X5_runEnd (l : Launch) (D : va_G) (cI cJ cZ cS : ClassId) (aA aA_or aA_nu aA_li aW aS aC aE aE_li aL aE_se : Nat) (A_nu : Nat → Int32) (E_n : Int32) (E_se : Nat → Int32) (E_sn : Int32) (x1 : Int32) (o : Int32) (hm : m_X5_runEnd A_nu E_se E_sn x1 = some o) : MI l yX5_runEnd wsX5_runEnd rm_X5_runEnd D (TY cI cJ cZ cS) [.ref aE, .int x1] (w_X5_runEnd cI aA aA_or aA_nu aA_li aW aS aC aE aE_li aL aE_se A_nu E_n E_se E_sn) (w_X5_runEnd cI aA aA_or aA_nu aA_li aW aS aC aE aE_li aL aE_se A_nu E_n E_se E_sn) (o) := by
  refine MI_of (cc := cX5_runEnd) (maxL := 3) (by decide) rfl (Nat.le_of_ble_eq_true rfl) ?_
  intro p e s m args below meth c A Q ls H locs hx hb hml hts hown hK hA hP hD hS hl hret
  have hown : s.vm.findClass RX5 = some m.cls := hown
  have hKv : va_K D vwCl (TY cI cJ cZ cS) s := hK.1
  have hl : lv_has ls 3 [(0, .ref aE), (1, .int x1)] := hl
  have S : CallFix p m c cX5_runEnd 3 s args wsX5_runEnd RX5 := ⟨hx, hb, hml, hown, hts⟩
  have k1 := hts (.fieldLink RX5 22 "CitationFormatter$Renderer" "sequenceSize" "I") (by decide +kernel)
  have k2 : ∀ w ∈ wsX50, w ∈ wsX5_runEnd := by decide +kernel
  have k3 : CallW rm_X5_runEnd s args RX5 RX5 142 yX5_numberAt cX5_numberAt 2 (some .int) wsX5_numberAt rm_X5_numberAt 0 0 1 := cwV 1 hts gX5_runEnd_X5_numberAt rfl rfl rfl (by decide +kernel) ⟨Nat.le_of_ble_eq_true rfl, Nat.le_of_ble_eq_true rfl⟩
  refine lv_iload_n hx hb dX5_runEnd_0 rfl (lv_at hl 1 rfl) ?_
  refine lv_istore_n (lv' := [(2, .int x1), (0, .ref aE), (1, .int x1)]) hx hb dX5_runEnd_1 rfl hl (by decide) rfl (fun ls hl => ?_)
  replace hm := bd_some hm
  obtain ⟨e1, hc1, hm⟩ := hm
  have X1_0 : ∀ (H : Heap) (locs : List Loc) (ls : Array Slot), va_P D vwCl (w_X5_runEnd cI aA aA_or aA_nu aA_li aW aS aC aE aE_li aL aE_se A_nu E_n E_se E_sn) H → va_D A (w_X5_runEnd cI aA aA_or aA_nu aA_li aW aS aC aE aE_li aL aE_se A_nu E_n E_se E_sn) → va_S A s.heap H locs → lv_has ls 3 [(0, .ref aE), (2, .int e1)] → W p l e rm_X5_runEnd s m args below meth c H locs 0 0 Q (F0 m 35 ls []) := by
    intro H locs ls hP hD hS hl
    refine lv_iload_n hx hb dX5_runEnd_35 rfl (lv_at hl 1 rfl) ?_
    have h9 := Option.some.inj hm
    subst h9
    exact hret H locs _ ls _ hP hD hS rfl dX5_runEnd_36
  refine it_W (G := fun (st2 : Int32) => ∀ (H : Heap) (locs : List Loc) (ls : Array Slot), va_P D vwCl (w_X5_runEnd cI aA aA_or aA_nu aA_li aW aS aC aE aE_li aL aE_se A_nu E_n E_se E_sn) H → va_D A (w_X5_runEnd cI aA aA_or aA_nu aA_li aW aS aC aE aE_li aL aE_se A_nu E_n E_se E_sn) → va_S A s.heap H locs → lv_has ls 3 [(0, .ref aE), (2, .int st2)] → W p l e rm_X5_runEnd s m args below meth c H locs 0 0 Q (F0 m 2 ls [])) (e := e1) (fun st2 x hm hG hE => ?_) fu _ hc1 H locs ls hP hD hS (lv_sub hl [1, 0] rfl)
  intro H locs ls hP hD hS hl
  refine lv_iload_n hx hb dX5_runEnd_2 rfl (lv_at hl 1 rfl) ?_
  refine lv_iconst (v := 1) hx hb dX5_runEnd_3 (by decide) ?_
  refine lv_iadd hx hb dX5_runEnd_4 ?_
  refine lv_aload_n hx hb dX5_runEnd_5 rfl (lv_at hl 0 rfl) ?_
  refine va_get (D := D) (ci := 5) (v := .int E_sn) (C := RX5) (T := TX5) (N := 9) hx hb hts k2 hown hKv hP 2 rfl rfl 8 (by decide) k1 (fun _ h9 => h9) rfl dX5_runEnd_6 ?_
  refine lv_icmp_ge (tgt := 35) hx hb dX5_runEnd_9 (by decide) (fun c2 => ?_) (fun c2 => ?_)
  · replace hm := if_t c2 hm
    have h9 := hE _ (Option.some.inj hm).symm
    subst h9
    exact X1_0 H locs ls hP hD hS (lv_sub hl [0, 1] rfl)
  · replace hm := if_f c2 hm
    refine lv_aload_n hx hb dX5_runEnd_12 rfl (lv_at hl 0 rfl) ?_
    refine lv_iload_n hx hb dX5_runEnd_13 rfl (lv_at hl 1 rfl) ?_
    refine lv_iconst (v := 1) hx hb dX5_runEnd_14 (by decide) ?_
    refine lv_iadd hx hb dX5_runEnd_15 ?_
    replace hm := bd_some hm
    obtain ⟨e3, hc3, hm⟩ := hm
    refine kV_i (rest := []) (ws' := (w_X5_runEnd cI aA aA_or aA_nu aA_li aW aS aC aE aE_li aL aE_se A_nu E_n E_se E_sn)) S (c_X5_numberAt l D cI cJ cZ cS aA aA_or aA_nu aA_li aW aS aC aE aE_li aL aE_se A_nu E_n E_se E_sn (st2 + 1) e3 hc3) k3 hK hP hD hS hA 2 rfl rfl rfl rfl hl.1 rfl (Nat.le_of_ble_eq_true rfl) ⟨Nat.zero_le _, Nat.zero_le _⟩ dX5_runEnd_16 [0, 1, 2, 3] rfl rfl wa_X5_numberAt (sa_eq [] [] 4 rfl rfl rfl rfl rfl rfl rfl) (fun H locs hP hD hS => ?_)
    refine lv_aload_n hx hb dX5_runEnd_19 rfl (lv_at hl 0 rfl) ?_
    refine lv_iload_n hx hb dX5_runEnd_20 rfl (lv_at hl 1 rfl) ?_
    replace hm := bd_some hm
    obtain ⟨e4, hc4, hm⟩ := hm
    refine kV_i (rest := [.int e3]) (ws' := (w_X5_runEnd cI aA aA_or aA_nu aA_li aW aS aC aE aE_li aL aE_se A_nu E_n E_se E_sn)) S (c_X5_numberAt l D cI cJ cZ cS aA aA_or aA_nu aA_li aW aS aC aE aE_li aL aE_se A_nu E_n E_se E_sn st2 e4 hc4) k3 hK hP hD hS hA 2 rfl rfl rfl rfl hl.1 rfl (Nat.le_of_ble_eq_true rfl) ⟨Nat.zero_le _, Nat.zero_le _⟩ dX5_runEnd_21 [0, 1, 2, 3] rfl rfl wa_X5_numberAt (sa_eq [] [] 4 rfl rfl rfl rfl rfl rfl rfl) (fun H locs hP hD hS => ?_)
    refine lv_iconst (v := 1) hx hb dX5_runEnd_24 (by decide) ?_
    refine lv_iadd hx hb dX5_runEnd_25 ?_
    refine lv_icmp_ne (tgt := 35) hx hb dX5_runEnd_26 (by decide) (fun c5 => ?_) (fun c5 => ?_)
    · replace hm := if_f c5 hm
      have h9 := hE _ (Option.some.inj hm).symm
      subst h9
      exact X1_0 H locs ls hP hD hS (lv_sub hl [0, 1] rfl)
    · replace hm := if_t c5 hm
      refine lv_iinc (v := (st2 + 1)) (lv' := [(2, .int (st2 + 1)), (0, .ref aE)]) hx hb dX5_runEnd_29 hl (k := 1) rfl rfl (by decide) rfl (fun ls hl => ?_)
      refine lv_goto (tgt := 2) hx hb dX5_runEnd_32 (by decide) ?_
      exact hG _ (Option.some.inj hm).symm H locs ls hP hD hS (lv_sub hl [1, 0] rfl)
set_option maxHeartbeats 4000000 in
set_option maxRecDepth 100000 in
theorem c_X5_writeNumeric (l : Launch) (D : va_G) (cI cJ cZ cS : ClassId) (aS aS_ke aS_di aA aA_or aA_nu aA_li aW aC aE aE_li aL aE_se : Nat) (S_st : Int32) (S_mi : Int32) (S_fi : Int32) (S_sp : Int32) (S_cl : Int32) (S_nu : Int32) (S_co : Int32) (A_nu : Nat → Int32) (E_n : Int32) (E_li : Nat → Int32) (E_se : Nat → Int32) (E_sn : Int32) (o : Int32 × (Nat → Int32)) (hm : m_X5_writeNumeric S_cl A_nu E_n E_li E_se E_sn = some o) : MV l yX5_writeNumeric wsX5_writeNumeric rm_X5_writeNumeric D (TY cI cJ cZ cS) [.ref aE] (w_X5_writeNumeric cI aS aS_ke aS_di aA aA_or aA_nu aA_li aW aC aE aE_li aL aE_se S_st S_mi S_fi S_sp S_cl S_nu S_co A_nu E_n E_li E_se E_sn) (w_X5_writeNumeric cI aS aS_ke aS_di aA aA_or aA_nu aA_li aW aC aE aE_li aL aE_se S_st S_mi S_fi S_sp S_cl S_nu S_co A_nu o.1 o.2 E_se E_sn) := by
  refine MV_of (cc := cX5_writeNumeric) (maxL := 3) (by decide) rfl (Nat.le_of_ble_eq_true rfl) ?_
  intro p e s m args below meth c A Q ls H locs hx hb hml hts hown hK hA hP hD hS hl hret
  have hown : s.vm.findClass RX5 = some m.cls := hown
  have hKv : va_K D vwCl (TY cI cJ cZ cS) s := hK.1
  have hl : lv_has ls 3 [(0, .ref aE)] := hl
  have S : CallFix p m c cX5_writeNumeric 3 s args wsX5_writeNumeric RX5 := ⟨hx, hb, hml, hown, hts⟩
  have k1 : CallW rm_X5_writeNumeric s args RX5 RX5 68 yX5_write cX5_write 2 none wsX5_write rm_X5_write 0 0 1 := cwV 1 hts gX5_writeNumeric_X5_write rfl rfl rfl (by decide +kernel) ⟨Nat.le_of_ble_eq_true rfl, Nat.le_of_ble_eq_true rfl⟩
  have k2 : CallW rm_X5_writeNumeric s args RX5 RX5 142 yX5_numberAt cX5_numberAt 2 (some .int) wsX5_numberAt rm_X5_numberAt 0 0 1 := cwV 1 hts gX5_writeNumeric_X5_numberAt rfl rfl rfl (by decide +kernel) ⟨Nat.le_of_ble_eq_true rfl, Nat.le_of_ble_eq_true rfl⟩
  have k3 : CallW rm_X5_writeNumeric s args RX5 RX5 76 yX5_writeDigit cX5_writeDigit 2 none wsX5_writeDigit rm_X5_writeDigit 0 0 1 := cwV 1 hts gX5_writeNumeric_X5_writeDigit rfl rfl rfl (by decide +kernel) ⟨Nat.le_of_ble_eq_true rfl, Nat.le_of_ble_eq_true rfl⟩
  have k4 := hts (.fieldLink RX5 36 "CitationFormatter$Renderer" "settings" "LCitationFormatter$Settings;") (by decide +kernel)
  have k5 : ∀ w ∈ wsX50, w ∈ wsX5_writeNumeric := by decide +kernel
  have k6 := hts (.fieldLink RX5 128 "CitationFormatter$Settings" "collapseLevel" "I") (by decide +kernel)
  have k7 : ∀ w ∈ wsX60, w ∈ wsX5_writeNumeric := by decide +kernel
  have k8 : CallW rm_X5_writeNumeric s args RX5 RX5 146 yX5_runEnd cX5_runEnd 3 (some .int) wsX5_runEnd rm_X5_runEnd 0 0 1 := cwV 1 hts gX5_writeNumeric_X5_runEnd rfl rfl rfl (by decide +kernel) ⟨Nat.le_of_ble_eq_true rfl, Nat.le_of_ble_eq_true rfl⟩
  have k9 := hts (.fieldLink RX5 22 "CitationFormatter$Renderer" "sequenceSize" "I") (by decide +kernel)
  refine lv_aload_n hx hb dX5_writeNumeric_0 rfl (lv_at hl 0 rfl) ?_
  refine lv_bipush (v := 91) hx hb dX5_writeNumeric_1 (by decide) ?_
  replace hm := bd_some hm
  obtain ⟨e1, hc1, hm⟩ := hm
  refine kV_v (rest := []) (ws' := (w_X5_writeNumeric cI aS aS_ke aS_di aA aA_or aA_nu aA_li aW aC aE aE_li aL aE_se S_st S_mi S_fi S_sp S_cl S_nu S_co A_nu e1.1 e1.2 E_se E_sn)) S (c_X5_write l D cI cJ cZ cS aE aE_li aW aS aC aA aL aE_se E_n E_li E_sn 91 e1 hc1) k1 hK hP hD hS hA 3 rfl rfl rfl rfl hl.1 rfl (Nat.le_of_ble_eq_true rfl) ⟨Nat.zero_le _, Nat.zero_le _⟩ dX5_writeNumeric_3 [3, 4] rfl rfl wa_X5_write (sa_eq [(aS, .inr (6, [.int S_st, .int S_mi, .int S_fi, .int S_sp, .int S_cl, .int S_nu, .int S_co, .ref aS_ke, .ref aS_di])), (aA, .inr (0, [.ref aA_or, .ref aA_nu, .ref aA_li, .ref aW, .ref aS, .ref aC])), (aA_nu, .inl (cI, 8, .inl A_nu)), (aE_se, .inl (cI, 5, .inl E_se))] [0, 1, 2, 5] 6 rfl rfl rfl rfl rfl rfl rfl) (fun H locs hP hD hS => ?_)
  refine lv_iconst (v := 0) hx hb dX5_writeNumeric_6 (by decide) ?_
  refine lv_istore_n (lv' := [(1, .int 0), (0, .ref aE)]) hx hb dX5_writeNumeric_7 rfl hl (by decide) rfl (fun ls hl => ?_)
  replace hm := bd_some hm
  obtain ⟨e2, hc2, hm⟩ := hm
  have X2_0 : ∀ (H : Heap) (locs : List Loc) (ls : Array Slot), va_P D vwCl (w_X5_writeNumeric cI aS aS_ke aS_di aA aA_or aA_nu aA_li aW aC aE aE_li aL aE_se S_st S_mi S_fi S_sp S_cl S_nu S_co A_nu e2.1 e2.2 E_se E_sn) H → va_D A (w_X5_writeNumeric cI aS aS_ke aS_di aA aA_or aA_nu aA_li aW aC aE aE_li aL aE_se S_st S_mi S_fi S_sp S_cl S_nu S_co A_nu e2.1 e2.2 E_se E_sn) → va_S A s.heap H locs → lv_has ls 3 [(0, .ref aE)] → W p l e rm_X5_writeNumeric s m args below meth c H locs 0 0 Q (F0 m 85 ls []) := by
    intro H locs ls hP hD hS hl
    refine lv_aload_n hx hb dX5_writeNumeric_85 rfl (lv_at hl 0 rfl) ?_
    refine lv_bipush (v := 93) hx hb dX5_writeNumeric_86 (by decide) ?_
    replace hm := bd_some hm
    obtain ⟨e3, hc3, hm⟩ := hm
    refine kV_v (rest := []) (ws' := (w_X5_writeNumeric cI aS aS_ke aS_di aA aA_or aA_nu aA_li aW aC aE aE_li aL aE_se S_st S_mi S_fi S_sp S_cl S_nu S_co A_nu e3.1 e3.2 E_se E_sn)) S (c_X5_write l D cI cJ cZ cS aE aE_li aW aS aC aA aL aE_se e2.1 e2.2 E_sn 93 e3 hc3) k1 hK hP hD hS hA 3 rfl rfl rfl rfl hl.1 rfl (Nat.le_of_ble_eq_true rfl) ⟨Nat.zero_le _, Nat.zero_le _⟩ dX5_writeNumeric_88 [3, 4] rfl rfl wa_X5_write (sa_eq [(aS, .inr (6, [.int S_st, .int S_mi, .int S_fi, .int S_sp, .int S_cl, .int S_nu, .int S_co, .ref aS_ke, .ref aS_di])), (aA, .inr (0, [.ref aA_or, .ref aA_nu, .ref aA_li, .ref aW, .ref aS, .ref aC])), (aA_nu, .inl (cI, 8, .inl A_nu)), (aE_se, .inl (cI, 5, .inl E_se))] [0, 1, 2, 5] 6 rfl rfl rfl rfl rfl rfl rfl) (fun H locs hP hD hS => ?_)
    have h9 := Option.some.inj hm
    subst h9
    exact hret H locs _ ls hP hD hS dX5_writeNumeric_91
  refine it_W (G := fun (st8 : Int32 × Int32 × (Nat → Int32)) => ∀ (H : Heap) (locs : List Loc) (ls : Array Slot), va_P D vwCl (w_X5_writeNumeric cI aS aS_ke aS_di aA aA_or aA_nu aA_li aW aC aE aE_li aL aE_se S_st S_mi S_fi S_sp S_cl S_nu S_co A_nu st8.2.1 st8.2.2 E_se E_sn) H → va_D A (w_X5_writeNumeric cI aS aS_ke aS_di aA aA_or aA_nu aA_li aW aC aE aE_li aL aE_se S_st S_mi S_fi S_sp S_cl S_nu S_co A_nu st8.2.1 st8.2.2 E_se E_sn) → va_S A s.heap H locs → lv_has ls 3 [(0, .ref aE), (1, .int st8.1)] → W p l e rm_X5_writeNumeric s m args below meth c H locs 0 0 Q (F0 m 8 ls [])) (e := e2) (fun st8 x hm hG hE => ?_) fu _ hc2 H locs ls hP hD hS (lv_sub hl [1, 0] rfl)
  intro H locs ls hP hD hS hl
  have J79 : ∀ (x1_j79 : Int32) (E_n_j79 : Int32) (E_li_j79 : Nat → Int32), (m_X5_writeNumeric_J79 x1_j79 E_n_j79 E_li_j79 = some x) → ∀ (H : Heap) (locs : List Loc) (ls : Array Slot), va_P D vwCl (w_X5_writeNumeric cI aS aS_ke aS_di aA aA_or aA_nu aA_li aW aC aE aE_li aL aE_se S_st S_mi S_fi S_sp S_cl S_nu S_co A_nu E_n_j79 E_li_j79 E_se E_sn) H → va_D A (w_X5_writeNumeric cI aS aS_ke aS_di aA aA_or aA_nu aA_li aW aC aE aE_li aL aE_se S_st S_mi S_fi S_sp S_cl S_nu S_co A_nu E_n_j79 E_li_j79 E_se E_sn) → va_S A s.heap H locs → lv_has ls 3 [(0, .ref aE), (1, .int x1_j79)] → W p l e rm_X5_writeNumeric s m args below meth c H locs 0 0 Q (F0 m 79 ls []) := by
    intro x1_j79 E_n_j79 E_li_j79 hm H locs ls hP hD hS hl
    refine lv_iinc (v := (x1_j79 + 1)) (lv' := [(1, .int (x1_j79 + 1)), (0, .ref aE)]) hx hb dX5_writeNumeric_79 hl (k := 1) rfl rfl (by decide) rfl (fun ls hl => ?_)
    refine lv_goto (tgt := 8) hx hb dX5_writeNumeric_82 (by decide) ?_
    exact hG _ (Option.some.inj hm).symm H locs ls hP hD hS (lv_sub hl [1, 0] rfl)
  have J54 : ∀ (x1_j54 : Int32) (y0_j54 : Int32) (E_n_j54 : Int32) (E_li_j54 : Nat → Int32), (m_X5_writeNumeric_J54 x1_j54 y0_j54 A_nu E_n_j54 E_li_j54 E_se = some x) → ∀ (H : Heap) (locs : List Loc) (ls : Array Slot), va_P D vwCl (w_X5_writeNumeric cI aS aS_ke aS_di aA aA_or aA_nu aA_li aW aC aE aE_li aL aE_se S_st S_mi S_fi S_sp S_cl S_nu S_co A_nu E_n_j54 E_li_j54 E_se E_sn) H → va_D A (w_X5_writeNumeric cI aS aS_ke aS_di aA aA_or aA_nu aA_li aW aC aE aE_li aL aE_se S_st S_mi S_fi S_sp S_cl S_nu S_co A_nu E_n_j54 E_li_j54 E_se E_sn) → va_S A s.heap H locs → lv_has ls 3 [(0, .ref aE), (1, .int x1_j54)] → W p l e rm_X5_writeNumeric s m args below meth c H locs 0 0 Q (F0 m 54 ls [.int y0_j54]) := by
    intro x1_j54 y0_j54 E_n_j54 E_li_j54 hm H locs ls hP hD hS hl
    refine lv_istore_n (lv' := [(2, .int y0_j54), (0, .ref aE), (1, .int x1_j54)]) hx hb dX5_writeNumeric_54 rfl hl (by decide) rfl (fun ls hl => ?_)
    refine lv_iload_n hx hb dX5_writeNumeric_55 rfl (lv_at hl 0 rfl) ?_
    refine lv_iload_n hx hb dX5_writeNumeric_56 rfl (lv_at hl 2 rfl) ?_
    refine lv_isub hx hb dX5_writeNumeric_57 ?_
    refine lv_iconst (v := 2) hx hb dX5_writeNumeric_58 (by decide) ?_
    refine lv_icmp_lt (tgt := 79) hx hb dX5_writeNumeric_59 (by decide) (fun c4 => ?_) (fun c4 => ?_)
    · replace hm := if_t c4 hm
      exact J79 x1_j54 E_n_j54 E_li_j54 hm H locs ls hP hD hS (lv_sub hl [1, 2] rfl)
    · replace hm := if_f c4 hm
      refine lv_aload_n hx hb dX5_writeNumeric_62 rfl (lv_at hl 1 rfl) ?_
      refine lv_bipush (v := 45) hx hb dX5_writeNumeric_63 (by decide) ?_
      replace hm := bd_some hm
      obtain ⟨e5, hc5, hm⟩ := hm
      refine kV_v (rest := []) (ws' := (w_X5_writeNumeric cI aS aS_ke aS_di aA aA_or aA_nu aA_li aW aC aE aE_li aL aE_se S_st S_mi S_fi S_sp S_cl S_nu S_co A_nu e5.1 e5.2 E_se E_sn)) S (c_X5_write l D cI cJ cZ cS aE aE_li aW aS aC aA aL aE_se E_n_j54 E_li_j54 E_sn 45 e5 hc5) k1 hK hP hD hS hA 3 rfl rfl rfl rfl hl.1 rfl (Nat.le_of_ble_eq_true rfl) ⟨Nat.zero_le _, Nat.zero_le _⟩ dX5_writeNumeric_65 [3, 4] rfl rfl wa_X5_write (sa_eq [(aS, .inr (6, [.int S_st, .int S_mi, .int S_fi, .int S_sp, .int S_cl, .int S_nu, .int S_co, .ref aS_ke, .ref aS_di])), (aA, .inr (0, [.ref aA_or, .ref aA_nu, .ref aA_li, .ref aW, .ref aS, .ref aC])), (aA_nu, .inl (cI, 8, .inl A_nu)), (aE_se, .inl (cI, 5, .inl E_se))] [0, 1, 2, 5] 6 rfl rfl rfl rfl rfl rfl rfl) (fun H locs hP hD hS => ?_)
      refine lv_aload_n hx hb dX5_writeNumeric_68 rfl (lv_at hl 1 rfl) ?_
      refine lv_aload_n hx hb dX5_writeNumeric_69 rfl (lv_at hl 1 rfl) ?_
      refine lv_iload_n hx hb dX5_writeNumeric_70 rfl (lv_at hl 0 rfl) ?_
      replace hm := bd_some hm
      obtain ⟨e6, hc6, hm⟩ := hm
      refine kV_i (rest := [.ref aE]) (ws' := (w_X5_writeNumeric cI aS aS_ke aS_di aA aA_or aA_nu aA_li aW aC aE aE_li aL aE_se S_st S_mi S_fi S_sp S_cl S_nu S_co A_nu e5.1 e5.2 E_se E_sn)) S (c_X5_numberAt l D cI cJ cZ cS aA aA_or aA_nu aA_li aW aS aC aE aE_li aL aE_se A_nu e5.1 E_se E_sn y0_j54 e6 hc6) k2 hK hP hD hS hA 3 rfl rfl rfl rfl hl.1 rfl (Nat.le_of_ble_eq_true rfl) ⟨Nat.zero_le _, Nat.zero_le _⟩ dX5_writeNumeric_71 [1, 2, 3, 5] rfl rfl wa_X5_numberAt (sa_eq [(aS, .inr (6, [.int S_st, .int S_mi, .int S_fi, .int S_sp, .int S_cl, .int S_nu, .int S_co, .ref aS_ke, .ref aS_di])), (aE_li, .inl (cI, 100, .inl e5.2))] [0, 4] 6 rfl rfl rfl rfl rfl rfl rfl) (fun H locs hP hD hS => ?_)
      replace hm := bd_some hm
      obtain ⟨e7, hc7, hm⟩ := hm
      refine kV_v (rest := []) (ws' := (w_X5_writeNumeric cI aS aS_ke aS_di aA aA_or aA_nu aA_li aW aC aE aE_li aL aE_se S_st S_mi S_fi S_sp S_cl S_nu S_co A_nu e7.1 e7.2 E_se E_sn)) S (c_X5_writeDigit l D cI cJ cZ cS aE aE_li aW aS aC aA aL aE_se e5.1 e5.2 E_sn e6 e7 hc7) k3 hK hP hD hS hA 3 rfl rfl rfl rfl hl.1 rfl (Nat.le_of_ble_eq_true rfl) ⟨Nat.zero_le _, Nat.zero_le _⟩ dX5_writeNumeric_74 [3, 4] rfl rfl wa_X5_writeDigit (sa_eq [(aS, .inr (6, [.int S_st, .int S_mi, .int S_fi, .int S_sp, .int S_cl, .int S_nu, .int S_co, .ref aS_ke, .ref aS_di])), (aA, .inr (0, [.ref aA_or, .ref aA_nu, .ref aA_li, .ref aW, .ref aS, .ref aC])), (aA_nu, .inl (cI, 8, .inl A_nu)), (aE_se, .inl (cI, 5, .inl E_se))] [0, 1, 2, 5] 6 rfl rfl rfl rfl rfl rfl rfl) (fun H locs hP hD hS => ?_)
      refine lv_iload_n hx hb dX5_writeNumeric_77 rfl (lv_at hl 0 rfl) ?_
      refine lv_istore_n (lv' := [(1, .int y0_j54), (2, .int y0_j54), (0, .ref aE)]) hx hb dX5_writeNumeric_78 rfl hl (by decide) rfl (fun ls hl => ?_)
      exact J79 y0_j54 e7.1 e7.2 hm H locs ls hP hD hS (lv_sub hl [2, 0] rfl)
  have J26 : ∀ (x1_j26 : Int32) (E_n_j26 : Int32) (E_li_j26 : Nat → Int32), (m_X5_writeNumeric_J26 x1_j26 S_cl A_nu E_n_j26 E_li_j26 E_se E_sn = some x) → ∀ (H : Heap) (locs : List Loc) (ls : Array Slot), va_P D vwCl (w_X5_writeNumeric cI aS aS_ke aS_di aA aA_or aA_nu aA_li aW aC aE aE_li aL aE_se S_st S_mi S_fi S_sp S_cl S_nu S_co A_nu E_n_j26 E_li_j26 E_se E_sn) H → va_D A (w_X5_writeNumeric cI aS aS_ke aS_di aA aA_or aA_nu aA_li aW aC aE aE_li aL aE_se S_st S_mi S_fi S_sp S_cl S_nu S_co A_nu E_n_j26 E_li_j26 E_se E_sn) → va_S A s.heap H locs → lv_has ls 3 [(0, .ref aE), (1, .int x1_j26)] → W p l e rm_X5_writeNumeric s m args below meth c H locs 0 0 Q (F0 m 26 ls []) := by
    intro x1_j26 E_n_j26 E_li_j26 hm H locs ls hP hD hS hl
    refine lv_aload_n hx hb dX5_writeNumeric_26 rfl (lv_at hl 0 rfl) ?_
    refine lv_aload_n hx hb dX5_writeNumeric_27 rfl (lv_at hl 0 rfl) ?_
    refine lv_iload_n hx hb dX5_writeNumeric_28 rfl (lv_at hl 1 rfl) ?_
    replace hm := bd_some hm
    obtain ⟨e8, hc8, hm⟩ := hm
    refine kV_i (rest := [.ref aE]) (ws' := (w_X5_writeNumeric cI aS aS_ke aS_di aA aA_or aA_nu aA_li aW aC aE aE_li aL aE_se S_st S_mi S_fi S_sp S_cl S_nu S_co A_nu E_n_j26 E_li_j26 E_se E_sn)) S (c_X5_numberAt l D cI cJ cZ cS aA aA_or aA_nu aA_li aW aS aC aE aE_li aL aE_se A_nu E_n_j26 E_se E_sn x1_j26 e8 hc8) k2 hK hP hD hS hA 3 rfl rfl rfl rfl hl.1 rfl (Nat.le_of_ble_eq_true rfl) ⟨Nat.zero_le _, Nat.zero_le _⟩ dX5_writeNumeric_29 [1, 2, 3, 5] rfl rfl wa_X5_numberAt (sa_eq [(aS, .inr (6, [.int S_st, .int S_mi, .int S_fi, .int S_sp, .int S_cl, .int S_nu, .int S_co, .ref aS_ke, .ref aS_di])), (aE_li, .inl (cI, 100, .inl E_li_j26))] [0, 4] 6 rfl rfl rfl rfl rfl rfl rfl) (fun H locs hP hD hS => ?_)
    replace hm := bd_some hm
    obtain ⟨e9, hc9, hm⟩ := hm
    refine kV_v (rest := []) (ws' := (w_X5_writeNumeric cI aS aS_ke aS_di aA aA_or aA_nu aA_li aW aC aE aE_li aL aE_se S_st S_mi S_fi S_sp S_cl S_nu S_co A_nu e9.1 e9.2 E_se E_sn)) S (c_X5_writeDigit l D cI cJ cZ cS aE aE_li aW aS aC aA aL aE_se E_n_j26 E_li_j26 E_sn e8 e9 hc9) k3 hK hP hD hS hA 3 rfl rfl rfl rfl hl.1 rfl (Nat.le_of_ble_eq_true rfl) ⟨Nat.zero_le _, Nat.zero_le _⟩ dX5_writeNumeric_32 [3, 4] rfl rfl wa_X5_writeDigit (sa_eq [(aS, .inr (6, [.int S_st, .int S_mi, .int S_fi, .int S_sp, .int S_cl, .int S_nu, .int S_co, .ref aS_ke, .ref aS_di])), (aA, .inr (0, [.ref aA_or, .ref aA_nu, .ref aA_li, .ref aW, .ref aS, .ref aC])), (aA_nu, .inl (cI, 8, .inl A_nu)), (aE_se, .inl (cI, 5, .inl E_se))] [0, 1, 2, 5] 6 rfl rfl rfl rfl rfl rfl rfl) (fun H locs hP hD hS => ?_)
    refine lv_aload_n hx hb dX5_writeNumeric_35 rfl (lv_at hl 0 rfl) ?_
    refine va_get (D := D) (ci := 5) (v := .ref aS) (C := RX5) (T := TX5) (N := 9) hx hb hts k5 hown hKv hP 3 rfl rfl 3 (by decide) k4 (fun _ h9 => h9) rfl dX5_writeNumeric_36 ?_
    refine va_get (D := D) (ci := 6) (v := .int S_cl) (C := RX6) (T := TX6) (N := 9) hx hb hts k7 hown hKv hP 0 rfl rfl 4 (by decide) k6 (fun _ h9 => h9) rfl dX5_writeNumeric_39 ?_
    refine lv_if_ne (tgt := 49) hx hb dX5_writeNumeric_42 (by decide) (fun c10 => ?_) (fun c10 => ?_)
    · replace hm := if_f c10 hm
      refine lv_aload_n hx hb dX5_writeNumeric_49 rfl (lv_at hl 0 rfl) ?_
      refine lv_iload_n hx hb dX5_writeNumeric_50 rfl (lv_at hl 1 rfl) ?_
      replace hm := bd_some hm
      obtain ⟨e11, hc11, hm⟩ := hm
      refine kV_i (rest := []) (ws' := (w_X5_writeNumeric cI aS aS_ke aS_di aA aA_or aA_nu aA_li aW aC aE aE_li aL aE_se S_st S_mi S_fi S_sp S_cl S_nu S_co A_nu e9.1 e9.2 E_se E_sn)) S (c_X5_runEnd l D cI cJ cZ cS aA aA_or aA_nu aA_li aW aS aC aE aE_li aL aE_se A_nu e9.1 E_se E_sn x1_j26 e11 hc11) k8 hK hP hD hS hA 3 rfl rfl rfl rfl hl.1 rfl (Nat.le_of_ble_eq_true rfl) ⟨Nat.zero_le _, Nat.zero_le _⟩ dX5_writeNumeric_51 [1, 2, 3, 5] rfl rfl wa_X5_runEnd (sa_eq [(aS, .inr (6, [.int S_st, .int S_mi, .int S_fi, .int S_sp, .int S_cl, .int S_nu, .int S_co, .ref aS_ke, .ref aS_di])), (aE_li, .inl (cI, 100, .inl e9.2))] [0, 4] 6 rfl rfl rfl rfl rfl rfl rfl) (fun H locs hP hD hS => ?_)
      exact J54 x1_j26 e11 e9.1 e9.2 hm H locs ls hP hD hS (lv_sub hl [0, 1] rfl)
    · replace hm := if_t c10 hm
      refine lv_iload_n hx hb dX5_writeNumeric_45 rfl (lv_at hl 1 rfl) ?_
      refine lv_goto (tgt := 54) hx hb dX5_writeNumeric_46 (by decide) ?_
      exact J54 x1_j26 x1_j26 e9.1 e9.2 hm H locs ls hP hD hS (lv_sub hl [0, 1] rfl)
  refine lv_iload_n hx hb dX5_writeNumeric_8 rfl (lv_at hl 1 rfl) ?_
  refine lv_aload_n hx hb dX5_writeNumeric_9 rfl (lv_at hl 0 rfl) ?_
  refine va_get (D := D) (ci := 5) (v := .int E_sn) (C := RX5) (T := TX5) (N := 9) hx hb hts k5 hown hKv hP 3 rfl rfl 8 (by decide) k9 (fun _ h9 => h9) rfl dX5_writeNumeric_10 ?_
  refine lv_icmp_ge (tgt := 85) hx hb dX5_writeNumeric_13 (by decide) (fun c12 => ?_) (fun c12 => ?_)
  · replace hm := if_t c12 hm
    have h9 := hE _ (Option.some.inj hm).symm
    subst h9
    exact X2_0 H locs ls hP hD hS (lv_sub hl [0] rfl)
  · replace hm := if_f c12 hm
    refine lv_iload_n hx hb dX5_writeNumeric_16 rfl (lv_at hl 1 rfl) ?_
    refine lv_if_le (tgt := 26) hx hb dX5_writeNumeric_17 (by decide) (fun c13 => ?_) (fun c13 => ?_)
    · replace hm := if_t c13 hm
      exact J26 st8.1 st8.2.1 st8.2.2 hm H locs ls hP hD hS (lv_sub hl [0, 1] rfl)
    · replace hm := if_f c13 hm
      refine lv_aload_n hx hb dX5_writeNumeric_20 rfl (lv_at hl 0 rfl) ?_
      refine lv_bipush (v := 44) hx hb dX5_writeNumeric_21 (by decide) ?_
      replace hm := bd_some hm
      obtain ⟨e14, hc14, hm⟩ := hm
      refine kV_v (rest := []) (ws' := (w_X5_writeNumeric cI aS aS_ke aS_di aA aA_or aA_nu aA_li aW aC aE aE_li aL aE_se S_st S_mi S_fi S_sp S_cl S_nu S_co A_nu e14.1 e14.2 E_se E_sn)) S (c_X5_write l D cI cJ cZ cS aE aE_li aW aS aC aA aL aE_se st8.2.1 st8.2.2 E_sn 44 e14 hc14) k1 hK hP hD hS hA 3 rfl rfl rfl rfl hl.1 rfl (Nat.le_of_ble_eq_true rfl) ⟨Nat.zero_le _, Nat.zero_le _⟩ dX5_writeNumeric_23 [3, 4] rfl rfl wa_X5_write (sa_eq [(aS, .inr (6, [.int S_st, .int S_mi, .int S_fi, .int S_sp, .int S_cl, .int S_nu, .int S_co, .ref aS_ke, .ref aS_di])), (aA, .inr (0, [.ref aA_or, .ref aA_nu, .ref aA_li, .ref aW, .ref aS, .ref aC])), (aA_nu, .inl (cI, 8, .inl A_nu)), (aE_se, .inl (cI, 5, .inl E_se))] [0, 1, 2, 5] 6 rfl rfl rfl rfl rfl rfl rfl) (fun H locs hP hD hS => ?_)
      exact J26 st8.1 e14.1 e14.2 hm H locs ls hP hD hS (lv_sub hl [0, 1] rfl)
set_option maxHeartbeats 4000000 in
set_option maxRecDepth 100000 in
theorem c_X5_writeSuffix (l : Launch) (D : va_G) (cI cJ cZ cS : ClassId) (aL aL_sh aL_wi aL_su aW aS aA aL_nk aL_gr aE aE_li aC aE_se : Nat) (L_su : Nat → Int32) (E_n : Int32) (E_li : Nat → Int32) (E_sn : Int32) (x1 : Int32) (o : Int32 × (Nat → Int32)) (hm : m_X5_writeSuffix L_su E_n E_li x1 = some o) : MV l yX5_writeSuffix wsX5_writeSuffix rm_X5_writeSuffix D (TY cI cJ cZ cS) [.ref aE, .int x1] (w_X5_writeSuffix cI aL aL_sh aL_wi aL_su aW aS aA aL_nk aL_gr aE aE_li aC aE_se L_su E_n E_li E_sn) (w_X5_writeSuffix cI aL aL_sh aL_wi aL_su aW aS aA aL_nk aL_gr aE aE_li aC aE_se L_su o.1 o.2 E_sn) := by
  refine MV_of (cc := cX5_writeSuffix) (maxL := 2) (by decide) rfl (Nat.le_of_ble_eq_true rfl) ?_
  intro p e s m args below meth c A Q ls H locs hx hb hml hts hown hK hA hP hD hS hl hret
  have hown : s.vm.findClass RX5 = some m.cls := hown
  have hKv : va_K D vwCl (TY cI cJ cZ cS) s := hK.1
  have hl : lv_has ls 2 [(0, .ref aE), (1, .int x1)] := hl
  have S : CallFix p m c cX5_writeSuffix 2 s args wsX5_writeSuffix RX5 := ⟨hx, hb, hml, hown, hts⟩
  have k1 := hts (.fieldLink RX5 46 "CitationFormatter$Renderer" "labels" "LCitationFormatter$Labels;") (by decide +kernel)
  have k2 : ∀ w ∈ wsX50, w ∈ wsX5_writeSuffix := by decide +kernel
  have k3 := hts (.fieldLink RX5 136 "CitationFormatter$Labels" "suffixes" "[I") (by decide +kernel)
  have k4 : ∀ w ∈ wsX30, w ∈ wsX5_writeSuffix := by decide +kernel
  have k5 : CallW rm_X5_writeSuffix s args RX5 RX5 68 yX5_write cX5_write 2 none wsX5_write rm_X5_write 0 0 1 := cwV 1 hts gX5_writeSuffix_X5_write rfl rfl rfl (by decide +kernel) ⟨Nat.le_of_ble_eq_true rfl, Nat.le_of_ble_eq_true rfl⟩
  have J25 : ∀ (E_n_j25 : Int32) (E_li_j25 : Nat → Int32), (m_X5_writeSuffix_J25 E_n_j25 E_li_j25 = some o) → ∀ (H : Heap) (locs : List Loc) (ls : Array Slot), va_P D vwCl (w_X5_writeSuffix cI aL aL_sh aL_wi aL_su aW aS aA aL_nk aL_gr aE aE_li aC aE_se L_su E_n_j25 E_li_j25 E_sn) H → va_D A (w_X5_writeSuffix cI aL aL_sh aL_wi aL_su aW aS aA aL_nk aL_gr aE aE_li aC aE_se L_su E_n_j25 E_li_j25 E_sn) → va_S A s.heap H locs → lv_has ls 2 [(0, .ref aE)] → W p l e rm_X5_writeSuffix s m args below meth c H locs 0 0 Q (F0 m 25 ls []) := by
    intro E_n_j25 E_li_j25 hm H locs ls hP hD hS hl
    have h9 := Option.some.inj hm
    subst h9
    exact hret H locs _ ls hP hD hS dX5_writeSuffix_25
  refine lv_aload_n hx hb dX5_writeSuffix_0 rfl (lv_at hl 0 rfl) ?_
  refine va_get (D := D) (ci := 5) (v := .ref aL) (C := RX5) (T := TX5) (N := 9) hx hb hts k2 hown hKv hP 2 rfl rfl 6 (by decide) k1 (fun _ h9 => h9) rfl dX5_writeSuffix_1 ?_
  refine va_get (D := D) (ci := 3) (v := .ref aL_su) (C := RX3) (T := TX3) (N := 8) hx hb hts k4 hown hKv hP 0 rfl rfl 2 (by decide) k3 (fun _ h9 => h9) rfl dX5_writeSuffix_4 ?_
  refine lv_iload_n hx hb dX5_writeSuffix_7 rfl (lv_at hl 1 rfl) ?_
  replace hm := ck_some hm
  obtain ⟨h1, hm⟩ := hm
  refine va_iald hx hb hKv hP 1 0 rfl rfl h1 dX5_writeSuffix_8 ?_
  refine lv_if_eq (tgt := 25) hx hb dX5_writeSuffix_9 (by decide) (fun c2 => ?_) (fun c2 => ?_)
  · replace hm := if_t c2 hm
    exact J25 E_n E_li hm H locs ls hP hD hS (lv_sub hl [0] rfl)
  · replace hm := if_f c2 hm
    refine lv_aload_n hx hb dX5_writeSuffix_12 rfl (lv_at hl 0 rfl) ?_
    refine lv_aload_n hx hb dX5_writeSuffix_13 rfl (lv_at hl 0 rfl) ?_
    refine va_get (D := D) (ci := 5) (v := .ref aL) (C := RX5) (T := TX5) (N := 9) hx hb hts k2 hown hKv hP 2 rfl rfl 6 (by decide) k1 (fun _ h9 => h9) rfl dX5_writeSuffix_14 ?_
    refine va_get (D := D) (ci := 3) (v := .ref aL_su) (C := RX3) (T := TX3) (N := 8) hx hb hts k4 hown hKv hP 0 rfl rfl 2 (by decide) k3 (fun _ h9 => h9) rfl dX5_writeSuffix_17 ?_
    refine lv_iload_n hx hb dX5_writeSuffix_20 rfl (lv_at hl 1 rfl) ?_
    replace hm := ck_some hm
    obtain ⟨h3, hm⟩ := hm
    refine va_iald hx hb hKv hP 1 0 rfl rfl h3 dX5_writeSuffix_21 ?_
    replace hm := bd_some hm
    obtain ⟨e4, hc4, hm⟩ := hm
    refine kV_v (rest := []) (ws' := (w_X5_writeSuffix cI aL aL_sh aL_wi aL_su aW aS aA aL_nk aL_gr aE aE_li aC aE_se L_su e4.1 e4.2 E_sn)) S (c_X5_write l D cI cJ cZ cS aE aE_li aW aS aC aA aL aE_se E_n E_li E_sn (L_su (Int32.toNatClampNeg x1)) e4 hc4) k5 hK hP hD hS hA 2 rfl rfl rfl rfl hl.1 rfl (Nat.le_of_ble_eq_true rfl) ⟨Nat.zero_le _, Nat.zero_le _⟩ dX5_writeSuffix_22 [2, 3] rfl rfl wa_X5_write (sa_eq [(aL, .inr (3, [.ref aL_sh, .ref aL_wi, .ref aL_su, .ref aW, .ref aS, .ref aA, .ref aL_nk, .ref aL_gr])), (aL_su, .inl (cI, 8, .inl L_su))] [0, 1] 4 rfl rfl rfl rfl rfl rfl rfl) (fun H locs hP hD hS => ?_)
    exact J25 e4.1 e4.2 hm H locs ls hP hD hS (lv_sub hl [0] rfl)
set_option maxHeartbeats 4000000 in
set_option maxRecDepth 100000 in
theorem c_X5_writeCollapsed (l : Launch) (D : va_G) (cI cJ cZ cS : ClassId) (aW aW_ac aW_fa aW_in aW_yr aW_ti aS aS_ke aS_di aL aL_sh aL_wi aL_su aA aL_nk aL_gr aE aE_li aC aE_se : Nat) (W_n : Int32) (W_yr : Nat → Int32) (S_st : Int32) (S_mi : Int32) (S_fi : Int32) (S_sp : Int32) (S_cl : Int32) (S_nu : Int32) (S_co : Int32) (L_su : Nat → Int32) (E_n : Int32) (E_li : Nat → Int32) (E_sn : Int32) (x1 : Int32) (x2 : Int32) (o : Int32 × (Nat → Int32)) (hm : m_X5_writeCollapsed W_yr S_cl L_su E_n E_li x1 x2 = some o) : MV l yX5_writeCollapsed wsX5_writeCollapsed rm_X5_writeCollapsed D (TY cI cJ cZ cS) [.ref aE, .int x1, .int x2] (w_X5_writeCollapsed cI aW aW_ac aW_fa aW_in aW_yr aW_ti aS aS_ke aS_di aL aL_sh aL_wi aL_su aA aL_nk aL_gr aE aE_li aC aE_se W_n W_yr S_st S_mi S_fi S_sp S_cl S_nu S_co L_su E_n E_li E_sn) (w_X5_writeCollapsed cI aW aW_ac aW_fa aW_in aW_yr aW_ti aS aS_ke aS_di aL aL_sh aL_wi aL_su aA aL_nk aL_gr aE aE_li aC aE_se W_n W_yr S_st S_mi S_fi S_sp S_cl S_nu S_co L_su o.1 o.2 E_sn) := by
  refine MV_of (cc := cX5_writeCollapsed) (maxL := 4) (by decide) rfl (Nat.le_of_ble_eq_true rfl) ?_
  intro p e s m args below meth c A Q ls H locs hx hb hml hts hown hK hA hP hD hS hl hret
  have hown : s.vm.findClass RX5 = some m.cls := hown
  have hKv : va_K D vwCl (TY cI cJ cZ cS) s := hK.1
  have hl : lv_has ls 4 [(0, .ref aE), (1, .int x1), (2, .int x2)] := hl
  have S : CallFix p m c cX5_writeCollapsed 4 s args wsX5_writeCollapsed RX5 := ⟨hx, hb, hml, hown, hts⟩
  have k1 : CallW rm_X5_writeCollapsed s args RX5 RX5 85 yX5_writeSuffix cX5_writeSuffix 2 none wsX5_writeSuffix rm_X5_writeSuffix 0 0 1 := cwV 1 hts gX5_writeCollapsed_X5_writeSuffix rfl rfl rfl (by decide +kernel) ⟨Nat.le_of_ble_eq_true rfl, Nat.le_of_ble_eq_true rfl⟩
  have k2 : CallW rm_X5_writeCollapsed s args RX5 RX5 82 yX5_writeYear cX5_writeYear 2 none wsX5_writeYear rm_X5_writeYear 0 0 1 := cwV 1 hts gX5_writeCollapsed_X5_writeYear rfl rfl rfl (by decide +kernel) ⟨Nat.le_of_ble_eq_true rfl, Nat.le_of_ble_eq_true rfl⟩
  have k3 := hts (.fieldLink RX5 36 "CitationFormatter$Renderer" "settings" "LCitationFormatter$Settings;") (by decide +kernel)
  have k4 : ∀ w ∈ wsX50, w ∈ wsX5_writeCollapsed := by decide +kernel
  have k5 := hts (.fieldLink RX5 128 "CitationFormatter$Settings" "collapseLevel" "I") (by decide +kernel)
  have k6 : ∀ w ∈ wsX60, w ∈ wsX5_writeCollapsed := by decide +kernel
  have k7 := hts (.fieldLink RX5 46 "CitationFormatter$Renderer" "labels" "LCitationFormatter$Labels;") (by decide +kernel)
  have k8 := hts (.fieldLink RX5 136 "CitationFormatter$Labels" "suffixes" "[I") (by decide +kernel)
  have k9 : ∀ w ∈ wsX30, w ∈ wsX5_writeCollapsed := by decide +kernel
  have k10 := hts (.fieldLink RX5 31 "CitationFormatter$Renderer" "works" "LCitationFormatter$Works;") (by decide +kernel)
  have k11 := hts (.fieldLink RX5 139 "CitationFormatter$Works" "years" "[I") (by decide +kernel)
  have k12 : ∀ w ∈ wsX90, w ∈ wsX5_writeCollapsed := by decide +kernel
  have J59 : ∀ (E_n_j59 : Int32) (E_li_j59 : Nat → Int32), (m_X5_writeCollapsed_J59 x2 L_su E_n_j59 E_li_j59 = some o) → ∀ (H : Heap) (locs : List Loc) (ls : Array Slot), va_P D vwCl (w_X5_writeCollapsed cI aW aW_ac aW_fa aW_in aW_yr aW_ti aS aS_ke aS_di aL aL_sh aL_wi aL_su aA aL_nk aL_gr aE aE_li aC aE_se W_n W_yr S_st S_mi S_fi S_sp S_cl S_nu S_co L_su E_n_j59 E_li_j59 E_sn) H → va_D A (w_X5_writeCollapsed cI aW aW_ac aW_fa aW_in aW_yr aW_ti aS aS_ke aS_di aL aL_sh aL_wi aL_su aA aL_nk aL_gr aE aE_li aC aE_se W_n W_yr S_st S_mi S_fi S_sp S_cl S_nu S_co L_su E_n_j59 E_li_j59 E_sn) → va_S A s.heap H locs → lv_has ls 4 [(0, .ref aE), (2, .int x2)] → W p l e rm_X5_writeCollapsed s m args below meth c H locs 0 0 Q (F0 m 59 ls []) := by
    intro E_n_j59 E_li_j59 hm H locs ls hP hD hS hl
    refine lv_aload_n hx hb dX5_writeCollapsed_59 rfl (lv_at hl 0 rfl) ?_
    refine lv_iload_n hx hb dX5_writeCollapsed_60 rfl (lv_at hl 1 rfl) ?_
    replace hm := bd_some hm
    obtain ⟨e1, hc1, hm⟩ := hm
    refine kV_v (rest := []) (ws' := (w_X5_writeCollapsed cI aW aW_ac aW_fa aW_in aW_yr aW_ti aS aS_ke aS_di aL aL_sh aL_wi aL_su aA aL_nk aL_gr aE aE_li aC aE_se W_n W_yr S_st S_mi S_fi S_sp S_cl S_nu S_co L_su e1.1 e1.2 E_sn)) S (c_X5_writeSuffix l D cI cJ cZ cS aL aL_sh aL_wi aL_su aW aS aA aL_nk aL_gr aE aE_li aC aE_se L_su E_n_j59 E_li_j59 E_sn x2 e1 hc1) k1 hK hP hD hS hA 5 rfl rfl rfl rfl hl.1 rfl (Nat.le_of_ble_eq_true rfl) ⟨Nat.zero_le _, Nat.zero_le _⟩ dX5_writeCollapsed_61 [3, 4, 5, 6] rfl rfl wa_X5_writeSuffix (sa_eq [(aW, .inr (9, [.int W_n, .ref aW_ac, .ref aW_fa, .ref aW_in, .ref aW_yr, .ref aW_ti])), (aW_yr, .inl (cI, 8, .inl W_yr)), (aS, .inr (6, [.int S_st, .int S_mi, .int S_fi, .int S_sp, .int S_cl, .int S_nu, .int S_co, .ref aS_ke, .ref aS_di]))] [0, 1, 2] 7 rfl rfl rfl rfl rfl rfl rfl) (fun H locs hP hD hS => ?_)
    have h9 := Option.some.inj hm
    subst h9
    exact hret H locs _ ls hP hD hS dX5_writeCollapsed_64
  have J49 : ∀ (y0_j49 : Int32) (E_n_j49 : Int32) (E_li_j49 : Nat → Int32), (m_X5_writeCollapsed_J49 x2 y0_j49 W_yr L_su E_n_j49 E_li_j49 = some o) → ∀ (H : Heap) (locs : List Loc) (ls : Array Slot), va_P D vwCl (w_X5_writeCollapsed cI aW aW_ac aW_fa aW_in aW_yr aW_ti aS aS_ke aS_di aL aL_sh aL_wi aL_su aA aL_nk aL_gr aE aE_li aC aE_se W_n W_yr S_st S_mi S_fi S_sp S_cl S_nu S_co L_su E_n_j49 E_li_j49 E_sn) H → va_D A (w_X5_writeCollapsed cI aW aW_ac aW_fa aW_in aW_yr aW_ti aS aS_ke aS_di aL aL_sh aL_wi aL_su aA aL_nk aL_gr aE aE_li aC aE_se W_n W_yr S_st S_mi S_fi S_sp S_cl S_nu S_co L_su E_n_j49 E_li_j49 E_sn) → va_S A s.heap H locs → lv_has ls 4 [(0, .ref aE), (2, .int x2)] → W p l e rm_X5_writeCollapsed s m args below meth c H locs 0 0 Q (F0 m 49 ls [.int y0_j49]) := by
    intro y0_j49 E_n_j49 E_li_j49 hm H locs ls hP hD hS hl
    refine lv_istore_n (lv' := [(3, .int y0_j49), (0, .ref aE), (2, .int x2)]) hx hb dX5_writeCollapsed_49 rfl hl (by decide) rfl (fun ls hl => ?_)
    refine lv_iload_n hx hb dX5_writeCollapsed_50 rfl (lv_at hl 0 rfl) ?_
    refine lv_if_ne (tgt := 59) hx hb dX5_writeCollapsed_51 (by decide) (fun c2 => ?_) (fun c2 => ?_)
    · replace hm := if_f c2 hm
      exact J59 E_n_j49 E_li_j49 hm H locs ls hP hD hS (lv_sub hl [1, 2] rfl)
    · replace hm := if_t c2 hm
      refine lv_aload_n hx hb dX5_writeCollapsed_54 rfl (lv_at hl 1 rfl) ?_
      refine lv_iload_n hx hb dX5_writeCollapsed_55 rfl (lv_at hl 2 rfl) ?_
      replace hm := bd_some hm
      obtain ⟨e3, hc3, hm⟩ := hm
      refine kV_v (rest := []) (ws' := (w_X5_writeCollapsed cI aW aW_ac aW_fa aW_in aW_yr aW_ti aS aS_ke aS_di aL aL_sh aL_wi aL_su aA aL_nk aL_gr aE aE_li aC aE_se W_n W_yr S_st S_mi S_fi S_sp S_cl S_nu S_co L_su e3.1 e3.2 E_sn)) S (c_X5_writeYear l D cI cJ cZ cS aW aW_ac aW_fa aW_in aW_yr aW_ti aE aE_li aS aC aA aL aE_se W_n W_yr E_n_j49 E_li_j49 E_sn x2 e3 hc3) k2 hK hP hD hS hA 5 rfl rfl rfl rfl hl.1 rfl (Nat.le_of_ble_eq_true rfl) ⟨Nat.zero_le _, Nat.zero_le _⟩ dX5_writeCollapsed_56 [0, 1, 5, 6] rfl rfl wa_X5_writeYear (sa_eq [(aS, .inr (6, [.int S_st, .int S_mi, .int S_fi, .int S_sp, .int S_cl, .int S_nu, .int S_co, .ref aS_ke, .ref aS_di])), (aL, .inr (3, [.ref aL_sh, .ref aL_wi, .ref aL_su, .ref aW, .ref aS, .ref aA, .ref aL_nk, .ref aL_gr])), (aL_su, .inl (cI, 8, .inl L_su))] [2, 3, 4] 7 rfl rfl rfl rfl rfl rfl rfl) (fun H locs hP hD hS => ?_)
      exact J59 e3.1 e3.2 hm H locs ls hP hD hS (lv_sub hl [1, 2] rfl)
  have J48 : ∀ (E_n_j48 : Int32) (E_li_j48 : Nat → Int32), (m_X5_writeCollapsed_J48 x2 W_yr L_su E_n_j48 E_li_j48 = some o) → ∀ (H : Heap) (locs : List Loc) (ls : Array Slot), va_P D vwCl (w_X5_writeCollapsed cI aW aW_ac aW_fa aW_in aW_yr aW_ti aS aS_ke aS_di aL aL_sh aL_wi aL_su aA aL_nk aL_gr aE aE_li aC aE_se W_n W_yr S_st S_mi S_fi S_sp S_cl S_nu S_co L_su E_n_j48 E_li_j48 E_sn) H → va_D A (w_X5_writeCollapsed cI aW aW_ac aW_fa aW_in aW_yr aW_ti aS aS_ke aS_di aL aL_sh aL_wi aL_su aA aL_nk aL_gr aE aE_li aC aE_se W_n W_yr S_st S_mi S_fi S_sp S_cl S_nu S_co L_su E_n_j48 E_li_j48 E_sn) → va_S A s.heap H locs → lv_has ls 4 [(0, .ref aE), (2, .int x2)] → W p l e rm_X5_writeCollapsed s m args below meth c H locs 0 0 Q (F0 m 48 ls []) := by
    intro E_n_j48 E_li_j48 hm H locs ls hP hD hS hl
    refine lv_iconst (v := 0) hx hb dX5_writeCollapsed_48 (by decide) ?_
    exact J49 0 E_n_j48 E_li_j48 hm H locs ls hP hD hS (lv_sub hl [0, 1] rfl)
  refine lv_aload_n hx hb dX5_writeCollapsed_0 rfl (lv_at hl 0 rfl) ?_
  refine va_get (D := D) (ci := 5) (v := .ref aS) (C := RX5) (T := TX5) (N := 9) hx hb hts k4 hown hKv hP 5 rfl rfl 3 (by decide) k3 (fun _ h9 => h9) rfl dX5_writeCollapsed_1 ?_
  refine va_get (D := D) (ci := 6) (v := .int S_cl) (C := RX6) (T := TX6) (N := 9) hx hb hts k6 hown hKv hP 2 rfl rfl 4 (by decide) k5 (fun _ h9 => h9) rfl dX5_writeCollapsed_4 ?_
  refine lv_iconst (v := 2) hx hb dX5_writeCollapsed_7 (by decide) ?_
  refine lv_icmp_ne (tgt := 48) hx hb dX5_writeCollapsed_8 (by decide) (fun c4 => ?_) (fun c4 => ?_)
  · replace hm := if_f c4 hm
    exact J48 E_n E_li hm H locs ls hP hD hS (lv_sub hl [0, 2] rfl)
  · replace hm := if_t c4 hm
    refine lv_aload_n hx hb dX5_writeCollapsed_11 rfl (lv_at hl 0 rfl) ?_
    refine va_get (D := D) (ci := 5) (v := .ref aL) (C := RX5) (T := TX5) (N := 9) hx hb hts k4 hown hKv hP 5 rfl rfl 6 (by decide) k7 (fun _ h9 => h9) rfl dX5_writeCollapsed_12 ?_
    refine va_get (D := D) (ci := 3) (v := .ref aL_su) (C := RX3) (T := TX3) (N := 8) hx hb hts k9 hown hKv hP 3 rfl rfl 2 (by decide) k8 (fun _ h9 => h9) rfl dX5_writeCollapsed_15 ?_
    refine lv_iload_n hx hb dX5_writeCollapsed_18 rfl (lv_at hl 2 rfl) ?_
    replace hm := ck_some hm
    obtain ⟨h5, hm⟩ := hm
    refine va_iald hx hb hKv hP 4 0 rfl rfl h5 dX5_writeCollapsed_19 ?_
    refine lv_if_eq (tgt := 48) hx hb dX5_writeCollapsed_20 (by decide) (fun c6 => ?_) (fun c6 => ?_)
    · replace hm := if_t c6 hm
      exact J48 E_n E_li hm H locs ls hP hD hS (lv_sub hl [0, 2] rfl)
    · replace hm := if_f c6 hm
      refine lv_aload_n hx hb dX5_writeCollapsed_23 rfl (lv_at hl 0 rfl) ?_
      refine va_get (D := D) (ci := 5) (v := .ref aW) (C := RX5) (T := TX5) (N := 9) hx hb hts k4 hown hKv hP 5 rfl rfl 2 (by decide) k10 (fun _ h9 => h9) rfl dX5_writeCollapsed_24 ?_
      refine va_get (D := D) (ci := 9) (v := .ref aW_yr) (C := RX9) (T := TX9) (N := 6) hx hb hts k12 hown hKv hP 0 rfl rfl 4 (by decide) k11 (fun _ h9 => h9) rfl dX5_writeCollapsed_27 ?_
      refine lv_iload_n hx hb dX5_writeCollapsed_30 rfl (lv_at hl 1 rfl) ?_
      replace hm := ck_some hm
      obtain ⟨h7, hm⟩ := hm
      refine va_iald hx hb hKv hP 1 0 rfl rfl h7 dX5_writeCollapsed_31 ?_
      refine lv_aload_n hx hb dX5_writeCollapsed_32 rfl (lv_at hl 0 rfl) ?_
      refine va_get (D := D) (ci := 5) (v := .ref aW) (C := RX5) (T := TX5) (N := 9) hx hb hts k4 hown hKv hP 5 rfl rfl 2 (by decide) k10 (fun _ h9 => h9) rfl dX5_writeCollapsed_33 ?_
      refine va_get (D := D) (ci := 9) (v := .ref aW_yr) (C := RX9) (T := TX9) (N := 6) hx hb hts k12 hown hKv hP 0 rfl rfl 4 (by decide) k11 (fun _ h9 => h9) rfl dX5_writeCollapsed_36 ?_
      refine lv_iload_n hx hb dX5_writeCollapsed_39 rfl (lv_at hl 2 rfl) ?_
      replace hm := ck_some hm
      obtain ⟨h8, hm⟩ := hm
      refine va_iald hx hb hKv hP 1 0 rfl rfl h8 dX5_writeCollapsed_40 ?_
      refine lv_icmp_ne (tgt := 48) hx hb dX5_writeCollapsed_41 (by decide) (fun c9 => ?_) (fun c9 => ?_)
      · replace hm := if_f c9 hm
        exact J48 E_n E_li hm H locs ls hP hD hS (lv_sub hl [0, 2] rfl)
      · replace hm := if_t c9 hm
        refine lv_iconst (v := 1) hx hb dX5_writeCollapsed_44 (by decide) ?_
        refine lv_goto (tgt := 49) hx hb dX5_writeCollapsed_45 (by decide) ?_
        exact J49 1 E_n E_li hm H locs ls hP hD hS (lv_sub hl [0, 2] rfl)
set_option maxHeartbeats 4000000 in
set_option maxRecDepth 100000 in
theorem c_X5_writeLabel (l : Launch) (D : va_G) (cI cJ cZ cS : ClassId) (aW aW_ac aW_fa aW_in aW_yr aW_ti aL aL_sh aL_wi aL_su aS aA aL_nk aL_gr aE aE_li aC aE_se : Nat) (W_n : Int32) (W_ac : Nat → Int32) (W_fa : Nat → Int32) (W_in : Nat → Int32) (W_yr : Nat → Int32) (L_sh : Nat → Int32) (L_wi : Nat → Int32) (L_su : Nat → Int32) (E_n : Int32) (E_li : Nat → Int32) (E_sn : Int32) (x1 : Int32) (o : Int32 × (Nat → Int32)) (hm : m_X5_writeLabel W_ac W_fa W_in W_yr L_sh L_wi L_su E_n E_li x1 = some o) : MV l yX5_writeLabel wsX5_writeLabel rm_X5_writeLabel D (TY cI cJ cZ cS) [.ref aE, .int x1] (w_X5_writeLabel cI cZ aW aW_ac aW_fa aW_in aW_yr aW_ti aL aL_sh aL_wi aL_su aS aA aL_nk aL_gr aE aE_li aC aE_se W_n W_ac W_fa W_in W_yr L_sh L_wi L_su E_n E_li E_sn) (w_X5_writeLabel cI cZ aW aW_ac aW_fa aW_in aW_yr aW_ti aL aL_sh aL_wi aL_su aS aA aL_nk aL_gr aE aE_li aC aE_se W_n W_ac W_fa W_in W_yr L_sh L_wi L_su o.1 o.2 E_sn) := by
  refine MV_of (cc := cX5_writeLabel) (maxL := 2) (by decide) rfl (Nat.le_of_ble_eq_true rfl) ?_
  intro p e s m args below meth c A Q ls H locs hx hb hml hts hown hK hA hP hD hS hl hret
  have hown : s.vm.findClass RX5 = some m.cls := hown
  have hKv : va_K D vwCl (TY cI cJ cZ cS) s := hK.1
  have hl : lv_has ls 2 [(0, .ref aE), (1, .int x1)] := hl
  have S : CallFix p m c cX5_writeLabel 2 s args wsX5_writeLabel RX5 := ⟨hx, hb, hml, hown, hts⟩
  have k1 : CallW rm_X5_writeLabel s args RX5 RX5 159 yX5_writeNames cX5_writeNames 2 none wsX5_writeNames rm_X5_writeNames 0 0 1 := cwV 1 hts gX5_writeLabel_X5_writeNames rfl rfl rfl (by decide +kernel) ⟨Nat.le_of_ble_eq_true rfl, Nat.le_of_ble_eq_true rfl⟩
  have k2 : CallW rm_X5_writeLabel s args RX5 RX5 82 yX5_writeYear cX5_writeYear 2 none wsX5_writeYear rm_X5_writeYear 0 0 1 := cwV 1 hts gX5_writeLabel_X5_writeYear rfl rfl rfl (by decide +kernel) ⟨Nat.le_of_ble_eq_true rfl, Nat.le_of_ble_eq_true rfl⟩
  have k3 : CallW rm_X5_writeLabel s args RX5 RX5 85 yX5_writeSuffix cX5_writeSuffix 2 none wsX5_writeSuffix rm_X5_writeSuffix 0 0 1 := cwV 1 hts gX5_writeLabel_X5_writeSuffix rfl rfl rfl (by decide +kernel) ⟨Nat.le_of_ble_eq_true rfl, Nat.le_of_ble_eq_true rfl⟩
  refine lv_aload_n hx hb dX5_writeLabel_0 rfl (lv_at hl 0 rfl) ?_
  refine lv_iload_n hx hb dX5_writeLabel_1 rfl (lv_at hl 1 rfl) ?_
  replace hm := bd_some hm
  obtain ⟨e1, hc1, hm⟩ := hm
  refine kV_v (rest := []) (ws' := (w_X5_writeLabel cI cZ aW aW_ac aW_fa aW_in aW_yr aW_ti aL aL_sh aL_wi aL_su aS aA aL_nk aL_gr aE aE_li aC aE_se W_n W_ac W_fa W_in W_yr L_sh L_wi L_su e1.1 e1.2 E_sn)) S (c_X5_writeNames l D cI cJ cZ cS aW aW_ac aW_fa aW_in aW_yr aW_ti aL aL_sh aL_wi aL_su aS aA aL_nk aL_gr aE aE_li aC aE_se W_n W_ac W_fa W_in L_sh L_wi E_n E_li E_sn x1 e1 hc1) k1 hK hP hD hS hA 9 rfl rfl rfl rfl hl.1 rfl (Nat.le_of_ble_eq_true rfl) ⟨Nat.zero_le _, Nat.zero_le _⟩ dX5_writeLabel_2 [0, 1, 2, 3, 5, 6, 7, 9, 10] rfl rfl wa_X5_writeNames (sa_eq [(aW_yr, .inl (cI, 8, .inl W_yr)), (aL_su, .inl (cI, 8, .inl L_su))] [4, 8] 11 rfl rfl rfl rfl rfl rfl rfl) (fun H locs hP hD hS => ?_)
  refine lv_aload_n hx hb dX5_writeLabel_5 rfl (lv_at hl 0 rfl) ?_
  refine lv_iload_n hx hb dX5_writeLabel_6 rfl (lv_at hl 1 rfl) ?_
  replace hm := bd_some hm
  obtain ⟨e2, hc2, hm⟩ := hm
  refine kV_v (rest := []) (ws' := (w_X5_writeLabel cI cZ aW aW_ac aW_fa aW_in aW_yr aW_ti aL aL_sh aL_wi aL_su aS aA aL_nk aL_gr aE aE_li aC aE_se W_n W_ac W_fa W_in W_yr L_sh L_wi L_su e2.1 e2.2 E_sn)) S (c_X5_writeYear l D cI cJ cZ cS aW aW_ac aW_fa aW_in aW_yr aW_ti aE aE_li aS aC aA aL aE_se W_n W_yr e1.1 e1.2 E_sn x1 e2 hc2) k2 hK hP hD hS hA 9 rfl rfl rfl rfl hl.1 rfl (Nat.le_of_ble_eq_true rfl) ⟨Nat.zero_le _, Nat.zero_le _⟩ dX5_writeLabel_7 [0, 4, 9, 10] rfl rfl wa_X5_writeYear (sa_eq [(aW_ac, .inl (cI, 8, .inl W_ac)), (aW_fa, .inl (cI, 32, .inl W_fa)), (aW_in, .inl (cI, 32, .inl W_in)), (aL, .inr (3, [.ref aL_sh, .ref aL_wi, .ref aL_su, .ref aW, .ref aS, .ref aA, .ref aL_nk, .ref aL_gr])), (aL_sh, .inl (cI, 8, .inl L_sh)), (aL_wi, .inl (cZ, 8, .inl L_wi)), (aL_su, .inl (cI, 8, .inl L_su))] [1, 2, 3, 5, 6, 7, 8] 11 rfl rfl rfl rfl rfl rfl rfl) (fun H locs hP hD hS => ?_)
  refine lv_aload_n hx hb dX5_writeLabel_10 rfl (lv_at hl 0 rfl) ?_
  refine lv_iload_n hx hb dX5_writeLabel_11 rfl (lv_at hl 1 rfl) ?_
  replace hm := bd_some hm
  obtain ⟨e3, hc3, hm⟩ := hm
  refine kV_v (rest := []) (ws' := (w_X5_writeLabel cI cZ aW aW_ac aW_fa aW_in aW_yr aW_ti aL aL_sh aL_wi aL_su aS aA aL_nk aL_gr aE aE_li aC aE_se W_n W_ac W_fa W_in W_yr L_sh L_wi L_su e3.1 e3.2 E_sn)) S (c_X5_writeSuffix l D cI cJ cZ cS aL aL_sh aL_wi aL_su aW aS aA aL_nk aL_gr aE aE_li aC aE_se L_su e2.1 e2.2 E_sn x1 e3 hc3) k3 hK hP hD hS hA 9 rfl rfl rfl rfl hl.1 rfl (Nat.le_of_ble_eq_true rfl) ⟨Nat.zero_le _, Nat.zero_le _⟩ dX5_writeLabel_12 [5, 8, 9, 10] rfl rfl wa_X5_writeSuffix (sa_eq [(aW, .inr (9, [.int W_n, .ref aW_ac, .ref aW_fa, .ref aW_in, .ref aW_yr, .ref aW_ti])), (aW_ac, .inl (cI, 8, .inl W_ac)), (aW_fa, .inl (cI, 32, .inl W_fa)), (aW_in, .inl (cI, 32, .inl W_in)), (aW_yr, .inl (cI, 8, .inl W_yr)), (aL_sh, .inl (cI, 8, .inl L_sh)), (aL_wi, .inl (cZ, 8, .inl L_wi))] [0, 1, 2, 3, 4, 6, 7] 11 rfl rfl rfl rfl rfl rfl rfl) (fun H locs hP hD hS => ?_)
  have h9 := Option.some.inj hm
  subst h9
  exact hret H locs _ ls hP hD hS dX5_writeLabel_15
set_option maxHeartbeats 4000000 in
set_option maxRecDepth 100000 in
theorem c_X5_writeAuthorYear (l : Launch) (D : va_G) (cI cJ cZ cS : ClassId) (aW aW_ac aW_fa aW_in aW_yr aW_ti aS aS_ke aS_di aL aL_sh aL_wi aL_su aA aL_nk aL_gr aE aE_li aC aE_se : Nat) (W_n : Int32) (W_ac : Nat → Int32) (W_fa : Nat → Int32) (W_in : Nat → Int32) (W_yr : Nat → Int32) (S_st : Int32) (S_mi : Int32) (S_fi : Int32) (S_sp : Int32) (S_cl : Int32) (S_nu : Int32) (S_co : Int32) (L_sh : Nat → Int32) (L_wi : Nat → Int32) (L_su : Nat → Int32) (L_nk : Nat → Int64) (E_n : Int32) (E_li : Nat → Int32) (E_se : Nat → Int32) (E_sn : Int32) (o : Int32 × (Nat → Int32)) (hm : m_X5_writeAuthorYear W_ac W_fa W_in W_yr S_cl L_sh L_wi L_su L_nk E_n E_li E_se E_sn = some o) : MV l yX5_writeAuthorYear wsX5_writeAuthorYear rm_X5_writeAuthorYear D (TY cI cJ cZ cS) [.ref aE] (w_X5_writeAuthorYear cI cJ cZ aW aW_ac aW_fa aW_in aW_yr aW_ti aS aS_ke aS_di aL aL_sh aL_wi aL_su aA aL_nk aL_gr aE aE_li aC aE_se W_n W_ac W_fa W_in W_yr S_st S_mi S_fi S_sp S_cl S_nu S_co L_sh L_wi L_su L_nk E_n E_li E_se E_sn) (w_X5_writeAuthorYear cI cJ cZ aW aW_ac aW_fa aW_in aW_yr aW_ti aS aS_ke aS_di aL aL_sh aL_wi aL_su aA aL_nk aL_gr aE aE_li aC aE_se W_n W_ac W_fa W_in W_yr S_st S_mi S_fi S_sp S_cl S_nu S_co L_sh L_wi L_su L_nk o.1 o.2 E_se E_sn) := by
  refine MV_of (cc := cX5_writeAuthorYear) (maxL := 3) (by decide) rfl (Nat.le_of_ble_eq_true rfl) ?_
  intro p e s m args below meth c A Q ls H locs hx hb hml hts hown hK hA hP hD hS hl hret
  have hown : s.vm.findClass RX5 = some m.cls := hown
  have hKv : va_K D vwCl (TY cI cJ cZ cS) s := hK.1
  have hl : lv_has ls 3 [(0, .ref aE)] := hl
  have S : CallFix p m c cX5_writeAuthorYear 3 s args wsX5_writeAuthorYear RX5 := ⟨hx, hb, hml, hown, hts⟩
  have k1 : CallW rm_X5_writeAuthorYear s args RX5 RX5 68 yX5_write cX5_write 2 none wsX5_write rm_X5_write 0 0 1 := cwV 1 hts gX5_writeAuthorYear_X5_write rfl rfl rfl (by decide +kernel) ⟨Nat.le_of_ble_eq_true rfl, Nat.le_of_ble_eq_true rfl⟩
  have k2 : CallW rm_X5_writeAuthorYear s args RX5 RX5 125 yX5_writeLabel cX5_writeLabel 2 none wsX5_writeLabel rm_X5_writeLabel 0 0 1 := cwV 1 hts gX5_writeAuthorYear_X5_writeLabel rfl rfl rfl (by decide +kernel) ⟨Nat.le_of_ble_eq_true rfl, Nat.le_of_ble_eq_true rfl⟩
  have k3 := hts (.fieldLink RX5 22 "CitationFormatter$Renderer" "sequenceSize" "I") (by decide +kernel)
  have k4 : ∀ w ∈ wsX50, w ∈ wsX5_writeAuthorYear := by decide +kernel
  have k5 := hts (.fieldLink RX5 19 "CitationFormatter$Renderer" "sequence" "[I") (by decide +kernel)
  have k6 : CallW rm_X5_writeAuthorYear s args RX5 RX5 118 yX5_collapsesNames cX5_collapsesNames 3 (some .boolean) wsX5_collapsesNames rm_X5_collapsesNames 0 0 2 := cwV 2 hts gX5_writeAuthorYear_X5_collapsesNames rfl rfl rfl (by decide +kernel) ⟨Nat.le_of_ble_eq_true rfl, Nat.le_of_ble_eq_true rfl⟩
  have k7 : CallW rm_X5_writeAuthorYear s args RX5 RX5 121 yX5_writeCollapsed cX5_writeCollapsed 4 none wsX5_writeCollapsed rm_X5_writeCollapsed 0 0 2 := cwV 2 hts gX5_writeAuthorYear_X5_writeCollapsed rfl rfl rfl (by decide +kernel) ⟨Nat.le_of_ble_eq_true rfl, Nat.le_of_ble_eq_true rfl⟩
  refine lv_aload_n hx hb dX5_writeAuthorYear_0 rfl (lv_at hl 0 rfl) ?_
  refine lv_bipush (v := 40) hx hb dX5_writeAuthorYear_1 (by decide) ?_
  replace hm := bd_some hm
  obtain ⟨e1, hc1, hm⟩ := hm
  refine kV_v (rest := []) (ws' := (w_X5_writeAuthorYear cI cJ cZ aW aW_ac aW_fa aW_in aW_yr aW_ti aS aS_ke aS_di aL aL_sh aL_wi aL_su aA aL_nk aL_gr aE aE_li aC aE_se W_n W_ac W_fa W_in W_yr S_st S_mi S_fi S_sp S_cl S_nu S_co L_sh L_wi L_su L_nk e1.1 e1.2 E_se E_sn)) S (c_X5_write l D cI cJ cZ cS aE aE_li aW aS aC aA aL aE_se E_n E_li E_sn 40 e1 hc1) k1 hK hP hD hS hA 11 rfl rfl rfl rfl hl.1 rfl (Nat.le_of_ble_eq_true rfl) ⟨Nat.zero_le _, Nat.zero_le _⟩ dX5_writeAuthorYear_3 [11, 12] rfl rfl wa_X5_write (sa_eq [(aW, .inr (9, [.int W_n, .ref aW_ac, .ref aW_fa, .ref aW_in, .ref aW_yr, .ref aW_ti])), (aW_ac, .inl (cI, 8, .inl W_ac)), (aW_fa, .inl (cI, 32, .inl W_fa)), (aW_in, .inl (cI, 32, .inl W_in)), (aW_yr, .inl (cI, 8, .inl W_yr)), (aS, .inr (6, [.int S_st, .int S_mi, .int S_fi, .int S_sp, .int S_cl, .int S_nu, .int S_co, .ref aS_ke, .ref aS_di])), (aL, .inr (3, [.ref aL_sh, .ref aL_wi, .ref aL_su, .ref aW, .ref aS, .ref aA, .ref aL_nk, .ref aL_gr])), (aL_sh, .inl (cI, 8, .inl L_sh)), (aL_wi, .inl (cZ, 8, .inl L_wi)), (aL_su, .inl (cI, 8, .inl L_su)), (aL_nk, .inl (cJ, 8, .inr (.inl L_nk))), (aE_se, .inl (cI, 5, .inl E_se))] [0, 1, 2, 3, 4, 5, 6, 7, 8, 9, 10, 13] 14 rfl rfl rfl rfl rfl rfl rfl) (fun H locs hP hD hS => ?_)
  refine lv_iconst (v := 0) hx hb dX5_writeAuthorYear_6 (by decide) ?_
  refine lv_istore_n (lv' := [(1, .int 0), (0, .ref aE)]) hx hb dX5_writeAuthorYear_7 rfl hl (by decide) rfl (fun ls hl => ?_)
  replace hm := bd_some hm
  obtain ⟨e2, hc2, hm⟩ := hm
  have X2_0 : ∀ (H : Heap) (locs : List Loc) (ls : Array Slot), va_P D vwCl (w_X5_writeAuthorYear cI cJ cZ aW aW_ac aW_fa aW_in aW_yr aW_ti aS aS_ke aS_di aL aL_sh aL_wi aL_su aA aL_nk aL_gr aE aE_li aC aE_se W_n W_ac W_fa W_in W_yr S_st S_mi S_fi S_sp S_cl S_nu S_co L_sh L_wi L_su L_nk e2.1 e2.2 E_se E_sn) H → va_D A (w_X5_writeAuthorYear cI cJ cZ aW aW_ac aW_fa aW_in aW_yr aW_ti aS aS_ke aS_di aL aL_sh aL_wi aL_su aA aL_nk aL_gr aE aE_li aC aE_se W_n W_ac W_fa W_in W_yr S_st S_mi S_fi S_sp S_cl S_nu S_co L_sh L_wi L_su L_nk e2.1 e2.2 E_se E_sn) → va_S A s.heap H locs → lv_has ls 3 [(0, .ref aE)] → W p l e rm_X5_writeAuthorYear s m args below meth c H locs 0 0 Q (F0 m 86 ls []) := by
    intro H locs ls hP hD hS hl
    refine lv_aload_n hx hb dX5_writeAuthorYear_86 rfl (lv_at hl 0 rfl) ?_
    refine lv_bipush (v := 41) hx hb dX5_writeAuthorYear_87 (by decide) ?_
    replace hm := bd_some hm
    obtain ⟨e3, hc3, hm⟩ := hm
    refine kV_v (rest := []) (ws' := (w_X5_writeAuthorYear cI cJ cZ aW aW_ac aW_fa aW_in aW_yr aW_ti aS aS_ke aS_di aL aL_sh aL_wi aL_su aA aL_nk aL_gr aE aE_li aC aE_se W_n W_ac W_fa W_in W_yr S_st S_mi S_fi S_sp S_cl S_nu S_co L_sh L_wi L_su L_nk e3.1 e3.2 E_se E_sn)) S (c_X5_write l D cI cJ cZ cS aE aE_li aW aS aC aA aL aE_se e2.1 e2.2 E_sn 41 e3 hc3) k1 hK hP hD hS hA 11 rfl rfl rfl rfl hl.1 rfl (Nat.le_of_ble_eq_true rfl) ⟨Nat.zero_le _, Nat.zero_le _⟩ dX5_writeAuthorYear_89 [11, 12] rfl rfl wa_X5_write (sa_eq [(aW, .inr (9, [.int W_n, .ref aW_ac, .ref aW_fa, .ref aW_in, .ref aW_yr, .ref aW_ti])), (aW_ac, .inl (cI, 8, .inl W_ac)), (aW_fa, .inl (cI, 32, .inl W_fa)), (aW_in, .inl (cI, 32, .inl W_in)), (aW_yr, .inl (cI, 8, .inl W_yr)), (aS, .inr (6, [.int S_st, .int S_mi, .int S_fi, .int S_sp, .int S_cl, .int S_nu, .int S_co, .ref aS_ke, .ref aS_di])), (aL, .inr (3, [.ref aL_sh, .ref aL_wi, .ref aL_su, .ref aW, .ref aS, .ref aA, .ref aL_nk, .ref aL_gr])), (aL_sh, .inl (cI, 8, .inl L_sh)), (aL_wi, .inl (cZ, 8, .inl L_wi)), (aL_su, .inl (cI, 8, .inl L_su)), (aL_nk, .inl (cJ, 8, .inr (.inl L_nk))), (aE_se, .inl (cI, 5, .inl E_se))] [0, 1, 2, 3, 4, 5, 6, 7, 8, 9, 10, 13] 14 rfl rfl rfl rfl rfl rfl rfl) (fun H locs hP hD hS => ?_)
    have h9 := Option.some.inj hm
    subst h9
    exact hret H locs _ ls hP hD hS dX5_writeAuthorYear_92
  refine it_W (G := fun (st8 : Int32 × Int32 × (Nat → Int32)) => ∀ (H : Heap) (locs : List Loc) (ls : Array Slot), va_P D vwCl (w_X5_writeAuthorYear cI cJ cZ aW aW_ac aW_fa aW_in aW_yr aW_ti aS aS_ke aS_di aL aL_sh aL_wi aL_su aA aL_nk aL_gr aE aE_li aC aE_se W_n W_ac W_fa W_in W_yr S_st S_mi S_fi S_sp S_cl S_nu S_co L_sh L_wi L_su L_nk st8.2.1 st8.2.2 E_se E_sn) H → va_D A (w_X5_writeAuthorYear cI cJ cZ aW aW_ac aW_fa aW_in aW_yr aW_ti aS aS_ke aS_di aL aL_sh aL_wi aL_su aA aL_nk aL_gr aE aE_li aC aE_se W_n W_ac W_fa W_in W_yr S_st S_mi S_fi S_sp S_cl S_nu S_co L_sh L_wi L_su L_nk st8.2.1 st8.2.2 E_se E_sn) → va_S A s.heap H locs → lv_has ls 3 [(0, .ref aE), (1, .int st8.1)] → W p l e rm_X5_writeAuthorYear s m args below meth c H locs 0 0 Q (F0 m 8 ls [])) (e := e2) (fun st8 x hm hG hE => ?_) fu _ hc2 H locs ls hP hD hS (lv_sub hl [1, 0] rfl)
  intro H locs ls hP hD hS hl
  have J80 : ∀ (x1_j80 : Int32) (E_n_j80 : Int32) (E_li_j80 : Nat → Int32), (m_X5_writeAuthorYear_J80 x1_j80 E_n_j80 E_li_j80 = some x) → ∀ (H : Heap) (locs : List Loc) (ls : Array Slot), va_P D vwCl (w_X5_writeAuthorYear cI cJ cZ aW aW_ac aW_fa aW_in aW_yr aW_ti aS aS_ke aS_di aL aL_sh aL_wi aL_su aA aL_nk aL_gr aE aE_li aC aE_se W_n W_ac W_fa W_in W_yr S_st S_mi S_fi S_sp S_cl S_nu S_co L_sh L_wi L_su L_nk E_n_j80 E_li_j80 E_se E_sn) H → va_D A (w_X5_writeAuthorYear cI cJ cZ aW aW_ac aW_fa aW_in aW_yr aW_ti aS aS_ke aS_di aL aL_sh aL_wi aL_su aA aL_nk aL_gr aE aE_li aC aE_se W_n W_ac W_fa W_in W_yr S_st S_mi S_fi S_sp S_cl S_nu S_co L_sh L_wi L_su L_nk E_n_j80 E_li_j80 E_se E_sn) → va_S A s.heap H locs → lv_has ls 3 [(0, .ref aE), (1, .int x1_j80)] → W p l e rm_X5_writeAuthorYear s m args below meth c H locs 0 0 Q (F0 m 80 ls []) := by
    intro x1_j80 E_n_j80 E_li_j80 hm H locs ls hP hD hS hl
    refine lv_iinc (v := (x1_j80 + 1)) (lv' := [(1, .int (x1_j80 + 1)), (0, .ref aE)]) hx hb dX5_writeAuthorYear_80 hl (k := 1) rfl rfl (by decide) rfl (fun ls hl => ?_)
    refine lv_goto (tgt := 8) hx hb dX5_writeAuthorYear_83 (by decide) ?_
    exact hG _ (Option.some.inj hm).symm H locs ls hP hD hS (lv_sub hl [1, 0] rfl)
  have J75 : ∀ (x1_j75 : Int32) (x2_j75 : Int32) (E_n_j75 : Int32) (E_li_j75 : Nat → Int32), (m_X5_writeAuthorYear_J75 x1_j75 x2_j75 W_ac W_fa W_in W_yr L_sh L_wi L_su E_n_j75 E_li_j75 = some x) → ∀ (H : Heap) (locs : List Loc) (ls : Array Slot), va_P D vwCl (w_X5_writeAuthorYear cI cJ cZ aW aW_ac aW_fa aW_in aW_yr aW_ti aS aS_ke aS_di aL aL_sh aL_wi aL_su aA aL_nk aL_gr aE aE_li aC aE_se W_n W_ac W_fa W_in W_yr S_st S_mi S_fi S_sp S_cl S_nu S_co L_sh L_wi L_su L_nk E_n_j75 E_li_j75 E_se E_sn) H → va_D A (w_X5_writeAuthorYear cI cJ cZ aW aW_ac aW_fa aW_in aW_yr aW_ti aS aS_ke aS_di aL aL_sh aL_wi aL_su aA aL_nk aL_gr aE aE_li aC aE_se W_n W_ac W_fa W_in W_yr S_st S_mi S_fi S_sp S_cl S_nu S_co L_sh L_wi L_su L_nk E_n_j75 E_li_j75 E_se E_sn) → va_S A s.heap H locs → lv_has ls 3 [(0, .ref aE), (1, .int x1_j75), (2, .int x2_j75)] → W p l e rm_X5_writeAuthorYear s m args below meth c H locs 0 0 Q (F0 m 75 ls []) := by
    intro x1_j75 x2_j75 E_n_j75 E_li_j75 hm H locs ls hP hD hS hl
    refine lv_aload_n hx hb dX5_writeAuthorYear_75 rfl (lv_at hl 0 rfl) ?_
    refine lv_iload_n hx hb dX5_writeAuthorYear_76 rfl (lv_at hl 2 rfl) ?_
    replace hm := bd_some hm
    obtain ⟨e4, hc4, hm⟩ := hm
    refine kV_v (rest := []) (ws' := (w_X5_writeAuthorYear cI cJ cZ aW aW_ac aW_fa aW_in aW_yr aW_ti aS aS_ke aS_di aL aL_sh aL_wi aL_su aA aL_nk aL_gr aE aE_li aC aE_se W_n W_ac W_fa W_in W_yr S_st S_mi S_fi S_sp S_cl S_nu S_co L_sh L_wi L_su L_nk e4.1 e4.2 E_se E_sn)) S (c_X5_writeLabel l D cI cJ cZ cS aW aW_ac aW_fa aW_in aW_yr aW_ti aL aL_sh aL_wi aL_su aS aA aL_nk aL_gr aE aE_li aC aE_se W_n W_ac W_fa W_in W_yr L_sh L_wi L_su E_n_j75 E_li_j75 E_sn x2_j75 e4 hc4) k2 hK hP hD hS hA 11 rfl rfl rfl rfl hl.1 rfl (Nat.le_of_ble_eq_true rfl) ⟨Nat.zero_le _, Nat.zero_le _⟩ dX5_writeAuthorYear_77 [0, 1, 2, 3, 4, 6, 7, 8, 9, 11, 12] rfl rfl wa_X5_writeLabel (sa_eq [(aS, .inr (6, [.int S_st, .int S_mi, .int S_fi, .int S_sp, .int S_cl, .int S_nu, .int S_co, .ref aS_ke, .ref aS_di])), (aL_nk, .inl (cJ, 8, .inr (.inl L_nk))), (aE_se, .inl (cI, 5, .inl E_se))] [5, 10, 13] 14 rfl rfl rfl rfl rfl rfl rfl) (fun H locs hP hD hS => ?_)
    exact J80 x1_j75 e4.1 e4.2 hm H locs ls hP hD hS (lv_sub hl [0, 1] rfl)
  have J65 : ∀ (x1_j65 : Int32) (x2_j65 : Int32) (E_n_j65 : Int32) (E_li_j65 : Nat → Int32), (m_X5_writeAuthorYear_J65 x1_j65 x2_j65 W_ac W_fa W_in W_yr L_sh L_wi L_su E_n_j65 E_li_j65 = some x) → ∀ (H : Heap) (locs : List Loc) (ls : Array Slot), va_P D vwCl (w_X5_writeAuthorYear cI cJ cZ aW aW_ac aW_fa aW_in aW_yr aW_ti aS aS_ke aS_di aL aL_sh aL_wi aL_su aA aL_nk aL_gr aE aE_li aC aE_se W_n W_ac W_fa W_in W_yr S_st S_mi S_fi S_sp S_cl S_nu S_co L_sh L_wi L_su L_nk E_n_j65 E_li_j65 E_se E_sn) H → va_D A (w_X5_writeAuthorYear cI cJ cZ aW aW_ac aW_fa aW_in aW_yr aW_ti aS aS_ke aS_di aL aL_sh aL_wi aL_su aA aL_nk aL_gr aE aE_li aC aE_se W_n W_ac W_fa W_in W_yr S_st S_mi S_fi S_sp S_cl S_nu S_co L_sh L_wi L_su L_nk E_n_j65 E_li_j65 E_se E_sn) → va_S A s.heap H locs → lv_has ls 3 [(0, .ref aE), (1, .int x1_j65), (2, .int x2_j65)] → W p l e rm_X5_writeAuthorYear s m args below meth c H locs 0 0 Q (F0 m 65 ls []) := by
    intro x1_j65 x2_j65 E_n_j65 E_li_j65 hm H locs ls hP hD hS hl
    refine lv_iload_n hx hb dX5_writeAuthorYear_65 rfl (lv_at hl 1 rfl) ?_
    refine lv_if_le (tgt := 75) hx hb dX5_writeAuthorYear_66 (by decide) (fun c5 => ?_) (fun c5 => ?_)
    · replace hm := if_t c5 hm
      exact J75 x1_j65 x2_j65 E_n_j65 E_li_j65 hm H locs ls hP hD hS (lv_sub hl [0, 1, 2] rfl)
    · replace hm := if_f c5 hm
      refine lv_aload_n hx hb dX5_writeAuthorYear_69 rfl (lv_at hl 0 rfl) ?_
      refine lv_bipush (v := 59) hx hb dX5_writeAuthorYear_70 (by decide) ?_
      replace hm := bd_some hm
      obtain ⟨e6, hc6, hm⟩ := hm
      refine kV_v (rest := []) (ws' := (w_X5_writeAuthorYear cI cJ cZ aW aW_ac aW_fa aW_in aW_yr aW_ti aS aS_ke aS_di aL aL_sh aL_wi aL_su aA aL_nk aL_gr aE aE_li aC aE_se W_n W_ac W_fa W_in W_yr S_st S_mi S_fi S_sp S_cl S_nu S_co L_sh L_wi L_su L_nk e6.1 e6.2 E_se E_sn)) S (c_X5_write l D cI cJ cZ cS aE aE_li aW aS aC aA aL aE_se E_n_j65 E_li_j65 E_sn 59 e6 hc6) k1 hK hP hD hS hA 11 rfl rfl rfl rfl hl.1 rfl (Nat.le_of_ble_eq_true rfl) ⟨Nat.zero_le _, Nat.zero_le _⟩ dX5_writeAuthorYear_72 [11, 12] rfl rfl wa_X5_write (sa_eq [(aW, .inr (9, [.int W_n, .ref aW_ac, .ref aW_fa, .ref aW_in, .ref aW_yr, .ref aW_ti])), (aW_ac, .inl (cI, 8, .inl W_ac)), (aW_fa, .inl (cI, 32, .inl W_fa)), (aW_in, .inl (cI, 32, .inl W_in)), (aW_yr, .inl (cI, 8, .inl W_yr)), (aS, .inr (6, [.int S_st, .int S_mi, .int S_fi, .int S_sp, .int S_cl, .int S_nu, .int S_co, .ref aS_ke, .ref aS_di])), (aL, .inr (3, [.ref aL_sh, .ref aL_wi, .ref aL_su, .ref aW, .ref aS, .ref aA, .ref aL_nk, .ref aL_gr])), (aL_sh, .inl (cI, 8, .inl L_sh)), (aL_wi, .inl (cZ, 8, .inl L_wi)), (aL_su, .inl (cI, 8, .inl L_su)), (aL_nk, .inl (cJ, 8, .inr (.inl L_nk))), (aE_se, .inl (cI, 5, .inl E_se))] [0, 1, 2, 3, 4, 5, 6, 7, 8, 9, 10, 13] 14 rfl rfl rfl rfl rfl rfl rfl) (fun H locs hP hD hS => ?_)
      exact J75 x1_j65 x2_j65 e6.1 e6.2 hm H locs ls hP hD hS (lv_sub hl [0, 1, 2] rfl)
  refine lv_iload_n hx hb dX5_writeAuthorYear_8 rfl (lv_at hl 1 rfl) ?_
  refine lv_aload_n hx hb dX5_writeAuthorYear_9 rfl (lv_at hl 0 rfl) ?_
  refine va_get (D := D) (ci := 5) (v := .int E_sn) (C := RX5) (T := TX5) (N := 9) hx hb hts k4 hown hKv hP 11 rfl rfl 8 (by decide) k3 (fun _ h9 => h9) rfl dX5_writeAuthorYear_10 ?_
  refine lv_icmp_ge (tgt := 86) hx hb dX5_writeAuthorYear_13 (by decide) (fun c7 => ?_) (fun c7 => ?_)
  · replace hm := if_t c7 hm
    have h9 := hE _ (Option.some.inj hm).symm
    subst h9
    exact X2_0 H locs ls hP hD hS (lv_sub hl [0] rfl)
  · replace hm := if_f c7 hm
    refine lv_aload_n hx hb dX5_writeAuthorYear_16 rfl (lv_at hl 0 rfl) ?_
    refine va_get (D := D) (ci := 5) (v := .ref aE_se) (C := RX5) (T := TX5) (N := 9) hx hb hts k4 hown hKv hP 11 rfl rfl 7 (by decide) k5 (fun _ h9 => h9) rfl dX5_writeAuthorYear_17 ?_
    refine lv_iload_n hx hb dX5_writeAuthorYear_20 rfl (lv_at hl 1 rfl) ?_
    replace hm := ck_some hm
    obtain ⟨h8, hm⟩ := hm
    refine va_iald hx hb hKv hP 13 0 rfl rfl h8 dX5_writeAuthorYear_21 ?_
    refine lv_istore_n (lv' := [(2, .int (E_se (Int32.toNatClampNeg st8.1))), (0, .ref aE), (1, .int st8.1)]) hx hb dX5_writeAuthorYear_22 rfl hl (by decide) rfl (fun ls hl => ?_)
    refine lv_iload_n hx hb dX5_writeAuthorYear_23 rfl (lv_at hl 2 rfl) ?_
    refine lv_if_le (tgt := 65) hx hb dX5_writeAuthorYear_24 (by decide) (fun c9 => ?_) (fun c9 => ?_)
    · replace hm := if_t c9 hm
      exact J65 st8.1 (E_se (Int32.toNatClampNeg st8.1)) st8.2.1 st8.2.2 hm H locs ls hP hD hS (lv_sub hl [1, 2, 0] rfl)
    · replace hm := if_f c9 hm
      refine lv_aload_n hx hb dX5_writeAuthorYear_27 rfl (lv_at hl 1 rfl) ?_
      refine lv_aload_n hx hb dX5_writeAuthorYear_28 rfl (lv_at hl 1 rfl) ?_
      refine va_get (D := D) (ci := 5) (v := .ref aE_se) (C := RX5) (T := TX5) (N := 9) hx hb hts k4 hown hKv hP 11 rfl rfl 7 (by decide) k5 (fun _ h9 => h9) rfl dX5_writeAuthorYear_29 ?_
      refine lv_iload_n hx hb dX5_writeAuthorYear_32 rfl (lv_at hl 2 rfl) ?_
      refine lv_iconst (v := 1) hx hb dX5_writeAuthorYear_33 (by decide) ?_
      refine lv_isub hx hb dX5_writeAuthorYear_34 ?_
      replace hm := ck_some hm
      obtain ⟨h10, hm⟩ := hm
      refine va_iald hx hb hKv hP 13 0 rfl rfl h10 dX5_writeAuthorYear_35 ?_
      refine lv_iload_n hx hb dX5_writeAuthorYear_36 rfl (lv_at hl 0 rfl) ?_
      replace hm := bd_some hm
      obtain ⟨e11, hc11, hm⟩ := hm
      refine kV_i (rest := []) (ws' := (w_X5_writeAuthorYear cI cJ cZ aW aW_ac aW_fa aW_in aW_yr aW_ti aS aS_ke aS_di aL aL_sh aL_wi aL_su aA aL_nk aL_gr aE aE_li aC aE_se W_n W_ac W_fa W_in W_yr S_st S_mi S_fi S_sp S_cl S_nu S_co L_sh L_wi L_su L_nk st8.2.1 st8.2.2 E_se E_sn)) S (c_X5_collapsesNames l D cI cJ cZ cS aS aS_ke aS_di aL aL_sh aL_wi aL_su aW aA aL_nk aL_gr aE aE_li aC aE_se S_st S_mi S_fi S_sp S_cl S_nu S_co L_nk st8.2.1 E_sn (E_se (Int32.toNatClampNeg (st8.1 - 1))) (E_se (Int32.toNatClampNeg st8.1)) e11 hc11) k6 hK hP hD hS hA 11 rfl rfl rfl rfl hl.1 rfl (Nat.le_of_ble_eq_true rfl) ⟨Nat.zero_le _, Nat.zero_le _⟩ dX5_writeAuthorYear_37 [5, 6, 10, 11] rfl rfl wa_X5_collapsesNames (sa_eq [(aW, .inr (9, [.int W_n, .ref aW_ac, .ref aW_fa, .ref aW_in, .ref aW_yr, .ref aW_ti])), (aW_ac, .inl (cI, 8, .inl W_ac)), (aW_fa, .inl (cI, 32, .inl W_fa)), (aW_in, .inl (cI, 32, .inl W_in)), (aW_yr, .inl (cI, 8, .inl W_yr)), (aL_sh, .inl (cI, 8, .inl L_sh)), (aL_wi, .inl (cZ, 8, .inl L_wi)), (aL_su, .inl (cI, 8, .inl L_su)), (aE_li, .inl (cI, 100, .inl st8.2.2)), (aE_se, .inl (cI, 5, .inl E_se))] [0, 1, 2, 3, 4, 7, 8, 9, 12, 13] 14 rfl rfl rfl rfl rfl rfl rfl) (fun H locs hP hD hS => ?_)
      refine lv_if_eq (tgt := 65) hx hb dX5_writeAuthorYear_40 (by decide) (fun c12 => ?_) (fun c12 => ?_)
      · replace hm := if_t c12 hm
        exact J65 st8.1 (E_se (Int32.toNatClampNeg st8.1)) st8.2.1 st8.2.2 hm H locs ls hP hD hS (lv_sub hl [1, 2, 0] rfl)
      · replace hm := if_f c12 hm
        refine lv_aload_n hx hb dX5_writeAuthorYear_43 rfl (lv_at hl 1 rfl) ?_
        refine lv_bipush (v := 44) hx hb dX5_writeAuthorYear_44 (by decide) ?_
        replace hm := bd_some hm
        obtain ⟨e13, hc13, hm⟩ := hm
        refine kV_v (rest := []) (ws' := (w_X5_writeAuthorYear cI cJ cZ aW aW_ac aW_fa aW_in aW_yr aW_ti aS aS_ke aS_di aL aL_sh aL_wi aL_su aA aL_nk aL_gr aE aE_li aC aE_se W_n W_ac W_fa W_in W_yr S_st S_mi S_fi S_sp S_cl S_nu S_co L_sh L_wi L_su L_nk e13.1 e13.2 E_se E_sn)) S (c_X5_write l D cI cJ cZ cS aE aE_li aW aS aC aA aL aE_se st8.2.1 st8.2.2 E_sn 44 e13 hc13) k1 hK hP hD hS hA 11 rfl rfl rfl rfl hl.1 rfl (Nat.le_of_ble_eq_true rfl) ⟨Nat.zero_le _, Nat.zero_le _⟩ dX5_writeAuthorYear_46 [11, 12] rfl rfl wa_X5_write (sa_eq [(aW, .inr (9, [.int W_n, .ref aW_ac, .ref aW_fa, .ref aW_in, .ref aW_yr, .ref aW_ti])), (aW_ac, .inl (cI, 8, .inl W_ac)), (aW_fa, .inl (cI, 32, .inl W_fa)), (aW_in, .inl (cI, 32, .inl W_in)), (aW_yr, .inl (cI, 8, .inl W_yr)), (aS, .inr (6, [.int S_st, .int S_mi, .int S_fi, .int S_sp, .int S_cl, .int S_nu, .int S_co, .ref aS_ke, .ref aS_di])), (aL, .inr (3, [.ref aL_sh, .ref aL_wi, .ref aL_su, .ref aW, .ref aS, .ref aA, .ref aL_nk, .ref aL_gr])), (aL_sh, .inl (cI, 8, .inl L_sh)), (aL_wi, .inl (cZ, 8, .inl L_wi)), (aL_su, .inl (cI, 8, .inl L_su)), (aL_nk, .inl (cJ, 8, .inr (.inl L_nk))), (aE_se, .inl (cI, 5, .inl E_se))] [0, 1, 2, 3, 4, 5, 6, 7, 8, 9, 10, 13] 14 rfl rfl rfl rfl rfl rfl rfl) (fun H locs hP hD hS => ?_)
        refine lv_aload_n hx hb dX5_writeAuthorYear_49 rfl (lv_at hl 1 rfl) ?_
        refine lv_aload_n hx hb dX5_writeAuthorYear_50 rfl (lv_at hl 1 rfl) ?_
        refine va_get (D := D) (ci := 5) (v := .ref aE_se) (C := RX5) (T := TX5) (N := 9) hx hb hts k4 hown hKv hP 11 rfl rfl 7 (by decide) k5 (fun _ h9 => h9) rfl dX5_writeAuthorYear_51 ?_
        refine lv_iload_n hx hb dX5_writeAuthorYear_54 rfl (lv_at hl 2 rfl) ?_
        refine lv_iconst (v := 1) hx hb dX5_writeAuthorYear_55 (by decide) ?_
        refine lv_isub hx hb dX5_writeAuthorYear_56 ?_
        replace hm := ck_some hm
        obtain ⟨h14, hm⟩ := hm
        refine va_iald hx hb hKv hP 13 0 rfl rfl h14 dX5_writeAuthorYear_57 ?_
        refine lv_iload_n hx hb dX5_writeAuthorYear_58 rfl (lv_at hl 0 rfl) ?_
        replace hm := bd_some hm
        obtain ⟨e15, hc15, hm⟩ := hm
        refine kV_v (rest := []) (ws' := (w_X5_writeAuthorYear cI cJ cZ aW aW_ac aW_fa aW_in aW_yr aW_ti aS aS_ke aS_di aL aL_sh aL_wi aL_su aA aL_nk aL_gr aE aE_li aC aE_se W_n W_ac W_fa W_in W_yr S_st S_mi S_fi S_sp S_cl S_nu S_co L_sh L_wi L_su L_nk e15.1 e15.2 E_se E_sn)) S (c_X5_writeCollapsed l D cI cJ cZ cS aW aW_ac aW_fa aW_in aW_yr aW_ti aS aS_ke aS_di aL aL_sh aL_wi aL_su aA aL_nk aL_gr aE aE_li aC aE_se W_n W_yr S_st S_mi S_fi S_sp S_cl S_nu S_co L_su e13.1 e13.2 E_sn (E_se (Int32.toNatClampNeg (st8.1 - 1))) (E_se (Int32.toNatClampNeg st8.1)) e15 hc15) k7 hK hP hD hS hA 11 rfl rfl rfl rfl hl.1 rfl (Nat.le_of_ble_eq_true rfl) ⟨Nat.zero_le _, Nat.zero_le _⟩ dX5_writeAuthorYear_59 [0, 4, 5, 6, 9, 11, 12] rfl rfl wa_X5_writeCollapsed (sa_eq [(aW_ac, .inl (cI, 8, .inl W_ac)), (aW_fa, .inl (cI, 32, .inl W_fa)), (aW_in, .inl (cI, 32, .inl W_in)), (aL_sh, .inl (cI, 8, .inl L_sh)), (aL_wi, .inl (cZ, 8, .inl L_wi)), (aL_nk, .inl (cJ, 8, .inr (.inl L_nk))), (aE_se, .inl (cI, 5, .inl E_se))] [1, 2, 3, 7, 8, 10, 13] 14 rfl rfl rfl rfl rfl rfl rfl) (fun H locs hP hD hS => ?_)
        refine lv_goto (tgt := 80) hx hb dX5_writeAuthorYear_62 (by decide) ?_
        exact J80 st8.1 e15.1 e15.2 hm H locs ls hP hD hS (lv_sub hl [1, 2] rfl)
set_option maxHeartbeats 4000000 in
set_option maxRecDepth 100000 in
theorem c_X5_renderCitation (l : Launch) (D : va_G) (cI cJ cZ cS : ClassId) (aW aW_ac aW_fa aW_in aW_yr aW_ti aS aS_ke aS_di aC aC_sz aC_cd aA aA_or aA_nu aA_li aL aL_sh aL_wi aL_su aL_nk aL_gr aE aE_li aE_se : Nat) (W_n : Int32) (W_ac : Nat → Int32) (W_fa : Nat → Int32) (W_in : Nat → Int32) (W_yr : Nat → Int32) (W_ti : Nat → Int32) (S_st : Int32) (S_mi : Int32) (S_fi : Int32) (S_sp : Int32) (S_cl : Int32) (S_nu : Int32) (S_co : Int32) (C_n : Int32) (C_sz : Nat → Int32) (C_cd : Nat → Int32) (A_nu : Nat → Int32) (A_li : Nat → Int32) (L_sh : Nat → Int32) (L_wi : Nat → Int32) (L_su : Nat → Int32) (L_nk : Nat → Int64) (E_n : Int32) (E_li : Nat → Int32) (E_se : Nat → Int32) (E_sn : Int32) (x1 : Int32) (o : Int32 × (Nat → Int32) × (Nat → Int32) × Int32) (hm : m_X5_renderCitation W_n W_ac W_fa W_in W_yr W_ti S_st S_cl S_co C_n C_sz C_cd A_nu A_li L_sh L_wi L_su L_nk E_n E_li E_se E_sn x1 = some o) : MV l yX5_renderCitation wsX5_renderCitation rm_X5_renderCitation D (TY cI cJ cZ cS) [.ref aE, .int x1] (w_X5_renderCitation cI cJ cZ aW aW_ac aW_fa aW_in aW_yr aW_ti aS aS_ke aS_di aC aC_sz aC_cd aA aA_or aA_nu aA_li aL aL_sh aL_wi aL_su aL_nk aL_gr aE aE_li aE_se W_n W_ac W_fa W_in W_yr W_ti S_st S_mi S_fi S_sp S_cl S_nu S_co C_n C_sz C_cd A_nu A_li L_sh L_wi L_su L_nk E_n E_li E_se E_sn) (w_X5_renderCitation cI cJ cZ aW aW_ac aW_fa aW_in aW_yr aW_ti aS aS_ke aS_di aC aC_sz aC_cd aA aA_or aA_nu aA_li aL aL_sh aL_wi aL_su aL_nk aL_gr aE aE_li aE_se W_n W_ac W_fa W_in W_yr W_ti S_st S_mi S_fi S_sp S_cl S_nu S_co C_n C_sz C_cd A_nu A_li L_sh L_wi L_su L_nk o.1 o.2.1 o.2.2.1 o.2.2.2) := by
  refine MV_of (cc := cX5_renderCitation) (maxL := 2) (by decide) rfl (Nat.le_of_ble_eq_true rfl) ?_
  intro p e s m args below meth c A Q ls H locs hx hb hml hts hown hK hA hP hD hS hl hret
  have hown : s.vm.findClass RX5 = some m.cls := hown
  have hKv : va_K D vwCl (TY cI cJ cZ cS) s := hK.1
  have hl : lv_has ls 2 [(0, .ref aE), (1, .int x1)] := hl
  have S : CallFix p m c cX5_renderCitation 2 s args wsX5_renderCitation RX5 := ⟨hx, hb, hml, hown, hts⟩
  have k1 := hts (.fieldLink RX5 9 "CitationFormatter$Renderer" "length" "I") (by decide +kernel)
  have k2 : ∀ w ∈ wsX50, w ∈ wsX5_renderCitation := by decide +kernel
  have k3 : CallW rm_X5_renderCitation s args RX5 RX5 50 yX5_putInSequence cX5_putInSequence 3 none wsX5_putInSequence rm_X5_putInSequence 0 0 1 := cwV 1 hts gX5_renderCitation_X5_putInSequence rfl rfl rfl (by decide +kernel) ⟨Nat.le_of_ble_eq_true rfl, Nat.le_of_ble_eq_true rfl⟩
  have k4 := hts (.fieldLink RX5 36 "CitationFormatter$Renderer" "settings" "LCitationFormatter$Settings;") (by decide +kernel)
  have k5 := hts (.fieldLink RX5 54 "CitationFormatter$Settings" "style" "I") (by decide +kernel)
  have k6 : ∀ w ∈ wsX60, w ∈ wsX5_renderCitation := by decide +kernel
  have k7 : CallW rm_X5_renderCitation s args RX5 RX5 59 yX5_writeAuthorYear cX5_writeAuthorYear 3 none wsX5_writeAuthorYear rm_X5_writeAuthorYear 0 0 0 := cwV 0 hts gX5_renderCitation_X5_writeAuthorYear rfl rfl rfl (by decide +kernel) ⟨Nat.le_of_ble_eq_true rfl, Nat.le_of_ble_eq_true rfl⟩
  have k8 : CallW rm_X5_renderCitation s args RX5 RX5 62 yX5_writeNumeric cX5_writeNumeric 3 none wsX5_writeNumeric rm_X5_writeNumeric 0 0 0 := cwV 0 hts gX5_renderCitation_X5_writeNumeric rfl rfl rfl (by decide +kernel) ⟨Nat.le_of_ble_eq_true rfl, Nat.le_of_ble_eq_true rfl⟩
  have k9 : CallW rm_X5_renderCitation s args RX5 RX5 65 yX5_writeNote cX5_writeNote 3 none wsX5_writeNote rm_X5_writeNote 0 0 1 := cwV 1 hts gX5_renderCitation_X5_writeNote rfl rfl rfl (by decide +kernel) ⟨Nat.le_of_ble_eq_true rfl, Nat.le_of_ble_eq_true rfl⟩
  have J63 : ∀ (E_n_j63 : Int32) (E_li_j63 : Nat → Int32) (E_se_j63 : Nat → Int32) (E_sn_j63 : Int32), (m_X5_renderCitation_J63 E_n_j63 E_li_j63 E_se_j63 E_sn_j63 = some o) → ∀ (H : Heap) (locs : List Loc) (ls : Array Slot), va_P D vwCl (w_X5_renderCitation cI cJ cZ aW aW_ac aW_fa aW_in aW_yr aW_ti aS aS_ke aS_di aC aC_sz aC_cd aA aA_or aA_nu aA_li aL aL_sh aL_wi aL_su aL_nk aL_gr aE aE_li aE_se W_n W_ac W_fa W_in W_yr W_ti S_st S_mi S_fi S_sp S_cl S_nu S_co C_n C_sz C_cd A_nu A_li L_sh L_wi L_su L_nk E_n_j63 E_li_j63 E_se_j63 E_sn_j63) H → va_D A (w_X5_renderCitation cI cJ cZ aW aW_ac aW_fa aW_in aW_yr aW_ti aS aS_ke aS_di aC aC_sz aC_cd aA aA_or aA_nu aA_li aL aL_sh aL_wi aL_su aL_nk aL_gr aE aE_li aE_se W_n W_ac W_fa W_in W_yr W_ti S_st S_mi S_fi S_sp S_cl S_nu S_co C_n C_sz C_cd A_nu A_li L_sh L_wi L_su L_nk E_n_j63 E_li_j63 E_se_j63 E_sn_j63) → va_S A s.heap H locs → lv_has ls 2 [(0, .ref aE)] → W p l e rm_X5_renderCitation s m args below meth c H locs 0 0 Q (F0 m 63 ls []) := by
    intro E_n_j63 E_li_j63 E_se_j63 E_sn_j63 hm H locs ls hP hD hS hl
    have h9 := Option.some.inj hm
    subst h9
    exact hret H locs _ ls hP hD hS dX5_renderCitation_63
  refine lv_aload_n hx hb dX5_renderCitation_0 rfl (lv_at hl 0 rfl) ?_
  refine lv_iconst (v := 0) hx hb dX5_renderCitation_1 (by decide) ?_
  refine va_put (D := D) (ci := 5) (v := .int 0) (ty := .int) (C := RX5) (T := TX5) (N := 9) hx hb hts k2 tyX5 tyX5_ok nmX5 hown hKv hP hD hS 18 rfl rfl 0 (by decide) k1 (fun _ h9 => h9) rfl (by decide +kernel) rfl rfl (Nat.le_of_ble_eq_true rfl) dX5_renderCitation_2 (fun H locs hP hD hS => ?_)
  replace hP : va_P D vwCl (w_X5_renderCitation cI cJ cZ aW aW_ac aW_fa aW_in aW_yr aW_ti aS aS_ke aS_di aC aC_sz aC_cd aA aA_or aA_nu aA_li aL aL_sh aL_wi aL_su aL_nk aL_gr aE aE_li aE_se W_n W_ac W_fa W_in W_yr W_ti S_st S_mi S_fi S_sp S_cl S_nu S_co C_n C_sz C_cd A_nu A_li L_sh L_wi L_su L_nk 0 E_li E_se E_sn) H := hP
  replace hD : va_D A (w_X5_renderCitation cI cJ cZ aW aW_ac aW_fa aW_in aW_yr aW_ti aS aS_ke aS_di aC aC_sz aC_cd aA aA_or aA_nu aA_li aL aL_sh aL_wi aL_su aL_nk aL_gr aE aE_li aE_se W_n W_ac W_fa W_in W_yr W_ti S_st S_mi S_fi S_sp S_cl S_nu S_co C_n C_sz C_cd A_nu A_li L_sh L_wi L_su L_nk 0 E_li E_se E_sn) := hD
  refine lv_aload_n hx hb dX5_renderCitation_5 rfl (lv_at hl 0 rfl) ?_
  refine lv_iload_n hx hb dX5_renderCitation_6 rfl (lv_at hl 1 rfl) ?_
  replace hm := bd_some hm
  obtain ⟨e1, hc1, hm⟩ := hm
  refine kV_v (rest := []) (ws' := (w_X5_renderCitation cI cJ cZ aW aW_ac aW_fa aW_in aW_yr aW_ti aS aS_ke aS_di aC aC_sz aC_cd aA aA_or aA_nu aA_li aL aL_sh aL_wi aL_su aL_nk aL_gr aE aE_li aE_se W_n W_ac W_fa W_in W_yr W_ti S_st S_mi S_fi S_sp S_cl S_nu S_co C_n C_sz C_cd A_nu A_li L_sh L_wi L_su L_nk 0 E_li e1.1 e1.2)) S (c_X5_putInSequence l D cI cJ cZ cS aW aW_ac aW_fa aW_in aW_yr aW_ti aS aS_ke aS_di aC aC_sz aC_cd aA aA_or aA_nu aA_li aE aE_li aL aE_se W_n S_st S_mi S_fi S_sp S_cl S_nu S_co C_n C_sz C_cd A_li 0 E_se E_sn x1 e1 hc1) k3 hK hP hD hS hA 18 rfl rfl rfl rfl hl.1 rfl (Nat.le_of_ble_eq_true rfl) ⟨Nat.zero_le _, Nat.zero_le _⟩ dX5_renderCitation_7 [0, 6, 7, 8, 9, 10, 12, 18, 20] rfl rfl wa_X5_putInSequence (sa_eq [(aW_ac, .inl (cI, 8, .inl W_ac)), (aW_fa, .inl (cI, 32, .inl W_fa)), (aW_in, .inl (cI, 32, .inl W_in)), (aW_yr, .inl (cI, 8, .inl W_yr)), (aW_ti, .inl (cI, 8, .inl W_ti)), (aA_nu, .inl (cI, 8, .inl A_nu)), (aL, .inr (3, [.ref aL_sh, .ref aL_wi, .ref aL_su, .ref aW, .ref aS, .ref aA, .ref aL_nk, .ref aL_gr])), (aL_sh, .inl (cI, 8, .inl L_sh)), (aL_wi, .inl (cZ, 8, .inl L_wi)), (aL_su, .inl (cI, 8, .inl L_su)), (aL_nk, .inl (cJ, 8, .inr (.inl L_nk))), (aE_li, .inl (cI, 100, .inl E_li))] [1, 2, 3, 4, 5, 11, 13, 14, 15, 16, 17, 19] 21 rfl rfl rfl rfl rfl rfl rfl) (fun H locs hP hD hS => ?_)
  refine lv_aload_n hx hb dX5_renderCitation_10 rfl (lv_at hl 0 rfl) ?_
  refine va_get (D := D) (ci := 5) (v := .ref aS) (C := RX5) (T := TX5) (N := 9) hx hb hts k2 hown hKv hP 18 rfl rfl 3 (by decide) k4 (fun _ h9 => h9) rfl dX5_renderCitation_11 ?_
  refine va_get (D := D) (ci := 6) (v := .int S_st) (C := RX6) (T := TX6) (N := 9) hx hb hts k6 hown hKv hP 6 rfl rfl 0 (by decide) k5 (fun _ h9 => h9) rfl dX5_renderCitation_14 ?_
  by_cases c2 : S_st = 0
  · replace hm := if_t c2 hm
    refine lv_lookup (tgt := 44) hx hb dX5_renderCitation_17 (by decide) (by first | (rw [c2]; done) | (rw [c2]; rfl)) (by decide) ?_
    refine lv_aload_n hx hb dX5_renderCitation_44 rfl (lv_at hl 0 rfl) ?_
    replace hm := bd_some hm
    obtain ⟨e3, hc3, hm⟩ := hm
    refine kV_v (rest := []) (ws' := (w_X5_renderCitation cI cJ cZ aW aW_ac aW_fa aW_in aW_yr aW_ti aS aS_ke aS_di aC aC_sz aC_cd aA aA_or aA_nu aA_li aL aL_sh aL_wi aL_su aL_nk aL_gr aE aE_li aE_se W_n W_ac W_fa W_in W_yr W_ti S_st S_mi S_fi S_sp S_cl S_nu S_co C_n C_sz C_cd A_nu A_li L_sh L_wi L_su L_nk e3.1 e3.2 e1.1 e1.2)) S (c_X5_writeAuthorYear l D cI cJ cZ cS aW aW_ac aW_fa aW_in aW_yr aW_ti aS aS_ke aS_di aL aL_sh aL_wi aL_su aA aL_nk aL_gr aE aE_li aC aE_se W_n W_ac W_fa W_in W_yr S_st S_mi S_fi S_sp S_cl S_nu S_co L_sh L_wi L_su L_nk 0 E_li e1.1 e1.2 e3 hc3) k7 hK hP hD hS hA 18 rfl rfl rfl rfl hl.1 rfl (Nat.le_of_ble_eq_true rfl) ⟨Nat.zero_le _, Nat.zero_le _⟩ dX5_renderCitation_45 [0, 1, 2, 3, 4, 6, 13, 14, 15, 16, 17, 18, 19, 20] rfl rfl wa_X5_writeAuthorYear (sa_eq [(aW_ti, .inl (cI, 8, .inl W_ti)), (aC, .inr (1, [.int C_n, .ref aC_sz, .ref aC_cd])), (aC_sz, .inl (cI, 10, .inl C_sz)), (aC_cd, .inl (cI, 50, .inl C_cd)), (aA, .inr (0, [.ref aA_or, .ref aA_nu, .ref aA_li, .ref aW, .ref aS, .ref aC])), (aA_nu, .inl (cI, 8, .inl A_nu)), (aA_li, .inl (cI, 8, .inl A_li))] [5, 7, 8, 9, 10, 11, 12] 21 rfl rfl rfl rfl rfl rfl rfl) (fun H locs hP hD hS => ?_)
    refine lv_goto (tgt := 63) hx hb dX5_renderCitation_48 (by decide) ?_
    exact J63 e3.1 e3.2 e1.1 e1.2 hm H locs ls hP hD hS (lv_sub hl [0] rfl)
  · replace hm := if_f c2 hm
    by_cases c4 : S_st = 1
    · replace hm := if_t c4 hm
      refine lv_lookup (tgt := 51) hx hb dX5_renderCitation_17 (by decide) (by first | (rw [c4]; done) | (rw [c4]; rfl)) (by decide) ?_
      refine lv_aload_n hx hb dX5_renderCitation_51 rfl (lv_at hl 0 rfl) ?_
      replace hm := bd_some hm
      obtain ⟨e5, hc5, hm⟩ := hm
      refine kV_v (rest := []) (ws' := (w_X5_renderCitation cI cJ cZ aW aW_ac aW_fa aW_in aW_yr aW_ti aS aS_ke aS_di aC aC_sz aC_cd aA aA_or aA_nu aA_li aL aL_sh aL_wi aL_su aL_nk aL_gr aE aE_li aE_se W_n W_ac W_fa W_in W_yr W_ti S_st S_mi S_fi S_sp S_cl S_nu S_co C_n C_sz C_cd A_nu A_li L_sh L_wi L_su L_nk e5.1 e5.2 e1.1 e1.2)) S (c_X5_writeNumeric l D cI cJ cZ cS aS aS_ke aS_di aA aA_or aA_nu aA_li aW aC aE aE_li aL aE_se S_st S_mi S_fi S_sp S_cl S_nu S_co A_nu 0 E_li e1.1 e1.2 e5 hc5) k8 hK hP hD hS hA 18 rfl rfl rfl rfl hl.1 rfl (Nat.le_of_ble_eq_true rfl) ⟨Nat.zero_le _, Nat.zero_le _⟩ dX5_renderCitation_52 [6, 10, 11, 18, 19, 20] rfl rfl wa_X5_writeNumeric (sa_eq [(aW, .inr (9, [.int W_n, .ref aW_ac, .ref aW_fa, .ref aW_in, .ref aW_yr, .ref aW_ti])), (aW_ac, .inl (cI, 8, .inl W_ac)), (aW_fa, .inl (cI, 32, .inl W_fa)), (aW_in, .inl (cI, 32, .inl W_in)), (aW_yr, .inl (cI, 8, .inl W_yr)), (aW_ti, .inl (cI, 8, .inl W_ti)), (aC, .inr (1, [.int C_n, .ref aC_sz, .ref aC_cd])), (aC_sz, .inl (cI, 10, .inl C_sz)), (aC_cd, .inl (cI, 50, .inl C_cd)), (aA_li, .inl (cI, 8, .inl A_li)), (aL, .inr (3, [.ref aL_sh, .ref aL_wi, .ref aL_su, .ref aW, .ref aS, .ref aA, .ref aL_nk, .ref aL_gr])), (aL_sh, .inl (cI, 8, .inl L_sh)), (aL_wi, .inl (cZ, 8, .inl L_wi)), (aL_su, .inl (cI, 8, .inl L_su)), (aL_nk, .inl (cJ, 8, .inr (.inl L_nk)))] [0, 1, 2, 3, 4, 5, 7, 8, 9, 12, 13, 14, 15, 16, 17] 21 rfl rfl rfl rfl rfl rfl rfl) (fun H locs hP hD hS => ?_)
      refine lv_goto (tgt := 63) hx hb dX5_renderCitation_55 (by decide) ?_
      exact J63 e5.1 e5.2 e1.1 e1.2 hm H locs ls hP hD hS (lv_sub hl [0] rfl)
    · replace hm := if_f c4 hm
      refine lv_lookup (tgt := 58) hx hb dX5_renderCitation_17 (by decide) (lk_out_0_1 c2 c4) (by decide) ?_
      refine lv_aload_n hx hb dX5_renderCitation_58 rfl (lv_at hl 0 rfl) ?_
      refine lv_iload_n hx hb dX5_renderCitation_59 rfl (lv_at hl 1 rfl) ?_
      replace hm := bd_some hm
      obtain ⟨e6, hc6, hm⟩ := hm
      refine kV_v (rest := []) (ws' := (w_X5_renderCitation cI cJ cZ aW aW_ac aW_fa aW_in aW_yr aW_ti aS aS_ke aS_di aC aC_sz aC_cd aA aA_or aA_nu aA_li aL aL_sh aL_wi aL_su aL_nk aL_gr aE aE_li aE_se W_n W_ac W_fa W_in W_yr W_ti S_st S_mi S_fi S_sp S_cl S_nu S_co C_n C_sz C_cd A_nu A_li L_sh L_wi L_su L_nk e6.1 e6.2 e1.1 e1.2)) S (c_X5_writeNote l D cI cJ cZ cS aW aW_ac aW_fa aW_in aW_yr aW_ti aC aC_sz aC_cd aL aL_sh aL_wi aL_su aS aA aL_nk aL_gr aE aE_li aE_se W_n W_ac W_fa W_in W_yr W_ti C_n C_sz C_cd L_sh L_wi 0 E_li e1.1 e1.2 x1 e6 hc6) k9 hK hP hD hS hA 18 rfl rfl rfl rfl hl.1 rfl (Nat.le_of_ble_eq_true rfl) ⟨Nat.zero_le _, Nat.zero_le _⟩ dX5_renderCitation_60 [0, 1, 2, 3, 4, 5, 7, 8, 9, 13, 14, 15, 18, 19, 20] rfl rfl wa_X5_writeNote (sa_eq [(aS, .inr (6, [.int S_st, .int S_mi, .int S_fi, .int S_sp, .int S_cl, .int S_nu, .int S_co, .ref aS_ke, .ref aS_di])), (aA, .inr (0, [.ref aA_or, .ref aA_nu, .ref aA_li, .ref aW, .ref aS, .ref aC])), (aA_nu, .inl (cI, 8, .inl A_nu)), (aA_li, .inl (cI, 8, .inl A_li)), (aL_su, .inl (cI, 8, .inl L_su)), (aL_nk, .inl (cJ, 8, .inr (.inl L_nk)))] [6, 10, 11, 12, 16, 17] 21 rfl rfl rfl rfl rfl rfl rfl) (fun H locs hP hD hS => ?_)
      exact J63 e6.1 e6.2 e1.1 e1.2 hm H locs ls hP hD hS (lv_sub hl [0] rfl)
set_option maxHeartbeats 4000000 in
set_option maxRecDepth 100000 in
theorem c_X5_renderEntry (l : Launch) (D : va_G) (cI cJ cZ cS : ClassId) (aW aW_ac aW_fa aW_in aW_yr aW_ti aS aS_ke aS_di aA aA_or aA_nu aA_li aC aL aL_sh aL_wi aL_su aL_nk aL_gr aE aE_li aE_se : Nat) (W_n : Int32) (W_ac : Nat → Int32) (W_fa : Nat → Int32) (W_in : Nat → Int32) (W_yr : Nat → Int32) (W_ti : Nat → Int32) (S_st : Int32) (S_mi : Int32) (S_fi : Int32) (S_sp : Int32) (S_cl : Int32) (S_nu : Int32) (S_co : Int32) (A_nu : Nat → Int32) (L_su : Nat → Int32) (E_n : Int32) (E_li : Nat → Int32) (E_sn : Int32) (x1 : Int32) (o : Int32 × (Nat → Int32)) (hm : m_X5_renderEntry W_ac W_fa W_in W_yr W_ti S_st A_nu L_su E_n E_li x1 = some o) : MV l yX5_renderEntry wsX5_renderEntry rm_X5_renderEntry D (TY cI cJ cZ cS) [.ref aE, .int x1] (w_X5_renderEntry cI aW aW_ac aW_fa aW_in aW_yr aW_ti aS aS_ke aS_di aA aA_or aA_nu aA_li aC aL aL_sh aL_wi aL_su aL_nk aL_gr aE aE_li aE_se W_n W_ac W_fa W_in W_yr W_ti S_st S_mi S_fi S_sp S_cl S_nu S_co A_nu L_su E_n E_li E_sn) (w_X5_renderEntry cI aW aW_ac aW_fa aW_in aW_yr aW_ti aS aS_ke aS_di aA aA_or aA_nu aA_li aC aL aL_sh aL_wi aL_su aL_nk aL_gr aE aE_li aE_se W_n W_ac W_fa W_in W_yr W_ti S_st S_mi S_fi S_sp S_cl S_nu S_co A_nu L_su o.1 o.2 E_sn) := by
  refine MV_of (cc := cX5_renderEntry) (maxL := 2) (by decide) rfl (Nat.le_of_ble_eq_true rfl) ?_
  intro p e s m args below meth c A Q ls H locs hx hb hml hts hown hK hA hP hD hS hl hret
  have hown : s.vm.findClass RX5 = some m.cls := hown
  have hKv : va_K D vwCl (TY cI cJ cZ cS) s := hK.1
  have hl : lv_has ls 2 [(0, .ref aE), (1, .int x1)] := hl
  have S : CallFix p m c cX5_renderEntry 2 s args wsX5_renderEntry RX5 := ⟨hx, hb, hml, hown, hts⟩
  have k1 : CallW rm_X5_renderEntry s args RX5 RX5 68 yX5_write cX5_write 2 none wsX5_write rm_X5_write 0 0 1 := cwV 1 hts gX5_renderEntry_X5_write rfl rfl rfl (by decide +kernel) ⟨Nat.le_of_ble_eq_true rfl, Nat.le_of_ble_eq_true rfl⟩
  have k2 := hts (.fieldLink RX5 31 "CitationFormatter$Renderer" "works" "LCitationFormatter$Works;") (by decide +kernel)
  have k3 : ∀ w ∈ wsX50, w ∈ wsX5_renderEntry := by decide +kernel
  have k4 := hts (.fieldLink RX5 88 "CitationFormatter$Works" "titles" "[I") (by decide +kernel)
  have k5 : ∀ w ∈ wsX90, w ∈ wsX5_renderEntry := by decide +kernel
  have k6 : CallW rm_X5_renderEntry s args RX5 RX5 79 yX5_writeAllAuthors cX5_writeAllAuthors 2 none wsX5_writeAllAuthors rm_X5_writeAllAuthors 0 0 1 := cwV 1 hts gX5_renderEntry_X5_writeAllAuthors rfl rfl rfl (by decide +kernel) ⟨Nat.le_of_ble_eq_true rfl, Nat.le_of_ble_eq_true rfl⟩
  have k7 : CallW rm_X5_renderEntry s args RX5 RX5 82 yX5_writeYear cX5_writeYear 2 none wsX5_writeYear rm_X5_writeYear 0 0 1 := cwV 1 hts gX5_renderEntry_X5_writeYear rfl rfl rfl (by decide +kernel) ⟨Nat.le_of_ble_eq_true rfl, Nat.le_of_ble_eq_true rfl⟩
  have k8 := hts (.fieldLink RX5 36 "CitationFormatter$Renderer" "settings" "LCitationFormatter$Settings;") (by decide +kernel)
  have k9 := hts (.fieldLink RX5 54 "CitationFormatter$Settings" "style" "I") (by decide +kernel)
  have k10 : ∀ w ∈ wsX60, w ∈ wsX5_renderEntry := by decide +kernel
  have k11 : CallW rm_X5_renderEntry s args RX5 RX5 85 yX5_writeSuffix cX5_writeSuffix 2 none wsX5_writeSuffix rm_X5_writeSuffix 0 0 1 := cwV 1 hts gX5_renderEntry_X5_writeSuffix rfl rfl rfl (by decide +kernel) ⟨Nat.le_of_ble_eq_true rfl, Nat.le_of_ble_eq_true rfl⟩
  have k12 := hts (.fieldLink RX5 9 "CitationFormatter$Renderer" "length" "I") (by decide +kernel)
  have k13 := hts (.fieldLink RX5 42 "CitationFormatter$Renderer" "arrangement" "LCitationFormatter$Arrangement;") (by decide +kernel)
  have k14 := hts (.fieldLink RX5 71 "CitationFormatter$Arrangement" "numbers" "[I") (by decide +kernel)
  have k15 : ∀ w ∈ wsX00, w ∈ wsX5_renderEntry := by decide +kernel
  have k16 : CallW rm_X5_renderEntry s args RX5 RX5 76 yX5_writeDigit cX5_writeDigit 2 none wsX5_writeDigit rm_X5_writeDigit 0 0 1 := cwV 1 hts gX5_renderEntry_X5_writeDigit rfl rfl rfl (by decide +kernel) ⟨Nat.le_of_ble_eq_true rfl, Nat.le_of_ble_eq_true rfl⟩
  have J72 : ∀ (E_n_j72 : Int32) (E_li_j72 : Nat → Int32), (m_X5_renderEntry_J72 x1 W_ti E_n_j72 E_li_j72 = some o) → ∀ (H : Heap) (locs : List Loc) (ls : Array Slot), va_P D vwCl (w_X5_renderEntry cI aW aW_ac aW_fa aW_in aW_yr aW_ti aS aS_ke aS_di aA aA_or aA_nu aA_li aC aL aL_sh aL_wi aL_su aL_nk aL_gr aE aE_li aE_se W_n W_ac W_fa W_in W_yr W_ti S_st S_mi S_fi S_sp S_cl S_nu S_co A_nu L_su E_n_j72 E_li_j72 E_sn) H → va_D A (w_X5_renderEntry cI aW aW_ac aW_fa aW_in aW_yr aW_ti aS aS_ke aS_di aA aA_or aA_nu aA_li aC aL aL_sh aL_wi aL_su aL_nk aL_gr aE aE_li aE_se W_n W_ac W_fa W_in W_yr W_ti S_st S_mi S_fi S_sp S_cl S_nu S_co A_nu L_su E_n_j72 E_li_j72 E_sn) → va_S A s.heap H locs → lv_has ls 2 [(0, .ref aE), (1, .int x1)] → W p l e rm_X5_renderEntry s m args below meth c H locs 0 0 Q (F0 m 72 ls []) := by
    intro E_n_j72 E_li_j72 hm H locs ls hP hD hS hl
    refine lv_aload_n hx hb dX5_renderEntry_72 rfl (lv_at hl 0 rfl) ?_
    refine lv_bipush (v := 41) hx hb dX5_renderEntry_73 (by decide) ?_
    replace hm := bd_some hm
    obtain ⟨e1, hc1, hm⟩ := hm
    refine kV_v (rest := []) (ws' := (w_X5_renderEntry cI aW aW_ac aW_fa aW_in aW_yr aW_ti aS aS_ke aS_di aA aA_or aA_nu aA_li aC aL aL_sh aL_wi aL_su aL_nk aL_gr aE aE_li aE_se W_n W_ac W_fa W_in W_yr W_ti S_st S_mi S_fi S_sp S_cl S_nu S_co A_nu L_su e1.1 e1.2 E_sn)) S (c_X5_write l D cI cJ cZ cS aE aE_li aW aS aC aA aL aE_se E_n_j72 E_li_j72 E_sn 41 e1 hc1) k1 hK hP hD hS hA 11 rfl rfl rfl rfl hl.1 rfl (Nat.le_of_ble_eq_true rfl) ⟨Nat.zero_le _, Nat.zero_le _⟩ dX5_renderEntry_75 [11, 12] rfl rfl wa_X5_write (sa_eq [(aW, .inr (9, [.int W_n, .ref aW_ac, .ref aW_fa, .ref aW_in, .ref aW_yr, .ref aW_ti])), (aW_ac, .inl (cI, 8, .inl W_ac)), (aW_fa, .inl (cI, 32, .inl W_fa)), (aW_in, .inl (cI, 32, .inl W_in)), (aW_yr, .inl (cI, 8, .inl W_yr)), (aW_ti, .inl (cI, 8, .inl W_ti)), (aS, .inr (6, [.int S_st, .int S_mi, .int S_fi, .int S_sp, .int S_cl, .int S_nu, .int S_co, .ref aS_ke, .ref aS_di])), (aA, .inr (0, [.ref aA_or, .ref aA_nu, .ref aA_li, .ref aW, .ref aS, .ref aC])), (aA_nu, .inl (cI, 8, .inl A_nu)), (aL, .inr (3, [.ref aL_sh, .ref aL_wi, .ref aL_su, .ref aW, .ref aS, .ref aA, .ref aL_nk, .ref aL_gr])), (aL_su, .inl (cI, 8, .inl L_su))] [0, 1, 2, 3, 4, 5, 6, 7, 8, 9, 10] 13 rfl rfl rfl rfl rfl rfl rfl) (fun H locs hP hD hS => ?_)
    refine lv_aload_n hx hb dX5_renderEntry_78 rfl (lv_at hl 0 rfl) ?_
    refine lv_aload_n hx hb dX5_renderEntry_79 rfl (lv_at hl 0 rfl) ?_
    refine va_get (D := D) (ci := 5) (v := .ref aW) (C := RX5) (T := TX5) (N := 9) hx hb hts k3 hown hKv hP 11 rfl rfl 2 (by decide) k2 (fun _ h9 => h9) rfl dX5_renderEntry_80 ?_
    refine va_get (D := D) (ci := 9) (v := .ref aW_ti) (C := RX9) (T := TX9) (N := 6) hx hb hts k5 hown hKv hP 0 rfl rfl 5 (by decide) k4 (fun _ h9 => h9) rfl dX5_renderEntry_83 ?_
    refine lv_iload_n hx hb dX5_renderEntry_86 rfl (lv_at hl 1 rfl) ?_
    replace hm := ck_some hm
    obtain ⟨h2, hm⟩ := hm
    refine va_iald hx hb hKv hP 5 0 rfl rfl h2 dX5_renderEntry_87 ?_
    replace hm := bd_some hm
    obtain ⟨e3, hc3, hm⟩ := hm
    refine kV_v (rest := []) (ws' := (w_X5_renderEntry cI aW aW_ac aW_fa aW_in aW_yr aW_ti aS aS_ke aS_di aA aA_or aA_nu aA_li aC aL aL_sh aL_wi aL_su aL_nk aL_gr aE aE_li aE_se W_n W_ac W_fa W_in W_yr W_ti S_st S_mi S_fi S_sp S_cl S_nu S_co A_nu L_su e3.1 e3.2 E_sn)) S (c_X5_write l D cI cJ cZ cS aE aE_li aW aS aC aA aL aE_se e1.1 e1.2 E_sn (W_ti (Int32.toNatClampNeg x1)) e3 hc3) k1 hK hP hD hS hA 11 rfl rfl rfl rfl hl.1 rfl (Nat.le_of_ble_eq_true rfl) ⟨Nat.zero_le _, Nat.zero_le _⟩ dX5_renderEntry_88 [11, 12] rfl rfl wa_X5_write (sa_eq [(aW, .inr (9, [.int W_n, .ref aW_ac, .ref aW_fa, .ref aW_in, .ref aW_yr, .ref aW_ti])), (aW_ac, .inl (cI, 8, .inl W_ac)), (aW_fa, .inl (cI, 32, .inl W_fa)), (aW_in, .inl (cI, 32, .inl W_in)), (aW_yr, .inl (cI, 8, .inl W_yr)), (aW_ti, .inl (cI, 8, .inl W_ti)), (aS, .inr (6, [.int S_st, .int S_mi, .int S_fi, .int S_sp, .int S_cl, .int S_nu, .int S_co, .ref aS_ke, .ref aS_di])), (aA, .inr (0, [.ref aA_or, .ref aA_nu, .ref aA_li, .ref aW, .ref aS, .ref aC])), (aA_nu, .inl (cI, 8, .inl A_nu)), (aL, .inr (3, [.ref aL_sh, .ref aL_wi, .ref aL_su, .ref aW, .ref aS, .ref aA, .ref aL_nk, .ref aL_gr])), (aL_su, .inl (cI, 8, .inl L_su))] [0, 1, 2, 3, 4, 5, 6, 7, 8, 9, 10] 13 rfl rfl rfl rfl rfl rfl rfl) (fun H locs hP hD hS => ?_)
    refine lv_aload_n hx hb dX5_renderEntry_91 rfl (lv_at hl 0 rfl) ?_
    refine lv_bipush (v := 46) hx hb dX5_renderEntry_92 (by decide) ?_
    replace hm := bd_some hm
    obtain ⟨e4, hc4, hm⟩ := hm
    refine kV_v (rest := []) (ws' := (w_X5_renderEntry cI aW aW_ac aW_fa aW_in aW_yr aW_ti aS aS_ke aS_di aA aA_or aA_nu aA_li aC aL aL_sh aL_wi aL_su aL_nk aL_gr aE aE_li aE_se W_n W_ac W_fa W_in W_yr W_ti S_st S_mi S_fi S_sp S_cl S_nu S_co A_nu L_su e4.1 e4.2 E_sn)) S (c_X5_write l D cI cJ cZ cS aE aE_li aW aS aC aA aL aE_se e3.1 e3.2 E_sn 46 e4 hc4) k1 hK hP hD hS hA 11 rfl rfl rfl rfl hl.1 rfl (Nat.le_of_ble_eq_true rfl) ⟨Nat.zero_le _, Nat.zero_le _⟩ dX5_renderEntry_94 [11, 12] rfl rfl wa_X5_write (sa_eq [(aW, .inr (9, [.int W_n, .ref aW_ac, .ref aW_fa, .ref aW_in, .ref aW_yr, .ref aW_ti])), (aW_ac, .inl (cI, 8, .inl W_ac)), (aW_fa, .inl (cI, 32, .inl W_fa)), (aW_in, .inl (cI, 32, .inl W_in)), (aW_yr, .inl (cI, 8, .inl W_yr)), (aW_ti, .inl (cI, 8, .inl W_ti)), (aS, .inr (6, [.int S_st, .int S_mi, .int S_fi, .int S_sp, .int S_cl, .int S_nu, .int S_co, .ref aS_ke, .ref aS_di])), (aA, .inr (0, [.ref aA_or, .ref aA_nu, .ref aA_li, .ref aW, .ref aS, .ref aC])), (aA_nu, .inl (cI, 8, .inl A_nu)), (aL, .inr (3, [.ref aL_sh, .ref aL_wi, .ref aL_su, .ref aW, .ref aS, .ref aA, .ref aL_nk, .ref aL_gr])), (aL_su, .inl (cI, 8, .inl L_su))] [0, 1, 2, 3, 4, 5, 6, 7, 8, 9, 10] 13 rfl rfl rfl rfl rfl rfl rfl) (fun H locs hP hD hS => ?_)
    have h9 := Option.some.inj hm
    subst h9
    exact hret H locs _ ls hP hD hS dX5_renderEntry_97
  have J41 : ∀ (E_n_j41 : Int32) (E_li_j41 : Nat → Int32), (m_X5_renderEntry_J41 x1 W_ac W_fa W_in W_yr W_ti S_st L_su E_n_j41 E_li_j41 = some o) → ∀ (H : Heap) (locs : List Loc) (ls : Array Slot), va_P D vwCl (w_X5_renderEntry cI aW aW_ac aW_fa aW_in aW_yr aW_ti aS aS_ke aS_di aA aA_or aA_nu aA_li aC aL aL_sh aL_wi aL_su aL_nk aL_gr aE aE_li aE_se W_n W_ac W_fa W_in W_yr W_ti S_st S_mi S_fi S_sp S_cl S_nu S_co A_nu L_su E_n_j41 E_li_j41 E_sn) H → va_D A (w_X5_renderEntry cI aW aW_ac aW_fa aW_in aW_yr aW_ti aS aS_ke aS_di aA aA_or aA_nu aA_li aC aL aL_sh aL_wi aL_su aL_nk aL_gr aE aE_li aE_se W_n W_ac W_fa W_in W_yr W_ti S_st S_mi S_fi S_sp S_cl S_nu S_co A_nu L_su E_n_j41 E_li_j41 E_sn) → va_S A s.heap H locs → lv_has ls 2 [(0, .ref aE), (1, .int x1)] → W p l e rm_X5_renderEntry s m args below meth c H locs 0 0 Q (F0 m 41 ls []) := by
    intro E_n_j41 E_li_j41 hm H locs ls hP hD hS hl
    refine lv_aload_n hx hb dX5_renderEntry_41 rfl (lv_at hl 0 rfl) ?_
    refine lv_iload_n hx hb dX5_renderEntry_42 rfl (lv_at hl 1 rfl) ?_
    replace hm := bd_some hm
    obtain ⟨e5, hc5, hm⟩ := hm
    refine kV_v (rest := []) (ws' := (w_X5_renderEntry cI aW aW_ac aW_fa aW_in aW_yr aW_ti aS aS_ke aS_di aA aA_or aA_nu aA_li aC aL aL_sh aL_wi aL_su aL_nk aL_gr aE aE_li aE_se W_n W_ac W_fa W_in W_yr W_ti S_st S_mi S_fi S_sp S_cl S_nu S_co A_nu L_su e5.1 e5.2 E_sn)) S (c_X5_writeAllAuthors l D cI cJ cZ cS aW aW_ac aW_fa aW_in aW_yr aW_ti aE aE_li aS aC aA aL aE_se W_n W_ac W_fa W_in E_n_j41 E_li_j41 E_sn x1 e5 hc5) k6 hK hP hD hS hA 11 rfl rfl rfl rfl hl.1 rfl (Nat.le_of_ble_eq_true rfl) ⟨Nat.zero_le _, Nat.zero_le _⟩ dX5_renderEntry_43 [0, 1, 2, 3, 11, 12] rfl rfl wa_X5_writeAllAuthors (sa_eq [(aW_yr, .inl (cI, 8, .inl W_yr)), (aW_ti, .inl (cI, 8, .inl W_ti)), (aS, .inr (6, [.int S_st, .int S_mi, .int S_fi, .int S_sp, .int S_cl, .int S_nu, .int S_co, .ref aS_ke, .ref aS_di])), (aA, .inr (0, [.ref aA_or, .ref aA_nu, .ref aA_li, .ref aW, .ref aS, .ref aC])), (aA_nu, .inl (cI, 8, .inl A_nu)), (aL, .inr (3, [.ref aL_sh, .ref aL_wi, .ref aL_su, .ref aW, .ref aS, .ref aA, .ref aL_nk, .ref aL_gr])), (aL_su, .inl (cI, 8, .inl L_su))] [4, 5, 6, 7, 8, 9, 10] 13 rfl rfl rfl rfl rfl rfl rfl) (fun H locs hP hD hS => ?_)
    refine lv_aload_n hx hb dX5_renderEntry_46 rfl (lv_at hl 0 rfl) ?_
    refine lv_bipush (v := 40) hx hb dX5_renderEntry_47 (by decide) ?_
    replace hm := bd_some hm
    obtain ⟨e6, hc6, hm⟩ := hm
    refine kV_v (rest := []) (ws' := (w_X5_renderEntry cI aW aW_ac aW_fa aW_in aW_yr aW_ti aS aS_ke aS_di aA aA_or aA_nu aA_li aC aL aL_sh aL_wi aL_su aL_nk aL_gr aE aE_li aE_se W_n W_ac W_fa W_in W_yr W_ti S_st S_mi S_fi S_sp S_cl S_nu S_co A_nu L_su e6.1 e6.2 E_sn)) S (c_X5_write l D cI cJ cZ cS aE aE_li aW aS aC aA aL aE_se e5.1 e5.2 E_sn 40 e6 hc6) k1 hK hP hD hS hA 11 rfl rfl rfl rfl hl.1 rfl (Nat.le_of_ble_eq_true rfl) ⟨Nat.zero_le _, Nat.zero_le _⟩ dX5_renderEntry_49 [11, 12] rfl rfl wa_X5_write (sa_eq [(aW, .inr (9, [.int W_n, .ref aW_ac, .ref aW_fa, .ref aW_in, .ref aW_yr, .ref aW_ti])), (aW_ac, .inl (cI, 8, .inl W_ac)), (aW_fa, .inl (cI, 32, .inl W_fa)), (aW_in, .inl (cI, 32, .inl W_in)), (aW_yr, .inl (cI, 8, .inl W_yr)), (aW_ti, .inl (cI, 8, .inl W_ti)), (aS, .inr (6, [.int S_st, .int S_mi, .int S_fi, .int S_sp, .int S_cl, .int S_nu, .int S_co, .ref aS_ke, .ref aS_di])), (aA, .inr (0, [.ref aA_or, .ref aA_nu, .ref aA_li, .ref aW, .ref aS, .ref aC])), (aA_nu, .inl (cI, 8, .inl A_nu)), (aL, .inr (3, [.ref aL_sh, .ref aL_wi, .ref aL_su, .ref aW, .ref aS, .ref aA, .ref aL_nk, .ref aL_gr])), (aL_su, .inl (cI, 8, .inl L_su))] [0, 1, 2, 3, 4, 5, 6, 7, 8, 9, 10] 13 rfl rfl rfl rfl rfl rfl rfl) (fun H locs hP hD hS => ?_)
    refine lv_aload_n hx hb dX5_renderEntry_52 rfl (lv_at hl 0 rfl) ?_
    refine lv_iload_n hx hb dX5_renderEntry_53 rfl (lv_at hl 1 rfl) ?_
    replace hm := bd_some hm
    obtain ⟨e7, hc7, hm⟩ := hm
    refine kV_v (rest := []) (ws' := (w_X5_renderEntry cI aW aW_ac aW_fa aW_in aW_yr aW_ti aS aS_ke aS_di aA aA_or aA_nu aA_li aC aL aL_sh aL_wi aL_su aL_nk aL_gr aE aE_li aE_se W_n W_ac W_fa W_in W_yr W_ti S_st S_mi S_fi S_sp S_cl S_nu S_co A_nu L_su e7.1 e7.2 E_sn)) S (c_X5_writeYear l D cI cJ cZ cS aW aW_ac aW_fa aW_in aW_yr aW_ti aE aE_li aS aC aA aL aE_se W_n W_yr e6.1 e6.2 E_sn x1 e7 hc7) k7 hK hP hD hS hA 11 rfl rfl rfl rfl hl.1 rfl (Nat.le_of_ble_eq_true rfl) ⟨Nat.zero_le _, Nat.zero_le _⟩ dX5_renderEntry_54 [0, 4, 11, 12] rfl rfl wa_X5_writeYear (sa_eq [(aW_ac, .inl (cI, 8, .inl W_ac)), (aW_fa, .inl (cI, 32, .inl W_fa)), (aW_in, .inl (cI, 32, .inl W_in)), (aW_ti, .inl (cI, 8, .inl W_ti)), (aS, .inr (6, [.int S_st, .int S_mi, .int S_fi, .int S_sp, .int S_cl, .int S_nu, .int S_co, .ref aS_ke, .ref aS_di])), (aA, .inr (0, [.ref aA_or, .ref aA_nu, .ref aA_li, .ref aW, .ref aS, .ref aC])), (aA_nu, .inl (cI, 8, .inl A_nu)), (aL, .inr (3, [.ref aL_sh, .ref aL_wi, .ref aL_su, .ref aW, .ref aS, .ref aA, .ref aL_nk, .ref aL_gr])), (aL_su, .inl (cI, 8, .inl L_su))] [1, 2, 3, 5, 6, 7, 8, 9, 10] 13 rfl rfl rfl rfl rfl rfl rfl) (fun H locs hP hD hS => ?_)
    refine lv_aload_n hx hb dX5_renderEntry_57 rfl (lv_at hl 0 rfl) ?_
    refine va_get (D := D) (ci := 5) (v := .ref aS) (C := RX5) (T := TX5) (N := 9) hx hb hts k3 hown hKv hP 11 rfl rfl 3 (by decide) k8 (fun _ h9 => h9) rfl dX5_renderEntry_58 ?_
    refine va_get (D := D) (ci := 6) (v := .int S_st) (C := RX6) (T := TX6) (N := 9) hx hb hts k10 hown hKv hP 6 rfl rfl 0 (by decide) k9 (fun _ h9 => h9) rfl dX5_renderEntry_61 ?_
    refine lv_if_ne (tgt := 72) hx hb dX5_renderEntry_64 (by decide) (fun c8 => ?_) (fun c8 => ?_)
    · replace hm := if_f c8 hm
      exact J72 e7.1 e7.2 hm H locs ls hP hD hS (lv_sub hl [0, 1] rfl)
    · replace hm := if_t c8 hm
      refine lv_aload_n hx hb dX5_renderEntry_67 rfl (lv_at hl 0 rfl) ?_
      refine lv_iload_n hx hb dX5_renderEntry_68 rfl (lv_at hl 1 rfl) ?_
      replace hm := bd_some hm
      obtain ⟨e9, hc9, hm⟩ := hm
      refine kV_v (rest := []) (ws' := (w_X5_renderEntry cI aW aW_ac aW_fa aW_in aW_yr aW_ti aS aS_ke aS_di aA aA_or aA_nu aA_li aC aL aL_sh aL_wi aL_su aL_nk aL_gr aE aE_li aE_se W_n W_ac W_fa W_in W_yr W_ti S_st S_mi S_fi S_sp S_cl S_nu S_co A_nu L_su e9.1 e9.2 E_sn)) S (c_X5_writeSuffix l D cI cJ cZ cS aL aL_sh aL_wi aL_su aW aS aA aL_nk aL_gr aE aE_li aC aE_se L_su e7.1 e7.2 E_sn x1 e9 hc9) k11 hK hP hD hS hA 11 rfl rfl rfl rfl hl.1 rfl (Nat.le_of_ble_eq_true rfl) ⟨Nat.zero_le _, Nat.zero_le _⟩ dX5_renderEntry_69 [9, 10, 11, 12] rfl rfl wa_X5_writeSuffix (sa_eq [(aW, .inr (9, [.int W_n, .ref aW_ac, .ref aW_fa, .ref aW_in, .ref aW_yr, .ref aW_ti])), (aW_ac, .inl (cI, 8, .inl W_ac)), (aW_fa, .inl (cI, 32, .inl W_fa)), (aW_in, .inl (cI, 32, .inl W_in)), (aW_yr, .inl (cI, 8, .inl W_yr)), (aW_ti, .inl (cI, 8, .inl W_ti)), (aS, .inr (6, [.int S_st, .int S_mi, .int S_fi, .int S_sp, .int S_cl, .int S_nu, .int S_co, .ref aS_ke, .ref aS_di])), (aA, .inr (0, [.ref aA_or, .ref aA_nu, .ref aA_li, .ref aW, .ref aS, .ref aC])), (aA_nu, .inl (cI, 8, .inl A_nu))] [0, 1, 2, 3, 4, 5, 6, 7, 8] 13 rfl rfl rfl rfl rfl rfl rfl) (fun H locs hP hD hS => ?_)
      exact J72 e9.1 e9.2 hm H locs ls hP hD hS (lv_sub hl [0, 1] rfl)
  refine lv_aload_n hx hb dX5_renderEntry_0 rfl (lv_at hl 0 rfl) ?_
  refine lv_iconst (v := 0) hx hb dX5_renderEntry_1 (by decide) ?_
  refine va_put (D := D) (ci := 5) (v := .int 0) (ty := .int) (C := RX5) (T := TX5) (N := 9) hx hb hts k3 tyX5 tyX5_ok nmX5 hown hKv hP hD hS 11 rfl rfl 0 (by decide) k12 (fun _ h9 => h9) rfl (by decide +kernel) rfl rfl (Nat.le_of_ble_eq_true rfl) dX5_renderEntry_2 (fun H locs hP hD hS => ?_)
  replace hP : va_P D vwCl (w_X5_renderEntry cI aW aW_ac aW_fa aW_in aW_yr aW_ti aS aS_ke aS_di aA aA_or aA_nu aA_li aC aL aL_sh aL_wi aL_su aL_nk aL_gr aE aE_li aE_se W_n W_ac W_fa W_in W_yr W_ti S_st S_mi S_fi S_sp S_cl S_nu S_co A_nu L_su 0 E_li E_sn) H := hP
  replace hD : va_D A (w_X5_renderEntry cI aW aW_ac aW_fa aW_in aW_yr aW_ti aS aS_ke aS_di aA aA_or aA_nu aA_li aC aL aL_sh aL_wi aL_su aL_nk aL_gr aE aE_li aE_se W_n W_ac W_fa W_in W_yr W_ti S_st S_mi S_fi S_sp S_cl S_nu S_co A_nu L_su 0 E_li E_sn) := hD
  refine lv_aload_n hx hb dX5_renderEntry_5 rfl (lv_at hl 0 rfl) ?_
  refine va_get (D := D) (ci := 5) (v := .ref aS) (C := RX5) (T := TX5) (N := 9) hx hb hts k3 hown hKv hP 11 rfl rfl 3 (by decide) k8 (fun _ h9 => h9) rfl dX5_renderEntry_6 ?_
  refine va_get (D := D) (ci := 6) (v := .int S_st) (C := RX6) (T := TX6) (N := 9) hx hb hts k10 hown hKv hP 6 rfl rfl 0 (by decide) k9 (fun _ h9 => h9) rfl dX5_renderEntry_9 ?_
  refine lv_iconst (v := 1) hx hb dX5_renderEntry_12 (by decide) ?_
  refine lv_icmp_ne (tgt := 41) hx hb dX5_renderEntry_13 (by decide) (fun c10 => ?_) (fun c10 => ?_)
  · replace hm := if_f c10 hm
    exact J41 0 E_li hm H locs ls hP hD hS (lv_sub hl [0, 1] rfl)
  · replace hm := if_t c10 hm
    refine lv_aload_n hx hb dX5_renderEntry_16 rfl (lv_at hl 0 rfl) ?_
    refine lv_bipush (v := 91) hx hb dX5_renderEntry_17 (by decide) ?_
    replace hm := bd_some hm
    obtain ⟨e11, hc11, hm⟩ := hm
    refine kV_v (rest := []) (ws' := (w_X5_renderEntry cI aW aW_ac aW_fa aW_in aW_yr aW_ti aS aS_ke aS_di aA aA_or aA_nu aA_li aC aL aL_sh aL_wi aL_su aL_nk aL_gr aE aE_li aE_se W_n W_ac W_fa W_in W_yr W_ti S_st S_mi S_fi S_sp S_cl S_nu S_co A_nu L_su e11.1 e11.2 E_sn)) S (c_X5_write l D cI cJ cZ cS aE aE_li aW aS aC aA aL aE_se 0 E_li E_sn 91 e11 hc11) k1 hK hP hD hS hA 11 rfl rfl rfl rfl hl.1 rfl (Nat.le_of_ble_eq_true rfl) ⟨Nat.zero_le _, Nat.zero_le _⟩ dX5_renderEntry_19 [11, 12] rfl rfl wa_X5_write (sa_eq [(aW, .inr (9, [.int W_n, .ref aW_ac, .ref aW_fa, .ref aW_in, .ref aW_yr, .ref aW_ti])), (aW_ac, .inl (cI, 8, .inl W_ac)), (aW_fa, .inl (cI, 32, .inl W_fa)), (aW_in, .inl (cI, 32, .inl W_in)), (aW_yr, .inl (cI, 8, .inl W_yr)), (aW_ti, .inl (cI, 8, .inl W_ti)), (aS, .inr (6, [.int S_st, .int S_mi, .int S_fi, .int S_sp, .int S_cl, .int S_nu, .int S_co, .ref aS_ke, .ref aS_di])), (aA, .inr (0, [.ref aA_or, .ref aA_nu, .ref aA_li, .ref aW, .ref aS, .ref aC])), (aA_nu, .inl (cI, 8, .inl A_nu)), (aL, .inr (3, [.ref aL_sh, .ref aL_wi, .ref aL_su, .ref aW, .ref aS, .ref aA, .ref aL_nk, .ref aL_gr])), (aL_su, .inl (cI, 8, .inl L_su))] [0, 1, 2, 3, 4, 5, 6, 7, 8, 9, 10] 13 rfl rfl rfl rfl rfl rfl rfl) (fun H locs hP hD hS => ?_)
    refine lv_aload_n hx hb dX5_renderEntry_22 rfl (lv_at hl 0 rfl) ?_
    refine lv_aload_n hx hb dX5_renderEntry_23 rfl (lv_at hl 0 rfl) ?_
    refine va_get (D := D) (ci := 5) (v := .ref aA) (C := RX5) (T := TX5) (N := 9) hx hb hts k3 hown hKv hP 11 rfl rfl 5 (by decide) k13 (fun _ h9 => h9) rfl dX5_renderEntry_24 ?_
    refine va_get (D := D) (ci := 0) (v := .ref aA_nu) (C := RX0) (T := TX0) (N := 6) hx hb hts k15 hown hKv hP 7 rfl rfl 1 (by decide) k14 (fun _ h9 => h9) rfl dX5_renderEntry_27 ?_
    refine lv_iload_n hx hb dX5_renderEntry_30 rfl (lv_at hl 1 rfl) ?_
    replace hm := ck_some hm
    obtain ⟨h12, hm⟩ := hm
    refine va_iald hx hb hKv hP 8 0 rfl rfl h12 dX5_renderEntry_31 ?_
    replace hm := bd_some hm
    obtain ⟨e13, hc13, hm⟩ := hm
    refine kV_v (rest := []) (ws' := (w_X5_renderEntry cI aW aW_ac aW_fa aW_in aW_yr aW_ti aS aS_ke aS_di aA aA_or aA_nu aA_li aC aL aL_sh aL_wi aL_su aL_nk aL_gr aE aE_li aE_se W_n W_ac W_fa W_in W_yr W_ti S_st S_mi S_fi S_sp S_cl S_nu S_co A_nu L_su e13.1 e13.2 E_sn)) S (c_X5_writeDigit l D cI cJ cZ cS aE aE_li aW aS aC aA aL aE_se e11.1 e11.2 E_sn (A_nu (Int32.toNatClampNeg x1)) e13 hc13) k16 hK hP hD hS hA 11 rfl rfl rfl rfl hl.1 rfl (Nat.le_of_ble_eq_true rfl) ⟨Nat.zero_le _, Nat.zero_le _⟩ dX5_renderEntry_32 [11, 12] rfl rfl wa_X5_writeDigit (sa_eq [(aW, .inr (9, [.int W_n, .ref aW_ac, .ref aW_fa, .ref aW_in, .ref aW_yr, .ref aW_ti])), (aW_ac, .inl (cI, 8, .inl W_ac)), (aW_fa, .inl (cI, 32, .inl W_fa)), (aW_in, .inl (cI, 32, .inl W_in)), (aW_yr, .inl (cI, 8, .inl W_yr)), (aW_ti, .inl (cI, 8, .inl W_ti)), (aS, .inr (6, [.int S_st, .int S_mi, .int S_fi, .int S_sp, .int S_cl, .int S_nu, .int S_co, .ref aS_ke, .ref aS_di])), (aA, .inr (0, [.ref aA_or, .ref aA_nu, .ref aA_li, .ref aW, .ref aS, .ref aC])), (aA_nu, .inl (cI, 8, .inl A_nu)), (aL, .inr (3, [.ref aL_sh, .ref aL_wi, .ref aL_su, .ref aW, .ref aS, .ref aA, .ref aL_nk, .ref aL_gr])), (aL_su, .inl (cI, 8, .inl L_su))] [0, 1, 2, 3, 4, 5, 6, 7, 8, 9, 10] 13 rfl rfl rfl rfl rfl rfl rfl) (fun H locs hP hD hS => ?_)
    refine lv_aload_n hx hb dX5_renderEntry_35 rfl (lv_at hl 0 rfl) ?_
    refine lv_bipush (v := 93) hx hb dX5_renderEntry_36 (by decide) ?_
    replace hm := bd_some hm
    obtain ⟨e14, hc14, hm⟩ := hm
    refine kV_v (rest := []) (ws' := (w_X5_renderEntry cI aW aW_ac aW_fa aW_in aW_yr aW_ti aS aS_ke aS_di aA aA_or aA_nu aA_li aC aL aL_sh aL_wi aL_su aL_nk aL_gr aE aE_li aE_se W_n W_ac W_fa W_in W_yr W_ti S_st S_mi S_fi S_sp S_cl S_nu S_co A_nu L_su e14.1 e14.2 E_sn)) S (c_X5_write l D cI cJ cZ cS aE aE_li aW aS aC aA aL aE_se e13.1 e13.2 E_sn 93 e14 hc14) k1 hK hP hD hS hA 11 rfl rfl rfl rfl hl.1 rfl (Nat.le_of_ble_eq_true rfl) ⟨Nat.zero_le _, Nat.zero_le _⟩ dX5_renderEntry_38 [11, 12] rfl rfl wa_X5_write (sa_eq [(aW, .inr (9, [.int W_n, .ref aW_ac, .ref aW_fa, .ref aW_in, .ref aW_yr, .ref aW_ti])), (aW_ac, .inl (cI, 8, .inl W_ac)), (aW_fa, .inl (cI, 32, .inl W_fa)), (aW_in, .inl (cI, 32, .inl W_in)), (aW_yr, .inl (cI, 8, .inl W_yr)), (aW_ti, .inl (cI, 8, .inl W_ti)), (aS, .inr (6, [.int S_st, .int S_mi, .int S_fi, .int S_sp, .int S_cl, .int S_nu, .int S_co, .ref aS_ke, .ref aS_di])), (aA, .inr (0, [.ref aA_or, .ref aA_nu, .ref aA_li, .ref aW, .ref aS, .ref aC])), (aA_nu, .inl (cI, 8, .inl A_nu)), (aL, .inr (3, [.ref aL_sh, .ref aL_wi, .ref aL_su, .ref aW, .ref aS, .ref aA, .ref aL_nk, .ref aL_gr])), (aL_su, .inl (cI, 8, .inl L_su))] [0, 1, 2, 3, 4, 5, 6, 7, 8, 9, 10] 13 rfl rfl rfl rfl rfl rfl rfl) (fun H locs hP hD hS => ?_)
    exact J41 e14.1 e14.2 hm H locs ls hP hD hS (lv_sub hl [0, 1] rfl)
