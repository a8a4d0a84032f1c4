def m_X8_append_J30 (T_co : Nat → Int32) (T_n : Int32) : Option ((Nat → Int32) × Int32) := some (T_co, T_n)
def m_X8_append (T_co : Nat → Int32) (T_n : Int32) (x1 : Int32) : Option ((Nat → Int32) × Int32) := if 150 ≤ T_n then (m_X8_append_J30 T_co T_n) else (ck T_n 150 (m_X8_append_J30 (upd T_co (Int32.toNatClampNeg T_n) x1) (T_n + 1)))
def m_X8_kindAt_J59 (y0 : Int32) : Option (Int32) := some y0
def m_X8_kindAt (T_co : Nat → Int32) (T_n : Int32) (x1 : Int32) : Option (Int32) := if x1 < T_n then (ck x1 150 ((m_X11_inRange (T_co (Int32.toNatClampNeg x1)) 97 122).bind fun e3 => if e3 = 0 then ((m_X11_inRange (T_co (Int32.toNatClampNeg x1)) 65 90).bind fun e5 => if e5 = 0 then ((m_X11_inRange (T_co (Int32.toNatClampNeg x1)) 48 57).bind fun e7 => if e7 = 0 then (m_X8_kindAt_J59 0) else (m_X8_kindAt_J59 3)) else (some 2)) else (some 1))) else (some 0)
def m_X8_isAuthor_J19 (y0 : Int32) : Option (Int32) := ckb y0 (some y0)
def m_X8_isAuthor_J18 : Option (Int32) := m_X8_isAuthor_J19 0
def m_X8_isAuthor (T_co : Nat → Int32) (T_n : Int32) (x1 : Int32) (x2 : Int32) : Option (Int32) := if x2 = 2 then ((m_X8_kindAt T_co T_n x1).bind fun e3 => if e3 = 2 then (m_X8_isAuthor_J19 1) else (m_X8_isAuthor_J18)) else (m_X8_isAuthor_J18)
def m_X8_isTitle_J19 (y0 : Int32) : Option (Int32) := ckb y0 (some y0)
def m_X8_isTitle_J18 : Option (Int32) := m_X8_isTitle_J19 0
def m_X8_isTitle (T_co : Nat → Int32) (T_n : Int32) (x1 : Int32) (x2 : Int32) : Option (Int32) := if x2 = 1 then ((m_X8_kindAt T_co T_n x1).bind fun e3 => if e3 = 1 then (m_X8_isTitle_J19 1) else (m_X8_isTitle_J18)) else (m_X8_isTitle_J18)
def m_X8_isWorkWord_J70 (y0 : Int32) : Option (Int32) := ckb y0 (some y0)
def m_X8_isWorkWord_J69 : Option (Int32) := m_X8_isWorkWord_J70 0
def m_X8_isWorkWord (T_co : Nat → Int32) (T_n : Int32) (x1 : Int32) (x2 : Int32) : Option (Int32) := if x2 = 4 then (if T_n < (x1 + x2) then (m_X8_isWorkWord_J69) else (ck x1 150 (if (T_co (Int32.toNatClampNeg x1)) = 119 then (ck (x1 + 1) 150 (if (T_co (Int32.toNatClampNeg (x1 + 1))) = 111 then (ck (x1 + 2) 150 (if (T_co (Int32.toNatClampNeg (x1 + 2))) = 114 then (ck (x1 + 3) 150 (if (T_co (Int32.toNatClampNeg (x1 + 3))) = 107 then (m_X8_isWorkWord_J70 1) else (m_X8_isWorkWord_J69))) else (m_X8_isWorkWord_J69))) else (m_X8_isWorkWord_J69))) else (m_X8_isWorkWord_J69)))) else (m_X8_isWorkWord_J69)
def m_X8_isYear_J19 (y0 : Int32) : Option (Int32) := ckb y0 (some y0)
def m_X8_isYear_J18 : Option (Int32) := m_X8_isYear_J19 0
def m_X8_isYear (T_co : Nat → Int32) (T_n : Int32) (x1 : Int32) (x2 : Int32) : Option (Int32) := if x2 = 2 then ((m_X8_kindAt T_co T_n x1).bind fun e3 => if e3 = 3 then (m_X8_isYear_J19 1) else (m_X8_isYear_J18)) else (m_X8_isYear_J18)
def m_X8_lexemeEnd_J31 (y0 : Int32) : Option (Int32) := some y0
def m_X8_lexemeEnd_B38 (x2 : Int32) (T_co : Nat → Int32) (T_n : Int32) (st : Int32) : Option (Int32 ⊕ Int32) := if T_n ≤ st then (some (Sum.inr st)) else ((m_X8_kindAt T_co T_n st).bind fun e6 => if e6 = x2 then (some (Sum.inl (st + 1))) else (some (Sum.inr st)))
def m_X8_lexemeEnd (T_co : Nat → Int32) (T_n : Int32) (x1 : Int32) : Option (Int32) := (m_X8_kindAt T_co T_n x1).bind fun e1 => if e1 = 2 then ((m_X8_kindAt T_co T_n (x1 + 1)).bind fun e8 => if e8 = 1 then (m_X8_lexemeEnd_J31 ((x1 + 1) + 1)) else (m_X8_lexemeEnd_J31 (x1 + 1))) else (if e1 = 0 then (some (x1 + 1)) else ((it (m_X8_lexemeEnd_B38 e1 T_co T_n) fu (x1 + 1)).bind fun e4 => some e4))
def m_X10_takesSemicolon (T_co : Nat → Int32) (R_st : Int32) (V_n : Int32) (x1 : Int32) : Option (Int32 × Int32 × Int32) := ck x1 150 (if (T_co (Int32.toNatClampNeg x1)) = 59 then (some (1, 0, (V_n + 1))) else (some (0, R_st, V_n)))
def m_X10_takesTitle (T_co : Nat → Int32) (T_n : Int32) (R_st : Int32) (V_n : Int32) (V_ti : Nat → Int32) (x1 : Int32) (x2 : Int32) : Option (Int32 × Int32 × (Nat → Int32)) := (m_X8_isTitle T_co T_n x1 x2).bind fun e1 => if e1 = 0 then (some (0, R_st, V_ti)) else (ck x1 150 (ck V_n 8 (some (1, 4, (upd V_ti (Int32.toNatClampNeg V_n) (T_co (Int32.toNatClampNeg x1)))))))
def m_X10_takesAuthor_J33 (R_st : Int32) (V_ac : Nat → Int32) (V_fa : Nat → Int32) (V_in : Nat → Int32) : Option (Int32 × Int32 × (Nat → Int32) × (Nat → Int32) × (Nat → Int32)) := some (0, R_st, V_ac, V_fa, V_in)
def m_X10_takesAuthor (T_co : Nat → Int32) (T_n : Int32) (R_st : Int32) (V_n : Int32) (V_ac : Nat → Int32) (V_fa : Nat → Int32) (V_in : Nat → Int32) (x1 : Int32) (x2 : Int32) : Option (Int32 × Int32 × (Nat → Int32) × (Nat → Int32) × (Nat → Int32)) := ck V_n 8 ((m_X8_isAuthor T_co T_n x1 x2).bind fun e2 => if e2 = 0 then (m_X10_takesAuthor_J33 R_st V_ac V_fa V_in) else (if (V_ac (Int32.toNatClampNeg V_n)) < 4 then (ck x1 150 (ck ((V_n * 4) + (V_ac (Int32.toNatClampNeg V_n))) 32 (ck (x1 + 1) 150 (ck ((V_n * 4) + (V_ac (Int32.toNatClampNeg V_n))) 32 (ck V_n 8 (some (1, 2, (upd V_ac (Int32.toNatClampNeg V_n) ((V_ac (Int32.toNatClampNeg V_n)) + 1)), (upd V_fa (Int32.toNatClampNeg ((V_n * 4) + (V_ac (Int32.toNatClampNeg V_n)))) (T_co (Int32.toNatClampNeg x1))), (upd V_in (Int32.toNatClampNeg ((V_n * 4) + (V_ac (Int32.toNatClampNeg V_n)))) (T_co (Int32.toNatClampNeg (x1 + 1))))))))))) else (m_X10_takesAuthor_J33 R_st V_ac V_fa V_in)))
def m_X10_takesYear (T_co : Nat → Int32) (T_n : Int32) (R_st : Int32) (V_n : Int32) (V_yr : Nat → Int32) (x1 : Int32) (x2 : Int32) : Option (Int32 × Int32 × (Nat → Int32)) := (m_X8_isYear T_co T_n x1 x2).bind fun e1 => if e1 = 0 then (some (0, R_st, V_yr)) else (ck x1 150 (ck (x1 + 1) 150 (ck V_n 8 (some (1, 3, (upd V_yr (Int32.toNatClampNeg V_n) (((10 * ((T_co (Int32.toNatClampNeg x1)) - 48)) + (T_co (Int32.toNatClampNeg (x1 + 1)))) - 48)))))))
def m_X10_takesWorkWord_J24 (R_st : Int32) (V_ac : Nat → Int32) : Option (Int32 × Int32 × (Nat → Int32)) := some (0, R_st, V_ac)
def m_X10_takesWorkWord (T_co : Nat → Int32) (T_n : Int32) (R_st : Int32) (V_n : Int32) (V_ac : Nat → Int32) (x1 : Int32) (x2 : Int32) : Option (Int32 × Int32 × (Nat → Int32)) := (m_X8_isWorkWord T_co T_n x1 x2).bind fun e1 => if e1 = 0 then (m_X10_takesWorkWord_J24 R_st V_ac) else (if V_n < 8 then (ck V_n 8 (some (1, 1, (upd V_ac (Int32.toNatClampNeg V_n) 0)))) else (m_X10_takesWorkWord_J24 R_st V_ac))
def m_X10_takes_J73 (y0 : Int32) (R_st : Int32) (V_n : Int32) (V_ac : Nat → Int32) (V_fa : Nat → Int32) (V_in : Nat → Int32) (V_yr : Nat → Int32) (V_ti : Nat → Int32) : Option (Int32 × Int32 × Int32 × (Nat → Int32) × (Nat → Int32) × (Nat → Int32) × (Nat → Int32) × (Nat → Int32)) := ckb y0 (some (y0, R_st, V_n, V_ac, V_fa, V_in, V_yr, V_ti))
def m_X10_takes_J68 (R_st : Int32) (V_n : Int32) (V_ac : Nat → Int32) (V_fa : Nat → Int32) (V_in : Nat → Int32) (V_yr : Nat → Int32) (V_ti : Nat → Int32) : Option (Int32 × Int32 × Int32 × (Nat → Int32) × (Nat → Int32) × (Nat → Int32) × (Nat → Int32) × (Nat → Int32)) := m_X10_takes_J73 1 R_st V_n V_ac V_fa V_in V_yr V_ti
def m_X10_takes (T_co : Nat → Int32) (T_n : Int32) (R_st : Int32) (V_n : Int32) (V_ac : Nat → Int32) (V_fa : Nat → Int32) (V_in : Nat → Int32) (V_yr : Nat → Int32) (V_ti : Nat → Int32) (x1 : Int32) (x2 : Int32) : Option (Int32 × Int32 × Int32 × (Nat → Int32) × (Nat → Int32) × (Nat → Int32) × (Nat → Int32) × (Nat → Int32)) := if R_st = 0 then ((m_X10_takesWorkWord T_co T_n R_st V_n V_ac x1 x2).bind fun e3 => ckb e3.1 (some (e3.1, e3.2.1, V_n, e3.2.2, V_fa, V_in, V_yr, V_ti))) else (if R_st = 1 then ((m_X10_takesAuthor T_co T_n R_st V_n V_ac V_fa V_in x1 x2).bind fun e6 => ckb e6.1 (some (e6.1, e6.2.1, V_n, e6.2.2.1, e6.2.2.2.1, e6.2.2.2.2, V_yr, V_ti))) else (if R_st = 2 then ((m_X10_takesAuthor T_co T_n R_st V_n V_ac V_fa V_in x1 x2).bind fun e9 => if e9.1 = 0 then ((m_X10_takesYear T_co T_n e9.2.1 V_n V_yr x1 x2).bind fun e11 => if e11.1 = 0 then (m_X10_takes_J73 0 e11.2.1 V_n e9.2.2.1 e9.2.2.2.1 e9.2.2.2.2 e11.2.2 V_ti) else (m_X10_takes_J68 e11.2.1 V_n e9.2.2.1 e9.2.2.2.1 e9.2.2.2.2 e11.2.2 V_ti)) else (m_X10_takes_J68 e9.2.1 V_n e9.2.2.1 e9.2.2.2.1 e9.2.2.2.2 V_yr V_ti)) else (if R_st = 3 then ((m_X10_takesTitle T_co T_n R_st V_n V_ti x1 x2).bind fun e14 => ckb e14.1 (some (e14.1, e14.2.1, V_n, V_ac, V_fa, V_in, V_yr, e14.2.2))) else ((m_X10_takesSemicolon T_co R_st V_n x1).bind fun e16 => ckb e16.1 (some (e16.1, e16.2.1, e16.2.2, V_ac, V_fa, V_in, V_yr, V_ti))))))
def m_X10_read_J96 (y0 : Int32) (R_st : Int32) (V_n : Int32) (V_ac : Nat → Int32) (V_fa : Nat → Int32) (V_in : Nat → Int32) (V_yr : Nat → Int32) (V_ti : Nat → Int32) : Option (Int32 × Int32 × Int32 × (Nat → Int32) × (Nat → Int32) × (Nat → Int32) × (Nat → Int32) × (Nat → Int32)) := some (y0, R_st, V_n, V_ac, V_fa, V_in, V_yr, V_ti)
def m_X10_read_J72 (x1 : Int32) (x2 : Int32) (R_st : Int32) (V_n : Int32) (V_ac : Nat → Int32) (V_fa : Nat → Int32) (V_in : Nat → Int32) (V_yr : Nat → Int32) (V_ti : Nat → Int32) : Option ((Int32 × Int32 × Int32 × Int32 × (Nat → Int32) × (Nat → Int32) × (Nat → Int32) × (Nat → Int32) × (Nat → Int32)) ⊕ ((Int32 × Int32 × Int32 × (Nat → Int32) × (Nat → Int32) × (Nat → Int32) × (Nat → Int32) × (Nat → Int32)) ⊕ (Int32 × Int32 × (Nat → Int32) × (Nat → Int32) × (Nat → Int32) × (Nat → Int32) × (Nat → Int32)))) := some (Sum.inl (x1, (x2 + 1), R_st, V_n, V_ac, V_fa, V_in, V_yr, V_ti))
def m_X10_read_B17 (T_co : Nat → Int32) (T_n : Int32) (st : Int32 × Int32 × Int32 × Int32 × (Nat → Int32) × (Nat → Int32) × (Nat → Int32) × (Nat → Int32) × (Nat → Int32)) : Option ((Int32 × Int32 × Int32 × Int32 × (Nat → Int32) × (Nat → Int32) × (Nat → Int32) × (Nat → Int32) × (Nat → Int32)) ⊕ ((Int32 × Int32 × Int32 × (Nat → Int32) × (Nat → Int32) × (Nat → Int32) × (Nat → Int32) × (Nat → Int32)) ⊕ (Int32 × Int32 × (Nat → Int32) × (Nat → Int32) × (Nat → Int32) × (Nat → Int32) × (Nat → Int32)))) := if T_n ≤ st.2.1 then (some (Sum.inr (Sum.inr ((st.2.2.1, st.2.2.2.1, st.2.2.2.2.1, st.2.2.2.2.2.1, st.2.2.2.2.2.2.1, st.2.2.2.2.2.2.2.1, st.2.2.2.2.2.2.2.2))))) else (if st.2.1 < st.1 then (m_X10_read_J72 st.1 st.2.1 st.2.2.1 st.2.2.2.1 st.2.2.2.2.1 st.2.2.2.2.2.1 st.2.2.2.2.2.2.1 st.2.2.2.2.2.2.2.1 st.2.2.2.2.2.2.2.2) else (ck st.2.1 150 (if (T_co (Int32.toNatClampNeg st.2.1)) = 32 then (m_X10_read_J72 st.1 st.2.1 st.2.2.1 st.2.2.2.1 st.2.2.2.2.1 st.2.2.2.2.2.1 st.2.2.2.2.2.2.1 st.2.2.2.2.2.2.2.1 st.2.2.2.2.2.2.2.2) else ((m_X8_lexemeEnd T_co T_n st.2.1).bind fun e7 => (m_X10_takes T_co T_n st.2.2.1 st.2.2.2.1 st.2.2.2.2.1 st.2.2.2.2.2.1 st.2.2.2.2.2.2.1 st.2.2.2.2.2.2.2.1 st.2.2.2.2.2.2.2.2 st.2.1 (e7 - st.2.1)).bind fun e8 => if e8.1 = 0 then (some (Sum.inr (Sum.inl (st.2.1, e8.2.1, e8.2.2.1, e8.2.2.2.1, e8.2.2.2.2.1, e8.2.2.2.2.2.1, e8.2.2.2.2.2.2.1, e8.2.2.2.2.2.2.2)))) else (m_X10_read_J72 e7 st.2.1 e8.2.1 e8.2.2.1 e8.2.2.2.1 e8.2.2.2.2.1 e8.2.2.2.2.2.1 e8.2.2.2.2.2.2.1 e8.2.2.2.2.2.2.2)))))
def m_X10_read (T_co : Nat → Int32) (T_n : Int32) (R_st : Int32) (V_n : Int32) (V_ac : Nat → Int32) (V_fa : Nat → Int32) (V_in : Nat → Int32) (V_yr : Nat → Int32) (V_ti : Nat → Int32) : Option (Int32 × Int32 × Int32 × (Nat → Int32) × (Nat → Int32) × (Nat → Int32) × (Nat → Int32) × (Nat → Int32)) := (it (m_X10_read_B17 T_co T_n) fu (0, 0, 0, 0, V_ac, V_fa, V_in, V_yr, V_ti)).bind (Sum.elim (fun v1_0 => some (v1_0.1, v1_0.2.1, v1_0.2.2.1, v1_0.2.2.2.1, v1_0.2.2.2.2.1, v1_0.2.2.2.2.2.1, v1_0.2.2.2.2.2.2.1, v1_0.2.2.2.2.2.2.2)) (fun v1_1 => if v1_1.1 = 0 then (m_X10_read_J96 (-1) v1_1.1 v1_1.2.1 v1_1.2.2.1 v1_1.2.2.2.1 v1_1.2.2.2.2.1 v1_1.2.2.2.2.2.1 v1_1.2.2.2.2.2.2) else (m_X10_read_J96 T_n v1_1.1 v1_1.2.1 v1_1.2.2.1 v1_1.2.2.2.1 v1_1.2.2.2.2.1 v1_1.2.2.2.2.2.1 v1_1.2.2.2.2.2.2)))
def m_X4_takesItemEnd_J26 (y0 : Int32) (N_st : Int32) : Option (Int32 × Int32) := some (1, y0)
def m_X4_takesItemEnd_J14 (x1 : Int32) (N_st : Int32) : Option (Int32 × Int32) := if x1 = 44 then (m_X4_takesItemEnd_J26 1 N_st) else (m_X4_takesItemEnd_J26 5 N_st)
def m_X4_takesItemEnd (N_st : Int32) (x1 : Int32) : Option (Int32 × Int32) := if x1 = 44 then (m_X4_takesItemEnd_J14 x1 N_st) else (if x1 = 93 then (m_X4_takesItemEnd_J14 x1 N_st) else (some (0, N_st)))
def m_X4_takesLast_B26 (x1 : Int32) (st : Int32 × Int32) : Option ((Int32 × Int32) ⊕ Int32) := if x1 < st.1 then (some (Sum.inr st.2)) else (some (Sum.inl ((st.1 + 1), (st.2 ||| (1 <<< (st.1 &&& 31))))))
def m_X4_takesLast (N_fo : Int32) (N_st : Int32) (N_gr : Int32) (N_fi : Int32) (x1 : Int32) : Option (Int32 × Int32 × Int32) := (m_X11_inRange x1 (N_fi + 1) N_gr).bind fun e1 => if e1 = 0 then (some (0, N_fo, N_st)) else ((it (m_X4_takesLast_B26 x1) fu ((N_fi + 1), N_fo)).bind fun e3 => some (1, e3, 4))
def m_X4_takesHyphen (N_st : Int32) (x1 : Int32) : Option (Int32 × Int32) := if x1 = 45 then (some (1, 3)) else (some (0, N_st))
def m_X4_takesFirst (N_fo : Int32) (N_st : Int32) (N_gr : Int32) (N_fi : Int32) (x1 : Int32) : Option (Int32 × Int32 × Int32 × Int32) := (m_X11_inRange x1 1 N_gr).bind fun e1 => if e1 = 0 then (some (0, N_fo, N_st, N_fi)) else (some (1, (N_fo ||| (1 <<< (x1 &&& 31))), 2, x1))
def m_X4_takes_J56 (y0 : Int32) (N_fo : Int32) (N_st : Int32) (N_fi : Int32) : Option (Int32 × Int32 × Int32 × Int32) := ckb y0 (some (y0, N_fo, N_st, N_fi))
def m_X4_takes_J87 (y0 : Int32) (N_fo : Int32) (N_st : Int32) (N_fi : Int32) : Option (Int32 × Int32 × Int32 × Int32) := ckb y0 (some (y0, N_fo, N_st, N_fi))
def m_X4_takes_J82 (N_fo : Int32) (N_st : Int32) (N_fi : Int32) : Option (Int32 × Int32 × Int32 × Int32) := m_X4_takes_J87 1 N_fo N_st N_fi
def m_X4_takes (N_fo : Int32) (N_st : Int32) (N_gr : Int32) (N_fi : Int32) (x1 : Int32) : Option (Int32 × Int32 × Int32 × Int32) := if N_st = 0 then (if x1 = 91 then (m_X4_takes_J56 1 N_fo 1 N_fi) else (m_X4_takes_J56 0 N_fo 1 N_fi)) else (if N_st = 1 then ((m_X4_takesFirst N_fo N_st N_gr N_fi (x1 - 48)).bind fun e6 => ckb e6.1 (some (e6.1, e6.2.1, e6.2.2.1, e6.2.2.2))) else (if N_st = 2 then ((m_X4_takesHyphen N_st x1).bind fun e9 => if e9.1 = 0 then ((m_X4_takesItemEnd e9.2 x1).bind fun e11 => if e11.1 = 0 then (m_X4_takes_J87 0 N_fo e11.2 N_fi) else (m_X4_takes_J82 N_fo e11.2 N_fi)) else (m_X4_takes_J82 N_fo e9.2 N_fi)) else (if N_st = 3 then ((m_X4_takesLast N_fo N_st N_gr N_fi (x1 - 48)).bind fun e14 => ckb e14.1 (some (e14.1, e14.2.1, e14.2.2, N_fi))) else (if N_st = 4 then ((m_X4_takesItemEnd N_st x1).bind fun e17 => ckb e17.1 (some (e17.1, N_fo, e17.2, N_fi))) else (some (0, N_fo, N_st, N_fi))))))
def m_X4_read_J71 (y0 : Int32) (N_fo : Int32) (N_st : Int32) (N_gr : Int32) (N_fi : Int32) : Option (Int32 × Int32 × Int32 × Int32 × Int32) := some (y0, N_fo, N_st, N_gr, N_fi)
def m_X4_read_B17 (T_co : Nat → Int32) (T_n : Int32) (N_gr : Int32) (st : Int32 × Int32 × Int32 × Int32) : Option ((Int32 × Int32 × Int32 × Int32) ⊕ ((Int32 × Int32 × Int32 × Int32) ⊕ (Int32 × Int32 × Int32))) := if T_n ≤ st.1 then (some (Sum.inr (Sum.inr ((st.2.1, st.2.2.1, st.2.2.2))))) else (ck st.1 150 ((m_X4_takes st.2.1 st.2.2.1 N_gr st.2.2.2 (T_co (Int32.toNatClampNeg st.1))).bind fun e5 => if e5.1 = 0 then (some (Sum.inr (Sum.inl (st.1, e5.2.1, e5.2.2.1, e5.2.2.2)))) else (some (Sum.inl ((st.1 + 1), e5.2.1, e5.2.2.1, e5.2.2.2)))))
def m_X4_read (T_co : Nat → Int32) (T_n : Int32) (N_fo : Int32) (N_st : Int32) (N_gr : Int32) (N_fi : Int32) (x1 : Int32) : Option (Int32 × Int32 × Int32 × Int32 × Int32) := (it (m_X4_read_B17 T_co T_n x1) fu (0, 0, 0, N_fi)).bind (Sum.elim (fun v1_0 => some (v1_0.1, v1_0.2.1, v1_0.2.2.1, x1, v1_0.2.2.2)) (fun v1_1 => if v1_1.2.1 = 5 then (m_X4_read_J71 (-1) v1_1.1 v1_1.2.1 x1 v1_1.2.2) else (m_X4_read_J71 T_n v1_1.1 v1_1.2.1 x1 v1_1.2.2)))
def w_X8_append (cI : ClassId) (aT aT_co : Nat) (T_co : Nat → Int32) (T_n : Int32) : va_W := [(aT, .inr (8, [.ref aT_co, .int T_n])), (aT_co, .inl (cI, 150, .inl T_co))]
theorem wa_X8_append {cI : ClassId} {aT aT_co : Nat} {T_co T_co' : Nat → Int32} {T_n T_n' : Int32} : (w_X8_append cI aT aT_co T_co' T_n').map Prod.fst = (w_X8_append cI aT aT_co T_co T_n).map Prod.fst := rfl
abbrev rm_X8_append : Room := { frames := 0, cells := 0, slots := 0, locals := 0 }
def w_X8_kindAt (cI : ClassId) (aT aT_co : Nat) (T_co : Nat → Int32) (T_n : Int32) : va_W := [(aT, .inr (8, [.ref aT_co, .int T_n])), (aT_co, .inl (cI, 150, .inl T_co))]
theorem wa_X8_kindAt {cI : ClassId} {aT aT_co : Nat} {T_co T_co' : Nat → Int32} {T_n T_n' : Int32} : (w_X8_kindAt cI aT aT_co T_co' T_n').map Prod.fst = (w_X8_kindAt cI aT aT_co T_co T_n).map Prod.fst := rfl
abbrev rm_X8_kindAt : Room := { frames := 1, cells := 0, slots := 0, locals := 22 }
def w_X8_isAuthor (cI : ClassId) (aT aT_co : Nat) (T_co : Nat → Int32) (T_n : Int32) : va_W := [(aT, .inr (8, [.ref aT_co, .int T_n])), (aT_co, .inl (cI, 150, .inl T_co))]
theorem wa_X8_isAuthor {cI : ClassId} {aT aT_co : Nat} {T_co T_co' : Nat → Int32} {T_n T_n' : Int32} : (w_X8_isAuthor cI aT aT_co T_co' T_n').map Prod.fst = (w_X8_isAuthor cI aT aT_co T_co T_n).map Prod.fst := rfl
abbrev rm_X8_isAuthor : Room := { frames := 2, cells := 0, slots := 0, locals := 44 }
def w_X8_isTitle (cI : ClassId) (aT aT_co : Nat) (T_co : Nat → Int32) (T_n : Int32) : va_W := [(aT, .inr (8, [.ref aT_co, .int T_n])), (aT_co, .inl (cI, 150, .inl T_co))]
theorem wa_X8_isTitle {cI : ClassId} {aT aT_co : Nat} {T_co T_co' : Nat → Int32} {T_n T_n' : Int32} : (w_X8_isTitle cI aT aT_co T_co' T_n').map Prod.fst = (w_X8_isTitle cI aT aT_co T_co T_n).map Prod.fst := rfl
abbrev rm_X8_isTitle : Room := { frames := 2, cells := 0, slots := 0, locals := 44 }
def w_X8_isWorkWord (cI : ClassId) (aT aT_co : Nat) (T_co : Nat → Int32) (T_n : Int32) : va_W := [(aT, .inr (8, [.ref aT_co, .int T_n])), (aT_co, .inl (cI, 150, .inl T_co))]
theorem wa_X8_isWorkWord {cI : ClassId} {aT aT_co : Nat} {T_co T_co' : Nat → Int32} {T_n T_n' : Int32} : (w_X8_isWorkWord cI aT aT_co T_co' T_n').map Prod.fst = (w_X8_isWorkWord cI aT aT_co T_co T_n).map Prod.fst := rfl
abbrev rm_X8_isWorkWord : Room := { frames := 0, cells := 0, slots := 0, locals := 0 }
def w_X8_isYear (cI : ClassId) (aT aT_co : Nat) (T_co : Nat → Int32) (T_n : Int32) : va_W := [(aT, .inr (8, [.ref aT_co, .int T_n])), (aT_co, .inl (cI, 150, .inl T_co))]
theorem wa_X8_isYear {cI : ClassId} {aT aT_co : Nat} {T_co T_co' : Nat → Int32} {T_n T_n' : Int32} : (w_X8_isYear cI aT aT_co T_co' T_n').map Prod.fst = (w_X8_isYear cI aT aT_co T_co T_n).map Prod.fst := rfl
abbrev rm_X8_isYear : Room := { frames := 2, cells := 0, slots := 0, locals := 44 }
def w_X8_lexemeEnd (cI : ClassId) (aT aT_co : Nat) (T_co : Nat → Int32) (T_n : Int32) : va_W := [(aT, .inr (8, [.ref aT_co, .int T_n])), (aT_co, .inl (cI, 150, .inl T_co))]
theorem wa_X8_lexemeEnd {cI : ClassId} {aT aT_co : Nat} {T_co T_co' : Nat → Int32} {T_n T_n' : Int32} : (w_X8_lexemeEnd cI aT aT_co T_co' T_n').map Prod.fst = (w_X8_lexemeEnd cI aT aT_co T_co T_n).map Prod.fst := rfl
abbrev rm_X8_lexemeEnd : Room := { frames := 2, cells := 0, slots := 0, locals := 44 }
def w_X10_takesSemicolon (cI : ClassId) (aT aT_co aR aV aV_ac aV_fa aV_in aV_yr aV_ti : Nat) (T_co : Nat → Int32) (T_n : Int32) (R_st : Int32) (V_n : Int32) : va_W := [(aT, .inr (8, [.ref aT_co, .int T_n])), (aT_co, .inl (cI, 150, .inl T_co)), (aR, .inr (10, [.ref aV, .ref aT, .int R_st])), (aV, .inr (9, [.int V_n, .ref aV_ac, .ref aV_fa, .ref aV_in, .ref aV_yr, .ref aV_ti]))]
theorem wa_X10_takesSemicolon {cI : ClassId} {aT aT_co aR aV aV_ac aV_fa aV_in aV_yr aV_ti : Nat} {T_co T_co' : Nat → Int32} {T_n T_n' : Int32} {R_st R_st' : Int32} {V_n V_n' : Int32} : (w_X10_takesSemicolon cI aT aT_co aR aV aV_ac aV_fa aV_in aV_yr aV_ti T_co' T_n' R_st' V_n').map Prod.fst = (w_X10_takesSemicolon cI aT aT_co aR aV aV_ac aV_fa aV_in aV_yr aV_ti T_co T_n R_st V_n).map Prod.fst := rfl
abbrev rm_X10_takesSemicolon : Room := { frames := 0, cells := 0, slots := 0, locals := 0 }
def w_X10_takesTitle (cI : ClassId) (aT aT_co aR aV aV_ac aV_fa aV_in aV_yr aV_ti : Nat) (T_co : Nat → Int32) (T_n : Int32) (R_st : Int32) (V_n : Int32) (V_ti : Nat → Int32) : va_W := [(aT, .inr (8, [.ref aT_co, .int T_n])), (aT_co, .inl (cI, 150, .inl T_co)), (aR, .inr (10, [.ref aV, .ref aT, .int R_st])), (aV, .inr (9, [.int V_n, .ref aV_ac, .ref aV_fa, .ref aV_in, .ref aV_yr, .ref aV_ti])), (aV_ti, .inl (cI, 8, .inl V_ti))]
theorem wa_X10_takesTitle {cI : ClassId} {aT aT_co aR aV aV_ac aV_fa aV_in aV_yr aV_ti : Nat} {T_co T_co' : Nat → Int32} {T_n T_n' : Int32} {R_st R_st' : Int32} {V_n V_n' : Int32} {V_ti V_ti' : Nat → Int32} : (w_X10_takesTitle cI aT aT_co aR aV aV_ac aV_fa aV_in aV_yr aV_ti T_co' T_n' R_st' V_n' V_ti').map Prod.fst = (w_X10_takesTitle cI aT aT_co aR aV aV_ac aV_fa aV_in aV_yr aV_ti T_co T_n R_st V_n V_ti).map Prod.fst := rfl
abbrev rm_X10_takesTitle : Room := { frames := 3, cells := 0, slots := 0, locals := 66 }
def w_X10_takesAuthor (cI : ClassId) (aT aT_co aR aV aV_ac aV_fa aV_in aV_yr aV_ti : Nat) (T_co : Nat → Int32) (T_n : Int32) (R_st : Int32) (V_n : Int32) (V_ac : Nat → Int32) (V_fa : Nat → Int32) (V_in : Nat → Int32) : va_W := [(aT, .inr (8, [.ref aT_co, .int T_n])), (aT_co, .inl (cI, 150, .inl T_co)), (aR, .inr (10, [.ref aV, .ref aT, .int R_st])), (aV, .inr (9, [.int V_n, .ref aV_ac, .ref aV_fa, .ref aV_in, .ref aV_yr, .ref aV_ti])), (aV_ac, .inl (cI, 8, .inl V_ac)), (aV_fa, .inl (cI, 32, .inl V_fa)), (aV_in, .inl (cI, 32, .inl V_in))]
theorem wa_X10_takesAuthor {cI : ClassId} {aT aT_co aR aV aV_ac aV_fa aV_in aV_yr aV_ti : Nat} {T_co T_co' : Nat → Int32} {T_n T_n' : Int32} {R_st R_st' : Int32} {V_n V_n' : Int32} {V_ac V_ac' : Nat → Int32} {V_fa V_fa' : Nat → Int32} {V_in V_in' : Nat → Int32} : (w_X10_takesAuthor cI aT aT_co aR aV aV_ac aV_fa aV_in aV_yr aV_ti T_co' T_n' R_st' V_n' V_ac' V_fa' V_in').map Prod.fst = (w_X10_takesAuthor cI aT aT_co aR aV aV_ac aV_fa aV_in aV_yr aV_ti T_co T_n R_st V_n V_ac V_fa V_in).map Prod.fst := rfl
abbrev rm_X10_takesAuthor : Room := { frames := 3, cells := 0, slots := 0, locals := 66 }
def w_X10_takesYear (cI : ClassId) (aT aT_co aR aV aV_ac aV_fa aV_in aV_yr aV_ti : Nat) (T_co : Nat → Int32) (T_n : Int32) (R_st : Int32) (V_n : Int32) (V_yr : Nat → Int32) : va_W := [(aT, .inr (8, [.ref aT_co, .int T_n])), (aT_co, .inl (cI, 150, .inl T_co)), (aR, .inr (10, [.ref aV, .ref aT, .int R_st])), (aV, .inr (9, [.int V_n, .ref aV_ac, .ref aV_fa, .ref aV_in, .ref aV_yr, .ref aV_ti])), (aV_yr, .inl (cI, 8, .inl V_yr))]
theorem wa_X10_takesYear {cI : ClassId} {aT aT_co aR aV aV_ac aV_fa aV_in aV_yr aV_ti : Nat} {T_co T_co' : Nat → Int32} {T_n T_n' : Int32} {R_st R_st' : Int32} {V_n V_n' : Int32} {V_yr V_yr' : Nat → Int32} : (w_X10_takesYear cI aT aT_co aR aV aV_ac aV_fa aV_in aV_yr aV_ti T_co' T_n' R_st' V_n' V_yr').map Prod.fst = (w_X10_takesYear cI aT aT_co aR aV aV_ac aV_fa aV_in aV_yr aV_ti T_co T_n R_st V_n V_yr).map Prod.fst := rfl
abbrev rm_X10_takesYear : Room := { frames := 3, cells := 0, slots := 0, locals := 66 }
def w_X10_takesWorkWord (cI : ClassId) (aT aT_co aR aV aV_ac aV_fa aV_in aV_yr aV_ti : Nat) (T_co : Nat → Int32) (T_n : Int32) (R_st : Int32) (V_n : Int32) (V_ac : Nat → Int32) : va_W := [(aT, .inr (8, [.ref aT_co, .int T_n])), (aT_co, .inl (cI, 150, .inl T_co)), (aR, .inr (10, [.ref aV, .ref aT, .int R_st])), (aV, .inr (9, [.int V_n, .ref aV_ac, .ref aV_fa, .ref aV_in, .ref aV_yr, .ref aV_ti])), (aV_ac, .inl (cI, 8, .inl V_ac))]
theorem wa_X10_takesWorkWord {cI : ClassId} {aT aT_co aR aV aV_ac aV_fa aV_in aV_yr aV_ti : Nat} {T_co T_co' : Nat → Int32} {T_n T_n' : Int32} {R_st R_st' : Int32} {V_n V_n' : Int32} {V_ac V_ac' : Nat → Int32} : (w_X10_takesWorkWord cI aT aT_co aR aV aV_ac aV_fa aV_in aV_yr aV_ti T_co' T_n' R_st' V_n' V_ac').map Prod.fst = (w_X10_takesWorkWord cI aT aT_co aR aV aV_ac aV_fa aV_in aV_yr aV_ti T_co T_n R_st V_n V_ac).map Prod.fst := rfl
abbrev rm_X10_takesWorkWord : Room := { frames := 1, cells := 0, slots := 0, locals := 22 }
def w_X10_takes (cI : ClassId) (aT aT_co aR aV aV_ac aV_fa aV_in aV_yr aV_ti : Nat) (T_co : Nat → Int32) (T_n : Int32) (R_st : Int32) (V_n : Int32) (V_ac : Nat → Int32) (V_fa : Nat → Int32) (V_in : Nat → Int32) (V_yr : Nat → Int32) (V_ti : Nat → Int32) : va_W := [(aT, .inr (8, [.ref aT_co, .int T_n])), (aT_co, .inl (cI, 150, .inl T_co)), (aR, .inr (10, [.ref aV, .ref aT, .int R_st])), (aV, .inr (9, [.int V_n, .ref aV_ac, .ref aV_fa, .ref aV_in, .ref aV_yr, .ref aV_ti])), (aV_ac, .inl (cI, 8, .inl V_ac)), (aV_fa, .inl (cI, 32, .inl V_fa)), (aV_in, .inl (cI, 32, .inl V_in)), (aV_yr, .inl (cI, 8, .inl V_yr)), (aV_ti, .inl (cI, 8, .inl V_ti))]
theorem wa_X10_takes {cI : ClassId} {aT aT_co aR aV aV_ac aV_fa aV_in aV_yr aV_ti : Nat} {T_co T_co' : Nat → Int32} {T_n T_n' : Int32} {R_st R_st' : Int32} {V_n V_n' : Int32} {V_ac V_ac' : Nat → Int32} {V_fa V_fa' : Nat → Int32} {V_in V_in' : Nat → Int32} {V_yr V_yr' : Nat → Int32} {V_ti V_ti' : Nat → Int32} : (w_X10_takes cI aT aT_co aR aV aV_ac aV_fa aV_in aV_yr aV_ti T_co' T_n' R_st' V_n' V_ac' V_fa' V_in' V_yr' V_ti').map Prod.fst = (w_X10_takes cI aT aT_co aR aV aV_ac aV_fa aV_in aV_yr aV_ti T_co T_n R_st V_n V_ac V_fa V_in V_yr V_ti).map Prod.fst := rfl
abbrev rm_X10_takes : Room := { frames := 4, cells := 0, slots := 0, locals := 90 }
def w_X10_read (cI : ClassId) (aT aT_co aR aV aV_ac aV_fa aV_in aV_yr aV_ti : Nat) (T_co : Nat → Int32) (T_n : Int32) (R_st : Int32) (V_n : Int32) (V_ac : Nat → Int32) (V_fa : Nat → Int32) (V_in : Nat → Int32) (V_yr : Nat → Int32) (V_ti : Nat → Int32) : va_W := [(aT, .inr (8, [.ref aT_co, .int T_n])), (aT_co, .inl (cI, 150, .inl T_co)), (aR, .inr (10, [.ref aV, .ref aT, .int R_st])), (aV, .inr (9, [.int V_n, .ref aV_ac, .ref aV_fa, .ref aV_in, .ref aV_yr, .ref aV_ti])), (aV_ac, .inl (cI, 8, .inl V_ac)), (aV_fa, .inl (cI, 32, .inl V_fa)), (aV_in, .inl (cI, 32, .inl V_in)), (aV_yr, .inl (cI, 8, .inl V_yr)), (aV_ti, .inl (cI, 8, .inl V_ti))]
theorem wa_X10_read {cI : ClassId} {aT aT_co aR aV aV_ac aV_fa aV_in aV_yr aV_ti : Nat} {T_co T_co' : Nat → Int32} {T_n T_n' : Int32} {R_st R_st' : Int32} {V_n V_n' : Int32} {V_ac V_ac' : Nat → Int32} {V_fa V_fa' : Nat → Int32} {V_in V_in' : Nat → Int32} {V_yr V_yr' : Nat → Int32} {V_ti V_ti' : Nat → Int32} : (w_X10_read cI aT aT_co aR aV aV_ac aV_fa aV_in aV_yr aV_ti T_co' T_n' R_st' V_n' V_ac' V_fa' V_in' V_yr' V_ti').map Prod.fst = (w_X10_read cI aT aT_co aR aV aV_ac aV_fa aV_in aV_yr aV_ti T_co T_n R_st V_n V_ac V_fa V_in V_yr V_ti).map Prod.fst := rfl
abbrev rm_X10_read : Room := { frames := 5, cells := 0, slots := 0, locals := 112 }
def w_X4_takesItemEnd (aN aT : Nat) (N_fo : Int32) (N_st : Int32) (N_gr : Int32) (N_fi : Int32) : va_W := [(aN, .inr (4, [.int N_fo, .ref aT, .int N_st, .int N_gr, .int N_fi]))]
theorem wa_X4_takesItemEnd {aN aT : Nat} {N_fo N_fo' : Int32} {N_st N_st' : Int32} {N_gr N_gr' : Int32} {N_fi N_fi' : Int32} : (w_X4_takesItemEnd aN aT N_fo' N_st' N_gr' N_fi').map Prod.fst = (w_X4_takesItemEnd aN aT N_fo N_st N_gr N_fi).map Prod.fst := rfl
abbrev rm_X4_takesItemEnd : Room := { frames := 0, cells := 0, slots := 0, locals := 0 }
def w_X4_takesLast (aN aT : Nat) (N_fo : Int32) (N_st : Int32) (N_gr : Int32) (N_fi : Int32) : va_W := [(aN, .inr (4, [.int N_fo, .ref aT, .int N_st, .int N_gr, .int N_fi]))]
theorem wa_X4_takesLast {aN aT : Nat} {N_fo N_fo' : Int32} {N_st N_st' : Int32} {N_gr N_gr' : Int32} {N_fi N_fi' : Int32} : (w_X4_takesLast aN aT N_fo' N_st' N_gr' N_fi').map Prod.fst = (w_X4_takesLast aN aT N_fo N_st N_gr N_fi).map Prod.fst := rfl
abbrev rm_X4_takesLast : Room := { frames := 1, cells := 0, slots := 0, locals := 22 }
def w_X4_takesHyphen (aN aT : Nat) (N_fo : Int32) (N_st : Int32) (N_gr : Int32) (N_fi : Int32) : va_W := [(aN, .inr (4, [.int N_fo, .ref aT, .int N_st, .int N_gr, .int N_fi]))]
theorem wa_X4_takesHyphen {aN aT : Nat} {N_fo N_fo' : Int32} {N_st N_st' : Int32} {N_gr N_gr' : Int32} {N_fi N_fi' : Int32} : (w_X4_takesHyphen aN aT N_fo' N_st' N_gr' N_fi').map Prod.fst = (w_X4_takesHyphen aN aT N_fo N_st N_gr N_fi).map Prod.fst := rfl
abbrev rm_X4_takesHyphen : Room := { frames := 0, cells := 0, slots := 0, locals := 0 }
def w_X4_takesFirst (aN aT : Nat) (N_fo : Int32) (N_st : Int32) (N_gr : Int32) (N_fi : Int32) : va_W := [(aN, .inr (4, [.int N_fo, .ref aT, .int N_st, .int N_gr, .int N_fi]))]
theorem wa_X4_takesFirst {aN aT : Nat} {N_fo N_fo' : Int32} {N_st N_st' : Int32} {N_gr N_gr' : Int32} {N_fi N_fi' : Int32} : (w_X4_takesFirst aN aT N_fo' N_st' N_gr' N_fi').map Prod.fst = (w_X4_takesFirst aN aT N_fo N_st N_gr N_fi).map Prod.fst := rfl
abbrev rm_X4_takesFirst : Room := { frames := 1, cells := 0, slots := 0, locals := 22 }
def w_X4_takes (aN aT : Nat) (N_fo : Int32) (N_st : Int32) (N_gr : Int32) (N_fi : Int32) : va_W := [(aN, .inr (4, [.int N_fo, .ref aT, .int N_st, .int N_gr, .int N_fi]))]
theorem wa_X4_takes {aN aT : Nat} {N_fo N_fo' : Int32} {N_st N_st' : Int32} {N_gr N_gr' : Int32} {N_fi N_fi' : Int32} : (w_X4_takes aN aT N_fo' N_st' N_gr' N_fi').map Prod.fst = (w_X4_takes aN aT N_fo N_st N_gr N_fi).map Prod.fst := rfl
abbrev rm_X4_takes : Room := { frames := 2, cells := 0, slots := 0, locals := 44 }
def w_X4_read (cI : ClassId) (aT aT_co aN : Nat) (T_co : Nat → Int32) (T_n : Int32) (N_fo : Int32) (N_st : Int32) (N_gr : Int32) (N_fi : Int32) : va_W := [(aT, .inr (8, [.ref aT_co, .int T_n])), (aT_co, .inl (cI, 150, .inl T_co)), (aN, .inr (4, [.int N_fo, .ref aT, .int N_st, .int N_gr, .int N_fi]))]
theorem wa_X4_read {cI : ClassId} {aT aT_co aN : Nat} {T_co T_co' : Nat → Int32} {T_n T_n' : Int32} {N_fo N_fo' : Int32} {N_st N_st' : Int32} {N_gr N_gr' : Int32} {N_fi N_fi' : Int32} : (w_X4_read cI aT aT_co aN T_co' T_n' N_fo' N_st' N_gr' N_fi').map Prod.fst = (w_X4_read cI aT aT_co aN T_co T_n N_fo N_st N_gr N_fi).map Prod.fst := rfl
abbrev rm_X4_read : Room := { frames := 3, cells := 0, slots := 0, locals := 65 }
set_option maxHeartbeats 4000000 in
set_option maxRecDepth 100000 in
theorem c_X8_append (l : Launch) (D : va_G) (cI cJ cZ cS : ClassId) (aT aT_co : Nat) (T_co : Nat → Int32) (T_n : Int32) (x1 : Int32) (o : (Nat → Int32) × Int32) (hm : m_X8_append T_co T_n x1 = some o) : MV l yX8_append wsX8_append rm_X8_append D (TY cI cJ cZ cS) [.ref aT, .int x1] (w_X8_append cI aT aT_co T_co T_n) (w_X8_append cI aT aT_co o.1 o.2) := by
  refine MV_of (cc := cX8_append) (maxL := 2) (by decide) rfl (Nat.le_of_ble_eq_true rfl) ?_
  intro p e s m args below meth c A Q ls H locs hx hb hml hts hown hK hA hP hD hS hl hret
  have hown : s.vm.findClass RX8 = some m.cls := hown
  have hKv : va_K D vwCl (TY cI cJ cZ cS) s := hK.1
  have hl : lv_has ls 2 [(0, .ref aT), (1, .int x1)] := hl
  have S : CallFix p m c cX8_append 2 s args wsX8_append RX8 := ⟨hx, hb, hml, hown, hts⟩
  have k1 := hts (.fieldLink RX8 15 "CitationFormatter$Text" "length" "I") (by decide +kernel)
  have k2 : ∀ w ∈ wsX80, w ∈ wsX8_append := by decide +kernel
  have k3 := hts (.fieldLink RX8 9 "CitationFormatter$Text" "codes" "[I") (by decide +kernel)
  have J30 : ∀ (T_co_j30 : Nat → Int32) (T_n_j30 : Int32), (m_X8_append_J30 T_co_j30 T_n_j30 = some o) → ∀ (H : Heap) (locs : List Loc) (ls : Array Slot), va_P D vwCl (w_X8_append cI aT aT_co T_co_j30 T_n_j30) H → va_D A (w_X8_append cI aT aT_co T_co_j30 T_n_j30) → va_S A s.heap H locs → lv_has ls 2 [(0, .ref aT)] → W p l e rm_X8_append s m args below meth c H locs 0 0 Q (F0 m 30 ls []) := by
    intro T_co_j30 T_n_j30 hm H locs ls hP hD hS hl
    have h9 := Option.some.inj hm
    subst h9
    exact hret H locs _ ls hP hD hS dX8_append_30
  refine lv_aload_n hx hb dX8_append_0 rfl (lv_at hl 0 rfl) ?_
  refine va_get (D := D) (ci := 8) (v := .int T_n) (C := RX8) (T := TX8) (N := 2) hx hb hts k2 hown hKv hP 0 rfl rfl 1 (by decide) k1 (fun _ h9 => h9) rfl dX8_append_1 ?_
  refine lv_sipush (v := 150) hx hb dX8_append_4 (by decide) ?_
  refine lv_icmp_ge (tgt := 30) hx hb dX8_append_7 (by decide) (fun c1 => ?_) (fun c1 => ?_)
  · replace hm := if_t c1 hm
    exact J30 T_co T_n hm H locs ls hP hD hS (lv_sub hl [0] rfl)
  · replace hm := if_f c1 hm
    refine lv_aload_n hx hb dX8_append_10 rfl (lv_at hl 0 rfl) ?_
    refine va_get (D := D) (ci := 8) (v := .ref aT_co) (C := RX8) (T := TX8) (N := 2) hx hb hts k2 hown hKv hP 0 rfl rfl 0 (by decide) k3 (fun _ h9 => h9) rfl dX8_append_11 ?_
    refine lv_aload_n hx hb dX8_append_14 rfl (lv_at hl 0 rfl) ?_
    refine va_get (D := D) (ci := 8) (v := .int T_n) (C := RX8) (T := TX8) (N := 2) hx hb hts k2 hown hKv hP 0 rfl rfl 1 (by decide) k1 (fun _ h9 => h9) rfl dX8_append_15 ?_
    refine lv_iload_n hx hb dX8_append_18 rfl (lv_at hl 1 rfl) ?_
    replace hm := ck_some hm
    obtain ⟨h2, hm⟩ := hm
    refine va_iast hx hb hKv hP hD hS 1 0 rfl rfl h2 dX8_append_19 (fun H locs hP hD hS => ?_)
    replace hP : va_P D vwCl (w_X8_append cI aT aT_co (upd T_co (Int32.toNatClampNeg T_n) x1) T_n) H := hP
    replace hD : va_D A (w_X8_append cI aT aT_co (upd T_co (Int32.toNatClampNeg T_n) x1) T_n) := hD
    refine lv_aload_n hx hb dX8_append_20 rfl (lv_at hl 0 rfl) ?_
    refine lv_dup hx hb dX8_append_21 rfl ?_
    refine va_get (D := D) (ci := 8) (v := .int T_n) (C := RX8) (T := TX8) (N := 2) hx hb hts k2 hown hKv hP 0 rfl rfl 1 (by decide) k1 (fun _ h9 => h9) rfl dX8_append_22 ?_
    refine lv_iconst (v := 1) hx hb dX8_append_25 (by decide) ?_
    refine lv_iadd hx hb dX8_append_26 ?_
    refine va_put (D := D) (ci := 8) (v := .int (T_n + 1)) (ty := .int) (C := RX8) (T := TX8) (N := 2) hx hb hts k2 tyX8 tyX8_ok nmX8 hown hKv hP hD hS 0 rfl rfl 1 (by decide) k1 (fun _ h9 => h9) rfl (by decide +kernel) rfl rfl (Nat.le_of_ble_eq_true rfl) dX8_append_27 (fun H locs hP hD hS => ?_)
    replace hP : va_P D vwCl (w_X8_append cI aT aT_co (upd T_co (Int32.toNatClampNeg T_n) x1) (T_n + 1)) H := hP
    replace hD : va_D A (w_X8_append cI aT aT_co (upd T_co (Int32.toNatClampNeg T_n) x1) (T_n + 1)) := hD
    exact J30 (upd T_co (Int32.toNatClampNeg T_n) x1) (T_n + 1) hm H locs ls hP hD hS (lv_sub hl [0] rfl)
set_option maxHeartbeats 4000000 in
set_option maxRecDepth 100000 in
theorem c_X8_kindAt (l : Launch) (D : va_G) (cI cJ cZ cS : ClassId) (aT aT_co : Nat) (T_co : Nat → Int32) (T_n : Int32) (x1 : Int32) (o : Int32) (hm : m_X8_kindAt T_co T_n x1 = some o) : MI l yX8_kindAt wsX8_kindAt rm_X8_kindAt D (TY cI cJ cZ cS) [.ref aT, .int x1] (w_X8_kindAt cI aT aT_co T_co T_n) (w_X8_kindAt cI aT aT_co T_co T_n) (o) := by
  refine MI_of (cc := cX8_kindAt) (maxL := 3) (by decide) rfl (Nat.le_of_ble_eq_true rfl) ?_
  intro p e s m args below meth c A Q ls H locs hx hb hml hts hown hK hA hP hD hS hl hret
  have hown : s.vm.findClass RX8 = some m.cls := hown
  have hKv : va_K D vwCl (TY cI cJ cZ cS) s := hK.1
  have hl : lv_has ls 3 [(0, .ref aT), (1, .int x1)] := hl
  have S : CallFix p m c cX8_kindAt 3 s args wsX8_kindAt RX8 := ⟨hx, hb, hml, hown, hts⟩
  have k1 := hts (.fieldLink RX8 15 "CitationFormatter$Text" "length" "I") (by decide +kernel)
  have k2 : ∀ w ∈ wsX80, w ∈ wsX8_kindAt := by decide +kernel
  have k3 := hts (.fieldLink RX8 9 "CitationFormatter$Text" "codes" "[I") (by decide +kernel)
  have k4 : va_CN rm_X8_kindAt s args RX8 23 yX11_inRange "CitationFormatter" cX11_inRange 3 (some .boolean) wsX11_inRange rm_X11_inRange 0 0 3 ∧ (Cond.static yX11_inRange).before args s = true ∧ True := ⟨va_cnB 3 hts gX8_kindAt_X11_inRange_n23 rfl rfl rfl (hK.2 (RX8, 23, yX11_inRange) (by decide +kernel)) (hts (.initialized RX11) (by decide +kernel)) (by decide +kernel) ⟨Nat.le_of_ble_eq_true rfl, Nat.le_of_ble_eq_true rfl⟩, hts (.static yX11_inRange) (by decide +kernel), trivial⟩
  have J59 : ∀ (y0_j59 : Int32), (m_X8_kindAt_J59 y0_j59 = some o) → ∀ (H : Heap) (locs : List Loc) (ls : Array Slot), va_P D vwCl (w_X8_kindAt cI aT aT_co T_co T_n) H → va_D A (w_X8_kindAt cI aT aT_co T_co T_n) → va_S A s.heap H locs → lv_has ls 3 [(0, .ref aT)] → W p l e rm_X8_kindAt s m args below meth c H locs 0 0 Q (F0 m 59 ls [.int y0_j59]) := by
    intro y0_j59 hm H locs ls hP hD hS hl
    have h9 := Option.some.inj hm
    subst h9
    exact hret H locs _ ls _ hP hD hS rfl dX8_kindAt_59
  refine lv_iload_n hx hb dX8_kindAt_0 rfl (lv_at hl 1 rfl) ?_
  refine lv_aload_n hx hb dX8_kindAt_1 rfl (lv_at hl 0 rfl) ?_
  refine va_get (D := D) (ci := 8) (v := .int T_n) (C := RX8) (T := TX8) (N := 2) hx hb hts k2 hown hKv hP 0 rfl rfl 1 (by decide) k1 (fun _ h9 => h9) rfl dX8_kindAt_2 ?_
  refine lv_icmp_lt (tgt := 10) hx hb dX8_kindAt_5 (by decide) (fun c1 => ?_) (fun c1 => ?_)
  · replace hm := if_t c1 hm
    refine lv_aload_n hx hb dX8_kindAt_10 rfl (lv_at hl 0 rfl) ?_
    refine va_get (D := D) (ci := 8) (v := .ref aT_co) (C := RX8) (T := TX8) (N := 2) hx hb hts k2 hown hKv hP 0 rfl rfl 0 (by decide) k3 (fun _ h9 => h9) rfl dX8_kindAt_11 ?_
    refine lv_iload_n hx hb dX8_kindAt_14 rfl (lv_at hl 1 rfl) ?_
    replace hm := ck_some hm
    obtain ⟨h2, hm⟩ := hm
    refine va_iald hx hb hKv hP 1 0 rfl rfl h2 dX8_kindAt_15 ?_
    refine lv_istore_n (lv' := [(2, .int (T_co (Int32.toNatClampNeg x1))), (0, .ref aT), (1, .int x1)]) hx hb dX8_kindAt_16 rfl hl (by decide) rfl (fun ls hl => ?_)
    refine lv_iload_n hx hb dX8_kindAt_17 rfl (lv_at hl 0 rfl) ?_
    refine lv_bipush (v := 97) hx hb dX8_kindAt_18 (by decide) ?_
    refine lv_bipush (v := 122) hx hb dX8_kindAt_20 (by decide) ?_
    replace hm := bd_some hm
    obtain ⟨e3, hc3, hm⟩ := hm
    refine kN_i (rest := []) S (c_X11_inRange l D cI cJ cZ cS (T_co (Int32.toNatClampNeg x1)) 97 122 e3 hc3) k4 hK hP hD hS hA rfl hl.1 rfl (Nat.le_of_ble_eq_true rfl) ⟨Nat.zero_le _, Nat.zero_le _⟩ dX8_kindAt_22 (fun H locs hP hD hS => ?_)
    refine lv_if_eq (tgt := 30) hx hb dX8_kindAt_25 (by decide) (fun c4 => ?_) (fun c4 => ?_)
    · replace hm := if_t c4 hm
      refine lv_iload_n hx hb dX8_kindAt_30 rfl (lv_at hl 0 rfl) ?_
      refine lv_bipush (v := 65) hx hb dX8_kindAt_31 (by decide) ?_
      refine lv_bipush (v := 90) hx hb dX8_kindAt_33 (by decide) ?_
      replace hm := bd_some hm
      obtain ⟨e5, hc5, hm⟩ := hm
      refine kN_i (rest := []) S (c_X11_inRange l D cI cJ cZ cS (T_co (Int32.toNatClampNeg x1)) 65 90 e5 hc5) k4 hK hP hD hS hA rfl hl.1 rfl (Nat.le_of_ble_eq_true rfl) ⟨Nat.zero_le _, Nat.zero_le _⟩ dX8_kindAt_35 (fun H locs hP hD hS => ?_)
      refine lv_if_eq (tgt := 43) hx hb dX8_kindAt_38 (by decide) (fun c6 => ?_) (fun c6 => ?_)
      · replace hm := if_t c6 hm
        refine lv_iload_n hx hb dX8_kindAt_43 rfl (lv_at hl 0 rfl) ?_
        refine lv_bipush (v := 48) hx hb dX8_kindAt_44 (by decide) ?_
        refine lv_bipush (v := 57) hx hb dX8_kindAt_46 (by decide) ?_
        replace hm := bd_some hm
        obtain ⟨e7, hc7, hm⟩ := hm
        refine kN_i (rest := []) S (c_X11_inRange l D cI cJ cZ cS (T_co (Int32.toNatClampNeg x1)) 48 57 e7 hc7) k4 hK hP hD hS hA rfl hl.1 rfl (Nat.le_of_ble_eq_true rfl) ⟨Nat.zero_le _, Nat.zero_le _⟩ dX8_kindAt_48 (fun H locs hP hD hS => ?_)
        refine lv_if_eq (tgt := 58) hx hb dX8_kindAt_51 (by decide) (fun c8 => ?_) (fun c8 => ?_)
        · replace hm := if_t c8 hm
          refine lv_iconst (v := 0) hx hb dX8_kindAt_58 (by decide) ?_
          exact J59 0 hm H locs ls hP hD hS (lv_sub hl [1] rfl)
        · replace hm := if_f c8 hm
          refine lv_iconst (v := 3) hx hb dX8_kindAt_54 (by decide) ?_
          refine lv_goto (tgt := 59) hx hb dX8_kindAt_55 (by decide) ?_
          exact J59 3 hm H locs ls hP hD hS (lv_sub hl [1] rfl)
      · replace hm := if_f c6 hm
        refine lv_iconst (v := 2) hx hb dX8_kindAt_41 (by decide) ?_
        have h9 := Option.some.inj hm
        subst h9
        exact hret H locs _ ls _ hP hD hS rfl dX8_kindAt_42
    · replace hm := if_f c4 hm
      refine lv_iconst (v := 1) hx hb dX8_kindAt_28 (by decide) ?_
      have h9 := Option.some.inj hm
      subst h9
      exact hret H locs _ ls _ hP hD hS rfl dX8_kindAt_29
  · replace hm := if_f c1 hm
    refine lv_iconst (v := 0) hx hb dX8_kindAt_8 (by decide) ?_
    have h9 := Option.some.inj hm
    subst h9
    exact hret H locs _ ls _ hP hD hS rfl dX8_kindAt_9
set_option maxHeartbeats 4000000 in
set_option maxRecDepth 100000 in
theorem c_X8_isAuthor (l : Launch) (D : va_G) (cI cJ cZ cS : ClassId) (aT aT_co : Nat) (T_co : Nat → Int32) (T_n : Int32) (x1 : Int32) (x2 : Int32) (o : Int32) (hm : m_X8_isAuthor T_co T_n x1 x2 = some o) : MI l yX8_isAuthor wsX8_isAuthor rm_X8_isAuthor D (TY cI cJ cZ cS) [.ref aT, .int x1, .int x2] (w_X8_isAuthor cI aT aT_co T_co T_n) (w_X8_isAuthor cI aT aT_co T_co T_n) (o) := by
  refine MZ_of (cc := cX8_isAuthor) (maxL := 3) (by decide) rfl (Nat.le_of_ble_eq_true rfl) ?_
  intro p e s m args below meth c A Q ls H locs hx hb hml hts hown hK hA hP hD hS hl hret
  have hown : s.vm.findClass RX8 = some m.cls := hown
  have hKv : va_K D vwCl (TY cI cJ cZ cS) s := hK.1
  have hl : lv_has ls 3 [(0, .ref aT), (1, .int x1), (2, .int x2)] := hl
  have S : CallFix p m c cX8_isAuthor 3 s args wsX8_isAuthor RX8 := ⟨hx, hb, hml, hown, hts⟩
  have k1 : CallW rm_X8_isAuthor s args RX8 RX8 19 yX8_kindAt cX8_kindAt 3 (some .int) wsX8_kindAt rm_X8_kindAt 0 0 1 := cwV 1 hts gX8_isAuthor_X8_kindAt rfl rfl rfl (by decide +kernel) ⟨Nat.le_of_ble_eq_true rfl, Nat.le_of_ble_eq_true rfl⟩
  have J19 : ∀ (y0_j19 : Int32), (m_X8_isAuthor_J19 y0_j19 = some o) → ∀ (H : Heap) (locs : List Loc) (ls : Array Slot), va_P D vwCl (w_X8_isAuthor cI aT aT_co T_co T_n) H → va_D A (w_X8_isAuthor cI aT aT_co T_co T_n) → va_S A s.heap H locs → lv_has ls 3 [(0, .ref aT)] → W p l e rm_X8_isAuthor s m args below meth c H locs 0 0 Q (F0 m 19 ls [.int y0_j19]) := by
    intro y0_j19 hm H locs ls hP hD hS hl
    replace hm := ckb_some hm
    obtain ⟨h1, hm⟩ := hm
    have h9 := Option.some.inj hm
    subst h9
    exact hret H locs _ ls _ h1 hP hD hS rfl dX8_isAuthor_19
  have J18 : (m_X8_isAuthor_J18 = some o) → ∀ (H : Heap) (locs : List Loc) (ls : Array Slot), va_P D vwCl (w_X8_isAuthor cI aT aT_co T_co T_n) H → va_D A (w_X8_isAuthor cI aT aT_co T_co T_n) → va_S A s.heap H locs → lv_has ls 3 [(0, .ref aT)] → W p l e rm_X8_isAuthor s m args below meth c H locs 0 0 Q (F0 m 18 ls []) := by
    intro  hm H locs ls hP hD hS hl
    refine lv_iconst (v := 0) hx hb dX8_isAuthor_18 (by decide) ?_
    exact J19 0 hm H locs ls hP hD hS (lv_sub hl [0] rfl)
  refine lv_iload_n hx hb dX8_isAuthor_0 rfl (lv_at hl 2 rfl) ?_
  refine lv_iconst (v := 2) hx hb dX8_isAuthor_1 (by decide) ?_
  refine lv_icmp_ne (tgt := 18) hx hb dX8_isAuthor_2 (by decide) (fun c2 => ?_) (fun c2 => ?_)
  · replace hm := if_f c2 hm
    exact J18  hm H locs ls hP hD hS (lv_sub hl [0] rfl)
  · replace hm := if_t c2 hm
    refine lv_aload_n hx hb dX8_isAuthor_5 rfl (lv_at hl 0 rfl) ?_
    refine lv_iload_n hx hb dX8_isAuthor_6 rfl (lv_at hl 1 rfl) ?_
    replace hm := bd_some hm
    obtain ⟨e3, hc3, hm⟩ := hm
    refine kV_i (rest := []) (ws' := (w_X8_isAuthor cI aT aT_co T_co T_n)) S (c_X8_kindAt l D cI cJ cZ cS aT aT_co T_co T_n x1 e3 hc3) k1 hK hP hD hS hA 0 rfl rfl rfl rfl hl.1 rfl (Nat.le_of_ble_eq_true rfl) ⟨Nat.zero_le _, Nat.zero_le _⟩ dX8_isAuthor_7 [0, 1] rfl rfl wa_X8_kindAt (sa_eq [] [] 2 rfl rfl rfl rfl rfl rfl rfl) (fun H locs hP hD hS => ?_)
    refine lv_iconst (v := 2) hx hb dX8_isAuthor_10 (by decide) ?_
    refine lv_icmp_ne (tgt := 18) hx hb dX8_isAuthor_11 (by decide) (fun c4 => ?_) (fun c4 => ?_)
    · replace hm := if_f c4 hm
      exact J18  hm H locs ls hP hD hS (lv_sub hl [0] rfl)
    · replace hm := if_t c4 hm
      refine lv_iconst (v := 1) hx hb dX8_isAuthor_14 (by decide) ?_
      refine lv_goto (tgt := 19) hx hb dX8_isAuthor_15 (by decide) ?_
      exact J19 1 hm H locs ls hP hD hS (lv_sub hl [0] rfl)
set_option maxHeartbeats 4000000 in
set_option maxRecDepth 100000 in
theorem c_X8_isTitle (l : Launch) (D : va_G) (cI cJ cZ cS : ClassId) (aT aT_co : Nat) (T_co : Nat → Int32) (T_n : Int32) (x1 : Int32) (x2 : Int32) (o : Int32) (hm : m_X8_isTitle T_co T_n x1 x2 = some o) : MI l yX8_isTitle wsX8_isTitle rm_X8_isTitle D (TY cI cJ cZ cS) [.ref aT, .int x1, .int x2] (w_X8_isTitle cI aT aT_co T_co T_n) (w_X8_isTitle cI aT aT_co T_co T_n) (o) := by
  refine MZ_of (cc := cX8_isTitle) (maxL := 3) (by decide) rfl (Nat.le_of_ble_eq_true rfl) ?_
  intro p e s m args below meth c A Q ls H locs hx hb hml hts hown hK hA hP hD hS hl hret
  have hown : s.vm.findClass RX8 = some m.cls := hown
  have hKv : va_K D vwCl (TY cI cJ cZ cS) s := hK.1
  have hl : lv_has ls 3 [(0, .ref aT), (1, .int x1), (2, .int x2)] := hl
  have S : CallFix p m c cX8_isTitle 3 s args wsX8_isTitle RX8 := ⟨hx, hb, hml, hown, hts⟩
  have k1 : CallW rm_X8_isTitle s args RX8 RX8 19 yX8_kindAt cX8_kindAt 3 (some .int) wsX8_kindAt rm_X8_kindAt 0 0 1 := cwV 1 hts gX8_isTitle_X8_kindAt rfl rfl rfl (by decide +kernel) ⟨Nat.le_of_ble_eq_true rfl, Nat.le_of_ble_eq_true rfl⟩
  have J19 : ∀ (y0_j19 : Int32), (m_X8_isTitle_J19 y0_j19 = some o) → ∀ (H : Heap) (locs : List Loc) (ls : Array Slot), va_P D vwCl (w_X8_isTitle cI aT aT_co T_co T_n) H → va_D A (w_X8_isTitle cI aT aT_co T_co T_n) → va_S A s.heap H locs → lv_has ls 3 [(0, .ref aT)] → W p l e rm_X8_isTitle s m args below meth c H locs 0 0 Q (F0 m 19 ls [.int y0_j19]) := by
    intro y0_j19 hm H locs ls hP hD hS hl
    replace hm := ckb_some hm
    obtain ⟨h1, hm⟩ := hm
    have h9 := Option.some.inj hm
    subst h9
    exact hret H locs _ ls _ h1 hP hD hS rfl dX8_isTitle_19
  have J18 : (m_X8_isTitle_J18 = some o) → ∀ (H : Heap) (locs : List Loc) (ls : Array Slot), va_P D vwCl (w_X8_isTitle cI aT aT_co T_co T_n) H → va_D A (w_X8_isTitle cI aT aT_co T_co T_n) → va_S A s.heap H locs → lv_has ls 3 [(0, .ref aT)] → W p l e rm_X8_isTitle s m args below meth c H locs 0 0 Q (F0 m 18 ls []) := by
    intro  hm H locs ls hP hD hS hl
    refine lv_iconst (v := 0) hx hb dX8_isTitle_18 (by decide) ?_
    exact J19 0 hm H locs ls hP hD hS (lv_sub hl [0] rfl)
  refine lv_iload_n hx hb dX8_isTitle_0 rfl (lv_at hl 2 rfl) ?_
  refine lv_iconst (v := 1) hx hb dX8_isTitle_1 (by decide) ?_
  refine lv_icmp_ne (tgt := 18) hx hb dX8_isTitle_2 (by decide) (fun c2 => ?_) (fun c2 => ?_)
  · replace hm := if_f c2 hm
    exact J18  hm H locs ls hP hD hS (lv_sub hl [0] rfl)
  · replace hm := if_t c2 hm
    refine lv_aload_n hx hb dX8_isTitle_5 rfl (lv_at hl 0 rfl) ?_
    refine lv_iload_n hx hb dX8_isTitle_6 rfl (lv_at hl 1 rfl) ?_
    replace hm := bd_some hm
    obtain ⟨e3, hc3, hm⟩ := hm
    refine kV_i (rest := []) (ws' := (w_X8_isTitle cI aT aT_co T_co T_n)) S (c_X8_kindAt l D cI cJ cZ cS aT aT_co T_co T_n x1 e3 hc3) k1 hK hP hD hS hA 0 rfl rfl rfl rfl hl.1 rfl (Nat.le_of_ble_eq_true rfl) ⟨Nat.zero_le _, Nat.zero_le _⟩ dX8_isTitle_7 [0, 1] rfl rfl wa_X8_kindAt (sa_eq [] [] 2 rfl rfl rfl rfl rfl rfl rfl) (fun H locs hP hD hS => ?_)
    refine lv_iconst (v := 1) hx hb dX8_isTitle_10 (by decide) ?_
    refine lv_icmp_ne (tgt := 18) hx hb dX8_isTitle_11 (by decide) (fun c4 => ?_) (fun c4 => ?_)
    · replace hm := if_f c4 hm
      exact J18  hm H locs ls hP hD hS (lv_sub hl [0] rfl)
    · replace hm := if_t c4 hm
      refine lv_iconst (v := 1) hx hb dX8_isTitle_14 (by decide) ?_
      refine lv_goto (tgt := 19) hx hb dX8_isTitle_15 (by decide) ?_
      exact J19 1 hm H locs ls hP hD hS (lv_sub hl [0] rfl)
set_option maxHeartbeats 4000000 in
set_option maxRecDepth 100000 in
theorem c_X8_isWorkWord (l : Launch) (D : va_G) (cI cJ cZ cS : ClassId) (aT aT_co : Nat) (T_co : Nat → Int32) (T_n : Int32) (x1 : Int32) (x2 : Int32) (o : Int32) (hm : m_X8_isWorkWord T_co T_n x1 x2 = some o) : MI l yX8_isWorkWord wsX8_isWorkWord rm_X8_isWorkWord D (TY cI cJ cZ cS) [.ref aT, .int x1, .int x2] (w_X8_isWorkWord cI aT aT_co T_co T_n) (w_X8_isWorkWord cI aT aT_co T_co T_n) (o) := by
  refine MZ_of (cc := cX8_isWorkWord) (maxL := 3) (by decide) rfl (Nat.le_of_ble_eq_true rfl) ?_
  intro p e s m args below meth c A Q ls H locs hx hb hml hts hown hK hA hP hD hS hl hret
  have hown : s.vm.findClass RX8 = some m.cls := hown
  have hKv : va_K D vwCl (TY cI cJ cZ cS) s := hK.1
  have hl : lv_has ls 3 [(0, .ref aT), (1, .int x1), (2, .int x2)] := hl
  have S : CallFix p m c cX8_isWorkWord 3 s args wsX8_isWorkWord RX8 := ⟨hx, hb, hml, hown, hts⟩
  have k1 := hts (.fieldLink RX8 15 "CitationFormatter$Text" "length" "I") (by decide +kernel)
  have k2 : ∀ w ∈ wsX80, w ∈ wsX8_isWorkWord := by decide +kernel
  have k3 := hts (.fieldLink RX8 9 "CitationFormatter$Text" "codes" "[I") (by decide +kernel)
  have J70 : ∀ (y0_j70 : Int32), (m_X8_isWorkWord_J70 y0_j70 = some o) → ∀ (H : Heap) (locs : List Loc) (ls : Array Slot), va_P D vwCl (w_X8_isWorkWord cI aT aT_co T_co T_n) H → va_D A (w_X8_isWorkWord cI aT aT_co T_co T_n) → va_S A s.heap H locs → lv_has ls 3 [(0, .ref aT)] → W p l e rm_X8_isWorkWord s m args below meth c H locs 0 0 Q (F0 m 70 ls [.int y0_j70]) := by
    intro y0_j70 hm H locs ls hP hD hS hl
    replace hm := ckb_some hm
    obtain ⟨h1, hm⟩ := hm
    have h9 := Option.some.inj hm
    subst h9
    exact hret H locs _ ls _ h1 hP hD hS rfl dX8_isWorkWord_70
  have J69 : (m_X8_isWorkWord_J69 = some o) → ∀ (H : Heap) (locs : List Loc) (ls : Array Slot), va_P D vwCl (w_X8_isWorkWord cI aT aT_co T_co T_n) H → va_D A (w_X8_isWorkWord cI aT aT_co T_co T_n) → va_S A s.heap H locs → lv_has ls 3 [(0, .ref aT)] → W p l e rm_X8_isWorkWord s m args below meth c H locs 0 0 Q (F0 m 69 ls []) := by
    intro  hm H locs ls hP hD hS hl
    refine lv_iconst (v := 0) hx hb dX8_isWorkWord_69 (by decide) ?_
    exact J70 0 hm H locs ls hP hD hS (lv_sub hl [0] rfl)
  refine lv_iload_n hx hb dX8_isWorkWord_0 rfl (lv_at hl 2 rfl) ?_
  refine lv_iconst (v := 4) hx hb dX8_isWorkWord_1 (by decide) ?_
  refine lv_icmp_ne (tgt := 69) hx hb dX8_isWorkWord_2 (by decide) (fun c2 => ?_) (fun c2 => ?_)
  · replace hm := if_f c2 hm
    exact J69  hm H locs ls hP hD hS (lv_sub hl [0] rfl)
  · replace hm := if_t c2 hm
    refine lv_iload_n hx hb dX8_isWorkWord_5 rfl (lv_at hl 1 rfl) ?_
    refine lv_iload_n hx hb dX8_isWorkWord_6 rfl (lv_at hl 2 rfl) ?_
    refine lv_iadd hx hb dX8_isWorkWord_7 ?_
    refine lv_aload_n hx hb dX8_isWorkWord_8 rfl (lv_at hl 0 rfl) ?_
    refine va_get (D := D) (ci := 8) (v := .int T_n) (C := RX8) (T := TX8) (N := 2) hx hb hts k2 hown hKv hP 0 rfl rfl 1 (by decide) k1 (fun _ h9 => h9) rfl dX8_isWorkWord_9 ?_
    refine lv_icmp_gt (tgt := 69) hx hb dX8_isWorkWord_12 (by decide) (fun c3 => ?_) (fun c3 => ?_)
    · replace hm := if_t c3 hm
      exact J69  hm H locs ls hP hD hS (lv_sub hl [0] rfl)
    · replace hm := if_f c3 hm
      refine lv_aload_n hx hb dX8_isWorkWord_15 rfl (lv_at hl 0 rfl) ?_
      refine va_get (D := D) (ci := 8) (v := .ref aT_co) (C := RX8) (T := TX8) (N := 2) hx hb hts k2 hown hKv hP 0 rfl rfl 0 (by decide) k3 (fun _ h9 => h9) rfl dX8_isWorkWord_16 ?_
      refine lv_iload_n hx hb dX8_isWorkWord_19 rfl (lv_at hl 1 rfl) ?_
      replace hm := ck_some hm
      obtain ⟨h4, hm⟩ := hm
      refine va_iald hx hb hKv hP 1 0 rfl rfl h4 dX8_isWorkWord_20 ?_
      refine lv_bipush (v := 119) hx hb dX8_isWorkWord_21 (by decide) ?_
      refine lv_icmp_ne (tgt := 69) hx hb dX8_isWorkWord_23 (by decide) (fun c5 => ?_) (fun c5 => ?_)
      · replace hm := if_f c5 hm
        exact J69  hm H locs ls hP hD hS (lv_sub hl [0] rfl)
      · replace hm := if_t c5 hm
        refine lv_aload_n hx hb dX8_isWorkWord_26 rfl (lv_at hl 0 rfl) ?_
        refine va_get (D := D) (ci := 8) (v := .ref aT_co) (C := RX8) (T := TX8) (N := 2) hx hb hts k2 hown hKv hP 0 rfl rfl 0 (by decide) k3 (fun _ h9 => h9) rfl dX8_isWorkWord_27 ?_
        refine lv_iload_n hx hb dX8_isWorkWord_30 rfl (lv_at hl 1 rfl) ?_
        refine lv_iconst (v := 1) hx hb dX8_isWorkWord_31 (by decide) ?_
        refine lv_iadd hx hb dX8_isWorkWord_32 ?_
        replace hm := ck_some hm
        obtain ⟨h6, hm⟩ := hm
        refine va_iald hx hb hKv hP 1 0 rfl rfl h6 dX8_isWorkWord_33 ?_
        refine lv_bipush (v := 111) hx hb dX8_isWorkWord_34 (by decide) ?_
        refine lv_icmp_ne (tgt := 69) hx hb dX8_isWorkWord_36 (by decide) (fun c7 => ?_) (fun c7 => ?_)
        · replace hm := if_f c7 hm
          exact J69  hm H locs ls hP hD hS (lv_sub hl [0] rfl)
        · replace hm := if_t c7 hm
          refine lv_aload_n hx hb dX8_isWorkWord_39 rfl (lv_at hl 0 rfl) ?_
          refine va_get (D := D) (ci := 8) (v := .ref aT_co) (C := RX8) (T := TX8) (N := 2) hx hb hts k2 hown hKv hP 0 rfl rfl 0 (by decide) k3 (fun _ h9 => h9) rfl dX8_isWorkWord_40 ?_
          refine lv_iload_n hx hb dX8_isWorkWord_43 rfl (lv_at hl 1 rfl) ?_
          refine lv_iconst (v := 2) hx hb dX8_isWorkWord_44 (by decide) ?_
          refine lv_iadd hx hb dX8_isWorkWord_45 ?_
          replace hm := ck_some hm
          obtain ⟨h8, hm⟩ := hm
          refine va_iald hx hb hKv hP 1 0 rfl rfl h8 dX8_isWorkWord_46 ?_
          refine lv_bipush (v := 114) hx hb dX8_isWorkWord_47 (by decide) ?_
          refine lv_icmp_ne (tgt := 69) hx hb dX8_isWorkWord_49 (by decide) (fun c9 => ?_) (fun c9 => ?_)
          · replace hm := if_f c9 hm
            exact J69  hm H locs ls hP hD hS (lv_sub hl [0] rfl)
          · replace hm := if_t c9 hm
            refine lv_aload_n hx hb dX8_isWorkWord_52 rfl (lv_at hl 0 rfl) ?_
            refine va_get (D := D) (ci := 8) (v := .ref aT_co) (C := RX8) (T := TX8) (N := 2) hx hb hts k2 hown hKv hP 0 rfl rfl 0 (by decide) k3 (fun _ h9 => h9) rfl dX8_isWorkWord_53 ?_
            refine lv_iload_n hx hb dX8_isWorkWord_56 rfl (lv_at hl 1 rfl) ?_
            refine lv_iconst (v := 3) hx hb dX8_isWorkWord_57 (by decide) ?_
            refine lv_iadd hx hb dX8_isWorkWord_58 ?_
            replace hm := ck_some hm
            obtain ⟨h10, hm⟩ := hm
            refine va_iald hx hb hKv hP 1 0 rfl rfl h10 dX8_isWorkWord_59 ?_
            refine lv_bipush (v := 107) hx hb dX8_isWorkWord_60 (by decide) ?_
            refine lv_icmp_ne (tgt := 69) hx hb dX8_isWorkWord_62 (by decide) (fun c11 => ?_) (fun c11 => ?_)
            · replace hm := if_f c11 hm
              exact J69  hm H locs ls hP hD hS (lv_sub hl [0] rfl)
            · replace hm := if_t c11 hm
              refine lv_iconst (v := 1) hx hb dX8_isWorkWord_65 (by decide) ?_
              refine lv_goto (tgt := 70) hx hb dX8_isWorkWord_66 (by decide) ?_
              exact J70 1 hm H locs ls hP hD hS (lv_sub hl [0] rfl)
set_option maxHeartbeats 4000000 in
set_option maxRecDepth 100000 in
theorem c_X8_isYear (l : Launch) (D : va_G) (cI cJ cZ cS : ClassId) (aT aT_co : Nat) (T_co : Nat → Int32) (T_n : Int32) (x1 : Int32) (x2 : Int32) (o : Int32) (hm : m_X8_isYear T_co T_n x1 x2 = some o) : MI l yX8_isYear wsX8_isYear rm_X8_isYear D (TY cI cJ cZ cS) [.ref aT, .int x1, .int x2] (w_X8_isYear cI aT aT_co T_co T_n) (w_X8_isYear cI aT aT_co T_co T_n) (o) := by
  refine MZ_of (cc := cX8_isYear) (maxL := 3) (by decide) rfl (Nat.le_of_ble_eq_true rfl) ?_
  intro p e s m args below meth c A Q ls H locs hx hb hml hts hown hK hA hP hD hS hl hret
  have hown : s.vm.findClass RX8 = some m.cls := hown
  have hKv : va_K D vwCl (TY cI cJ cZ cS) s := hK.1
  have hl : lv_has ls 3 [(0, .ref aT), (1, .int x1), (2, .int x2)] := hl
  have S : CallFix p m c cX8_isYear 3 s args wsX8_isYear RX8 := ⟨hx, hb, hml, hown, hts⟩
  have k1 : CallW rm_X8_isYear s args RX8 RX8 19 yX8_kindAt cX8_kindAt 3 (some .int) wsX8_kindAt rm_X8_kindAt 0 0 1 := cwV 1 hts gX8_isYear_X8_kindAt rfl rfl rfl (by decide +kernel) ⟨Nat.le_of_ble_eq_true rfl, Nat.le_of_ble_eq_true rfl⟩
  have J19 : ∀ (y0_j19 : Int32), (m_X8_isYear_J19 y0_j19 = some o) → ∀ (H : Heap) (locs : List Loc) (ls : Array Slot), va_P D vwCl (w_X8_isYear cI aT aT_co T_co T_n) H → va_D A (w_X8_isYear cI aT aT_co T_co T_n) → va_S A s.heap H locs → lv_has ls 3 [(0, .ref aT)] → W p l e rm_X8_isYear s m args below meth c H locs 0 0 Q (F0 m 19 ls [.int y0_j19]) := by
    intro y0_j19 hm H locs ls hP hD hS hl
    replace hm := ckb_some hm
    obtain ⟨h1, hm⟩ := hm
    have h9 := Option.some.inj hm
    subst h9
    exact hret H locs _ ls _ h1 hP hD hS rfl dX8_isYear_19
  have J18 : (m_X8_isYear_J18 = some o) → ∀ (H : Heap) (locs : List Loc) (ls : Array Slot), va_P D vwCl (w_X8_isYear cI aT aT_co T_co T_n) H → va_D A (w_X8_isYear cI aT aT_co T_co T_n) → va_S A s.heap H locs → lv_has ls 3 [(0, .ref aT)] → W p l e rm_X8_isYear s m args below meth c H locs 0 0 Q (F0 m 18 ls []) := by
    intro  hm H locs ls hP hD hS hl
    refine lv_iconst (v := 0) hx hb dX8_isYear_18 (by decide) ?_
    exact J19 0 hm H locs ls hP hD hS (lv_sub hl [0] rfl)
  refine lv_iload_n hx hb dX8_isYear_0 rfl (lv_at hl 2 rfl) ?_
  refine lv_iconst (v := 2) hx hb dX8_isYear_1 (by decide) ?_
  refine lv_icmp_ne (tgt := 18) hx hb dX8_isYear_2 (by decide) (fun c2 => ?_) (fun c2 => ?_)
  · replace hm := if_f c2 hm
    exact J18  hm H locs ls hP hD hS (lv_sub hl [0] rfl)
  · replace hm := if_t c2 hm
    refine lv_aload_n hx hb dX8_isYear_5 rfl (lv_at hl 0 rfl) ?_
    refine lv_iload_n hx hb dX8_isYear_6 rfl (lv_at hl 1 rfl) ?_
    replace hm := bd_some hm
    obtain ⟨e3, hc3, hm⟩ := hm
    refine kV_i (rest := []) (ws' := (w_X8_isYear cI aT aT_co T_co T_n)) S (c_X8_kindAt l D cI cJ cZ cS aT aT_co T_co T_n x1 e3 hc3) k1 hK hP hD hS hA 0 rfl rfl rfl rfl hl.1 rfl (Nat.le_of_ble_eq_true rfl) ⟨Nat.zero_le _, Nat.zero_le _⟩ dX8_isYear_7 [0, 1] rfl rfl wa_X8_kindAt (sa_eq [] [] 2 rfl rfl rfl rfl rfl rfl rfl) (fun H locs hP hD hS => ?_)
    refine lv_iconst (v := 3) hx hb dX8_isYear_10 (by decide) ?_
    refine lv_icmp_ne (tgt := 18) hx hb dX8_isYear_11 (by decide) (fun c4 => ?_) (fun c4 => ?_)
    · replace hm := if_f c4 hm
      exact J18  hm H locs ls hP hD hS (lv_sub hl [0] rfl)
    · replace hm := if_t c4 hm
      refine lv_iconst (v := 1) hx hb dX8_isYear_14 (by decide) ?_
      refine lv_goto (tgt := 19) hx hb dX8_isYear_15 (by decide) ?_
      exact J19 1 hm H locs ls hP hD hS (lv_sub hl [0] rfl)
set_option maxHeartbeats 4000000 in
set_option maxRecDepth 100000 in
theorem c_X8_lexemeEnd (l : Launch) (D : va_G) (cI cJ cZ cS : ClassId) (aT aT_co : Nat) (T_co : Nat → Int32) (T_n : Int32) (x1 : Int32) (o : Int32) (hm : m_X8_lexemeEnd T_co T_n x1 = some o) : MI l yX8_lexemeEnd wsX8_lexemeEnd rm_X8_lexemeEnd D (TY cI cJ cZ cS) [.ref aT, .int x1] (w_X8_lexemeEnd cI aT aT_co T_co T_n) (w_X8_lexemeEnd cI aT aT_co T_co T_n) (o) := by
  refine MI_of (cc := cX8_lexemeEnd) (maxL := 4) (by decide) rfl (Nat.le_of_ble_eq_true rfl) ?_
  intro p e s m args below meth c A Q ls H locs hx hb hml hts hown hK hA hP hD hS hl hret
  have hown : s.vm.findClass RX8 = some m.cls := hown
  have hKv : va_K D vwCl (TY cI cJ cZ cS) s := hK.1
  have hl : lv_has ls 4 [(0, .ref aT), (1, .int x1)] := hl
  have S : CallFix p m c cX8_lexemeEnd 4 s args wsX8_lexemeEnd RX8 := ⟨hx, hb, hml, hown, hts⟩
  have k1 : CallW rm_X8_lexemeEnd s args RX8 RX8 19 yX8_kindAt cX8_kindAt 3 (some .int) wsX8_kindAt rm_X8_kindAt 0 0 1 := cwV 1 hts gX8_lexemeEnd_X8_kindAt rfl rfl rfl (by decide +kernel) ⟨Nat.le_of_ble_eq_true rfl, Nat.le_of_ble_eq_true rfl⟩
  have k2 := hts (.fieldLink RX8 15 "CitationFormatter$Text" "length" "I") (by decide +kernel)
  have k3 : ∀ w ∈ wsX80, w ∈ wsX8_lexemeEnd := by decide +kernel
  have J31 : ∀ (y0_j31 : Int32), (m_X8_lexemeEnd_J31 y0_j31 = some o) → ∀ (H : Heap) (locs : List Loc) (ls : Array Slot), va_P D vwCl (w_X8_lexemeEnd cI aT aT_co T_co T_n) H → va_D A (w_X8_lexemeEnd cI aT aT_co T_co T_n) → va_S A s.heap H locs → lv_has ls 4 [(0, .ref aT)] → W p l e rm_X8_lexemeEnd s m args below meth c H locs 0 0 Q (F0 m 31 ls [.int y0_j31]) := by
    intro y0_j31 hm H locs ls hP hD hS hl
    have h9 := Option.some.inj hm
    subst h9
    exact hret H locs _ ls _ hP hD hS rfl dX8_lexemeEnd_31
  refine lv_aload_n hx hb dX8_lexemeEnd_0 rfl (lv_at hl 0 rfl) ?_
  refine lv_iload_n hx hb dX8_lexemeEnd_1 rfl (lv_at hl 1 rfl) ?_
  replace hm := bd_some hm
  obtain ⟨e1, hc1, hm⟩ := hm
  refine kV_i (rest := []) (ws' := (w_X8_lexemeEnd cI aT aT_co T_co T_n)) S (c_X8_kindAt l D cI cJ cZ cS aT aT_co T_co T_n x1 e1 hc1) k1 hK hP hD hS hA 0 rfl rfl rfl rfl hl.1 rfl (Nat.le_of_ble_eq_true rfl) ⟨Nat.zero_le _, Nat.zero_le _⟩ dX8_lexemeEnd_2 [0, 1] rfl rfl wa_X8_kindAt (sa_eq [] [] 2 rfl rfl rfl rfl rfl rfl rfl) (fun H locs hP hD hS => ?_)
  refine lv_istore_n (lv' := [(2, .int e1), (0, .ref aT), (1, .int x1)]) hx hb dX8_lexemeEnd_5 rfl hl (by decide) rfl (fun ls hl => ?_)
  refine lv_iload_n hx hb dX8_lexemeEnd_6 rfl (lv_at hl 2 rfl) ?_
  refine lv_iconst (v := 1) hx hb dX8_lexemeEnd_7 (by decide) ?_
  refine lv_iadd hx hb dX8_lexemeEnd_8 ?_
  refine lv_istore_n (lv' := [(3, .int (x1 + 1)), (2, .int e1), (0, .ref aT), (1, .int x1)]) hx hb dX8_lexemeEnd_9 rfl hl (by decide) rfl (fun ls hl => ?_)
  refine lv_iload_n hx hb dX8_lexemeEnd_10 rfl (lv_at hl 1 rfl) ?_
  refine lv_iconst (v := 2) hx hb dX8_lexemeEnd_11 (by decide) ?_
  refine lv_icmp_ne (tgt := 32) hx hb dX8_lexemeEnd_12 (by decide) (fun c2 => ?_) (fun c2 => ?_)
  · replace hm := if_f c2 hm
    refine lv_iload_n hx hb dX8_lexemeEnd_32 rfl (lv_at hl 1 rfl) ?_
    refine lv_if_ne (tgt := 38) hx hb dX8_lexemeEnd_33 (by decide) (fun c3 => ?_) (fun c3 => ?_)
    · replace hm := if_f c3 hm
      replace hm := bd_some hm
      obtain ⟨e4, hc4, hm⟩ := hm
      have X4_0 : ∀ (H : Heap) (locs : List Loc) (ls : Array Slot), va_P D vwCl (w_X8_lexemeEnd cI aT aT_co T_co T_n) H → va_D A (w_X8_lexemeEnd cI aT aT_co T_co T_n) → va_S A s.heap H locs → lv_has ls 4 [(0, .ref aT), (3, .int e4)] → W p l e rm_X8_lexemeEnd s m args below meth c H locs 0 0 Q (F0 m 61 ls []) := by
        intro H locs ls hP hD hS hl
        refine lv_iload_n hx hb dX8_lexemeEnd_61 rfl (lv_at hl 1 rfl) ?_
        have h9 := Option.some.inj hm
        subst h9
        exact hret H locs _ ls _ hP hD hS rfl dX8_lexemeEnd_62
      refine it_W (G := fun (st38 : Int32) => ∀ (H : Heap) (locs : List Loc) (ls : Array Slot), va_P D vwCl (w_X8_lexemeEnd cI aT aT_co T_co T_n) H → va_D A (w_X8_lexemeEnd cI aT aT_co T_co T_n) → va_S A s.heap H locs → lv_has ls 4 [(0, .ref aT), (2, .int e1), (3, .int st38)] → W p l e rm_X8_lexemeEnd s m args below meth c H locs 0 0 Q (F0 m 38 ls [])) (e := e4) (fun st38 x hm hG hE => ?_) fu _ hc4 H locs ls hP hD hS (lv_sub hl [2, 1, 0] rfl)
      intro H locs ls hP hD hS hl
      refine lv_iload_n hx hb dX8_lexemeEnd_38 rfl (lv_at hl 2 rfl) ?_
      refine lv_aload_n hx hb dX8_lexemeEnd_39 rfl (lv_at hl 0 rfl) ?_
      refine va_get (D := D) (ci := 8) (v := .int T_n) (C := RX8) (T := TX8) (N := 2) hx hb hts k3 hown hKv hP 0 rfl rfl 1 (by decide) k2 (fun _ h9 => h9) rfl dX8_lexemeEnd_40 ?_
      refine lv_icmp_ge (tgt := 61) hx hb dX8_lexemeEnd_43 (by decide) (fun c5 => ?_) (fun c5 => ?_)
      · replace hm := if_t c5 hm
        have h9 := hE _ (Option.some.inj hm).symm
        subst h9
        exact X4_0 H locs ls hP hD hS (lv_sub hl [0, 2] rfl)
      · replace hm := if_f c5 hm
        refine lv_aload_n hx hb dX8_lexemeEnd_46 rfl (lv_at hl 0 rfl) ?_
        refine lv_iload_n hx hb dX8_lexemeEnd_47 rfl (lv_at hl 2 rfl) ?_
        replace hm := bd_some hm
        obtain ⟨e6, hc6, hm⟩ := hm
        refine kV_i (rest := []) (ws' := (w_X8_lexemeEnd cI aT aT_co T_co T_n)) S (c_X8_kindAt l D cI cJ cZ cS aT aT_co T_co T_n st38 e6 hc6) k1 hK hP hD hS hA 0 rfl rfl rfl rfl hl.1 rfl (Nat.le_of_ble_eq_true rfl) ⟨Nat.zero_le _, Nat.zero_le _⟩ dX8_lexemeEnd_48 [0, 1] rfl rfl wa_X8_kindAt (sa_eq [] [] 2 rfl rfl rfl rfl rfl rfl rfl) (fun H locs hP hD hS => ?_)
        refine lv_iload_n hx hb dX8_lexemeEnd_51 rfl (lv_at hl 1 rfl) ?_
        refine lv_icmp_ne (tgt := 61) hx hb dX8_lexemeEnd_52 (by decide) (fun c7 => ?_) (fun c7 => ?_)
        · replace hm := if_f c7 hm
          have h9 := hE _ (Option.some.inj hm).symm
          subst h9
          exact X4_0 H locs ls hP hD hS (lv_sub hl [0, 2] rfl)
        · replace hm := if_t c7 hm
          refine lv_iinc (v := (st38 + 1)) (lv' := [(3, .int (st38 + 1)), (0, .ref aT), (2, .int e1)]) hx hb dX8_lexemeEnd_55 hl (k := 2) rfl rfl (by decide) rfl (fun ls hl => ?_)
          refine lv_goto (tgt := 38) hx hb dX8_lexemeEnd_58 (by decide) ?_
          exact hG _ (Option.some.inj hm).symm H locs ls hP hD hS (lv_sub hl [1, 2, 0] rfl)
    · replace hm := if_t c3 hm
      refine lv_iload_n hx hb dX8_lexemeEnd_36 rfl (lv_at hl 0 rfl) ?_
      have h9 := Option.some.inj hm
      subst h9
      exact hret H locs _ ls _ hP hD hS rfl dX8_lexemeEnd_37
  · replace hm := if_t c2 hm
    refine lv_aload_n hx hb dX8_lexemeEnd_15 rfl (lv_at hl 2 rfl) ?_
    refine lv_iload_n hx hb dX8_lexemeEnd_16 rfl (lv_at hl 0 rfl) ?_
    replace hm := bd_some hm
    obtain ⟨e8, hc8, hm⟩ := hm
    refine kV_i (rest := []) (ws' := (w_X8_lexemeEnd cI aT aT_co T_co T_n)) S (c_X8_kindAt l D cI cJ cZ cS aT aT_co T_co T_n (x1 + 1) e8 hc8) k1 hK hP hD hS hA 0 rfl rfl rfl rfl hl.1 rfl (Nat.le_of_ble_eq_true rfl) ⟨Nat.zero_le _, Nat.zero_le _⟩ dX8_lexemeEnd_17 [0, 1] rfl rfl wa_X8_kindAt (sa_eq [] [] 2 rfl rfl rfl rfl rfl rfl rfl) (fun H locs hP hD hS => ?_)
    refine lv_iconst (v := 1) hx hb dX8_lexemeEnd_20 (by decide) ?_
    refine lv_icmp_ne (tgt := 30) hx hb dX8_lexemeEnd_21 (by decide) (fun c9 => ?_) (fun c9 => ?_)
    · replace hm := if_f c9 hm
      refine lv_iload_n hx hb dX8_lexemeEnd_30 rfl (lv_at hl 0 rfl) ?_
      exact J31 (x1 + 1) hm H locs ls hP hD hS (lv_sub hl [2] rfl)
    · replace hm := if_t c9 hm
      refine lv_iload_n hx hb dX8_lexemeEnd_24 rfl (lv_at hl 0 rfl) ?_
      refine lv_iconst (v := 1) hx hb dX8_lexemeEnd_25 (by decide) ?_
      refine lv_iadd hx hb dX8_lexemeEnd_26 ?_
      refine lv_goto (tgt := 31) hx hb dX8_lexemeEnd_27 (by decide) ?_
      exact J31 ((x1 + 1) + 1) hm H locs ls hP hD hS (lv_sub hl [2] rfl)
set_option maxHeartbeats 4000000 in
set_option maxRecDepth 100000 in
theorem c_X10_takesSemicolon (l : Launch) (D : va_G) (cI cJ cZ cS : ClassId) (aT aT_co aR aV aV_ac aV_fa aV_in aV_yr aV_ti : Nat) (T_co : Nat → Int32) (T_n : Int32) (R_st : Int32) (V_n : Int32) (x1 : Int32) (o : Int32 × Int32 × Int32) (hm : m_X10_takesSemicolon T_co R_st V_n x1 = some o) : MI l yX10_takesSemicolon wsX10_takesSemicolon rm_X10_takesSemicolon D (TY cI cJ cZ cS) [.ref aR, .int x1] (w_X10_takesSemicolon cI aT aT_co aR aV aV_ac aV_fa aV_in aV_yr aV_ti T_co T_n R_st V_n) (w_X10_takesSemicolon cI aT aT_co aR aV aV_ac aV_fa aV_in aV_yr aV_ti T_co T_n o.2.1 o.2.2) (o.1) := by
  refine MZ_of (cc := cX10_takesSemicolon) (maxL := 2) (by decide) rfl (Nat.le_of_ble_eq_true rfl) ?_
  intro p e s m args below meth c A Q ls H locs hx hb hml hts hown hK hA hP hD hS hl hret
  have hown : s.vm.findClass RX10 = some m.cls := hown
  have hKv : va_K D vwCl (TY cI cJ cZ cS) s := hK.1
  have hl : lv_has ls 2 [(0, .ref aR), (1, .int x1)] := hl
  have S : CallFix p m c cX10_takesSemicolon 2 s args wsX10_takesSemicolon RX10 := ⟨hx, hb, hml, hown, hts⟩
  have k1 := hts (.fieldLink RX10 22 "CitationFormatter$WorksReader" "text" "LCitationFormatter$Text;") (by decide +kernel)
  have k2 : ∀ w ∈ wsX100, w ∈ wsX10_takesSemicolon := by decide +kernel
  have k3 := hts (.fieldLink RX10 34 "CitationFormatter$Text" "codes" "[I") (by decide +kernel)
  have k4 : ∀ w ∈ wsX80, w ∈ wsX10_takesSemicolon := by decide +kernel
  have k5 := hts (.fieldLink RX10 12 "CitationFormatter$WorksReader" "found" "LCitationFormatter$Works;") (by decide +kernel)
  have k6 := hts (.fieldLink RX10 26 "CitationFormatter$Works" "count" "I") (by decide +kernel)
  have k7 : ∀ w ∈ wsX90, w ∈ wsX10_takesSemicolon := by decide +kernel
  have k8 := hts (.fieldLink RX10 18 "CitationFormatter$WorksReader" "stage" "I") (by decide +kernel)
  refine lv_aload_n hx hb dX10_takesSemicolon_0 rfl (lv_at hl 0 rfl) ?_
  refine va_get (D := D) (ci := 10) (v := .ref aT) (C := RX10) (T := TX10) (N := 3) hx hb hts k2 hown hKv hP 2 rfl rfl 1 (by decide) k1 (fun _ h9 => h9) rfl dX10_takesSemicolon_1 ?_
  refine va_get (D := D) (ci := 8) (v := .ref aT_co) (C := RX8) (T := TX8) (N := 2) hx hb hts k4 hown hKv hP 0 rfl rfl 0 (by decide) k3 (fun _ h9 => h9) rfl dX10_takesSemicolon_4 ?_
  refine lv_iload_n hx hb dX10_takesSemicolon_7 rfl (lv_at hl 1 rfl) ?_
  replace hm := ck_some hm
  obtain ⟨h1, hm⟩ := hm
  refine va_iald hx hb hKv hP 1 0 rfl rfl h1 dX10_takesSemicolon_8 ?_
  refine lv_bipush (v := 59) hx hb dX10_takesSemicolon_9 (by decide) ?_
  refine lv_icmp_eq (tgt := 16) hx hb dX10_takesSemicolon_11 (by decide) (fun c2 => ?_) (fun c2 => ?_)
  · replace hm := if_t c2 hm
    refine lv_aload_n hx hb dX10_takesSemicolon_16 rfl (lv_at hl 0 rfl) ?_
    refine va_get (D := D) (ci := 10) (v := .ref aV) (C := RX10) (T := TX10) (N := 3) hx hb hts k2 hown hKv hP 2 rfl rfl 0 (by decide) k5 (fun _ h9 => h9) rfl dX10_takesSemicolon_17 ?_
    refine lv_dup hx hb dX10_takesSemicolon_20 rfl ?_
    refine va_get (D := D) (ci := 9) (v := .int V_n) (C := RX9) (T := TX9) (N := 6) hx hb hts k7 hown hKv hP 3 rfl rfl 0 (by decide) k6 (fun _ h9 => h9) rfl dX10_takesSemicolon_21 ?_
    refine lv_iconst (v := 1) hx hb dX10_takesSemicolon_24 (by decide) ?_
    refine lv_iadd hx hb dX10_takesSemicolon_25 ?_
    refine va_put (D := D) (ci := 9) (v := .int (V_n + 1)) (ty := .int) (C := RX9) (T := TX9) (N := 6) hx hb hts k7 tyX9 tyX9_ok nmX9 hown hKv hP hD hS 3 rfl rfl 0 (by decide) k6 (fun _ h9 => h9) rfl (by decide +kernel) rfl rfl (Nat.le_of_ble_eq_true rfl) dX10_takesSemicolon_26 (fun H locs hP hD hS => ?_)
    replace hP : va_P D vwCl (w_X10_takesSemicolon cI aT aT_co aR aV aV_ac aV_fa aV_in aV_yr aV_ti T_co T_n R_st (V_n + 1)) H := hP
    replace hD : va_D A (w_X10_takesSemicolon cI aT aT_co aR aV aV_ac aV_fa aV_in aV_yr aV_ti T_co T_n R_st (V_n + 1)) := hD
    refine lv_aload_n hx hb dX10_takesSemicolon_29 rfl (lv_at hl 0 rfl) ?_
    refine lv_iconst (v := 0) hx hb dX10_takesSemicolon_30 (by decide) ?_
    refine va_put (D := D) (ci := 10) (v := .int 0) (ty := .int) (C := RX10) (T := TX10) (N := 3) hx hb hts k2 tyX10 tyX10_ok nmX10 hown hKv hP hD hS 2 rfl rfl 2 (by decide) k8 (fun _ h9 => h9) rfl (by decide +kernel) rfl rfl (Nat.le_of_ble_eq_true rfl) dX10_takesSemicolon_31 (fun H locs hP hD hS => ?_)
    replace hP : va_P D vwCl (w_X10_takesSemicolon cI aT aT_co aR aV aV_ac aV_fa aV_in aV_yr aV_ti T_co T_n 0 (V_n + 1)) H := hP
    replace hD : va_D A (w_X10_takesSemicolon cI aT aT_co aR aV aV_ac aV_fa aV_in aV_yr aV_ti T_co T_n 0 (V_n + 1)) := hD
    refine lv_iconst (v := 1) hx hb dX10_takesSemicolon_34 (by decide) ?_
    have h9 := Option.some.inj hm
    subst h9
    exact hret H locs _ ls _ (Or.inr rfl) hP hD hS rfl dX10_takesSemicolon_35
  · replace hm := if_f c2 hm
    refine lv_iconst (v := 0) hx hb dX10_takesSemicolon_14 (by decide) ?_
    have h9 := Option.some.inj hm
    subst h9
    exact hret H locs _ ls _ (Or.inl rfl) hP hD hS rfl dX10_takesSemicolon_15
set_option maxHeartbeats 4000000 in
set_option maxRecDepth 100000 in
theorem c_X10_takesTitle (l : Launch) (D : va_G) (cI cJ cZ cS : ClassId) (aT aT_co aR aV aV_ac aV_fa aV_in aV_yr aV_ti : Nat) (T_co : Nat → Int32) (T_n : Int32) (R_st : Int32) (V_n : Int32) (V_ti : Nat → Int32) (x1 : Int32) (x2 : Int32) (o : Int32 × Int32 × (Nat → Int32)) (hm : m_X10_takesTitle T_co T_n R_st V_n V_ti x1 x2 = some o) : MI l yX10_takesTitle wsX10_takesTitle rm_X10_takesTitle D (TY cI cJ cZ cS) [.ref aR, .int x1, .int x2] (w_X10_takesTitle cI aT aT_co aR aV aV_ac aV_fa aV_in aV_yr aV_ti T_co T_n R_st V_n V_ti) (w_X10_takesTitle cI aT aT_co aR aV aV_ac aV_fa aV_in aV_yr aV_ti T_co T_n o.2.1 V_n o.2.2) (o.1) := by
  refine MZ_of (cc := cX10_takesTitle) (maxL := 3) (by decide) rfl (Nat.le_of_ble_eq_true rfl) ?_
  intro p e s m args below meth c A Q ls H locs hx hb hml hts hown hK hA hP hD hS hl hret
  have hown : s.vm.findClass RX10 = some m.cls := hown
  have hKv : va_K D vwCl (TY cI cJ cZ cS) s := hK.1
  have hl : lv_has ls 3 [(0, .ref aR), (1, .int x1), (2, .int x2)] := hl
  have S : CallFix p m c cX10_takesTitle 3 s args wsX10_takesTitle RX10 := ⟨hx, hb, hml, hown, hts⟩
  have k1 := hts (.fieldLink RX10 22 "CitationFormatter$WorksReader" "text" "LCitationFormatter$Text;") (by decide +kernel)
  have k2 : ∀ w ∈ wsX100, w ∈ wsX10_takesTitle := by decide +kernel
  have k3 : CallW rm_X10_takesTitle s args RX10 RX8 83 yX8_isTitle cX8_isTitle 3 (some .boolean) wsX8_isTitle rm_X8_isTitle 0 0 2 := cwV 2 hts gX10_takesTitle_X8_isTitle rfl rfl rfl (by decide +kernel) ⟨Nat.le_of_ble_eq_true rfl, Nat.le_of_ble_eq_true rfl⟩
  have k4 := hts (.fieldLink RX10 12 "CitationFormatter$WorksReader" "found" "LCitationFormatter$Works;") (by decide +kernel)
  have k5 := hts (.fieldLink RX10 86 "CitationFormatter$Works" "titles" "[I") (by decide +kernel)
  have k6 : ∀ w ∈ wsX90, w ∈ wsX10_takesTitle := by decide +kernel
  have k7 := hts (.fieldLink RX10 26 "CitationFormatter$Works" "count" "I") (by decide +kernel)
  have k8 := hts (.fieldLink RX10 34 "CitationFormatter$Text" "codes" "[I") (by decide +kernel)
  have k9 : ∀ w ∈ wsX80, w ∈ wsX10_takesTitle := by decide +kernel
  have k10 := hts (.fieldLink RX10 18 "CitationFormatter$WorksReader" "stage" "I") (by decide +kernel)
  refine lv_aload_n hx hb dX10_takesTitle_0 rfl (lv_at hl 0 rfl) ?_
  refine va_get (D := D) (ci := 10) (v := .ref aT) (C := RX10) (T := TX10) (N := 3) hx hb hts k2 hown hKv hP 2 rfl rfl 1 (by decide) k1 (fun _ h9 => h9) rfl dX10_takesTitle_1 ?_
  refine lv_iload_n hx hb dX10_takesTitle_4 rfl (lv_at hl 1 rfl) ?_
  refine lv_iload_n hx hb dX10_takesTitle_5 rfl (lv_at hl 2 rfl) ?_
  replace hm := bd_some hm
  obtain ⟨e1, hc1, hm⟩ := hm
  refine kV_i (rest := []) (ws' := (w_X10_takesTitle cI aT aT_co aR aV aV_ac aV_fa aV_in aV_yr aV_ti T_co T_n R_st V_n V_ti)) S (c_X8_isTitle l D cI cJ cZ cS aT aT_co T_co T_n x1 x2 e1 hc1) k3 hK hP hD hS hA 0 rfl rfl rfl rfl hl.1 rfl (Nat.le_of_ble_eq_true rfl) ⟨Nat.zero_le _, Nat.zero_le _⟩ dX10_takesTitle_6 [0, 1] rfl rfl wa_X8_isTitle (sa_eq [(aR, .inr (10, [.ref aV, .ref aT, .int R_st])), (aV, .inr (9, [.int V_n, .ref aV_ac, .ref aV_fa, .ref aV_in, .ref aV_yr, .ref aV_ti])), (aV_ti, .inl (cI, 8, .inl V_ti))] [2, 3, 4] 5 rfl rfl rfl rfl rfl rfl rfl) (fun H locs hP hD hS => ?_)
  refine lv_if_ne (tgt := 14) hx hb dX10_takesTitle_9 (by decide) (fun c2 => ?_) (fun c2 => ?_)
  · replace hm := if_f c2 hm
    refine lv_aload_n hx hb dX10_takesTitle_14 rfl (lv_at hl 0 rfl) ?_
    refine va_get (D := D) (ci := 10) (v := .ref aV) (C := RX10) (T := TX10) (N := 3) hx hb hts k2 hown hKv hP 2 rfl rfl 0 (by decide) k4 (fun _ h9 => h9) rfl dX10_takesTitle_15 ?_
    refine va_get (D := D) (ci := 9) (v := .ref aV_ti) (C := RX9) (T := TX9) (N := 6) hx hb hts k6 hown hKv hP 3 rfl rfl 5 (by decide) k5 (fun _ h9 => h9) rfl dX10_takesTitle_18 ?_
    refine lv_aload_n hx hb dX10_takesTitle_21 rfl (lv_at hl 0 rfl) ?_
    refine va_get (D := D) (ci := 10) (v := .ref aV) (C := RX10) (T := TX10) (N := 3) hx hb hts k2 hown hKv hP 2 rfl rfl 0 (by decide) k4 (fun _ h9 => h9) rfl dX10_takesTitle_22 ?_
    refine va_get (D := D) (ci := 9) (v := .int V_n) (C := RX9) (T := TX9) (N := 6) hx hb hts k6 hown hKv hP 3 rfl rfl 0 (by decide) k7 (fun _ h9 => h9) rfl dX10_takesTitle_25 ?_
    refine lv_aload_n hx hb dX10_takesTitle_28 rfl (lv_at hl 0 rfl) ?_
    refine va_get (D := D) (ci := 10) (v := .ref aT) (C := RX10) (T := TX10) (N := 3) hx hb hts k2 hown hKv hP 2 rfl rfl 1 (by decide) k1 (fun _ h9 => h9) rfl dX10_takesTitle_29 ?_
    refine va_get (D := D) (ci := 8) (v := .ref aT_co) (C := RX8) (T := TX8) (N := 2) hx hb hts k9 hown hKv hP 0 rfl rfl 0 (by decide) k8 (fun _ h9 => h9) rfl dX10_takesTitle_32 ?_
    refine lv_iload_n hx hb dX10_takesTitle_35 rfl (lv_at hl 1 rfl) ?_
    replace hm := ck_some hm
    obtain ⟨h3, hm⟩ := hm
    refine va_iald hx hb hKv hP 1 0 rfl rfl h3 dX10_takesTitle_36 ?_
    replace hm := ck_some hm
    obtain ⟨h4, hm⟩ := hm
    refine va_iast hx hb hKv hP hD hS 4 0 rfl rfl h4 dX10_takesTitle_37 (fun H locs hP hD hS => ?_)
    replace hP : va_P D vwCl (w_X10_takesTitle cI aT aT_co aR aV aV_ac aV_fa aV_in aV_yr aV_ti T_co T_n R_st V_n (upd V_ti (Int32.toNatClampNeg V_n) (T_co (Int32.toNatClampNeg x1)))) H := hP
    replace hD : va_D A (w_X10_takesTitle cI aT aT_co aR aV aV_ac aV_fa aV_in aV_yr aV_ti T_co T_n R_st V_n (upd V_ti (Int32.toNatClampNeg V_n) (T_co (Int32.toNatClampNeg x1)))) := hD
    refine lv_aload_n hx hb dX10_takesTitle_38 rfl (lv_at hl 0 rfl) ?_
    refine lv_iconst (v := 4) hx hb dX10_takesTitle_39 (by decide) ?_
    refine va_put (D := D) (ci := 10) (v := .int 4) (ty := .int) (C := RX10) (T := TX10) (N := 3) hx hb hts k2 tyX10 tyX10_ok nmX10 hown hKv hP hD hS 2 rfl rfl 2 (by decide) k10 (fun _ h9 => h9) rfl (by decide +kernel) rfl rfl (Nat.le_of_ble_eq_true rfl) dX10_takesTitle_40 (fun H locs hP hD hS => ?_)
    replace hP : va_P D vwCl (w_X10_takesTitle cI aT aT_co aR aV aV_ac aV_fa aV_in aV_yr aV_ti T_co T_n 4 V_n (upd V_ti (Int32.toNatClampNeg V_n) (T_co (Int32.toNatClampNeg x1)))) H := hP
    replace hD : va_D A (w_X10_takesTitle cI aT aT_co aR aV aV_ac aV_fa aV_in aV_yr aV_ti T_co T_n 4 V_n (upd V_ti (Int32.toNatClampNeg V_n) (T_co (Int32.toNatClampNeg x1)))) := hD
    refine lv_iconst (v := 1) hx hb dX10_takesTitle_43 (by decide) ?_
    have h9 := Option.some.inj hm
    subst h9
    exact hret H locs _ ls _ (Or.inr rfl) hP hD hS rfl dX10_takesTitle_44
  · replace hm := if_t c2 hm
    refine lv_iconst (v := 0) hx hb dX10_takesTitle_12 (by decide) ?_
    have h9 := Option.some.inj hm
    subst h9
    exact hret H locs _ ls _ (Or.inl rfl) hP hD hS rfl dX10_takesTitle_13
set_option maxHeartbeats 4000000 in
set_option maxRecDepth 100000 in
theorem c_X10_takesAuthor (l : Launch) (D : va_G) (cI cJ cZ cS : ClassId) (aT aT_co aR aV aV_ac aV_fa aV_in aV_yr aV_ti : Nat) (T_co : Nat → Int32) (T_n : Int32) (R_st : Int32) (V_n : Int32) (V_ac : Nat → Int32) (V_fa : Nat → Int32) (V_in : Nat → Int32) (x1 : Int32) (x2 : Int32) (o : Int32 × Int32 × (Nat → Int32) × (Nat → Int32) × (Nat → Int32)) (hm : m_X10_takesAuthor T_co T_n R_st V_n V_ac V_fa V_in x1 x2 = some o) : MI l yX10_takesAuthor wsX10_takesAuthor rm_X10_takesAuthor D (TY cI cJ cZ cS) [.ref aR, .int x1, .int x2] (w_X10_takesAuthor cI aT aT_co aR aV aV_ac aV_fa aV_in aV_yr aV_ti T_co T_n R_st V_n V_ac V_fa V_in) (w_X10_takesAuthor cI aT aT_co aR aV aV_ac aV_fa aV_in aV_yr aV_ti T_co T_n o.2.1 V_n o.2.2.1 o.2.2.2.1 o.2.2.2.2) (o.1) := by
  refine MZ_of (cc := cX10_takesAuthor) (maxL := 5) (by decide) rfl (Nat.le_of_ble_eq_true rfl) ?_
  intro p e s m args below meth c A Q ls H locs hx hb hml hts hown hK hA hP hD hS hl hret
  have hown : s.vm.findClass RX10 = some m.cls := hown
  have hKv : va_K D vwCl (TY cI cJ cZ cS) s := hK.1
  have hl : lv_has ls 5 [(0, .ref aR), (1, .int x1), (2, .int x2)] := hl
  have S : CallFix p m c cX10_takesAuthor 5 s args wsX10_takesAuthor RX10 := ⟨hx, hb, hml, hown, hts⟩
  have k1 := hts (.fieldLink RX10 12 "CitationFormatter$WorksReader" "found" "LCitationFormatter$Works;") (by decide +kernel)
  have k2 : ∀ w ∈ wsX100, w ∈ wsX10_takesAuthor := by decide +kernel
  have k3 := hts (.fieldLink RX10 65 "CitationFormatter$Works" "authorCounts" "[I") (by decide +kernel)
  have k4 : ∀ w ∈ wsX90, w ∈ wsX10_takesAuthor := by decide +kernel
  have k5 := hts (.fieldLink RX10 26 "CitationFormatter$Works" "count" "I") (by decide +kernel)
  have k6 := hts (.fieldLink RX10 22 "CitationFormatter$WorksReader" "text" "LCitationFormatter$Text;") (by decide +kernel)
  have k7 : CallW rm_X10_takesAuthor s args RX10 RX8 68 yX8_isAuthor cX8_isAuthor 3 (some .boolean) wsX8_isAuthor rm_X8_isAuthor 0 0 2 := cwV 2 hts gX10_takesAuthor_X8_isAuthor rfl rfl rfl (by decide +kernel) ⟨Nat.le_of_ble_eq_true rfl, Nat.le_of_ble_eq_true rfl⟩
  have k8 := hts (.fieldLink RX10 71 "CitationFormatter$Works" "families" "[I") (by decide +kernel)
  have k9 := hts (.fieldLink RX10 34 "CitationFormatter$Text" "codes" "[I") (by decide +kernel)
  have k10 : ∀ w ∈ wsX80, w ∈ wsX10_takesAuthor := by decide +kernel
  have k11 := hts (.fieldLink RX10 74 "CitationFormatter$Works" "initials" "[I") (by decide +kernel)
  have k12 := hts (.fieldLink RX10 18 "CitationFormatter$WorksReader" "stage" "I") (by decide +kernel)
  have J33 : ∀ (R_st_j33 : Int32) (V_ac_j33 : Nat → Int32) (V_fa_j33 : Nat → Int32) (V_in_j33 : Nat → Int32), (m_X10_takesAuthor_J33 R_st_j33 V_ac_j33 V_fa_j33 V_in_j33 = some o) → ∀ (H : Heap) (locs : List Loc) (ls : Array Slot), va_P D vwCl (w_X10_takesAuthor cI aT aT_co aR aV aV_ac aV_fa aV_in aV_yr aV_ti T_co T_n R_st_j33 V_n V_ac_j33 V_fa_j33 V_in_j33) H → va_D A (w_X10_takesAuthor cI aT aT_co aR aV aV_ac aV_fa aV_in aV_yr aV_ti T_co T_n R_st_j33 V_n V_ac_j33 V_fa_j33 V_in_j33) → va_S A s.heap H locs → lv_has ls 5 [(0, .ref aR)] → W p l e rm_X10_takesAuthor s m args below meth c H locs 0 0 Q (F0 m 33 ls []) := by
    intro R_st_j33 V_ac_j33 V_fa_j33 V_in_j33 hm H locs ls hP hD hS hl
    refine lv_iconst (v := 0) hx hb dX10_takesAuthor_33 (by decide) ?_
    have h9 := Option.some.inj hm
    subst h9
    exact hret H locs _ ls _ (Or.inl rfl) hP hD hS rfl dX10_takesAuthor_34
  refine lv_aload_n hx hb dX10_takesAuthor_0 rfl (lv_at hl 0 rfl) ?_
  refine va_get (D := D) (ci := 10) (v := .ref aV) (C := RX10) (T := TX10) (N := 3) hx hb hts k2 hown hKv hP 2 rfl rfl 0 (by decide) k1 (fun _ h9 => h9) rfl dX10_takesAuthor_1 ?_
  refine va_get (D := D) (ci := 9) (v := .ref aV_ac) (C := RX9) (T := TX9) (N := 6) hx hb hts k4 hown hKv hP 3 rfl rfl 1 (by decide) k3 (fun _ h9 => h9) rfl dX10_takesAuthor_4 ?_
  refine lv_aload_n hx hb dX10_takesAuthor_7 rfl (lv_at hl 0 rfl) ?_
  refine va_get (D := D) (ci := 10) (v := .ref aV) (C := RX10) (T := TX10) (N := 3) hx hb hts k2 hown hKv hP 2 rfl rfl 0 (by decide) k1 (fun _ h9 => h9) rfl dX10_takesAuthor_8 ?_
  refine va_get (D := D) (ci := 9) (v := .int V_n) (C := RX9) (T := TX9) (N := 6) hx hb hts k4 hown hKv hP 3 rfl rfl 0 (by decide) k5 (fun _ h9 => h9) rfl dX10_takesAuthor_11 ?_
  replace hm := ck_some hm
  obtain ⟨h1, hm⟩ := hm
  refine va_iald hx hb hKv hP 4 0 rfl rfl h1 dX10_takesAuthor_14 ?_
  refine lv_istore_n (lv' := [(3, .int (V_ac (Int32.toNatClampNeg V_n))), (0, .ref aR), (1, .int x1), (2, .int x2)]) hx hb dX10_takesAuthor_15 rfl hl (by decide) rfl (fun ls hl => ?_)
  refine lv_aload_n hx hb dX10_takesAuthor_16 rfl (lv_at hl 1 rfl) ?_
  refine va_get (D := D) (ci := 10) (v := .ref aT) (C := RX10) (T := TX10) (N := 3) hx hb hts k2 hown hKv hP 2 rfl rfl 1 (by decide) k6 (fun _ h9 => h9) rfl dX10_takesAuthor_17 ?_
  refine lv_iload_n hx hb dX10_takesAuthor_20 rfl (lv_at hl 2 rfl) ?_
  refine lv_iload_n hx hb dX10_takesAuthor_21 rfl (lv_at hl 3 rfl) ?_
  replace hm := bd_some hm
  obtain ⟨e2, hc2, hm⟩ := hm
  refine kV_i (rest := []) (ws' := (w_X10_takesAuthor cI aT aT_co aR aV aV_ac aV_fa aV_in aV_yr aV_ti T_co T_n R_st V_n V_ac V_fa V_in)) S (c_X8_isAuthor l D cI cJ cZ cS aT aT_co T_co T_n x1 x2 e2 hc2) k7 hK hP hD hS hA 0 rfl rfl rfl rfl hl.1 rfl (Nat.le_of_ble_eq_true rfl) ⟨Nat.zero_le _, Nat.zero_le _⟩ dX10_takesAuthor_22 [0, 1] rfl rfl wa_X8_isAuthor (sa_eq [(aR, .inr (10, [.ref aV, .ref aT, .int R_st])), (aV, .inr (9, [.int V_n, .ref aV_ac, .ref aV_fa, .ref aV_in, .ref aV_yr, .ref aV_ti])), (aV_ac, .inl (cI, 8, .inl V_ac)), (aV_fa, .inl (cI, 32, .inl V_fa)), (aV_in, .inl (cI, 32, .inl V_in))] [2, 3, 4, 5, 6] 7 rfl rfl rfl rfl rfl rfl rfl) (fun H locs hP hD hS => ?_)
  refine lv_if_eq (tgt := 33) hx hb dX10_takesAuthor_25 (by decide) (fun c3 => ?_) (fun c3 => ?_)
  · replace hm := if_t c3 hm
    exact J33 R_st V_ac V_fa V_in hm H locs ls hP hD hS (lv_sub hl [1] rfl)
  · replace hm := if_f c3 hm
    refine lv_iload_n hx hb dX10_takesAuthor_28 rfl (lv_at hl 0 rfl) ?_
    refine lv_iconst (v := 4) hx hb dX10_takesAuthor_29 (by decide) ?_
    refine lv_icmp_lt (tgt := 35) hx hb dX10_takesAuthor_30 (by decide) (fun c4 => ?_) (fun c4 => ?_)
    · replace hm := if_t c4 hm
      refine lv_aload_n hx hb dX10_takesAuthor_35 rfl (lv_at hl 1 rfl) ?_
      refine va_get (D := D) (ci := 10) (v := .ref aV) (C := RX10) (T := TX10) (N := 3) hx hb hts k2 hown hKv hP 2 rfl rfl 0 (by decide) k1 (fun _ h9 => h9) rfl dX10_takesAuthor_36 ?_
      refine va_get (D := D) (ci := 9) (v := .int V_n) (C := RX9) (T := TX9) (N := 6) hx hb hts k4 hown hKv hP 3 rfl rfl 0 (by decide) k5 (fun _ h9 => h9) rfl dX10_takesAuthor_39 ?_
      refine lv_iconst (v := 4) hx hb dX10_takesAuthor_42 (by decide) ?_
      refine lv_imul hx hb dX10_takesAuthor_43 ?_
      refine lv_iload_n hx hb dX10_takesAuthor_44 rfl (lv_at hl 0 rfl) ?_
      refine lv_iadd hx hb dX10_takesAuthor_45 ?_
      refine lv_istore (lv' := [(4, .int ((V_n * 4) + (V_ac (Int32.toNatClampNeg V_n)))), (3, .int (V_ac (Int32.toNatClampNeg V_n))), (0, .ref aR), (1, .int x1), (2, .int x2)]) hx hb dX10_takesAuthor_46 hl (by decide) rfl (fun ls hl => ?_)
      refine lv_aload_n hx hb dX10_takesAuthor_48 rfl (lv_at hl 2 rfl) ?_
      refine va_get (D := D) (ci := 10) (v := .ref aV) (C := RX10) (T := TX10) (N := 3) hx hb hts k2 hown hKv hP 2 rfl rfl 0 (by decide) k1 (fun _ h9 => h9) rfl dX10_takesAuthor_49 ?_
      refine va_get (D := D) (ci := 9) (v := .ref aV_fa) (C := RX9) (T := TX9) (N := 6) hx hb hts k4 hown hKv hP 3 rfl rfl 2 (by decide) k8 (fun _ h9 => h9) rfl dX10_takesAuthor_52 ?_
      refine lv_iload hx hb dX10_takesAuthor_55 (lv_at hl 0 rfl) ?_
      refine lv_aload_n hx hb dX10_takesAuthor_57 rfl (lv_at hl 2 rfl) ?_
      refine va_get (D := D) (ci := 10) (v := .ref aT) (C := RX10) (T := TX10) (N := 3) hx hb hts k2 hown hKv hP 2 rfl rfl 1 (by decide) k6 (fun _ h9 => h9) rfl dX10_takesAuthor_58 ?_
      refine va_get (D := D) (ci := 8) (v := .ref aT_co) (C := RX8) (T := TX8) (N := 2) hx hb hts k10 hown hKv hP 0 rfl rfl 0 (by decide) k9 (fun _ h9 => h9) rfl dX10_takesAuthor_61 ?_
      refine lv_iload_n hx hb dX10_takesAuthor_64 rfl (lv_at hl 3 rfl) ?_
      replace hm := ck_some hm
      obtain ⟨h5, hm⟩ := hm
      refine va_iald hx hb hKv hP 1 0 rfl rfl h5 dX10_takesAuthor_65 ?_
      replace hm := ck_some hm
      obtain ⟨h6, hm⟩ := hm
      refine va_iast hx hb hKv hP hD hS 5 0 rfl rfl h6 dX10_takesAuthor_66 (fun H locs hP hD hS => ?_)
      replace hP : va_P D vwCl (w_X10_takesAuthor cI aT aT_co aR aV aV_ac aV_fa aV_in aV_yr aV_ti T_co T_n R_st V_n V_ac (upd V_fa (Int32.toNatClampNeg ((V_n * 4) + (V_ac (Int32.toNatClampNeg V_n)))) (T_co (Int32.toNatClampNeg x1))) V_in) H := hP
      replace hD : va_D A (w_X10_takesAuthor cI aT aT_co aR aV aV_ac aV_fa aV_in aV_yr aV_ti T_co T_n R_st V_n V_ac (upd V_fa (Int32.toNatClampNeg ((V_n * 4) + (V_ac (Int32.toNatClampNeg V_n)))) (T_co (Int32.toNatClampNeg x1))) V_in) := hD
      refine lv_aload_n hx hb dX10_takesAuthor_67 rfl (lv_at hl 2 rfl) ?_
      refine va_get (D := D) (ci := 10) (v := .ref aV) (C := RX10) (T := TX10) (N := 3) hx hb hts k2 hown hKv hP 2 rfl rfl 0 (by decide) k1 (fun _ h9 => h9) rfl dX10_takesAuthor_68 ?_
      refine va_get (D := D) (ci := 9) (v := .ref aV_in) (C := RX9) (T := TX9) (N := 6) hx hb hts k4 hown hKv hP 3 rfl rfl 3 (by decide) k11 (fun _ h9 => h9) rfl dX10_takesAuthor_71 ?_
      refine lv_iload hx hb dX10_takesAuthor_74 (lv_at hl 0 rfl) ?_
      refine lv_aload_n hx hb dX10_takesAuthor_76 rfl (lv_at hl 2 rfl) ?_
      refine va_get (D := D) (ci := 10) (v := .ref aT) (C := RX10) (T := TX10) (N := 3) hx hb hts k2 hown hKv hP 2 rfl rfl 1 (by decide) k6 (fun _ h9 => h9) rfl dX10_takesAuthor_77 ?_
      refine va_get (D := D) (ci := 8) (v := .ref aT_co) (C := RX8) (T := TX8) (N := 2) hx hb hts k10 hown hKv hP 0 rfl rfl 0 (by decide) k9 (fun _ h9 => h9) rfl dX10_takesAuthor_80 ?_
      refine lv_iload_n hx hb dX10_takesAuthor_83 rfl (lv_at hl 3 rfl) ?_
      refine lv_iconst (v := 1) hx hb dX10_takesAuthor_84 (by decide) ?_
      refine lv_iadd hx hb dX10_takesAuthor_85 ?_
      replace hm := ck_some hm
      obtain ⟨h7, hm⟩ := hm
      refine va_iald hx hb hKv hP 1 0 rfl rfl h7 dX10_takesAuthor_86 ?_
      replace hm := ck_some hm
      obtain ⟨h8, hm⟩ := hm
      refine va_iast hx hb hKv hP hD hS 6 0 rfl rfl h8 dX10_takesAuthor_87 (fun H locs hP hD hS => ?_)
      replace hP : va_P D vwCl (w_X10_takesAuthor cI aT aT_co aR aV aV_ac aV_fa aV_in aV_yr aV_ti T_co T_n R_st V_n V_ac (upd V_fa (Int32.toNatClampNeg ((V_n * 4) + (V_ac (Int32.toNatClampNeg V_n)))) (T_co (Int32.toNatClampNeg x1))) (upd V_in (Int32.toNatClampNeg ((V_n * 4) + (V_ac (Int32.toNatClampNeg V_n)))) (T_co (Int32.toNatClampNeg (x1 + 1))))) H := hP
      replace hD : va_D A (w_X10_takesAuthor cI aT aT_co aR aV aV_ac aV_fa aV_in aV_yr aV_ti T_co T_n R_st V_n V_ac (upd V_fa (Int32.toNatClampNeg ((V_n * 4) + (V_ac (Int32.toNatClampNeg V_n)))) (T_co (Int32.toNatClampNeg x1))) (upd V_in (Int32.toNatClampNeg ((V_n * 4) + (V_ac (Int32.toNatClampNeg V_n)))) (T_co (Int32.toNatClampNeg (x1 + 1))))) := hD
      refine lv_aload_n hx hb dX10_takesAuthor_88 rfl (lv_at hl 2 rfl) ?_
      refine va_get (D := D) (ci := 10) (v := .ref aV) (C := RX10) (T := TX10) (N := 3) hx hb hts k2 hown hKv hP 2 rfl rfl 0 (by decide) k1 (fun _ h9 => h9) rfl dX10_takesAuthor_89 ?_
      refine va_get (D := D) (ci := 9) (v := .ref aV_ac) (C := RX9) (T := TX9) (N := 6) hx hb hts k4 hown hKv hP 3 rfl rfl 1 (by decide) k3 (fun _ h9 => h9) rfl dX10_takesAuthor_92 ?_
      refine lv_aload_n hx hb dX10_takesAuthor_95 rfl (lv_at hl 2 rfl) ?_
      refine va_get (D := D) (ci := 10) (v := .ref aV) (C := RX10) (T := TX10) (N := 3) hx hb hts k2 hown hKv hP 2 rfl rfl 0 (by decide) k1 (fun _ h9 => h9) rfl dX10_takesAuthor_96 ?_
      refine va_get (D := D) (ci := 9) (v := .int V_n) (C := RX9) (T := TX9) (N := 6) hx hb hts k4 hown hKv hP 3 rfl rfl 0 (by decide) k5 (fun _ h9 => h9) rfl dX10_takesAuthor_99 ?_
      refine lv_iload_n hx hb dX10_takesAuthor_102 rfl (lv_at hl 1 rfl) ?_
      refine lv_iconst (v := 1) hx hb dX10_takesAuthor_103 (by decide) ?_
      refine lv_iadd hx hb dX10_takesAuthor_104 ?_
      replace hm := ck_some hm
      obtain ⟨h9, hm⟩ := hm
      refine va_iast hx hb hKv hP hD hS 4 0 rfl rfl h9 dX10_takesAuthor_105 (fun H locs hP hD hS => ?_)
      replace hP : va_P D vwCl (w_X10_takesAuthor cI aT aT_co aR aV aV_ac aV_fa aV_in aV_yr aV_ti T_co T_n R_st V_n (upd V_ac (Int32.toNatClampNeg V_n) ((V_ac (Int32.toNatClampNeg V_n)) + 1)) (upd V_fa (Int32.toNatClampNeg ((V_n * 4) + (V_ac (Int32.toNatClampNeg V_n)))) (T_co (Int32.toNatClampNeg x1))) (upd V_in (Int32.toNatClampNeg ((V_n * 4) + (V_ac (Int32.toNatClampNeg V_n)))) (T_co (Int32.toNatClampNeg (x1 + 1))))) H := hP
      replace hD : va_D A (w_X10_takesAuthor cI aT aT_co aR aV aV_ac aV_fa aV_in aV_yr aV_ti T_co T_n R_st V_n (upd V_ac (Int32.toNatClampNeg V_n) ((V_ac (Int32.toNatClampNeg V_n)) + 1)) (upd V_fa (Int32.toNatClampNeg ((V_n * 4) + (V_ac (Int32.toNatClampNeg V_n)))) (T_co (Int32.toNatClampNeg x1))) (upd V_in (Int32.toNatClampNeg ((V_n * 4) + (V_ac (Int32.toNatClampNeg V_n)))) (T_co (Int32.toNatClampNeg (x1 + 1))))) := hD
      refine lv_aload_n hx hb dX10_takesAuthor_106 rfl (lv_at hl 2 rfl) ?_
      refine lv_iconst (v := 2) hx hb dX10_takesAuthor_107 (by decide) ?_
      refine va_put (D := D) (ci := 10) (v := .int 2) (ty := .int) (C := RX10) (T := TX10) (N := 3) hx hb hts k2 tyX10 tyX10_ok nmX10 hown hKv hP hD hS 2 rfl rfl 2 (by decide) k12 (fun _ h9 => h9) rfl (by decide +kernel) rfl rfl (Nat.le_of_ble_eq_true rfl) dX10_takesAuthor_108 (fun H locs hP hD hS => ?_)
      replace hP : va_P D vwCl (w_X10_takesAuthor cI aT aT_co aR aV aV_ac aV_fa aV_in aV_yr aV_ti T_co T_n 2 V_n (upd V_ac (Int32.toNatClampNeg V_n) ((V_ac (Int32.toNatClampNeg V_n)) + 1)) (upd V_fa (Int32.toNatClampNeg ((V_n * 4) + (V_ac (Int32.toNatClampNeg V_n)))) (T_co (Int32.toNatClampNeg x1))) (upd V_in (Int32.toNatClampNeg ((V_n * 4) + (V_ac (Int32.toNatClampNeg V_n)))) (T_co (Int32.toNatClampNeg (x1 + 1))))) H := hP
      replace hD : va_D A (w_X10_takesAuthor cI aT aT_co aR aV aV_ac aV_fa aV_in aV_yr aV_ti T_co T_n 2 V_n (upd V_ac (Int32.toNatClampNeg V_n) ((V_ac (Int32.toNatClampNeg V_n)) + 1)) (upd V_fa (Int32.toNatClampNeg ((V_n * 4) + (V_ac (Int32.toNatClampNeg V_n)))) (T_co (Int32.toNatClampNeg x1))) (upd V_in (Int32.toNatClampNeg ((V_n * 4) + (V_ac (Int32.toNatClampNeg V_n)))) (T_co (Int32.toNatClampNeg (x1 + 1))))) := hD
      refine lv_iconst (v := 1) hx hb dX10_takesAuthor_111 (by decide) ?_
      have h9 := Option.some.inj hm
      subst h9
      exact hret H locs _ ls _ (Or.inr rfl) hP hD hS rfl dX10_takesAuthor_112
    · replace hm := if_f c4 hm
      exact J33 R_st V_ac V_fa V_in hm H locs ls hP hD hS (lv_sub hl [1] rfl)
set_option maxHeartbeats 4000000 in
set_option maxRecDepth 100000 in
theorem c_X10_takesYear (l : Launch) (D : va_G) (cI cJ cZ cS : ClassId) (aT aT_co aR aV aV_ac aV_fa aV_in aV_yr aV_ti : Nat) (T_co : Nat → Int32) (T_n : Int32) (R_st : Int32) (V_n : Int32) (V_yr : Nat → Int32) (x1 : Int32) (x2 : Int32) (o : Int32 × Int32 × (Nat → Int32)) (hm : m_X10_takesYear T_co T_n R_st V_n V_yr x1 x2 = some o) : MI l yX10_takesYear wsX10_takesYear rm_X10_takesYear D (TY cI cJ cZ cS) [.ref aR, .int x1, .int x2] (w_X10_takesYear cI aT aT_co aR aV aV_ac aV_fa aV_in aV_yr aV_ti T_co T_n R_st V_n V_yr) (w_X10_takesYear cI aT aT_co aR aV aV_ac aV_fa aV_in aV_yr aV_ti T_co T_n o.2.1 V_n o.2.2) (o.1) := by
  refine MZ_of (cc := cX10_takesYear) (maxL := 4) (by decide) rfl (Nat.le_of_ble_eq_true rfl) ?_
  intro p e s m args below meth c A Q ls H locs hx hb hml hts hown hK hA hP hD hS hl hret
  have hown : s.vm.findClass RX10 = some m.cls := hown
  have hKv : va_K D vwCl (TY cI cJ cZ cS) s := hK.1
  have hl : lv_has ls 4 [(0, .ref aR), (1, .int x1), (2, .int x2)] := hl
  have S : CallFix p m c cX10_takesYear 4 s args wsX10_takesYear RX10 := ⟨hx, hb, hml, hown, hts⟩
  have k1 := hts (.fieldLink RX10 22 "CitationFormatter$WorksReader" "text" "LCitationFormatter$Text;") (by decide +kernel)
  have k2 : ∀ w ∈ wsX100, w ∈ wsX10_takesYear := by decide +kernel
  have k3 : CallW rm_X10_takesYear s args RX10 RX8 77 yX8_isYear cX8_isYear 3 (some .boolean) wsX8_isYear rm_X8_isYear 0 0 2 := cwV 2 hts gX10_takesYear_X8_isYear rfl rfl rfl (by decide +kernel) ⟨Nat.le_of_ble_eq_true rfl, Nat.le_of_ble_eq_true rfl⟩
  have k4 := hts (.fieldLink RX10 34 "CitationFormatter$Text" "codes" "[I") (by decide +kernel)
  have k5 : ∀ w ∈ wsX80, w ∈ wsX10_takesYear := by decide +kernel
  have k6 := hts (.fieldLink RX10 12 "CitationFormatter$WorksReader" "found" "LCitationFormatter$Works;") (by decide +kernel)
  have k7 := hts (.fieldLink RX10 80 "CitationFormatter$Works" "years" "[I") (by decide +kernel)
  have k8 : ∀ w ∈ wsX90, w ∈ wsX10_takesYear := by decide +kernel
  have k9 := hts (.fieldLink RX10 26 "CitationFormatter$Works" "count" "I") (by decide +kernel)
  have k10 := hts (.fieldLink RX10 18 "CitationFormatter$WorksReader" "stage" "I") (by decide +kernel)
  refine lv_aload_n hx hb dX10_takesYear_0 rfl (lv_at hl 0 rfl) ?_
  refine va_get (D := D) (ci := 10) (v := .ref aT) (C := RX10) (T := TX10) (N := 3) hx hb hts k2 hown hKv hP 2 rfl rfl 1 (by decide) k1 (fun _ h9 => h9) rfl dX10_takesYear_1 ?_
  refine lv_iload_n hx hb dX10_takesYear_4 rfl (lv_at hl 1 rfl) ?_
  refine lv_iload_n hx hb dX10_takesYear_5 rfl (lv_at hl 2 rfl) ?_
  replace hm := bd_some hm
  obtain ⟨e1, hc1, hm⟩ := hm
  refine kV_i (rest := []) (ws' := (w_X10_takesYear cI aT aT_co aR aV aV_ac aV_fa aV_in aV_yr aV_ti T_co T_n R_st V_n V_yr)) S (c_X8_isYear l D cI cJ cZ cS aT aT_co T_co T_n x1 x2 e1 hc1) k3 hK hP hD hS hA 0 rfl rfl rfl rfl hl.1 rfl (Nat.le_of_ble_eq_true rfl) ⟨Nat.zero_le _, Nat.zero_le _⟩ dX10_takesYear_6 [0, 1] rfl rfl wa_X8_isYear (sa_eq [(aR, .inr (10, [.ref aV, .ref aT, .int R_st])), (aV, .inr (9, [.int V_n, .ref aV_ac, .ref aV_fa, .ref aV_in, .ref aV_yr, .ref aV_ti])), (aV_yr, .inl (cI, 8, .inl V_yr))] [2, 3, 4] 5 rfl rfl rfl rfl rfl rfl rfl) (fun H locs hP hD hS => ?_)
  refine lv_if_ne (tgt := 14) hx hb dX10_takesYear_9 (by decide) (fun c2 => ?_) (fun c2 => ?_)
  · replace hm := if_f c2 hm
    refine lv_aload_n hx hb dX10_takesYear_14 rfl (lv_at hl 0 rfl) ?_
    refine va_get (D := D) (ci := 10) (v := .ref aT) (C := RX10) (T := TX10) (N := 3) hx hb hts k2 hown hKv hP 2 rfl rfl 1 (by decide) k1 (fun _ h9 => h9) rfl dX10_takesYear_15 ?_
    refine va_get (D := D) (ci := 8) (v := .ref aT_co) (C := RX8) (T := TX8) (N := 2) hx hb hts k5 hown hKv hP 0 rfl rfl 0 (by decide) k4 (fun _ h9 => h9) rfl dX10_takesYear_18 ?_
    refine lv_iload_n hx hb dX10_takesYear_21 rfl (lv_at hl 1 rfl) ?_
    replace hm := ck_some hm
    obtain ⟨h3, hm⟩ := hm
    refine va_iald hx hb hKv hP 1 0 rfl rfl h3 dX10_takesYear_22 ?_
    refine lv_bipush (v := 48) hx hb dX10_takesYear_23 (by decide) ?_
    refine lv_isub hx hb dX10_takesYear_25 ?_
    refine lv_istore_n (lv' := [(3, .int ((T_co (Int32.toNatClampNeg x1)) - 48)), (0, .ref aR), (1, .int x1), (2, .int x2)]) hx hb dX10_takesYear_26 rfl hl (by decide) rfl (fun ls hl => ?_)
    refine lv_aload_n hx hb dX10_takesYear_27 rfl (lv_at hl 1 rfl) ?_
    refine va_get (D := D) (ci := 10) (v := .ref aV) (C := RX10) (T := TX10) (N := 3) hx hb hts k2 hown hKv hP 2 rfl rfl 0 (by decide) k6 (fun _ h9 => h9) rfl dX10_takesYear_28 ?_
    refine va_get (D := D) (ci := 9) (v := .ref aV_yr) (C := RX9) (T := TX9) (N := 6) hx hb hts k8 hown hKv hP 3 rfl rfl 4 (by decide) k7 (fun _ h9 => h9) rfl dX10_takesYear_31 ?_
    refine lv_aload_n hx hb dX10_takesYear_34 rfl (lv_at hl 1 rfl) ?_
    refine va_get (D := D) (ci := 10) (v := .ref aV) (C := RX10) (T := TX10) (N := 3) hx hb hts k2 hown hKv hP 2 rfl rfl 0 (by decide) k6 (fun _ h9 => h9) rfl dX10_takesYear_35 ?_
    refine va_get (D := D) (ci := 9) (v := .int V_n) (C := RX9) (T := TX9) (N := 6) hx hb hts k8 hown hKv hP 3 rfl rfl 0 (by decide) k9 (fun _ h9 => h9) rfl dX10_takesYear_38 ?_
    refine lv_bipush (v := 10) hx hb dX10_takesYear_41 (by decide) ?_
    refine lv_iload_n hx hb dX10_takesYear_43 rfl (lv_at hl 0 rfl) ?_
    refine lv_imul hx hb dX10_takesYear_44 ?_
    refine lv_aload_n hx hb dX10_takesYear_45 rfl (lv_at hl 1 rfl) ?_
    refine va_get (D := D) (ci := 10) (v := .ref aT) (C := RX10) (T := TX10) (N := 3) hx hb hts k2 hown hKv hP 2 rfl rfl 1 (by decide) k1 (fun _ h9 => h9) rfl dX10_takesYear_46 ?_
    refine va_get (D := D) (ci := 8) (v := .ref aT_co) (C := RX8) (T := TX8) (N := 2) hx hb hts k5 hown hKv hP 0 rfl rfl 0 (by decide) k4 (fun _ h9 => h9) rfl dX10_takesYear_49 ?_
    refine lv_iload_n hx hb dX10_takesYear_52 rfl (lv_at hl 2 rfl) ?_
    refine lv_iconst (v := 1) hx hb dX10_takesYear_53 (by decide) ?_
    refine lv_iadd hx hb dX10_takesYear_54 ?_
    replace hm := ck_some hm
    obtain ⟨h4, hm⟩ := hm
    refine va_iald hx hb hKv hP 1 0 rfl rfl h4 dX10_takesYear_55 ?_
    refine lv_iadd hx hb dX10_takesYear_56 ?_
    refine lv_bipush (v := 48) hx hb dX10_takesYear_57 (by decide) ?_
    refine lv_isub hx hb dX10_takesYear_59 ?_
    replace hm := ck_some hm
    obtain ⟨h5, hm⟩ := hm
    refine va_iast hx hb hKv hP hD hS 4 0 rfl rfl h5 dX10_takesYear_60 (fun H locs hP hD hS => ?_)
    replace hP : va_P D vwCl (w_X10_takesYear cI aT aT_co aR aV aV_ac aV_fa aV_in aV_yr aV_ti T_co T_n R_st V_n (upd V_yr (Int32.toNatClampNeg V_n) (((10 * ((T_co (Int32.toNatClampNeg x1)) - 48)) + (T_co (Int32.toNatClampNeg (x1 + 1)))) - 48))) H := hP
    replace hD : va_D A (w_X10_takesYear cI aT aT_co aR aV aV_ac aV_fa aV_in aV_yr aV_ti T_co T_n R_st V_n (upd V_yr (Int32.toNatClampNeg V_n) (((10 * ((T_co (Int32.toNatClampNeg x1)) - 48)) + (T_co (Int32.toNatClampNeg (x1 + 1)))) - 48))) := hD
    refine lv_aload_n hx hb dX10_takesYear_61 rfl (lv_at hl 1 rfl) ?_
    refine lv_iconst (v := 3) hx hb dX10_takesYear_62 (by decide) ?_
    refine va_put (D := D) (ci := 10) (v := .int 3) (ty := .int) (C := RX10) (T := TX10) (N := 3) hx hb hts k2 tyX10 tyX10_ok nmX10 hown hKv hP hD hS 2 rfl rfl 2 (by decide) k10 (fun _ h9 => h9) rfl (by decide +kernel) rfl rfl (Nat.le_of_ble_eq_true rfl) dX10_takesYear_63 (fun H locs hP hD hS => ?_)
    replace hP : va_P D vwCl (w_X10_takesYear cI aT aT_co aR aV aV_ac aV_fa aV_in aV_yr aV_ti T_co T_n 3 V_n (upd V_yr (Int32.toNatClampNeg V_n) (((10 * ((T_co (Int32.toNatClampNeg x1)) - 48)) + (T_co (Int32.toNatClampNeg (x1 + 1)))) - 48))) H := hP
    replace hD : va_D A (w_X10_takesYear cI aT aT_co aR aV aV_ac aV_fa aV_in aV_yr aV_ti T_co T_n 3 V_n (upd V_yr (Int32.toNatClampNeg V_n) (((10 * ((T_co (Int32.toNatClampNeg x1)) - 48)) + (T_co (Int32.toNatClampNeg (x1 + 1)))) - 48))) := hD
    refine lv_iconst (v := 1) hx hb dX10_takesYear_66 (by decide) ?_
    have h9 := Option.some.inj hm
    subst h9
    exact hret H locs _ ls _ (Or.inr rfl) hP hD hS rfl dX10_takesYear_67
  · replace hm := if_t c2 hm
    refine lv_iconst (v := 0) hx hb dX10_takesYear_12 (by decide) ?_
    have h9 := Option.some.inj hm
    subst h9
    exact hret H locs _ ls _ (Or.inl rfl) hP hD hS rfl dX10_takesYear_13
set_option maxHeartbeats 4000000 in
set_option maxRecDepth 100000 in
theorem c_X10_takesWorkWord (l : Launch) (D : va_G) (cI cJ cZ cS : ClassId) (aT aT_co aR aV aV_ac aV_fa aV_in aV_yr aV_ti : Nat) (T_co : Nat → Int32) (T_n : Int32) (R_st : Int32) (V_n : Int32) (V_ac : Nat → Int32) (x1 : Int32) (x2 : Int32) (o : Int32 × Int32 × (Nat → Int32)) (hm : m_X10_takesWorkWord T_co T_n R_st V_n V_ac x1 x2 = some o) : MI l yX10_takesWorkWord wsX10_takesWorkWord rm_X10_takesWorkWord D (TY cI cJ cZ cS) [.ref aR, .int x1, .int x2] (w_X10_takesWorkWord cI aT aT_co aR aV aV_ac aV_fa aV_in aV_yr aV_ti T_co T_n R_st V_n V_ac) (w_X10_takesWorkWord cI aT aT_co aR aV aV_ac aV_fa aV_in aV_yr aV_ti T_co T_n o.2.1 V_n o.2.2) (o.1) := by
  refine MZ_of (cc := cX10_takesWorkWord) (maxL := 3) (by decide) rfl (Nat.le_of_ble_eq_true rfl) ?_
  intro p e s m args below meth c A Q ls H locs hx hb hml hts hown hK hA hP hD hS hl hret
  have hown : s.vm.findClass RX10 = some m.cls := hown
  have hKv : va_K D vwCl (TY cI cJ cZ cS) s := hK.1
  have hl : lv_has ls 3 [(0, .ref aR), (1, .int x1), (2, .int x2)] := hl
  have S : CallFix p m c cX10_takesWorkWord 3 s args wsX10_takesWorkWord RX10 := ⟨hx, hb, hml, hown, hts⟩
  have k1 := hts (.fieldLink RX10 22 "CitationFormatter$WorksReader" "text" "LCitationFormatter$Text;") (by decide +kernel)
  have k2 : ∀ w ∈ wsX100, w ∈ wsX10_takesWorkWord := by decide +kernel
  have k3 : CallW rm_X10_takesWorkWord s args RX10 RX8 62 yX8_isWorkWord cX8_isWorkWord 3 (some .boolean) wsX8_isWorkWord rm_X8_isWorkWord 0 0 2 := cwV 2 hts gX10_takesWorkWord_X8_isWorkWord rfl rfl rfl (by decide +kernel) ⟨Nat.le_of_ble_eq_true rfl, Nat.le_of_ble_eq_true rfl⟩
  have k4 := hts (.fieldLink RX10 12 "CitationFormatter$WorksReader" "found" "LCitationFormatter$Works;") (by decide +kernel)
  have k5 := hts (.fieldLink RX10 26 "CitationFormatter$Works" "count" "I") (by decide +kernel)
  have k6 : ∀ w ∈ wsX90, w ∈ wsX10_takesWorkWord := by decide +kernel
  have k7 := hts (.fieldLink RX10 65 "CitationFormatter$Works" "authorCounts" "[I") (by decide +kernel)
  have k8 := hts (.fieldLink RX10 18 "CitationFormatter$WorksReader" "stage" "I") (by decide +kernel)
  have J24 : ∀ (R_st_j24 : Int32) (V_ac_j24 : Nat → Int32), (m_X10_takesWorkWord_J24 R_st_j24 V_ac_j24 = some o) → ∀ (H : Heap) (locs : List Loc) (ls : Array Slot), va_P D vwCl (w_X10_takesWorkWord cI aT aT_co aR aV aV_ac aV_fa aV_in aV_yr aV_ti T_co T_n R_st_j24 V_n V_ac_j24) H → va_D A (w_X10_takesWorkWord cI aT aT_co aR aV aV_ac aV_fa aV_in aV_yr aV_ti T_co T_n R_st_j24 V_n V_ac_j24) → va_S A s.heap H locs → lv_has ls 3 [(0, .ref aR)] → W p l e rm_X10_takesWorkWord s m args below meth c H locs 0 0 Q (F0 m 24 ls []) := by
    intro R_st_j24 V_ac_j24 hm H locs ls hP hD hS hl
    refine lv_iconst (v := 0) hx hb dX10_takesWorkWord_24 (by decide) ?_
    have h9 := Option.some.inj hm
    subst h9
    exact hret H locs _ ls _ (Or.inl rfl) hP hD hS rfl dX10_takesWorkWord_25
  refine lv_aload_n hx hb dX10_takesWorkWord_0 rfl (lv_at hl 0 rfl) ?_
  refine va_get (D := D) (ci := 10) (v := .ref aT) (C := RX10) (T := TX10) (N := 3) hx hb hts k2 hown hKv hP 2 rfl rfl 1 (by decide) k1 (fun _ h9 => h9) rfl dX10_takesWorkWord_1 ?_
  refine lv_iload_n hx hb dX10_takesWorkWord_4 rfl (lv_at hl 1 rfl) ?_
  refine lv_iload_n hx hb dX10_takesWorkWord_5 rfl (lv_at hl 2 rfl) ?_
  replace hm := bd_some hm
  obtain ⟨e1, hc1, hm⟩ := hm
  refine kV_i (rest := []) (ws' := (w_X10_takesWorkWord cI aT aT_co aR aV aV_ac aV_fa aV_in aV_yr aV_ti T_co T_n R_st V_n V_ac)) S (c_X8_isWorkWord l D cI cJ cZ cS aT aT_co T_co T_n x1 x2 e1 hc1) k3 hK hP hD hS hA 0 rfl rfl rfl rfl hl.1 rfl (Nat.le_of_ble_eq_true rfl) ⟨Nat.zero_le _, Nat.zero_le _⟩ dX10_takesWorkWord_6 [0, 1] rfl rfl wa_X8_isWorkWord (sa_eq [(aR, .inr (10, [.ref aV, .ref aT, .int R_st])), (aV, .inr (9, [.int V_n, .ref aV_ac, .ref aV_fa, .ref aV_in, .ref aV_yr, .ref aV_ti])), (aV_ac, .inl (cI, 8, .inl V_ac))] [2, 3, 4] 5 rfl rfl rfl rfl rfl rfl rfl) (fun H locs hP hD hS => ?_)
  refine lv_if_eq (tgt := 24) hx hb dX10_takesWorkWord_9 (by decide) (fun c2 => ?_) (fun c2 => ?_)
  · replace hm := if_t c2 hm
    exact J24 R_st V_ac hm H locs ls hP hD hS (lv_sub hl [0] rfl)
  · replace hm := if_f c2 hm
    refine lv_aload_n hx hb dX10_takesWorkWord_12 rfl (lv_at hl 0 rfl) ?_
    refine va_get (D := D) (ci := 10) (v := .ref aV) (C := RX10) (T := TX10) (N := 3) hx hb hts k2 hown hKv hP 2 rfl rfl 0 (by decide) k4 (fun _ h9 => h9) rfl dX10_takesWorkWord_13 ?_
    refine va_get (D := D) (ci := 9) (v := .int V_n) (C := RX9) (T := TX9) (N := 6) hx hb hts k6 hown hKv hP 3 rfl rfl 0 (by decide) k5 (fun _ h9 => h9) rfl dX10_takesWorkWord_16 ?_
    refine lv_bipush (v := 8) hx hb dX10_takesWorkWord_19 (by decide) ?_
    refine lv_icmp_lt (tgt := 26) hx hb dX10_takesWorkWord_21 (by decide) (fun c3 => ?_) (fun c3 => ?_)
    · replace hm := if_t c3 hm
      refine lv_aload_n hx hb dX10_takesWorkWord_26 rfl (lv_at hl 0 rfl) ?_
      refine va_get (D := D) (ci := 10) (v := .ref aV) (C := RX10) (T := TX10) (N := 3) hx hb hts k2 hown hKv hP 2 rfl rfl 0 (by decide) k4 (fun _ h9 => h9) rfl dX10_takesWorkWord_27 ?_
      refine va_get (D := D) (ci := 9) (v := .ref aV_ac) (C := RX9) (T := TX9) (N := 6) hx hb hts k6 hown hKv hP 3 rfl rfl 1 (by decide) k7 (fun _ h9 => h9) rfl dX10_takesWorkWord_30 ?_
      refine lv_aload_n hx hb dX10_takesWorkWord_33 rfl (lv_at hl 0 rfl) ?_
      refine va_get (D := D) (ci := 10) (v := .ref aV) (C := RX10) (T := TX10) (N := 3) hx hb hts k2 hown hKv hP 2 rfl rfl 0 (by decide) k4 (fun _ h9 => h9) rfl dX10_takesWorkWord_34 ?_
      refine va_get (D := D) (ci := 9) (v := .int V_n) (C := RX9) (T := TX9) (N := 6) hx hb hts k6 hown hKv hP 3 rfl rfl 0 (by decide) k5 (fun _ h9 => h9) rfl dX10_takesWorkWord_37 ?_
      refine lv_iconst (v := 0) hx hb dX10_takesWorkWord_40 (by decide) ?_
      replace hm := ck_some hm
      obtain ⟨h4, hm⟩ := hm
      refine va_iast hx hb hKv hP hD hS 4 0 rfl rfl h4 dX10_takesWorkWord_41 (fun H locs hP hD hS => ?_)
      replace hP : va_P D vwCl (w_X10_takesWorkWord cI aT aT_co aR aV aV_ac aV_fa aV_in aV_yr aV_ti T_co T_n R_st V_n (upd V_ac (Int32.toNatClampNeg V_n) 0)) H := hP
      replace hD : va_D A (w_X10_takesWorkWord cI aT aT_co aR aV aV_ac aV_fa aV_in aV_yr aV_ti T_co T_n R_st V_n (upd V_ac (Int32.toNatClampNeg V_n) 0)) := hD
      refine lv_aload_n hx hb dX10_takesWorkWord_42 rfl (lv_at hl 0 rfl) ?_
      refine lv_iconst (v := 1) hx hb dX10_takesWorkWord_43 (by decide) ?_
      refine va_put (D := D) (ci := 10) (v := .int 1) (ty := .int) (C := RX10) (T := TX10) (N := 3) hx hb hts k2 tyX10 tyX10_ok nmX10 hown hKv hP hD hS 2 rfl rfl 2 (by decide) k8 (fun _ h9 => h9) rfl (by decide +kernel) rfl rfl (Nat.le_of_ble_eq_true rfl) dX10_takesWorkWord_44 (fun H locs hP hD hS => ?_)
      replace hP : va_P D vwCl (w_X10_takesWorkWord cI aT aT_co aR aV aV_ac aV_fa aV_in aV_yr aV_ti T_co T_n 1 V_n (upd V_ac (Int32.toNatClampNeg V_n) 0)) H := hP
      replace hD : va_D A (w_X10_takesWorkWord cI aT aT_co aR aV aV_ac aV_fa aV_in aV_yr aV_ti T_co T_n 1 V_n (upd V_ac (Int32.toNatClampNeg V_n) 0)) := hD
      refine lv_iconst (v := 1) hx hb dX10_takesWorkWord_47 (by decide) ?_
      have h9 := Option.some.inj hm
      subst h9
      exact hret H locs _ ls _ (Or.inr rfl) hP hD hS rfl dX10_takesWorkWord_48
    · replace hm := if_f c3 hm
      exact J24 R_st V_ac hm H locs ls hP hD hS (lv_sub hl [0] rfl)
set_option maxHeartbeats 4000000 in
set_option maxRecDepth 100000 in
theorem c_X10_takes (l : Launch) (D : va_G) (cI cJ cZ cS : ClassId) (aT aT_co aR aV aV_ac aV_fa aV_in aV_yr aV_ti : Nat) (T_co : Nat → Int32) (T_n : Int32) (R_st : Int32) (V_n : Int32) (V_ac : Nat → Int32) (V_fa : Nat → Int32) (V_in : Nat → Int32) (V_yr : Nat → Int32) (V_ti : Nat → Int32) (x1 : Int32) (x2 : Int32) (o : Int32 × Int32 × Int32 × (Nat → Int32) × (Nat → Int32) × (Nat → Int32) × (Nat → Int32) × (Nat → Int32)) (hm : m_X10_takes T_co T_n R_st V_n V_ac V_fa V_in V_yr V_ti x1 x2 = some o) : MI l yX10_takes wsX10_takes rm_X10_takes D (TY cI cJ cZ cS) [.ref aR, .int x1, .int x2] (w_X10_takes cI aT aT_co aR aV aV_ac aV_fa aV_in aV_yr aV_ti T_co T_n R_st V_n V_ac V_fa V_in V_yr V_ti) (w_X10_takes cI aT aT_co aR aV aV_ac aV_fa aV_in aV_yr aV_ti T_co T_n o.2.1 o.2.2.1 o.2.2.2.1 o.2.2.2.2.1 o.2.2.2.2.2.1 o.2.2.2.2.2.2.1 o.2.2.2.2.2.2.2) (o.1) := by
  refine MZ_of (cc := cX10_takes) (maxL := 3) (by decide) rfl (Nat.le_of_ble_eq_true rfl) ?_
  intro p e s m args below meth c A Q ls H locs hx hb hml hts hown hK hA hP hD hS hl hret
  have hown : s.vm.findClass RX10 = some m.cls := hown
  have hKv : va_K D vwCl (TY cI cJ cZ cS) s := hK.1
  have hl : lv_has ls 3 [(0, .ref aR), (1, .int x1), (2, .int x2)] := hl
  have S : CallFix p m c cX10_takes 3 s args wsX10_takes RX10 := ⟨hx, hb, hml, hown, hts⟩
  have k1 := hts (.fieldLink RX10 18 "CitationFormatter$WorksReader" "stage" "I") (by decide +kernel)
  have k2 : ∀ w ∈ wsX100, w ∈ wsX10_takes := by decide +kernel
  have k3 : CallW rm_X10_takes s args RX10 RX10 46 yX10_takesWorkWord cX10_takesWorkWord 3 (some .boolean) wsX10_takesWorkWord rm_X10_takesWorkWord 0 0 2 := cwV 2 hts gX10_takes_X10_takesWorkWord rfl rfl rfl (by decide +kernel) ⟨Nat.le_of_ble_eq_true rfl, Nat.le_of_ble_eq_true rfl⟩
  have k4 : CallW rm_X10_takes s args RX10 RX10 49 yX10_takesAuthor cX10_takesAuthor 5 (some .boolean) wsX10_takesAuthor rm_X10_takesAuthor 0 0 2 := cwV 2 hts gX10_takes_X10_takesAuthor rfl rfl rfl (by decide +kernel) ⟨Nat.le_of_ble_eq_true rfl, Nat.le_of_ble_eq_true rfl⟩
  have k5 : CallW rm_X10_takes s args RX10 RX10 52 yX10_takesYear cX10_takesYear 4 (some .boolean) wsX10_takesYear rm_X10_takesYear 0 0 2 := cwV 2 hts gX10_takes_X10_takesYear rfl rfl rfl (by decide +kernel) ⟨Nat.le_of_ble_eq_true rfl, Nat.le_of_ble_eq_true rfl⟩
  have k6 : CallW rm_X10_takes s args RX10 RX10 55 yX10_takesTitle cX10_takesTitle 3 (some .boolean) wsX10_takesTitle rm_X10_takesTitle 0 0 2 := cwV 2 hts gX10_takes_X10_takesTitle rfl rfl rfl (by decide +kernel) ⟨Nat.le_of_ble_eq_true rfl, Nat.le_of_ble_eq_true rfl⟩
  have k7 : CallW rm_X10_takes s args RX10 RX10 58 yX10_takesSemicolon cX10_takesSemicolon 2 (some .boolean) wsX10_takesSemicolon rm_X10_takesSemicolon 0 0 1 := cwV 1 hts gX10_takes_X10_takesSemicolon rfl rfl rfl (by decide +kernel) ⟨Nat.le_of_ble_eq_true rfl, Nat.le_of_ble_eq_true rfl⟩
  have J73 : ∀ (y0_j73 : Int32) (R_st_j73 : Int32) (V_n_j73 : Int32) (V_ac_j73 : Nat → Int32) (V_fa_j73 : Nat → Int32) (V_in_j73 : Nat → Int32) (V_yr_j73 : Nat → Int32) (V_ti_j73 : Nat → Int32), (m_X10_takes_J73 y0_j73 R_st_j73 V_n_j73 V_ac_j73 V_fa_j73 V_in_j73 V_yr_j73 V_ti_j73 = some o) → ∀ (H : Heap) (locs : List Loc) (ls : Array Slot), va_P D vwCl (w_X10_takes cI aT aT_co aR aV aV_ac aV_fa aV_in aV_yr aV_ti T_co T_n R_st_j73 V_n_j73 V_ac_j73 V_fa_j73 V_in_j73 V_yr_j73 V_ti_j73) H → va_D A (w_X10_takes cI aT aT_co aR aV aV_ac aV_fa aV_in aV_yr aV_ti T_co T_n R_st_j73 V_n_j73 V_ac_j73 V_fa_j73 V_in_j73 V_yr_j73 V_ti_j73) → va_S A s.heap H locs → lv_has ls 3 [(0, .ref aR)] → W p l e rm_X10_takes s m args below meth c H locs 0 0 Q (F0 m 73 ls [.int y0_j73]) := by
    intro y0_j73 R_st_j73 V_n_j73 V_ac_j73 V_fa_j73 V_in_j73 V_yr_j73 V_ti_j73 hm H locs ls hP hD hS hl
    replace hm := ckb_some hm
    obtain ⟨h1, hm⟩ := hm
    have h9 := Option.some.inj hm
    subst h9
    exact hret H locs _ ls _ h1 hP hD hS rfl dX10_takes_73
  have J68 : ∀ (R_st_j68 : Int32) (V_n_j68 : Int32) (V_ac_j68 : Nat → Int32) (V_fa_j68 : Nat → Int32) (V_in_j68 : Nat → Int32) (V_yr_j68 : Nat → Int32) (V_ti_j68 : Nat → Int32), (m_X10_takes_J68 R_st_j68 V_n_j68 V_ac_j68 V_fa_j68 V_in_j68 V_yr_j68 V_ti_j68 = some o) → ∀ (H : Heap) (locs : List Loc) (ls : Array Slot), va_P D vwCl (w_X10_takes cI aT aT_co aR aV aV_ac aV_fa aV_in aV_yr aV_ti T_co T_n R_st_j68 V_n_j68 V_ac_j68 V_fa_j68 V_in_j68 V_yr_j68 V_ti_j68) H → va_D A (w_X10_takes cI aT aT_co aR aV aV_ac aV_fa aV_in aV_yr aV_ti T_co T_n R_st_j68 V_n_j68 V_ac_j68 V_fa_j68 V_in_j68 V_yr_j68 V_ti_j68) → va_S A s.heap H locs → lv_has ls 3 [(0, .ref aR)] → W p l e rm_X10_takes s m args below meth c H locs 0 0 Q (F0 m 68 ls []) := by
    intro R_st_j68 V_n_j68 V_ac_j68 V_fa_j68 V_in_j68 V_yr_j68 V_ti_j68 hm H locs ls hP hD hS hl
    refine lv_iconst (v := 1) hx hb dX10_takes_68 (by decide) ?_
    refine lv_goto (tgt := 73) hx hb dX10_takes_69 (by decide) ?_
    exact J73 1 R_st_j68 V_n_j68 V_ac_j68 V_fa_j68 V_in_j68 V_yr_j68 V_ti_j68 hm H locs ls hP hD hS (lv_sub hl [0] rfl)
  refine lv_aload_n hx hb dX10_takes_0 rfl (lv_at hl 0 rfl) ?_
  refine va_get (D := D) (ci := 10) (v := .int R_st) (C := RX10) (T := TX10) (N := 3) hx hb hts k2 hown hKv hP 2 rfl rfl 2 (by decide) k1 (fun _ h9 => h9) rfl dX10_takes_1 ?_
  by_cases c2 : R_st = 0
  · replace hm := if_t c2 hm
    refine lv_tableIn (tgt := 36) hx hb dX10_takes_4 (by rw [c2]; decide) (by rw [c2]; decide) (by rw [c2]; rfl) (by decide) ?_
    refine lv_aload_n hx hb dX10_takes_36 rfl (lv_at hl 0 rfl) ?_
    refine lv_iload_n hx hb dX10_takes_37 rfl (lv_at hl 1 rfl) ?_
    refine lv_iload_n hx hb dX10_takes_38 rfl (lv_at hl 2 rfl) ?_
    replace hm := bd_some hm
    obtain ⟨e3, hc3, hm⟩ := hm
    refine kV_i (rest := []) (ws' := (w_X10_takes cI aT aT_co aR aV aV_ac aV_fa aV_in aV_yr aV_ti T_co T_n e3.2.1 V_n e3.2.2 V_fa V_in V_yr V_ti)) S (c_X10_takesWorkWord l D cI cJ cZ cS aT aT_co aR aV aV_ac aV_fa aV_in aV_yr aV_ti T_co T_n R_st V_n V_ac x1 x2 e3 hc3) k3 hK hP hD hS hA 2 rfl rfl rfl rfl hl.1 rfl (Nat.le_of_ble_eq_true rfl) ⟨Nat.zero_le _, Nat.zero_le _⟩ dX10_takes_39 [0, 1, 2, 3, 4] rfl rfl wa_X10_takesWorkWord (sa_eq [(aV_fa, .inl (cI, 32, .inl V_fa)), (aV_in, .inl (cI, 32, .inl V_in)), (aV_yr, .inl (cI, 8, .inl V_yr)), (aV_ti, .inl (cI, 8, .inl V_ti))] [5, 6, 7, 8] 9 rfl rfl rfl rfl rfl rfl rfl) (fun H locs hP hD hS => ?_)
    replace hm := ckb_some hm
    obtain ⟨h4, hm⟩ := hm
    have h9 := Option.some.inj hm
    subst h9
    exact hret H locs _ ls _ h4 hP hD hS rfl dX10_takes_42
  · replace hm := if_f c2 hm
    by_cases c5 : R_st = 1
    · replace hm := if_t c5 hm
      refine lv_tableIn (tgt := 43) hx hb dX10_takes_4 (by rw [c5]; decide) (by rw [c5]; decide) (by rw [c5]; rfl) (by decide) ?_
      refine lv_aload_n hx hb dX10_takes_43 rfl (lv_at hl 0 rfl) ?_
      refine lv_iload_n hx hb dX10_takes_44 rfl (lv_at hl 1 rfl) ?_
      refine lv_iload_n hx hb dX10_takes_45 rfl (lv_at hl 2 rfl) ?_
      replace hm := bd_some hm
      obtain ⟨e6, hc6, hm⟩ := hm
      obtain ⟨e6_0, e6_1, e6_2, e6_3, e6_4⟩ := e6
      refine kV_i (rest := []) (ws' := (w_X10_takes cI aT aT_co aR aV aV_ac aV_fa aV_in aV_yr aV_ti T_co T_n e6_1 V_n e6_2 e6_3 e6_4 V_yr V_ti)) S (c_X10_takesAuthor l D cI cJ cZ cS aT aT_co aR aV aV_ac aV_fa aV_in aV_yr aV_ti T_co T_n R_st V_n V_ac V_fa V_in x1 x2 (e6_0, e6_1, e6_2, e6_3, e6_4) hc6) k4 hK hP hD hS hA 2 rfl rfl rfl rfl hl.1 rfl (Nat.le_of_ble_eq_true rfl) ⟨Nat.zero_le _, Nat.zero_le _⟩ dX10_takes_46 [0, 1, 2, 3, 4, 5, 6] rfl rfl wa_X10_takesAuthor (sa_eq [(aV_yr, .inl (cI, 8, .inl V_yr)), (aV_ti, .inl (cI, 8, .inl V_ti))] [7, 8] 9 rfl rfl rfl rfl rfl rfl rfl) (fun H locs hP hD hS => ?_)
      replace hm := ckb_some hm
      obtain ⟨h7, hm⟩ := hm
      have h9 := Option.some.inj hm
      subst h9
      exact hret H locs _ ls _ h7 hP hD hS rfl dX10_takes_49
    · replace hm := if_f c5 hm
      by_cases c8 : R_st = 2
      · replace hm := if_t c8 hm
        refine lv_tableIn (tgt := 50) hx hb dX10_takes_4 (by rw [c8]; decide) (by rw [c8]; decide) (by rw [c8]; rfl) (by decide) ?_
        refine lv_aload_n hx hb dX10_takes_50 rfl (lv_at hl 0 rfl) ?_
        refine lv_iload_n hx hb dX10_takes_51 rfl (lv_at hl 1 rfl) ?_
        refine lv_iload_n hx hb dX10_takes_52 rfl (lv_at hl 2 rfl) ?_
        replace hm := bd_some hm
        obtain ⟨e9, hc9, hm⟩ := hm
        obtain ⟨e9_0, e9_1, e9_2, e9_3, e9_4⟩ := e9
        refine kV_i (rest := []) (ws' := (w_X10_takes cI aT aT_co aR aV aV_ac aV_fa aV_in aV_yr aV_ti T_co T_n e9_1 V_n e9_2 e9_3 e9_4 V_yr V_ti)) S (c_X10_takesAuthor l D cI cJ cZ cS aT aT_co aR aV aV_ac aV_fa aV_in aV_yr aV_ti T_co T_n R_st V_n V_ac V_fa V_in x1 x2 (e9_0, e9_1, e9_2, e9_3, e9_4) hc9) k4 hK hP hD hS hA 2 rfl rfl rfl rfl hl.1 rfl (Nat.le_of_ble_eq_true rfl) ⟨Nat.zero_le _, Nat.zero_le _⟩ dX10_takes_53 [0, 1, 2, 3, 4, 5, 6] rfl rfl wa_X10_takesAuthor (sa_eq [(aV_yr, .inl (cI, 8, .inl V_yr)), (aV_ti, .inl (cI, 8, .inl V_ti))] [7, 8] 9 rfl rfl rfl rfl rfl rfl rfl) (fun H locs hP hD hS => ?_)
        refine lv_if_ne (tgt := 68) hx hb dX10_takes_56 (by decide) (fun c10 => ?_) (fun c10 => ?_)
        · replace hm := if_f c10 hm
          exact J68 e9_1 V_n e9_2 e9_3 e9_4 V_yr V_ti hm H locs ls hP hD hS (lv_sub hl [0] rfl)
        · replace hm := if_t c10 hm
          refine lv_aload_n hx hb dX10_takes_59 rfl (lv_at hl 0 rfl) ?_
          refine lv_iload_n hx hb dX10_takes_60 rfl (lv_at hl 1 rfl) ?_
          refine lv_iload_n hx hb dX10_takes_61 rfl (lv_at hl 2 rfl) ?_
          replace hm := bd_some hm
          obtain ⟨e11, hc11, hm⟩ := hm
          refine kV_i (rest := []) (ws' := (w_X10_takes cI aT aT_co aR aV aV_ac aV_fa aV_in aV_yr aV_ti T_co T_n e11.2.1 V_n e9_2 e9_3 e9_4 e11.2.2 V_ti)) S (c_X10_takesYear l D cI cJ cZ cS aT aT_co aR aV aV_ac aV_fa aV_in aV_yr aV_ti T_co T_n e9_1 V_n V_yr x1 x2 e11 hc11) k5 hK hP hD hS hA 2 rfl rfl rfl rfl hl.1 rfl (Nat.le_of_ble_eq_true rfl) ⟨Nat.zero_le _, Nat.zero_le _⟩ dX10_takes_62 [0, 1, 2, 3, 7] rfl rfl wa_X10_takesYear (sa_eq [(aV_ac, .inl (cI, 8, .inl e9_2)), (aV_fa, .inl (cI, 32, .inl e9_3)), (aV_in, .inl (cI, 32, .inl e9_4)), (aV_ti, .inl (cI, 8, .inl V_ti))] [4, 5, 6, 8] 9 rfl rfl rfl rfl rfl rfl rfl) (fun H locs hP hD hS => ?_)
          refine lv_if_eq (tgt := 72) hx hb dX10_takes_65 (by decide) (fun c12 => ?_) (fun c12 => ?_)
          · replace hm := if_t c12 hm
            refine lv_iconst (v := 0) hx hb dX10_takes_72 (by decide) ?_
            exact J73 0 e11.2.1 V_n e9_2 e9_3 e9_4 e11.2.2 V_ti hm H locs ls hP hD hS (lv_sub hl [0] rfl)
          · replace hm := if_f c12 hm
            exact J68 e11.2.1 V_n e9_2 e9_3 e9_4 e11.2.2 V_ti hm H locs ls hP hD hS (lv_sub hl [0] rfl)
      · replace hm := if_f c8 hm
        by_cases c13 : R_st = 3
        · replace hm := if_t c13 hm
          refine lv_tableIn (tgt := 74) hx hb dX10_takes_4 (by rw [c13]; decide) (by rw [c13]; decide) (by rw [c13]; rfl) (by decide) ?_
          refine lv_aload_n hx hb dX10_takes_74 rfl (lv_at hl 0 rfl) ?_
          refine lv_iload_n hx hb dX10_takes_75 rfl (lv_at hl 1 rfl) ?_
          refine lv_iload_n hx hb dX10_takes_76 rfl (lv_at hl 2 rfl) ?_
          replace hm := bd_some hm
          obtain ⟨e14, hc14, hm⟩ := hm
          refine kV_i (rest := []) (ws' := (w_X10_takes cI aT aT_co aR aV aV_ac aV_fa aV_in aV_yr aV_ti T_co T_n e14.2.1 V_n V_ac V_fa V_in V_yr e14.2.2)) S (c_X10_takesTitle l D cI cJ cZ cS aT aT_co aR aV aV_ac aV_fa aV_in aV_yr aV_ti T_co T_n R_st V_n V_ti x1 x2 e14 hc14) k6 hK hP hD hS hA 2 rfl rfl rfl rfl hl.1 rfl (Nat.le_of_ble_eq_true rfl) ⟨Nat.zero_le _, Nat.zero_le _⟩ dX10_takes_77 [0, 1, 2, 3, 8] rfl rfl wa_X10_takesTitle (sa_eq [(aV_ac, .inl (cI, 8, .inl V_ac)), (aV_fa, .inl (cI, 32, .inl V_fa)), (aV_in, .inl (cI, 32, .inl V_in)), (aV_yr, .inl (cI, 8, .inl V_yr))] [4, 5, 6, 7] 9 rfl rfl rfl rfl rfl rfl rfl) (fun H locs hP hD hS => ?_)
          replace hm := ckb_some hm
          obtain ⟨h15, hm⟩ := hm
          have h9 := Option.some.inj hm
          subst h9
          exact hret H locs _ ls _ h15 hP hD hS rfl dX10_takes_80
        · replace hm := if_f c13 hm
          refine lv_tableOut (tgt := 81) hx hb dX10_takes_4 (sw_out0_3 c2 c5 c8 c13) (by decide) ?_
          refine lv_aload_n hx hb dX10_takes_81 rfl (lv_at hl 0 rfl) ?_
          refine lv_iload_n hx hb dX10_takes_82 rfl (lv_at hl 1 rfl) ?_
          replace hm := bd_some hm
          obtain ⟨e16, hc16, hm⟩ := hm
          refine kV_i (rest := []) (ws' := (w_X10_takes cI aT aT_co aR aV aV_ac aV_fa aV_in aV_yr aV_ti T_co T_n e16.2.1 e16.2.2 V_ac V_fa V_in V_yr V_ti)) S (c_X10_takesSemicolon l D cI cJ cZ cS aT aT_co aR aV aV_ac aV_fa aV_in aV_yr aV_ti T_co T_n R_st V_n x1 e16 hc16) k7 hK hP hD hS hA 2 rfl rfl rfl rfl hl.1 rfl (Nat.le_of_ble_eq_true rfl) ⟨Nat.zero_le _, Nat.zero_le _⟩ dX10_takes_83 [0, 1, 2, 3] rfl rfl wa_X10_takesSemicolon (sa_eq [(aV_ac, .inl (cI, 8, .inl V_ac)), (aV_fa, .inl (cI, 32, .inl V_fa)), (aV_in, .inl (cI, 32, .inl V_in)), (aV_yr, .inl (cI, 8, .inl V_yr)), (aV_ti, .inl (cI, 8, .inl V_ti))] [4, 5, 6, 7, 8] 9 rfl rfl rfl rfl rfl rfl rfl) (fun H locs hP hD hS => ?_)
          replace hm := ckb_some hm
          obtain ⟨h17, hm⟩ := hm
          have h9 := Option.some.inj hm
          subst h9
          exact hret H locs _ ls _ h17 hP hD hS rfl dX10_takes_86
set_option maxHeartbeats 4000000 in
set_option maxRecDepth 100000 in
theorem c_X10_read (l : Launch) (D : va_G) (cI cJ cZ cS : ClassId) (aT aT_co aR aV aV_ac aV_fa aV_in aV_yr aV_ti : Nat) (T_co : Nat → Int32) (T_n : Int32) (R_st : Int32) (V_n : Int32) (V_ac : Nat → Int32) (V_fa : Nat → Int32) (V_in : Nat → Int32) (V_yr : Nat → Int32) (V_ti : Nat → Int32) (o : Int32 × Int32 × Int32 × (Nat → Int32) × (Nat → Int32) × (Nat → Int32) × (Nat → Int32) × (Nat → Int32)) (hm : m_X10_read T_co T_n R_st V_n V_ac V_fa V_in V_yr V_ti = some o) : MI l yX10_read wsX10_read rm_X10_read D (TY cI cJ cZ cS) [.ref aR] (w_X10_read cI aT aT_co aR aV aV_ac aV_fa aV_in aV_yr aV_ti T_co T_n R_st V_n V_ac V_fa V_in V_yr V_ti) (w_X10_read cI aT aT_co aR aV aV_ac aV_fa aV_in aV_yr aV_ti T_co T_n o.2.1 o.2.2.1 o.2.2.2.1 o.2.2.2.2.1 o.2.2.2.2.2.1 o.2.2.2.2.2.2.1 o.2.2.2.2.2.2.2) (o.1) := by
  refine MI_of (cc := cX10_read) (maxL := 3) (by decide) rfl (Nat.le_of_ble_eq_true rfl) ?_
  intro p e s m args below meth c A Q ls H locs hx hb hml hts hown hK hA hP hD hS hl hret
  have hown : s.vm.findClass RX10 = some m.cls := hown
  have hKv : va_K D vwCl (TY cI cJ cZ cS) s := hK.1
  have hl : lv_has ls 3 [(0, .ref aR)] := hl
  have S : CallFix p m c cX10_read 3 s args wsX10_read RX10 := ⟨hx, hb, hml, hown, hts⟩
  have k1 := hts (.fieldLink RX10 12 "CitationFormatter$WorksReader" "found" "LCitationFormatter$Works;") (by decide +kernel)
  have k2 : ∀ w ∈ wsX100, w ∈ wsX10_read := by decide +kernel
  have k3 := hts (.fieldLink RX10 26 "CitationFormatter$Works" "count" "I") (by decide +kernel)
  have k4 : ∀ w ∈ wsX90, w ∈ wsX10_read := by decide +kernel
  have k5 := hts (.fieldLink RX10 18 "CitationFormatter$WorksReader" "stage" "I") (by decide +kernel)
  have k6 := hts (.fieldLink RX10 22 "CitationFormatter$WorksReader" "text" "LCitationFormatter$Text;") (by decide +kernel)
  have k7 := hts (.fieldLink RX10 29 "CitationFormatter$Text" "length" "I") (by decide +kernel)
  have k8 : ∀ w ∈ wsX80, w ∈ wsX10_read := by decide +kernel
  have k9 := hts (.fieldLink RX10 34 "CitationFormatter$Text" "codes" "[I") (by decide +kernel)
  have k10 : CallW rm_X10_read s args RX10 RX8 38 yX8_lexemeEnd cX8_lexemeEnd 4 (some .int) wsX8_lexemeEnd rm_X8_lexemeEnd 0 0 1 := cwV 1 hts gX10_read_X8_lexemeEnd rfl rfl rfl (by decide +kernel) ⟨Nat.le_of_ble_eq_true rfl, Nat.le_of_ble_eq_true rfl⟩
  have k11 : CallW rm_X10_read s args RX10 RX10 42 yX10_takes cX10_takes 3 (some .boolean) wsX10_takes rm_X10_takes 0 0 2 := cwV 2 hts gX10_read_X10_takes rfl rfl rfl (by decide +kernel) ⟨Nat.le_of_ble_eq_true rfl, Nat.le_of_ble_eq_true rfl⟩
  have J96 : ∀ (y0_j96 : Int32) (R_st_j96 : Int32) (V_n_j96 : Int32) (V_ac_j96 : Nat → Int32) (V_fa_j96 : Nat → Int32) (V_in_j96 : Nat → Int32) (V_yr_j96 : Nat → Int32) (V_ti_j96 : Nat → Int32), (m_X10_read_J96 y0_j96 R_st_j96 V_n_j96 V_ac_j96 V_fa_j96 V_in_j96 V_yr_j96 V_ti_j96 = some o) → ∀ (H : Heap) (locs : List Loc) (ls : Array Slot), va_P D vwCl (w_X10_read cI aT aT_co aR aV aV_ac aV_fa aV_in aV_yr aV_ti T_co T_n R_st_j96 V_n_j96 V_ac_j96 V_fa_j96 V_in_j96 V_yr_j96 V_ti_j96) H → va_D A (w_X10_read cI aT aT_co aR aV aV_ac aV_fa aV_in aV_yr aV_ti T_co T_n R_st_j96 V_n_j96 V_ac_j96 V_fa_j96 V_in_j96 V_yr_j96 V_ti_j96) → va_S A s.heap H locs → lv_has ls 3 [(0, .ref aR)] → W p l e rm_X10_read s m args below meth c H locs 0 0 Q (F0 m 96 ls [.int y0_j96]) := by
    intro y0_j96 R_st_j96 V_n_j96 V_ac_j96 V_fa_j96 V_in_j96 V_yr_j96 V_ti_j96 hm H locs ls hP hD hS hl
    have h9 := Option.some.inj hm
    subst h9
    exact hret H locs _ ls _ hP hD hS rfl dX10_read_96
  refine lv_aload_n hx hb dX10_read_0 rfl (lv_at hl 0 rfl) ?_
  refine va_get (D := D) (ci := 10) (v := .ref aV) (C := RX10) (T := TX10) (N := 3) hx hb hts k2 hown hKv hP 2 rfl rfl 0 (by decide) k1 (fun _ h9 => h9) rfl dX10_read_1 ?_
  refine lv_iconst (v := 0) hx hb dX10_read_4 (by decide) ?_
  refine va_put (D := D) (ci := 9) (v := .int 0) (ty := .int) (C := RX9) (T := TX9) (N := 6) hx hb hts k4 tyX9 tyX9_ok nmX9 hown hKv hP hD hS 3 rfl rfl 0 (by decide) k3 (fun _ h9 => h9) rfl (by decide +kernel) rfl rfl (Nat.le_of_ble_eq_true rfl) dX10_read_5 (fun H locs hP hD hS => ?_)
  replace hP : va_P D vwCl (w_X10_read cI aT aT_co aR aV aV_ac aV_fa aV_in aV_yr aV_ti T_co T_n R_st 0 V_ac V_fa V_in V_yr V_ti) H := hP
  replace hD : va_D A (w_X10_read cI aT aT_co aR aV aV_ac aV_fa aV_in aV_yr aV_ti T_co T_n R_st 0 V_ac V_fa V_in V_yr V_ti) := hD
  refine lv_aload_n hx hb dX10_read_8 rfl (lv_at hl 0 rfl) ?_
  refine lv_iconst (v := 0) hx hb dX10_read_9 (by decide) ?_
  refine va_put (D := D) (ci := 10) (v := .int 0) (ty := .int) (C := RX10) (T := TX10) (N := 3) hx hb hts k2 tyX10 tyX10_ok nmX10 hown hKv hP hD hS 2 rfl rfl 2 (by decide) k5 (fun _ h9 => h9) rfl (by decide +kernel) rfl rfl (Nat.le_of_ble_eq_true rfl) dX10_read_10 (fun H locs hP hD hS => ?_)
  replace hP : va_P D vwCl (w_X10_read cI aT aT_co aR aV aV_ac aV_fa aV_in aV_yr aV_ti T_co T_n 0 0 V_ac V_fa V_in V_yr V_ti) H := hP
  replace hD : va_D A (w_X10_read cI aT aT_co aR aV aV_ac aV_fa aV_in aV_yr aV_ti T_co T_n 0 0 V_ac V_fa V_in V_yr V_ti) := hD
  refine lv_iconst (v := 0) hx hb dX10_read_13 (by decide) ?_
  refine lv_istore_n (lv' := [(1, .int 0), (0, .ref aR)]) hx hb dX10_read_14 rfl hl (by decide) rfl (fun ls hl => ?_)
  refine lv_iconst (v := 0) hx hb dX10_read_15 (by decide) ?_
  refine lv_istore_n (lv' := [(2, .int 0), (1, .int 0), (0, .ref aR)]) hx hb dX10_read_16 rfl hl (by decide) rfl (fun ls hl => ?_)
  replace hm := bd_some hm
  obtain ⟨e1, hc1, hm⟩ := hm
  have X1_0 : ∀ v1_0, e1 = Sum.inl v1_0 → ∀ (H : Heap) (locs : List Loc) (ls : Array Slot), va_P D vwCl (w_X10_read cI aT aT_co aR aV aV_ac aV_fa aV_in aV_yr aV_ti T_co T_n v1_0.2.1 v1_0.2.2.1 v1_0.2.2.2.1 v1_0.2.2.2.2.1 v1_0.2.2.2.2.2.1 v1_0.2.2.2.2.2.2.1 v1_0.2.2.2.2.2.2.2) H → va_D A (w_X10_read cI aT aT_co aR aV aV_ac aV_fa aV_in aV_yr aV_ti T_co T_n v1_0.2.1 v1_0.2.2.1 v1_0.2.2.2.1 v1_0.2.2.2.2.1 v1_0.2.2.2.2.2.1 v1_0.2.2.2.2.2.2.1 v1_0.2.2.2.2.2.2.2) → va_S A s.heap H locs → lv_has ls 3 [(0, .ref aR), (2, .int v1_0.1)] → W p l e rm_X10_read s m args below meth c H locs 0 0 Q (F0 m 70 ls []) := by
    intro v1_0 h9 H locs ls hP hD hS hl
    subst h9
    replace hm := el_l hm
    refine lv_iload_n hx hb dX10_read_70 rfl (lv_at hl 1 rfl) ?_
    have h9 := Option.some.inj hm
    subst h9
    exact hret H locs _ ls _ hP hD hS rfl dX10_read_71
  have X1_1 : ∀ v1_1, e1 = Sum.inr (v1_1) → ∀ (H : Heap) (locs : List Loc) (ls : Array Slot), va_P D vwCl (w_X10_read cI aT aT_co aR aV aV_ac aV_fa aV_in aV_yr aV_ti T_co T_n v1_1.1 v1_1.2.1 v1_1.2.2.1 v1_1.2.2.2.1 v1_1.2.2.2.2.1 v1_1.2.2.2.2.2.1 v1_1.2.2.2.2.2.2) H → va_D A (w_X10_read cI aT aT_co aR aV aV_ac aV_fa aV_in aV_yr aV_ti T_co T_n v1_1.1 v1_1.2.1 v1_1.2.2.1 v1_1.2.2.2.1 v1_1.2.2.2.2.1 v1_1.2.2.2.2.2.1 v1_1.2.2.2.2.2.2) → va_S A s.heap H locs → lv_has ls 3 [(0, .ref aR)] → W p l e rm_X10_read s m args below meth c H locs 0 0 Q (F0 m 78 ls []) := by
    intro v1_1 h9 H locs ls hP hD hS hl
    subst h9
    replace hm := el_r hm
    refine lv_aload_n hx hb dX10_read_78 rfl (lv_at hl 0 rfl) ?_
    refine va_get (D := D) (ci := 10) (v := .int v1_1.1) (C := RX10) (T := TX10) (N := 3) hx hb hts k2 hown hKv hP 2 rfl rfl 2 (by decide) k5 (fun _ h9 => h9) rfl dX10_read_79 ?_
    refine lv_if_ne (tgt := 89) hx hb dX10_read_82 (by decide) (fun c2 => ?_) (fun c2 => ?_)
    · replace hm := if_f c2 hm
      refine lv_aload_n hx hb dX10_read_89 rfl (lv_at hl 0 rfl) ?_
      refine va_get (D := D) (ci := 10) (v := .ref aT) (C := RX10) (T := TX10) (N := 3) hx hb hts k2 hown hKv hP 2 rfl rfl 1 (by decide) k6 (fun _ h9 => h9) rfl dX10_read_90 ?_
      refine va_get (D := D) (ci := 8) (v := .int T_n) (C := RX8) (T := TX8) (N := 2) hx hb hts k8 hown hKv hP 0 rfl rfl 1 (by decide) k7 (fun _ h9 => h9) rfl dX10_read_93 ?_
      exact J96 T_n v1_1.1 v1_1.2.1 v1_1.2.2.1 v1_1.2.2.2.1 v1_1.2.2.2.2.1 v1_1.2.2.2.2.2.1 v1_1.2.2.2.2.2.2 hm H locs ls hP hD hS (lv_sub hl [0] rfl)
    · replace hm := if_t c2 hm
      refine lv_iconst (v := (-1)) hx hb dX10_read_85 (by decide) ?_
      refine lv_goto (tgt := 96) hx hb dX10_read_86 (by decide) ?_
      exact J96 (-1) v1_1.1 v1_1.2.1 v1_1.2.2.1 v1_1.2.2.2.1 v1_1.2.2.2.2.1 v1_1.2.2.2.2.2.1 v1_1.2.2.2.2.2.2 hm H locs ls hP hD hS (lv_sub hl [0] rfl)
  refine it_W (G := fun (st17 : Int32 × Int32 × Int32 × Int32 × (Nat → Int32) × (Nat → Int32) × (Nat → Int32) × (Nat → Int32) × (Nat → Int32)) => ∀ (H : Heap) (locs : List Loc) (ls : Array Slot), va_P D vwCl (w_X10_read cI aT aT_co aR aV aV_ac aV_fa aV_in aV_yr aV_ti T_co T_n st17.2.2.1 st17.2.2.2.1 st17.2.2.2.2.1 st17.2.2.2.2.2.1 st17.2.2.2.2.2.2.1 st17.2.2.2.2.2.2.2.1 st17.2.2.2.2.2.2.2.2) H → va_D A (w_X10_read cI aT aT_co aR aV aV_ac aV_fa aV_in aV_yr aV_ti T_co T_n st17.2.2.1 st17.2.2.2.1 st17.2.2.2.2.1 st17.2.2.2.2.2.1 st17.2.2.2.2.2.2.1 st17.2.2.2.2.2.2.2.1 st17.2.2.2.2.2.2.2.2) → va_S A s.heap H locs → lv_has ls 3 [(0, .ref aR), (1, .int st17.1), (2, .int st17.2.1)] → W p l e rm_X10_read s m args below meth c H locs 0 0 Q (F0 m 17 ls [])) (e := e1) (fun st17 x hm hG hE => ?_) fu _ hc1 H locs ls hP hD hS (lv_sub hl [2, 1, 0] rfl)
  intro H locs ls hP hD hS hl
  have J72 : ∀ (x1_j72 : Int32) (x2_j72 : Int32) (R_st_j72 : Int32) (V_n_j72 : Int32) (V_ac_j72 : Nat → Int32) (V_fa_j72 : Nat → Int32) (V_in_j72 : Nat → Int32) (V_yr_j72 : Nat → Int32) (V_ti_j72 : Nat → Int32), (m_X10_read_J72 x1_j72 x2_j72 R_st_j72 V_n_j72 V_ac_j72 V_fa_j72 V_in_j72 V_yr_j72 V_ti_j72 = some x) → ∀ (H : Heap) (locs : List Loc) (ls : Array Slot), va_P D vwCl (w_X10_read cI aT aT_co aR aV aV_ac aV_fa aV_in aV_yr aV_ti T_co T_n R_st_j72 V_n_j72 V_ac_j72 V_fa_j72 V_in_j72 V_yr_j72 V_ti_j72) H → va_D A (w_X10_read cI aT aT_co aR aV aV_ac aV_fa aV_in aV_yr aV_ti T_co T_n R_st_j72 V_n_j72 V_ac_j72 V_fa_j72 V_in_j72 V_yr_j72 V_ti_j72) → va_S A s.heap H locs → lv_has ls 3 [(0, .ref aR), (1, .int x1_j72), (2, .int x2_j72)] → W p l e rm_X10_read s m args below meth c H locs 0 0 Q (F0 m 72 ls []) := by
    intro x1_j72 x2_j72 R_st_j72 V_n_j72 V_ac_j72 V_fa_j72 V_in_j72 V_yr_j72 V_ti_j72 hm H locs ls hP hD hS hl
    refine lv_iinc (v := (x2_j72 + 1)) (lv' := [(2, .int (x2_j72 + 1)), (0, .ref aR), (1, .int x1_j72)]) hx hb dX10_read_72 hl (k := 2) rfl rfl (by decide) rfl (fun ls hl => ?_)
    refine lv_goto (tgt := 17) hx hb dX10_read_75 (by decide) ?_
    exact hG _ (Option.some.inj hm).symm H locs ls hP hD hS (lv_sub hl [1, 2, 0] rfl)
  refine lv_iload_n hx hb dX10_read_17 rfl (lv_at hl 2 rfl) ?_
  refine lv_aload_n hx hb dX10_read_18 rfl (lv_at hl 0 rfl) ?_
  refine va_get (D := D) (ci := 10) (v := .ref aT) (C := RX10) (T := TX10) (N := 3) hx hb hts k2 hown hKv hP 2 rfl rfl 1 (by decide) k6 (fun _ h9 => h9) rfl dX10_read_19 ?_
  refine va_get (D := D) (ci := 8) (v := .int T_n) (C := RX8) (T := TX8) (N := 2) hx hb hts k8 hown hKv hP 0 rfl rfl 1 (by decide) k7 (fun _ h9 => h9) rfl dX10_read_22 ?_
  refine lv_icmp_ge (tgt := 78) hx hb dX10_read_25 (by decide) (fun c3 => ?_) (fun c3 => ?_)
  · replace hm := if_t c3 hm
    exact X1_1 _ (hE _ (Option.some.inj hm).symm).symm H locs ls hP hD hS (lv_sub hl [0] rfl)
  · replace hm := if_f c3 hm
    refine lv_iload_n hx hb dX10_read_28 rfl (lv_at hl 2 rfl) ?_
    refine lv_iload_n hx hb dX10_read_29 rfl (lv_at hl 1 rfl) ?_
    refine lv_icmp_lt (tgt := 72) hx hb dX10_read_30 (by decide) (fun c4 => ?_) (fun c4 => ?_)
    · replace hm := if_t c4 hm
      exact J72 st17.1 st17.2.1 st17.2.2.1 st17.2.2.2.1 st17.2.2.2.2.1 st17.2.2.2.2.2.1 st17.2.2.2.2.2.2.1 st17.2.2.2.2.2.2.2.1 st17.2.2.2.2.2.2.2.2 hm H locs ls hP hD hS (lv_sub hl [0, 1, 2] rfl)
    · replace hm := if_f c4 hm
      refine lv_aload_n hx hb dX10_read_33 rfl (lv_at hl 0 rfl) ?_
      refine va_get (D := D) (ci := 10) (v := .ref aT) (C := RX10) (T := TX10) (N := 3) hx hb hts k2 hown hKv hP 2 rfl rfl 1 (by decide) k6 (fun _ h9 => h9) rfl dX10_read_34 ?_
      refine va_get (D := D) (ci := 8) (v := .ref aT_co) (C := RX8) (T := TX8) (N := 2) hx hb hts k8 hown hKv hP 0 rfl rfl 0 (by decide) k9 (fun _ h9 => h9) rfl dX10_read_37 ?_
      refine lv_iload_n hx hb dX10_read_40 rfl (lv_at hl 2 rfl) ?_
      replace hm := ck_some hm
      obtain ⟨h5, hm⟩ := hm
      refine va_iald hx hb hKv hP 1 0 rfl rfl h5 dX10_read_41 ?_
      refine lv_bipush (v := 32) hx hb dX10_read_42 (by decide) ?_
      refine lv_icmp_ne (tgt := 50) hx hb dX10_read_44 (by decide) (fun c6 => ?_) (fun c6 => ?_)
      · replace hm := if_f c6 hm
        refine lv_aload_n hx hb dX10_read_50 rfl (lv_at hl 0 rfl) ?_
        refine va_get (D := D) (ci := 10) (v := .ref aT) (C := RX10) (T := TX10) (N := 3) hx hb hts k2 hown hKv hP 2 rfl rfl 1 (by decide) k6 (fun _ h9 => h9) rfl dX10_read_51 ?_
        refine lv_iload_n hx hb dX10_read_54 rfl (lv_at hl 2 rfl) ?_
        replace hm := bd_some hm
        obtain ⟨e7, hc7, hm⟩ := hm
        refine kV_i (rest := []) (ws' := (w_X10_read cI aT aT_co aR aV aV_ac aV_fa aV_in aV_yr aV_ti T_co T_n st17.2.2.1 st17.2.2.2.1 st17.2.2.2.2.1 st17.2.2.2.2.2.1 st17.2.2.2.2.2.2.1 st17.2.2.2.2.2.2.2.1 st17.2.2.2.2.2.2.2.2)) S (c_X8_lexemeEnd l D cI cJ cZ cS aT aT_co T_co T_n st17.2.1 e7 hc7) k10 hK hP hD hS hA 0 rfl rfl rfl rfl hl.1 rfl (Nat.le_of_ble_eq_true rfl) ⟨Nat.zero_le _, Nat.zero_le _⟩ dX10_read_55 [0, 1] rfl rfl wa_X8_lexemeEnd (sa_eq [(aR, .inr (10, [.ref aV, .ref aT, .int st17.2.2.1])), (aV, .inr (9, [.int st17.2.2.2.1, .ref aV_ac, .ref aV_fa, .ref aV_in, .ref aV_yr, .ref aV_ti])), (aV_ac, .inl (cI, 8, .inl st17.2.2.2.2.1)), (aV_fa, .inl (cI, 32, .inl st17.2.2.2.2.2.1)), (aV_in, .inl (cI, 32, .inl st17.2.2.2.2.2.2.1)), (aV_yr, .inl (cI, 8, .inl st17.2.2.2.2.2.2.2.1)), (aV_ti, .inl (cI, 8, .inl st17.2.2.2.2.2.2.2.2))] [2, 3, 4, 5, 6, 7, 8] 9 rfl rfl rfl rfl rfl rfl rfl) (fun H locs hP hD hS => ?_)
        refine lv_istore_n (lv' := [(1, .int e7), (0, .ref aR), (2, .int st17.2.1)]) hx hb dX10_read_58 rfl hl (by decide) rfl (fun ls hl => ?_)
        refine lv_aload_n hx hb dX10_read_59 rfl (lv_at hl 1 rfl) ?_
        refine lv_iload_n hx hb dX10_read_60 rfl (lv_at hl 2 rfl) ?_
        refine lv_iload_n hx hb dX10_read_61 rfl (lv_at hl 0 rfl) ?_
        refine lv_iload_n hx hb dX10_read_62 rfl (lv_at hl 2 rfl) ?_
        refine lv_isub hx hb dX10_read_63 ?_
        replace hm := bd_some hm
        obtain ⟨e8, hc8, hm⟩ := hm
        obtain ⟨e8_0, e8_1, e8_2, e8_3, e8_4, e8_5, e8_6, e8_7⟩ := e8
        refine kV_i (rest := []) (ws' := (w_X10_read cI aT aT_co aR aV aV_ac aV_fa aV_in aV_yr aV_ti T_co T_n e8_1 e8_2 e8_3 e8_4 e8_5 e8_6 e8_7)) S (c_X10_takes l D cI cJ cZ cS aT aT_co aR aV aV_ac aV_fa aV_in aV_yr aV_ti T_co T_n st17.2.2.1 st17.2.2.2.1 st17.2.2.2.2.1 st17.2.2.2.2.2.1 st17.2.2.2.2.2.2.1 st17.2.2.2.2.2.2.2.1 st17.2.2.2.2.2.2.2.2 st17.2.1 (e7 - st17.2.1) (e8_0, e8_1, e8_2, e8_3, e8_4, e8_5, e8_6, e8_7) hc8) k11 hK hP hD hS hA 2 rfl rfl rfl rfl hl.1 rfl (Nat.le_of_ble_eq_true rfl) ⟨Nat.zero_le _, Nat.zero_le _⟩ dX10_read_64 [0, 1, 2, 3, 4, 5, 6, 7, 8] rfl rfl wa_X10_takes (sa_eq [] [] 9 rfl rfl rfl rfl rfl rfl rfl) (fun H locs hP hD hS => ?_)
        refine lv_if_ne (tgt := 72) hx hb dX10_read_67 (by decide) (fun c9 => ?_) (fun c9 => ?_)
        · replace hm := if_f c9 hm
          exact J72 e7 st17.2.1 e8_1 e8_2 e8_3 e8_4 e8_5 e8_6 e8_7 hm H locs ls hP hD hS (lv_sub hl [1, 0, 2] rfl)
        · replace hm := if_t c9 hm
          exact X1_0 _ (hE _ (Option.some.inj hm).symm).symm H locs ls hP hD hS (lv_sub hl [1, 2] rfl)
      · replace hm := if_t c6 hm
        refine lv_goto (tgt := 72) hx hb dX10_read_47 (by decide) ?_
        exact J72 st17.1 st17.2.1 st17.2.2.1 st17.2.2.2.1 st17.2.2.2.2.1 st17.2.2.2.2.2.1 st17.2.2.2.2.2.2.1 st17.2.2.2.2.2.2.2.1 st17.2.2.2.2.2.2.2.2 hm H locs ls hP hD hS (lv_sub hl [0, 1, 2] rfl)
set_option maxHeartbeats 4000000 in
set_option maxRecDepth 100000 in
theorem c_X4_takesItemEnd (l : Launch) (D : va_G) (cI cJ cZ cS : ClassId) (aN aT : Nat) (N_fo : Int32) (N_st : Int32) (N_gr : Int32) (N_fi : Int32) (x1 : Int32) (o : Int32 × Int32) (hm : m_X4_takesItemEnd N_st x1 = some o) : MI l yX4_takesItemEnd wsX4_takesItemEnd rm_X4_takesItemEnd D (TY cI cJ cZ cS) [.ref aN, .int x1] (w_X4_takesItemEnd aN aT N_fo N_st N_gr N_fi) (w_X4_takesItemEnd aN aT N_fo o.2 N_gr N_fi) (o.1) := by
  refine MZ_of (cc := cX4_takesItemEnd) (maxL := 2) (by decide) rfl (Nat.le_of_ble_eq_true rfl) ?_
  intro p e s m args below meth c A Q ls H locs hx hb hml hts hown hK hA hP hD hS hl hret
  have hown : s.vm.findClass RX4 = some m.cls := hown
  have hKv : va_K D vwCl (TY cI cJ cZ cS) s := hK.1
  have hl : lv_has ls 2 [(0, .ref aN), (1, .int x1)] := hl
  have S : CallFix p m c cX4_takesItemEnd 2 s args wsX4_takesItemEnd RX4 := ⟨hx, hb, hml, hown, hts⟩
  have k1 := hts (.fieldLink RX4 15 "CitationFormatter$NumbersReader" "stage" "I") (by decide +kernel)
  have k2 : ∀ w ∈ wsX40, w ∈ wsX4_takesItemEnd := by decide +kernel
  have J26 : ∀ (y0_j26 : Int32) (N_st_j26 : Int32), (m_X4_takesItemEnd_J26 y0_j26 N_st_j26 = some o) → ∀ (H : Heap) (locs : List Loc) (ls : Array Slot), va_P D vwCl (w_X4_takesItemEnd aN aT N_fo N_st_j26 N_gr N_fi) H → va_D A (w_X4_takesItemEnd aN aT N_fo N_st_j26 N_gr N_fi) → va_S A s.heap H locs → lv_has ls 2 [(0, .ref aN)] → W p l e rm_X4_takesItemEnd s m args below meth c H locs 0 0 Q (F0 m 26 ls [.int y0_j26, .ref aN]) := by
    intro y0_j26 N_st_j26 hm H locs ls hP hD hS hl
    refine va_put (D := D) (ci := 4) (v := .int y0_j26) (ty := .int) (C := RX4) (T := TX4) (N := 5) hx hb hts k2 tyX4 tyX4_ok nmX4 hown hKv hP hD hS 0 rfl rfl 2 (by decide) k1 (fun _ h9 => h9) rfl (by decide +kernel) rfl rfl (Nat.le_of_ble_eq_true rfl) dX4_takesItemEnd_26 (fun H locs hP hD hS => ?_)
    replace hP : va_P D vwCl (w_X4_takesItemEnd aN aT N_fo y0_j26 N_gr N_fi) H := hP
    replace hD : va_D A (w_X4_takesItemEnd aN aT N_fo y0_j26 N_gr N_fi) := hD
    refine lv_iconst (v := 1) hx hb dX4_takesItemEnd_29 (by decide) ?_
    have h9 := Option.some.inj hm
    subst h9
    exact hret H locs _ ls _ (Or.inr rfl) hP hD hS rfl dX4_takesItemEnd_30
  have J14 : ∀ (N_st_j14 : Int32), (m_X4_takesItemEnd_J14 x1 N_st_j14 = some o) → ∀ (H : Heap) (locs : List Loc) (ls : Array Slot), va_P D vwCl (w_X4_takesItemEnd aN aT N_fo N_st_j14 N_gr N_fi) H → va_D A (w_X4_takesItemEnd aN aT N_fo N_st_j14 N_gr N_fi) → va_S A s.heap H locs → lv_has ls 2 [(0, .ref aN), (1, .int x1)] → W p l e rm_X4_takesItemEnd s m args below meth c H locs 0 0 Q (F0 m 14 ls []) := by
    intro N_st_j14 hm H locs ls hP hD hS hl
    refine lv_aload_n hx hb dX4_takesItemEnd_14 rfl (lv_at hl 0 rfl) ?_
    refine lv_iload_n hx hb dX4_takesItemEnd_15 rfl (lv_at hl 1 rfl) ?_
    refine lv_bipush (v := 44) hx hb dX4_takesItemEnd_16 (by decide) ?_
    refine lv_icmp_ne (tgt := 25) hx hb dX4_takesItemEnd_18 (by decide) (fun c1 => ?_) (fun c1 => ?_)
    · replace hm := if_f c1 hm
      refine lv_iconst (v := 5) hx hb dX4_takesItemEnd_25 (by decide) ?_
      exact J26 5 N_st_j14 hm H locs ls hP hD hS (lv_sub hl [0] rfl)
    · replace hm := if_t c1 hm
      refine lv_iconst (v := 1) hx hb dX4_takesItemEnd_21 (by decide) ?_
      refine lv_goto (tgt := 26) hx hb dX4_takesItemEnd_22 (by decide) ?_
      exact J26 1 N_st_j14 hm H locs ls hP hD hS (lv_sub hl [0] rfl)
  refine lv_iload_n hx hb dX4_takesItemEnd_0 rfl (lv_at hl 1 rfl) ?_
  refine lv_bipush (v := 44) hx hb dX4_takesItemEnd_1 (by decide) ?_
  refine lv_icmp_eq (tgt := 14) hx hb dX4_takesItemEnd_3 (by decide) (fun c2 => ?_) (fun c2 => ?_)
  · replace hm := if_t c2 hm
    exact J14 N_st hm H locs ls hP hD hS (lv_sub hl [0, 1] rfl)
  · replace hm := if_f c2 hm
    refine lv_iload_n hx hb dX4_takesItemEnd_6 rfl (lv_at hl 1 rfl) ?_
    refine lv_bipush (v := 93) hx hb dX4_takesItemEnd_7 (by decide) ?_
    refine lv_icmp_eq (tgt := 14) hx hb dX4_takesItemEnd_9 (by decide) (fun c3 => ?_) (fun c3 => ?_)
    · replace hm := if_t c3 hm
      exact J14 N_st hm H locs ls hP hD hS (lv_sub hl [0, 1] rfl)
    · replace hm := if_f c3 hm
      refine lv_iconst (v := 0) hx hb dX4_takesItemEnd_12 (by decide) ?_
      have h9 := Option.some.inj hm
      subst h9
      exact hret H locs _ ls _ (Or.inl rfl) hP hD hS rfl dX4_takesItemEnd_13
set_option maxHeartbeats 4000000 in
set_option maxRecDepth 100000 in
theorem c_X4_takesLast (l : Launch) (D : va_G) (cI cJ cZ cS : ClassId) (aN aT : Nat) (N_fo : Int32) (N_st : Int32) (N_gr : Int32) (N_fi : Int32) (x1 : Int32) (o : Int32 × Int32 × Int32) (hm : m_X4_takesLast N_fo N_st N_gr N_fi x1 = some o) : MI l yX4_takesLast wsX4_takesLast rm_X4_takesLast D (TY cI cJ cZ cS) [.ref aN, .int x1] (w_X4_takesLast aN aT N_fo N_st N_gr N_fi) (w_X4_takesLast aN aT o.2.1 o.2.2 N_gr N_fi) (o.1) := by
  refine MZ_of (cc := cX4_takesLast) (maxL := 3) (by decide) rfl (Nat.le_of_ble_eq_true rfl) ?_
  intro p e s m args below meth c A Q ls H locs hx hb hml hts hown hK hA hP hD hS hl hret
  have hown : s.vm.findClass RX4 = some m.cls := hown
  have hKv : va_K D vwCl (TY cI cJ cZ cS) s := hK.1
  have hl : lv_has ls 3 [(0, .ref aN), (1, .int x1)] := hl
  have S : CallFix p m c cX4_takesLast 3 s args wsX4_takesLast RX4 := ⟨hx, hb, hml, hown, hts⟩
  have k1 := hts (.fieldLink RX4 21 "CitationFormatter$NumbersReader" "first" "I") (by decide +kernel)
  have k2 : ∀ w ∈ wsX40, w ∈ wsX4_takesLast := by decide +kernel
  have k3 := hts (.fieldLink RX4 18 "CitationFormatter$NumbersReader" "greatest" "I") (by decide +kernel)
  have k4 : va_CN rm_X4_takesLast s args RX4 53 yX11_inRange "CitationFormatter" cX11_inRange 3 (some .boolean) wsX11_inRange rm_X11_inRange 0 0 3 ∧ (Cond.static yX11_inRange).before args s = true ∧ True := ⟨va_cnB 3 hts gX4_takesLast_X11_inRange_n53 rfl rfl rfl (hK.2 (RX4, 53, yX11_inRange) (by decide +kernel)) (hts (.initialized RX11) (by decide +kernel)) (by decide +kernel) ⟨Nat.le_of_ble_eq_true rfl, Nat.le_of_ble_eq_true rfl⟩, hts (.static yX11_inRange) (by decide +kernel), trivial⟩
  have k5 := hts (.fieldLink RX4 15 "CitationFormatter$NumbersReader" "stage" "I") (by decide +kernel)
  have k6 := hts (.fieldLink RX4 9 "CitationFormatter$NumbersReader" "found" "I") (by decide +kernel)
  refine lv_iload_n hx hb dX4_takesLast_0 rfl (lv_at hl 1 rfl) ?_
  refine lv_aload_n hx hb dX4_takesLast_1 rfl (lv_at hl 0 rfl) ?_
  refine va_get (D := D) (ci := 4) (v := .int N_fi) (C := RX4) (T := TX4) (N := 5) hx hb hts k2 hown hKv hP 0 rfl rfl 4 (by decide) k1 (fun _ h9 => h9) rfl dX4_takesLast_2 ?_
  refine lv_iconst (v := 1) hx hb dX4_takesLast_5 (by decide) ?_
  refine lv_iadd hx hb dX4_takesLast_6 ?_
  refine lv_aload_n hx hb dX4_takesLast_7 rfl (lv_at hl 0 rfl) ?_
  refine va_get (D := D) (ci := 4) (v := .int N_gr) (C := RX4) (T := TX4) (N := 5) hx hb hts k2 hown hKv hP 0 rfl rfl 3 (by decide) k3 (fun _ h9 => h9) rfl dX4_takesLast_8 ?_
  replace hm := bd_some hm
  obtain ⟨e1, hc1, hm⟩ := hm
  refine kN_i (rest := []) S (c_X11_inRange l D cI cJ cZ cS x1 (N_fi + 1) N_gr e1 hc1) k4 hK hP hD hS hA rfl hl.1 rfl (Nat.le_of_ble_eq_true rfl) ⟨Nat.zero_le _, Nat.zero_le _⟩ dX4_takesLast_11 (fun H locs hP hD hS => ?_)
  refine lv_if_ne (tgt := 19) hx hb dX4_takesLast_14 (by decide) (fun c2 => ?_) (fun c2 => ?_)
  · replace hm := if_f c2 hm
    refine lv_aload_n hx hb dX4_takesLast_19 rfl (lv_at hl 0 rfl) ?_
    refine va_get (D := D) (ci := 4) (v := .int N_fi) (C := RX4) (T := TX4) (N := 5) hx hb hts k2 hown hKv hP 0 rfl rfl 4 (by decide) k1 (fun _ h9 => h9) rfl dX4_takesLast_20 ?_
    refine lv_iconst (v := 1) hx hb dX4_takesLast_23 (by decide) ?_
    refine lv_iadd hx hb dX4_takesLast_24 ?_
    refine lv_istore_n (lv' := [(2, .int (N_fi + 1)), (0, .ref aN), (1, .int x1)]) hx hb dX4_takesLast_25 rfl hl (by decide) rfl (fun ls hl => ?_)
    replace hm := bd_some hm
    obtain ⟨e3, hc3, hm⟩ := hm
    have X3_0 : ∀ (H : Heap) (locs : List Loc) (ls : Array Slot), va_P D vwCl (w_X4_takesLast aN aT e3 N_st N_gr N_fi) H → va_D A (w_X4_takesLast aN aT e3 N_st N_gr N_fi) → va_S A s.heap H locs → lv_has ls 3 [(0, .ref aN)] → W p l e rm_X4_takesLast s m args below meth c H locs 0 0 Q (F0 m 49 ls []) := by
      intro H locs ls hP hD hS hl
      refine lv_aload_n hx hb dX4_takesLast_49 rfl (lv_at hl 0 rfl) ?_
      refine lv_iconst (v := 4) hx hb dX4_takesLast_50 (by decide) ?_
      refine va_put (D := D) (ci := 4) (v := .int 4) (ty := .int) (C := RX4) (T := TX4) (N := 5) hx hb hts k2 tyX4 tyX4_ok nmX4 hown hKv hP hD hS 0 rfl rfl 2 (by decide) k5 (fun _ h9 => h9) rfl (by decide +kernel) rfl rfl (Nat.le_of_ble_eq_true rfl) dX4_takesLast_51 (fun H locs hP hD hS => ?_)
      replace hP : va_P D vwCl (w_X4_takesLast aN aT e3 4 N_gr N_fi) H := hP
      replace hD : va_D A (w_X4_takesLast aN aT e3 4 N_gr N_fi) := hD
      refine lv_iconst (v := 1) hx hb dX4_takesLast_54 (by decide) ?_
      have h9 := Option.some.inj hm
      subst h9
      exact hret H locs _ ls _ (Or.inr rfl) hP hD hS rfl dX4_takesLast_55
    refine it_W (G := fun (st26 : Int32 × Int32) => ∀ (H : Heap) (locs : List Loc) (ls : Array Slot), va_P D vwCl (w_X4_takesLast aN aT st26.2 N_st N_gr N_fi) H → va_D A (w_X4_takesLast aN aT st26.2 N_st N_gr N_fi) → va_S A s.heap H locs → lv_has ls 3 [(0, .ref aN), (1, .int x1), (2, .int st26.1)] → W p l e rm_X4_takesLast s m args below meth c H locs 0 0 Q (F0 m 26 ls [])) (e := e3) (fun st26 x hm hG hE => ?_) fu _ hc3 H locs ls hP hD hS (lv_sub hl [1, 2, 0] rfl)
    intro H locs ls hP hD hS hl
    refine lv_iload_n hx hb dX4_takesLast_26 rfl (lv_at hl 2 rfl) ?_
    refine lv_iload_n hx hb dX4_takesLast_27 rfl (lv_at hl 1 rfl) ?_
    refine lv_icmp_gt (tgt := 49) hx hb dX4_takesLast_28 (by decide) (fun c4 => ?_) (fun c4 => ?_)
    · replace hm := if_t c4 hm
      have h9 := hE _ (Option.some.inj hm).symm
      subst h9
      exact X3_0 H locs ls hP hD hS (lv_sub hl [0] rfl)
    · replace hm := if_f c4 hm
      refine lv_aload_n hx hb dX4_takesLast_31 rfl (lv_at hl 0 rfl) ?_
      refine lv_dup hx hb dX4_takesLast_32 rfl ?_
      refine va_get (D := D) (ci := 4) (v := .int st26.2) (C := RX4) (T := TX4) (N := 5) hx hb hts k2 hown hKv hP 0 rfl rfl 0 (by decide) k6 (fun _ h9 => h9) rfl dX4_takesLast_33 ?_
      refine lv_iconst (v := 1) hx hb dX4_takesLast_36 (by decide) ?_
      refine lv_iload_n hx hb dX4_takesLast_37 rfl (lv_at hl 2 rfl) ?_
      refine lv_ishl hx hb dX4_takesLast_38 ?_
      refine lv_ior hx hb dX4_takesLast_39 ?_
      refine va_put (D := D) (ci := 4) (v := .int (st26.2 ||| (1 <<< (st26.1 &&& 31)))) (ty := .int) (C := RX4) (T := TX4) (N := 5) hx hb hts k2 tyX4 tyX4_ok nmX4 hown hKv hP hD hS 0 rfl rfl 0 (by decide) k6 (fun _ h9 => h9) rfl (by decide +kernel) rfl rfl (Nat.le_of_ble_eq_true rfl) dX4_takesLast_40 (fun H locs hP hD hS => ?_)
      replace hP : va_P D vwCl (w_X4_takesLast aN aT (st26.2 ||| (1 <<< (st26.1 &&& 31))) N_st N_gr N_fi) H := hP
      replace hD : va_D A (w_X4_takesLast aN aT (st26.2 ||| (1 <<< (st26.1 &&& 31))) N_st N_gr N_fi) := hD
      refine lv_iinc (v := (st26.1 + 1)) (lv' := [(2, .int (st26.1 + 1)), (0, .ref aN), (1, .int x1)]) hx hb dX4_takesLast_43 hl (k := 2) rfl rfl (by decide) rfl (fun ls hl => ?_)
      refine lv_goto (tgt := 26) hx hb dX4_takesLast_46 (by decide) ?_
      exact hG _ (Option.some.inj hm).symm H locs ls hP hD hS (lv_sub hl [1, 2, 0] rfl)
  · replace hm := if_t c2 hm
    refine lv_iconst (v := 0) hx hb dX4_takesLast_17 (by decide) ?_
    have h9 := Option.some.inj hm
    subst h9
    exact hret H locs _ ls _ (Or.inl rfl) hP hD hS rfl dX4_takesLast_18
set_option maxHeartbeats 4000000 in
set_option maxRecDepth 100000 in
theorem c_X4_takesHyphen (l : Launch) (D : va_G) (cI cJ cZ cS : ClassId) (aN aT : Nat) (N_fo : Int32) (N_st : Int32) (N_gr : Int32) (N_fi : Int32) (x1 : Int32) (o : Int32 × Int32) (hm : m_X4_takesHyphen N_st x1 = some o) : MI l yX4_takesHyphen wsX4_takesHyphen rm_X4_takesHyphen D (TY cI cJ cZ cS) [.ref aN, .int x1] (w_X4_takesHyphen aN aT N_fo N_st N_gr N_fi) (w_X4_takesHyphen aN aT N_fo o.2 N_gr N_fi) (o.1) := by
  refine MZ_of (cc := cX4_takesHyphen) (maxL := 2) (by decide) rfl (Nat.le_of_ble_eq_true rfl) ?_
  intro p e s m args below meth c A Q ls H locs hx hb hml hts hown hK hA hP hD hS hl hret
  have hown : s.vm.findClass RX4 = some m.cls := hown
  have hKv : va_K D vwCl (TY cI cJ cZ cS) s := hK.1
  have hl : lv_has ls 2 [(0, .ref aN), (1, .int x1)] := hl
  have S : CallFix p m c cX4_takesHyphen 2 s args wsX4_takesHyphen RX4 := ⟨hx, hb, hml, hown, hts⟩
  have k1 := hts (.fieldLink RX4 15 "CitationFormatter$NumbersReader" "stage" "I") (by decide +kernel)
  have k2 : ∀ w ∈ wsX40, w ∈ wsX4_takesHyphen := by decide +kernel
  refine lv_iload_n hx hb dX4_takesHyphen_0 rfl (lv_at hl 1 rfl) ?_
  refine lv_bipush (v := 45) hx hb dX4_takesHyphen_1 (by decide) ?_
  refine lv_icmp_eq (tgt := 8) hx hb dX4_takesHyphen_3 (by decide) (fun c1 => ?_) (fun c1 => ?_)
  · replace hm := if_t c1 hm
    refine lv_aload_n hx hb dX4_takesHyphen_8 rfl (lv_at hl 0 rfl) ?_
    refine lv_iconst (v := 3) hx hb dX4_takesHyphen_9 (by decide) ?_
    refine va_put (D := D) (ci := 4) (v := .int 3) (ty := .int) (C := RX4) (T := TX4) (N := 5) hx hb hts k2 tyX4 tyX4_ok nmX4 hown hKv hP hD hS 0 rfl rfl 2 (by decide) k1 (fun _ h9 => h9) rfl (by decide +kernel) rfl rfl (Nat.le_of_ble_eq_true rfl) dX4_takesHyphen_10 (fun H locs hP hD hS => ?_)
    replace hP : va_P D vwCl (w_X4_takesHyphen aN aT N_fo 3 N_gr N_fi) H := hP
    replace hD : va_D A (w_X4_takesHyphen aN aT N_fo 3 N_gr N_fi) := hD
    refine lv_iconst (v := 1) hx hb dX4_takesHyphen_13 (by decide) ?_
    have h9 := Option.some.inj hm
    subst h9
    exact hret H locs _ ls _ (Or.inr rfl) hP hD hS rfl dX4_takesHyphen_14
  · replace hm := if_f c1 hm
    refine lv_iconst (v := 0) hx hb dX4_takesHyphen_6 (by decide) ?_
    have h9 := Option.some.inj hm
    subst h9
    exact hret H locs _ ls _ (Or.inl rfl) hP hD hS rfl dX4_takesHyphen_7
set_option maxHeartbeats 4000000 in
set_option maxRecDepth 100000 in
theorem c_X4_takesFirst (l : Launch) (D : va_G) (cI cJ cZ cS : ClassId) (aN aT : Nat) (N_fo : Int32) (N_st : Int32) (N_gr : Int32) (N_fi : Int32) (x1 : Int32) (o : Int32 × Int32 × Int32 × Int32) (hm : m_X4_takesFirst N_fo N_st N_gr N_fi x1 = some o) : MI l yX4_takesFirst wsX4_takesFirst rm_X4_takesFirst D (TY cI cJ cZ cS) [.ref aN, .int x1] (w_X4_takesFirst aN aT N_fo N_st N_gr N_fi) (w_X4_takesFirst aN aT o.2.1 o.2.2.1 N_gr o.2.2.2) (o.1) := by
  refine MZ_of (cc := cX4_takesFirst) (maxL := 2) (by decide) rfl (Nat.le_of_ble_eq_true rfl) ?_
  intro p e s m args below meth c A Q ls H locs hx hb hml hts hown hK hA hP hD hS hl hret
  have hown : s.vm.findClass RX4 = some m.cls := hown
  have hKv : va_K D vwCl (TY cI cJ cZ cS) s := hK.1
  have hl : lv_has ls 2 [(0, .ref aN), (1, .int x1)] := hl
  have S : CallFix p m c cX4_takesFirst 2 s args wsX4_takesFirst RX4 := ⟨hx, hb, hml, hown, hts⟩
  have k1 := hts (.fieldLink RX4 18 "CitationFormatter$NumbersReader" "greatest" "I") (by decide +kernel)
  have k2 : ∀ w ∈ wsX40, w ∈ wsX4_takesFirst := by decide +kernel
  have k3 : va_CN rm_X4_takesFirst s args RX4 53 yX11_inRange "CitationFormatter" cX11_inRange 3 (some .boolean) wsX11_inRange rm_X11_inRange 0 0 3 ∧ (Cond.static yX11_inRange).before args s = true ∧ True := ⟨va_cnB 3 hts gX4_takesFirst_X11_inRange_n53 rfl rfl rfl (hK.2 (RX4, 53, yX11_inRange) (by decide +kernel)) (hts (.initialized RX11) (by decide +kernel)) (by decide +kernel) ⟨Nat.le_of_ble_eq_true rfl, Nat.le_of_ble_eq_true rfl⟩, hts (.static yX11_inRange) (by decide +kernel), trivial⟩
  have k4 := hts (.fieldLink RX4 21 "CitationFormatter$NumbersReader" "first" "I") (by decide +kernel)
  have k5 := hts (.fieldLink RX4 9 "CitationFormatter$NumbersReader" "found" "I") (by decide +kernel)
  have k6 := hts (.fieldLink RX4 15 "CitationFormatter$NumbersReader" "stage" "I") (by decide +kernel)
  refine lv_iload_n hx hb dX4_takesFirst_0 rfl (lv_at hl 1 rfl) ?_
  refine lv_iconst (v := 1) hx hb dX4_takesFirst_1 (by decide) ?_
  refine lv_aload_n hx hb dX4_takesFirst_2 rfl (lv_at hl 0 rfl) ?_
  refine va_get (D := D) (ci := 4) (v := .int N_gr) (C := RX4) (T := TX4) (N := 5) hx hb hts k2 hown hKv hP 0 rfl rfl 3 (by decide) k1 (fun _ h9 => h9) rfl dX4_takesFirst_3 ?_
  replace hm := bd_some hm
  obtain ⟨e1, hc1, hm⟩ := hm
  refine kN_i (rest := []) S (c_X11_inRange l D cI cJ cZ cS x1 1 N_gr e1 hc1) k3 hK hP hD hS hA rfl hl.1 rfl (Nat.le_of_ble_eq_true rfl) ⟨Nat.zero_le _, Nat.zero_le _⟩ dX4_takesFirst_6 (fun H locs hP hD hS => ?_)
  refine lv_if_ne (tgt := 14) hx hb dX4_takesFirst_9 (by decide) (fun c2 => ?_) (fun c2 => ?_)
  · replace hm := if_f c2 hm
    refine lv_aload_n hx hb dX4_takesFirst_14 rfl (lv_at hl 0 rfl) ?_
    refine lv_iload_n hx hb dX4_takesFirst_15 rfl (lv_at hl 1 rfl) ?_
    refine va_put (D := D) (ci := 4) (v := .int x1) (ty := .int) (C := RX4) (T := TX4) (N := 5) hx hb hts k2 tyX4 tyX4_ok nmX4 hown hKv hP hD hS 0 rfl rfl 4 (by decide) k4 (fun _ h9 => h9) rfl (by decide +kernel) rfl rfl (Nat.le_of_ble_eq_true rfl) dX4_takesFirst_16 (fun H locs hP hD hS => ?_)
    replace hP : va_P D vwCl (w_X4_takesFirst aN aT N_fo N_st N_gr x1) H := hP
    replace hD : va_D A (w_X4_takesFirst aN aT N_fo N_st N_gr x1) := hD
    refine lv_aload_n hx hb dX4_takesFirst_19 rfl (lv_at hl 0 rfl) ?_
    refine lv_dup hx hb dX4_takesFirst_20 rfl ?_
    refine va_get (D := D) (ci := 4) (v := .int N_fo) (C := RX4) (T := TX4) (N := 5) hx hb hts k2 hown hKv hP 0 rfl rfl 0 (by decide) k5 (fun _ h9 => h9) rfl dX4_takesFirst_21 ?_
    refine lv_iconst (v := 1) hx hb dX4_takesFirst_24 (by decide) ?_
    refine lv_iload_n hx hb dX4_takesFirst_25 rfl (lv_at hl 1 rfl) ?_
    refine lv_ishl hx hb dX4_takesFirst_26 ?_
    refine lv_ior hx hb dX4_takesFirst_27 ?_
    refine va_put (D := D) (ci := 4) (v := .int (N_fo ||| (1 <<< (x1 &&& 31)))) (ty := .int) (C := RX4) (T := TX4) (N := 5) hx hb hts k2 tyX4 tyX4_ok nmX4 hown hKv hP hD hS 0 rfl rfl 0 (by decide) k5 (fun _ h9 => h9) rfl (by decide +kernel) rfl rfl (Nat.le_of_ble_eq_true rfl) dX4_takesFirst_28 (fun H locs hP hD hS => ?_)
    replace hP : va_P D vwCl (w_X4_takesFirst aN aT (N_fo ||| (1 <<< (x1 &&& 31))) N_st N_gr x1) H := hP
    replace hD : va_D A (w_X4_takesFirst aN aT (N_fo ||| (1 <<< (x1 &&& 31))) N_st N_gr x1) := hD
    refine lv_aload_n hx hb dX4_takesFirst_31 rfl (lv_at hl 0 rfl) ?_
    refine lv_iconst (v := 2) hx hb dX4_takesFirst_32 (by decide) ?_
    refine va_put (D := D) (ci := 4) (v := .int 2) (ty := .int) (C := RX4) (T := TX4) (N := 5) hx hb hts k2 tyX4 tyX4_ok nmX4 hown hKv hP hD hS 0 rfl rfl 2 (by decide) k6 (fun _ h9 => h9) rfl (by decide +kernel) rfl rfl (Nat.le_of_ble_eq_true rfl) dX4_takesFirst_33 (fun H locs hP hD hS => ?_)
    replace hP : va_P D vwCl (w_X4_takesFirst aN aT (N_fo ||| (1 <<< (x1 &&& 31))) 2 N_gr x1) H := hP
    replace hD : va_D A (w_X4_takesFirst aN aT (N_fo ||| (1 <<< (x1 &&& 31))) 2 N_gr x1) := hD
    refine lv_iconst (v := 1) hx hb dX4_takesFirst_36 (by decide) ?_
    have h9 := Option.some.inj hm
    subst h9
    exact hret H locs _ ls _ (Or.inr rfl) hP hD hS rfl dX4_takesFirst_37
  · replace hm := if_t c2 hm
    refine lv_iconst (v := 0) hx hb dX4_takesFirst_12 (by decide) ?_
    have h9 := Option.some.inj hm
    subst h9
    exact hret H locs _ ls _ (Or.inl rfl) hP hD hS rfl dX4_takesFirst_13
set_option maxHeartbeats 4000000 in
set_option maxRecDepth 100000 in
theorem c_X4_takes (l : Launch) (D : va_G) (cI cJ cZ cS : ClassId) (aN aT : Nat) (N_fo : Int32) (N_st : Int32) (N_gr : Int32) (N_fi : Int32) (x1 : Int32) (o : Int32 × Int32 × Int32 × Int32) (hm : m_X4_takes N_fo N_st N_gr N_fi x1 = some o) : MI l yX4_takes wsX4_takes rm_X4_takes D (TY cI cJ cZ cS) [.ref aN, .int x1] (w_X4_takes aN aT N_fo N_st N_gr N_fi) (w_X4_takes aN aT o.2.1 o.2.2.1 N_gr o.2.2.2) (o.1) := by
  refine MZ_of (cc := cX4_takes) (maxL := 2) (by decide) rfl (Nat.le_of_ble_eq_true rfl) ?_
  intro p e s m args below meth c A Q ls H locs hx hb hml hts hown hK hA hP hD hS hl hret
  have hown : s.vm.findClass RX4 = some m.cls := hown
  have hKv : va_K D vwCl (TY cI cJ cZ cS) s := hK.1
  have hl : lv_has ls 2 [(0, .ref aN), (1, .int x1)] := hl
  have S : CallFix p m c cX4_takes 2 s args wsX4_takes RX4 := ⟨hx, hb, hml, hown, hts⟩
  have k1 := hts (.fieldLink RX4 15 "CitationFormatter$NumbersReader" "stage" "I") (by decide +kernel)
  have k2 : ∀ w ∈ wsX40, w ∈ wsX4_takes := by decide +kernel
  have k3 : CallW rm_X4_takes s args RX4 RX4 41 yX4_takesFirst cX4_takesFirst 2 (some .boolean) wsX4_takesFirst rm_X4_takesFirst 0 0 1 := cwV 1 hts gX4_takes_X4_takesFirst rfl rfl rfl (by decide +kernel) ⟨Nat.le_of_ble_eq_true rfl, Nat.le_of_ble_eq_true rfl⟩
  have k4 : CallW rm_X4_takes s args RX4 RX4 44 yX4_takesHyphen cX4_takesHyphen 2 (some .boolean) wsX4_takesHyphen rm_X4_takesHyphen 0 0 1 := cwV 1 hts gX4_takes_X4_takesHyphen rfl rfl rfl (by decide +kernel) ⟨Nat.le_of_ble_eq_true rfl, Nat.le_of_ble_eq_true rfl⟩
  have k5 : CallW rm_X4_takes s args RX4 RX4 47 yX4_takesItemEnd cX4_takesItemEnd 2 (some .boolean) wsX4_takesItemEnd rm_X4_takesItemEnd 0 0 1 := cwV 1 hts gX4_takes_X4_takesItemEnd rfl rfl rfl (by decide +kernel) ⟨Nat.le_of_ble_eq_true rfl, Nat.le_of_ble_eq_true rfl⟩
  have k6 : CallW rm_X4_takes s args RX4 RX4 50 yX4_takesLast cX4_takesLast 3 (some .boolean) wsX4_takesLast rm_X4_takesLast 0 0 1 := cwV 1 hts gX4_takes_X4_takesLast rfl rfl rfl (by decide +kernel) ⟨Nat.le_of_ble_eq_true rfl, Nat.le_of_ble_eq_true rfl⟩
  have J56 : ∀ (y0_j56 : Int32) (N_fo_j56 : Int32) (N_st_j56 : Int32) (N_fi_j56 : Int32), (m_X4_takes_J56 y0_j56 N_fo_j56 N_st_j56 N_fi_j56 = some o) → ∀ (H : Heap) (locs : List Loc) (ls : Array Slot), va_P D vwCl (w_X4_takes aN aT N_fo_j56 N_st_j56 N_gr N_fi_j56) H → va_D A (w_X4_takes aN aT N_fo_j56 N_st_j56 N_gr N_fi_j56) → va_S A s.heap H locs → lv_has ls 2 [(0, .ref aN)] → W p l e rm_X4_takes s m args below meth c H locs 0 0 Q (F0 m 56 ls [.int y0_j56]) := by
    intro y0_j56 N_fo_j56 N_st_j56 N_fi_j56 hm H locs ls hP hD hS hl
    replace hm := ckb_some hm
    obtain ⟨h1, hm⟩ := hm
    have h9 := Option.some.inj hm
    subst h9
    exact hret H locs _ ls _ h1 hP hD hS rfl dX4_takes_56
  have J87 : ∀ (y0_j87 : Int32) (N_fo_j87 : Int32) (N_st_j87 : Int32) (N_fi_j87 : Int32), (m_X4_takes_J87 y0_j87 N_fo_j87 N_st_j87 N_fi_j87 = some o) → ∀ (H : Heap) (locs : List Loc) (ls : Array Slot), va_P D vwCl (w_X4_takes aN aT N_fo_j87 N_st_j87 N_gr N_fi_j87) H → va_D A (w_X4_takes aN aT N_fo_j87 N_st_j87 N_gr N_fi_j87) → va_S A s.heap H locs → lv_has ls 2 [(0, .ref aN)] → W p l e rm_X4_takes s m args below meth c H locs 0 0 Q (F0 m 87 ls [.int y0_j87]) := by
    intro y0_j87 N_fo_j87 N_st_j87 N_fi_j87 hm H locs ls hP hD hS hl
    replace hm := ckb_some hm
    obtain ⟨h2, hm⟩ := hm
    have h9 := Option.some.inj hm
    subst h9
    exact hret H locs _ ls _ h2 hP hD hS rfl dX4_takes_87
  have J82 : ∀ (N_fo_j82 : Int32) (N_st_j82 : Int32) (N_fi_j82 : Int32), (m_X4_takes_J82 N_fo_j82 N_st_j82 N_fi_j82 = some o) → ∀ (H : Heap) (locs : List Loc) (ls : Array Slot), va_P D vwCl (w_X4_takes aN aT N_fo_j82 N_st_j82 N_gr N_fi_j82) H → va_D A (w_X4_takes aN aT N_fo_j82 N_st_j82 N_gr N_fi_j82) → va_S A s.heap H locs → lv_has ls 2 [(0, .ref aN)] → W p l e rm_X4_takes s m args below meth c H locs 0 0 Q (F0 m 82 ls []) := by
    intro N_fo_j82 N_st_j82 N_fi_j82 hm H locs ls hP hD hS hl
    refine lv_iconst (v := 1) hx hb dX4_takes_82 (by decide) ?_
    refine lv_goto (tgt := 87) hx hb dX4_takes_83 (by decide) ?_
    exact J87 1 N_fo_j82 N_st_j82 N_fi_j82 hm H locs ls hP hD hS (lv_sub hl [0] rfl)
  refine lv_aload_n hx hb dX4_takes_0 rfl (lv_at hl 0 rfl) ?_
  refine va_get (D := D) (ci := 4) (v := .int N_st) (C := RX4) (T := TX4) (N := 5) hx hb hts k2 hown hKv hP 0 rfl rfl 2 (by decide) k1 (fun _ h9 => h9) rfl dX4_takes_1 ?_
  by_cases c3 : N_st = 0
  · replace hm := if_t c3 hm
    refine lv_tableIn (tgt := 40) hx hb dX4_takes_4 (by rw [c3]; decide) (by rw [c3]; decide) (by rw [c3]; rfl) (by decide) ?_
    refine lv_aload_n hx hb dX4_takes_40 rfl (lv_at hl 0 rfl) ?_
    refine lv_iconst (v := 1) hx hb dX4_takes_41 (by decide) ?_
    refine va_put (D := D) (ci := 4) (v := .int 1) (ty := .int) (C := RX4) (T := TX4) (N := 5) hx hb hts k2 tyX4 tyX4_ok nmX4 hown hKv hP hD hS 0 rfl rfl 2 (by decide) k1 (fun _ h9 => h9) rfl (by decide +kernel) rfl rfl (Nat.le_of_ble_eq_true rfl) dX4_takes_42 (fun H locs hP hD hS => ?_)
    replace hP : va_P D vwCl (w_X4_takes aN aT N_fo 1 N_gr N_fi) H := hP
    replace hD : va_D A (w_X4_takes aN aT N_fo 1 N_gr N_fi) := hD
    refine lv_iload_n hx hb dX4_takes_45 rfl (lv_at hl 1 rfl) ?_
    refine lv_bipush (v := 91) hx hb dX4_takes_46 (by decide) ?_
    refine lv_icmp_ne (tgt := 55) hx hb dX4_takes_48 (by decide) (fun c4 => ?_) (fun c4 => ?_)
    · replace hm := if_f c4 hm
      refine lv_iconst (v := 0) hx hb dX4_takes_55 (by decide) ?_
      exact J56 0 N_fo 1 N_fi hm H locs ls hP hD hS (lv_sub hl [0] rfl)
    · replace hm := if_t c4 hm
      refine lv_iconst (v := 1) hx hb dX4_takes_51 (by decide) ?_
      refine lv_goto (tgt := 56) hx hb dX4_takes_52 (by decide) ?_
      exact J56 1 N_fo 1 N_fi hm H locs ls hP hD hS (lv_sub hl [0] rfl)
  · replace hm := if_f c3 hm
    by_cases c5 : N_st = 1
    · replace hm := if_t c5 hm
      refine lv_tableIn (tgt := 57) hx hb dX4_takes_4 (by rw [c5]; decide) (by rw [c5]; decide) (by rw [c5]; rfl) (by decide) ?_
      refine lv_aload_n hx hb dX4_takes_57 rfl (lv_at hl 0 rfl) ?_
      refine lv_iload_n hx hb dX4_takes_58 rfl (lv_at hl 1 rfl) ?_
      refine lv_bipush (v := 48) hx hb dX4_takes_59 (by decide) ?_
      refine lv_isub hx hb dX4_takes_61 ?_
      replace hm := bd_some hm
      obtain ⟨e6, hc6, hm⟩ := hm
      obtain ⟨e6_0, e6_1, e6_2, e6_3⟩ := e6
      refine kV_i (rest := []) (ws' := (w_X4_takes aN aT e6_1 e6_2 N_gr e6_3)) S (c_X4_takesFirst l D cI cJ cZ cS aN aT N_fo N_st N_gr N_fi (x1 - 48) (e6_0, e6_1, e6_2, e6_3) hc6) k3 hK hP hD hS hA 0 rfl rfl rfl rfl hl.1 rfl (Nat.le_of_ble_eq_true rfl) ⟨Nat.zero_le _, Nat.zero_le _⟩ dX4_takes_62 [0] rfl rfl wa_X4_takesFirst (sa_eq [] [] 1 rfl rfl rfl rfl rfl rfl rfl) (fun H locs hP hD hS => ?_)
      replace hm := ckb_some hm
      obtain ⟨h7, hm⟩ := hm
      have h9 := Option.some.inj hm
      subst h9
      exact hret H locs _ ls _ h7 hP hD hS rfl dX4_takes_65
    · replace hm := if_f c5 hm
      by_cases c8 : N_st = 2
      · replace hm := if_t c8 hm
        refine lv_tableIn (tgt := 66) hx hb dX4_takes_4 (by rw [c8]; decide) (by rw [c8]; decide) (by rw [c8]; rfl) (by decide) ?_
        refine lv_aload_n hx hb dX4_takes_66 rfl (lv_at hl 0 rfl) ?_
        refine lv_iload_n hx hb dX4_takes_67 rfl (lv_at hl 1 rfl) ?_
        replace hm := bd_some hm
        obtain ⟨e9, hc9, hm⟩ := hm
        refine kV_i (rest := []) (ws' := (w_X4_takes aN aT N_fo e9.2 N_gr N_fi)) S (c_X4_takesHyphen l D cI cJ cZ cS aN aT N_fo N_st N_gr N_fi x1 e9 hc9) k4 hK hP hD hS hA 0 rfl rfl rfl rfl hl.1 rfl (Nat.le_of_ble_eq_true rfl) ⟨Nat.zero_le _, Nat.zero_le _⟩ dX4_takes_68 [0] rfl rfl wa_X4_takesHyphen (sa_eq [] [] 1 rfl rfl rfl rfl rfl rfl rfl) (fun H locs hP hD hS => ?_)
        refine lv_if_ne (tgt := 82) hx hb dX4_takes_71 (by decide) (fun c10 => ?_) (fun c10 => ?_)
        · replace hm := if_f c10 hm
          exact J82 N_fo e9.2 N_fi hm H locs ls hP hD hS (lv_sub hl [0] rfl)
        · replace hm := if_t c10 hm
          refine lv_aload_n hx hb dX4_takes_74 rfl (lv_at hl 0 rfl) ?_
          refine lv_iload_n hx hb dX4_takes_75 rfl (lv_at hl 1 rfl) ?_
          replace hm := bd_some hm
          obtain ⟨e11, hc11, hm⟩ := hm
          refine kV_i (rest := []) (ws' := (w_X4_takes aN aT N_fo e11.2 N_gr N_fi)) S (c_X4_takesItemEnd l D cI cJ cZ cS aN aT N_fo e9.2 N_gr N_fi x1 e11 hc11) k5 hK hP hD hS hA 0 rfl rfl rfl rfl hl.1 rfl (Nat.le_of_ble_eq_true rfl) ⟨Nat.zero_le _, Nat.zero_le _⟩ dX4_takes_76 [0] rfl rfl wa_X4_takesItemEnd (sa_eq [] [] 1 rfl rfl rfl rfl rfl rfl rfl) (fun H locs hP hD hS => ?_)
          refine lv_if_eq (tgt := 86) hx hb dX4_takes_79 (by decide) (fun c12 => ?_) (fun c12 => ?_)
          · replace hm := if_t c12 hm
            refine lv_iconst (v := 0) hx hb dX4_takes_86 (by decide) ?_
            exact J87 0 N_fo e11.2 N_fi hm H locs ls hP hD hS (lv_sub hl [0] rfl)
          · replace hm := if_f c12 hm
            exact J82 N_fo e11.2 N_fi hm H locs ls hP hD hS (lv_sub hl [0] rfl)
      · replace hm := if_f c8 hm
        by_cases c13 : N_st = 3
        · replace hm := if_t c13 hm
          refine lv_tableIn (tgt := 88) hx hb dX4_takes_4 (by rw [c13]; decide) (by rw [c13]; decide) (by rw [c13]; rfl) (by decide) ?_
          refine lv_aload_n hx hb dX4_takes_88 rfl (lv_at hl 0 rfl) ?_
          refine lv_iload_n hx hb dX4_takes_89 rfl (lv_at hl 1 rfl) ?_
          refine lv_bipush (v := 48) hx hb dX4_takes_90 (by decide) ?_
          refine lv_isub hx hb dX4_takes_92 ?_
          replace hm := bd_some hm
          obtain ⟨e14, hc14, hm⟩ := hm
          refine kV_i (rest := []) (ws' := (w_X4_takes aN aT e14.2.1 e14.2.2 N_gr N_fi)) S (c_X4_takesLast l D cI cJ cZ cS aN aT N_fo N_st N_gr N_fi (x1 - 48) e14 hc14) k6 hK hP hD hS hA 0 rfl rfl rfl rfl hl.1 rfl (Nat.le_of_ble_eq_true rfl) ⟨Nat.zero_le _, Nat.zero_le _⟩ dX4_takes_93 [0] rfl rfl wa_X4_takesLast (sa_eq [] [] 1 rfl rfl rfl rfl rfl rfl rfl) (fun H locs hP hD hS => ?_)
          replace hm := ckb_some hm
          obtain ⟨h15, hm⟩ := hm
          have h9 := Option.some.inj hm
          subst h9
          exact hret H locs _ ls _ h15 hP hD hS rfl dX4_takes_96
        · replace hm := if_f c13 hm
          by_cases c16 : N_st = 4
          · replace hm := if_t c16 hm
            refine lv_tableIn (tgt := 97) hx hb dX4_takes_4 (by rw [c16]; decide) (by rw [c16]; decide) (by rw [c16]; rfl) (by decide) ?_
            refine lv_aload_n hx hb dX4_takes_97 rfl (lv_at hl 0 rfl) ?_
            refine lv_iload_n hx hb dX4_takes_98 rfl (lv_at hl 1 rfl) ?_
            replace hm := bd_some hm
            obtain ⟨e17, hc17, hm⟩ := hm
            refine kV_i (rest := []) (ws' := (w_X4_takes aN aT N_fo e17.2 N_gr N_fi)) S (c_X4_takesItemEnd l D cI cJ cZ cS aN aT N_fo N_st N_gr N_fi x1 e17 hc17) k5 hK hP hD hS hA 0 rfl rfl rfl rfl hl.1 rfl (Nat.le_of_ble_eq_true rfl) ⟨Nat.zero_le _, Nat.zero_le _⟩ dX4_takes_99 [0] rfl rfl wa_X4_takesItemEnd (sa_eq [] [] 1 rfl rfl rfl rfl rfl rfl rfl) (fun H locs hP hD hS => ?_)
            replace hm := ckb_some hm
            obtain ⟨h18, hm⟩ := hm
            have h9 := Option.some.inj hm
            subst h9
            exact hret H locs _ ls _ h18 hP hD hS rfl dX4_takes_102
          · replace hm := if_f c16 hm
            refine lv_tableOut (tgt := 103) hx hb dX4_takes_4 (sw_out0_4 c3 c5 c8 c13 c16) (by decide) ?_
            refine lv_iconst (v := 0) hx hb dX4_takes_103 (by decide) ?_
            have h9 := Option.some.inj hm
            subst h9
            exact hret H locs _ ls _ (Or.inl rfl) hP hD hS rfl dX4_takes_104
set_option maxHeartbeats 4000000 in
set_option maxRecDepth 100000 in
theorem c_X4_read (l : Launch) (D : va_G) (cI cJ cZ cS : ClassId) (aT aT_co aN : Nat) (T_co : Nat → Int32) (T_n : Int32) (N_fo : Int32) (N_st : Int32) (N_gr : Int32) (N_fi : Int32) (x1 : Int32) (o : Int32 × Int32 × Int32 × Int32 × Int32) (hm : m_X4_read T_co T_n N_fo N_st N_gr N_fi x1 = some o) : MI l yX4_read wsX4_read rm_X4_read D (TY cI cJ cZ cS) [.ref aN, .int x1] (w_X4_read cI aT aT_co aN T_co T_n N_fo N_st N_gr N_fi) (w_X4_read cI aT aT_co aN T_co T_n o.2.1 o.2.2.1 o.2.2.2.1 o.2.2.2.2) (o.1) := by
  refine MI_of (cc := cX4_read) (maxL := 3) (by decide) rfl (Nat.le_of_ble_eq_true rfl) ?_
  intro p e s m args below meth c A Q ls H locs hx hb hml hts hown hK hA hP hD hS hl hret
  have hown : s.vm.findClass RX4 = some m.cls := hown
  have hKv : va_K D vwCl (TY cI cJ cZ cS) s := hK.1
  have hl : lv_has ls 3 [(0, .ref aN), (1, .int x1)] := hl
  have S : CallFix p m c cX4_read 3 s args wsX4_read RX4 := ⟨hx, hb, hml, hown, hts⟩
  have k1 := hts (.fieldLink RX4 9 "CitationFormatter$NumbersReader" "found" "I") (by decide +kernel)
  have k2 : ∀ w ∈ wsX40, w ∈ wsX4_read := by decide +kernel
  have k3 := hts (.fieldLink RX4 15 "CitationFormatter$NumbersReader" "stage" "I") (by decide +kernel)
  have k4 := hts (.fieldLink RX4 18 "CitationFormatter$NumbersReader" "greatest" "I") (by decide +kernel)
  have k5 := hts (.fieldLink RX4 24 "CitationFormatter$NumbersReader" "text" "LCitationFormatter$Text;") (by decide +kernel)
  have k6 := hts (.fieldLink RX4 28 "CitationFormatter$Text" "length" "I") (by decide +kernel)
  have k7 : ∀ w ∈ wsX80, w ∈ wsX4_read := by decide +kernel
  have k8 := hts (.fieldLink RX4 33 "CitationFormatter$Text" "codes" "[I") (by decide +kernel)
  have k9 : CallW rm_X4_read s args RX4 RX4 37 yX4_takes cX4_takes 2 (some .boolean) wsX4_takes rm_X4_takes 0 0 1 := cwV 1 hts gX4_read_X4_takes rfl rfl rfl (by decide +kernel) ⟨Nat.le_of_ble_eq_true rfl, Nat.le_of_ble_eq_true rfl⟩
  have J71 : ∀ (y0_j71 : Int32) (N_fo_j71 : Int32) (N_st_j71 : Int32) (N_gr_j71 : Int32) (N_fi_j71 : Int32), (m_X4_read_J71 y0_j71 N_fo_j71 N_st_j71 N_gr_j71 N_fi_j71 = some o) → ∀ (H : Heap) (locs : List Loc) (ls : Array Slot), va_P D vwCl (w_X4_read cI aT aT_co aN T_co T_n N_fo_j71 N_st_j71 N_gr_j71 N_fi_j71) H → va_D A (w_X4_read cI aT aT_co aN T_co T_n N_fo_j71 N_st_j71 N_gr_j71 N_fi_j71) → va_S A s.heap H locs → lv_has ls 3 [(0, .ref aN)] → W p l e rm_X4_read s m args below meth c H locs 0 0 Q (F0 m 71 ls [.int y0_j71]) := by
    intro y0_j71 N_fo_j71 N_st_j71 N_gr_j71 N_fi_j71 hm H locs ls hP hD hS hl
    have h9 := Option.some.inj hm
    subst h9
    exact hret H locs _ ls _ hP hD hS rfl dX4_read_71
  refine lv_aload_n hx hb dX4_read_0 rfl (lv_at hl 0 rfl) ?_
  refine lv_iconst (v := 0) hx hb dX4_read_1 (by decide) ?_
  refine va_put (D := D) (ci := 4) (v := .int 0) (ty := .int) (C := RX4) (T := TX4) (N := 5) hx hb hts k2 tyX4 tyX4_ok nmX4 hown hKv hP hD hS 2 rfl rfl 0 (by decide) k1 (fun _ h9 => h9) rfl (by decide +kernel) rfl rfl (Nat.le_of_ble_eq_true rfl) dX4_read_2 (fun H locs hP hD hS => ?_)
  replace hP : va_P D vwCl (w_X4_read cI aT aT_co aN T_co T_n 0 N_st N_gr N_fi) H := hP
  replace hD : va_D A (w_X4_read cI aT aT_co aN T_co T_n 0 N_st N_gr N_fi) := hD
  refine lv_aload_n hx hb dX4_read_5 rfl (lv_at hl 0 rfl) ?_
  refine lv_iconst (v := 0) hx hb dX4_read_6 (by decide) ?_
  refine va_put (D := D) (ci := 4) (v := .int 0) (ty := .int) (C := RX4) (T := TX4) (N := 5) hx hb hts k2 tyX4 tyX4_ok nmX4 hown hKv hP hD hS 2 rfl rfl 2 (by decide) k3 (fun _ h9 => h9) rfl (by decide +kernel) rfl rfl (Nat.le_of_ble_eq_true rfl) dX4_read_7 (fun H locs hP hD hS => ?_)
  replace hP : va_P D vwCl (w_X4_read cI aT aT_co aN T_co T_n 0 0 N_gr N_fi) H := hP
  replace hD : va_D A (w_X4_read cI aT aT_co aN T_co T_n 0 0 N_gr N_fi) := hD
  refine lv_aload_n hx hb dX4_read_10 rfl (lv_at hl 0 rfl) ?_
  refine lv_iload_n hx hb dX4_read_11 rfl (lv_at hl 1 rfl) ?_
  refine va_put (D := D) (ci := 4) (v := .int x1) (ty := .int) (C := RX4) (T := TX4) (N := 5) hx hb hts k2 tyX4 tyX4_ok nmX4 hown hKv hP hD hS 2 rfl rfl 3 (by decide) k4 (fun _ h9 => h9) rfl (by decide +kernel) rfl rfl (Nat.le_of_ble_eq_true rfl) dX4_read_12 (fun H locs hP hD hS => ?_)
  replace hP : va_P D vwCl (w_X4_read cI aT aT_co aN T_co T_n 0 0 x1 N_fi) H := hP
  replace hD : va_D A (w_X4_read cI aT aT_co aN T_co T_n 0 0 x1 N_fi) := hD
  refine lv_iconst (v := 0) hx hb dX4_read_15 (by decide) ?_
  refine lv_istore_n (lv' := [(2, .int 0), (0, .ref aN), (1, .int x1)]) hx hb dX4_read_16 rfl hl (by decide) rfl (fun ls hl => ?_)
  replace hm := bd_some hm
  obtain ⟨e1, hc1, hm⟩ := hm
  have X1_0 : ∀ v1_0, e1 = Sum.inl v1_0 → ∀ (H : Heap) (locs : List Loc) (ls : Array Slot), va_P D vwCl (w_X4_read cI aT aT_co aN T_co T_n v1_0.2.1 v1_0.2.2.1 x1 v1_0.2.2.2) H → va_D A (w_X4_read cI aT aT_co aN T_co T_n v1_0.2.1 v1_0.2.2.1 x1 v1_0.2.2.2) → va_S A s.heap H locs → lv_has ls 3 [(0, .ref aN), (2, .int v1_0.1)] → W p l e rm_X4_read s m args below meth c H locs 0 0 Q (F0 m 44 ls []) := by
    intro v1_0 h9 H locs ls hP hD hS hl
    subst h9
    replace hm := el_l hm
    refine lv_iload_n hx hb dX4_read_44 rfl (lv_at hl 1 rfl) ?_
    have h9 := Option.some.inj hm
    subst h9
    exact hret H locs _ ls _ hP hD hS rfl dX4_read_45
  have X1_1 : ∀ v1_1, e1 = Sum.inr (v1_1) → ∀ (H : Heap) (locs : List Loc) (ls : Array Slot), va_P D vwCl (w_X4_read cI aT aT_co aN T_co T_n v1_1.1 v1_1.2.1 x1 v1_1.2.2) H → va_D A (w_X4_read cI aT aT_co aN T_co T_n v1_1.1 v1_1.2.1 x1 v1_1.2.2) → va_S A s.heap H locs → lv_has ls 3 [(0, .ref aN)] → W p l e rm_X4_read s m args below meth c H locs 0 0 Q (F0 m 52 ls []) := by
    intro v1_1 h9 H locs ls hP hD hS hl
    subst h9
    replace hm := el_r hm
    refine lv_aload_n hx hb dX4_read_52 rfl (lv_at hl 0 rfl) ?_
    refine va_get (D := D) (ci := 4) (v := .int v1_1.2.1) (C := RX4) (T := TX4) (N := 5) hx hb hts k2 hown hKv hP 2 rfl rfl 2 (by decide) k3 (fun _ h9 => h9) rfl dX4_read_53 ?_
    refine lv_iconst (v := 5) hx hb dX4_read_56 (by decide) ?_
    refine lv_icmp_ne (tgt := 64) hx hb dX4_read_57 (by decide) (fun c2 => ?_) (fun c2 => ?_)
    · replace hm := if_f c2 hm
      refine lv_aload_n hx hb dX4_read_64 rfl (lv_at hl 0 rfl) ?_
      refine va_get (D := D) (ci := 4) (v := .ref aT) (C := RX4) (T := TX4) (N := 5) hx hb hts k2 hown hKv hP 2 rfl rfl 1 (by decide) k5 (fun _ h9 => h9) rfl dX4_read_65 ?_
      refine va_get (D := D) (ci := 8) (v := .int T_n) (C := RX8) (T := TX8) (N := 2) hx hb hts k7 hown hKv hP 0 rfl rfl 1 (by decide) k6 (fun _ h9 => h9) rfl dX4_read_68 ?_
      exact J71 T_n v1_1.1 v1_1.2.1 x1 v1_1.2.2 hm H locs ls hP hD hS (lv_sub hl [0] rfl)
    · replace hm := if_t c2 hm
      refine lv_iconst (v := (-1)) hx hb dX4_read_60 (by decide) ?_
      refine lv_goto (tgt := 71) hx hb dX4_read_61 (by decide) ?_
      exact J71 (-1) v1_1.1 v1_1.2.1 x1 v1_1.2.2 hm H locs ls hP hD hS (lv_sub hl [0] rfl)
  refine it_W (G := fun (st17 : Int32 × Int32 × Int32 × Int32) => ∀ (H : Heap) (locs : List Loc) (ls : Array Slot), va_P D vwCl (w_X4_read cI aT aT_co aN T_co T_n st17.2.1 st17.2.2.1 x1 st17.2.2.2) H → va_D A (w_X4_read cI aT aT_co aN T_co T_n st17.2.1 st17.2.2.1 x1 st17.2.2.2) → va_S A s.heap H locs → lv_has ls 3 [(0, .ref aN), (2, .int st17.1)] → W p l e rm_X4_read s m args below meth c H locs 0 0 Q (F0 m 17 ls [])) (e := e1) (fun st17 x hm hG hE => ?_) fu _ hc1 H locs ls hP hD hS (lv_sub hl [1, 0] rfl)
  intro H locs ls hP hD hS hl
  refine lv_iload_n hx hb dX4_read_17 rfl (lv_at hl 1 rfl) ?_
  refine lv_aload_n hx hb dX4_read_18 rfl (lv_at hl 0 rfl) ?_
  refine va_get (D := D) (ci := 4) (v := .ref aT) (C := RX4) (T := TX4) (N := 5) hx hb hts k2 hown hKv hP 2 rfl rfl 1 (by decide) k5 (fun _ h9 => h9) rfl dX4_read_19 ?_
  refine va_get (D := D) (ci := 8) (v := .int T_n) (C := RX8) (T := TX8) (N := 2) hx hb hts k7 hown hKv hP 0 rfl rfl 1 (by decide) k6 (fun _ h9 => h9) rfl dX4_read_22 ?_
  refine lv_icmp_ge (tgt := 52) hx hb dX4_read_25 (by decide) (fun c3 => ?_) (fun c3 => ?_)
  · replace hm := if_t c3 hm
    exact X1_1 _ (hE _ (Option.some.inj hm).symm).symm H locs ls hP hD hS (lv_sub hl [0] rfl)
  · replace hm := if_f c3 hm
    refine lv_aload_n hx hb dX4_read_28 rfl (lv_at hl 0 rfl) ?_
    refine lv_aload_n hx hb dX4_read_29 rfl (lv_at hl 0 rfl) ?_
    refine va_get (D := D) (ci := 4) (v := .ref aT) (C := RX4) (T := TX4) (N := 5) hx hb hts k2 hown hKv hP 2 rfl rfl 1 (by decide) k5 (fun _ h9 => h9) rfl dX4_read_30 ?_
    refine va_get (D := D) (ci := 8) (v := .ref aT_co) (C := RX8) (T := TX8) (N := 2) hx hb hts k7 hown hKv hP 0 rfl rfl 0 (by decide) k8 (fun _ h9 => h9) rfl dX4_read_33 ?_
    refine lv_iload_n hx hb dX4_read_36 rfl (lv_at hl 1 rfl) ?_
    replace hm := ck_some hm
    obtain ⟨h4, hm⟩ := hm
    refine va_iald hx hb hKv hP 1 0 rfl rfl h4 dX4_read_37 ?_
    replace hm := bd_some hm
    obtain ⟨e5, hc5, hm⟩ := hm
    obtain ⟨e5_0, e5_1, e5_2, e5_3⟩ := e5
    refine kV_i (rest := []) (ws' := (w_X4_read cI aT aT_co aN T_co T_n e5_1 e5_2 x1 e5_3)) S (c_X4_takes l D cI cJ cZ cS aN aT st17.2.1 st17.2.2.1 x1 st17.2.2.2 (T_co (Int32.toNatClampNeg st17.1)) (e5_0, e5_1, e5_2, e5_3) hc5) k9 hK hP hD hS hA 2 rfl rfl rfl rfl hl.1 rfl (Nat.le_of_ble_eq_true rfl) ⟨Nat.zero_le _, Nat.zero_le _⟩ dX4_read_38 [2] rfl rfl wa_X4_takes (sa_eq [(aT, .inr (8, [.ref aT_co, .int T_n])), (aT_co, .inl (cI, 150, .inl T_co))] [0, 1] 3 rfl rfl rfl rfl rfl rfl rfl) (fun H locs hP hD hS => ?_)
    refine lv_if_ne (tgt := 46) hx hb dX4_read_41 (by decide) (fun c6 => ?_) (fun c6 => ?_)
    · replace hm := if_f c6 hm
      refine lv_iinc (v := (st17.1 + 1)) (lv' := [(2, .int (st17.1 + 1)), (0, .ref aN)]) hx hb dX4_read_46 hl (k := 1) rfl rfl (by decide) rfl (fun ls hl => ?_)
      refine lv_goto (tgt := 17) hx hb dX4_read_49 (by decide) ?_
      exact hG _ (Option.some.inj hm).symm H locs ls hP hD hS (lv_sub hl [1, 0] rfl)
    · replace hm := if_t c6 hm
      exact X1_0 _ (hE _ (Option.some.inj hm).symm).symm H locs ls hP hD hS (lv_sub hl [0, 1] rfl)
