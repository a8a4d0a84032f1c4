def m_X11_inRange_J15 (y0 : Int32) : Option (Int32) := ckb y0 (some y0)
def m_X11_inRange_J14 : Option (Int32) := m_X11_inRange_J15 0
def m_X11_inRange (x0 : Int32) (x1 : Int32) (x2 : Int32) : Option (Int32) := if x0 < x1 then (m_X11_inRange_J14) else (if x2 < x0 then (m_X11_inRange_J14) else (m_X11_inRange_J15 1))
def m_X11_inSet_J14 (y0 : Int32) : Option (Int32) := ckb y0 (some y0)
def m_X11_inSet (x0 : Int32) (x1 : Int32) : Option (Int32) := if ((x0 >>> (x1 &&& 31)) &&& 1) = 1 then (m_X11_inSet_J14 1) else (m_X11_inSet_J14 0)
def m_X11_hasBelow_J15 (y0 : Int32) : Option (Int32) := ckb y0 (some y0)
def m_X11_hasBelow (x0 : Int32) (x1 : Int32) : Option (Int32) := if (x0 &&& ((1 <<< (x1 &&& 31)) - 1)) = 0 then (m_X11_hasBelow_J15 0) else (m_X11_hasBelow_J15 1)
def m_X1_add_J32 (C_sz : Nat → Int32) (C_cd : Nat → Int32) : Option ((Nat → Int32) × (Nat → Int32)) := some (C_sz, C_cd)
def m_X1_add (C_sz : Nat → Int32) (C_cd : Nat → Int32) (x1 : Int32) (x2 : Int32) : Option ((Nat → Int32) × (Nat → Int32)) := ck x1 10 (if 5 ≤ (C_sz (Int32.toNatClampNeg x1)) then (m_X1_add_J32 C_sz C_cd) else (ck ((x1 * 5) + (C_sz (Int32.toNatClampNeg x1))) 50 (ck x1 10 (m_X1_add_J32 (upd C_sz (Int32.toNatClampNeg x1) ((C_sz (Int32.toNatClampNeg x1)) + 1)) (upd C_cd (Int32.toNatClampNeg ((x1 * 5) + (C_sz (Int32.toNatClampNeg x1)))) x2)))))
def m_X1_begin_J38 (C_n : Int32) (C_sz : Nat → Int32) (C_cd : Nat → Int32) : Option (Int32 × (Nat → Int32) × (Nat → Int32)) := some (C_n, C_sz, C_cd)
def m_X1_begin (C_n : Int32) (C_sz : Nat → Int32) (C_cd : Nat → Int32) (x1 : Int32) : Option (Int32 × (Nat → Int32) × (Nat → Int32)) := if 10 ≤ C_n then (m_X1_begin_J38 C_n C_sz C_cd) else (ck C_n 10 ((m_X1_add (upd C_sz (Int32.toNatClampNeg C_n) 0) C_cd C_n x1).bind fun e3 => m_X1_begin_J38 (C_n + 1) e3.1 e3.2))
def m_X1_workAt (C_cd : Nat → Int32) (x1 : Int32) (x2 : Int32) : Option (Int32) := ck ((x1 * 5) + x2) 50 (some (C_cd (Int32.toNatClampNeg ((x1 * 5) + x2))))
def m_X1_cites_B2 (x1 : Int32) (x2 : Int32) (C_sz : Nat → Int32) (C_cd : Nat → Int32) (st : Int32) : Option (Int32 ⊕ (Unit ⊕ Unit)) := ck x1 10 (if (C_sz (Int32.toNatClampNeg x1)) ≤ st then (some (Sum.inr (Sum.inr (())))) else ((m_X1_workAt C_cd x1 st).bind fun e4 => if e4 = x2 then (some (Sum.inr (Sum.inl ()))) else (some (Sum.inl (st + 1)))))
def m_X1_cites (C_sz : Nat → Int32) (C_cd : Nat → Int32) (x1 : Int32) (x2 : Int32) : Option (Int32) := (it (m_X1_cites_B2 x1 x2 C_sz C_cd) fu 0).bind (Sum.elim (fun v1_0 => some 1) (fun v1_1 => some 0))
def m_X1_copyCitation_B15 (x2 : Int32) (x3 : Int32) (K_cd : Nat → Int32) (st : Int32 × (Nat → Int32)) : Option ((Int32 × (Nat → Int32)) ⊕ (((Nat → Int32)))) := if 5 ≤ st.1 then (some (Sum.inr st.2)) else (ck ((x2 * 5) + st.1) 50 (ck ((x3 * 5) + st.1) 50 (some (Sum.inl ((st.1 + 1), (upd st.2 (Int32.toNatClampNeg ((x3 * 5) + st.1)) (K_cd (Int32.toNatClampNeg ((x2 * 5) + st.1)))))))))
def m_X1_copyCitation (C_sz : Nat → Int32) (C_cd : Nat → Int32) (K_sz : Nat → Int32) (K_cd : Nat → Int32) (x2 : Int32) (x3 : Int32) : Option ((Nat → Int32) × (Nat → Int32)) := ck x2 10 (ck x3 10 ((it (m_X1_copyCitation_B15 x2 x3 K_cd) fu (0, C_cd)).bind fun e3 => some ((upd C_sz (Int32.toNatClampNeg x3) (K_sz (Int32.toNatClampNeg x2))), e3)))
def m_X1_copyFrom_B10 (C_n : Int32) (K_sz : Nat → Int32) (K_cd : Nat → Int32) (st : Int32 × (Nat → Int32) × (Nat → Int32)) : Option ((Int32 × (Nat → Int32) × (Nat → Int32)) ⊕ (((Nat → Int32) × (Nat → Int32)))) := if C_n ≤ st.1 then (some (Sum.inr (st.2.1, st.2.2))) else ((m_X1_copyCitation st.2.1 st.2.2 K_sz K_cd st.1 st.1).bind fun e3 => some (Sum.inl ((st.1 + 1), e3.1, e3.2)))
def m_X1_copyFrom (C_n : Int32) (C_sz : Nat → Int32) (C_cd : Nat → Int32) (K_n : Int32) (K_sz : Nat → Int32) (K_cd : Nat → Int32) : Option (Int32 × (Nat → Int32) × (Nat → Int32)) := (it (m_X1_copyFrom_B10 K_n K_sz K_cd) fu (0, C_sz, C_cd)).bind fun e1 => some (K_n, e1.1, e1.2)
def m_X1_copyWithout_J60 (x1 : Int32) (x2 : Int32) (x3 : Int32) (x4 : Int32) (x5 : Int32) (C_sz : Nat → Int32) (C_cd : Nat → Int32) : Option ((Int32 × (Nat → Int32) × (Nat → Int32)) ⊕ (((Nat → Int32) × (Nat → Int32)))) := some (Sum.inl ((x5 + 1), C_sz, C_cd))
def m_X1_copyWithout_J57 (x1 : Int32) (x2 : Int32) (x3 : Int32) (x4 : Int32) (x5 : Int32) (y0 : Int32) (y1 : Int32) (C_sz : Nat → Int32) (C_cd : Nat → Int32) : Option ((Int32 × (Nat → Int32) × (Nat → Int32)) ⊕ (((Nat → Int32) × (Nat → Int32)))) := (m_X1_add C_sz C_cd y1 y0).bind fun e4 => m_X1_copyWithout_J60 x1 x2 x3 x4 x5 e4.1 e4.2
def m_X1_copyWithout_B18 (x1 : Int32) (x2 : Int32) (x3 : Int32) (x4 : Int32) (st : Int32 × (Nat → Int32) × (Nat → Int32)) : Option ((Int32 × (Nat → Int32) × (Nat → Int32)) ⊕ (((Nat → Int32) × (Nat → Int32)))) := if x4 ≤ st.1 then (some (Sum.inr (st.2.1, st.2.2))) else ((m_X1_workAt st.2.2 x2 st.1).bind fun e6 => if e6 = x1 then (m_X1_copyWithout_J60 x1 x2 x3 x4 st.1 st.2.1 st.2.2) else (if e6 ≤ x1 then (m_X1_copyWithout_J57 x1 x2 x3 x4 st.1 e6 x3 st.2.1 st.2.2) else (m_X1_copyWithout_J57 x1 x2 x3 x4 st.1 (e6 - 1) x3 st.2.1 st.2.2)))
def m_X1_copyWithout (C_sz : Nat → Int32) (C_cd : Nat → Int32) (x1 : Int32) (x2 : Int32) (x3 : Int32) : Option ((Nat → Int32) × (Nat → Int32)) := ck x2 10 (ck x3 10 ((it (m_X1_copyWithout_B18 x1 x2 x3 (C_sz (Int32.toNatClampNeg x2))) fu (0, (upd C_sz (Int32.toNatClampNeg x3) 0), C_cd)).bind fun e3 => some (e3.1, e3.2)))
def m_X1_dropWork_J31 (x1 : Int32) (x2 : Int32) (x3 : Int32) (C_sz : Nat → Int32) (C_cd : Nat → Int32) : Option ((Int32 × Int32 × (Nat → Int32) × (Nat → Int32)) ⊕ ((Int32 × (Nat → Int32) × (Nat → Int32)))) := some (Sum.inl (x2, (x3 + 1), C_sz, C_cd))
def m_X1_dropWork_B4 (x1 : Int32) (C_n : Int32) (st : Int32 × Int32 × (Nat → Int32) × (Nat → Int32)) : Option ((Int32 × Int32 × (Nat → Int32) × (Nat → Int32)) ⊕ ((Int32 × (Nat → Int32) × (Nat → Int32)))) := if C_n ≤ st.2.1 then (some (Sum.inr (st.1, st.2.2.1, st.2.2.2))) else ((m_X1_copyWithout st.2.2.1 st.2.2.2 x1 st.2.1 st.1).bind fun e3 => ck st.1 10 (if (e3.1 (Int32.toNatClampNeg st.1)) ≤ 0 then (m_X1_dropWork_J31 x1 st.1 st.2.1 e3.1 e3.2) else (m_X1_dropWork_J31 x1 (st.1 + 1) st.2.1 e3.1 e3.2)))
def m_X1_dropWork (C_n : Int32) (C_sz : Nat → Int32) (C_cd : Nat → Int32) (x1 : Int32) : Option (Int32 × (Nat → Int32) × (Nat → Int32)) := (it (m_X1_dropWork_B4 x1 C_n) fu (0, 0, C_sz, C_cd)).bind fun e1 => some (e1.1, e1.2.1, e1.2.2)
def m_X1_earliestCiting_B2 (x1 : Int32) (C_n : Int32) (C_sz : Nat → Int32) (C_cd : Nat → Int32) (st : Int32) : Option (Int32 ⊕ Int32) := if C_n ≤ st then (some (Sum.inr st)) else ((m_X1_cites C_sz C_cd st x1).bind fun e3 => if e3 = 0 then (some (Sum.inl (st + 1))) else (some (Sum.inr st)))
def m_X1_earliestCiting (C_n : Int32) (C_sz : Nat → Int32) (C_cd : Nat → Int32) (x1 : Int32) : Option (Int32) := (it (m_X1_earliestCiting_B2 x1 C_n C_sz C_cd) fu 0).bind fun e1 => some e1
def m_X1_has_J17 (y0 : Int32) : Option (Int32) := ckb y0 (some y0)
def m_X1_has_J16 : Option (Int32) := m_X1_has_J17 0
def m_X1_has (C_n : Int32) (x1 : Int32) : Option (Int32) := if x1 < 0 then (m_X1_has_J16) else (if C_n ≤ x1 then (m_X1_has_J16) else (m_X1_has_J17 1))
def m_X1_copyCitation_self_B15 (x2 : Int32) (x3 : Int32) (st : Int32 × (Nat → Int32)) : Option ((Int32 × (Nat → Int32)) ⊕ (((Nat → Int32)))) := if 5 ≤ st.1 then (some (Sum.inr st.2)) else (ck ((x2 * 5) + st.1) 50 (ck ((x3 * 5) + st.1) 50 (some (Sum.inl ((st.1 + 1), (upd st.2 (Int32.toNatClampNeg ((x3 * 5) + st.1)) (st.2 (Int32.toNatClampNeg ((x2 * 5) + st.1)))))))))
def m_X1_copyCitation_self (C_sz : Nat → Int32) (C_cd : Nat → Int32) (x2 : Int32) (x3 : Int32) : Option ((Nat → Int32) × (Nat → Int32)) := ck x2 10 (ck x3 10 ((it (m_X1_copyCitation_self_B15 x2 x3) fu (0, C_cd)).bind fun e3 => some ((upd C_sz (Int32.toNatClampNeg x3) (C_sz (Int32.toNatClampNeg x2))), e3)))
def m_X1_removeAt_B4 (C_n : Int32) (st : Int32 × (Nat → Int32) × (Nat → Int32)) : Option ((Int32 × (Nat → Int32) × (Nat → Int32)) ⊕ (((Nat → Int32) × (Nat → Int32)))) := if C_n ≤ st.1 then (some (Sum.inr (st.2.1, st.2.2))) else ((m_X1_copyCitation_self st.2.1 st.2.2 st.1 (st.1 - 1)).bind fun e3 => some (Sum.inl ((st.1 + 1), e3.1, e3.2)))
def m_X1_removeAt (C_n : Int32) (C_sz : Nat → Int32) (C_cd : Nat → Int32) (x1 : Int32) : Option (Int32 × (Nat → Int32) × (Nat → Int32)) := (it (m_X1_removeAt_B4 C_n) fu ((x1 + 1), C_sz, C_cd)).bind fun e1 => some ((C_n - 1), e1.1, e1.2)
def m_X9_compareAuthors_B2 (x1 : Int32) (x2 : Int32) (W_ac : Nat → Int32) (W_fa : Nat → Int32) (W_in : Nat → Int32) (st : Int32) : Option (Int32 ⊕ ((Int32 × Int32) ⊕ (Int32 × Int32) ⊕ Unit)) := ck x1 8 (if (W_ac (Int32.toNatClampNeg x1)) ≤ st then (some (Sum.inr (Sum.inr (Sum.inr (()))))) else (ck x2 8 (if (W_ac (Int32.toNatClampNeg x2)) ≤ st then (some (Sum.inr (Sum.inr (Sum.inr (()))))) else (ck ((x1 * 4) + st) 32 (ck ((x2 * 4) + st) 32 (if (W_fa (Int32.toNatClampNeg ((x1 * 4) + st))) = (W_fa (Int32.toNatClampNeg ((x2 * 4) + st))) then (ck ((x1 * 4) + st) 32 (ck ((x2 * 4) + st) 32 (if (W_in (Int32.toNatClampNeg ((x1 * 4) + st))) = (W_in (Int32.toNatClampNeg ((x2 * 4) + st))) then (some (Sum.inl (st + 1))) else (some (Sum.inr (Sum.inr (Sum.inl (((x1 * 4) + st), ((x2 * 4) + st))))))))) else (some (Sum.inr (Sum.inl (((x1 * 4) + st), ((x2 * 4) + st)))))))))))
def m_X9_compareAuthors (W_ac : Nat → Int32) (W_fa : Nat → Int32) (W_in : Nat → Int32) (x1 : Int32) (x2 : Int32) : Option (Int32) := (it (m_X9_compareAuthors_B2 x1 x2 W_ac W_fa W_in) fu 0).bind (Sum.elim (fun v1_0 => ck v1_0.1 32 (ck v1_0.2 32 (some ((W_fa (Int32.toNatClampNeg v1_0.1)) - (W_fa (Int32.toNatClampNeg v1_0.2)))))) (Sum.elim (fun v1_1 => ck v1_1.1 32 (ck v1_1.2 32 (some ((W_in (Int32.toNatClampNeg v1_1.1)) - (W_in (Int32.toNatClampNeg v1_1.2)))))) (fun v1_2 => ck x1 8 (ck x2 8 (some ((W_ac (Int32.toNatClampNeg x1)) - (W_ac (Int32.toNatClampNeg x2))))))))
def m_X9_copyWork_B39 (x2 : Int32) (x3 : Int32) (X_fa : Nat → Int32) (X_in : Nat → Int32) (st : Int32 × (Nat → Int32) × (Nat → Int32)) : Option ((Int32 × (Nat → Int32) × (Nat → Int32)) ⊕ (((Nat → Int32) × (Nat → Int32)))) := if 4 ≤ st.1 then (some (Sum.inr (st.2.1, st.2.2))) else (ck ((x2 * 4) + st.1) 32 (ck ((x3 * 4) + st.1) 32 (ck ((x2 * 4) + st.1) 32 (ck ((x3 * 4) + st.1) 32 (some (Sum.inl ((st.1 + 1), (upd st.2.1 (Int32.toNatClampNeg ((x3 * 4) + st.1)) (X_fa (Int32.toNatClampNeg ((x2 * 4) + st.1)))), (upd st.2.2 (Int32.toNatClampNeg ((x3 * 4) + st.1)) (X_in (Int32.toNatClampNeg ((x2 * 4) + st.1)))))))))))
def m_X9_copyWork (W_ac : Nat → Int32) (W_fa : Nat → Int32) (W_in : Nat → Int32) (W_yr : Nat → Int32) (W_ti : Nat → Int32) (X_ac : Nat → Int32) (X_fa : Nat → Int32) (X_in : Nat → Int32) (X_yr : Nat → Int32) (X_ti : Nat → Int32) (x2 : Int32) (x3 : Int32) : Option ((Nat → Int32) × (Nat → Int32) × (Nat → Int32) × (Nat → Int32) × (Nat → Int32)) := ck x2 8 (ck x3 8 (ck x2 8 (ck x3 8 (ck x2 8 (ck x3 8 ((it (m_X9_copyWork_B39 x2 x3 X_fa X_in) fu (0, W_fa, W_in)).bind fun e7 => some ((upd W_ac (Int32.toNatClampNeg x3) (X_ac (Int32.toNatClampNeg x2))), e7.1, e7.2, (upd W_yr (Int32.toNatClampNeg x3) (X_yr (Int32.toNatClampNeg x2))), (upd W_ti (Int32.toNatClampNeg x3) (X_ti (Int32.toNatClampNeg x2))))))))))
def m_X9_copyFrom_B10 (W_n : Int32) (X_ac : Nat → Int32) (X_fa : Nat → Int32) (X_in : Nat → Int32) (X_yr : Nat → Int32) (X_ti : Nat → Int32) (st : Int32 × (Nat → Int32) × (Nat → Int32) × (Nat → Int32) × (Nat → Int32) × (Nat → Int32)) : Option ((Int32 × (Nat → Int32) × (Nat → Int32) × (Nat → Int32) × (Nat → Int32) × (Nat → Int32)) ⊕ (((Nat → Int32) × (Nat → Int32) × (Nat → Int32) × (Nat → Int32) × (Nat → Int32)))) := if W_n ≤ st.1 then (some (Sum.inr (st.2.1, st.2.2.1, st.2.2.2.1, st.2.2.2.2.1, st.2.2.2.2.2))) else ((m_X9_copyWork st.2.1 st.2.2.1 st.2.2.2.1 st.2.2.2.2.1 st.2.2.2.2.2 X_ac X_fa X_in X_yr X_ti st.1 st.1).bind fun e3 => some (Sum.inl ((st.1 + 1), e3.1, e3.2.1, e3.2.2.1, e3.2.2.2.1, e3.2.2.2.2)))
def m_X9_copyFrom (W_n : Int32) (W_ac : Nat → Int32) (W_fa : Nat → Int32) (W_in : Nat → Int32) (W_yr : Nat → Int32) (W_ti : Nat → Int32) (X_n : Int32) (X_ac : Nat → Int32) (X_fa : Nat → Int32) (X_in : Nat → Int32) (X_yr : Nat → Int32) (X_ti : Nat → Int32) : Option (Int32 × (Nat → Int32) × (Nat → Int32) × (Nat → Int32) × (Nat → Int32) × (Nat → Int32)) := (it (m_X9_copyFrom_B10 X_n X_ac X_fa X_in X_yr X_ti) fu (0, W_ac, W_fa, W_in, W_yr, W_ti)).bind fun e1 => some (X_n, e1.1, e1.2.1, e1.2.2.1, e1.2.2.2.1, e1.2.2.2.2)
def m_X9_has_J17 (y0 : Int32) : Option (Int32) := ckb y0 (some y0)
def m_X9_has_J16 : Option (Int32) := m_X9_has_J17 0
def m_X9_has (W_n : Int32) (x1 : Int32) : Option (Int32) := if x1 < 0 then (m_X9_has_J16) else (if W_n ≤ x1 then (m_X9_has_J16) else (m_X9_has_J17 1))
def m_X9_copyWork_self_B39 (x2 : Int32) (x3 : Int32) (st : Int32 × (Nat → Int32) × (Nat → Int32)) : Option ((Int32 × (Nat → Int32) × (Nat → Int32)) ⊕ (((Nat → Int32) × (Nat → Int32)))) := if 4 ≤ st.1 then (some (Sum.inr (st.2.1, st.2.2))) else (ck ((x2 * 4) + st.1) 32 (ck ((x3 * 4) + st.1) 32 (ck ((x2 * 4) + st.1) 32 (ck ((x3 * 4) + st.1) 32 (some (Sum.inl ((st.1 + 1), (upd st.2.1 (Int32.toNatClampNeg ((x3 * 4) + st.1)) (st.2.1 (Int32.toNatClampNeg ((x2 * 4) + st.1)))), (upd st.2.2 (Int32.toNatClampNeg ((x3 * 4) + st.1)) (st.2.2 (Int32.toNatClampNeg ((x2 * 4) + st.1)))))))))))
def m_X9_copyWork_self (W_ac : Nat → Int32) (W_fa : Nat → Int32) (W_in : Nat → Int32) (W_yr : Nat → Int32) (W_ti : Nat → Int32) (x2 : Int32) (x3 : Int32) : Option ((Nat → Int32) × (Nat → Int32) × (Nat → Int32) × (Nat → Int32) × (Nat → Int32)) := ck x2 8 (ck x3 8 (ck x2 8 (ck x3 8 (ck x2 8 (ck x3 8 ((it (m_X9_copyWork_self_B39 x2 x3) fu (0, W_fa, W_in)).bind fun e7 => some ((upd W_ac (Int32.toNatClampNeg x3) (W_ac (Int32.toNatClampNeg x2))), e7.1, e7.2, (upd W_yr (Int32.toNatClampNeg x3) (W_yr (Int32.toNatClampNeg x2))), (upd W_ti (Int32.toNatClampNeg x3) (W_ti (Int32.toNatClampNeg x2))))))))))
def m_X9_removeAt_B4 (W_n : Int32) (st : Int32 × (Nat → Int32) × (Nat → Int32) × (Nat → Int32) × (Nat → Int32) × (Nat → Int32)) : Option ((Int32 × (Nat → Int32) × (Nat → Int32) × (Nat → Int32) × (Nat → Int32) × (Nat → Int32)) ⊕ (((Nat → Int32) × (Nat → Int32) × (Nat → Int32) × (Nat → Int32) × (Nat → Int32)))) := if W_n ≤ st.1 then (some (Sum.inr (st.2.1, st.2.2.1, st.2.2.2.1, st.2.2.2.2.1, st.2.2.2.2.2))) else ((m_X9_copyWork_self st.2.1 st.2.2.1 st.2.2.2.1 st.2.2.2.2.1 st.2.2.2.2.2 st.1 (st.1 - 1)).bind fun e3 => some (Sum.inl ((st.1 + 1), e3.1, e3.2.1, e3.2.2.1, e3.2.2.2.1, e3.2.2.2.2)))
def m_X9_removeAt (W_n : Int32) (W_ac : Nat → Int32) (W_fa : Nat → Int32) (W_in : Nat → Int32) (W_yr : Nat → Int32) (W_ti : Nat → Int32) (x1 : Int32) : Option (Int32 × (Nat → Int32) × (Nat → Int32) × (Nat → Int32) × (Nat → Int32) × (Nat → Int32)) := (it (m_X9_removeAt_B4 W_n) fu ((x1 + 1), W_ac, W_fa, W_in, W_yr, W_ti)).bind fun e1 => some ((W_n - 1), e1.1, e1.2.1, e1.2.2.1, e1.2.2.2.1, e1.2.2.2.2)
def m_X6_copyFrom_B58 (Z_ke : Nat → Int32) (Z_di : Nat → Int32) (st : Int32 × (Nat → Int32) × (Nat → Int32)) : Option ((Int32 × (Nat → Int32) × (Nat → Int32)) ⊕ (((Nat → Int32) × (Nat → Int32)))) := if 3 ≤ st.1 then (some (Sum.inr (st.2.1, st.2.2))) else (ck st.1 3 (ck st.1 3 (ck st.1 3 (ck st.1 3 (some (Sum.inl ((st.1 + 1), (upd st.2.1 (Int32.toNatClampNeg st.1) (Z_ke (Int32.toNatClampNeg st.1))), (upd st.2.2 (Int32.toNatClampNeg st.1) (Z_di (Int32.toNatClampNeg st.1))))))))))
def m_X6_copyFrom (S_st : Int32) (S_mi : Int32) (S_fi : Int32) (S_sp : Int32) (S_cl : Int32) (S_nu : Int32) (S_co : Int32) (S_ke : Nat → Int32) (S_di : Nat → Int32) (Z_st : Int32) (Z_mi : Int32) (Z_fi : Int32) (Z_sp : Int32) (Z_cl : Int32) (Z_nu : Int32) (Z_co : Int32) (Z_ke : Nat → Int32) (Z_di : Nat → Int32) : Option (Int32 × Int32 × Int32 × Int32 × Int32 × Int32 × Int32 × (Nat → Int32) × (Nat → Int32)) := (it (m_X6_copyFrom_B58 Z_ke Z_di) fu (0, S_ke, S_di)).bind fun e1 => some (Z_st, Z_mi, Z_fi, Z_sp, Z_cl, Z_nu, Z_co, e1.1, e1.2)
def m_X7_copyFrom (W_n : Int32) (W_ac : Nat → Int32) (W_fa : Nat → Int32) (W_in : Nat → Int32) (W_yr : Nat → Int32) (W_ti : Nat → Int32) (S_st : Int32) (S_mi : Int32) (S_fi : Int32) (S_sp : Int32) (S_cl : Int32) (S_nu : Int32) (S_co : Int32) (S_ke : Nat → Int32) (S_di : Nat → Int32) (C_n : Int32) (C_sz : Nat → Int32) (C_cd : Nat → Int32) (X_n : Int32) (X_ac : Nat → Int32) (X_fa : Nat → Int32) (X_in : Nat → Int32) (X_yr : Nat → Int32) (X_ti : Nat → Int32) (Z_st : Int32) (Z_mi : Int32) (Z_fi : Int32) (Z_sp : Int32) (Z_cl : Int32) (Z_nu : Int32) (Z_co : Int32) (Z_ke : Nat → Int32) (Z_di : Nat → Int32) (K_n : Int32) (K_sz : Nat → Int32) (K_cd : Nat → Int32) : Option (Int32 × (Nat → Int32) × (Nat → Int32) × (Nat → Int32) × (Nat → Int32) × (Nat → Int32) × Int32 × Int32 × Int32 × Int32 × Int32 × Int32 × Int32 × (Nat → Int32) × (Nat → Int32) × Int32 × (Nat → Int32) × (Nat → Int32)) := (m_X9_copyFrom W_n W_ac W_fa W_in W_yr W_ti X_n X_ac X_fa X_in X_yr X_ti).bind fun e1 => (m_X6_copyFrom S_st S_mi S_fi S_sp S_cl S_nu S_co S_ke S_di Z_st Z_mi Z_fi Z_sp Z_cl Z_nu Z_co Z_ke Z_di).bind fun e2 => (m_X1_copyFrom C_n C_sz C_cd K_n K_sz K_cd).bind fun e3 => some (e1.1, e1.2.1, e1.2.2.1, e1.2.2.2.1, e1.2.2.2.2.1, e1.2.2.2.2.2, e2.1, e2.2.1, e2.2.2.1, e2.2.2.2.1, e2.2.2.2.2.1, e2.2.2.2.2.2.1, e2.2.2.2.2.2.2.1, e2.2.2.2.2.2.2.2.1, e2.2.2.2.2.2.2.2.2, e3.1, e3.2.1, e3.2.2)
def w_X11_inRange : va_W := []
abbrev rm_X11_inRange : Room := { frames := 0, cells := 0, slots := 0, locals := 0 }
def w_X11_inSet : va_W := []
abbrev rm_X11_inSet : Room := { frames := 0, cells := 0, slots := 0, locals := 0 }
def w_X11_hasBelow : va_W := []
abbrev rm_X11_hasBelow : Room := { frames := 0, cells := 0, slots := 0, locals := 0 }
def w_X1_add (cI : ClassId) (aC aC_sz aC_cd : Nat) (C_n : Int32) (C_sz : Nat → Int32) (C_cd : Nat → Int32) : va_W := [(aC, .inr (1, [.int C_n, .ref aC_sz, .ref aC_cd])), (aC_sz, .inl (cI, 10, .inl C_sz)), (aC_cd, .inl (cI, 50, .inl C_cd))]
theorem wa_X1_add {cI : ClassId} {aC aC_sz aC_cd : Nat} {C_n C_n' : Int32} {C_sz C_sz' : Nat → Int32} {C_cd C_cd' : Nat → Int32} : (w_X1_add cI aC aC_sz aC_cd C_n' C_sz' C_cd').map Prod.fst = (w_X1_add cI aC aC_sz aC_cd C_n C_sz C_cd).map Prod.fst := rfl
abbrev rm_X1_add : Room := { frames := 0, cells := 0, slots := 0, locals := 0 }
def w_X1_begin (cI : ClassId) (aC aC_sz aC_cd : Nat) (C_n : Int32) (C_sz : Nat → Int32) (C_cd : Nat → Int32) : va_W := [(aC, .inr (1, [.int C_n, .ref aC_sz, .ref aC_cd])), (aC_sz, .inl (cI, 10, .inl C_sz)), (aC_cd, .inl (cI, 50, .inl C_cd))]
theorem wa_X1_begin {cI : ClassId} {aC aC_sz aC_cd : Nat} {C_n C_n' : Int32} {C_sz C_sz' : Nat → Int32} {C_cd C_cd' : Nat → Int32} : (w_X1_begin cI aC aC_sz aC_cd C_n' C_sz' C_cd').map Prod.fst = (w_X1_begin cI aC aC_sz aC_cd C_n C_sz C_cd).map Prod.fst := rfl
abbrev rm_X1_begin : Room := { frames := 1, cells := 0, slots := 0, locals := 23 }
def w_X1_workAt (cI : ClassId) (aC aC_sz aC_cd : Nat) (C_n : Int32) (C_cd : Nat → Int32) : va_W := [(aC, .inr (1, [.int C_n, .ref aC_sz, .ref aC_cd])), (aC_cd, .inl (cI, 50, .inl C_cd))]
theorem wa_X1_workAt {cI : ClassId} {aC aC_sz aC_cd : Nat} {C_n C_n' : Int32} {C_cd C_cd' : Nat → Int32} : (w_X1_workAt cI aC aC_sz aC_cd C_n' C_cd').map Prod.fst = (w_X1_workAt cI aC aC_sz aC_cd C_n C_cd).map Prod.fst := rfl
abbrev rm_X1_workAt : Room := { frames := 0, cells := 0, slots := 0, locals := 0 }
def w_X1_cites (cI : ClassId) (aC aC_sz aC_cd : Nat) (C_n : Int32) (C_sz : Nat → Int32) (C_cd : Nat → Int32) : va_W := [(aC, .inr (1, [.int C_n, .ref aC_sz, .ref aC_cd])), (aC_sz, .inl (cI, 10, .inl C_sz)), (aC_cd, .inl (cI, 50, .inl C_cd))]
theorem wa_X1_cites {cI : ClassId} {aC aC_sz aC_cd : Nat} {C_n C_n' : Int32} {C_sz C_sz' : Nat → Int32} {C_cd C_cd' : Nat → Int32} : (w_X1_cites cI aC aC_sz aC_cd C_n' C_sz' C_cd').map Prod.fst = (w_X1_cites cI aC aC_sz aC_cd C_n C_sz C_cd).map Prod.fst := rfl
abbrev rm_X1_cites : Room := { frames := 1, cells := 0, slots := 0, locals := 22 }
def w_X1_copyCitation (cI : ClassId) (aC aC_sz aC_cd aK aK_sz aK_cd : Nat) (C_n : Int32) (C_sz : Nat → Int32) (C_cd : Nat → Int32) (K_n : Int32) (K_sz : Nat → Int32) (K_cd : Nat → Int32) : va_W := [(aC, .inr (1, [.int C_n, .ref aC_sz, .ref aC_cd])), (aC_sz, .inl (cI, 10, .inl C_sz)), (aC_cd, .inl (cI, 50, .inl C_cd)), (aK, .inr (1, [.int K_n, .ref aK_sz, .ref aK_cd])), (aK_sz, .inl (cI, 10, .inl K_sz)), (aK_cd, .inl (cI, 50, .inl K_cd))]
theorem wa_X1_copyCitation {cI : ClassId} {aC aC_sz aC_cd aK aK_sz aK_cd : Nat} {C_n C_n' : Int32} {C_sz C_sz' : Nat → Int32} {C_cd C_cd' : Nat → Int32} {K_n K_n' : Int32} {K_sz K_sz' : Nat → Int32} {K_cd K_cd' : Nat → Int32} : (w_X1_copyCitation cI aC aC_sz aC_cd aK aK_sz aK_cd C_n' C_sz' C_cd' K_n' K_sz' K_cd').map Prod.fst = (w_X1_copyCitation cI aC aC_sz aC_cd aK aK_sz aK_cd C_n C_sz C_cd K_n K_sz K_cd).map Prod.fst := rfl
abbrev rm_X1_copyCitation : Room := { frames := 0, cells := 0, slots := 0, locals := 0 }
def w_X1_copyFrom (cI : ClassId) (aC aC_sz aC_cd aK aK_sz aK_cd : Nat) (C_n : Int32) (C_sz : Nat → Int32) (C_cd : Nat → Int32) (K_n : Int32) (K_sz : Nat → Int32) (K_cd : Nat → Int32) : va_W := [(aC, .inr (1, [.int C_n, .ref aC_sz, .ref aC_cd])), (aC_sz, .inl (cI, 10, .inl C_sz)), (aC_cd, .inl (cI, 50, .inl C_cd)), (aK, .inr (1, [.int K_n, .ref aK_sz, .ref aK_cd])), (aK_sz, .inl (cI, 10, .inl K_sz)), (aK_cd, .inl (cI, 50, .inl K_cd))]
theorem wa_X1_copyFrom {cI : ClassId} {aC aC_sz aC_cd aK aK_sz aK_cd : Nat} {C_n C_n' : Int32} {C_sz C_sz' : Nat → Int32} {C_cd C_cd' : Nat → Int32} {K_n K_n' : Int32} {K_sz K_sz' : Nat → Int32} {K_cd K_cd' : Nat → Int32} : (w_X1_copyFrom cI aC aC_sz aC_cd aK aK_sz aK_cd C_n' C_sz' C_cd' K_n' K_sz' K_cd').map Prod.fst = (w_X1_copyFrom cI aC aC_sz aC_cd aK aK_sz aK_cd C_n C_sz C_cd K_n K_sz K_cd).map Prod.fst := rfl
abbrev rm_X1_copyFrom : Room := { frames := 1, cells := 0, slots := 0, locals := 24 }
def w_X1_copyWithout (cI : ClassId) (aC aC_sz aC_cd : Nat) (C_n : Int32) (C_sz : Nat → Int32) (C_cd : Nat → Int32) : va_W := [(aC, .inr (1, [.int C_n, .ref aC_sz, .ref aC_cd])), (aC_sz, .inl (cI, 10, .inl C_sz)), (aC_cd, .inl (cI, 50, .inl C_cd))]
theorem wa_X1_copyWithout {cI : ClassId} {aC aC_sz aC_cd : Nat} {C_n C_n' : Int32} {C_sz C_sz' : Nat → Int32} {C_cd C_cd' : Nat → Int32} : (w_X1_copyWithout cI aC aC_sz aC_cd C_n' C_sz' C_cd').map Prod.fst = (w_X1_copyWithout cI aC aC_sz aC_cd C_n C_sz C_cd).map Prod.fst := rfl
abbrev rm_X1_copyWithout : Room := { frames := 1, cells := 0, slots := 0, locals := 23 }
def w_X1_dropWork (cI : ClassId) (aC aC_sz aC_cd : Nat) (C_n : Int32) (C_sz : Nat → Int32) (C_cd : Nat → Int32) : va_W := [(aC, .inr (1, [.int C_n, .ref aC_sz, .ref aC_cd])), (aC_sz, .inl (cI, 10, .inl C_sz)), (aC_cd, .inl (cI, 50, .inl C_cd))]
theorem wa_X1_dropWork {cI : ClassId} {aC aC_sz aC_cd : Nat} {C_n C_n' : Int32} {C_sz C_sz' : Nat → Int32} {C_cd C_cd' : Nat → Int32} : (w_X1_dropWork cI aC aC_sz aC_cd C_n' C_sz' C_cd').map Prod.fst = (w_X1_dropWork cI aC aC_sz aC_cd C_n C_sz C_cd).map Prod.fst := rfl
abbrev rm_X1_dropWork : Room := { frames := 2, cells := 0, slots := 0, locals := 49 }
def w_X1_earliestCiting (cI : ClassId) (aC aC_sz aC_cd : Nat) (C_n : Int32) (C_sz : Nat → Int32) (C_cd : Nat → Int32) : va_W := [(aC, .inr (1, [.int C_n, .ref aC_sz, .ref aC_cd])), (aC_sz, .inl (cI, 10, .inl C_sz)), (aC_cd, .inl (cI, 50, .inl C_cd))]
theorem wa_X1_earliestCiting {cI : ClassId} {aC aC_sz aC_cd : Nat} {C_n C_n' : Int32} {C_sz C_sz' : Nat → Int32} {C_cd C_cd' : Nat → Int32} : (w_X1_earliestCiting cI aC aC_sz aC_cd C_n' C_sz' C_cd').map Prod.fst = (w_X1_earliestCiting cI aC aC_sz aC_cd C_n C_sz C_cd).map Prod.fst := rfl
abbrev rm_X1_earliestCiting : Room := { frames := 2, cells := 0, slots := 0, locals := 45 }
def w_X1_has (aC aC_sz aC_cd : Nat) (C_n : Int32) : va_W := [(aC, .inr (1, [.int C_n, .ref aC_sz, .ref aC_cd]))]
theorem wa_X1_has {aC aC_sz aC_cd : Nat} {C_n C_n' : Int32} : (w_X1_has aC aC_sz aC_cd C_n').map Prod.fst = (w_X1_has aC aC_sz aC_cd C_n).map Prod.fst := rfl
abbrev rm_X1_has : Room := { frames := 0, cells := 0, slots := 0, locals := 0 }
def w_X1_copyCitation_self (cI : ClassId) (aC aC_sz aC_cd : Nat) (C_n : Int32) (C_sz : Nat → Int32) (C_cd : Nat → Int32) : va_W := [(aC, .inr (1, [.int C_n, .ref aC_sz, .ref aC_cd])), (aC_sz, .inl (cI, 10, .inl C_sz)), (aC_cd, .inl (cI, 50, .inl C_cd))]
theorem wa_X1_copyCitation_self {cI : ClassId} {aC aC_sz aC_cd : Nat} {C_n C_n' : Int32} {C_sz C_sz' : Nat → Int32} {C_cd C_cd' : Nat → Int32} : (w_X1_copyCitation_self cI aC aC_sz aC_cd C_n' C_sz' C_cd').map Prod.fst = (w_X1_copyCitation_self cI aC aC_sz aC_cd C_n C_sz C_cd).map Prod.fst := rfl
abbrev rm_X1_copyCitation_self : Room := { frames := 0, cells := 0, slots := 0, locals := 0 }
def w_X1_removeAt (cI : ClassId) (aC aC_sz aC_cd : Nat) (C_n : Int32) (C_sz : Nat → Int32) (C_cd : Nat → Int32) : va_W := [(aC, .inr (1, [.int C_n, .ref aC_sz, .ref aC_cd])), (aC_sz, .inl (cI, 10, .inl C_sz)), (aC_cd, .inl (cI, 50, .inl C_cd))]
theorem wa_X1_removeAt {cI : ClassId} {aC aC_sz aC_cd : Nat} {C_n C_n' : Int32} {C_sz C_sz' : Nat → Int32} {C_cd C_cd' : Nat → Int32} : (w_X1_removeAt cI aC aC_sz aC_cd C_n' C_sz' C_cd').map Prod.fst = (w_X1_removeAt cI aC aC_sz aC_cd C_n C_sz C_cd).map Prod.fst := rfl
abbrev rm_X1_removeAt : Room := { frames := 1, cells := 0, slots := 0, locals := 24 }
def w_X9_compareAuthors (cI : ClassId) (aW aW_ac aW_fa aW_in aW_yr aW_ti : Nat) (W_n : Int32) (W_ac : Nat → Int32) (W_fa : Nat → Int32) (W_in : Nat → Int32) : va_W := [(aW, .inr (9, [.int W_n, .ref aW_ac, .ref aW_fa, .ref aW_in, .ref aW_yr, .ref aW_ti])), (aW_ac, .inl (cI, 8, .inl W_ac)), (aW_fa, .inl (cI, 32, .inl W_fa)), (aW_in, .inl (cI, 32, .inl W_in))]
theorem wa_X9_compareAuthors {cI : ClassId} {aW aW_ac aW_fa aW_in aW_yr aW_ti : Nat} {W_n W_n' : Int32} {W_ac W_ac' : Nat → Int32} {W_fa W_fa' : Nat → Int32} {W_in W_in' : Nat → Int32} : (w_X9_compareAuthors cI aW aW_ac aW_fa aW_in aW_yr aW_ti W_n' W_ac' W_fa' W_in').map Prod.fst = (w_X9_compareAuthors cI aW aW_ac aW_fa aW_in aW_yr aW_ti W_n W_ac W_fa W_in).map Prod.fst := rfl
abbrev rm_X9_compareAuthors : Room := { frames := 0, cells := 0, slots := 0, locals := 0 }
def w_X9_copyWork (cI : ClassId) (aW aW_ac aW_fa aW_in aW_yr aW_ti aX aX_ac aX_fa aX_in aX_yr aX_ti : Nat) (W_n : Int32) (W_ac : Nat → Int32) (W_fa : Nat → Int32) (W_in : Nat → Int32) (W_yr : Nat → Int32) (W_ti : Nat → Int32) (X_n : Int32) (X_ac : Nat → Int32) (X_fa : Nat → Int32) (X_in : Nat → Int32) (X_yr : Nat → Int32) (X_ti : Nat → Int32) : va_W := [(aW, .inr (9, [.int W_n, .ref aW_ac, .ref aW_fa, .ref aW_in, .ref aW_yr, .ref aW_ti])), (aW_ac, .inl (cI, 8, .inl W_ac)), (aW_fa, .inl (cI, 32, .inl W_fa)), (aW_in, .inl (cI, 32, .inl W_in)), (aW_yr, .inl (cI, 8, .inl W_yr)), (aW_ti, .inl (cI, 8, .inl W_ti)), (aX, .inr (9, [.int X_n, .ref aX_ac, .ref aX_fa, .ref aX_in, .ref aX_yr, .ref aX_ti])), (aX_ac, .inl (cI, 8, .inl X_ac)), (aX_fa, .inl (cI, 32, .inl X_fa)), (aX_in, .inl (cI, 32, .inl X_in)), (aX_yr, .inl (cI, 8, .inl X_yr)), (aX_ti, .inl (cI, 8, .inl X_ti))]
theorem wa_X9_copyWork {cI : ClassId} {aW aW_ac aW_fa aW_in aW_yr aW_ti aX aX_ac aX_fa aX_in aX_yr aX_ti : Nat} {W_n W_n' : Int32} {W_ac W_ac' : Nat → Int32} {W_fa W_fa' : Nat → Int32} {W_in W_in' : Nat → Int32} {W_yr W_yr' : Nat → Int32} {W_ti W_ti' : Nat → Int32} {X_n X_n' : Int32} {X_ac X_ac' : Nat → Int32} {X_fa X_fa' : Nat → Int32} {X_in X_in' : Nat → Int32} {X_yr X_yr' : Nat → Int32} {X_ti X_ti' : Nat → Int32} : (w_X9_copyWork cI aW aW_ac aW_fa aW_in aW_yr aW_ti aX aX_ac aX_fa aX_in aX_yr aX_ti W_n' W_ac' W_fa' W_in' W_yr' W_ti' X_n' X_ac' X_fa' X_in' X_yr' X_ti').map Prod.fst = (w_X9_copyWork cI aW aW_ac aW_fa aW_in aW_yr aW_ti aX aX_ac aX_fa aX_in aX_yr aX_ti W_n W_ac W_fa W_in W_yr W_ti X_n X_ac X_fa X_in X_yr X_ti).map Prod.fst := rfl
abbrev rm_X9_copyWork : Room := { frames := 0, cells := 0, slots := 0, locals := 0 }
def w_X9_copyFrom (cI : ClassId) (aW aW_ac aW_fa aW_in aW_yr aW_ti aX aX_ac aX_fa aX_in aX_yr aX_ti : Nat) (W_n : Int32) (W_ac : Nat → Int32) (W_fa : Nat → Int32) (W_in : Nat → Int32) (W_yr : Nat → Int32) (W_ti : Nat → Int32) (X_n : Int32) (X_ac : Nat → Int32) (X_fa : Nat → Int32) (X_in : Nat → Int32) (X_yr : Nat → Int32) (X_ti : Nat → Int32) : va_W := [(aW, .inr (9, [.int W_n, .ref aW_ac, .ref aW_fa, .ref aW_in, .ref aW_yr, .ref aW_ti])), (aW_ac, .inl (cI, 8, .inl W_ac)), (aW_fa, .inl (cI, 32, .inl W_fa)), (aW_in, .inl (cI, 32, .inl W_in)), (aW_yr, .inl (cI, 8, .inl W_yr)), (aW_ti, .inl (cI, 8, .inl W_ti)), (aX, .inr (9, [.int X_n, .ref aX_ac, .ref aX_fa, .ref aX_in, .ref aX_yr, .ref aX_ti])), (aX_ac, .inl (cI, 8, .inl X_ac)), (aX_fa, .inl (cI, 32, .inl X_fa)), (aX_in, .inl (cI, 32, .inl X_in)), (aX_yr, .inl (cI, 8, .inl X_yr)), (aX_ti, .inl (cI, 8, .inl X_ti))]
theorem wa_X9_copyFrom {cI : ClassId} {aW aW_ac aW_fa aW_in aW_yr aW_ti aX aX_ac aX_fa aX_in aX_yr aX_ti : Nat} {W_n W_n' : Int32} {W_ac W_ac' : Nat → Int32} {W_fa W_fa' : Nat → Int32} {W_in W_in' : Nat → Int32} {W_yr W_yr' : Nat → Int32} {W_ti W_ti' : Nat → Int32} {X_n X_n' : Int32} {X_ac X_ac' : Nat → Int32} {X_fa X_fa' : Nat → Int32} {X_in X_in' : Nat → Int32} {X_yr X_yr' : Nat → Int32} {X_ti X_ti' : Nat → Int32} : (w_X9_copyFrom cI aW aW_ac aW_fa aW_in aW_yr aW_ti aX aX_ac aX_fa aX_in aX_yr aX_ti W_n' W_ac' W_fa' W_in' W_yr' W_ti' X_n' X_ac' X_fa' X_in' X_yr' X_ti').map Prod.fst = (w_X9_copyFrom cI aW aW_ac aW_fa aW_in aW_yr aW_ti aX aX_ac aX_fa aX_in aX_yr aX_ti W_n W_ac W_fa W_in W_yr W_ti X_n X_ac X_fa X_in X_yr X_ti).map Prod.fst := rfl
abbrev rm_X9_copyFrom : Room := { frames := 1, cells := 0, slots := 0, locals := 24 }
def w_X9_has (aW aW_ac aW_fa aW_in aW_yr aW_ti : Nat) (W_n : Int32) : va_W := [(aW, .inr (9, [.int W_n, .ref aW_ac, .ref aW_fa, .ref aW_in, .ref aW_yr, .ref aW_ti]))]
theorem wa_X9_has {aW aW_ac aW_fa aW_in aW_yr aW_ti : Nat} {W_n W_n' : Int32} : (w_X9_has aW aW_ac aW_fa aW_in aW_yr aW_ti W_n').map Prod.fst = (w_X9_has aW aW_ac aW_fa aW_in aW_yr aW_ti W_n).map Prod.fst := rfl
abbrev rm_X9_has : Room := { frames := 0, cells := 0, slots := 0, locals := 0 }
def w_X9_copyWork_self (cI : ClassId) (aW aW_ac aW_fa aW_in aW_yr aW_ti : Nat) (W_n : Int32) (W_ac : Nat → Int32) (W_fa : Nat → Int32) (W_in : Nat → Int32) (W_yr : Nat → Int32) (W_ti : Nat → Int32) : va_W := [(aW, .inr (9, [.int W_n, .ref aW_ac, .ref aW_fa, .ref aW_in, .ref aW_yr, .ref aW_ti])), (aW_ac, .inl (cI, 8, .inl W_ac)), (aW_fa, .inl (cI, 32, .inl W_fa)), (aW_in, .inl (cI, 32, .inl W_in)), (aW_yr, .inl (cI, 8, .inl W_yr)), (aW_ti, .inl (cI, 8, .inl W_ti))]
theorem wa_X9_copyWork_self {cI : ClassId} {aW aW_ac aW_fa aW_in aW_yr aW_ti : Nat} {W_n W_n' : Int32} {W_ac W_ac' : Nat → Int32} {W_fa W_fa' : Nat → Int32} {W_in W_in' : Nat → Int32} {W_yr W_yr' : Nat → Int32} {W_ti W_ti' : Nat → Int32} : (w_X9_copyWork_self cI aW aW_ac aW_fa aW_in aW_yr aW_ti W_n' W_ac' W_fa' W_in' W_yr' W_ti').map Prod.fst = (w_X9_copyWork_self cI aW aW_ac aW_fa aW_in aW_yr aW_ti W_n W_ac W_fa W_in W_yr W_ti).map Prod.fst := rfl
abbrev rm_X9_copyWork_self : Room := { frames := 0, cells := 0, slots := 0, locals := 0 }
def w_X9_removeAt (cI : ClassId) (aW aW_ac aW_fa aW_in aW_yr aW_ti : Nat) (W_n : Int32) (W_ac : Nat → Int32) (W_fa : Nat → Int32) (W_in : Nat → Int32) (W_yr : Nat → Int32) (W_ti : Nat → Int32) : va_W := [(aW, .inr (9, [.int W_n, .ref aW_ac, .ref aW_fa, .ref aW_in, .ref aW_yr, .ref aW_ti])), (aW_ac, .inl (cI, 8, .inl W_ac)), (aW_fa, .inl (cI, 32, .inl W_fa)), (aW_in, .inl (cI, 32, .inl W_in)), (aW_yr, .inl (cI, 8, .inl W_yr)), (aW_ti, .inl (cI, 8, .inl W_ti))]
theorem wa_X9_removeAt {cI : ClassId} {aW aW_ac aW_fa aW_in aW_yr aW_ti : Nat} {W_n W_n' : Int32} {W_ac W_ac' : Nat → Int32} {W_fa W_fa' : Nat → Int32} {W_in W_in' : Nat → Int32} {W_yr W_yr' : Nat → Int32} {W_ti W_ti' : Nat → Int32} : (w_X9_removeAt cI aW aW_ac aW_fa aW_in aW_yr aW_ti W_n' W_ac' W_fa' W_in' W_yr' W_ti').map Prod.fst = (w_X9_removeAt cI aW aW_ac aW_fa aW_in aW_yr aW_ti W_n W_ac W_fa W_in W_yr W_ti).map Prod.fst := rfl
abbrev rm_X9_removeAt : Room := { frames := 1, cells := 0, slots := 0, locals := 24 }
def w_X6_copyFrom (cI : ClassId) (aS aS_ke aS_di aZ aZ_ke aZ_di : Nat) (S_st : Int32) (S_mi : Int32) (S_fi : Int32) (S_sp : Int32) (S_cl : Int32) (S_nu : Int32) (S_co : Int32) (S_ke : Nat → Int32) (S_di : Nat → Int32) (Z_st : Int32) (Z_mi : Int32) (Z_fi : Int32) (Z_sp : Int32) (Z_cl : Int32) (Z_nu : Int32) (Z_co : Int32) (Z_ke : Nat → Int32) (Z_di : Nat → Int32) : va_W := [(aS, .inr (6, [.int S_st, .int S_mi, .int S_fi, .int S_sp, .int S_cl, .int S_nu, .int S_co, .ref aS_ke, .ref aS_di])), (aS_ke, .inl (cI, 3, .inl S_ke)), (aS_di, .inl (cI, 3, .inl S_di)), (aZ, .inr (6, [.int Z_st, .int Z_mi, .int Z_fi, .int Z_sp, .int Z_cl, .int Z_nu, .int Z_co, .ref aZ_ke, .ref aZ_di])), (aZ_ke, .inl (cI, 3, .inl Z_ke)), (aZ_di, .inl (cI, 3, .inl Z_di))]
theorem wa_X6_copyFrom {cI : ClassId} {aS aS_ke aS_di aZ aZ_ke aZ_di : Nat} {S_st S_st' : Int32} {S_mi S_mi' : Int32} {S_fi S_fi' : Int32} {S_sp S_sp' : Int32} {S_cl S_cl' : Int32} {S_nu S_nu' : Int32} {S_co S_co' : Int32} {S_ke S_ke' : Nat → Int32} {S_di S_di' : Nat → Int32} {Z_st Z_st' : Int32} {Z_mi Z_mi' : Int32} {Z_fi Z_fi' : Int32} {Z_sp Z_sp' : Int32} {Z_cl Z_cl' : Int32} {Z_nu Z_nu' : Int32} {Z_co Z_co' : Int32} {Z_ke Z_ke' : Nat → Int32} {Z_di Z_di' : Nat → Int32} : (w_X6_copyFrom cI aS aS_ke aS_di aZ aZ_ke aZ_di S_st' S_mi' S_fi' S_sp' S_cl' S_nu' S_co' S_ke' S_di' Z_st' Z_mi' Z_fi' Z_sp' Z_cl' Z_nu' Z_co' Z_ke' Z_di').map Prod.fst = (w_X6_copyFrom cI aS aS_ke aS_di aZ aZ_ke aZ_di S_st S_mi S_fi S_sp S_cl S_nu S_co S_ke S_di Z_st Z_mi Z_fi Z_sp Z_cl Z_nu Z_co Z_ke Z_di).map Prod.fst := rfl
abbrev rm_X6_copyFrom : Room := { frames := 0, cells := 0, slots := 0, locals := 0 }
def w_X7_copyFrom (cI : ClassId) (aSt aW aS aC aW_ac aW_fa aW_in aW_yr aW_ti aS_ke aS_di aC_sz aC_cd aSu aX aZ aK aX_ac aX_fa aX_in aX_yr aX_ti aZ_ke aZ_di aK_sz aK_cd : Nat) (W_n : Int32) (W_ac : Nat → Int32) (W_fa : Nat → Int32) (W_in : Nat → Int32) (W_yr : Nat → Int32) (W_ti : Nat → Int32) (S_st : Int32) (S_mi : Int32) (S_fi : Int32) (S_sp : Int32) (S_cl : Int32) (S_nu : Int32) (S_co : Int32) (S_ke : Nat → Int32) (S_di : Nat → Int32) (C_n : Int32) (C_sz : Nat → Int32) (C_cd : Nat → Int32) (X_n : Int32) (X_ac : Nat → Int32) (X_fa : Nat → Int32) (X_in : Nat → Int32) (X_yr : Nat → Int32) (X_ti : Nat → Int32) (Z_st : Int32) (Z_mi : Int32) (Z_fi : Int32) (Z_sp : Int32) (Z_cl : Int32) (Z_nu : Int32) (Z_co : Int32) (Z_ke : Nat → Int32) (Z_di : Nat → Int32) (K_n : Int32) (K_sz : Nat → Int32) (K_cd : Nat → Int32) : va_W := [(aSt, .inr (7, [.ref aW, .ref aS, .ref aC])), (aW, .inr (9, [.int W_n, .ref aW_ac, .ref aW_fa, .ref aW_in, .ref aW_yr, .ref aW_ti])), (aW_ac, .inl (cI, 8, .inl W_ac)), (aW_fa, .inl (cI, 32, .inl W_fa)), (aW_in, .inl (cI, 32, .inl W_in)), (aW_yr, .inl (cI, 8, .inl W_yr)), (aW_ti, .inl (cI, 8, .inl W_ti)), (aS, .inr (6, [.int S_st, .int S_mi, .int S_fi, .int S_sp, .int S_cl, .int S_nu, .int S_co, .ref aS_ke, .ref aS_di])), (aS_ke, .inl (cI, 3, .inl S_ke)), (aS_di, .inl (cI, 3, .inl S_di)), (aC, .inr (1, [.int C_n, .ref aC_sz, .ref aC_cd])), (aC_sz, .inl (cI, 10, .inl C_sz)), (aC_cd, .inl (cI, 50, .inl C_cd)), (aSu, .inr (7, [.ref aX, .ref aZ, .ref aK])), (aX, .inr (9, [.int X_n, .ref aX_ac, .ref aX_fa, .ref aX_in, .ref aX_yr, .ref aX_ti])), (aX_ac, .inl (cI, 8, .inl X_ac)), (aX_fa, .inl (cI, 32, .inl X_fa)), (aX_in, .inl (cI, 32, .inl X_in)), (aX_yr, .inl (cI, 8, .inl X_yr)), (aX_ti, .inl (cI, 8, .inl X_ti)), (aZ, .inr (6, [.int Z_st, .int Z_mi, .int Z_fi, .int Z_sp, .int Z_cl, .int Z_nu, .int Z_co, .ref aZ_ke, .ref aZ_di])), (aZ_ke, .inl (cI, 3, .inl Z_ke)), (aZ_di, .inl (cI, 3, .inl Z_di)), (aK, .inr (1, [.int K_n, .ref aK_sz, .ref aK_cd])), (aK_sz, .inl (cI, 10, .inl K_sz)), (aK_cd, .inl (cI, 50, .inl K_cd))]
theorem wa_X7_copyFrom {cI : ClassId} {aSt aW aS aC aW_ac aW_fa aW_in aW_yr aW_ti aS_ke aS_di aC_sz aC_cd aSu aX aZ aK aX_ac aX_fa aX_in aX_yr aX_ti aZ_ke aZ_di aK_sz aK_cd : Nat} {W_n W_n' : Int32} {W_ac W_ac' : Nat → Int32} {W_fa W_fa' : Nat → Int32} {W_in W_in' : Nat → Int32} {W_yr W_yr' : Nat → Int32} {W_ti W_ti' : Nat → Int32} {S_st S_st' : Int32} {S_mi S_mi' : Int32} {S_fi S_fi' : Int32} {S_sp S_sp' : Int32} {S_cl S_cl' : Int32} {S_nu S_nu' : Int32} {S_co S_co' : Int32} {S_ke S_ke' : Nat → Int32} {S_di S_di' : Nat → Int32} {C_n C_n' : Int32} {C_sz C_sz' : Nat → Int32} {C_cd C_cd' : Nat → Int32} {X_n X_n' : Int32} {X_ac X_ac' : Nat → Int32} {X_fa X_fa' : Nat → Int32} {X_in X_in' : Nat → Int32} {X_yr X_yr' : Nat → Int32} {X_ti X_ti' : Nat → Int32} {Z_st Z_st' : Int32} {Z_mi Z_mi' : Int32} {Z_fi Z_fi' : Int32} {Z_sp Z_sp' : Int32} {Z_cl Z_cl' : Int32} {Z_nu Z_nu' : Int32} {Z_co Z_co' : Int32} {Z_ke Z_ke' : Nat → Int32} {Z_di Z_di' : Nat → Int32} {K_n K_n' : Int32} {K_sz K_sz' : Nat → Int32} {K_cd K_cd' : Nat → Int32} : (w_X7_copyFrom cI aSt aW aS aC aW_ac aW_fa aW_in aW_yr aW_ti aS_ke aS_di aC_sz aC_cd aSu aX aZ aK aX_ac aX_fa aX_in aX_yr aX_ti aZ_ke aZ_di aK_sz aK_cd W_n' W_ac' W_fa' W_in' W_yr' W_ti' S_st' S_mi' S_fi' S_sp' S_cl' S_nu' S_co' S_ke' S_di' C_n' C_sz' C_cd' X_n' X_ac' X_fa' X_in' X_yr' X_ti' Z_st' Z_mi' Z_fi' Z_sp' Z_cl' Z_nu' Z_co' Z_ke' Z_di' K_n' K_sz' K_cd').map Prod.fst = (w_X7_copyFrom cI aSt aW aS aC aW_ac aW_fa aW_in aW_yr aW_ti aS_ke aS_di aC_sz aC_cd aSu aX aZ aK aX_ac aX_fa aX_in aX_yr aX_ti aZ_ke aZ_di aK_sz aK_cd W_n W_ac W_fa W_in W_yr W_ti S_st S_mi S_fi S_sp S_cl S_nu S_co S_ke S_di C_n C_sz C_cd X_n X_ac X_fa X_in X_yr X_ti Z_st Z_mi Z_fi Z_sp Z_cl Z_nu Z_co Z_ke Z_di K_n K_sz K_cd).map Prod.fst := rfl
abbrev rm_X7_copyFrom : Room := { frames := 2, cells := 0, slots := 0, locals := 46 }
set_option maxHeartbeats 4000000 in
set_option maxRecDepth 100000 in
theorem c_X11_inRange (l : Launch) (D : va_G) (cI cJ cZ cS : ClassId) (x0 : Int32) (x1 : Int32) (x2 : Int32) (o : Int32) (hm : m_X11_inRange x0 x1 x2 = some o) : MI l yX11_inRange wsX11_inRange rm_X11_inRange D (TY cI cJ cZ cS) [.int x0, .int x1, .int x2] (w_X11_inRange ) (w_X11_inRange ) (o) := by
  refine MZ_of (cc := cX11_inRange) (maxL := 3) (by decide) rfl (Nat.le_of_ble_eq_true rfl) ?_
  intro p e s m args below meth c A Q ls H locs hx hb hml hts hown hK hA hP hD hS hl hret
  have hown : s.vm.findClass RX11 = some m.cls := hown
  have hKv : va_K D vwCl (TY cI cJ cZ cS) s := hK.1
  have hl : lv_has ls 3 [(0, .int x0), (1, .int x1), (2, .int x2)] := hl
  have S : CallFix p m c cX11_inRange 3 s args wsX11_inRange RX11 := ⟨hx, hb, hml, hown, hts⟩
  have J15 : ∀ (y0_j15 : Int32), (m_X11_inRange_J15 y0_j15 = some o) → ∀ (H : Heap) (locs : List Loc) (ls : Array Slot), va_P D vwCl (w_X11_inRange ) H → va_D A (w_X11_inRange ) → va_S A s.heap H locs → lv_has ls 3 [] → W p l e rm_X11_inRange s m args below meth c H locs 0 0 Q (F0 m 15 ls [.int y0_j15]) := by
    intro y0_j15 hm H locs ls hP hD hS hl
    replace hm := ckb_some hm
    obtain ⟨h1, hm⟩ := hm
    have h9 := Option.some.inj hm
    subst h9
    exact hret H locs _ ls _ h1 hP hD hS rfl dX11_inRange_15
  have J14 : (m_X11_inRange_J14 = some o) → ∀ (H : Heap) (locs : List Loc) (ls : Array Slot), va_P D vwCl (w_X11_inRange ) H → va_D A (w_X11_inRange ) → va_S A s.heap H locs → lv_has ls 3 [] → W p l e rm_X11_inRange s m args below meth c H locs 0 0 Q (F0 m 14 ls []) := by
    intro  hm H locs ls hP hD hS hl
    refine lv_iconst (v := 0) hx hb dX11_inRange_14 (by decide) ?_
    exact J15 0 hm H locs ls hP hD hS (lv_sub hl [] rfl)
  refine lv_iload_n hx hb dX11_inRange_0 rfl (lv_at hl 0 rfl) ?_
  refine lv_iload_n hx hb dX11_inRange_1 rfl (lv_at hl 1 rfl) ?_
  refine lv_icmp_lt (tgt := 14) hx hb dX11_inRange_2 (by decide) (fun c2 => ?_) (fun c2 => ?_)
  · replace hm := if_t c2 hm
    exact J14  hm H locs ls hP hD hS (lv_sub hl [] rfl)
  · replace hm := if_f c2 hm
    refine lv_iload_n hx hb dX11_inRange_5 rfl (lv_at hl 0 rfl) ?_
    refine lv_iload_n hx hb dX11_inRange_6 rfl (lv_at hl 2 rfl) ?_
    refine lv_icmp_gt (tgt := 14) hx hb dX11_inRange_7 (by decide) (fun c3 => ?_) (fun c3 => ?_)
    · replace hm := if_t c3 hm
      exact J14  hm H locs ls hP hD hS (lv_sub hl [] rfl)
    · replace hm := if_f c3 hm
      refine lv_iconst (v := 1) hx hb dX11_inRange_10 (by decide) ?_
      refine lv_goto (tgt := 15) hx hb dX11_inRange_11 (by decide) ?_
      exact J15 1 hm H locs ls hP hD hS (lv_sub hl [] rfl)
set_option maxHeartbeats 4000000 in
set_option maxRecDepth 100000 in
theorem c_X11_inSet (l : Launch) (D : va_G) (cI cJ cZ cS : ClassId) (x0 : Int32) (x1 : Int32) (o : Int32) (hm : m_X11_inSet x0 x1 = some o) : MI l yX11_inSet wsX11_inSet rm_X11_inSet D (TY cI cJ cZ cS) [.int x0, .int x1] (w_X11_inSet ) (w_X11_inSet ) (o) := by
  refine MZ_of (cc := cX11_inSet) (maxL := 2) (by decide) rfl (Nat.le_of_ble_eq_true rfl) ?_
  intro p e s m args below meth c A Q ls H locs hx hb hml hts hown hK hA hP hD hS hl hret
  have hown : s.vm.findClass RX11 = some m.cls := hown
  have hKv : va_K D vwCl (TY cI cJ cZ cS) s := hK.1
  have hl : lv_has ls 2 [(0, .int x0), (1, .int x1)] := hl
  have S : CallFix p m c cX11_inSet 2 s args wsX11_inSet RX11 := ⟨hx, hb, hml, hown, hts⟩
  have J14 : ∀ (y0_j14 : Int32), (m_X11_inSet_J14 y0_j14 = some o) → ∀ (H : Heap) (locs : List Loc) (ls : Array Slot), va_P D vwCl (w_X11_inSet ) H → va_D A (w_X11_inSet ) → va_S A s.heap H locs → lv_has ls 2 [] → W p l e rm_X11_inSet s m args below meth c H locs 0 0 Q (F0 m 14 ls [.int y0_j14]) := by
    intro y0_j14 hm H locs ls hP hD hS hl
    replace hm := ckb_some hm
    obtain ⟨h1, hm⟩ := hm
    have h9 := Option.some.inj hm
    subst h9
    exact hret H locs _ ls _ h1 hP hD hS rfl dX11_inSet_14
  refine lv_iload_n hx hb dX11_inSet_0 rfl (lv_at hl 0 rfl) ?_
  refine lv_iload_n hx hb dX11_inSet_1 rfl (lv_at hl 1 rfl) ?_
  refine lv_ishr hx hb dX11_inSet_2 ?_
  refine lv_iconst (v := 1) hx hb dX11_inSet_3 (by decide) ?_
  refine lv_iand hx hb dX11_inSet_4 ?_
  refine lv_iconst (v := 1) hx hb dX11_inSet_5 (by decide) ?_
  refine lv_icmp_ne (tgt := 13) hx hb dX11_inSet_6 (by decide) (fun c2 => ?_) (fun c2 => ?_)
  · replace hm := if_f c2 hm
    refine lv_iconst (v := 0) hx hb dX11_inSet_13 (by decide) ?_
    exact J14 0 hm H locs ls hP hD hS (lv_sub hl [] rfl)
  · replace hm := if_t c2 hm
    refine lv_iconst (v := 1) hx hb dX11_inSet_9 (by decide) ?_
    refine lv_goto (tgt := 14) hx hb dX11_inSet_10 (by decide) ?_
    exact J14 1 hm H locs ls hP hD hS (lv_sub hl [] rfl)
set_option maxHeartbeats 4000000 in
set_option maxRecDepth 100000 in
theorem c_X11_hasBelow (l : Launch) (D : va_G) (cI cJ cZ cS : ClassId) (x0 : Int32) (x1 : Int32) (o : Int32) (hm : m_X11_hasBelow x0 x1 = some o) : MI l yX11_hasBelow wsX11_hasBelow rm_X11_hasBelow D (TY cI cJ cZ cS) [.int x0, .int x1] (w_X11_hasBelow ) (w_X11_hasBelow ) (o) := by
  refine MZ_of (cc := cX11_hasBelow) (maxL := 2) (by decide) rfl (Nat.le_of_ble_eq_true rfl) ?_
  intro p e s m args below meth c A Q ls H locs hx hb hml hts hown hK hA hP hD hS hl hret
  have hown : s.vm.findClass RX11 = some m.cls := hown
  have hKv : va_K D vwCl (TY cI cJ cZ cS) s := hK.1
  have hl : lv_has ls 2 [(0, .int x0), (1, .int x1)] := hl
  have S : CallFix p m c cX11_hasBelow 2 s args wsX11_hasBelow RX11 := ⟨hx, hb, hml, hown, hts⟩
  have J15 : ∀ (y0_j15 : Int32), (m_X11_hasBelow_J15 y0_j15 = some o) → ∀ (H : Heap) (locs : List Loc) (ls : Array Slot), va_P D vwCl (w_X11_hasBelow ) H → va_D A (w_X11_hasBelow ) → va_S A s.heap H locs → lv_has ls 2 [] → W p l e rm_X11_hasBelow s m args below meth c H locs 0 0 Q (F0 m 15 ls [.int y0_j15]) := by
    intro y0_j15 hm H locs ls hP hD hS hl
    replace hm := ckb_some hm
    obtain ⟨h1, hm⟩ := hm
    have h9 := Option.some.inj hm
    subst h9
    exact hret H locs _ ls _ h1 hP hD hS rfl dX11_hasBelow_15
  refine lv_iload_n hx hb dX11_hasBelow_0 rfl (lv_at hl 0 rfl) ?_
  refine lv_iconst (v := 1) hx hb dX11_hasBelow_1 (by decide) ?_
  refine lv_iload_n hx hb dX11_hasBelow_2 rfl (lv_at hl 1 rfl) ?_
  refine lv_ishl hx hb dX11_hasBelow_3 ?_
  refine lv_iconst (v := 1) hx hb dX11_hasBelow_4 (by decide) ?_
  refine lv_isub hx hb dX11_hasBelow_5 ?_
  refine lv_iand hx hb dX11_hasBelow_6 ?_
  refine lv_if_eq (tgt := 14) hx hb dX11_hasBelow_7 (by decide) (fun c2 => ?_) (fun c2 => ?_)
  · replace hm := if_t c2 hm
    refine lv_iconst (v := 0) hx hb dX11_hasBelow_14 (by decide) ?_
    exact J15 0 hm H locs ls hP hD hS (lv_sub hl [] rfl)
  · replace hm := if_f c2 hm
    refine lv_iconst (v := 1) hx hb dX11_hasBelow_10 (by decide) ?_
    refine lv_goto (tgt := 15) hx hb dX11_hasBelow_11 (by decide) ?_
    exact J15 1 hm H locs ls hP hD hS (lv_sub hl [] rfl)
set_option maxHeartbeats 4000000 in
set_option maxRecDepth 100000 in
theorem c_X1_add (l : Launch) (D : va_G) (cI cJ cZ cS : ClassId) (aC aC_sz aC_cd : Nat) (C_n : Int32) (C_sz : Nat → Int32) (C_cd : Nat → Int32) (x1 : Int32) (x2 : Int32) (o : (Nat → Int32) × (Nat → Int32)) (hm : m_X1_add C_sz C_cd x1 x2 = some o) : MV l yX1_add wsX1_add rm_X1_add D (TY cI cJ cZ cS) [.ref aC, .int x1, .int x2] (w_X1_add cI aC aC_sz aC_cd C_n C_sz C_cd) (w_X1_add cI aC aC_sz aC_cd C_n o.1 o.2) := by
  refine MV_of (cc := cX1_add) (maxL := 4) (by decide) rfl (Nat.le_of_ble_eq_true rfl) ?_
  intro p e s m args below meth c A Q ls H locs hx hb hml hts hown hK hA hP hD hS hl hret
  have hown : s.vm.findClass RX1 = some m.cls := hown
  have hKv : va_K D vwCl (TY cI cJ cZ cS) s := hK.1
  have hl : lv_has ls 4 [(0, .ref aC), (1, .int x1), (2, .int x2)] := hl
  have S : CallFix p m c cX1_add 4 s args wsX1_add RX1 := ⟨hx, hb, hml, hown, hts⟩
  have k1 := hts (.fieldLink RX1 15 "CitationFormatter$Citations" "sizes" "[I") (by decide +kernel)
  have k2 : ∀ w ∈ wsX10, w ∈ wsX1_add := by decide +kernel
  have k3 := hts (.fieldLink RX1 19 "CitationFormatter$Citations" "cited" "[I") (by decide +kernel)
  have J32 : ∀ (C_sz_j32 : Nat → Int32) (C_cd_j32 : Nat → Int32), (m_X1_add_J32 C_sz_j32 C_cd_j32 = some o) → ∀ (H : Heap) (locs : List Loc) (ls : Array Slot), va_P D vwCl (w_X1_add cI aC aC_sz aC_cd C_n C_sz_j32 C_cd_j32) H → va_D A (w_X1_add cI aC aC_sz aC_cd C_n C_sz_j32 C_cd_j32) → va_S A s.heap H locs → lv_has ls 4 [(0, .ref aC)] → W p l e rm_X1_add s m args below meth c H locs 0 0 Q (F0 m 32 ls []) := by
    intro C_sz_j32 C_cd_j32 hm H locs ls hP hD hS hl
    have h9 := Option.some.inj hm
    subst h9
    exact hret H locs _ ls hP hD hS dX1_add_32
  refine lv_aload_n hx hb dX1_add_0 rfl (lv_at hl 0 rfl) ?_
  refine va_get (D := D) (ci := 1) (v := .ref aC_sz) (C := RX1) (T := TX1) (N := 3) hx hb hts k2 hown hKv hP 0 rfl rfl 1 (by decide) k1 (fun _ h9 => h9) rfl dX1_add_1 ?_
  refine lv_iload_n hx hb dX1_add_4 rfl (lv_at hl 1 rfl) ?_
  replace hm := ck_some hm
  obtain ⟨h1, hm⟩ := hm
  refine va_iald hx hb hKv hP 1 0 rfl rfl h1 dX1_add_5 ?_
  refine lv_istore_n (lv' := [(3, .int (C_sz (Int32.toNatClampNeg x1))), (0, .ref aC), (1, .int x1), (2, .int x2)]) hx hb dX1_add_6 rfl hl (by decide) rfl (fun ls hl => ?_)
  refine lv_iload_n hx hb dX1_add_7 rfl (lv_at hl 0 rfl) ?_
  refine lv_iconst (v := 5) hx hb dX1_add_8 (by decide) ?_
  refine lv_icmp_ge (tgt := 32) hx hb dX1_add_9 (by decide) (fun c2 => ?_) (fun c2 => ?_)
  · replace hm := if_t c2 hm
    exact J32 C_sz C_cd hm H locs ls hP hD hS (lv_sub hl [1] rfl)
  · replace hm := if_f c2 hm
    refine lv_aload_n hx hb dX1_add_12 rfl (lv_at hl 1 rfl) ?_
    refine va_get (D := D) (ci := 1) (v := .ref aC_cd) (C := RX1) (T := TX1) (N := 3) hx hb hts k2 hown hKv hP 0 rfl rfl 2 (by decide) k3 (fun _ h9 => h9) rfl dX1_add_13 ?_
    refine lv_iload_n hx hb dX1_add_16 rfl (lv_at hl 2 rfl) ?_
    refine lv_iconst (v := 5) hx hb dX1_add_17 (by decide) ?_
    refine lv_imul hx hb dX1_add_18 ?_
    refine lv_iload_n hx hb dX1_add_19 rfl (lv_at hl 0 rfl) ?_
    refine lv_iadd hx hb dX1_add_20 ?_
    refine lv_iload_n hx hb dX1_add_21 rfl (lv_at hl 3 rfl) ?_
    replace hm := ck_some hm
    obtain ⟨h3, hm⟩ := hm
    refine va_iast hx hb hKv hP hD hS 2 0 rfl rfl h3 dX1_add_22 (fun H locs hP hD hS => ?_)
    replace hP : va_P D vwCl (w_X1_add cI aC aC_sz aC_cd C_n C_sz (upd C_cd (Int32.toNatClampNeg ((x1 * 5) + (C_sz (Int32.toNatClampNeg x1)))) x2)) H := hP
    replace hD : va_D A (w_X1_add cI aC aC_sz aC_cd C_n C_sz (upd C_cd (Int32.toNatClampNeg ((x1 * 5) + (C_sz (Int32.toNatClampNeg x1)))) x2)) := hD
    refine lv_aload_n hx hb dX1_add_23 rfl (lv_at hl 1 rfl) ?_
    refine va_get (D := D) (ci := 1) (v := .ref aC_sz) (C := RX1) (T := TX1) (N := 3) hx hb hts k2 hown hKv hP 0 rfl rfl 1 (by decide) k1 (fun _ h9 => h9) rfl dX1_add_24 ?_
    refine lv_iload_n hx hb dX1_add_27 rfl (lv_at hl 2 rfl) ?_
    refine lv_iload_n hx hb dX1_add_28 rfl (lv_at hl 0 rfl) ?_
    refine lv_iconst (v := 1) hx hb dX1_add_29 (by decide) ?_
    refine lv_iadd hx hb dX1_add_30 ?_
    replace hm := ck_some hm
    obtain ⟨h4, hm⟩ := hm
    refine va_iast hx hb hKv hP hD hS 1 0 rfl rfl h4 dX1_add_31 (fun H locs hP hD hS => ?_)
    replace hP : va_P D vwCl (w_X1_add cI aC aC_sz aC_cd C_n (upd C_sz (Int32.toNatClampNeg x1) ((C_sz (Int32.toNatClampNeg x1)) + 1)) (upd C_cd (Int32.toNatClampNeg ((x1 * 5) + (C_sz (Int32.toNatClampNeg x1)))) x2)) H := hP
    replace hD : va_D A (w_X1_add cI aC aC_sz aC_cd C_n (upd C_sz (Int32.toNatClampNeg x1) ((C_sz (Int32.toNatClampNeg x1)) + 1)) (upd C_cd (Int32.toNatClampNeg ((x1 * 5) + (C_sz (Int32.toNatClampNeg x1)))) x2)) := hD
    exact J32 (upd C_sz (Int32.toNatClampNeg x1) ((C_sz (Int32.toNatClampNeg x1)) + 1)) (upd C_cd (Int32.toNatClampNeg ((x1 * 5) + (C_sz (Int32.toNatClampNeg x1)))) x2) hm H locs ls hP hD hS (lv_sub hl [1] rfl)
set_option maxHeartbeats 4000000 in
set_option maxRecDepth 100000 in
theorem c_X1_begin (l : Launch) (D : va_G) (cI cJ cZ cS : ClassId) (aC aC_sz aC_cd : Nat) (C_n : Int32) (C_sz : Nat → Int32) (C_cd : Nat → Int32) (x1 : Int32) (o : Int32 × (Nat → Int32) × (Nat → Int32)) (hm : m_X1_begin C_n C_sz C_cd x1 = some o) : MV l yX1_begin wsX1_begin rm_X1_begin D (TY cI cJ cZ cS) [.ref aC, .int x1] (w_X1_begin cI aC aC_sz aC_cd C_n C_sz C_cd) (w_X1_begin cI aC aC_sz aC_cd o.1 o.2.1 o.2.2) := by
  refine MV_of (cc := cX1_begin) (maxL := 2) (by decide) rfl (Nat.le_of_ble_eq_true rfl) ?_
  intro p e s m args below meth c A Q ls H locs hx hb hml hts hown hK hA hP hD hS hl hret
  have hown : s.vm.findClass RX1 = some m.cls := hown
  have hKv : va_K D vwCl (TY cI cJ cZ cS) s := hK.1
  have hl : lv_has ls 2 [(0, .ref aC), (1, .int x1)] := hl
  have S : CallFix p m c cX1_begin 2 s args wsX1_begin RX1 := ⟨hx, hb, hml, hown, hts⟩
  have k1 := hts (.fieldLink RX1 9 "CitationFormatter$Citations" "count" "I") (by decide +kernel)
  have k2 : ∀ w ∈ wsX10, w ∈ wsX1_begin := by decide +kernel
  have k3 := hts (.fieldLink RX1 15 "CitationFormatter$Citations" "sizes" "[I") (by decide +kernel)
  have k4 : CallW rm_X1_begin s args RX1 RX1 30 yX1_add cX1_add 4 none wsX1_add rm_X1_add 0 0 2 := cwV 2 hts gX1_begin_X1_add rfl rfl rfl (by decide +kernel) ⟨Nat.le_of_ble_eq_true rfl, Nat.le_of_ble_eq_true rfl⟩
  have J38 : ∀ (C_n_j38 : Int32) (C_sz_j38 : Nat → Int32) (C_cd_j38 : Nat → Int32), (m_X1_begin_J38 C_n_j38 C_sz_j38 C_cd_j38 = some o) → ∀ (H : Heap) (locs : List Loc) (ls : Array Slot), va_P D vwCl (w_X1_begin cI aC aC_sz aC_cd C_n_j38 C_sz_j38 C_cd_j38) H → va_D A (w_X1_begin cI aC aC_sz aC_cd C_n_j38 C_sz_j38 C_cd_j38) → va_S A s.heap H locs → lv_has ls 2 [(0, .ref aC)] → W p l e rm_X1_begin s m args below meth c H locs 0 0 Q (F0 m 38 ls []) := by
    intro C_n_j38 C_sz_j38 C_cd_j38 hm H locs ls hP hD hS hl
    have h9 := Option.some.inj hm
    subst h9
    exact hret H locs _ ls hP hD hS dX1_begin_38
  refine lv_aload_n hx hb dX1_begin_0 rfl (lv_at hl 0 rfl) ?_
  refine va_get (D := D) (ci := 1) (v := .int C_n) (C := RX1) (T := TX1) (N := 3) hx hb hts k2 hown hKv hP 0 rfl rfl 0 (by decide) k1 (fun _ h9 => h9) rfl dX1_begin_1 ?_
  refine lv_bipush (v := 10) hx hb dX1_begin_4 (by decide) ?_
  refine lv_icmp_ge (tgt := 38) hx hb dX1_begin_6 (by decide) (fun c1 => ?_) (fun c1 => ?_)
  · replace hm := if_t c1 hm
    exact J38 C_n C_sz C_cd hm H locs ls hP hD hS (lv_sub hl [0] rfl)
  · replace hm := if_f c1 hm
    refine lv_aload_n hx hb dX1_begin_9 rfl (lv_at hl 0 rfl) ?_
    refine va_get (D := D) (ci := 1) (v := .ref aC_sz) (C := RX1) (T := TX1) (N := 3) hx hb hts k2 hown hKv hP 0 rfl rfl 1 (by decide) k3 (fun _ h9 => h9) rfl dX1_begin_10 ?_
    refine lv_aload_n hx hb dX1_begin_13 rfl (lv_at hl 0 rfl) ?_
    refine va_get (D := D) (ci := 1) (v := .int C_n) (C := RX1) (T := TX1) (N := 3) hx hb hts k2 hown hKv hP 0 rfl rfl 0 (by decide) k1 (fun _ h9 => h9) rfl dX1_begin_14 ?_
    refine lv_iconst (v := 0) hx hb dX1_begin_17 (by decide) ?_
    replace hm := ck_some hm
    obtain ⟨h2, hm⟩ := hm
    refine va_iast hx hb hKv hP hD hS 1 0 rfl rfl h2 dX1_begin_18 (fun H locs hP hD hS => ?_)
    replace hP : va_P D vwCl (w_X1_begin cI aC aC_sz aC_cd C_n (upd C_sz (Int32.toNatClampNeg C_n) 0) C_cd) H := hP
    replace hD : va_D A (w_X1_begin cI aC aC_sz aC_cd C_n (upd C_sz (Int32.toNatClampNeg C_n) 0) C_cd) := hD
    refine lv_aload_n hx hb dX1_begin_19 rfl (lv_at hl 0 rfl) ?_
    refine lv_aload_n hx hb dX1_begin_20 rfl (lv_at hl 0 rfl) ?_
    refine va_get (D := D) (ci := 1) (v := .int C_n) (C := RX1) (T := TX1) (N := 3) hx hb hts k2 hown hKv hP 0 rfl rfl 0 (by decide) k1 (fun _ h9 => h9) rfl dX1_begin_21 ?_
    refine lv_iload_n hx hb dX1_begin_24 rfl (lv_at hl 1 rfl) ?_
    replace hm := bd_some hm
    obtain ⟨e3, hc3, hm⟩ := hm
    refine kV_v (rest := []) (ws' := (w_X1_begin cI aC aC_sz aC_cd C_n e3.1 e3.2)) S (c_X1_add l D cI cJ cZ cS aC aC_sz aC_cd C_n (upd C_sz (Int32.toNatClampNeg C_n) 0) C_cd C_n x1 e3 hc3) k4 hK hP hD hS hA 0 rfl rfl rfl rfl hl.1 rfl (Nat.le_of_ble_eq_true rfl) ⟨Nat.zero_le _, Nat.zero_le _⟩ dX1_begin_25 [0, 1, 2] rfl rfl wa_X1_add (sa_eq [] [] 3 rfl rfl rfl rfl rfl rfl rfl) (fun H locs hP hD hS => ?_)
    refine lv_aload_n hx hb dX1_begin_28 rfl (lv_at hl 0 rfl) ?_
    refine lv_dup hx hb dX1_begin_29 rfl ?_
    refine va_get (D := D) (ci := 1) (v := .int C_n) (C := RX1) (T := TX1) (N := 3) hx hb hts k2 hown hKv hP 0 rfl rfl 0 (by decide) k1 (fun _ h9 => h9) rfl dX1_begin_30 ?_
    refine lv_iconst (v := 1) hx hb dX1_begin_33 (by decide) ?_
    refine lv_iadd hx hb dX1_begin_34 ?_
    refine va_put (D := D) (ci := 1) (v := .int (C_n + 1)) (ty := .int) (C := RX1) (T := TX1) (N := 3) hx hb hts k2 tyX1 tyX1_ok nmX1 hown hKv hP hD hS 0 rfl rfl 0 (by decide) k1 (fun _ h9 => h9) rfl (by decide +kernel) rfl rfl (Nat.le_of_ble_eq_true rfl) dX1_begin_35 (fun H locs hP hD hS => ?_)
    replace hP : va_P D vwCl (w_X1_begin cI aC aC_sz aC_cd (C_n + 1) e3.1 e3.2) H := hP
    replace hD : va_D A (w_X1_begin cI aC aC_sz aC_cd (C_n + 1) e3.1 e3.2) := hD
    exact J38 (C_n + 1) e3.1 e3.2 hm H locs ls hP hD hS (lv_sub hl [0] rfl)
set_option maxHeartbeats 4000000 in
set_option maxRecDepth 100000 in
theorem c_X1_workAt (l : Launch) (D : va_G) (cI cJ cZ cS : ClassId) (aC aC_sz aC_cd : Nat) (C_n : Int32) (C_cd : Nat → Int32) (x1 : Int32) (x2 : Int32) (o : Int32) (hm : m_X1_workAt C_cd x1 x2 = some o) : MI l yX1_workAt wsX1_workAt rm_X1_workAt D (TY cI cJ cZ cS) [.ref aC, .int x1, .int x2] (w_X1_workAt cI aC aC_sz aC_cd C_n C_cd) (w_X1_workAt cI aC aC_sz aC_cd C_n C_cd) (o) := by
  refine MI_of (cc := cX1_workAt) (maxL := 3) (by decide) rfl (Nat.le_of_ble_eq_true rfl) ?_
  intro p e s m args below meth c A Q ls H locs hx hb hml hts hown hK hA hP hD hS hl hret
  have hown : s.vm.findClass RX1 = some m.cls := hown
  have hKv : va_K D vwCl (TY cI cJ cZ cS) s := hK.1
  have hl : lv_has ls 3 [(0, .ref aC), (1, .int x1), (2, .int x2)] := hl
  have S : CallFix p m c cX1_workAt 3 s args wsX1_workAt RX1 := ⟨hx, hb, hml, hown, hts⟩
  have k1 := hts (.fieldLink RX1 19 "CitationFormatter$Citations" "cited" "[I") (by decide +kernel)
  have k2 : ∀ w ∈ wsX10, w ∈ wsX1_workAt := by decide +kernel
  refine lv_aload_n hx hb dX1_workAt_0 rfl (lv_at hl 0 rfl) ?_
  refine va_get (D := D) (ci := 1) (v := .ref aC_cd) (C := RX1) (T := TX1) (N := 3) hx hb hts k2 hown hKv hP 0 rfl rfl 2 (by decide) k1 (fun _ h9 => h9) rfl dX1_workAt_1 ?_
  refine lv_iload_n hx hb dX1_workAt_4 rfl (lv_at hl 1 rfl) ?_
  refine lv_iconst (v := 5) hx hb dX1_workAt_5 (by decide) ?_
  refine lv_imul hx hb dX1_workAt_6 ?_
  refine lv_iload_n hx hb dX1_workAt_7 rfl (lv_at hl 2 rfl) ?_
  refine lv_iadd hx hb dX1_workAt_8 ?_
  replace hm := ck_some hm
  obtain ⟨h1, hm⟩ := hm
  refine va_iald hx hb hKv hP 1 0 rfl rfl h1 dX1_workAt_9 ?_
  have h9 := Option.some.inj hm
  subst h9
  exact hret H locs _ ls _ hP hD hS rfl dX1_workAt_10
set_option maxHeartbeats 4000000 in
set_option maxRecDepth 100000 in
theorem c_X1_cites (l : Launch) (D : va_G) (cI cJ cZ cS : ClassId) (aC aC_sz aC_cd : Nat) (C_n : Int32) (C_sz : Nat → Int32) (C_cd : Nat → Int32) (x1 : Int32) (x2 : Int32) (o : Int32) (hm : m_X1_cites C_sz C_cd x1 x2 = some o) : MI l yX1_cites wsX1_cites rm_X1_cites D (TY cI cJ cZ cS) [.ref aC, .int x1, .int x2] (w_X1_cites cI aC aC_sz aC_cd C_n C_sz C_cd) (w_X1_cites cI aC aC_sz aC_cd C_n C_sz C_cd) (o) := by
  refine MZ_of (cc := cX1_cites) (maxL := 4) (by decide) rfl (Nat.le_of_ble_eq_true rfl) ?_
  intro p e s m args below meth c A Q ls H locs hx hb hml hts hown hK hA hP hD hS hl hret
  have hown : s.vm.findClass RX1 = some m.cls := hown
  have hKv : va_K D vwCl (TY cI cJ cZ cS) s := hK.1
  have hl : lv_has ls 4 [(0, .ref aC), (1, .int x1), (2, .int x2)] := hl
  have S : CallFix p m c cX1_cites 4 s args wsX1_cites RX1 := ⟨hx, hb, hml, hown, hts⟩
  have k1 := hts (.fieldLink RX1 15 "CitationFormatter$Citations" "sizes" "[I") (by decide +kernel)
  have k2 : ∀ w ∈ wsX10, w ∈ wsX1_cites := by decide +kernel
  have k3 : CallW rm_X1_cites s args RX1 RX1 22 yX1_workAt cX1_workAt 3 (some .int) wsX1_workAt rm_X1_workAt 0 0 2 := cwV 2 hts gX1_cites_X1_workAt rfl rfl rfl (by decide +kernel) ⟨Nat.le_of_ble_eq_true rfl, Nat.le_of_ble_eq_true rfl⟩
  refine lv_iconst (v := 0) hx hb dX1_cites_0 (by decide) ?_
  refine lv_istore_n (lv' := [(3, .int 0), (0, .ref aC), (1, .int x1), (2, .int x2)]) hx hb dX1_cites_1 rfl hl (by decide) rfl (fun ls hl => ?_)
  replace hm := bd_some hm
  obtain ⟨e1, hc1, hm⟩ := hm
  have X1_0 : ∀ v1_0, e1 = Sum.inl v1_0 → ∀ (H : Heap) (locs : List Loc) (ls : Array Slot), va_P D vwCl (w_X1_cites cI aC aC_sz aC_cd C_n C_sz C_cd) H → va_D A (w_X1_cites cI aC aC_sz aC_cd C_n C_sz C_cd) → va_S A s.heap H locs → lv_has ls 4 [(0, .ref aC)] → W p l e rm_X1_cites s m args below meth c H locs 0 0 Q (F0 m 22 ls []) := by
    intro v1_0 h9 H locs ls hP hD hS hl
    subst h9
    replace hm := el_l hm
    refine lv_iconst (v := 1) hx hb dX1_cites_22 (by decide) ?_
    have h9 := Option.some.inj hm
    subst h9
    exact hret H locs _ ls _ (Or.inr rfl) hP hD hS rfl dX1_cites_23
  have X1_1 : ∀ v1_1, e1 = Sum.inr (v1_1) → ∀ (H : Heap) (locs : List Loc) (ls : Array Slot), va_P D vwCl (w_X1_cites cI aC aC_sz aC_cd C_n C_sz C_cd) H → va_D A (w_X1_cites cI aC aC_sz aC_cd C_n C_sz C_cd) → va_S A s.heap H locs → lv_has ls 4 [(0, .ref aC)] → W p l e rm_X1_cites s m args below meth c H locs 0 0 Q (F0 m 30 ls []) := by
    intro v1_1 h9 H locs ls hP hD hS hl
    subst h9
    replace hm := el_r hm
    refine lv_iconst (v := 0) hx hb dX1_cites_30 (by decide) ?_
    have h9 := Option.some.inj hm
    subst h9
    exact hret H locs _ ls _ (Or.inl rfl) hP hD hS rfl dX1_cites_31
  refine it_W (G := fun (st2 : Int32) => ∀ (H : Heap) (locs : List Loc) (ls : Array Slot), va_P D vwCl (w_X1_cites cI aC aC_sz aC_cd C_n C_sz C_cd) H → va_D A (w_X1_cites cI aC aC_sz aC_cd C_n C_sz C_cd) → va_S A s.heap H locs → lv_has ls 4 [(0, .ref aC), (1, .int x1), (2, .int x2), (3, .int st2)] → W p l e rm_X1_cites s m args below meth c H locs 0 0 Q (F0 m 2 ls [])) (e := e1) (fun st2 x hm hG hE => ?_) fu _ hc1 H locs ls hP hD hS (lv_sub hl [1, 2, 3, 0] rfl)
  intro H locs ls hP hD hS hl
  refine lv_iload_n hx hb dX1_cites_2 rfl (lv_at hl 3 rfl) ?_
  refine lv_aload_n hx hb dX1_cites_3 rfl (lv_at hl 0 rfl) ?_
  refine va_get (D := D) (ci := 1) (v := .ref aC_sz) (C := RX1) (T := TX1) (N := 3) hx hb hts k2 hown hKv hP 0 rfl rfl 1 (by decide) k1 (fun _ h9 => h9) rfl dX1_cites_4 ?_
  refine lv_iload_n hx hb dX1_cites_7 rfl (lv_at hl 1 rfl) ?_
  replace hm := ck_some hm
  obtain ⟨h2, hm⟩ := hm
  refine va_iald hx hb hKv hP 1 0 rfl rfl h2 dX1_cites_8 ?_
  refine lv_icmp_ge (tgt := 30) hx hb dX1_cites_9 (by decide) (fun c3 => ?_) (fun c3 => ?_)
  · replace hm := if_t c3 hm
    exact X1_1 _ (hE _ (Option.some.inj hm).symm).symm H locs ls hP hD hS (lv_sub hl [0] rfl)
  · replace hm := if_f c3 hm
    refine lv_aload_n hx hb dX1_cites_12 rfl (lv_at hl 0 rfl) ?_
    refine lv_iload_n hx hb dX1_cites_13 rfl (lv_at hl 1 rfl) ?_
    refine lv_iload_n hx hb dX1_cites_14 rfl (lv_at hl 3 rfl) ?_
    replace hm := bd_some hm
    obtain ⟨e4, hc4, hm⟩ := hm
    refine kV_i (rest := []) (ws' := (w_X1_cites cI aC aC_sz aC_cd C_n C_sz C_cd)) S (c_X1_workAt l D cI cJ cZ cS aC aC_sz aC_cd C_n C_cd x1 st2 e4 hc4) k3 hK hP hD hS hA 0 rfl rfl rfl rfl hl.1 rfl (Nat.le_of_ble_eq_true rfl) ⟨Nat.zero_le _, Nat.zero_le _⟩ dX1_cites_15 [0, 2] rfl rfl wa_X1_workAt (sa_eq [(aC_sz, .inl (cI, 10, .inl C_sz))] [1] 3 rfl rfl rfl rfl rfl rfl rfl) (fun H locs hP hD hS => ?_)
    refine lv_iload_n hx hb dX1_cites_18 rfl (lv_at hl 2 rfl) ?_
    refine lv_icmp_ne (tgt := 24) hx hb dX1_cites_19 (by decide) (fun c5 => ?_) (fun c5 => ?_)
    · replace hm := if_f c5 hm
      refine lv_iinc (v := (st2 + 1)) (lv' := [(3, .int (st2 + 1)), (0, .ref aC), (1, .int x1), (2, .int x2)]) hx hb dX1_cites_24 hl (k := 3) rfl rfl (by decide) rfl (fun ls hl => ?_)
      refine lv_goto (tgt := 2) hx hb dX1_cites_27 (by decide) ?_
      exact hG _ (Option.some.inj hm).symm H locs ls hP hD hS (lv_sub hl [1, 2, 3, 0] rfl)
    · replace hm := if_t c5 hm
      exact X1_0 _ (hE _ (Option.some.inj hm).symm).symm H locs ls hP hD hS (lv_sub hl [0] rfl)
set_option maxHeartbeats 4000000 in
set_option maxRecDepth 100000 in
theorem c_X1_copyCitation (l : Launch) (D : va_G) (cI cJ cZ cS : ClassId) (aC aC_sz aC_cd aK aK_sz aK_cd : Nat) (C_n : Int32) (C_sz : Nat → Int32) (C_cd : Nat → Int32) (K_n : Int32) (K_sz : Nat → Int32) (K_cd : Nat → Int32) (x2 : Int32) (x3 : Int32) (o : (Nat → Int32) × (Nat → Int32)) (hm : m_X1_copyCitation C_sz C_cd K_sz K_cd x2 x3 = some o) : MV l yX1_copyCitation wsX1_copyCitation rm_X1_copyCitation D (TY cI cJ cZ cS) [.ref aC, .ref aK, .int x2, .int x3] (w_X1_copyCitation cI aC aC_sz aC_cd aK aK_sz aK_cd C_n C_sz C_cd K_n K_sz K_cd) (w_X1_copyCitation cI aC aC_sz aC_cd aK aK_sz aK_cd C_n o.1 o.2 K_n K_sz K_cd) := by
  refine MV_of (cc := cX1_copyCitation) (maxL := 5) (by decide) rfl (Nat.le_of_ble_eq_true rfl) ?_
  intro p e s m args below meth c A Q ls H locs hx hb hml hts hown hK hA hP hD hS hl hret
  have hown : s.vm.findClass RX1 = some m.cls := hown
  have hKv : va_K D vwCl (TY cI cJ cZ cS) s := hK.1
  have hl : lv_has ls 5 [(0, .ref aC), (1, .ref aK), (2, .int x2), (3, .int x3)] := hl
  have S : CallFix p m c cX1_copyCitation 5 s args wsX1_copyCitation RX1 := ⟨hx, hb, hml, hown, hts⟩
  have k1 := hts (.fieldLink RX1 15 "CitationFormatter$Citations" "sizes" "[I") (by decide +kernel)
  have k2 : ∀ w ∈ wsX10, w ∈ wsX1_copyCitation := by decide +kernel
  have k3 := hts (.fieldLink RX1 19 "CitationFormatter$Citations" "cited" "[I") (by decide +kernel)
  refine lv_aload_n hx hb dX1_copyCitation_0 rfl (lv_at hl 0 rfl) ?_
  refine va_get (D := D) (ci := 1) (v := .ref aC_sz) (C := RX1) (T := TX1) (N := 3) hx hb hts k2 hown hKv hP 0 rfl rfl 1 (by decide) k1 (fun _ h9 => h9) rfl dX1_copyCitation_1 ?_
  refine lv_iload_n hx hb dX1_copyCitation_4 rfl (lv_at hl 3 rfl) ?_
  refine lv_aload_n hx hb dX1_copyCitation_5 rfl (lv_at hl 1 rfl) ?_
  refine va_get (D := D) (ci := 1) (v := .ref aK_sz) (C := RX1) (T := TX1) (N := 3) hx hb hts k2 hown hKv hP 3 rfl rfl 1 (by decide) k1 (fun _ h9 => h9) rfl dX1_copyCitation_6 ?_
  refine lv_iload_n hx hb dX1_copyCitation_9 rfl (lv_at hl 2 rfl) ?_
  replace hm := ck_some hm
  obtain ⟨h1, hm⟩ := hm
  refine va_iald hx hb hKv hP 4 0 rfl rfl h1 dX1_copyCitation_10 ?_
  replace hm := ck_some hm
  obtain ⟨h2, hm⟩ := hm
  refine va_iast hx hb hKv hP hD hS 1 0 rfl rfl h2 dX1_copyCitation_11 (fun H locs hP hD hS => ?_)
  replace hP : va_P D vwCl (w_X1_copyCitation cI aC aC_sz aC_cd aK aK_sz aK_cd C_n (upd C_sz (Int32.toNatClampNeg x3) (K_sz (Int32.toNatClampNeg x2))) C_cd K_n K_sz K_cd) H := hP
  replace hD : va_D A (w_X1_copyCitation cI aC aC_sz aC_cd aK aK_sz aK_cd C_n (upd C_sz (Int32.toNatClampNeg x3) (K_sz (Int32.toNatClampNeg x2))) C_cd K_n K_sz K_cd) := hD
  refine lv_iconst (v := 0) hx hb dX1_copyCitation_12 (by decide) ?_
  refine lv_istore (lv' := [(4, .int 0), (0, .ref aC), (1, .ref aK), (2, .int x2), (3, .int x3)]) hx hb dX1_copyCitation_13 hl (by decide) rfl (fun ls hl => ?_)
  replace hm := bd_some hm
  obtain ⟨e3, hc3, hm⟩ := hm
  have X3_0 : ∀ (H : Heap) (locs : List Loc) (ls : Array Slot), va_P D vwCl (w_X1_copyCitation cI aC aC_sz aC_cd aK aK_sz aK_cd C_n (upd C_sz (Int32.toNatClampNeg x3) (K_sz (Int32.toNatClampNeg x2))) e3 K_n K_sz K_cd) H → va_D A (w_X1_copyCitation cI aC aC_sz aC_cd aK aK_sz aK_cd C_n (upd C_sz (Int32.toNatClampNeg x3) (K_sz (Int32.toNatClampNeg x2))) e3 K_n K_sz K_cd) → va_S A s.heap H locs → lv_has ls 5 [(0, .ref aC)] → W p l e rm_X1_copyCitation s m args below meth c H locs 0 0 Q (F0 m 49 ls []) := by
    intro H locs ls hP hD hS hl
    have h9 := Option.some.inj hm
    subst h9
    exact hret H locs _ ls hP hD hS dX1_copyCitation_49
  refine it_W (G := fun (st15 : Int32 × (Nat → Int32)) => ∀ (H : Heap) (locs : List Loc) (ls : Array Slot), va_P D vwCl (w_X1_copyCitation cI aC aC_sz aC_cd aK aK_sz aK_cd C_n (upd C_sz (Int32.toNatClampNeg x3) (K_sz (Int32.toNatClampNeg x2))) st15.2 K_n K_sz K_cd) H → va_D A (w_X1_copyCitation cI aC aC_sz aC_cd aK aK_sz aK_cd C_n (upd C_sz (Int32.toNatClampNeg x3) (K_sz (Int32.toNatClampNeg x2))) st15.2 K_n K_sz K_cd) → va_S A s.heap H locs → lv_has ls 5 [(0, .ref aC), (1, .ref aK), (2, .int x2), (3, .int x3), (4, .int st15.1)] → W p l e rm_X1_copyCitation s m args below meth c H locs 0 0 Q (F0 m 15 ls [])) (e := e3) (fun st15 x hm hG hE => ?_) fu _ hc3 H locs ls hP hD hS (lv_sub hl [1, 2, 3, 4, 0] rfl)
  intro H locs ls hP hD hS hl
  refine lv_iload hx hb dX1_copyCitation_15 (lv_at hl 4 rfl) ?_
  refine lv_iconst (v := 5) hx hb dX1_copyCitation_17 (by decide) ?_
  refine lv_icmp_ge (tgt := 49) hx hb dX1_copyCitation_18 (by decide) (fun c4 => ?_) (fun c4 => ?_)
  · replace hm := if_t c4 hm
    have h9 := hE _ (Option.some.inj hm).symm
    subst h9
    exact X3_0 H locs ls hP hD hS (lv_sub hl [0] rfl)
  · replace hm := if_f c4 hm
    refine lv_aload_n hx hb dX1_copyCitation_21 rfl (lv_at hl 0 rfl) ?_
    refine va_get (D := D) (ci := 1) (v := .ref aC_cd) (C := RX1) (T := TX1) (N := 3) hx hb hts k2 hown hKv hP 0 rfl rfl 2 (by decide) k3 (fun _ h9 => h9) rfl dX1_copyCitation_22 ?_
    refine lv_iload_n hx hb dX1_copyCitation_25 rfl (lv_at hl 3 rfl) ?_
    refine lv_iconst (v := 5) hx hb dX1_copyCitation_26 (by decide) ?_
    refine lv_imul hx hb dX1_copyCitation_27 ?_
    refine lv_iload hx hb dX1_copyCitation_28 (lv_at hl 4 rfl) ?_
    refine lv_iadd hx hb dX1_copyCitation_30 ?_
    refine lv_aload_n hx hb dX1_copyCitation_31 rfl (lv_at hl 1 rfl) ?_
    refine va_get (D := D) (ci := 1) (v := .ref aK_cd) (C := RX1) (T := TX1) (N := 3) hx hb hts k2 hown hKv hP 3 rfl rfl 2 (by decide) k3 (fun _ h9 => h9) rfl dX1_copyCitation_32 ?_
    refine lv_iload_n hx hb dX1_copyCitation_35 rfl (lv_at hl 2 rfl) ?_
    refine lv_iconst (v := 5) hx hb dX1_copyCitation_36 (by decide) ?_
    refine lv_imul hx hb dX1_copyCitation_37 ?_
    refine lv_iload hx hb dX1_copyCitation_38 (lv_at hl 4 rfl) ?_
    refine lv_iadd hx hb dX1_copyCitation_40 ?_
    replace hm := ck_some hm
    obtain ⟨h5, hm⟩ := hm
    refine va_iald hx hb hKv hP 5 0 rfl rfl h5 dX1_copyCitation_41 ?_
    replace hm := ck_some hm
    obtain ⟨h6, hm⟩ := hm
    refine va_iast hx hb hKv hP hD hS 2 0 rfl rfl h6 dX1_copyCitation_42 (fun H locs hP hD hS => ?_)
    replace hP : va_P D vwCl (w_X1_copyCitation cI aC aC_sz aC_cd aK aK_sz aK_cd C_n (upd C_sz (Int32.toNatClampNeg x3) (K_sz (Int32.toNatClampNeg x2))) (upd st15.2 (Int32.toNatClampNeg ((x3 * 5) + st15.1)) (K_cd (Int32.toNatClampNeg ((x2 * 5) + st15.1)))) K_n K_sz K_cd) H := hP
    replace hD : va_D A (w_X1_copyCitation cI aC aC_sz aC_cd aK aK_sz aK_cd C_n (upd C_sz (Int32.toNatClampNeg x3) (K_sz (Int32.toNatClampNeg x2))) (upd st15.2 (Int32.toNatClampNeg ((x3 * 5) + st15.1)) (K_cd (Int32.toNatClampNeg ((x2 * 5) + st15.1)))) K_n K_sz K_cd) := hD
    refine lv_iinc (v := (st15.1 + 1)) (lv' := [(4, .int (st15.1 + 1)), (0, .ref aC), (1, .ref aK), (2, .int x2), (3, .int x3)]) hx hb dX1_copyCitation_43 hl (k := 4) rfl rfl (by decide) rfl (fun ls hl => ?_)
    refine lv_goto (tgt := 15) hx hb dX1_copyCitation_46 (by decide) ?_
    exact hG _ (Option.some.inj hm).symm H locs ls hP hD hS (lv_sub hl [1, 2, 3, 4, 0] rfl)
set_option maxHeartbeats 4000000 in
set_option maxRecDepth 100000 in
theorem c_X1_copyFrom (l : Launch) (D : va_G) (cI cJ cZ cS : ClassId) (aC aC_sz aC_cd aK aK_sz aK_cd : Nat) (C_n : Int32) (C_sz : Nat → Int32) (C_cd : Nat → Int32) (K_n : Int32) (K_sz : Nat → Int32) (K_cd : Nat → Int32) (o : Int32 × (Nat → Int32) × (Nat → Int32)) (hm : m_X1_copyFrom C_n C_sz C_cd K_n K_sz K_cd = some o) : MV l yX1_copyFrom wsX1_copyFrom rm_X1_copyFrom D (TY cI cJ cZ cS) [.ref aC, .ref aK] (w_X1_copyFrom cI aC aC_sz aC_cd aK aK_sz aK_cd C_n C_sz C_cd K_n K_sz K_cd) (w_X1_copyFrom cI aC aC_sz aC_cd aK aK_sz aK_cd o.1 o.2.1 o.2.2 K_n K_sz K_cd) := by
  refine MV_of (cc := cX1_copyFrom) (maxL := 3) (by decide) rfl (Nat.le_of_ble_eq_true rfl) ?_
  intro p e s m args below meth c A Q ls H locs hx hb hml hts hown hK hA hP hD hS hl hret
  have hown : s.vm.findClass RX1 = some m.cls := hown
  have hKv : va_K D vwCl (TY cI cJ cZ cS) s := hK.1
  have hl : lv_has ls 3 [(0, .ref aC), (1, .ref aK)] := hl
  have S : CallFix p m c cX1_copyFrom 3 s args wsX1_copyFrom RX1 := ⟨hx, hb, hml, hown, hts⟩
  have k1 := hts (.fieldLink RX1 9 "CitationFormatter$Citations" "count" "I") (by decide +kernel)
  have k2 : ∀ w ∈ wsX10, w ∈ wsX1_copyFrom := by decide +kernel
  have k3 : CallW rm_X1_copyFrom s args RX1 RX1 34 yX1_copyCitation cX1_copyCitation 5 none wsX1_copyCitation rm_X1_copyCitation 0 0 3 := cwV 3 hts gX1_copyFrom_X1_copyCitation rfl rfl rfl (by decide +kernel) ⟨Nat.le_of_ble_eq_true rfl, Nat.le_of_ble_eq_true rfl⟩
  refine lv_aload_n hx hb dX1_copyFrom_0 rfl (lv_at hl 0 rfl) ?_
  refine lv_aload_n hx hb dX1_copyFrom_1 rfl (lv_at hl 1 rfl) ?_
  refine va_get (D := D) (ci := 1) (v := .int K_n) (C := RX1) (T := TX1) (N := 3) hx hb hts k2 hown hKv hP 3 rfl rfl 0 (by decide) k1 (fun _ h9 => h9) rfl dX1_copyFrom_2 ?_
  refine va_put (D := D) (ci := 1) (v := .int K_n) (ty := .int) (C := RX1) (T := TX1) (N := 3) hx hb hts k2 tyX1 tyX1_ok nmX1 hown hKv hP hD hS 0 rfl rfl 0 (by decide) k1 (fun _ h9 => h9) rfl (by decide +kernel) rfl rfl (Nat.le_of_ble_eq_true rfl) dX1_copyFrom_5 (fun H locs hP hD hS => ?_)
  replace hP : va_P D vwCl (w_X1_copyFrom cI aC aC_sz aC_cd aK aK_sz aK_cd K_n C_sz C_cd K_n K_sz K_cd) H := hP
  replace hD : va_D A (w_X1_copyFrom cI aC aC_sz aC_cd aK aK_sz aK_cd K_n C_sz C_cd K_n K_sz K_cd) := hD
  refine lv_iconst (v := 0) hx hb dX1_copyFrom_8 (by decide) ?_
  refine lv_istore_n (lv' := [(2, .int 0), (0, .ref aC), (1, .ref aK)]) hx hb dX1_copyFrom_9 rfl hl (by decide) rfl (fun ls hl => ?_)
  replace hm := bd_some hm
  obtain ⟨e1, hc1, hm⟩ := hm
  have X1_0 : ∀ (H : Heap) (locs : List Loc) (ls : Array Slot), va_P D vwCl (w_X1_copyFrom cI aC aC_sz aC_cd aK aK_sz aK_cd K_n e1.1 e1.2 K_n K_sz K_cd) H → va_D A (w_X1_copyFrom cI aC aC_sz aC_cd aK aK_sz aK_cd K_n e1.1 e1.2 K_n K_sz K_cd) → va_S A s.heap H locs → lv_has ls 3 [(0, .ref aC)] → W p l e rm_X1_copyFrom s m args below meth c H locs 0 0 Q (F0 m 31 ls []) := by
    intro H locs ls hP hD hS hl
    have h9 := Option.some.inj hm
    subst h9
    exact hret H locs _ ls hP hD hS dX1_copyFrom_31
  refine it_W (G := fun (st10 : Int32 × (Nat → Int32) × (Nat → Int32)) => ∀ (H : Heap) (locs : List Loc) (ls : Array Slot), va_P D vwCl (w_X1_copyFrom cI aC aC_sz aC_cd aK aK_sz aK_cd K_n st10.2.1 st10.2.2 K_n K_sz K_cd) H → va_D A (w_X1_copyFrom cI aC aC_sz aC_cd aK aK_sz aK_cd K_n st10.2.1 st10.2.2 K_n K_sz K_cd) → va_S A s.heap H locs → lv_has ls 3 [(0, .ref aC), (1, .ref aK), (2, .int st10.1)] → W p l e rm_X1_copyFrom s m args below meth c H locs 0 0 Q (F0 m 10 ls [])) (e := e1) (fun st10 x hm hG hE => ?_) fu _ hc1 H locs ls hP hD hS (lv_sub hl [1, 2, 0] rfl)
  intro H locs ls hP hD hS hl
  refine lv_iload_n hx hb dX1_copyFrom_10 rfl (lv_at hl 2 rfl) ?_
  refine lv_aload_n hx hb dX1_copyFrom_11 rfl (lv_at hl 0 rfl) ?_
  refine va_get (D := D) (ci := 1) (v := .int K_n) (C := RX1) (T := TX1) (N := 3) hx hb hts k2 hown hKv hP 0 rfl rfl 0 (by decide) k1 (fun _ h9 => h9) rfl dX1_copyFrom_12 ?_
  refine lv_icmp_ge (tgt := 31) hx hb dX1_copyFrom_15 (by decide) (fun c2 => ?_) (fun c2 => ?_)
  · replace hm := if_t c2 hm
    have h9 := hE _ (Option.some.inj hm).symm
    subst h9
    exact X1_0 H locs ls hP hD hS (lv_sub hl [0] rfl)
  · replace hm := if_f c2 hm
    refine lv_aload_n hx hb dX1_copyFrom_18 rfl (lv_at hl 0 rfl) ?_
    refine lv_aload_n hx hb dX1_copyFrom_19 rfl (lv_at hl 1 rfl) ?_
    refine lv_iload_n hx hb dX1_copyFrom_20 rfl (lv_at hl 2 rfl) ?_
    refine lv_iload_n hx hb dX1_copyFrom_21 rfl (lv_at hl 2 rfl) ?_
    replace hm := bd_some hm
    obtain ⟨e3, hc3, hm⟩ := hm
    refine kV_v (rest := []) (ws' := (w_X1_copyFrom cI aC aC_sz aC_cd aK aK_sz aK_cd K_n e3.1 e3.2 K_n K_sz K_cd)) S (c_X1_copyCitation l D cI cJ cZ cS aC aC_sz aC_cd aK aK_sz aK_cd K_n st10.2.1 st10.2.2 K_n K_sz K_cd st10.1 st10.1 e3 hc3) k3 hK hP hD hS hA 0 rfl rfl rfl rfl hl.1 rfl (Nat.le_of_ble_eq_true rfl) ⟨Nat.zero_le _, Nat.zero_le _⟩ dX1_copyFrom_22 [0, 1, 2, 3, 4, 5] rfl rfl wa_X1_copyCitation (sa_eq [] [] 6 rfl rfl rfl rfl rfl rfl rfl) (fun H locs hP hD hS => ?_)
    refine lv_iinc (v := (st10.1 + 1)) (lv' := [(2, .int (st10.1 + 1)), (0, .ref aC), (1, .ref aK)]) hx hb dX1_copyFrom_25 hl (k := 2) rfl rfl (by decide) rfl (fun ls hl => ?_)
    refine lv_goto (tgt := 10) hx hb dX1_copyFrom_28 (by decide) ?_
    exact hG _ (Option.some.inj hm).symm H locs ls hP hD hS (lv_sub hl [1, 2, 0] rfl)
set_option maxHeartbeats 4000000 in
set_option maxRecDepth 100000 in
theorem c_X1_copyWithout (l : Launch) (D : va_G) (cI cJ cZ cS : ClassId) (aC aC_sz aC_cd : Nat) (C_n : Int32) (C_sz : Nat → Int32) (C_cd : Nat → Int32) (x1 : Int32) (x2 : Int32) (x3 : Int32) (o : (Nat → Int32) × (Nat → Int32)) (hm : m_X1_copyWithout C_sz C_cd x1 x2 x3 = some o) : MV l yX1_copyWithout wsX1_copyWithout rm_X1_copyWithout D (TY cI cJ cZ cS) [.ref aC, .int x1, .int x2, .int x3] (w_X1_copyWithout cI aC aC_sz aC_cd C_n C_sz C_cd) (w_X1_copyWithout cI aC aC_sz aC_cd C_n o.1 o.2) := by
  refine MV_of (cc := cX1_copyWithout) (maxL := 7) (by decide) rfl (Nat.le_of_ble_eq_true rfl) ?_
  intro p e s m args below meth c A Q ls H locs hx hb hml hts hown hK hA hP hD hS hl hret
  have hown : s.vm.findClass RX1 = some m.cls := hown
  have hKv : va_K D vwCl (TY cI cJ cZ cS) s := hK.1
  have hl : lv_has ls 7 [(0, .ref aC), (1, .int x1), (2, .int x2), (3, .int x3)] := hl
  have S : CallFix p m c cX1_copyWithout 7 s args wsX1_copyWithout RX1 := ⟨hx, hb, hml, hown, hts⟩
  have k1 := hts (.fieldLink RX1 15 "CitationFormatter$Citations" "sizes" "[I") (by decide +kernel)
  have k2 : ∀ w ∈ wsX10, w ∈ wsX1_copyWithout := by decide +kernel
  have k3 : CallW rm_X1_copyWithout s args RX1 RX1 30 yX1_add cX1_add 4 none wsX1_add rm_X1_add 0 0 2 := cwV 2 hts gX1_copyWithout_X1_add rfl rfl rfl (by decide +kernel) ⟨Nat.le_of_ble_eq_true rfl, Nat.le_of_ble_eq_true rfl⟩
  have k4 : CallW rm_X1_copyWithout s args RX1 RX1 22 yX1_workAt cX1_workAt 3 (some .int) wsX1_workAt rm_X1_workAt 0 0 2 := cwV 2 hts gX1_copyWithout_X1_workAt rfl rfl rfl (by decide +kernel) ⟨Nat.le_of_ble_eq_true rfl, Nat.le_of_ble_eq_true rfl⟩
  refine lv_aload_n hx hb dX1_copyWithout_0 rfl (lv_at hl 0 rfl) ?_
  refine va_get (D := D) (ci := 1) (v := .ref aC_sz) (C := RX1) (T := TX1) (N := 3) hx hb hts k2 hown hKv hP 0 rfl rfl 1 (by decide) k1 (fun _ h9 => h9) rfl dX1_copyWithout_1 ?_
  refine lv_iload_n hx hb dX1_copyWithout_4 rfl (lv_at hl 2 rfl) ?_
  replace hm := ck_some hm
  obtain ⟨h1, hm⟩ := hm
  refine va_iald hx hb hKv hP 1 0 rfl rfl h1 dX1_copyWithout_5 ?_
  refine lv_istore (lv' := [(4, .int (C_sz (Int32.toNatClampNeg x2))), (0, .ref aC), (1, .int x1), (2, .int x2), (3, .int x3)]) hx hb dX1_copyWithout_6 hl (by decide) rfl (fun ls hl => ?_)
  refine lv_aload_n hx hb dX1_copyWithout_8 rfl (lv_at hl 1 rfl) ?_
  refine va_get (D := D) (ci := 1) (v := .ref aC_sz) (C := RX1) (T := TX1) (N := 3) hx hb hts k2 hown hKv hP 0 rfl rfl 1 (by decide) k1 (fun _ h9 => h9) rfl dX1_copyWithout_9 ?_
  refine lv_iload_n hx hb dX1_copyWithout_12 rfl (lv_at hl 4 rfl) ?_
  refine lv_iconst (v := 0) hx hb dX1_copyWithout_13 (by decide) ?_
  replace hm := ck_some hm
  obtain ⟨h2, hm⟩ := hm
  refine va_iast hx hb hKv hP hD hS 1 0 rfl rfl h2 dX1_copyWithout_14 (fun H locs hP hD hS => ?_)
  replace hP : va_P D vwCl (w_X1_copyWithout cI aC aC_sz aC_cd C_n (upd C_sz (Int32.toNatClampNeg x3) 0) C_cd) H := hP
  replace hD : va_D A (w_X1_copyWithout cI aC aC_sz aC_cd C_n (upd C_sz (Int32.toNatClampNeg x3) 0) C_cd) := hD
  refine lv_iconst (v := 0) hx hb dX1_copyWithout_15 (by decide) ?_
  refine lv_istore (lv' := [(5, .int 0), (4, .int (C_sz (Int32.toNatClampNeg x2))), (0, .ref aC), (1, .int x1), (2, .int x2), (3, .int x3)]) hx hb dX1_copyWithout_16 hl (by decide) rfl (fun ls hl => ?_)
  replace hm := bd_some hm
  obtain ⟨e3, hc3, hm⟩ := hm
  have X3_0 : ∀ (H : Heap) (locs : List Loc) (ls : Array Slot), va_P D vwCl (w_X1_copyWithout cI aC aC_sz aC_cd C_n e3.1 e3.2) H → va_D A (w_X1_copyWithout cI aC aC_sz aC_cd C_n e3.1 e3.2) → va_S A s.heap H locs → lv_has ls 7 [(0, .ref aC)] → W p l e rm_X1_copyWithout s m args below meth c H locs 0 0 Q (F0 m 66 ls []) := by
    intro H locs ls hP hD hS hl
    have h9 := Option.some.inj hm
    subst h9
    exact hret H locs _ ls hP hD hS dX1_copyWithout_66
  refine it_W (G := fun (st18 : Int32 × (Nat → Int32) × (Nat → Int32)) => ∀ (H : Heap) (locs : List Loc) (ls : Array Slot), va_P D vwCl (w_X1_copyWithout cI aC aC_sz aC_cd C_n st18.2.1 st18.2.2) H → va_D A (w_X1_copyWithout cI aC aC_sz aC_cd C_n st18.2.1 st18.2.2) → va_S A s.heap H locs → lv_has ls 7 [(0, .ref aC), (1, .int x1), (2, .int x2), (3, .int x3), (4, .int (C_sz (Int32.toNatClampNeg x2))), (5, .int st18.1)] → W p l e rm_X1_copyWithout s m args below meth c H locs 0 0 Q (F0 m 18 ls [])) (e := e3) (fun st18 x hm hG hE => ?_) fu _ hc3 H locs ls hP hD hS (lv_sub hl [2, 3, 4, 5, 1, 0] rfl)
  intro H locs ls hP hD hS hl
  have J60 : ∀ (x5_j60 : Int32) (C_sz_j60 : Nat → Int32) (C_cd_j60 : Nat → Int32), (m_X1_copyWithout_J60 x1 x2 x3 (C_sz (Int32.toNatClampNeg x2)) x5_j60 C_sz_j60 C_cd_j60 = some x) → ∀ (H : Heap) (locs : List Loc) (ls : Array Slot), va_P D vwCl (w_X1_copyWithout cI aC aC_sz aC_cd C_n C_sz_j60 C_cd_j60) H → va_D A (w_X1_copyWithout cI aC aC_sz aC_cd C_n C_sz_j60 C_cd_j60) → va_S A s.heap H locs → lv_has ls 7 [(0, .ref aC), (1, .int x1), (2, .int x2), (3, .int x3), (4, .int (C_sz (Int32.toNatClampNeg x2))), (5, .int x5_j60)] → W p l e rm_X1_copyWithout s m args below meth c H locs 0 0 Q (F0 m 60 ls []) := by
    intro x5_j60 C_sz_j60 C_cd_j60 hm H locs ls hP hD hS hl
    refine lv_iinc (v := (x5_j60 + 1)) (lv' := [(5, .int (x5_j60 + 1)), (0, .ref aC), (1, .int x1), (2, .int x2), (3, .int x3), (4, .int (C_sz (Int32.toNatClampNeg x2)))]) hx hb dX1_copyWithout_60 hl (k := 5) rfl rfl (by decide) rfl (fun ls hl => ?_)
    refine lv_goto (tgt := 18) hx hb dX1_copyWithout_63 (by decide) ?_
    exact hG _ (Option.some.inj hm).symm H locs ls hP hD hS (lv_sub hl [1, 2, 3, 4, 5, 0] rfl)
  have J57 : ∀ (x5_j57 : Int32) (y0_j57 : Int32) (y1_j57 : Int32) (C_sz_j57 : Nat → Int32) (C_cd_j57 : Nat → Int32), (m_X1_copyWithout_J57 x1 x2 x3 (C_sz (Int32.toNatClampNeg x2)) x5_j57 y0_j57 y1_j57 C_sz_j57 C_cd_j57 = some x) → ∀ (H : Heap) (locs : List Loc) (ls : Array Slot), va_P D vwCl (w_X1_copyWithout cI aC aC_sz aC_cd C_n C_sz_j57 C_cd_j57) H → va_D A (w_X1_copyWithout cI aC aC_sz aC_cd C_n C_sz_j57 C_cd_j57) → va_S A s.heap H locs → lv_has ls 7 [(0, .ref aC), (1, .int x1), (2, .int x2), (3, .int x3), (4, .int (C_sz (Int32.toNatClampNeg x2))), (5, .int x5_j57)] → W p l e rm_X1_copyWithout s m args below meth c H locs 0 0 Q (F0 m 57 ls [.int y0_j57, .int y1_j57, .ref aC]) := by
    intro x5_j57 y0_j57 y1_j57 C_sz_j57 C_cd_j57 hm H locs ls hP hD hS hl
    replace hm := bd_some hm
    obtain ⟨e4, hc4, hm⟩ := hm
    refine kV_v (rest := []) (ws' := (w_X1_copyWithout cI aC aC_sz aC_cd C_n e4.1 e4.2)) S (c_X1_add l D cI cJ cZ cS aC aC_sz aC_cd C_n C_sz_j57 C_cd_j57 y1_j57 y0_j57 e4 hc4) k3 hK hP hD hS hA 0 rfl rfl rfl rfl hl.1 rfl (Nat.le_of_ble_eq_true rfl) ⟨Nat.zero_le _, Nat.zero_le _⟩ dX1_copyWithout_57 [0, 1, 2] rfl rfl wa_X1_add (sa_eq [] [] 3 rfl rfl rfl rfl rfl rfl rfl) (fun H locs hP hD hS => ?_)
    exact J60 x5_j57 e4.1 e4.2 hm H locs ls hP hD hS (lv_sub hl [0, 1, 2, 3, 4, 5] rfl)
  refine lv_iload hx hb dX1_copyWithout_18 (lv_at hl 5 rfl) ?_
  refine lv_iload hx hb dX1_copyWithout_20 (lv_at hl 4 rfl) ?_
  refine lv_icmp_ge (tgt := 66) hx hb dX1_copyWithout_22 (by decide) (fun c5 => ?_) (fun c5 => ?_)
  · replace hm := if_t c5 hm
    have h9 := hE _ (Option.some.inj hm).symm
    subst h9
    exact X3_0 H locs ls hP hD hS (lv_sub hl [0] rfl)
  · replace hm := if_f c5 hm
    refine lv_aload_n hx hb dX1_copyWithout_25 rfl (lv_at hl 0 rfl) ?_
    refine lv_iload_n hx hb dX1_copyWithout_26 rfl (lv_at hl 2 rfl) ?_
    refine lv_iload hx hb dX1_copyWithout_27 (lv_at hl 5 rfl) ?_
    replace hm := bd_some hm
    obtain ⟨e6, hc6, hm⟩ := hm
    refine kV_i (rest := []) (ws' := (w_X1_copyWithout cI aC aC_sz aC_cd C_n st18.2.1 st18.2.2)) S (c_X1_workAt l D cI cJ cZ cS aC aC_sz aC_cd C_n st18.2.2 x2 st18.1 e6 hc6) k4 hK hP hD hS hA 0 rfl rfl rfl rfl hl.1 rfl (Nat.le_of_ble_eq_true rfl) ⟨Nat.zero_le _, Nat.zero_le _⟩ dX1_copyWithout_29 [0, 2] rfl rfl wa_X1_workAt (sa_eq [(aC_sz, .inl (cI, 10, .inl st18.2.1))] [1] 3 rfl rfl rfl rfl rfl rfl rfl) (fun H locs hP hD hS => ?_)
    refine lv_istore (lv' := [(6, .int e6), (0, .ref aC), (1, .int x1), (2, .int x2), (3, .int x3), (4, .int (C_sz (Int32.toNatClampNeg x2))), (5, .int st18.1)]) hx hb dX1_copyWithout_32 hl (by decide) rfl (fun ls hl => ?_)
    refine lv_iload hx hb dX1_copyWithout_34 (lv_at hl 0 rfl) ?_
    refine lv_iload_n hx hb dX1_copyWithout_36 rfl (lv_at hl 2 rfl) ?_
    refine lv_icmp_eq (tgt := 60) hx hb dX1_copyWithout_37 (by decide) (fun c7 => ?_) (fun c7 => ?_)
    · replace hm := if_t c7 hm
      exact J60 st18.1 st18.2.1 st18.2.2 hm H locs ls hP hD hS (lv_sub hl [1, 2, 3, 4, 5, 6] rfl)
    · replace hm := if_f c7 hm
      refine lv_aload_n hx hb dX1_copyWithout_40 rfl (lv_at hl 1 rfl) ?_
      refine lv_iload_n hx hb dX1_copyWithout_41 rfl (lv_at hl 4 rfl) ?_
      refine lv_iload hx hb dX1_copyWithout_42 (lv_at hl 0 rfl) ?_
      refine lv_iload_n hx hb dX1_copyWithout_44 rfl (lv_at hl 2 rfl) ?_
      refine lv_icmp_le (tgt := 55) hx hb dX1_copyWithout_45 (by decide) (fun c8 => ?_) (fun c8 => ?_)
      · replace hm := if_t c8 hm
        refine lv_iload hx hb dX1_copyWithout_55 (lv_at hl 0 rfl) ?_
        exact J57 st18.1 e6 x3 st18.2.1 st18.2.2 hm H locs ls hP hD hS (lv_sub hl [1, 2, 3, 4, 5, 6] rfl)
      · replace hm := if_f c8 hm
        refine lv_iload hx hb dX1_copyWithout_48 (lv_at hl 0 rfl) ?_
        refine lv_iconst (v := 1) hx hb dX1_copyWithout_50 (by decide) ?_
        refine lv_isub hx hb dX1_copyWithout_51 ?_
        refine lv_goto (tgt := 57) hx hb dX1_copyWithout_52 (by decide) ?_
        exact J57 st18.1 (e6 - 1) x3 st18.2.1 st18.2.2 hm H locs ls hP hD hS (lv_sub hl [1, 2, 3, 4, 5, 6] rfl)
set_option maxHeartbeats 4000000 in
set_option maxRecDepth 100000 in
theorem c_X1_dropWork (l : Launch) (D : va_G) (cI cJ cZ cS : ClassId) (aC aC_sz aC_cd : Nat) (C_n : Int32) (C_sz : Nat → Int32) (C_cd : Nat → Int32) (x1 : Int32) (o : Int32 × (Nat → Int32) × (Nat → Int32)) (hm : m_X1_dropWork C_n C_sz C_cd x1 = some o) : MV l yX1_dropWork wsX1_dropWork rm_X1_dropWork D (TY cI cJ cZ cS) [.ref aC, .int x1] (w_X1_dropWork cI aC aC_sz aC_cd C_n C_sz C_cd) (w_X1_dropWork cI aC aC_sz aC_cd o.1 o.2.1 o.2.2) := by
  refine MV_of (cc := cX1_dropWork) (maxL := 4) (by decide) rfl (Nat.le_of_ble_eq_true rfl) ?_
  intro p e s m args below meth c A Q ls H locs hx hb hml hts hown hK hA hP hD hS hl hret
  have hown : s.vm.findClass RX1 = some m.cls := hown
  have hKv : va_K D vwCl (TY cI cJ cZ cS) s := hK.1
  have hl : lv_has ls 4 [(0, .ref aC), (1, .int x1)] := hl
  have S : CallFix p m c cX1_dropWork 4 s args wsX1_dropWork RX1 := ⟨hx, hb, hml, hown, hts⟩
  have k1 := hts (.fieldLink RX1 9 "CitationFormatter$Citations" "count" "I") (by decide +kernel)
  have k2 : ∀ w ∈ wsX10, w ∈ wsX1_dropWork := by decide +kernel
  have k3 : CallW rm_X1_dropWork s args RX1 RX1 38 yX1_copyWithout cX1_copyWithout 7 none wsX1_copyWithout rm_X1_copyWithout 0 0 3 := cwV 3 hts gX1_dropWork_X1_copyWithout rfl rfl rfl (by decide +kernel) ⟨Nat.le_of_ble_eq_true rfl, Nat.le_of_ble_eq_true rfl⟩
  have k4 := hts (.fieldLink RX1 15 "CitationFormatter$Citations" "sizes" "[I") (by decide +kernel)
  refine lv_iconst (v := 0) hx hb dX1_dropWork_0 (by decide) ?_
  refine lv_istore_n (lv' := [(2, .int 0), (0, .ref aC), (1, .int x1)]) hx hb dX1_dropWork_1 rfl hl (by decide) rfl (fun ls hl => ?_)
  refine lv_iconst (v := 0) hx hb dX1_dropWork_2 (by decide) ?_
  refine lv_istore_n (lv' := [(3, .int 0), (2, .int 0), (0, .ref aC), (1, .int x1)]) hx hb dX1_dropWork_3 rfl hl (by decide) rfl (fun ls hl => ?_)
  replace hm := bd_some hm
  obtain ⟨e1, hc1, hm⟩ := hm
  have X1_0 : ∀ (H : Heap) (locs : List Loc) (ls : Array Slot), va_P D vwCl (w_X1_dropWork cI aC aC_sz aC_cd C_n e1.2.1 e1.2.2) H → va_D A (w_X1_dropWork cI aC aC_sz aC_cd C_n e1.2.1 e1.2.2) → va_S A s.heap H locs → lv_has ls 4 [(0, .ref aC), (2, .int e1.1)] → W p l e rm_X1_dropWork s m args below meth c H locs 0 0 Q (F0 m 37 ls []) := by
    intro H locs ls hP hD hS hl
    refine lv_aload_n hx hb dX1_dropWork_37 rfl (lv_at hl 0 rfl) ?_
    refine lv_iload_n hx hb dX1_dropWork_38 rfl (lv_at hl 1 rfl) ?_
    refine va_put (D := D) (ci := 1) (v := .int e1.1) (ty := .int) (C := RX1) (T := TX1) (N := 3) hx hb hts k2 tyX1 tyX1_ok nmX1 hown hKv hP hD hS 0 rfl rfl 0 (by decide) k1 (fun _ h9 => h9) rfl (by decide +kernel) rfl rfl (Nat.le_of_ble_eq_true rfl) dX1_dropWork_39 (fun H locs hP hD hS => ?_)
    replace hP : va_P D vwCl (w_X1_dropWork cI aC aC_sz aC_cd e1.1 e1.2.1 e1.2.2) H := hP
    replace hD : va_D A (w_X1_dropWork cI aC aC_sz aC_cd e1.1 e1.2.1 e1.2.2) := hD
    have h9 := Option.some.inj hm
    subst h9
    exact hret H locs _ ls hP hD hS dX1_dropWork_42
  refine it_W (G := fun (st4 : Int32 × Int32 × (Nat → Int32) × (Nat → Int32)) => ∀ (H : Heap) (locs : List Loc) (ls : Array Slot), va_P D vwCl (w_X1_dropWork cI aC aC_sz aC_cd C_n st4.2.2.1 st4.2.2.2) H → va_D A (w_X1_dropWork cI aC aC_sz aC_cd C_n st4.2.2.1 st4.2.2.2) → va_S A s.heap H locs → lv_has ls 4 [(0, .ref aC), (1, .int x1), (2, .int st4.1), (3, .int st4.2.1)] → W p l e rm_X1_dropWork s m args below meth c H locs 0 0 Q (F0 m 4 ls [])) (e := e1) (fun st4 x hm hG hE => ?_) fu _ hc1 H locs ls hP hD hS (lv_sub hl [2, 3, 1, 0] rfl)
  intro H locs ls hP hD hS hl
  have J31 : ∀ (x2_j31 : Int32) (x3_j31 : Int32) (C_sz_j31 : Nat → Int32) (C_cd_j31 : Nat → Int32), (m_X1_dropWork_J31 x1 x2_j31 x3_j31 C_sz_j31 C_cd_j31 = some x) → ∀ (H : Heap) (locs : List Loc) (ls : Array Slot), va_P D vwCl (w_X1_dropWork cI aC aC_sz aC_cd C_n C_sz_j31 C_cd_j31) H → va_D A (w_X1_dropWork cI aC aC_sz aC_cd C_n C_sz_j31 C_cd_j31) → va_S A s.heap H locs → lv_has ls 4 [(0, .ref aC), (1, .int x1), (2, .int x2_j31), (3, .int x3_j31)] → W p l e rm_X1_dropWork s m args below meth c H locs 0 0 Q (F0 m 31 ls []) := by
    intro x2_j31 x3_j31 C_sz_j31 C_cd_j31 hm H locs ls hP hD hS hl
    refine lv_iinc (v := (x3_j31 + 1)) (lv' := [(3, .int (x3_j31 + 1)), (0, .ref aC), (1, .int x1), (2, .int x2_j31)]) hx hb dX1_dropWork_31 hl (k := 3) rfl rfl (by decide) rfl (fun ls hl => ?_)
    refine lv_goto (tgt := 4) hx hb dX1_dropWork_34 (by decide) ?_
    exact hG _ (Option.some.inj hm).symm H locs ls hP hD hS (lv_sub hl [1, 2, 3, 0] rfl)
  refine lv_iload_n hx hb dX1_dropWork_4 rfl (lv_at hl 3 rfl) ?_
  refine lv_aload_n hx hb dX1_dropWork_5 rfl (lv_at hl 0 rfl) ?_
  refine va_get (D := D) (ci := 1) (v := .int C_n) (C := RX1) (T := TX1) (N := 3) hx hb hts k2 hown hKv hP 0 rfl rfl 0 (by decide) k1 (fun _ h9 => h9) rfl dX1_dropWork_6 ?_
  refine lv_icmp_ge (tgt := 37) hx hb dX1_dropWork_9 (by decide) (fun c2 => ?_) (fun c2 => ?_)
  · replace hm := if_t c2 hm
    have h9 := hE _ (Option.some.inj hm).symm
    subst h9
    exact X1_0 H locs ls hP hD hS (lv_sub hl [0, 2] rfl)
  · replace hm := if_f c2 hm
    refine lv_aload_n hx hb dX1_dropWork_12 rfl (lv_at hl 0 rfl) ?_
    refine lv_iload_n hx hb dX1_dropWork_13 rfl (lv_at hl 1 rfl) ?_
    refine lv_iload_n hx hb dX1_dropWork_14 rfl (lv_at hl 3 rfl) ?_
    refine lv_iload_n hx hb dX1_dropWork_15 rfl (lv_at hl 2 rfl) ?_
    replace hm := bd_some hm
    obtain ⟨e3, hc3, hm⟩ := hm
    refine kV_v (rest := []) (ws' := (w_X1_dropWork cI aC aC_sz aC_cd C_n e3.1 e3.2)) S (c_X1_copyWithout l D cI cJ cZ cS aC aC_sz aC_cd C_n st4.2.2.1 st4.2.2.2 x1 st4.2.1 st4.1 e3 hc3) k3 hK hP hD hS hA 0 rfl rfl rfl rfl hl.1 rfl (Nat.le_of_ble_eq_true rfl) ⟨Nat.zero_le _, Nat.zero_le _⟩ dX1_dropWork_16 [0, 1, 2] rfl rfl wa_X1_copyWithout (sa_eq [] [] 3 rfl rfl rfl rfl rfl rfl rfl) (fun H locs hP hD hS => ?_)
    refine lv_aload_n hx hb dX1_dropWork_19 rfl (lv_at hl 0 rfl) ?_
    refine va_get (D := D) (ci := 1) (v := .ref aC_sz) (C := RX1) (T := TX1) (N := 3) hx hb hts k2 hown hKv hP 0 rfl rfl 1 (by decide) k4 (fun _ h9 => h9) rfl dX1_dropWork_20 ?_
    refine lv_iload_n hx hb dX1_dropWork_23 rfl (lv_at hl 2 rfl) ?_
    replace hm := ck_some hm
    obtain ⟨h4, hm⟩ := hm
    refine va_iald hx hb hKv hP 1 0 rfl rfl h4 dX1_dropWork_24 ?_
    refine lv_if_le (tgt := 31) hx hb dX1_dropWork_25 (by decide) (fun c5 => ?_) (fun c5 => ?_)
    · replace hm := if_t c5 hm
      exact J31 st4.1 st4.2.1 e3.1 e3.2 hm H locs ls hP hD hS (lv_sub hl [0, 1, 2, 3] rfl)
    · replace hm := if_f c5 hm
      refine lv_iinc (v := (st4.1 + 1)) (lv' := [(2, .int (st4.1 + 1)), (0, .ref aC), (1, .int x1), (3, .int st4.2.1)]) hx hb dX1_dropWork_28 hl (k := 2) rfl rfl (by decide) rfl (fun ls hl => ?_)
      exact J31 (st4.1 + 1) st4.2.1 e3.1 e3.2 hm H locs ls hP hD hS (lv_sub hl [1, 2, 0, 3] rfl)
set_option maxHeartbeats 4000000 in
set_option maxRecDepth 100000 in
theorem c_X1_earliestCiting (l : Launch) (D : va_G) (cI cJ cZ cS : ClassId) (aC aC_sz aC_cd : Nat) (C_n : Int32) (C_sz : Nat → Int32) (C_cd : Nat → Int32) (x1 : Int32) (o : Int32) (hm : m_X1_earliestCiting C_n C_sz C_cd x1 = some o) : MI l yX1_earliestCiting wsX1_earliestCiting rm_X1_earliestCiting D (TY cI cJ cZ cS) [.ref aC, .int x1] (w_X1_earliestCiting cI aC aC_sz aC_cd C_n C_sz C_cd) (w_X1_earliestCiting cI aC aC_sz aC_cd C_n C_sz C_cd) (o) := by
  refine MI_of (cc := cX1_earliestCiting) (maxL := 3) (by decide) rfl (Nat.le_of_ble_eq_true rfl) ?_
  intro p e s m args below meth c A Q ls H locs hx hb hml hts hown hK hA hP hD hS hl hret
  have hown : s.vm.findClass RX1 = some m.cls := hown
  have hKv : va_K D vwCl (TY cI cJ cZ cS) s := hK.1
  have hl : lv_has ls 3 [(0, .ref aC), (1, .int x1)] := hl
  have S : CallFix p m c cX1_earliestCiting 3 s args wsX1_earliestCiting RX1 := ⟨hx, hb, hml, hown, hts⟩
  have k1 := hts (.fieldLink RX1 9 "CitationFormatter$Citations" "count" "I") (by decide +kernel)
  have k2 : ∀ w ∈ wsX10, w ∈ wsX1_earliestCiting := by decide +kernel
  have k3 : CallW rm_X1_earliestCiting s args RX1 RX1 26 yX1_cites cX1_cites 4 (some .boolean) wsX1_cites rm_X1_cites 0 0 2 := cwV 2 hts gX1_earliestCiting_X1_cites rfl rfl rfl (by decide +kernel) ⟨Nat.le_of_ble_eq_true rfl, Nat.le_of_ble_eq_true rfl⟩
  refine lv_iconst (v := 0) hx hb dX1_earliestCiting_0 (by decide) ?_
  refine lv_istore_n (lv' := [(2, .int 0), (0, .ref aC), (1, .int x1)]) hx hb dX1_earliestCiting_1 rfl hl (by decide) rfl (fun ls hl => ?_)
  replace hm := bd_some hm
  obtain ⟨e1, hc1, hm⟩ := hm
  have X1_0 : ∀ (H : Heap) (locs : List Loc) (ls : Array Slot), va_P D vwCl (w_X1_earliestCiting cI aC aC_sz aC_cd C_n C_sz C_cd) H → va_D A (w_X1_earliestCiting cI aC aC_sz aC_cd C_n C_sz C_cd) → va_S A s.heap H locs → lv_has ls 3 [(0, .ref aC), (2, .int e1)] → W p l e rm_X1_earliestCiting s m args below meth c H locs 0 0 Q (F0 m 25 ls []) := by
    intro H locs ls hP hD hS hl
    refine lv_iload_n hx hb dX1_earliestCiting_25 rfl (lv_at hl 1 rfl) ?_
    have h9 := Option.some.inj hm
    subst h9
    exact hret H locs _ ls _ hP hD hS rfl dX1_earliestCiting_26
  refine it_W (G := fun (st2 : Int32) => ∀ (H : Heap) (locs : List Loc) (ls : Array Slot), va_P D vwCl (w_X1_earliestCiting cI aC aC_sz aC_cd C_n C_sz C_cd) H → va_D A (w_X1_earliestCiting cI aC aC_sz aC_cd C_n C_sz C_cd) → va_S A s.heap H locs → lv_has ls 3 [(0, .ref aC), (1, .int x1), (2, .int st2)] → W p l e rm_X1_earliestCiting s m args below meth c H locs 0 0 Q (F0 m 2 ls [])) (e := e1) (fun st2 x hm hG hE => ?_) fu _ hc1 H locs ls hP hD hS (lv_sub hl [1, 2, 0] rfl)
  intro H locs ls hP hD hS hl
  refine lv_iload_n hx hb dX1_earliestCiting_2 rfl (lv_at hl 2 rfl) ?_
  refine lv_aload_n hx hb dX1_earliestCiting_3 rfl (lv_at hl 0 rfl) ?_
  refine va_get (D := D) (ci := 1) (v := .int C_n) (C := RX1) (T := TX1) (N := 3) hx hb hts k2 hown hKv hP 0 rfl rfl 0 (by decide) k1 (fun _ h9 => h9) rfl dX1_earliestCiting_4 ?_
  refine lv_icmp_ge (tgt := 25) hx hb dX1_earliestCiting_7 (by decide) (fun c2 => ?_) (fun c2 => ?_)
  · replace hm := if_t c2 hm
    have h9 := hE _ (Option.some.inj hm).symm
    subst h9
    exact X1_0 H locs ls hP hD hS (lv_sub hl [0, 2] rfl)
  · replace hm := if_f c2 hm
    refine lv_aload_n hx hb dX1_earliestCiting_10 rfl (lv_at hl 0 rfl) ?_
    refine lv_iload_n hx hb dX1_earliestCiting_11 rfl (lv_at hl 2 rfl) ?_
    refine lv_iload_n hx hb dX1_earliestCiting_12 rfl (lv_at hl 1 rfl) ?_
    replace hm := bd_some hm
    obtain ⟨e3, hc3, hm⟩ := hm
    refine kV_i (rest := []) (ws' := (w_X1_earliestCiting cI aC aC_sz aC_cd C_n C_sz C_cd)) S (c_X1_cites l D cI cJ cZ cS aC aC_sz aC_cd C_n C_sz C_cd st2 x1 e3 hc3) k3 hK hP hD hS hA 0 rfl rfl rfl rfl hl.1 rfl (Nat.le_of_ble_eq_true rfl) ⟨Nat.zero_le _, Nat.zero_le _⟩ dX1_earliestCiting_13 [0, 1, 2] rfl rfl wa_X1_cites (sa_eq [] [] 3 rfl rfl rfl rfl rfl rfl rfl) (fun H locs hP hD hS => ?_)
    refine lv_if_ne (tgt := 25) hx hb dX1_earliestCiting_16 (by decide) (fun c4 => ?_) (fun c4 => ?_)
    · replace hm := if_f c4 hm
      have h9 := hE _ (Option.some.inj hm).symm
      subst h9
      exact X1_0 H locs ls hP hD hS (lv_sub hl [0, 2] rfl)
    · replace hm := if_t c4 hm
      refine lv_iinc (v := (st2 + 1)) (lv' := [(2, .int (st2 + 1)), (0, .ref aC), (1, .int x1)]) hx hb dX1_earliestCiting_19 hl (k := 2) rfl rfl (by decide) rfl (fun ls hl => ?_)
      refine lv_goto (tgt := 2) hx hb dX1_earliestCiting_22 (by decide) ?_
      exact hG _ (Option.some.inj hm).symm H locs ls hP hD hS (lv_sub hl [1, 2, 0] rfl)
set_option maxHeartbeats 4000000 in
set_option maxRecDepth 100000 in
theorem c_X1_has (l : Launch) (D : va_G) (cI cJ cZ cS : ClassId) (aC aC_sz aC_cd : Nat) (C_n : Int32) (x1 : Int32) (o : Int32) (hm : m_X1_has C_n x1 = some o) : MI l yX1_has wsX1_has rm_X1_has D (TY cI cJ cZ cS) [.ref aC, .int x1] (w_X1_has aC aC_sz aC_cd C_n) (w_X1_has aC aC_sz aC_cd C_n) (o) := by
  refine MZ_of (cc := cX1_has) (maxL := 2) (by decide) rfl (Nat.le_of_ble_eq_true rfl) ?_
  intro p e s m args below meth c A Q ls H locs hx hb hml hts hown hK hA hP hD hS hl hret
  have hown : s.vm.findClass RX1 = some m.cls := hown
  have hKv : va_K D vwCl (TY cI cJ cZ cS) s := hK.1
  have hl : lv_has ls 2 [(0, .ref aC), (1, .int x1)] := hl
  have S : CallFix p m c cX1_has 2 s args wsX1_has RX1 := ⟨hx, hb, hml, hown, hts⟩
  have k1 := hts (.fieldLink RX1 9 "CitationFormatter$Citations" "count" "I") (by decide +kernel)
  have k2 : ∀ w ∈ wsX10, w ∈ wsX1_has := by decide +kernel
  have J17 : ∀ (y0_j17 : Int32), (m_X1_has_J17 y0_j17 = some o) → ∀ (H : Heap) (locs : List Loc) (ls : Array Slot), va_P D vwCl (w_X1_has aC aC_sz aC_cd C_n) H → va_D A (w_X1_has aC aC_sz aC_cd C_n) → va_S A s.heap H locs → lv_has ls 2 [(0, .ref aC)] → W p l e rm_X1_has s m args below meth c H locs 0 0 Q (F0 m 17 ls [.int y0_j17]) := by
    intro y0_j17 hm H locs ls hP hD hS hl
    replace hm := ckb_some hm
    obtain ⟨h1, hm⟩ := hm
    have h9 := Option.some.inj hm
    subst h9
    exact hret H locs _ ls _ h1 hP hD hS rfl dX1_has_17
  have J16 : (m_X1_has_J16 = some o) → ∀ (H : Heap) (locs : List Loc) (ls : Array Slot), va_P D vwCl (w_X1_has aC aC_sz aC_cd C_n) H → va_D A (w_X1_has aC aC_sz aC_cd C_n) → va_S A s.heap H locs → lv_has ls 2 [(0, .ref aC)] → W p l e rm_X1_has s m args below meth c H locs 0 0 Q (F0 m 16 ls []) := by
    intro  hm H locs ls hP hD hS hl
    refine lv_iconst (v := 0) hx hb dX1_has_16 (by decide) ?_
    exact J17 0 hm H locs ls hP hD hS (lv_sub hl [0] rfl)
  refine lv_iload_n hx hb dX1_has_0 rfl (lv_at hl 1 rfl) ?_
  refine lv_if_lt (tgt := 16) hx hb dX1_has_1 (by decide) (fun c2 => ?_) (fun c2 => ?_)
  · replace hm := if_t c2 hm
    exact J16  hm H locs ls hP hD hS (lv_sub hl [0] rfl)
  · replace hm := if_f c2 hm
    refine lv_iload_n hx hb dX1_has_4 rfl (lv_at hl 1 rfl) ?_
    refine lv_aload_n hx hb dX1_has_5 rfl (lv_at hl 0 rfl) ?_
    refine va_get (D := D) (ci := 1) (v := .int C_n) (C := RX1) (T := TX1) (N := 3) hx hb hts k2 hown hKv hP 0 rfl rfl 0 (by decide) k1 (fun _ h9 => h9) rfl dX1_has_6 ?_
    refine lv_icmp_ge (tgt := 16) hx hb dX1_has_9 (by decide) (fun c3 => ?_) (fun c3 => ?_)
    · replace hm := if_t c3 hm
      exact J16  hm H locs ls hP hD hS (lv_sub hl [0] rfl)
    · replace hm := if_f c3 hm
      refine lv_iconst (v := 1) hx hb dX1_has_12 (by decide) ?_
      refine lv_goto (tgt := 17) hx hb dX1_has_13 (by decide) ?_
      exact J17 1 hm H locs ls hP hD hS (lv_sub hl [0] rfl)
set_option maxHeartbeats 4000000 in
set_option maxRecDepth 100000 in
theorem c_X1_copyCitation_self (l : Launch) (D : va_G) (cI cJ cZ cS : ClassId) (aC aC_sz aC_cd : Nat) (C_n : Int32) (C_sz : Nat → Int32) (C_cd : Nat → Int32) (x2 : Int32) (x3 : Int32) (o : (Nat → Int32) × (Nat → Int32)) (hm : m_X1_copyCitation_self C_sz C_cd x2 x3 = some o) : MV l yX1_copyCitation wsX1_copyCitation rm_X1_copyCitation_self D (TY cI cJ cZ cS) [.ref aC, .ref aC, .int x2, .int x3] (w_X1_copyCitation_self cI aC aC_sz aC_cd C_n C_sz C_cd) (w_X1_copyCitation_self cI aC aC_sz aC_cd C_n o.1 o.2) := by
  refine MV_of (cc := cX1_copyCitation) (maxL := 5) (by decide) rfl (Nat.le_of_ble_eq_true rfl) ?_
  intro p e s m args below meth c A Q ls H locs hx hb hml hts hown hK hA hP hD hS hl hret
  have hown : s.vm.findClass RX1 = some m.cls := hown
  have hKv : va_K D vwCl (TY cI cJ cZ cS) s := hK.1
  have hl : lv_has ls 5 [(0, .ref aC), (1, .ref aC), (2, .int x2), (3, .int x3)] := hl
  have S : CallFix p m c cX1_copyCitation 5 s args wsX1_copyCitation RX1 := ⟨hx, hb, hml, hown, hts⟩
  have k1 := hts (.fieldLink RX1 15 "CitationFormatter$Citations" "sizes" "[I") (by decide +kernel)
  have k2 : ∀ w ∈ wsX10, w ∈ wsX1_copyCitation := by decide +kernel
  have k3 := hts (.fieldLink RX1 19 "CitationFormatter$Citations" "cited" "[I") (by decide +kernel)
  refine lv_aload_n hx hb dX1_copyCitation_0 rfl (lv_at hl 0 rfl) ?_
  refine va_get (D := D) (ci := 1) (v := .ref aC_sz) (C := RX1) (T := TX1) (N := 3) hx hb hts k2 hown hKv hP 0 rfl rfl 1 (by decide) k1 (fun _ h9 => h9) rfl dX1_copyCitation_1 ?_
  refine lv_iload_n hx hb dX1_copyCitation_4 rfl (lv_at hl 3 rfl) ?_
  refine lv_aload_n hx hb dX1_copyCitation_5 rfl (lv_at hl 1 rfl) ?_
  refine va_get (D := D) (ci := 1) (v := .ref aC_sz) (C := RX1) (T := TX1) (N := 3) hx hb hts k2 hown hKv hP 0 rfl rfl 1 (by decide) k1 (fun _ h9 => h9) rfl dX1_copyCitation_6 ?_
  refine lv_iload_n hx hb dX1_copyCitation_9 rfl (lv_at hl 2 rfl) ?_
  replace hm := ck_some hm
  obtain ⟨h1, hm⟩ := hm
  refine va_iald hx hb hKv hP 1 0 rfl rfl h1 dX1_copyCitation_10 ?_
  replace hm := ck_some hm
  obtain ⟨h2, hm⟩ := hm
  refine va_iast hx hb hKv hP hD hS 1 0 rfl rfl h2 dX1_copyCitation_11 (fun H locs hP hD hS => ?_)
  replace hP : va_P D vwCl (w_X1_copyCitation_self cI aC aC_sz aC_cd C_n (upd C_sz (Int32.toNatClampNeg x3) (C_sz (Int32.toNatClampNeg x2))) C_cd) H := hP
  replace hD : va_D A (w_X1_copyCitation_self cI aC aC_sz aC_cd C_n (upd C_sz (Int32.toNatClampNeg x3) (C_sz (Int32.toNatClampNeg x2))) C_cd) := hD
  refine lv_iconst (v := 0) hx hb dX1_copyCitation_12 (by decide) ?_
  refine lv_istore (lv' := [(4, .int 0), (0, .ref aC), (1, .ref aC), (2, .int x2), (3, .int x3)]) hx hb dX1_copyCitation_13 hl (by decide) rfl (fun ls hl => ?_)
  replace hm := bd_some hm
  obtain ⟨e3, hc3, hm⟩ := hm
  have X3_0 : ∀ (H : Heap) (locs : List Loc) (ls : Array Slot), va_P D vwCl (w_X1_copyCitation_self cI aC aC_sz aC_cd C_n (upd C_sz (Int32.toNatClampNeg x3) (C_sz (Int32.toNatClampNeg x2))) e3) H → va_D A (w_X1_copyCitation_self cI aC aC_sz aC_cd C_n (upd C_sz (Int32.toNatClampNeg x3) (C_sz (Int32.toNatClampNeg x2))) e3) → va_S A s.heap H locs → lv_has ls 5 [(0, .ref aC)] → W p l e rm_X1_copyCitation_self s m args below meth c H locs 0 0 Q (F0 m 49 ls []) := by
    intro H locs ls hP hD hS hl
    have h9 := Option.some.inj hm
    subst h9
    exact hret H locs _ ls hP hD hS dX1_copyCitation_49
  refine it_W (G := fun (st15 : Int32 × (Nat → Int32)) => ∀ (H : Heap) (locs : List Loc) (ls : Array Slot), va_P D vwCl (w_X1_copyCitation_self cI aC aC_sz aC_cd C_n (upd C_sz (Int32.toNatClampNeg x3) (C_sz (Int32.toNatClampNeg x2))) st15.2) H → va_D A (w_X1_copyCitation_self cI aC aC_sz aC_cd C_n (upd C_sz (Int32.toNatClampNeg x3) (C_sz (Int32.toNatClampNeg x2))) st15.2) → va_S A s.heap H locs → lv_has ls 5 [(0, .ref aC), (1, .ref aC), (2, .int x2), (3, .int x3), (4, .int st15.1)] → W p l e rm_X1_copyCitation_self s m args below meth c H locs 0 0 Q (F0 m 15 ls [])) (e := e3) (fun st15 x hm hG hE => ?_) fu _ hc3 H locs ls hP hD hS (lv_sub hl [1, 2, 3, 4, 0] rfl)
  intro H locs ls hP hD hS hl
  refine lv_iload hx hb dX1_copyCitation_15 (lv_at hl 4 rfl) ?_
  refine lv_iconst (v := 5) hx hb dX1_copyCitation_17 (by decide) ?_
  refine lv_icmp_ge (tgt := 49) hx hb dX1_copyCitation_18 (by decide) (fun c4 => ?_) (fun c4 => ?_)
  · replace hm := if_t c4 hm
    have h9 := hE _ (Option.some.inj hm).symm
    subst h9
    exact X3_0 H locs ls hP hD hS (lv_sub hl [0] rfl)
  · replace hm := if_f c4 hm
    refine lv_aload_n hx hb dX1_copyCitation_21 rfl (lv_at hl 0 rfl) ?_
    refine va_get (D := D) (ci := 1) (v := .ref aC_cd) (C := RX1) (T := TX1) (N := 3) hx hb hts k2 hown hKv hP 0 rfl rfl 2 (by decide) k3 (fun _ h9 => h9) rfl dX1_copyCitation_22 ?_
    refine lv_iload_n hx hb dX1_copyCitation_25 rfl (lv_at hl 3 rfl) ?_
    refine lv_iconst (v := 5) hx hb dX1_copyCitation_26 (by decide) ?_
    refine lv_imul hx hb dX1_copyCitation_27 ?_
    refine lv_iload hx hb dX1_copyCitation_28 (lv_at hl 4 rfl) ?_
    refine lv_iadd hx hb dX1_copyCitation_30 ?_
    refine lv_aload_n hx hb dX1_copyCitation_31 rfl (lv_at hl 1 rfl) ?_
    refine va_get (D := D) (ci := 1) (v := .ref aC_cd) (C := RX1) (T := TX1) (N := 3) hx hb hts k2 hown hKv hP 0 rfl rfl 2 (by decide) k3 (fun _ h9 => h9) rfl dX1_copyCitation_32 ?_
    refine lv_iload_n hx hb dX1_copyCitation_35 rfl (lv_at hl 2 rfl) ?_
    refine lv_iconst (v := 5) hx hb dX1_copyCitation_36 (by decide) ?_
    refine lv_imul hx hb dX1_copyCitation_37 ?_
    refine lv_iload hx hb dX1_copyCitation_38 (lv_at hl 4 rfl) ?_
    refine lv_iadd hx hb dX1_copyCitation_40 ?_
    replace hm := ck_some hm
    obtain ⟨h5, hm⟩ := hm
    refine va_iald hx hb hKv hP 2 0 rfl rfl h5 dX1_copyCitation_41 ?_
    replace hm := ck_some hm
    obtain ⟨h6, hm⟩ := hm
    refine va_iast hx hb hKv hP hD hS 2 0 rfl rfl h6 dX1_copyCitation_42 (fun H locs hP hD hS => ?_)
    replace hP : va_P D vwCl (w_X1_copyCitation_self cI aC aC_sz aC_cd C_n (upd C_sz (Int32.toNatClampNeg x3) (C_sz (Int32.toNatClampNeg x2))) (upd st15.2 (Int32.toNatClampNeg ((x3 * 5) + st15.1)) (st15.2 (Int32.toNatClampNeg ((x2 * 5) + st15.1))))) H := hP
    replace hD : va_D A (w_X1_copyCitation_self cI aC aC_sz aC_cd C_n (upd C_sz (Int32.toNatClampNeg x3) (C_sz (Int32.toNatClampNeg x2))) (upd st15.2 (Int32.toNatClampNeg ((x3 * 5) + st15.1)) (st15.2 (Int32.toNatClampNeg ((x2 * 5) + st15.1))))) := hD
    refine lv_iinc (v := (st15.1 + 1)) (lv' := [(4, .int (st15.1 + 1)), (0, .ref aC), (1, .ref aC), (2, .int x2), (3, .int x3)]) hx hb dX1_copyCitation_43 hl (k := 4) rfl rfl (by decide) rfl (fun ls hl => ?_)
    refine lv_goto (tgt := 15) hx hb dX1_copyCitation_46 (by decide) ?_
    exact hG _ (Option.some.inj hm).symm H locs ls hP hD hS (lv_sub hl [1, 2, 3, 4, 0] rfl)
set_option maxHeartbeats 4000000 in
set_option maxRecDepth 100000 in
theorem c_X1_removeAt (l : Launch) (D : va_G) (cI cJ cZ cS : ClassId) (aC aC_sz aC_cd : Nat) (C_n : Int32) (C_sz : Nat → Int32) (C_cd : Nat → Int32) (x1 : Int32) (o : Int32 × (Nat → Int32) × (Nat → Int32)) (hm : m_X1_removeAt C_n C_sz C_cd x1 = some o) : MV l yX1_removeAt wsX1_removeAt rm_X1_removeAt D (TY cI cJ cZ cS) [.ref aC, .int x1] (w_X1_removeAt cI aC aC_sz aC_cd C_n C_sz C_cd) (w_X1_removeAt cI aC aC_sz aC_cd o.1 o.2.1 o.2.2) := by
  refine MV_of (cc := cX1_removeAt) (maxL := 3) (by decide) rfl (Nat.le_of_ble_eq_true rfl) ?_
  intro p e s m args below meth c A Q ls H locs hx hb hml hts hown hK hA hP hD hS hl hret
  have hown : s.vm.findClass RX1 = some m.cls := hown
  have hKv : va_K D vwCl (TY cI cJ cZ cS) s := hK.1
  have hl : lv_has ls 3 [(0, .ref aC), (1, .int x1)] := hl
  have S : CallFix p m c cX1_removeAt 3 s args wsX1_removeAt RX1 := ⟨hx, hb, hml, hown, hts⟩
  have k1 := hts (.fieldLink RX1 9 "CitationFormatter$Citations" "count" "I") (by decide +kernel)
  have k2 : ∀ w ∈ wsX10, w ∈ wsX1_removeAt := by decide +kernel
  have k3 : CallW rm_X1_removeAt s args RX1 RX1 34 yX1_copyCitation cX1_copyCitation 5 none wsX1_copyCitation rm_X1_copyCitation_self 0 0 3 := cwV 3 hts gX1_removeAt_X1_copyCitation rfl rfl rfl (by decide +kernel) ⟨Nat.le_of_ble_eq_true rfl, Nat.le_of_ble_eq_true rfl⟩
  refine lv_iload_n hx hb dX1_removeAt_0 rfl (lv_at hl 1 rfl) ?_
  refine lv_iconst (v := 1) hx hb dX1_removeAt_1 (by decide) ?_
  refine lv_iadd hx hb dX1_removeAt_2 ?_
  refine lv_istore_n (lv' := [(2, .int (x1 + 1)), (0, .ref aC), (1, .int x1)]) hx hb dX1_removeAt_3 rfl hl (by decide) rfl (fun ls hl => ?_)
  replace hm := bd_some hm
  obtain ⟨e1, hc1, hm⟩ := hm
  have X1_0 : ∀ (H : Heap) (locs : List Loc) (ls : Array Slot), va_P D vwCl (w_X1_removeAt cI aC aC_sz aC_cd C_n e1.1 e1.2) H → va_D A (w_X1_removeAt cI aC aC_sz aC_cd C_n e1.1 e1.2) → va_S A s.heap H locs → lv_has ls 3 [(0, .ref aC)] → W p l e rm_X1_removeAt s m args below meth c H locs 0 0 Q (F0 m 27 ls []) := by
    intro H locs ls hP hD hS hl
    refine lv_aload_n hx hb dX1_removeAt_27 rfl (lv_at hl 0 rfl) ?_
    refine lv_dup hx hb dX1_removeAt_28 rfl ?_
    refine va_get (D := D) (ci := 1) (v := .int C_n) (C := RX1) (T := TX1) (N := 3) hx hb hts k2 hown hKv hP 0 rfl rfl 0 (by decide) k1 (fun _ h9 => h9) rfl dX1_removeAt_29 ?_
    refine lv_iconst (v := 1) hx hb dX1_removeAt_32 (by decide) ?_
    refine lv_isub hx hb dX1_removeAt_33 ?_
    refine va_put (D := D) (ci := 1) (v := .int (C_n - 1)) (ty := .int) (C := RX1) (T := TX1) (N := 3) hx hb hts k2 tyX1 tyX1_ok nmX1 hown hKv hP hD hS 0 rfl rfl 0 (by decide) k1 (fun _ h9 => h9) rfl (by decide +kernel) rfl rfl (Nat.le_of_ble_eq_true rfl) dX1_removeAt_34 (fun H locs hP hD hS => ?_)
    replace hP : va_P D vwCl (w_X1_removeAt cI aC aC_sz aC_cd (C_n - 1) e1.1 e1.2) H := hP
    replace hD : va_D A (w_X1_removeAt cI aC aC_sz aC_cd (C_n - 1) e1.1 e1.2) := hD
    have h9 := Option.some.inj hm
    subst h9
    exact hret H locs _ ls hP hD hS dX1_removeAt_37
  refine it_W (G := fun (st4 : Int32 × (Nat → Int32) × (Nat → Int32)) => ∀ (H : Heap) (locs : List Loc) (ls : Array Slot), va_P D vwCl (w_X1_removeAt cI aC aC_sz aC_cd C_n st4.2.1 st4.2.2) H → va_D A (w_X1_removeAt cI aC aC_sz aC_cd C_n st4.2.1 st4.2.2) → va_S A s.heap H locs → lv_has ls 3 [(0, .ref aC), (2, .int st4.1)] → W p l e rm_X1_removeAt s m args below meth c H locs 0 0 Q (F0 m 4 ls [])) (e := e1) (fun st4 x hm hG hE => ?_) fu _ hc1 H locs ls hP hD hS (lv_sub hl [1, 0] rfl)
  intro H locs ls hP hD hS hl
  refine lv_iload_n hx hb dX1_removeAt_4 rfl (lv_at hl 1 rfl) ?_
  refine lv_aload_n hx hb dX1_removeAt_5 rfl (lv_at hl 0 rfl) ?_
  refine va_get (D := D) (ci := 1) (v := .int C_n) (C := RX1) (T := TX1) (N := 3) hx hb hts k2 hown hKv hP 0 rfl rfl 0 (by decide) k1 (fun _ h9 => h9) rfl dX1_removeAt_6 ?_
  refine lv_icmp_ge (tgt := 27) hx hb dX1_removeAt_9 (by decide) (fun c2 => ?_) (fun c2 => ?_)
  · replace hm := if_t c2 hm
    have h9 := hE _ (Option.some.inj hm).symm
    subst h9
    exact X1_0 H locs ls hP hD hS (lv_sub hl [0] rfl)
  · replace hm := if_f c2 hm
    refine lv_aload_n hx hb dX1_removeAt_12 rfl (lv_at hl 0 rfl) ?_
    refine lv_aload_n hx hb dX1_removeAt_13 rfl (lv_at hl 0 rfl) ?_
    refine lv_iload_n hx hb dX1_removeAt_14 rfl (lv_at hl 1 rfl) ?_
    refine lv_iload_n hx hb dX1_removeAt_15 rfl (lv_at hl 1 rfl) ?_
    refine lv_iconst (v := 1) hx hb dX1_removeAt_16 (by decide) ?_
    refine lv_isub hx hb dX1_removeAt_17 ?_
    replace hm := bd_some hm
    obtain ⟨e3, hc3, hm⟩ := hm
    refine kV_v (rest := []) (ws' := (w_X1_removeAt cI aC aC_sz aC_cd C_n e3.1 e3.2)) S (c_X1_copyCitation_self l D cI cJ cZ cS aC aC_sz aC_cd C_n st4.2.1 st4.2.2 st4.1 (st4.1 - 1) e3 hc3) k3 hK hP hD hS hA 0 rfl rfl rfl rfl hl.1 rfl (Nat.le_of_ble_eq_true rfl) ⟨Nat.zero_le _, Nat.zero_le _⟩ dX1_removeAt_18 [0, 1, 2] rfl rfl wa_X1_copyCitation_self (sa_eq [] [] 3 rfl rfl rfl rfl rfl rfl rfl) (fun H locs hP hD hS => ?_)
    refine lv_iinc (v := (st4.1 + 1)) (lv' := [(2, .int (st4.1 + 1)), (0, .ref aC)]) hx hb dX1_removeAt_21 hl (k := 1) rfl rfl (by decide) rfl (fun ls hl => ?_)
    refine lv_goto (tgt := 4) hx hb dX1_removeAt_24 (by decide) ?_
    exact hG _ (Option.some.inj hm).symm H locs ls hP hD hS (lv_sub hl [1, 0] rfl)
set_option maxHeartbeats 4000000 in
set_option maxRecDepth 100000 in
theorem c_X9_compareAuthors (l : Launch) (D : va_G) (cI cJ cZ cS : ClassId) (aW aW_ac aW_fa aW_in aW_yr aW_ti : Nat) (W_n : Int32) (W_ac : Nat → Int32) (W_fa : Nat → Int32) (W_in : Nat → Int32) (x1 : Int32) (x2 : Int32) (o : Int32) (hm : m_X9_compareAuthors W_ac W_fa W_in x1 x2 = some o) : MI l yX9_compareAuthors wsX9_compareAuthors rm_X9_compareAuthors D (TY cI cJ cZ cS) [.ref aW, .int x1, .int x2] (w_X9_compareAuthors cI aW aW_ac aW_fa aW_in aW_yr aW_ti W_n W_ac W_fa W_in) (w_X9_compareAuthors cI aW aW_ac aW_fa aW_in aW_yr aW_ti W_n W_ac W_fa W_in) (o) := by
  refine MI_of (cc := cX9_compareAuthors) (maxL := 6) (by decide) rfl (Nat.le_of_ble_eq_true rfl) ?_
  intro p e s m args below meth c A Q ls H locs hx hb hml hts hown hK hA hP hD hS hl hret
  have hown : s.vm.findClass RX9 = some m.cls := hown
  have hKv : va_K D vwCl (TY cI cJ cZ cS) s := hK.1
  have hl : lv_has ls 6 [(0, .ref aW), (1, .int x1), (2, .int x2)] := hl
  have S : CallFix p m c cX9_compareAuthors 6 s args wsX9_compareAuthors RX9 := ⟨hx, hb, hml, hown, hts⟩
  have k1 := hts (.fieldLink RX9 19 "CitationFormatter$Works" "families" "[I") (by decide +kernel)
  have k2 : ∀ w ∈ wsX90, w ∈ wsX9_compareAuthors := by decide +kernel
  have k3 := hts (.fieldLink RX9 22 "CitationFormatter$Works" "initials" "[I") (by decide +kernel)
  have k4 := hts (.fieldLink RX9 15 "CitationFormatter$Works" "authorCounts" "[I") (by decide +kernel)
  refine lv_iconst (v := 0) hx hb dX9_compareAuthors_0 (by decide) ?_
  refine lv_istore_n (lv' := [(3, .int 0), (0, .ref aW), (1, .int x1), (2, .int x2)]) hx hb dX9_compareAuthors_1 rfl hl (by decide) rfl (fun ls hl => ?_)
  replace hm := bd_some hm
  obtain ⟨e1, hc1, hm⟩ := hm
  have X1_0 : ∀ v1_0, e1 = Sum.inl v1_0 → ∀ (H : Heap) (locs : List Loc) (ls : Array Slot), va_P D vwCl (w_X9_compareAuthors cI aW aW_ac aW_fa aW_in aW_yr aW_ti W_n W_ac W_fa W_in) H → va_D A (w_X9_compareAuthors cI aW aW_ac aW_fa aW_in aW_yr aW_ti W_n W_ac W_fa W_in) → va_S A s.heap H locs → lv_has ls 6 [(0, .ref aW), (4, .int v1_0.1), (5, .int v1_0.2)] → W p l e rm_X9_compareAuthors s m args below meth c H locs 0 0 Q (F0 m 53 ls []) := by
    intro v1_0 h9 H locs ls hP hD hS hl
    subst h9
    replace hm := el_l hm
    refine lv_aload_n hx hb dX9_compareAuthors_53 rfl (lv_at hl 0 rfl) ?_
    refine va_get (D := D) (ci := 9) (v := .ref aW_fa) (C := RX9) (T := TX9) (N := 6) hx hb hts k2 hown hKv hP 0 rfl rfl 2 (by decide) k1 (fun _ h9 => h9) rfl dX9_compareAuthors_54 ?_
    refine lv_iload hx hb dX9_compareAuthors_57 (lv_at hl 1 rfl) ?_
    replace hm := ck_some hm
    obtain ⟨h2, hm⟩ := hm
    refine va_iald hx hb hKv hP 2 0 rfl rfl h2 dX9_compareAuthors_59 ?_
    refine lv_aload_n hx hb dX9_compareAuthors_60 rfl (lv_at hl 0 rfl) ?_
    refine va_get (D := D) (ci := 9) (v := .ref aW_fa) (C := RX9) (T := TX9) (N := 6) hx hb hts k2 hown hKv hP 0 rfl rfl 2 (by decide) k1 (fun _ h9 => h9) rfl dX9_compareAuthors_61 ?_
    refine lv_iload hx hb dX9_compareAuthors_64 (lv_at hl 2 rfl) ?_
    replace hm := ck_some hm
    obtain ⟨h3, hm⟩ := hm
    refine va_iald hx hb hKv hP 2 0 rfl rfl h3 dX9_compareAuthors_66 ?_
    refine lv_isub hx hb dX9_compareAuthors_67 ?_
    have h9 := Option.some.inj hm
    subst h9
    exact hret H locs _ ls _ hP hD hS rfl dX9_compareAuthors_68
  have X1_1 : ∀ v1_1, e1 = Sum.inr (Sum.inl v1_1) → ∀ (H : Heap) (locs : List Loc) (ls : Array Slot), va_P D vwCl (w_X9_compareAuthors cI aW aW_ac aW_fa aW_in aW_yr aW_ti W_n W_ac W_fa W_in) H → va_D A (w_X9_compareAuthors cI aW aW_ac aW_fa aW_in aW_yr aW_ti W_n W_ac W_fa W_in) → va_S A s.heap H locs → lv_has ls 6 [(0, .ref aW), (4, .int v1_1.1), (5, .int v1_1.2)] → W p l e rm_X9_compareAuthors s m args below meth c H locs 0 0 Q (F0 m 86 ls []) := by
    intro v1_1 h9 H locs ls hP hD hS hl
    subst h9
    replace hm := el_r hm
    replace hm := el_l hm
    refine lv_aload_n hx hb dX9_compareAuthors_86 rfl (lv_at hl 0 rfl) ?_
    refine va_get (D := D) (ci := 9) (v := .ref aW_in) (C := RX9) (T := TX9) (N := 6) hx hb hts k2 hown hKv hP 0 rfl rfl 3 (by decide) k3 (fun _ h9 => h9) rfl dX9_compareAuthors_87 ?_
    refine lv_iload hx hb dX9_compareAuthors_90 (lv_at hl 1 rfl) ?_
    replace hm := ck_some hm
    obtain ⟨h4, hm⟩ := hm
    refine va_iald hx hb hKv hP 3 0 rfl rfl h4 dX9_compareAuthors_92 ?_
    refine lv_aload_n hx hb dX9_compareAuthors_93 rfl (lv_at hl 0 rfl) ?_
    refine va_get (D := D) (ci := 9) (v := .ref aW_in) (C := RX9) (T := TX9) (N := 6) hx hb hts k2 hown hKv hP 0 rfl rfl 3 (by decide) k3 (fun _ h9 => h9) rfl dX9_compareAuthors_94 ?_
    refine lv_iload hx hb dX9_compareAuthors_97 (lv_at hl 2 rfl) ?_
    replace hm := ck_some hm
    obtain ⟨h5, hm⟩ := hm
    refine va_iald hx hb hKv hP 3 0 rfl rfl h5 dX9_compareAuthors_99 ?_
    refine lv_isub hx hb dX9_compareAuthors_100 ?_
    have h9 := Option.some.inj hm
    subst h9
    exact hret H locs _ ls _ hP hD hS rfl dX9_compareAuthors_101
  have X1_2 : ∀ v1_2, e1 = Sum.inr (Sum.inr (v1_2)) → ∀ (H : Heap) (locs : List Loc) (ls : Array Slot), va_P D vwCl (w_X9_compareAuthors cI aW aW_ac aW_fa aW_in aW_yr aW_ti W_n W_ac W_fa W_in) H → va_D A (w_X9_compareAuthors cI aW aW_ac aW_fa aW_in aW_yr aW_ti W_n W_ac W_fa W_in) → va_S A s.heap H locs → lv_has ls 6 [(0, .ref aW), (1, .int x1), (2, .int x2)] → W p l e rm_X9_compareAuthors s m args below meth c H locs 0 0 Q (F0 m 108 ls []) := by
    intro v1_2 h9 H locs ls hP hD hS hl
    subst h9
    replace hm := el_r hm
    replace hm := el_r hm
    refine lv_aload_n hx hb dX9_compareAuthors_108 rfl (lv_at hl 0 rfl) ?_
    refine va_get (D := D) (ci := 9) (v := .ref aW_ac) (C := RX9) (T := TX9) (N := 6) hx hb hts k2 hown hKv hP 0 rfl rfl 1 (by decide) k4 (fun _ h9 => h9) rfl dX9_compareAuthors_109 ?_
    refine lv_iload_n hx hb dX9_compareAuthors_112 rfl (lv_at hl 1 rfl) ?_
    replace hm := ck_some hm
    obtain ⟨h6, hm⟩ := hm
    refine va_iald hx hb hKv hP 1 0 rfl rfl h6 dX9_compareAuthors_113 ?_
    refine lv_aload_n hx hb dX9_compareAuthors_114 rfl (lv_at hl 0 rfl) ?_
    refine va_get (D := D) (ci := 9) (v := .ref aW_ac) (C := RX9) (T := TX9) (N := 6) hx hb hts k2 hown hKv hP 0 rfl rfl 1 (by decide) k4 (fun _ h9 => h9) rfl dX9_compareAuthors_115 ?_
    refine lv_iload_n hx hb dX9_compareAuthors_118 rfl (lv_at hl 2 rfl) ?_
    replace hm := ck_some hm
    obtain ⟨h7, hm⟩ := hm
    refine va_iald hx hb hKv hP 1 0 rfl rfl h7 dX9_compareAuthors_119 ?_
    refine lv_isub hx hb dX9_compareAuthors_120 ?_
    have h9 := Option.some.inj hm
    subst h9
    exact hret H locs _ ls _ hP hD hS rfl dX9_compareAuthors_121
  refine it_W (G := fun (st2 : Int32) => ∀ (H : Heap) (locs : List Loc) (ls : Array Slot), va_P D vwCl (w_X9_compareAuthors cI aW aW_ac aW_fa aW_in aW_yr aW_ti W_n W_ac W_fa W_in) H → va_D A (w_X9_compareAuthors cI aW aW_ac aW_fa aW_in aW_yr aW_ti W_n W_ac W_fa W_in) → va_S A s.heap H locs → lv_has ls 6 [(0, .ref aW), (1, .int x1), (2, .int x2), (3, .int st2)] → W p l e rm_X9_compareAuthors s m args below meth c H locs 0 0 Q (F0 m 2 ls [])) (e := e1) (fun st2 x hm hG hE => ?_) fu _ hc1 H locs ls hP hD hS (lv_sub hl [1, 2, 3, 0] rfl)
  intro H locs ls hP hD hS hl
  refine lv_iload_n hx hb dX9_compareAuthors_2 rfl (lv_at hl 3 rfl) ?_
  refine lv_aload_n hx hb dX9_compareAuthors_3 rfl (lv_at hl 0 rfl) ?_
  refine va_get (D := D) (ci := 9) (v := .ref aW_ac) (C := RX9) (T := TX9) (N := 6) hx hb hts k2 hown hKv hP 0 rfl rfl 1 (by decide) k4 (fun _ h9 => h9) rfl dX9_compareAuthors_4 ?_
  refine lv_iload_n hx hb dX9_compareAuthors_7 rfl (lv_at hl 1 rfl) ?_
  replace hm := ck_some hm
  obtain ⟨h8, hm⟩ := hm
  refine va_iald hx hb hKv hP 1 0 rfl rfl h8 dX9_compareAuthors_8 ?_
  refine lv_icmp_ge (tgt := 108) hx hb dX9_compareAuthors_9 (by decide) (fun c9 => ?_) (fun c9 => ?_)
  · replace hm := if_t c9 hm
    exact X1_2 _ (hE _ (Option.some.inj hm).symm).symm H locs ls hP hD hS (lv_sub hl [0, 1, 2] rfl)
  · replace hm := if_f c9 hm
    refine lv_iload_n hx hb dX9_compareAuthors_12 rfl (lv_at hl 3 rfl) ?_
    refine lv_aload_n hx hb dX9_compareAuthors_13 rfl (lv_at hl 0 rfl) ?_
    refine va_get (D := D) (ci := 9) (v := .ref aW_ac) (C := RX9) (T := TX9) (N := 6) hx hb hts k2 hown hKv hP 0 rfl rfl 1 (by decide) k4 (fun _ h9 => h9) rfl dX9_compareAuthors_14 ?_
    refine lv_iload_n hx hb dX9_compareAuthors_17 rfl (lv_at hl 2 rfl) ?_
    replace hm := ck_some hm
    obtain ⟨h10, hm⟩ := hm
    refine va_iald hx hb hKv hP 1 0 rfl rfl h10 dX9_compareAuthors_18 ?_
    refine lv_icmp_ge (tgt := 108) hx hb dX9_compareAuthors_19 (by decide) (fun c11 => ?_) (fun c11 => ?_)
    · replace hm := if_t c11 hm
      exact X1_2 _ (hE _ (Option.some.inj hm).symm).symm H locs ls hP hD hS (lv_sub hl [0, 1, 2] rfl)
    · replace hm := if_f c11 hm
      refine lv_iload_n hx hb dX9_compareAuthors_22 rfl (lv_at hl 1 rfl) ?_
      refine lv_iconst (v := 4) hx hb dX9_compareAuthors_23 (by decide) ?_
      refine lv_imul hx hb dX9_compareAuthors_24 ?_
      refine lv_iload_n hx hb dX9_compareAuthors_25 rfl (lv_at hl 3 rfl) ?_
      refine lv_iadd hx hb dX9_compareAuthors_26 ?_
      refine lv_istore (lv' := [(4, .int ((x1 * 4) + st2)), (0, .ref aW), (1, .int x1), (2, .int x2), (3, .int st2)]) hx hb dX9_compareAuthors_27 hl (by decide) rfl (fun ls hl => ?_)
      refine lv_iload_n hx hb dX9_compareAuthors_29 rfl (lv_at hl 3 rfl) ?_
      refine lv_iconst (v := 4) hx hb dX9_compareAuthors_30 (by decide) ?_
      refine lv_imul hx hb dX9_compareAuthors_31 ?_
      refine lv_iload_n hx hb dX9_compareAuthors_32 rfl (lv_at hl 4 rfl) ?_
      refine lv_iadd hx hb dX9_compareAuthors_33 ?_
      refine lv_istore (lv' := [(5, .int ((x2 * 4) + st2)), (4, .int ((x1 * 4) + st2)), (0, .ref aW), (1, .int x1), (2, .int x2), (3, .int st2)]) hx hb dX9_compareAuthors_34 hl (by decide) rfl (fun ls hl => ?_)
      refine lv_aload_n hx hb dX9_compareAuthors_36 rfl (lv_at hl 2 rfl) ?_
      refine va_get (D := D) (ci := 9) (v := .ref aW_fa) (C := RX9) (T := TX9) (N := 6) hx hb hts k2 hown hKv hP 0 rfl rfl 2 (by decide) k1 (fun _ h9 => h9) rfl dX9_compareAuthors_37 ?_
      refine lv_iload hx hb dX9_compareAuthors_40 (lv_at hl 1 rfl) ?_
      replace hm := ck_some hm
      obtain ⟨h12, hm⟩ := hm
      refine va_iald hx hb hKv hP 2 0 rfl rfl h12 dX9_compareAuthors_42 ?_
      refine lv_aload_n hx hb dX9_compareAuthors_43 rfl (lv_at hl 2 rfl) ?_
      refine va_get (D := D) (ci := 9) (v := .ref aW_fa) (C := RX9) (T := TX9) (N := 6) hx hb hts k2 hown hKv hP 0 rfl rfl 2 (by decide) k1 (fun _ h9 => h9) rfl dX9_compareAuthors_44 ?_
      refine lv_iload hx hb dX9_compareAuthors_47 (lv_at hl 0 rfl) ?_
      replace hm := ck_some hm
      obtain ⟨h13, hm⟩ := hm
      refine va_iald hx hb hKv hP 2 0 rfl rfl h13 dX9_compareAuthors_49 ?_
      refine lv_icmp_eq (tgt := 69) hx hb dX9_compareAuthors_50 (by decide) (fun c14 => ?_) (fun c14 => ?_)
      · replace hm := if_t c14 hm
        refine lv_aload_n hx hb dX9_compareAuthors_69 rfl (lv_at hl 2 rfl) ?_
        refine va_get (D := D) (ci := 9) (v := .ref aW_in) (C := RX9) (T := TX9) (N := 6) hx hb hts k2 hown hKv hP 0 rfl rfl 3 (by decide) k3 (fun _ h9 => h9) rfl dX9_compareAuthors_70 ?_
        refine lv_iload hx hb dX9_compareAuthors_73 (lv_at hl 1 rfl) ?_
        replace hm := ck_some hm
        obtain ⟨h15, hm⟩ := hm
        refine va_iald hx hb hKv hP 3 0 rfl rfl h15 dX9_compareAuthors_75 ?_
        refine lv_aload_n hx hb dX9_compareAuthors_76 rfl (lv_at hl 2 rfl) ?_
        refine va_get (D := D) (ci := 9) (v := .ref aW_in) (C := RX9) (T := TX9) (N := 6) hx hb hts k2 hown hKv hP 0 rfl rfl 3 (by decide) k3 (fun _ h9 => h9) rfl dX9_compareAuthors_77 ?_
        refine lv_iload hx hb dX9_compareAuthors_80 (lv_at hl 0 rfl) ?_
        replace hm := ck_some hm
        obtain ⟨h16, hm⟩ := hm
        refine va_iald hx hb hKv hP 3 0 rfl rfl h16 dX9_compareAuthors_82 ?_
        refine lv_icmp_eq (tgt := 102) hx hb dX9_compareAuthors_83 (by decide) (fun c17 => ?_) (fun c17 => ?_)
        · replace hm := if_t c17 hm
          refine lv_iinc (v := (st2 + 1)) (lv' := [(3, .int (st2 + 1)), (5, .int ((x2 * 4) + st2)), (4, .int ((x1 * 4) + st2)), (0, .ref aW), (1, .int x1), (2, .int x2)]) hx hb dX9_compareAuthors_102 hl (k := 5) rfl rfl (by decide) rfl (fun ls hl => ?_)
          refine lv_goto (tgt := 2) hx hb dX9_compareAuthors_105 (by decide) ?_
          exact hG _ (Option.some.inj hm).symm H locs ls hP hD hS (lv_sub hl [3, 4, 5, 0] rfl)
        · replace hm := if_f c17 hm
          exact X1_1 _ (hE _ (Option.some.inj hm).symm).symm H locs ls hP hD hS (lv_sub hl [2, 1, 0] rfl)
      · replace hm := if_f c14 hm
        exact X1_0 _ (hE _ (Option.some.inj hm).symm).symm H locs ls hP hD hS (lv_sub hl [2, 1, 0] rfl)
set_option maxHeartbeats 4000000 in
set_option maxRecDepth 100000 in
theorem c_X9_copyWork (l : Launch) (D : va_G) (cI cJ cZ cS : ClassId) (aW aW_ac aW_fa aW_in aW_yr aW_ti aX aX_ac aX_fa aX_in aX_yr aX_ti : Nat) (W_n : Int32) (W_ac : Nat → Int32) (W_fa : Nat → Int32) (W_in : Nat → Int32) (W_yr : Nat → Int32) (W_ti : Nat → Int32) (X_n : Int32) (X_ac : Nat → Int32) (X_fa : Nat → Int32) (X_in : Nat → Int32) (X_yr : Nat → Int32) (X_ti : Nat → Int32) (x2 : Int32) (x3 : Int32) (o : (Nat → Int32) × (Nat → Int32) × (Nat → Int32) × (Nat → Int32) × (Nat → Int32)) (hm : m_X9_copyWork W_ac W_fa W_in W_yr W_ti X_ac X_fa X_in X_yr X_ti x2 x3 = some o) : MV l yX9_copyWork wsX9_copyWork rm_X9_copyWork D (TY cI cJ cZ cS) [.ref aW, .ref aX, .int x2, .int x3] (w_X9_copyWork cI aW aW_ac aW_fa aW_in aW_yr aW_ti aX aX_ac aX_fa aX_in aX_yr aX_ti W_n W_ac W_fa W_in W_yr W_ti X_n X_ac X_fa X_in X_yr X_ti) (w_X9_copyWork cI aW aW_ac aW_fa aW_in aW_yr aW_ti aX aX_ac aX_fa aX_in aX_yr aX_ti W_n o.1 o.2.1 o.2.2.1 o.2.2.2.1 o.2.2.2.2 X_n X_ac X_fa X_in X_yr X_ti) := by
  refine MV_of (cc := cX9_copyWork) (maxL := 5) (by decide) rfl (Nat.le_of_ble_eq_true rfl) ?_
  intro p e s m args below meth c A Q ls H locs hx hb hml hts hown hK hA hP hD hS hl hret
  have hown : s.vm.findClass RX9 = some m.cls := hown
  have hKv : va_K D vwCl (TY cI cJ cZ cS) s := hK.1
  have hl : lv_has ls 5 [(0, .ref aW), (1, .ref aX), (2, .int x2), (3, .int x3)] := hl
  have S : CallFix p m c cX9_copyWork 5 s args wsX9_copyWork RX9 := ⟨hx, hb, hml, hown, hts⟩
  have k1 := hts (.fieldLink RX9 15 "CitationFormatter$Works" "authorCounts" "[I") (by decide +kernel)
  have k2 : ∀ w ∈ wsX90, w ∈ wsX9_copyWork := by decide +kernel
  have k3 := hts (.fieldLink RX9 25 "CitationFormatter$Works" "years" "[I") (by decide +kernel)
  have k4 := hts (.fieldLink RX9 28 "CitationFormatter$Works" "titles" "[I") (by decide +kernel)
  have k5 := hts (.fieldLink RX9 19 "CitationFormatter$Works" "families" "[I") (by decide +kernel)
  have k6 := hts (.fieldLink RX9 22 "CitationFormatter$Works" "initials" "[I") (by decide +kernel)
  refine lv_aload_n hx hb dX9_copyWork_0 rfl (lv_at hl 0 rfl) ?_
  refine va_get (D := D) (ci := 9) (v := .ref aW_ac) (C := RX9) (T := TX9) (N := 6) hx hb hts k2 hown hKv hP 0 rfl rfl 1 (by decide) k1 (fun _ h9 => h9) rfl dX9_copyWork_1 ?_
  refine lv_iload_n hx hb dX9_copyWork_4 rfl (lv_at hl 3 rfl) ?_
  refine lv_aload_n hx hb dX9_copyWork_5 rfl (lv_at hl 1 rfl) ?_
  refine va_get (D := D) (ci := 9) (v := .ref aX_ac) (C := RX9) (T := TX9) (N := 6) hx hb hts k2 hown hKv hP 6 rfl rfl 1 (by decide) k1 (fun _ h9 => h9) rfl dX9_copyWork_6 ?_
  refine lv_iload_n hx hb dX9_copyWork_9 rfl (lv_at hl 2 rfl) ?_
  replace hm := ck_some hm
  obtain ⟨h1, hm⟩ := hm
  refine va_iald hx hb hKv hP 7 0 rfl rfl h1 dX9_copyWork_10 ?_
  replace hm := ck_some hm
  obtain ⟨h2, hm⟩ := hm
  refine va_iast hx hb hKv hP hD hS 1 0 rfl rfl h2 dX9_copyWork_11 (fun H locs hP hD hS => ?_)
  replace hP : va_P D vwCl (w_X9_copyWork cI aW aW_ac aW_fa aW_in aW_yr aW_ti aX aX_ac aX_fa aX_in aX_yr aX_ti W_n (upd W_ac (Int32.toNatClampNeg x3) (X_ac (Int32.toNatClampNeg x2))) W_fa W_in W_yr W_ti X_n X_ac X_fa X_in X_yr X_ti) H := hP
  replace hD : va_D A (w_X9_copyWork cI aW aW_ac aW_fa aW_in aW_yr aW_ti aX aX_ac aX_fa aX_in aX_yr aX_ti W_n (upd W_ac (Int32.toNatClampNeg x3) (X_ac (Int32.toNatClampNeg x2))) W_fa W_in W_yr W_ti X_n X_ac X_fa X_in X_yr X_ti) := hD
  refine lv_aload_n hx hb dX9_copyWork_12 rfl (lv_at hl 0 rfl) ?_
  refine va_get (D := D) (ci := 9) (v := .ref aW_yr) (C := RX9) (T := TX9) (N := 6) hx hb hts k2 hown hKv hP 0 rfl rfl 4 (by decide) k3 (fun _ h9 => h9) rfl dX9_copyWork_13 ?_
  refine lv_iload_n hx hb dX9_copyWork_16 rfl (lv_at hl 3 rfl) ?_
  refine lv_aload_n hx hb dX9_copyWork_17 rfl (lv_at hl 1 rfl) ?_
  refine va_get (D := D) (ci := 9) (v := .ref aX_yr) (C := RX9) (T := TX9) (N := 6) hx hb hts k2 hown hKv hP 6 rfl rfl 4 (by decide) k3 (fun _ h9 => h9) rfl dX9_copyWork_18 ?_
  refine lv_iload_n hx hb dX9_copyWork_21 rfl (lv_at hl 2 rfl) ?_
  replace hm := ck_some hm
  obtain ⟨h3, hm⟩ := hm
  refine va_iald hx hb hKv hP 10 0 rfl rfl h3 dX9_copyWork_22 ?_
  replace hm := ck_some hm
  obtain ⟨h4, hm⟩ := hm
  refine va_iast hx hb hKv hP hD hS 4 0 rfl rfl h4 dX9_copyWork_23 (fun H locs hP hD hS => ?_)
  replace hP : va_P D vwCl (w_X9_copyWork cI aW aW_ac aW_fa aW_in aW_yr aW_ti aX aX_ac aX_fa aX_in aX_yr aX_ti W_n (upd W_ac (Int32.toNatClampNeg x3) (X_ac (Int32.toNatClampNeg x2))) W_fa W_in (upd W_yr (Int32.toNatClampNeg x3) (X_yr (Int32.toNatClampNeg x2))) W_ti X_n X_ac X_fa X_in X_yr X_ti) H := hP
  replace hD : va_D A (w_X9_copyWork cI aW aW_ac aW_fa aW_in aW_yr aW_ti aX aX_ac aX_fa aX_in aX_yr aX_ti W_n (upd W_ac (Int32.toNatClampNeg x3) (X_ac (Int32.toNatClampNeg x2))) W_fa W_in (upd W_yr (Int32.toNatClampNeg x3) (X_yr (Int32.toNatClampNeg x2))) W_ti X_n X_ac X_fa X_in X_yr X_ti) := hD
  refine lv_aload_n hx hb dX9_copyWork_24 rfl (lv_at hl 0 rfl) ?_
  refine va_get (D := D) (ci := 9) (v := .ref aW_ti) (C := RX9) (T := TX9) (N := 6) hx hb hts k2 hown hKv hP 0 rfl rfl 5 (by decide) k4 (fun _ h9 => h9) rfl dX9_copyWork_25 ?_
  refine lv_iload_n hx hb dX9_copyWork_28 rfl (lv_at hl 3 rfl) ?_
  refine lv_aload_n hx hb dX9_copyWork_29 rfl (lv_at hl 1 rfl) ?_
  refine va_get (D := D) (ci := 9) (v := .ref aX_ti) (C := RX9) (T := TX9) (N := 6) hx hb hts k2 hown hKv hP 6 rfl rfl 5 (by decide) k4 (fun _ h9 => h9) rfl dX9_copyWork_30 ?_
  refine lv_iload_n hx hb dX9_copyWork_33 rfl (lv_at hl 2 rfl) ?_
  replace hm := ck_some hm
  obtain ⟨h5, hm⟩ := hm
  refine va_iald hx hb hKv hP 11 0 rfl rfl h5 dX9_copyWork_34 ?_
  replace hm := ck_some hm
  obtain ⟨h6, hm⟩ := hm
  refine va_iast hx hb hKv hP hD hS 5 0 rfl rfl h6 dX9_copyWork_35 (fun H locs hP hD hS => ?_)
  replace hP : va_P D vwCl (w_X9_copyWork cI aW aW_ac aW_fa aW_in aW_yr aW_ti aX aX_ac aX_fa aX_in aX_yr aX_ti W_n (upd W_ac (Int32.toNatClampNeg x3) (X_ac (Int32.toNatClampNeg x2))) W_fa W_in (upd W_yr (Int32.toNatClampNeg x3) (X_yr (Int32.toNatClampNeg x2))) (upd W_ti (Int32.toNatClampNeg x3) (X_ti (Int32.toNatClampNeg x2))) X_n X_ac X_fa X_in X_yr X_ti) H := hP
  replace hD : va_D A (w_X9_copyWork cI aW aW_ac aW_fa aW_in aW_yr aW_ti aX aX_ac aX_fa aX_in aX_yr aX_ti W_n (upd W_ac (Int32.toNatClampNeg x3) (X_ac (Int32.toNatClampNeg x2))) W_fa W_in (upd W_yr (Int32.toNatClampNeg x3) (X_yr (Int32.toNatClampNeg x2))) (upd W_ti (Int32.toNatClampNeg x3) (X_ti (Int32.toNatClampNeg x2))) X_n X_ac X_fa X_in X_yr X_ti) := hD
  refine lv_iconst (v := 0) hx hb dX9_copyWork_36 (by decide) ?_
  refine lv_istore (lv' := [(4, .int 0), (0, .ref aW), (1, .ref aX), (2, .int x2), (3, .int x3)]) hx hb dX9_copyWork_37 hl (by decide) rfl (fun ls hl => ?_)
  replace hm := bd_some hm
  obtain ⟨e7, hc7, hm⟩ := hm
  have X7_0 : ∀ (H : Heap) (locs : List Loc) (ls : Array Slot), va_P D vwCl (w_X9_copyWork cI aW aW_ac aW_fa aW_in aW_yr aW_ti aX aX_ac aX_fa aX_in aX_yr aX_ti W_n (upd W_ac (Int32.toNatClampNeg x3) (X_ac (Int32.toNatClampNeg x2))) e7.1 e7.2 (upd W_yr (Int32.toNatClampNeg x3) (X_yr (Int32.toNatClampNeg x2))) (upd W_ti (Int32.toNatClampNeg x3) (X_ti (Int32.toNatClampNeg x2))) X_n X_ac X_fa X_in X_yr X_ti) H → va_D A (w_X9_copyWork cI aW aW_ac aW_fa aW_in aW_yr aW_ti aX aX_ac aX_fa aX_in aX_yr aX_ti W_n (upd W_ac (Int32.toNatClampNeg x3) (X_ac (Int32.toNatClampNeg x2))) e7.1 e7.2 (upd W_yr (Int32.toNatClampNeg x3) (X_yr (Int32.toNatClampNeg x2))) (upd W_ti (Int32.toNatClampNeg x3) (X_ti (Int32.toNatClampNeg x2))) X_n X_ac X_fa X_in X_yr X_ti) → va_S A s.heap H locs → lv_has ls 5 [(0, .ref aW)] → W p l e rm_X9_copyWork s m args below meth c H locs 0 0 Q (F0 m 95 ls []) := by
    intro H locs ls hP hD hS hl
    have h9 := Option.some.inj hm
    subst h9
    exact hret H locs _ ls hP hD hS dX9_copyWork_95
  refine it_W (G := fun (st39 : Int32 × (Nat → Int32) × (Nat → Int32)) => ∀ (H : Heap) (locs : List Loc) (ls : Array Slot), va_P D vwCl (w_X9_copyWork cI aW aW_ac aW_fa aW_in aW_yr aW_ti aX aX_ac aX_fa aX_in aX_yr aX_ti W_n (upd W_ac (Int32.toNatClampNeg x3) (X_ac (Int32.toNatClampNeg x2))) st39.2.1 st39.2.2 (upd W_yr (Int32.toNatClampNeg x3) (X_yr (Int32.toNatClampNeg x2))) (upd W_ti (Int32.toNatClampNeg x3) (X_ti (Int32.toNatClampNeg x2))) X_n X_ac X_fa X_in X_yr X_ti) H → va_D A (w_X9_copyWork cI aW aW_ac aW_fa aW_in aW_yr aW_ti aX aX_ac aX_fa aX_in aX_yr aX_ti W_n (upd W_ac (Int32.toNatClampNeg x3) (X_ac (Int32.toNatClampNeg x2))) st39.2.1 st39.2.2 (upd W_yr (Int32.toNatClampNeg x3) (X_yr (Int32.toNatClampNeg x2))) (upd W_ti (Int32.toNatClampNeg x3) (X_ti (Int32.toNatClampNeg x2))) X_n X_ac X_fa X_in X_yr X_ti) → va_S A s.heap H locs → lv_has ls 5 [(0, .ref aW), (1, .ref aX), (2, .int x2), (3, .int x3), (4, .int st39.1)] → W p l e rm_X9_copyWork s m args below meth c H locs 0 0 Q (F0 m 39 ls [])) (e := e7) (fun st39 x hm hG hE => ?_) fu _ hc7 H locs ls hP hD hS (lv_sub hl [1, 2, 3, 4, 0] rfl)
  intro H locs ls hP hD hS hl
  refine lv_iload hx hb dX9_copyWork_39 (lv_at hl 4 rfl) ?_
  refine lv_iconst (v := 4) hx hb dX9_copyWork_41 (by decide) ?_
  refine lv_icmp_ge (tgt := 95) hx hb dX9_copyWork_42 (by decide) (fun c8 => ?_) (fun c8 => ?_)
  · replace hm := if_t c8 hm
    have h9 := hE _ (Option.some.inj hm).symm
    subst h9
    exact X7_0 H locs ls hP hD hS (lv_sub hl [0] rfl)
  · replace hm := if_f c8 hm
    refine lv_aload_n hx hb dX9_copyWork_45 rfl (lv_at hl 0 rfl) ?_
    refine va_get (D := D) (ci := 9) (v := .ref aW_fa) (C := RX9) (T := TX9) (N := 6) hx hb hts k2 hown hKv hP 0 rfl rfl 2 (by decide) k5 (fun _ h9 => h9) rfl dX9_copyWork_46 ?_
    refine lv_iload_n hx hb dX9_copyWork_49 rfl (lv_at hl 3 rfl) ?_
    refine lv_iconst (v := 4) hx hb dX9_copyWork_50 (by decide) ?_
    refine lv_imul hx hb dX9_copyWork_51 ?_
    refine lv_iload hx hb dX9_copyWork_52 (lv_at hl 4 rfl) ?_
    refine lv_iadd hx hb dX9_copyWork_54 ?_
    refine lv_aload_n hx hb dX9_copyWork_55 rfl (lv_at hl 1 rfl) ?_
    refine va_get (D := D) (ci := 9) (v := .ref aX_fa) (C := RX9) (T := TX9) (N := 6) hx hb hts k2 hown hKv hP 6 rfl rfl 2 (by decide) k5 (fun _ h9 => h9) rfl dX9_copyWork_56 ?_
    refine lv_iload_n hx hb dX9_copyWork_59 rfl (lv_at hl 2 rfl) ?_
    refine lv_iconst (v := 4) hx hb dX9_copyWork_60 (by decide) ?_
    refine lv_imul hx hb dX9_copyWork_61 ?_
    refine lv_iload hx hb dX9_copyWork_62 (lv_at hl 4 rfl) ?_
    refine lv_iadd hx hb dX9_copyWork_64 ?_
    replace hm := ck_some hm
    obtain ⟨h9, hm⟩ := hm
    refine va_iald hx hb hKv hP 8 0 rfl rfl h9 dX9_copyWork_65 ?_
    replace hm := ck_some hm
    obtain ⟨h10, hm⟩ := hm
    refine va_iast hx hb hKv hP hD hS 2 0 rfl rfl h10 dX9_copyWork_66 (fun H locs hP hD hS => ?_)
    replace hP : va_P D vwCl (w_X9_copyWork cI aW aW_ac aW_fa aW_in aW_yr aW_ti aX aX_ac aX_fa aX_in aX_yr aX_ti W_n (upd W_ac (Int32.toNatClampNeg x3) (X_ac (Int32.toNatClampNeg x2))) (upd st39.2.1 (Int32.toNatClampNeg ((x3 * 4) + st39.1)) (X_fa (Int32.toNatClampNeg ((x2 * 4) + st39.1)))) st39.2.2 (upd W_yr (Int32.toNatClampNeg x3) (X_yr (Int32.toNatClampNeg x2))) (upd W_ti (Int32.toNatClampNeg x3) (X_ti (Int32.toNatClampNeg x2))) X_n X_ac X_fa X_in X_yr X_ti) H := hP
    replace hD : va_D A (w_X9_copyWork cI aW aW_ac aW_fa aW_in aW_yr aW_ti aX aX_ac aX_fa aX_in aX_yr aX_ti W_n (upd W_ac (Int32.toNatClampNeg x3) (X_ac (Int32.toNatClampNeg x2))) (upd st39.2.1 (Int32.toNatClampNeg ((x3 * 4) + st39.1)) (X_fa (Int32.toNatClampNeg ((x2 * 4) + st39.1)))) st39.2.2 (upd W_yr (Int32.toNatClampNeg x3) (X_yr (Int32.toNatClampNeg x2))) (upd W_ti (Int32.toNatClampNeg x3) (X_ti (Int32.toNatClampNeg x2))) X_n X_ac X_fa X_in X_yr X_ti) := hD
    refine lv_aload_n hx hb dX9_copyWork_67 rfl (lv_at hl 0 rfl) ?_
    refine va_get (D := D) (ci := 9) (v := .ref aW_in) (C := RX9) (T := TX9) (N := 6) hx hb hts k2 hown hKv hP 0 rfl rfl 3 (by decide) k6 (fun _ h9 => h9) rfl dX9_copyWork_68 ?_
    refine lv_iload_n hx hb dX9_copyWork_71 rfl (lv_at hl 3 rfl) ?_
    refine lv_iconst (v := 4) hx hb dX9_copyWork_72 (by decide) ?_
    refine lv_imul hx hb dX9_copyWork_73 ?_
    refine lv_iload hx hb dX9_copyWork_74 (lv_at hl 4 rfl) ?_
    refine lv_iadd hx hb dX9_copyWork_76 ?_
    refine lv_aload_n hx hb dX9_copyWork_77 rfl (lv_at hl 1 rfl) ?_
    refine va_get (D := D) (ci := 9) (v := .ref aX_in) (C := RX9) (T := TX9) (N := 6) hx hb hts k2 hown hKv hP 6 rfl rfl 3 (by decide) k6 (fun _ h9 => h9) rfl dX9_copyWork_78 ?_
    refine lv_iload_n hx hb dX9_copyWork_81 rfl (lv_at hl 2 rfl) ?_
    refine lv_iconst (v := 4) hx hb dX9_copyWork_82 (by decide) ?_
    refine lv_imul hx hb dX9_copyWork_83 ?_
    refine lv_iload hx hb dX9_copyWork_84 (lv_at hl 4 rfl) ?_
    refine lv_iadd hx hb dX9_copyWork_86 ?_
    replace hm := ck_some hm
    obtain ⟨h11, hm⟩ := hm
    refine va_iald hx hb hKv hP 9 0 rfl rfl h11 dX9_copyWork_87 ?_
    replace hm := ck_some hm
    obtain ⟨h12, hm⟩ := hm
    refine va_iast hx hb hKv hP hD hS 3 0 rfl rfl h12 dX9_copyWork_88 (fun H locs hP hD hS => ?_)
    replace hP : va_P D vwCl (w_X9_copyWork cI aW aW_ac aW_fa aW_in aW_yr aW_ti aX aX_ac aX_fa aX_in aX_yr aX_ti W_n (upd W_ac (Int32.toNatClampNeg x3) (X_ac (Int32.toNatClampNeg x2))) (upd st39.2.1 (Int32.toNatClampNeg ((x3 * 4) + st39.1)) (X_fa (Int32.toNatClampNeg ((x2 * 4) + st39.1)))) (upd st39.2.2 (Int32.toNatClampNeg ((x3 * 4) + st39.1)) (X_in (Int32.toNatClampNeg ((x2 * 4) + st39.1)))) (upd W_yr (Int32.toNatClampNeg x3) (X_yr (Int32.toNatClampNeg x2))) (upd W_ti (Int32.toNatClampNeg x3) (X_ti (Int32.toNatClampNeg x2))) X_n X_ac X_fa X_in X_yr X_ti) H := hP
    replace hD : va_D A (w_X9_copyWork cI aW aW_ac aW_fa aW_in aW_yr aW_ti aX aX_ac aX_fa aX_in aX_yr aX_ti W_n (upd W_ac (Int32.toNatClampNeg x3) (X_ac (Int32.toNatClampNeg x2))) (upd st39.2.1 (Int32.toNatClampNeg ((x3 * 4) + st39.1)) (X_fa (Int32.toNatClampNeg ((x2 * 4) + st39.1)))) (upd st39.2.2 (Int32.toNatClampNeg ((x3 * 4) + st39.1)) (X_in (Int32.toNatClampNeg ((x2 * 4) + st39.1)))) (upd W_yr (Int32.toNatClampNeg x3) (X_yr (Int32.toNatClampNeg x2))) (upd W_ti (Int32.toNatClampNeg x3) (X_ti (Int32.toNatClampNeg x2))) X_n X_ac X_fa X_in X_yr X_ti) := hD
    refine lv_iinc (v := (st39.1 + 1)) (lv' := [(4, .int (st39.1 + 1)), (0, .ref aW), (1, .ref aX), (2, .int x2), (3, .int x3)]) hx hb dX9_copyWork_89 hl (k := 4) rfl rfl (by decide) rfl (fun ls hl => ?_)
    refine lv_goto (tgt := 39) hx hb dX9_copyWork_92 (by decide) ?_
    exact hG _ (Option.some.inj hm).symm H locs ls hP hD hS (lv_sub hl [1, 2, 3, 4, 0] rfl)
set_option maxHeartbeats 4000000 in
set_option maxRecDepth 100000 in
theorem c_X9_copyFrom (l : Launch) (D : va_G) (cI cJ cZ cS : ClassId) (aW aW_ac aW_fa aW_in aW_yr aW_ti aX aX_ac aX_fa aX_in aX_yr aX_ti : Nat) (W_n : Int32) (W_ac : Nat → Int32) (W_fa : Nat → Int32) (W_in : Nat → Int32) (W_yr : Nat → Int32) (W_ti : Nat → Int32) (X_n : Int32) (X_ac : Nat → Int32) (X_fa : Nat → Int32) (X_in : Nat → Int32) (X_yr : Nat → Int32) (X_ti : Nat → Int32) (o : Int32 × (Nat → Int32) × (Nat → Int32) × (Nat → Int32) × (Nat → Int32) × (Nat → Int32)) (hm : m_X9_copyFrom W_n W_ac W_fa W_in W_yr W_ti X_n X_ac X_fa X_in X_yr X_ti = some o) : MV l yX9_copyFrom wsX9_copyFrom rm_X9_copyFrom D (TY cI cJ cZ cS) [.ref aW, .ref aX] (w_X9_copyFrom cI aW aW_ac aW_fa aW_in aW_yr aW_ti aX aX_ac aX_fa aX_in aX_yr aX_ti W_n W_ac W_fa W_in W_yr W_ti X_n X_ac X_fa X_in X_yr X_ti) (w_X9_copyFrom cI aW aW_ac aW_fa aW_in aW_yr aW_ti aX aX_ac aX_fa aX_in aX_yr aX_ti o.1 o.2.1 o.2.2.1 o.2.2.2.1 o.2.2.2.2.1 o.2.2.2.2.2 X_n X_ac X_fa X_in X_yr X_ti) := by
  refine MV_of (cc := cX9_copyFrom) (maxL := 3) (by decide) rfl (Nat.le_of_ble_eq_true rfl) ?_
  intro p e s m args below meth c A Q ls H locs hx hb hml hts hown hK hA hP hD hS hl hret
  have hown : s.vm.findClass RX9 = some m.cls := hown
  have hKv : va_K D vwCl (TY cI cJ cZ cS) s := hK.1
  have hl : lv_has ls 3 [(0, .ref aW), (1, .ref aX)] := hl
  have S : CallFix p m c cX9_copyFrom 3 s args wsX9_copyFrom RX9 := ⟨hx, hb, hml, hown, hts⟩
  have k1 := hts (.fieldLink RX9 9 "CitationFormatter$Works" "count" "I") (by decide +kernel)
  have k2 : ∀ w ∈ wsX90, w ∈ wsX9_copyFrom := by decide +kernel
  have k3 : CallW rm_X9_copyFrom s args RX9 RX9 31 yX9_copyWork cX9_copyWork 5 none wsX9_copyWork rm_X9_copyWork 0 0 3 := cwV 3 hts gX9_copyFrom_X9_copyWork rfl rfl rfl (by decide +kernel) ⟨Nat.le_of_ble_eq_true rfl, Nat.le_of_ble_eq_true rfl⟩
  refine lv_aload_n hx hb dX9_copyFrom_0 rfl (lv_at hl 0 rfl) ?_
  refine lv_aload_n hx hb dX9_copyFrom_1 rfl (lv_at hl 1 rfl) ?_
  refine va_get (D := D) (ci := 9) (v := .int X_n) (C := RX9) (T := TX9) (N := 6) hx hb hts k2 hown hKv hP 6 rfl rfl 0 (by decide) k1 (fun _ h9 => h9) rfl dX9_copyFrom_2 ?_
  refine va_put (D := D) (ci := 9) (v := .int X_n) (ty := .int) (C := RX9) (T := TX9) (N := 6) hx hb hts k2 tyX9 tyX9_ok nmX9 hown hKv hP hD hS 0 rfl rfl 0 (by decide) k1 (fun _ h9 => h9) rfl (by decide +kernel) rfl rfl (Nat.le_of_ble_eq_true rfl) dX9_copyFrom_5 (fun H locs hP hD hS => ?_)
  replace hP : va_P D vwCl (w_X9_copyFrom cI aW aW_ac aW_fa aW_in aW_yr aW_ti aX aX_ac aX_fa aX_in aX_yr aX_ti X_n W_ac W_fa W_in W_yr W_ti X_n X_ac X_fa X_in X_yr X_ti) H := hP
  replace hD : va_D A (w_X9_copyFrom cI aW aW_ac aW_fa aW_in aW_yr aW_ti aX aX_ac aX_fa aX_in aX_yr aX_ti X_n W_ac W_fa W_in W_yr W_ti X_n X_ac X_fa X_in X_yr X_ti) := hD
  refine lv_iconst (v := 0) hx hb dX9_copyFrom_8 (by decide) ?_
  refine lv_istore_n (lv' := [(2, .int 0), (0, .ref aW), (1, .ref aX)]) hx hb dX9_copyFrom_9 rfl hl (by decide) rfl (fun ls hl => ?_)
  replace hm := bd_some hm
  obtain ⟨e1, hc1, hm⟩ := hm
  have X1_0 : ∀ (H : Heap) (locs : List Loc) (ls : Array Slot), va_P D vwCl (w_X9_copyFrom cI aW aW_ac aW_fa aW_in aW_yr aW_ti aX aX_ac aX_fa aX_in aX_yr aX_ti X_n e1.1 e1.2.1 e1.2.2.1 e1.2.2.2.1 e1.2.2.2.2 X_n X_ac X_fa X_in X_yr X_ti) H → va_D A (w_X9_copyFrom cI aW aW_ac aW_fa aW_in aW_yr aW_ti aX aX_ac aX_fa aX_in aX_yr aX_ti X_n e1.1 e1.2.1 e1.2.2.1 e1.2.2.2.1 e1.2.2.2.2 X_n X_ac X_fa X_in X_yr X_ti) → va_S A s.heap H locs → lv_has ls 3 [(0, .ref aW)] → W p l e rm_X9_copyFrom s m args below meth c H locs 0 0 Q (F0 m 31 ls []) := by
    intro H locs ls hP hD hS hl
    have h9 := Option.some.inj hm
    subst h9
    exact hret H locs _ ls hP hD hS dX9_copyFrom_31
  refine it_W (G := fun (st10 : Int32 × (Nat → Int32) × (Nat → Int32) × (Nat → Int32) × (Nat → Int32) × (Nat → Int32)) => ∀ (H : Heap) (locs : List Loc) (ls : Array Slot), va_P D vwCl (w_X9_copyFrom cI aW aW_ac aW_fa aW_in aW_yr aW_ti aX aX_ac aX_fa aX_in aX_yr aX_ti X_n st10.2.1 st10.2.2.1 st10.2.2.2.1 st10.2.2.2.2.1 st10.2.2.2.2.2 X_n X_ac X_fa X_in X_yr X_ti) H → va_D A (w_X9_copyFrom cI aW aW_ac aW_fa aW_in aW_yr aW_ti aX aX_ac aX_fa aX_in aX_yr aX_ti X_n st10.2.1 st10.2.2.1 st10.2.2.2.1 st10.2.2.2.2.1 st10.2.2.2.2.2 X_n X_ac X_fa X_in X_yr X_ti) → va_S A s.heap H locs → lv_has ls 3 [(0, .ref aW), (1, .ref aX), (2, .int st10.1)] → W p l e rm_X9_copyFrom s m args below meth c H locs 0 0 Q (F0 m 10 ls [])) (e := e1) (fun st10 x hm hG hE => ?_) fu _ hc1 H locs ls hP hD hS (lv_sub hl [1, 2, 0] rfl)
  intro H locs ls hP hD hS hl
  refine lv_iload_n hx hb dX9_copyFrom_10 rfl (lv_at hl 2 rfl) ?_
  refine lv_aload_n hx hb dX9_copyFrom_11 rfl (lv_at hl 0 rfl) ?_
  refine va_get (D := D) (ci := 9) (v := .int X_n) (C := RX9) (T := TX9) (N := 6) hx hb hts k2 hown hKv hP 0 rfl rfl 0 (by decide) k1 (fun _ h9 => h9) rfl dX9_copyFrom_12 ?_
  refine lv_icmp_ge (tgt := 31) hx hb dX9_copyFrom_15 (by decide) (fun c2 => ?_) (fun c2 => ?_)
  · replace hm := if_t c2 hm
    have h9 := hE _ (Option.some.inj hm).symm
    subst h9
    exact X1_0 H locs ls hP hD hS (lv_sub hl [0] rfl)
  · replace hm := if_f c2 hm
    refine lv_aload_n hx hb dX9_copyFrom_18 rfl (lv_at hl 0 rfl) ?_
    refine lv_aload_n hx hb dX9_copyFrom_19 rfl (lv_at hl 1 rfl) ?_
    refine lv_iload_n hx hb dX9_copyFrom_20 rfl (lv_at hl 2 rfl) ?_
    refine lv_iload_n hx hb dX9_copyFrom_21 rfl (lv_at hl 2 rfl) ?_
    replace hm := bd_some hm
    obtain ⟨e3, hc3, hm⟩ := hm
    obtain ⟨e3_0, e3_1, e3_2, e3_3, e3_4⟩ := e3
    refine kV_v (rest := []) (ws' := (w_X9_copyFrom cI aW aW_ac aW_fa aW_in aW_yr aW_ti aX aX_ac aX_fa aX_in aX_yr aX_ti X_n e3_0 e3_1 e3_2 e3_3 e3_4 X_n X_ac X_fa X_in X_yr X_ti)) S (c_X9_copyWork l D cI cJ cZ cS aW aW_ac aW_fa aW_in aW_yr aW_ti aX aX_ac aX_fa aX_in aX_yr aX_ti X_n st10.2.1 st10.2.2.1 st10.2.2.2.1 st10.2.2.2.2.1 st10.2.2.2.2.2 X_n X_ac X_fa X_in X_yr X_ti st10.1 st10.1 (e3_0, e3_1, e3_2, e3_3, e3_4) hc3) k3 hK hP hD hS hA 0 rfl rfl rfl rfl hl.1 rfl (Nat.le_of_ble_eq_true rfl) ⟨Nat.zero_le _, Nat.zero_le _⟩ dX9_copyFrom_22 [0, 1, 2, 3, 4, 5, 6, 7, 8, 9, 10, 11] rfl rfl wa_X9_copyWork (sa_eq [] [] 12 rfl rfl rfl rfl rfl rfl rfl) (fun H locs hP hD hS => ?_)
    refine lv_iinc (v := (st10.1 + 1)) (lv' := [(2, .int (st10.1 + 1)), (0, .ref aW), (1, .ref aX)]) hx hb dX9_copyFrom_25 hl (k := 2) rfl rfl (by decide) rfl (fun ls hl => ?_)
    refine lv_goto (tgt := 10) hx hb dX9_copyFrom_28 (by decide) ?_
    exact hG _ (Option.some.inj hm).symm H locs ls hP hD hS (lv_sub hl [1, 2, 0] rfl)
set_option maxHeartbeats 4000000 in
set_option maxRecDepth 100000 in
theorem c_X9_has (l : Launch) (D : va_G) (cI cJ cZ cS : ClassId) (aW aW_ac aW_fa aW_in aW_yr aW_ti : Nat) (W_n : Int32) (x1 : Int32) (o : Int32) (hm : m_X9_has W_n x1 = some o) : MI l yX9_has wsX9_has rm_X9_has D (TY cI cJ cZ cS) [.ref aW, .int x1] (w_X9_has aW aW_ac aW_fa aW_in aW_yr aW_ti W_n) (w_X9_has aW aW_ac aW_fa aW_in aW_yr aW_ti W_n) (o) := by
  refine MZ_of (cc := cX9_has) (maxL := 2) (by decide) rfl (Nat.le_of_ble_eq_true rfl) ?_
  intro p e s m args below meth c A Q ls H locs hx hb hml hts hown hK hA hP hD hS hl hret
  have hown : s.vm.findClass RX9 = some m.cls := hown
  have hKv : va_K D vwCl (TY cI cJ cZ cS) s := hK.1
  have hl : lv_has ls 2 [(0, .ref aW), (1, .int x1)] := hl
  have S : CallFix p m c cX9_has 2 s args wsX9_has RX9 := ⟨hx, hb, hml, hown, hts⟩
  have k1 := hts (.fieldLink RX9 9 "CitationFormatter$Works" "count" "I") (by decide +kernel)
  have k2 : ∀ w ∈ wsX90, w ∈ wsX9_has := by decide +kernel
  have J17 : ∀ (y0_j17 : Int32), (m_X9_has_J17 y0_j17 = some o) → ∀ (H : Heap) (locs : List Loc) (ls : Array Slot), va_P D vwCl (w_X9_has aW aW_ac aW_fa aW_in aW_yr aW_ti W_n) H → va_D A (w_X9_has aW aW_ac aW_fa aW_in aW_yr aW_ti W_n) → va_S A s.heap H locs → lv_has ls 2 [(0, .ref aW)] → W p l e rm_X9_has s m args below meth c H locs 0 0 Q (F0 m 17 ls [.int y0_j17]) := by
    intro y0_j17 hm H locs ls hP hD hS hl
    replace hm := ckb_some hm
    obtain ⟨h1, hm⟩ := hm
    have h9 := Option.some.inj hm
    subst h9
    exact hret H locs _ ls _ h1 hP hD hS rfl dX9_has_17
  have J16 : (m_X9_has_J16 = some o) → ∀ (H : Heap) (locs : List Loc) (ls : Array Slot), va_P D vwCl (w_X9_has aW aW_ac aW_fa aW_in aW_yr aW_ti W_n) H → va_D A (w_X9_has aW aW_ac aW_fa aW_in aW_yr aW_ti W_n) → va_S A s.heap H locs → lv_has ls 2 [(0, .ref aW)] → W p l e rm_X9_has s m args below meth c H locs 0 0 Q (F0 m 16 ls []) := by
    intro  hm H locs ls hP hD hS hl
    refine lv_iconst (v := 0) hx hb dX9_has_16 (by decide) ?_
    exact J17 0 hm H locs ls hP hD hS (lv_sub hl [0] rfl)
  refine lv_iload_n hx hb dX9_has_0 rfl (lv_at hl 1 rfl) ?_
  refine lv_if_lt (tgt := 16) hx hb dX9_has_1 (by decide) (fun c2 => ?_) (fun c2 => ?_)
  · replace hm := if_t c2 hm
    exact J16  hm H locs ls hP hD hS (lv_sub hl [0] rfl)
  · replace hm := if_f c2 hm
    refine lv_iload_n hx hb dX9_has_4 rfl (lv_at hl 1 rfl) ?_
    refine lv_aload_n hx hb dX9_has_5 rfl (lv_at hl 0 rfl) ?_
    refine va_get (D := D) (ci := 9) (v := .int W_n) (C := RX9) (T := TX9) (N := 6) hx hb hts k2 hown hKv hP 0 rfl rfl 0 (by decide) k1 (fun _ h9 => h9) rfl dX9_has_6 ?_
    refine lv_icmp_ge (tgt := 16) hx hb dX9_has_9 (by decide) (fun c3 => ?_) (fun c3 => ?_)
    · replace hm := if_t c3 hm
      exact J16  hm H locs ls hP hD hS (lv_sub hl [0] rfl)
    · replace hm := if_f c3 hm
      refine lv_iconst (v := 1) hx hb dX9_has_12 (by decide) ?_
      refine lv_goto (tgt := 17) hx hb dX9_has_13 (by decide) ?_
      exact J17 1 hm H locs ls hP hD hS (lv_sub hl [0] rfl)
set_option maxHeartbeats 4000000 in
set_option maxRecDepth 100000 in
theorem c_X9_copyWork_self (l : Launch) (D : va_G) (cI cJ cZ cS : ClassId) (aW aW_ac aW_fa aW_in aW_yr aW_ti : Nat) (W_n : Int32) (W_ac : Nat → Int32) (W_fa : Nat → Int32) (W_in : Nat → Int32) (W_yr : Nat → Int32) (W_ti : Nat → Int32) (x2 : Int32) (x3 : Int32) (o : (Nat → Int32) × (Nat → Int32) × (Nat → Int32) × (Nat → Int32) × (Nat → Int32)) (hm : m_X9_copyWork_self W_ac W_fa W_in W_yr W_ti x2 x3 = some o) : MV l yX9_copyWork wsX9_copyWork rm_X9_copyWork_self D (TY cI cJ cZ cS) [.ref aW, .ref aW, .int x2, .int x3] (w_X9_copyWork_self cI aW aW_ac aW_fa aW_in aW_yr aW_ti W_n W_ac W_fa W_in W_yr W_ti) (w_X9_copyWork_self cI aW aW_ac aW_fa aW_in aW_yr aW_ti W_n o.1 o.2.1 o.2.2.1 o.2.2.2.1 o.2.2.2.2) := by
  refine MV_of (cc := cX9_copyWork) (maxL := 5) (by decide) rfl (Nat.le_of_ble_eq_true rfl) ?_
  intro p e s m args below meth c A Q ls H locs hx hb hml hts hown hK hA hP hD hS hl hret
  have hown : s.vm.findClass RX9 = some m.cls := hown
  have hKv : va_K D vwCl (TY cI cJ cZ cS) s := hK.1
  have hl : lv_has ls 5 [(0, .ref aW), (1, .ref aW), (2, .int x2), (3, .int x3)] := hl
  have S : CallFix p m c cX9_copyWork 5 s args wsX9_copyWork RX9 := ⟨hx, hb, hml, hown, hts⟩
  have k1 := hts (.fieldLink RX9 15 "CitationFormatter$Works" "authorCounts" "[I") (by decide +kernel)
  have k2 : ∀ w ∈ wsX90, w ∈ wsX9_copyWork := by decide +kernel
  have k3 := hts (.fieldLink RX9 25 "CitationFormatter$Works" "years" "[I") (by decide +kernel)
  have k4 := hts (.fieldLink RX9 28 "CitationFormatter$Works" "titles" "[I") (by decide +kernel)
  have k5 := hts (.fieldLink RX9 19 "CitationFormatter$Works" "families" "[I") (by decide +kernel)
  have k6 := hts (.fieldLink RX9 22 "CitationFormatter$Works" "initials" "[I") (by decide +kernel)
  refine lv_aload_n hx hb dX9_copyWork_0 rfl (lv_at hl 0 rfl) ?_
  refine va_get (D := D) (ci := 9) (v := .ref aW_ac) (C := RX9) (T := TX9) (N := 6) hx hb hts k2 hown hKv hP 0 rfl rfl 1 (by decide) k1 (fun _ h9 => h9) rfl dX9_copyWork_1 ?_
  refine lv_iload_n hx hb dX9_copyWork_4 rfl (lv_at hl 3 rfl) ?_
  refine lv_aload_n hx hb dX9_copyWork_5 rfl (lv_at hl 1 rfl) ?_
  refine va_get (D := D) (ci := 9) (v := .ref aW_ac) (C := RX9) (T := TX9) (N := 6) hx hb hts k2 hown hKv hP 0 rfl rfl 1 (by decide) k1 (fun _ h9 => h9) rfl dX9_copyWork_6 ?_
  refine lv_iload_n hx hb dX9_copyWork_9 rfl (lv_at hl 2 rfl) ?_
  replace hm := ck_some hm
  obtain ⟨h1, hm⟩ := hm
  refine va_iald hx hb hKv hP 1 0 rfl rfl h1 dX9_copyWork_10 ?_
  replace hm := ck_some hm
  obtain ⟨h2, hm⟩ := hm
  refine va_iast hx hb hKv hP hD hS 1 0 rfl rfl h2 dX9_copyWork_11 (fun H locs hP hD hS => ?_)
  replace hP : va_P D vwCl (w_X9_copyWork_self cI aW aW_ac aW_fa aW_in aW_yr aW_ti W_n (upd W_ac (Int32.toNatClampNeg x3) (W_ac (Int32.toNatClampNeg x2))) W_fa W_in W_yr W_ti) H := hP
  replace hD : va_D A (w_X9_copyWork_self cI aW aW_ac aW_fa aW_in aW_yr aW_ti W_n (upd W_ac (Int32.toNatClampNeg x3) (W_ac (Int32.toNatClampNeg x2))) W_fa W_in W_yr W_ti) := hD
  refine lv_aload_n hx hb dX9_copyWork_12 rfl (lv_at hl 0 rfl) ?_
  refine va_get (D := D) (ci := 9) (v := .ref aW_yr) (C := RX9) (T := TX9) (N := 6) hx hb hts k2 hown hKv hP 0 rfl rfl 4 (by decide) k3 (fun _ h9 => h9) rfl dX9_copyWork_13 ?_
  refine lv_iload_n hx hb dX9_copyWork_16 rfl (lv_at hl 3 rfl) ?_
  refine lv_aload_n hx hb dX9_copyWork_17 rfl (lv_at hl 1 rfl) ?_
  refine va_get (D := D) (ci := 9) (v := .ref aW_yr) (C := RX9) (T := TX9) (N := 6) hx hb hts k2 hown hKv hP 0 rfl rfl 4 (by decide) k3 (fun _ h9 => h9) rfl dX9_copyWork_18 ?_
  refine lv_iload_n hx hb dX9_copyWork_21 rfl (lv_at hl 2 rfl) ?_
  replace hm := ck_some hm
  obtain ⟨h3, hm⟩ := hm
  refine va_iald hx hb hKv hP 4 0 rfl rfl h3 dX9_copyWork_22 ?_
  replace hm := ck_some hm
  obtain ⟨h4, hm⟩ := hm
  refine va_iast hx hb hKv hP hD hS 4 0 rfl rfl h4 dX9_copyWork_23 (fun H locs hP hD hS => ?_)
  replace hP : va_P D vwCl (w_X9_copyWork_self cI aW aW_ac aW_fa aW_in aW_yr aW_ti W_n (upd W_ac (Int32.toNatClampNeg x3) (W_ac (Int32.toNatClampNeg x2))) W_fa W_in (upd W_yr (Int32.toNatClampNeg x3) (W_yr (Int32.toNatClampNeg x2))) W_ti) H := hP
  replace hD : va_D A (w_X9_copyWork_self cI aW aW_ac aW_fa aW_in aW_yr aW_ti W_n (upd W_ac (Int32.toNatClampNeg x3) (W_ac (Int32.toNatClampNeg x2))) W_fa W_in (upd W_yr (Int32.toNatClampNeg x3) (W_yr (Int32.toNatClampNeg x2))) W_ti) := hD
  refine lv_aload_n hx hb dX9_copyWork_24 rfl (lv_at hl 0 rfl) ?_
  refine va_get (D := D) (ci := 9) (v := .ref aW_ti) (C := RX9) (T := TX9) (N := 6) hx hb hts k2 hown hKv hP 0 rfl rfl 5 (by decide) k4 (fun _ h9 => h9) rfl dX9_copyWork_25 ?_
  refine lv_iload_n hx hb dX9_copyWork_28 rfl (lv_at hl 3 rfl) ?_
  refine lv_aload_n hx hb dX9_copyWork_29 rfl (lv_at hl 1 rfl) ?_
  refine va_get (D := D) (ci := 9) (v := .ref aW_ti) (C := RX9) (T := TX9) (N := 6) hx hb hts k2 hown hKv hP 0 rfl rfl 5 (by decide) k4 (fun _ h9 => h9) rfl dX9_copyWork_30 ?_
  refine lv_iload_n hx hb dX9_copyWork_33 rfl (lv_at hl 2 rfl) ?_
  replace hm := ck_some hm
  obtain ⟨h5, hm⟩ := hm
  refine va_iald hx hb hKv hP 5 0 rfl rfl h5 dX9_copyWork_34 ?_
  replace hm := ck_some hm
  obtain ⟨h6, hm⟩ := hm
  refine va_iast hx hb hKv hP hD hS 5 0 rfl rfl h6 dX9_copyWork_35 (fun H locs hP hD hS => ?_)
  replace hP : va_P D vwCl (w_X9_copyWork_self cI aW aW_ac aW_fa aW_in aW_yr aW_ti W_n (upd W_ac (Int32.toNatClampNeg x3) (W_ac (Int32.toNatClampNeg x2))) W_fa W_in (upd W_yr (Int32.toNatClampNeg x3) (W_yr (Int32.toNatClampNeg x2))) (upd W_ti (Int32.toNatClampNeg x3) (W_ti (Int32.toNatClampNeg x2)))) H := hP
  replace hD : va_D A (w_X9_copyWork_self cI aW aW_ac aW_fa aW_in aW_yr aW_ti W_n (upd W_ac (Int32.toNatClampNeg x3) (W_ac (Int32.toNatClampNeg x2))) W_fa W_in (upd W_yr (Int32.toNatClampNeg x3) (W_yr (Int32.toNatClampNeg x2))) (upd W_ti (Int32.toNatClampNeg x3) (W_ti (Int32.toNatClampNeg x2)))) := hD
  refine lv_iconst (v := 0) hx hb dX9_copyWork_36 (by decide) ?_
  refine lv_istore (lv' := [(4, .int 0), (0, .ref aW), (1, .ref aW), (2, .int x2), (3, .int x3)]) hx hb dX9_copyWork_37 hl (by decide) rfl (fun ls hl => ?_)
  replace hm := bd_some hm
  obtain ⟨e7, hc7, hm⟩ := hm
  have X7_0 : ∀ (H : Heap) (locs : List Loc) (ls : Array Slot), va_P D vwCl (w_X9_copyWork_self cI aW aW_ac aW_fa aW_in aW_yr aW_ti W_n (upd W_ac (Int32.toNatClampNeg x3) (W_ac (Int32.toNatClampNeg x2))) e7.1 e7.2 (upd W_yr (Int32.toNatClampNeg x3) (W_yr (Int32.toNatClampNeg x2))) (upd W_ti (Int32.toNatClampNeg x3) (W_ti (Int32.toNatClampNeg x2)))) H → va_D A (w_X9_copyWork_self cI aW aW_ac aW_fa aW_in aW_yr aW_ti W_n (upd W_ac (Int32.toNatClampNeg x3) (W_ac (Int32.toNatClampNeg x2))) e7.1 e7.2 (upd W_yr (Int32.toNatClampNeg x3) (W_yr (Int32.toNatClampNeg x2))) (upd W_ti (Int32.toNatClampNeg x3) (W_ti (Int32.toNatClampNeg x2)))) → va_S A s.heap H locs → lv_has ls 5 [(0, .ref aW)] → W p l e rm_X9_copyWork_self s m args below meth c H locs 0 0 Q (F0 m 95 ls []) := by
    intro H locs ls hP hD hS hl
    have h9 := Option.some.inj hm
    subst h9
    exact hret H locs _ ls hP hD hS dX9_copyWork_95
  refine it_W (G := fun (st39 : Int32 × (Nat → Int32) × (Nat → Int32)) => ∀ (H : Heap) (locs : List Loc) (ls : Array Slot), va_P D vwCl (w_X9_copyWork_self cI aW aW_ac aW_fa aW_in aW_yr aW_ti W_n (upd W_ac (Int32.toNatClampNeg x3) (W_ac (Int32.toNatClampNeg x2))) st39.2.1 st39.2.2 (upd W_yr (Int32.toNatClampNeg x3) (W_yr (Int32.toNatClampNeg x2))) (upd W_ti (Int32.toNatClampNeg x3) (W_ti (Int32.toNatClampNeg x2)))) H → va_D A (w_X9_copyWork_self cI aW aW_ac aW_fa aW_in aW_yr aW_ti W_n (upd W_ac (Int32.toNatClampNeg x3) (W_ac (Int32.toNatClampNeg x2))) st39.2.1 st39.2.2 (upd W_yr (Int32.toNatClampNeg x3) (W_yr (Int32.toNatClampNeg x2))) (upd W_ti (Int32.toNatClampNeg x3) (W_ti (Int32.toNatClampNeg x2)))) → va_S A s.heap H locs → lv_has ls 5 [(0, .ref aW), (1, .ref aW), (2, .int x2), (3, .int x3), (4, .int st39.1)] → W p l e rm_X9_copyWork_self s m args below meth c H locs 0 0 Q (F0 m 39 ls [])) (e := e7) (fun st39 x hm hG hE => ?_) fu _ hc7 H locs ls hP hD hS (lv_sub hl [1, 2, 3, 4, 0] rfl)
  intro H locs ls hP hD hS hl
  refine lv_iload hx hb dX9_copyWork_39 (lv_at hl 4 rfl) ?_
  refine lv_iconst (v := 4) hx hb dX9_copyWork_41 (by decide) ?_
  refine lv_icmp_ge (tgt := 95) hx hb dX9_copyWork_42 (by decide) (fun c8 => ?_) (fun c8 => ?_)
  · replace hm := if_t c8 hm
    have h9 := hE _ (Option.some.inj hm).symm
    subst h9
    exact X7_0 H locs ls hP hD hS (lv_sub hl [0] rfl)
  · replace hm := if_f c8 hm
    refine lv_aload_n hx hb dX9_copyWork_45 rfl (lv_at hl 0 rfl) ?_
    refine va_get (D := D) (ci := 9) (v := .ref aW_fa) (C := RX9) (T := TX9) (N := 6) hx hb hts k2 hown hKv hP 0 rfl rfl 2 (by decide) k5 (fun _ h9 => h9) rfl dX9_copyWork_46 ?_
    refine lv_iload_n hx hb dX9_copyWork_49 rfl (lv_at hl 3 rfl) ?_
    refine lv_iconst (v := 4) hx hb dX9_copyWork_50 (by decide) ?_
    refine lv_imul hx hb dX9_copyWork_51 ?_
    refine lv_iload hx hb dX9_copyWork_52 (lv_at hl 4 rfl) ?_
    refine lv_iadd hx hb dX9_copyWork_54 ?_
    refine lv_aload_n hx hb dX9_copyWork_55 rfl (lv_at hl 1 rfl) ?_
    refine va_get (D := D) (ci := 9) (v := .ref aW_fa) (C := RX9) (T := TX9) (N := 6) hx hb hts k2 hown hKv hP 0 rfl rfl 2 (by decide) k5 (fun _ h9 => h9) rfl dX9_copyWork_56 ?_
    refine lv_iload_n hx hb dX9_copyWork_59 rfl (lv_at hl 2 rfl) ?_
    refine lv_iconst (v := 4) hx hb dX9_copyWork_60 (by decide) ?_
    refine lv_imul hx hb dX9_copyWork_61 ?_
    refine lv_iload hx hb dX9_copyWork_62 (lv_at hl 4 rfl) ?_
    refine lv_iadd hx hb dX9_copyWork_64 ?_
    replace hm := ck_some hm
    obtain ⟨h9, hm⟩ := hm
    refine va_iald hx hb hKv hP 2 0 rfl rfl h9 dX9_copyWork_65 ?_
    replace hm := ck_some hm
    obtain ⟨h10, hm⟩ := hm
    refine va_iast hx hb hKv hP hD hS 2 0 rfl rfl h10 dX9_copyWork_66 (fun H locs hP hD hS => ?_)
    replace hP : va_P D vwCl (w_X9_copyWork_self cI aW aW_ac aW_fa aW_in aW_yr aW_ti W_n (upd W_ac (Int32.toNatClampNeg x3) (W_ac (Int32.toNatClampNeg x2))) (upd st39.2.1 (Int32.toNatClampNeg ((x3 * 4) + st39.1)) (st39.2.1 (Int32.toNatClampNeg ((x2 * 4) + st39.1)))) st39.2.2 (upd W_yr (Int32.toNatClampNeg x3) (W_yr (Int32.toNatClampNeg x2))) (upd W_ti (Int32.toNatClampNeg x3) (W_ti (Int32.toNatClampNeg x2)))) H := hP
    replace hD : va_D A (w_X9_copyWork_self cI aW aW_ac aW_fa aW_in aW_yr aW_ti W_n (upd W_ac (Int32.toNatClampNeg x3) (W_ac (Int32.toNatClampNeg x2))) (upd st39.2.1 (Int32.toNatClampNeg ((x3 * 4) + st39.1)) (st39.2.1 (Int32.toNatClampNeg ((x2 * 4) + st39.1)))) st39.2.2 (upd W_yr (Int32.toNatClampNeg x3) (W_yr (Int32.toNatClampNeg x2))) (upd W_ti (Int32.toNatClampNeg x3) (W_ti (Int32.toNatClampNeg x2)))) := hD
    refine lv_aload_n hx hb dX9_copyWork_67 rfl (lv_at hl 0 rfl) ?_
    refine va_get (D := D) (ci := 9) (v := .ref aW_in) (C := RX9) (T := TX9) (N := 6) hx hb hts k2 hown hKv hP 0 rfl rfl 3 (by decide) k6 (fun _ h9 => h9) rfl dX9_copyWork_68 ?_
    refine lv_iload_n hx hb dX9_copyWork_71 rfl (lv_at hl 3 rfl) ?_
    refine lv_iconst (v := 4) hx hb dX9_copyWork_72 (by decide) ?_
    refine lv_imul hx hb dX9_copyWork_73 ?_
    refine lv_iload hx hb dX9_copyWork_74 (lv_at hl 4 rfl) ?_
    refine lv_iadd hx hb dX9_copyWork_76 ?_
    refine lv_aload_n hx hb dX9_copyWork_77 rfl (lv_at hl 1 rfl) ?_
    refine va_get (D := D) (ci := 9) (v := .ref aW_in) (C := RX9) (T := TX9) (N := 6) hx hb hts k2 hown hKv hP 0 rfl rfl 3 (by decide) k6 (fun _ h9 => h9) rfl dX9_copyWork_78 ?_
    refine lv_iload_n hx hb dX9_copyWork_81 rfl (lv_at hl 2 rfl) ?_
    refine lv_iconst (v := 4) hx hb dX9_copyWork_82 (by decide) ?_
    refine lv_imul hx hb dX9_copyWork_83 ?_
    refine lv_iload hx hb dX9_copyWork_84 (lv_at hl 4 rfl) ?_
    refine lv_iadd hx hb dX9_copyWork_86 ?_
    replace hm := ck_some hm
    obtain ⟨h11, hm⟩ := hm
    refine va_iald hx hb hKv hP 3 0 rfl rfl h11 dX9_copyWork_87 ?_
    replace hm := ck_some hm
    obtain ⟨h12, hm⟩ := hm
    refine va_iast hx hb hKv hP hD hS 3 0 rfl rfl h12 dX9_copyWork_88 (fun H locs hP hD hS => ?_)
    replace hP : va_P D vwCl (w_X9_copyWork_self cI aW aW_ac aW_fa aW_in aW_yr aW_ti W_n (upd W_ac (Int32.toNatClampNeg x3) (W_ac (Int32.toNatClampNeg x2))) (upd st39.2.1 (Int32.toNatClampNeg ((x3 * 4) + st39.1)) (st39.2.1 (Int32.toNatClampNeg ((x2 * 4) + st39.1)))) (upd st39.2.2 (Int32.toNatClampNeg ((x3 * 4) + st39.1)) (st39.2.2 (Int32.toNatClampNeg ((x2 * 4) + st39.1)))) (upd W_yr (Int32.toNatClampNeg x3) (W_yr (Int32.toNatClampNeg x2))) (upd W_ti (Int32.toNatClampNeg x3) (W_ti (Int32.toNatClampNeg x2)))) H := hP
    replace hD : va_D A (w_X9_copyWork_self cI aW aW_ac aW_fa aW_in aW_yr aW_ti W_n (upd W_ac (Int32.toNatClampNeg x3) (W_ac (Int32.toNatClampNeg x2))) (upd st39.2.1 (Int32.toNatClampNeg ((x3 * 4) + st39.1)) (st39.2.1 (Int32.toNatClampNeg ((x2 * 4) + st39.1)))) (upd st39.2.2 (Int32.toNatClampNeg ((x3 * 4) + st39.1)) (st39.2.2 (Int32.toNatClampNeg ((x2 * 4) + st39.1)))) (upd W_yr (Int32.toNatClampNeg x3) (W_yr (Int32.toNatClampNeg x2))) (upd W_ti (Int32.toNatClampNeg x3) (W_ti (Int32.toNatClampNeg x2)))) := hD
    refine lv_iinc (v := (st39.1 + 1)) (lv' := [(4, .int (st39.1 + 1)), (0, .ref aW), (1, .ref aW), (2, .int x2), (3, .int x3)]) hx hb dX9_copyWork_89 hl (k := 4) rfl rfl (by decide) rfl (fun ls hl => ?_)
    refine lv_goto (tgt := 39) hx hb dX9_copyWork_92 (by decide) ?_
    exact hG _ (Option.some.inj hm).symm H locs ls hP hD hS (lv_sub hl [1, 2, 3, 4, 0] rfl)
set_option maxHeartbeats 4000000 in
set_option maxRecDepth 100000 in
theorem c_X9_removeAt (l : Launch) (D : va_G) (cI cJ cZ cS : ClassId) (aW aW_ac aW_fa aW_in aW_yr aW_ti : Nat) (W_n : Int32) (W_ac : Nat → Int32) (W_fa : Nat → Int32) (W_in : Nat → Int32) (W_yr : Nat → Int32) (W_ti : Nat → Int32) (x1 : Int32) (o : Int32 × (Nat → Int32) × (Nat → Int32) × (Nat → Int32) × (Nat → Int32) × (Nat → Int32)) (hm : m_X9_removeAt W_n W_ac W_fa W_in W_yr W_ti x1 = some o) : MV l yX9_removeAt wsX9_removeAt rm_X9_removeAt D (TY cI cJ cZ cS) [.ref aW, .int x1] (w_X9_removeAt cI aW aW_ac aW_fa aW_in aW_yr aW_ti W_n W_ac W_fa W_in W_yr W_ti) (w_X9_removeAt cI aW aW_ac aW_fa aW_in aW_yr aW_ti o.1 o.2.1 o.2.2.1 o.2.2.2.1 o.2.2.2.2.1 o.2.2.2.2.2) := by
  refine MV_of (cc := cX9_removeAt) (maxL := 3) (by decide) rfl (Nat.le_of_ble_eq_true rfl) ?_
  intro p e s m args below meth c A Q ls H locs hx hb hml hts hown hK hA hP hD hS hl hret
  have hown : s.vm.findClass RX9 = some m.cls := hown
  have hKv : va_K D vwCl (TY cI cJ cZ cS) s := hK.1
  have hl : lv_has ls 3 [(0, .ref aW), (1, .int x1)] := hl
  have S : CallFix p m c cX9_removeAt 3 s args wsX9_removeAt RX9 := ⟨hx, hb, hml, hown, hts⟩
  have k1 := hts (.fieldLink RX9 9 "CitationFormatter$Works" "count" "I") (by decide +kernel)
  have k2 : ∀ w ∈ wsX90, w ∈ wsX9_removeAt := by decide +kernel
  have k3 : CallW rm_X9_removeAt s args RX9 RX9 31 yX9_copyWork cX9_copyWork 5 none wsX9_copyWork rm_X9_copyWork_self 0 0 3 := cwV 3 hts gX9_removeAt_X9_copyWork rfl rfl rfl (by decide +kernel) ⟨Nat.le_of_ble_eq_true rfl, Nat.le_of_ble_eq_true rfl⟩
  refine lv_iload_n hx hb dX9_removeAt_0 rfl (lv_at hl 1 rfl) ?_
  refine lv_iconst (v := 1) hx hb dX9_removeAt_1 (by decide) ?_
  refine lv_iadd hx hb dX9_removeAt_2 ?_
  refine lv_istore_n (lv' := [(2, .int (x1 + 1)), (0, .ref aW), (1, .int x1)]) hx hb dX9_removeAt_3 rfl hl (by decide) rfl (fun ls hl => ?_)
  replace hm := bd_some hm
  obtain ⟨e1, hc1, hm⟩ := hm
  have X1_0 : ∀ (H : Heap) (locs : List Loc) (ls : Array Slot), va_P D vwCl (w_X9_removeAt cI aW aW_ac aW_fa aW_in aW_yr aW_ti W_n e1.1 e1.2.1 e1.2.2.1 e1.2.2.2.1 e1.2.2.2.2) H → va_D A (w_X9_removeAt cI aW aW_ac aW_fa aW_in aW_yr aW_ti W_n e1.1 e1.2.1 e1.2.2.1 e1.2.2.2.1 e1.2.2.2.2) → va_S A s.heap H locs → lv_has ls 3 [(0, .ref aW)] → W p l e rm_X9_removeAt s m args below meth c H locs 0 0 Q (F0 m 27 ls []) := by
    intro H locs ls hP hD hS hl
    refine lv_aload_n hx hb dX9_removeAt_27 rfl (lv_at hl 0 rfl) ?_
    refine lv_dup hx hb dX9_removeAt_28 rfl ?_
    refine va_get (D := D) (ci := 9) (v := .int W_n) (C := RX9) (T := TX9) (N := 6) hx hb hts k2 hown hKv hP 0 rfl rfl 0 (by decide) k1 (fun _ h9 => h9) rfl dX9_removeAt_29 ?_
    refine lv_iconst (v := 1) hx hb dX9_removeAt_32 (by decide) ?_
    refine lv_isub hx hb dX9_removeAt_33 ?_
    refine va_put (D := D) (ci := 9) (v := .int (W_n - 1)) (ty := .int) (C := RX9) (T := TX9) (N := 6) hx hb hts k2 tyX9 tyX9_ok nmX9 hown hKv hP hD hS 0 rfl rfl 0 (by decide) k1 (fun _ h9 => h9) rfl (by decide +kernel) rfl rfl (Nat.le_of_ble_eq_true rfl) dX9_removeAt_34 (fun H locs hP hD hS => ?_)
    replace hP : va_P D vwCl (w_X9_removeAt cI aW aW_ac aW_fa aW_in aW_yr aW_ti (W_n - 1) e1.1 e1.2.1 e1.2.2.1 e1.2.2.2.1 e1.2.2.2.2) H := hP
    replace hD : va_D A (w_X9_removeAt cI aW aW_ac aW_fa aW_in aW_yr aW_ti (W_n - 1) e1.1 e1.2.1 e1.2.2.1 e1.2.2.2.1 e1.2.2.2.2) := hD
    have h9 := Option.some.inj hm
    subst h9
    exact hret H locs _ ls hP hD hS dX9_removeAt_37
  refine it_W (G := fun (st4 : Int32 × (Nat → Int32) × (Nat → Int32) × (Nat → Int32) × (Nat → Int32) × (Nat → Int32)) => ∀ (H : Heap) (locs : List Loc) (ls : Array Slot), va_P D vwCl (w_X9_removeAt cI aW aW_ac aW_fa aW_in aW_yr aW_ti W_n st4.2.1 st4.2.2.1 st4.2.2.2.1 st4.2.2.2.2.1 st4.2.2.2.2.2) H → va_D A (w_X9_removeAt cI aW aW_ac aW_fa aW_in aW_yr aW_ti W_n st4.2.1 st4.2.2.1 st4.2.2.2.1 st4.2.2.2.2.1 st4.2.2.2.2.2) → va_S A s.heap H locs → lv_has ls 3 [(0, .ref aW), (2, .int st4.1)] → W p l e rm_X9_removeAt s m args below meth c H locs 0 0 Q (F0 m 4 ls [])) (e := e1) (fun st4 x hm hG hE => ?_) fu _ hc1 H locs ls hP hD hS (lv_sub hl [1, 0] rfl)
  intro H locs ls hP hD hS hl
  refine lv_iload_n hx hb dX9_removeAt_4 rfl (lv_at hl 1 rfl) ?_
  refine lv_aload_n hx hb dX9_removeAt_5 rfl (lv_at hl 0 rfl) ?_
  refine va_get (D := D) (ci := 9) (v := .int W_n) (C := RX9) (T := TX9) (N := 6) hx hb hts k2 hown hKv hP 0 rfl rfl 0 (by decide) k1 (fun _ h9 => h9) rfl dX9_removeAt_6 ?_
  refine lv_icmp_ge (tgt := 27) hx hb dX9_removeAt_9 (by decide) (fun c2 => ?_) (fun c2 => ?_)
  · replace hm := if_t c2 hm
    have h9 := hE _ (Option.some.inj hm).symm
    subst h9
    exact X1_0 H locs ls hP hD hS (lv_sub hl [0] rfl)
  · replace hm := if_f c2 hm
    refine lv_aload_n hx hb dX9_removeAt_12 rfl (lv_at hl 0 rfl) ?_
    refine lv_aload_n hx hb dX9_removeAt_13 rfl (lv_at hl 0 rfl) ?_
    refine lv_iload_n hx hb dX9_removeAt_14 rfl (lv_at hl 1 rfl) ?_
    refine lv_iload_n hx hb dX9_removeAt_15 rfl (lv_at hl 1 rfl) ?_
    refine lv_iconst (v := 1) hx hb dX9_removeAt_16 (by decide) ?_
    refine lv_isub hx hb dX9_removeAt_17 ?_
    replace hm := bd_some hm
    obtain ⟨e3, hc3, hm⟩ := hm
    obtain ⟨e3_0, e3_1, e3_2, e3_3, e3_4⟩ := e3
    refine kV_v (rest := []) (ws' := (w_X9_removeAt cI aW aW_ac aW_fa aW_in aW_yr aW_ti W_n e3_0 e3_1 e3_2 e3_3 e3_4)) S (c_X9_copyWork_self l D cI cJ cZ cS aW aW_ac aW_fa aW_in aW_yr aW_ti W_n st4.2.1 st4.2.2.1 st4.2.2.2.1 st4.2.2.2.2.1 st4.2.2.2.2.2 st4.1 (st4.1 - 1) (e3_0, e3_1, e3_2, e3_3, e3_4) hc3) k3 hK hP hD hS hA 0 rfl rfl rfl rfl hl.1 rfl (Nat.le_of_ble_eq_true rfl) ⟨Nat.zero_le _, Nat.zero_le _⟩ dX9_removeAt_18 [0, 1, 2, 3, 4, 5] rfl rfl wa_X9_copyWork_self (sa_eq [] [] 6 rfl rfl rfl rfl rfl rfl rfl) (fun H locs hP hD hS => ?_)
    refine lv_iinc (v := (st4.1 + 1)) (lv' := [(2, .int (st4.1 + 1)), (0, .ref aW)]) hx hb dX9_removeAt_21 hl (k := 1) rfl rfl (by decide) rfl (fun ls hl => ?_)
    refine lv_goto (tgt := 4) hx hb dX9_removeAt_24 (by decide) ?_
    exact hG _ (Option.some.inj hm).symm H locs ls hP hD hS (lv_sub hl [1, 0] rfl)
set_option maxHeartbeats 4000000 in
set_option maxRecDepth 100000 in
theorem c_X6_copyFrom (l : Launch) (D : va_G) (cI cJ cZ cS : ClassId) (aS aS_ke aS_di aZ aZ_ke aZ_di : Nat) (S_st : Int32) (S_mi : Int32) (S_fi : Int32) (S_sp : Int32) (S_cl : Int32) (S_nu : Int32) (S_co : Int32) (S_ke : Nat → Int32) (S_di : Nat → Int32) (Z_st : Int32) (Z_mi : Int32) (Z_fi : Int32) (Z_sp : Int32) (Z_cl : Int32) (Z_nu : Int32) (Z_co : Int32) (Z_ke : Nat → Int32) (Z_di : Nat → Int32) (o : Int32 × Int32 × Int32 × Int32 × Int32 × Int32 × Int32 × (Nat → Int32) × (Nat → Int32)) (hm : m_X6_copyFrom S_st S_mi S_fi S_sp S_cl S_nu S_co S_ke S_di Z_st Z_mi Z_fi Z_sp Z_cl Z_nu Z_co Z_ke Z_di = some o) : MV l yX6_copyFrom wsX6_copyFrom rm_X6_copyFrom D (TY cI cJ cZ cS) [.ref aS, .ref aZ] (w_X6_copyFrom cI aS aS_ke aS_di aZ aZ_ke aZ_di S_st S_mi S_fi S_sp S_cl S_nu S_co S_ke S_di Z_st Z_mi Z_fi Z_sp Z_cl Z_nu Z_co Z_ke Z_di) (w_X6_copyFrom cI aS aS_ke aS_di aZ aZ_ke aZ_di o.1 o.2.1 o.2.2.1 o.2.2.2.1 o.2.2.2.2.1 o.2.2.2.2.2.1 o.2.2.2.2.2.2.1 o.2.2.2.2.2.2.2.1 o.2.2.2.2.2.2.2.2 Z_st Z_mi Z_fi Z_sp Z_cl Z_nu Z_co Z_ke Z_di) := by
  refine MV_of (cc := cX6_copyFrom) (maxL := 3) (by decide) rfl (Nat.le_of_ble_eq_true rfl) ?_
  intro p e s m args below meth c A Q ls H locs hx hb hml hts hown hK hA hP hD hS hl hret
  have hown : s.vm.findClass RX6 = some m.cls := hown
  have hKv : va_K D vwCl (TY cI cJ cZ cS) s := hK.1
  have hl : lv_has ls 3 [(0, .ref aS), (1, .ref aZ)] := hl
  have S : CallFix p m c cX6_copyFrom 3 s args wsX6_copyFrom RX6 := ⟨hx, hb, hml, hown, hts⟩
  have k1 := hts (.fieldLink RX6 9 "CitationFormatter$Settings" "style" "I") (by decide +kernel)
  have k2 : ∀ w ∈ wsX60, w ∈ wsX6_copyFrom := by decide +kernel
  have k3 := hts (.fieldLink RX6 15 "CitationFormatter$Settings" "etAlMinimum" "I") (by decide +kernel)
  have k4 := hts (.fieldLink RX6 18 "CitationFormatter$Settings" "etAlFirst" "I") (by decide +kernel)
  have k5 := hts (.fieldLink RX6 21 "CitationFormatter$Settings" "steps" "I") (by decide +kernel)
  have k6 := hts (.fieldLink RX6 24 "CitationFormatter$Settings" "collapseLevel" "I") (by decide +kernel)
  have k7 := hts (.fieldLink RX6 27 "CitationFormatter$Settings" "numbering" "I") (by decide +kernel)
  have k8 := hts (.fieldLink RX6 30 "CitationFormatter$Settings" "citeOrder" "I") (by decide +kernel)
  have k9 := hts (.fieldLink RX6 33 "CitationFormatter$Settings" "sortKeys" "[I") (by decide +kernel)
  have k10 := hts (.fieldLink RX6 37 "CitationFormatter$Settings" "sortDirections" "[I") (by decide +kernel)
  refine lv_aload_n hx hb dX6_copyFrom_0 rfl (lv_at hl 0 rfl) ?_
  refine lv_aload_n hx hb dX6_copyFrom_1 rfl (lv_at hl 1 rfl) ?_
  refine va_get (D := D) (ci := 6) (v := .int Z_st) (C := RX6) (T := TX6) (N := 9) hx hb hts k2 hown hKv hP 3 rfl rfl 0 (by decide) k1 (fun _ h9 => h9) rfl dX6_copyFrom_2 ?_
  refine va_put (D := D) (ci := 6) (v := .int Z_st) (ty := .int) (C := RX6) (T := TX6) (N := 9) hx hb hts k2 tyX6 tyX6_ok nmX6 hown hKv hP hD hS 0 rfl rfl 0 (by decide) k1 (fun _ h9 => h9) rfl (by decide +kernel) rfl rfl (Nat.le_of_ble_eq_true rfl) dX6_copyFrom_5 (fun H locs hP hD hS => ?_)
  replace hP : va_P D vwCl (w_X6_copyFrom cI aS aS_ke aS_di aZ aZ_ke aZ_di Z_st S_mi S_fi S_sp S_cl S_nu S_co S_ke S_di Z_st Z_mi Z_fi Z_sp Z_cl Z_nu Z_co Z_ke Z_di) H := hP
  replace hD : va_D A (w_X6_copyFrom cI aS aS_ke aS_di aZ aZ_ke aZ_di Z_st S_mi S_fi S_sp S_cl S_nu S_co S_ke S_di Z_st Z_mi Z_fi Z_sp Z_cl Z_nu Z_co Z_ke Z_di) := hD
  refine lv_aload_n hx hb dX6_copyFrom_8 rfl (lv_at hl 0 rfl) ?_
  refine lv_aload_n hx hb dX6_copyFrom_9 rfl (lv_at hl 1 rfl) ?_
  refine va_get (D := D) (ci := 6) (v := .int Z_mi) (C := RX6) (T := TX6) (N := 9) hx hb hts k2 hown hKv hP 3 rfl rfl 1 (by decide) k3 (fun _ h9 => h9) rfl dX6_copyFrom_10 ?_
  refine va_put (D := D) (ci := 6) (v := .int Z_mi) (ty := .int) (C := RX6) (T := TX6) (N := 9) hx hb hts k2 tyX6 tyX6_ok nmX6 hown hKv hP hD hS 0 rfl rfl 1 (by decide) k3 (fun _ h9 => h9) rfl (by decide +kernel) rfl rfl (Nat.le_of_ble_eq_true rfl) dX6_copyFrom_13 (fun H locs hP hD hS => ?_)
  replace hP : va_P D vwCl (w_X6_copyFrom cI aS aS_ke aS_di aZ aZ_ke aZ_di Z_st Z_mi S_fi S_sp S_cl S_nu S_co S_ke S_di Z_st Z_mi Z_fi Z_sp Z_cl Z_nu Z_co Z_ke Z_di) H := hP
  replace hD : va_D A (w_X6_copyFrom cI aS aS_ke aS_di aZ aZ_ke aZ_di Z_st Z_mi S_fi S_sp S_cl S_nu S_co S_ke S_di Z_st Z_mi Z_fi Z_sp Z_cl Z_nu Z_co Z_ke Z_di) := hD
  refine lv_aload_n hx hb dX6_copyFrom_16 rfl (lv_at hl 0 rfl) ?_
  refine lv_aload_n hx hb dX6_copyFrom_17 rfl (lv_at hl 1 rfl) ?_
  refine va_get (D := D) (ci := 6) (v := .int Z_fi) (C := RX6) (T := TX6) (N := 9) hx hb hts k2 hown hKv hP 3 rfl rfl 2 (by decide) k4 (fun _ h9 => h9) rfl dX6_copyFrom_18 ?_
  refine va_put (D := D) (ci := 6) (v := .int Z_fi) (ty := .int) (C := RX6) (T := TX6) (N := 9) hx hb hts k2 tyX6 tyX6_ok nmX6 hown hKv hP hD hS 0 rfl rfl 2 (by decide) k4 (fun _ h9 => h9) rfl (by decide +kernel) rfl rfl (Nat.le_of_ble_eq_true rfl) dX6_copyFrom_21 (fun H locs hP hD hS => ?_)
  replace hP : va_P D vwCl (w_X6_copyFrom cI aS aS_ke aS_di aZ aZ_ke aZ_di Z_st Z_mi Z_fi S_sp S_cl S_nu S_co S_ke S_di Z_st Z_mi Z_fi Z_sp Z_cl Z_nu Z_co Z_ke Z_di) H := hP
  replace hD : va_D A (w_X6_copyFrom cI aS aS_ke aS_di aZ aZ_ke aZ_di Z_st Z_mi Z_fi S_sp S_cl S_nu S_co S_ke S_di Z_st Z_mi Z_fi Z_sp Z_cl Z_nu Z_co Z_ke Z_di) := hD
  refine lv_aload_n hx hb dX6_copyFrom_24 rfl (lv_at hl 0 rfl) ?_
  refine lv_aload_n hx hb dX6_copyFrom_25 rfl (lv_at hl 1 rfl) ?_
  refine va_get (D := D) (ci := 6) (v := .int Z_sp) (C := RX6) (T := TX6) (N := 9) hx hb hts k2 hown hKv hP 3 rfl rfl 3 (by decide) k5 (fun _ h9 => h9) rfl dX6_copyFrom_26 ?_
  refine va_put (D := D) (ci := 6) (v := .int Z_sp) (ty := .int) (C := RX6) (T := TX6) (N := 9) hx hb hts k2 tyX6 tyX6_ok nmX6 hown hKv hP hD hS 0 rfl rfl 3 (by decide) k5 (fun _ h9 => h9) rfl (by decide +kernel) rfl rfl (Nat.le_of_ble_eq_true rfl) dX6_copyFrom_29 (fun H locs hP hD hS => ?_)
  replace hP : va_P D vwCl (w_X6_copyFrom cI aS aS_ke aS_di aZ aZ_ke aZ_di Z_st Z_mi Z_fi Z_sp S_cl S_nu S_co S_ke S_di Z_st Z_mi Z_fi Z_sp Z_cl Z_nu Z_co Z_ke Z_di) H := hP
  replace hD : va_D A (w_X6_copyFrom cI aS aS_ke aS_di aZ aZ_ke aZ_di Z_st Z_mi Z_fi Z_sp S_cl S_nu S_co S_ke S_di Z_st Z_mi Z_fi Z_sp Z_cl Z_nu Z_co Z_ke Z_di) := hD
  refine lv_aload_n hx hb dX6_copyFrom_32 rfl (lv_at hl 0 rfl) ?_
  refine lv_aload_n hx hb dX6_copyFrom_33 rfl (lv_at hl 1 rfl) ?_
  refine va_get (D := D) (ci := 6) (v := .int Z_cl) (C := RX6) (T := TX6) (N := 9) hx hb hts k2 hown hKv hP 3 rfl rfl 4 (by decide) k6 (fun _ h9 => h9) rfl dX6_copyFrom_34 ?_
  refine va_put (D := D) (ci := 6) (v := .int Z_cl) (ty := .int) (C := RX6) (T := TX6) (N := 9) hx hb hts k2 tyX6 tyX6_ok nmX6 hown hKv hP hD hS 0 rfl rfl 4 (by decide) k6 (fun _ h9 => h9) rfl (by decide +kernel) rfl rfl (Nat.le_of_ble_eq_true rfl) dX6_copyFrom_37 (fun H locs hP hD hS => ?_)
  replace hP : va_P D vwCl (w_X6_copyFrom cI aS aS_ke aS_di aZ aZ_ke aZ_di Z_st Z_mi Z_fi Z_sp Z_cl S_nu S_co S_ke S_di Z_st Z_mi Z_fi Z_sp Z_cl Z_nu Z_co Z_ke Z_di) H := hP
  replace hD : va_D A (w_X6_copyFrom cI aS aS_ke aS_di aZ aZ_ke aZ_di Z_st Z_mi Z_fi Z_sp Z_cl S_nu S_co S_ke S_di Z_st Z_mi Z_fi Z_sp Z_cl Z_nu Z_co Z_ke Z_di) := hD
  refine lv_aload_n hx hb dX6_copyFrom_40 rfl (lv_at hl 0 rfl) ?_
  refine lv_aload_n hx hb dX6_copyFrom_41 rfl (lv_at hl 1 rfl) ?_
  refine va_get (D := D) (ci := 6) (v := .int Z_nu) (C := RX6) (T := TX6) (N := 9) hx hb hts k2 hown hKv hP 3 rfl rfl 5 (by decide) k7 (fun _ h9 => h9) rfl dX6_copyFrom_42 ?_
  refine va_put (D := D) (ci := 6) (v := .int Z_nu) (ty := .int) (C := RX6) (T := TX6) (N := 9) hx hb hts k2 tyX6 tyX6_ok nmX6 hown hKv hP hD hS 0 rfl rfl 5 (by decide) k7 (fun _ h9 => h9) rfl (by decide +kernel) rfl rfl (Nat.le_of_ble_eq_true rfl) dX6_copyFrom_45 (fun H locs hP hD hS => ?_)
  replace hP : va_P D vwCl (w_X6_copyFrom cI aS aS_ke aS_di aZ aZ_ke aZ_di Z_st Z_mi Z_fi Z_sp Z_cl Z_nu S_co S_ke S_di Z_st Z_mi Z_fi Z_sp Z_cl Z_nu Z_co Z_ke Z_di) H := hP
  replace hD : va_D A (w_X6_copyFrom cI aS aS_ke aS_di aZ aZ_ke aZ_di Z_st Z_mi Z_fi Z_sp Z_cl Z_nu S_co S_ke S_di Z_st Z_mi Z_fi Z_sp Z_cl Z_nu Z_co Z_ke Z_di) := hD
  refine lv_aload_n hx hb dX6_copyFrom_48 rfl (lv_at hl 0 rfl) ?_
  refine lv_aload_n hx hb dX6_copyFrom_49 rfl (lv_at hl 1 rfl) ?_
  refine va_get (D := D) (ci := 6) (v := .int Z_co) (C := RX6) (T := TX6) (N := 9) hx hb hts k2 hown hKv hP 3 rfl rfl 6 (by decide) k8 (fun _ h9 => h9) rfl dX6_copyFrom_50 ?_
  refine va_put (D := D) (ci := 6) (v := .int Z_co) (ty := .int) (C := RX6) (T := TX6) (N := 9) hx hb hts k2 tyX6 tyX6_ok nmX6 hown hKv hP hD hS 0 rfl rfl 6 (by decide) k8 (fun _ h9 => h9) rfl (by decide +kernel) rfl rfl (Nat.le_of_ble_eq_true rfl) dX6_copyFrom_53 (fun H locs hP hD hS => ?_)
  replace hP : va_P D vwCl (w_X6_copyFrom cI aS aS_ke aS_di aZ aZ_ke aZ_di Z_st Z_mi Z_fi Z_sp Z_cl Z_nu Z_co S_ke S_di Z_st Z_mi Z_fi Z_sp Z_cl Z_nu Z_co Z_ke Z_di) H := hP
  replace hD : va_D A (w_X6_copyFrom cI aS aS_ke aS_di aZ aZ_ke aZ_di Z_st Z_mi Z_fi Z_sp Z_cl Z_nu Z_co S_ke S_di Z_st Z_mi Z_fi Z_sp Z_cl Z_nu Z_co Z_ke Z_di) := hD
  refine lv_iconst (v := 0) hx hb dX6_copyFrom_56 (by decide) ?_
  refine lv_istore_n (lv' := [(2, .int 0), (0, .ref aS), (1, .ref aZ)]) hx hb dX6_copyFrom_57 rfl hl (by decide) rfl (fun ls hl => ?_)
  replace hm := bd_some hm
  obtain ⟨e1, hc1, hm⟩ := hm
  have X1_0 : ∀ (H : Heap) (locs : List Loc) (ls : Array Slot), va_P D vwCl (w_X6_copyFrom cI aS aS_ke aS_di aZ aZ_ke aZ_di Z_st Z_mi Z_fi Z_sp Z_cl Z_nu Z_co e1.1 e1.2 Z_st Z_mi Z_fi Z_sp Z_cl Z_nu Z_co Z_ke Z_di) H → va_D A (w_X6_copyFrom cI aS aS_ke aS_di aZ aZ_ke aZ_di Z_st Z_mi Z_fi Z_sp Z_cl Z_nu Z_co e1.1 e1.2 Z_st Z_mi Z_fi Z_sp Z_cl Z_nu Z_co Z_ke Z_di) → va_S A s.heap H locs → lv_has ls 3 [(0, .ref aS)] → W p l e rm_X6_copyFrom s m args below meth c H locs 0 0 Q (F0 m 93 ls []) := by
    intro H locs ls hP hD hS hl
    have h9 := Option.some.inj hm
    subst h9
    exact hret H locs _ ls hP hD hS dX6_copyFrom_93
  refine it_W (G := fun (st58 : Int32 × (Nat → Int32) × (Nat → Int32)) => ∀ (H : Heap) (locs : List Loc) (ls : Array Slot), va_P D vwCl (w_X6_copyFrom cI aS aS_ke aS_di aZ aZ_ke aZ_di Z_st Z_mi Z_fi Z_sp Z_cl Z_nu Z_co st58.2.1 st58.2.2 Z_st Z_mi Z_fi Z_sp Z_cl Z_nu Z_co Z_ke Z_di) H → va_D A (w_X6_copyFrom cI aS aS_ke aS_di aZ aZ_ke aZ_di Z_st Z_mi Z_fi Z_sp Z_cl Z_nu Z_co st58.2.1 st58.2.2 Z_st Z_mi Z_fi Z_sp Z_cl Z_nu Z_co Z_ke Z_di) → va_S A s.heap H locs → lv_has ls 3 [(0, .ref aS), (1, .ref aZ), (2, .int st58.1)] → W p l e rm_X6_copyFrom s m args below meth c H locs 0 0 Q (F0 m 58 ls [])) (e := e1) (fun st58 x hm hG hE => ?_) fu _ hc1 H locs ls hP hD hS (lv_sub hl [1, 2, 0] rfl)
  intro H locs ls hP hD hS hl
  refine lv_iload_n hx hb dX6_copyFrom_58 rfl (lv_at hl 2 rfl) ?_
  refine lv_iconst (v := 3) hx hb dX6_copyFrom_59 (by decide) ?_
  refine lv_icmp_ge (tgt := 93) hx hb dX6_copyFrom_60 (by decide) (fun c2 => ?_) (fun c2 => ?_)
  · replace hm := if_t c2 hm
    have h9 := hE _ (Option.some.inj hm).symm
    subst h9
    exact X1_0 H locs ls hP hD hS (lv_sub hl [0] rfl)
  · replace hm := if_f c2 hm
    refine lv_aload_n hx hb dX6_copyFrom_63 rfl (lv_at hl 0 rfl) ?_
    refine va_get (D := D) (ci := 6) (v := .ref aS_ke) (C := RX6) (T := TX6) (N := 9) hx hb hts k2 hown hKv hP 0 rfl rfl 7 (by decide) k9 (fun _ h9 => h9) rfl dX6_copyFrom_64 ?_
    refine lv_iload_n hx hb dX6_copyFrom_67 rfl (lv_at hl 2 rfl) ?_
    refine lv_aload_n hx hb dX6_copyFrom_68 rfl (lv_at hl 1 rfl) ?_
    refine va_get (D := D) (ci := 6) (v := .ref aZ_ke) (C := RX6) (T := TX6) (N := 9) hx hb hts k2 hown hKv hP 3 rfl rfl 7 (by decide) k9 (fun _ h9 => h9) rfl dX6_copyFrom_69 ?_
    refine lv_iload_n hx hb dX6_copyFrom_72 rfl (lv_at hl 2 rfl) ?_
    replace hm := ck_some hm
    obtain ⟨h3, hm⟩ := hm
    refine va_iald hx hb hKv hP 4 0 rfl rfl h3 dX6_copyFrom_73 ?_
    replace hm := ck_some hm
    obtain ⟨h4, hm⟩ := hm
    refine va_iast hx hb hKv hP hD hS 1 0 rfl rfl h4 dX6_copyFrom_74 (fun H locs hP hD hS => ?_)
    replace hP : va_P D vwCl (w_X6_copyFrom cI aS aS_ke aS_di aZ aZ_ke aZ_di Z_st Z_mi Z_fi Z_sp Z_cl Z_nu Z_co (upd st58.2.1 (Int32.toNatClampNeg st58.1) (Z_ke (Int32.toNatClampNeg st58.1))) st58.2.2 Z_st Z_mi Z_fi Z_sp Z_cl Z_nu Z_co Z_ke Z_di) H := hP
    replace hD : va_D A (w_X6_copyFrom cI aS aS_ke aS_di aZ aZ_ke aZ_di Z_st Z_mi Z_fi Z_sp Z_cl Z_nu Z_co (upd st58.2.1 (Int32.toNatClampNeg st58.1) (Z_ke (Int32.toNatClampNeg st58.1))) st58.2.2 Z_st Z_mi Z_fi Z_sp Z_cl Z_nu Z_co Z_ke Z_di) := hD
    refine lv_aload_n hx hb dX6_copyFrom_75 rfl (lv_at hl 0 rfl) ?_
    refine va_get (D := D) (ci := 6) (v := .ref aS_di) (C := RX6) (T := TX6) (N := 9) hx hb hts k2 hown hKv hP 0 rfl rfl 8 (by decide) k10 (fun _ h9 => h9) rfl dX6_copyFrom_76 ?_
    refine lv_iload_n hx hb dX6_copyFrom_79 rfl (lv_at hl 2 rfl) ?_
    refine lv_aload_n hx hb dX6_copyFrom_80 rfl (lv_at hl 1 rfl) ?_
    refine va_get (D := D) (ci := 6) (v := .ref aZ_di) (C := RX6) (T := TX6) (N := 9) hx hb hts k2 hown hKv hP 3 rfl rfl 8 (by decide) k10 (fun _ h9 => h9) rfl dX6_copyFrom_81 ?_
    refine lv_iload_n hx hb dX6_copyFrom_84 rfl (lv_at hl 2 rfl) ?_
    replace hm := ck_some hm
    obtain ⟨h5, hm⟩ := hm
    refine va_iald hx hb hKv hP 5 0 rfl rfl h5 dX6_copyFrom_85 ?_
    replace hm := ck_some hm
    obtain ⟨h6, hm⟩ := hm
    refine va_iast hx hb hKv hP hD hS 2 0 rfl rfl h6 dX6_copyFrom_86 (fun H locs hP hD hS => ?_)
    replace hP : va_P D vwCl (w_X6_copyFrom cI aS aS_ke aS_di aZ aZ_ke aZ_di Z_st Z_mi Z_fi Z_sp Z_cl Z_nu Z_co (upd st58.2.1 (Int32.toNatClampNeg st58.1) (Z_ke (Int32.toNatClampNeg st58.1))) (upd st58.2.2 (Int32.toNatClampNeg st58.1) (Z_di (Int32.toNatClampNeg st58.1))) Z_st Z_mi Z_fi Z_sp Z_cl Z_nu Z_co Z_ke Z_di) H := hP
    replace hD : va_D A (w_X6_copyFrom cI aS aS_ke aS_di aZ aZ_ke aZ_di Z_st Z_mi Z_fi Z_sp Z_cl Z_nu Z_co (upd st58.2.1 (Int32.toNatClampNeg st58.1) (Z_ke (Int32.toNatClampNeg st58.1))) (upd st58.2.2 (Int32.toNatClampNeg st58.1) (Z_di (Int32.toNatClampNeg st58.1))) Z_st Z_mi Z_fi Z_sp Z_cl Z_nu Z_co Z_ke Z_di) := hD
    refine lv_iinc (v := (st58.1 + 1)) (lv' := [(2, .int (st58.1 + 1)), (0, .ref aS), (1, .ref aZ)]) hx hb dX6_copyFrom_87 hl (k := 2) rfl rfl (by decide) rfl (fun ls hl => ?_)
    refine lv_goto (tgt := 58) hx hb dX6_copyFrom_90 (by decide) ?_
    exact hG _ (Option.some.inj hm).symm H locs ls hP hD hS (lv_sub hl [1, 2, 0] rfl)
set_option maxHeartbeats 4000000 in
set_option maxRecDepth 100000 in
theorem c_X7_copyFrom (l : Launch) (D : va_G) (cI cJ cZ cS : ClassId) (aSt aW aS aC aW_ac aW_fa aW_in aW_yr aW_ti aS_ke aS_di aC_sz aC_cd aSu aX aZ aK aX_ac aX_fa aX_in aX_yr aX_ti aZ_ke aZ_di aK_sz aK_cd : Nat) (W_n : Int32) (W_ac : Nat → Int32) (W_fa : Nat → Int32) (W_in : Nat → Int32) (W_yr : Nat → Int32) (W_ti : Nat → Int32) (S_st : Int32) (S_mi : Int32) (S_fi : Int32) (S_sp : Int32) (S_cl : Int32) (S_nu : Int32) (S_co : Int32) (S_ke : Nat → Int32) (S_di : Nat → Int32) (C_n : Int32) (C_sz : Nat → Int32) (C_cd : Nat → Int32) (X_n : Int32) (X_ac : Nat → Int32) (X_fa : Nat → Int32) (X_in : Nat → Int32) (X_yr : Nat → Int32) (X_ti : Nat → Int32) (Z_st : Int32) (Z_mi : Int32) (Z_fi : Int32) (Z_sp : Int32) (Z_cl : Int32) (Z_nu : Int32) (Z_co : Int32) (Z_ke : Nat → Int32) (Z_di : Nat → Int32) (K_n : Int32) (K_sz : Nat → Int32) (K_cd : Nat → Int32) (o : Int32 × (Nat → Int32) × (Nat → Int32) × (Nat → Int32) × (Nat → Int32) × (Nat → Int32) × Int32 × Int32 × Int32 × Int32 × Int32 × Int32 × Int32 × (Nat → Int32) × (Nat → Int32) × Int32 × (Nat → Int32) × (Nat → Int32)) (hm : m_X7_copyFrom W_n W_ac W_fa W_in W_yr W_ti S_st S_mi S_fi S_sp S_cl S_nu S_co S_ke S_di C_n C_sz C_cd X_n X_ac X_fa X_in X_yr X_ti Z_st Z_mi Z_fi Z_sp Z_cl Z_nu Z_co Z_ke Z_di K_n K_sz K_cd = some o) : MV l yX7_copyFrom wsX7_copyFrom rm_X7_copyFrom D (TY cI cJ cZ cS) [.ref aSt, .ref aSu] (w_X7_copyFrom cI aSt aW aS aC aW_ac aW_fa aW_in aW_yr aW_ti aS_ke aS_di aC_sz aC_cd aSu aX aZ aK aX_ac aX_fa aX_in aX_yr aX_ti aZ_ke aZ_di aK_sz aK_cd W_n W_ac W_fa W_in W_yr W_ti S_st S_mi S_fi S_sp S_cl S_nu S_co S_ke S_di C_n C_sz C_cd X_n X_ac X_fa X_in X_yr X_ti Z_st Z_mi Z_fi Z_sp Z_cl Z_nu Z_co Z_ke Z_di K_n K_sz K_cd) (w_X7_copyFrom cI aSt aW aS aC aW_ac aW_fa aW_in aW_yr aW_ti aS_ke aS_di aC_sz aC_cd aSu aX aZ aK aX_ac aX_fa aX_in aX_yr aX_ti aZ_ke aZ_di aK_sz aK_cd o.1 o.2.1 o.2.2.1 o.2.2.2.1 o.2.2.2.2.1 o.2.2.2.2.2.1 o.2.2.2.2.2.2.1 o.2.2.2.2.2.2.2.1 o.2.2.2.2.2.2.2.2.1 o.2.2.2.2.2.2.2.2.2.1 o.2.2.2.2.2.2.2.2.2.2.1 o.2.2.2.2.2.2.2.2.2.2.2.1 o.2.2.2.2.2.2.2.2.2.2.2.2.1 o.2.2.2.2.2.2.2.2.2.2.2.2.2.1 o.2.2.2.2.2.2.2.2.2.2.2.2.2.2.1 o.2.2.2.2.2.2.2.2.2.2.2.2.2.2.2.1 o.2.2.2.2.2.2.2.2.2.2.2.2.2.2.2.2.1 o.2.2.2.2.2.2.2.2.2.2.2.2.2.2.2.2.2 X_n X_ac X_fa X_in X_yr X_ti Z_st Z_mi Z_fi Z_sp Z_cl Z_nu Z_co Z_ke Z_di K_n K_sz K_cd) := by
  refine MV_of (cc := cX7_copyFrom) (maxL := 2) (by decide) rfl (Nat.le_of_ble_eq_true rfl) ?_
  intro p e s m args below meth c A Q ls H locs hx hb hml hts hown hK hA hP hD hS hl hret
  have hown : s.vm.findClass RX7 = some m.cls := hown
  have hKv : va_K D vwCl (TY cI cJ cZ cS) s := hK.1
  have hl : lv_has ls 2 [(0, .ref aSt), (1, .ref aSu)] := hl
  have S : CallFix p m c cX7_copyFrom 2 s args wsX7_copyFrom RX7 := ⟨hx, hb, hml, hown, hts⟩
  have k1 := hts (.fieldLink RX7 10 "CitationFormatter$State" "works" "LCitationFormatter$Works;") (by decide +kernel)
  have k2 : ∀ w ∈ wsX70, w ∈ wsX7_copyFrom := by decide +kernel
  have k3 : CallW rm_X7_copyFrom s args RX7 RX9 30 yX9_copyFrom cX9_copyFrom 3 none wsX9_copyFrom rm_X9_copyFrom 0 0 1 := cwV 1 hts gX7_copyFrom_X9_copyFrom rfl rfl rfl (by decide +kernel) ⟨Nat.le_of_ble_eq_true rfl, Nat.le_of_ble_eq_true rfl⟩
  have k4 := hts (.fieldLink RX7 19 "CitationFormatter$State" "settings" "LCitationFormatter$Settings;") (by decide +kernel)
  have k5 : CallW rm_X7_copyFrom s args RX7 RX6 34 yX6_copyFrom cX6_copyFrom 3 none wsX6_copyFrom rm_X6_copyFrom 0 0 1 := cwV 1 hts gX7_copyFrom_X6_copyFrom rfl rfl rfl (by decide +kernel) ⟨Nat.le_of_ble_eq_true rfl, Nat.le_of_ble_eq_true rfl⟩
  have k6 := hts (.fieldLink RX7 26 "CitationFormatter$State" "citations" "LCitationFormatter$Citations;") (by decide +kernel)
  have k7 : CallW rm_X7_copyFrom s args RX7 RX1 37 yX1_copyFrom cX1_copyFrom 3 none wsX1_copyFrom rm_X1_copyFrom 0 0 1 := cwV 1 hts gX7_copyFrom_X1_copyFrom rfl rfl rfl (by decide +kernel) ⟨Nat.le_of_ble_eq_true rfl, Nat.le_of_ble_eq_true rfl⟩
  refine lv_aload_n hx hb dX7_copyFrom_0 rfl (lv_at hl 0 rfl) ?_
  refine va_get (D := D) (ci := 7) (v := .ref aW) (C := RX7) (T := TX7) (N := 3) hx hb hts k2 hown hKv hP 0 rfl rfl 0 (by decide) k1 (fun _ h9 => h9) rfl dX7_copyFrom_1 ?_
  refine lv_aload_n hx hb dX7_copyFrom_4 rfl (lv_at hl 1 rfl) ?_
  refine va_get (D := D) (ci := 7) (v := .ref aX) (C := RX7) (T := TX7) (N := 3) hx hb hts k2 hown hKv hP 13 rfl rfl 0 (by decide) k1 (fun _ h9 => h9) rfl dX7_copyFrom_5 ?_
  replace hm := bd_some hm
  obtain ⟨e1, hc1, hm⟩ := hm
  obtain ⟨e1_0, e1_1, e1_2, e1_3, e1_4, e1_5⟩ := e1
  refine kV_v (rest := []) (ws' := (w_X7_copyFrom cI aSt aW aS aC aW_ac aW_fa aW_in aW_yr aW_ti aS_ke aS_di aC_sz aC_cd aSu aX aZ aK aX_ac aX_fa aX_in aX_yr aX_ti aZ_ke aZ_di aK_sz aK_cd e1_0 e1_1 e1_2 e1_3 e1_4 e1_5 S_st S_mi S_fi S_sp S_cl S_nu S_co S_ke S_di C_n C_sz C_cd X_n X_ac X_fa X_in X_yr X_ti Z_st Z_mi Z_fi Z_sp Z_cl Z_nu Z_co Z_ke Z_di K_n K_sz K_cd)) S (c_X9_copyFrom l D cI cJ cZ cS aW aW_ac aW_fa aW_in aW_yr aW_ti aX aX_ac aX_fa aX_in aX_yr aX_ti W_n W_ac W_fa W_in W_yr W_ti X_n X_ac X_fa X_in X_yr X_ti (e1_0, e1_1, e1_2, e1_3, e1_4, e1_5) hc1) k3 hK hP hD hS hA 1 rfl rfl rfl rfl hl.1 rfl (Nat.le_of_ble_eq_true rfl) ⟨Nat.zero_le _, Nat.zero_le _⟩ dX7_copyFrom_8 [1, 2, 3, 4, 5, 6, 14, 15, 16, 17, 18, 19] rfl rfl wa_X9_copyFrom (sa_eq [(aSt, .inr (7, [.ref aW, .ref aS, .ref aC])), (aS, .inr (6, [.int S_st, .int S_mi, .int S_fi, .int S_sp, .int S_cl, .int S_nu, .int S_co, .ref aS_ke, .ref aS_di])), (aS_ke, .inl (cI, 3, .inl S_ke)), (aS_di, .inl (cI, 3, .inl S_di)), (aC, .inr (1, [.int C_n, .ref aC_sz, .ref aC_cd])), (aC_sz, .inl (cI, 10, .inl C_sz)), (aC_cd, .inl (cI, 50, .inl C_cd)), (aSu, .inr (7, [.ref aX, .ref aZ, .ref aK])), (aZ, .inr (6, [.int Z_st, .int Z_mi, .int Z_fi, .int Z_sp, .int Z_cl, .int Z_nu, .int Z_co, .ref aZ_ke, .ref aZ_di])), (aZ_ke, .inl (cI, 3, .inl Z_ke)), (aZ_di, .inl (cI, 3, .inl Z_di)), (aK, .inr (1, [.int K_n, .ref aK_sz, .ref aK_cd])), (aK_sz, .inl (cI, 10, .inl K_sz)), (aK_cd, .inl (cI, 50, .inl K_cd))] [0, 7, 8, 9, 10, 11, 12, 13, 20, 21, 22, 23, 24, 25] 26 rfl rfl rfl rfl rfl rfl rfl) (fun H locs hP hD hS => ?_)
  refine lv_aload_n hx hb dX7_copyFrom_11 rfl (lv_at hl 0 rfl) ?_
  refine va_get (D := D) (ci := 7) (v := .ref aS) (C := RX7) (T := TX7) (N := 3) hx hb hts k2 hown hKv hP 0 rfl rfl 1 (by decide) k4 (fun _ h9 => h9) rfl dX7_copyFrom_12 ?_
  refine lv_aload_n hx hb dX7_copyFrom_15 rfl (lv_at hl 1 rfl) ?_
  refine va_get (D := D) (ci := 7) (v := .ref aZ) (C := RX7) (T := TX7) (N := 3) hx hb hts k2 hown hKv hP 13 rfl rfl 1 (by decide) k4 (fun _ h9 => h9) rfl dX7_copyFrom_16 ?_
  replace hm := bd_some hm
  obtain ⟨e2, hc2, hm⟩ := hm
  obtain ⟨e2_0, e2_1, e2_2, e2_3, e2_4, e2_5, e2_6, e2_7, e2_8⟩ := e2
  refine kV_v (rest := []) (ws' := (w_X7_copyFrom cI aSt aW aS aC aW_ac aW_fa aW_in aW_yr aW_ti aS_ke aS_di aC_sz aC_cd aSu aX aZ aK aX_ac aX_fa aX_in aX_yr aX_ti aZ_ke aZ_di aK_sz aK_cd e1_0 e1_1 e1_2 e1_3 e1_4 e1_5 e2_0 e2_1 e2_2 e2_3 e2_4 e2_5 e2_6 e2_7 e2_8 C_n C_sz C_cd X_n X_ac X_fa X_in X_yr X_ti Z_st Z_mi Z_fi Z_sp Z_cl Z_nu Z_co Z_ke Z_di K_n K_sz K_cd)) S (c_X6_copyFrom l D cI cJ cZ cS aS aS_ke aS_di aZ aZ_ke aZ_di S_st S_mi S_fi S_sp S_cl S_nu S_co S_ke S_di Z_st Z_mi Z_fi Z_sp Z_cl Z_nu Z_co Z_ke Z_di (e2_0, e2_1, e2_2, e2_3, e2_4, e2_5, e2_6, e2_7, e2_8) hc2) k5 hK hP hD hS hA 7 rfl rfl rfl rfl hl.1 rfl (Nat.le_of_ble_eq_true rfl) ⟨Nat.zero_le _, Nat.zero_le _⟩ dX7_copyFrom_19 [7, 8, 9, 20, 21, 22] rfl rfl wa_X6_copyFrom (sa_eq [(aSt, .inr (7, [.ref aW, .ref aS, .ref aC])), (aW, .inr (9, [.int e1_0, .ref aW_ac, .ref aW_fa, .ref aW_in, .ref aW_yr, .ref aW_ti])), (aW_ac, .inl (cI, 8, .inl e1_1)), (aW_fa, .inl (cI, 32, .inl e1_2)), (aW_in, .inl (cI, 32, .inl e1_3)), (aW_yr, .inl (cI, 8, .inl e1_4)), (aW_ti, .inl (cI, 8, .inl e1_5)), (aC, .inr (1, [.int C_n, .ref aC_sz, .ref aC_cd])), (aC_sz, .inl (cI, 10, .inl C_sz)), (aC_cd, .inl (cI, 50, .inl C_cd)), (aSu, .inr (7, [.ref aX, .ref aZ, .ref aK])), (aX, .inr (9, [.int X_n, .ref aX_ac, .ref aX_fa, .ref aX_in, .ref aX_yr, .ref aX_ti])), (aX_ac, .inl (cI, 8, .inl X_ac)), (aX_fa, .inl (cI, 32, .inl X_fa)), (aX_in, .inl (cI, 32, .inl X_in)), (aX_yr, .inl (cI, 8, .inl X_yr)), (aX_ti, .inl (cI, 8, .inl X_ti)), (aK, .inr (1, [.int K_n, .ref aK_sz, .ref aK_cd])), (aK_sz, .inl (cI, 10, .inl K_sz)), (aK_cd, .inl (cI, 50, .inl K_cd))] [0, 1, 2, 3, 4, 5, 6, 10, 11, 12, 13, 14, 15, 16, 17, 18, 19, 23, 24, 25] 26 rfl rfl rfl rfl rfl rfl rfl) (fun H locs hP hD hS => ?_)
  refine lv_aload_n hx hb dX7_copyFrom_22 rfl (lv_at hl 0 rfl) ?_
  refine va_get (D := D) (ci := 7) (v := .ref aC) (C := RX7) (T := TX7) (N := 3) hx hb hts k2 hown hKv hP 0 rfl rfl 2 (by decide) k6 (fun _ h9 => h9) rfl dX7_copyFrom_23 ?_
  refine lv_aload_n hx hb dX7_copyFrom_26 rfl (lv_at hl 1 rfl) ?_
  refine va_get (D := D) (ci := 7) (v := .ref aK) (C := RX7) (T := TX7) (N := 3) hx hb hts k2 hown hKv hP 13 rfl rfl 2 (by decide) k6 (fun _ h9 => h9) rfl dX7_copyFrom_27 ?_
  replace hm := bd_some hm
  obtain ⟨e3, hc3, hm⟩ := hm
  refine kV_v (rest := []) (ws' := (w_X7_copyFrom cI aSt aW aS aC aW_ac aW_fa aW_in aW_yr aW_ti aS_ke aS_di aC_sz aC_cd aSu aX aZ aK aX_ac aX_fa aX_in aX_yr aX_ti aZ_ke aZ_di aK_sz aK_cd e1_0 e1_1 e1_2 e1_3 e1_4 e1_5 e2_0 e2_1 e2_2 e2_3 e2_4 e2_5 e2_6 e2_7 e2_8 e3.1 e3.2.1 e3.2.2 X_n X_ac X_fa X_in X_yr X_ti Z_st Z_mi Z_fi Z_sp Z_cl Z_nu Z_co Z_ke Z_di K_n K_sz K_cd)) S (c_X1_copyFrom l D cI cJ cZ cS aC aC_sz aC_cd aK aK_sz aK_cd C_n C_sz C_cd K_n K_sz K_cd e3 hc3) k7 hK hP hD hS hA 10 rfl rfl rfl rfl hl.1 rfl (Nat.le_of_ble_eq_true rfl) ⟨Nat.zero_le _, Nat.zero_le _⟩ dX7_copyFrom_30 [10, 11, 12, 23, 24, 25] rfl rfl wa_X1_copyFrom (sa_eq [(aSt, .inr (7, [.ref aW, .ref aS, .ref aC])), (aW, .inr (9, [.int e1_0, .ref aW_ac, .ref aW_fa, .ref aW_in, .ref aW_yr, .ref aW_ti])), (aW_ac, .inl (cI, 8, .inl e1_1)), (aW_fa, .inl (cI, 32, .inl e1_2)), (aW_in, .inl (cI, 32, .inl e1_3)), (aW_yr, .inl (cI, 8, .inl e1_4)), (aW_ti, .inl (cI, 8, .inl e1_5)), (aS, .inr (6, [.int e2_0, .int e2_1, .int e2_2, .int e2_3, .int e2_4, .int e2_5, .int e2_6, .ref aS_ke, .ref aS_di])), (aS_ke, .inl (cI, 3, .inl e2_7)), (aS_di, .inl (cI, 3, .inl e2_8)), (aSu, .inr (7, [.ref aX, .ref aZ, .ref aK])), (aX, .inr (9, [.int X_n, .ref aX_ac, .ref aX_fa, .ref aX_in, .ref aX_yr, .ref aX_ti])), (aX_ac, .inl (cI, 8, .inl X_ac)), (aX_fa, .inl (cI, 32, .inl X_fa)), (aX_in, .inl (cI, 32, .inl X_in)), (aX_yr, .inl (cI, 8, .inl X_yr)), (aX_ti, .inl (cI, 8, .inl X_ti)), (aZ, .inr (6, [.int Z_st, .int Z_mi, .int Z_fi, .int Z_sp, .int Z_cl, .int Z_nu, .int Z_co, .ref aZ_ke, .ref aZ_di])), (aZ_ke, .inl (cI, 3, .inl Z_ke)), (aZ_di, .inl (cI, 3, .inl Z_di))] [0, 1, 2, 3, 4, 5, 6, 7, 8, 9, 13, 14, 15, 16, 17, 18, 19, 20, 21, 22] 26 rfl rfl rfl rfl rfl rfl rfl) (fun H locs hP hD hS => ?_)
  have h9 := Option.some.inj hm
  subst h9
  exact hret H locs _ ls hP hD hS dX7_copyFrom_33
