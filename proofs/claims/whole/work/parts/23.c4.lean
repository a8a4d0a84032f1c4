def m_X0_compare (W_ac : Nat → Int32) (W_fa : Nat → Int32) (W_in : Nat → Int32) (W_yr : Nat → Int32) (W_ti : Nat → Int32) (x1 : Int32) (x2 : Int32) (x3 : Int32) : Option (Int32) := if x1 = 1 then ((m_X9_compareAuthors W_ac W_fa W_in x2 x3).bind fun e2 => some e2) else (if x1 = 2 then (ck x2 8 (ck x3 8 (some ((W_yr (Int32.toNatClampNeg x2)) - (W_yr (Int32.toNatClampNeg x3)))))) else (if x1 = 3 then (ck x2 8 (ck x3 8 (some ((W_ti (Int32.toNatClampNeg x2)) - (W_ti (Int32.toNatClampNeg x3)))))) else (some 0)))
def m_X0_numberCitedWorks_J62 (x1 : Int32) (x2 : Int32) (x3 : Int32) (A_nu : Nat → Int32) : Option ((Int32 × Int32 × (Nat → Int32)) ⊕ ((Int32 × (Nat → Int32)))) := some (Sum.inl (x1, (x3 + 1), A_nu))
def m_X0_numberCitedWorks_B17 (x2 : Int32) (C_sz : Nat → Int32) (C_cd : Nat → Int32) (st : Int32 × Int32 × (Nat → Int32)) : Option ((Int32 × Int32 × (Nat → Int32)) ⊕ ((Int32 × (Nat → Int32)))) := ck x2 10 (if (C_sz (Int32.toNatClampNeg x2)) ≤ st.2.1 then (some (Sum.inr (st.1, st.2.2))) else ((m_X1_workAt C_cd x2 st.2.1).bind fun e6 => ck e6 8 (if (st.2.2 (Int32.toNatClampNeg e6)) = 0 then (ck e6 8 (m_X0_numberCitedWorks_J62 (st.1 + 1) x2 st.2.1 (upd st.2.2 (Int32.toNatClampNeg e6) (st.1 + 1)))) else (m_X0_numberCitedWorks_J62 st.1 x2 st.2.1 st.2.2))))
def m_X0_numberCitedWorks_B4 (C_n : Int32) (C_sz : Nat → Int32) (C_cd : Nat → Int32) (st : Int32 × Int32 × (Nat → Int32)) : Option ((Int32 × Int32 × (Nat → Int32)) ⊕ ((Int32 × (Nat → Int32)))) := if C_n ≤ st.2.1 then (some (Sum.inr (st.1, st.2.2))) else ((it (m_X0_numberCitedWorks_B17 st.2.1 C_sz C_cd) fu (st.1, 0, st.2.2)).bind fun e3 => some (Sum.inl (e3.1, (st.2.1 + 1), e3.2)))
def m_X0_numberCitedWorks (C_n : Int32) (C_sz : Nat → Int32) (C_cd : Nat → Int32) (A_nu : Nat → Int32) : Option (Int32 × (Nat → Int32)) := (it (m_X0_numberCitedWorks_B4 C_n C_sz C_cd) fu (0, 0, A_nu)).bind fun e1 => some (e1.1, e1.2)
def m_X0_giveNumbers_J86 (x1 : Int32) (x2 : Int32) (A_nu : Nat → Int32) : Option ((Int32 × Int32 × (Nat → Int32)) ⊕ (((Nat → Int32)))) := some (Sum.inl (x1, (x2 + 1), A_nu))
def m_X0_giveNumbers_B46 (W_n : Int32) (A_or : Nat → Int32) (st : Int32 × Int32 × (Nat → Int32)) : Option ((Int32 × Int32 × (Nat → Int32)) ⊕ (((Nat → Int32)))) := if W_n ≤ st.2.1 then (some (Sum.inr st.2.2)) else (ck st.2.1 8 (ck (A_or (Int32.toNatClampNeg st.2.1)) 8 (if (st.2.2 (Int32.toNatClampNeg (A_or (Int32.toNatClampNeg st.2.1)))) = 0 then (ck st.2.1 8 (ck (A_or (Int32.toNatClampNeg st.2.1)) 8 (m_X0_giveNumbers_J86 (st.1 + 1) st.2.1 (upd st.2.2 (Int32.toNatClampNeg (A_or (Int32.toNatClampNeg st.2.1))) (st.1 + 1))))) else (m_X0_giveNumbers_J86 st.1 st.2.1 st.2.2))))
def m_X0_giveNumbers_J44 (x1 : Int32) (W_n : Int32) (A_or : Nat → Int32) (A_nu : Nat → Int32) : Option ((Nat → Int32)) := (it (m_X0_giveNumbers_B46 W_n A_or) fu (x1, 0, A_nu)).bind fun e1 => some e1
def m_X0_giveNumbers_B4 (W_n : Int32) (st : Int32 × (Nat → Int32)) : Option ((Int32 × (Nat → Int32)) ⊕ (((Nat → Int32)))) := if W_n ≤ st.1 then (some (Sum.inr st.2)) else (ck st.1 8 (some (Sum.inl ((st.1 + 1), (upd st.2 (Int32.toNatClampNeg st.1) 0)))))
def m_X0_giveNumbers (W_n : Int32) (S_nu : Int32) (C_n : Int32) (C_sz : Nat → Int32) (C_cd : Nat → Int32) (A_or : Nat → Int32) (A_nu : Nat → Int32) : Option ((Nat → Int32)) := (it (m_X0_giveNumbers_B4 W_n) fu (0, A_nu)).bind fun e8 => if S_nu = 1 then ((m_X0_numberCitedWorks C_n C_sz C_cd e8).bind fun e10 => m_X0_giveNumbers_J44 e10.1 W_n A_or e10.2) else (m_X0_giveNumbers_J44 0 W_n A_or e8)
def m_X0_precedes_J81 (y0 : Int32) : Option (Int32) := ckb y0 (some y0)
def m_X0_precedes_J64 (y0 : Int32) : Option (Int32) := ckb y0 (some y0)
def m_X0_precedes_J56 (y0 : Int32) (y1 : Int32) : Option (Int32) := if y1 = y0 then (m_X0_precedes_J64 1) else (m_X0_precedes_J64 0)
def m_X0_precedes_J39 (x3 : Int32) (y0 : Int32) (S_di : Nat → Int32) : Option (Int32) := ck x3 3 (if (S_di (Int32.toNatClampNeg x3)) = 0 then (m_X0_precedes_J56 1 y0) else (m_X0_precedes_J56 0 y0))
def m_X0_precedes_B2 (x1 : Int32) (x2 : Int32) (W_ac : Nat → Int32) (W_fa : Nat → Int32) (W_in : Nat → Int32) (W_yr : Nat → Int32) (W_ti : Nat → Int32) (S_ke : Nat → Int32) (st : Int32) : Option (Int32 ⊕ ((Int32 × Int32) ⊕ Unit)) := if 3 ≤ st then (some (Sum.inr (Sum.inr (())))) else (ck st 3 ((m_X0_compare W_ac W_fa W_in W_yr W_ti (S_ke (Int32.toNatClampNeg st)) x1 x2).bind fun e11 => if e11 = 0 then (some (Sum.inl (st + 1))) else (some (Sum.inr (Sum.inl (st, e11))))))
def m_X0_precedes (W_ac : Nat → Int32) (W_fa : Nat → Int32) (W_in : Nat → Int32) (W_yr : Nat → Int32) (W_ti : Nat → Int32) (S_ke : Nat → Int32) (S_di : Nat → Int32) (x1 : Int32) (x2 : Int32) : Option (Int32) := (it (m_X0_precedes_B2 x1 x2 W_ac W_fa W_in W_yr W_ti S_ke) fu 0).bind (Sum.elim (fun v6_0 => if 0 ≤ v6_0.2 then (m_X0_precedes_J39 v6_0.1 0 S_di) else (m_X0_precedes_J39 v6_0.1 1 S_di)) (fun v6_1 => if x2 ≤ x1 then (m_X0_precedes_J81 0) else (m_X0_precedes_J81 1)))
def m_X0_placeOf_J27 (x1 : Int32) (x2 : Int32) (x3 : Int32) : Option ((Int32 × Int32) ⊕ Int32) := some (Sum.inl (x2, (x3 + 1)))
def m_X0_placeOf_B4 (x1 : Int32) (W_n : Int32) (W_ac : Nat → Int32) (W_fa : Nat → Int32) (W_in : Nat → Int32) (W_yr : Nat → Int32) (W_ti : Nat → Int32) (S_ke : Nat → Int32) (S_di : Nat → Int32) (st : Int32 × Int32) : Option ((Int32 × Int32) ⊕ Int32) := if W_n ≤ st.2 then (some (Sum.inr st.1)) else ((m_X0_precedes W_ac W_fa W_in W_yr W_ti S_ke S_di st.2 x1).bind fun e3 => if e3 = 0 then (m_X0_placeOf_J27 x1 st.1 st.2) else (m_X0_placeOf_J27 x1 (st.1 + 1) st.2))
def m_X0_placeOf (W_n : Int32) (W_ac : Nat → Int32) (W_fa : Nat → Int32) (W_in : Nat → Int32) (W_yr : Nat → Int32) (W_ti : Nat → Int32) (S_ke : Nat → Int32) (S_di : Nat → Int32) (x1 : Int32) : Option (Int32) := (it (m_X0_placeOf_B4 x1 W_n W_ac W_fa W_in W_yr W_ti S_ke S_di) fu (0, 0)).bind fun e1 => some e1
def m_X0_update_J81 (x1 : Int32) (x2 : Int32) (y0 : Int32) (A_li : Nat → Int32) : Option ((Int32 × (Nat → Int32)) ⊕ (((Nat → Int32)))) := ck y0 8 (some (Sum.inl ((x1 + 1), (upd A_li (Int32.toNatClampNeg y0) x2))))
def m_X0_update_B36 (W_n : Int32) (S_st : Int32) (A_or : Nat → Int32) (A_nu : Nat → Int32) (st : Int32 × (Nat → Int32)) : Option ((Int32 × (Nat → Int32)) ⊕ (((Nat → Int32)))) := if W_n ≤ st.1 then (some (Sum.inr st.2)) else (ck st.1 8 (if S_st = 1 then (ck (A_or (Int32.toNatClampNeg st.1)) 8 (m_X0_update_J81 st.1 (A_or (Int32.toNatClampNeg st.1)) ((A_nu (Int32.toNatClampNeg (A_or (Int32.toNatClampNeg st.1)))) - 1) st.2)) else (m_X0_update_J81 st.1 (A_or (Int32.toNatClampNeg st.1)) st.1 st.2)))
def m_X0_update_B2 (W_n : Int32) (W_ac : Nat → Int32) (W_fa : Nat → Int32) (W_in : Nat → Int32) (W_yr : Nat → Int32) (W_ti : Nat → Int32) (S_ke : Nat → Int32) (S_di : Nat → Int32) (st : Int32 × (Nat → Int32)) : Option ((Int32 × (Nat → Int32)) ⊕ (((Nat → Int32)))) := if W_n ≤ st.1 then (some (Sum.inr st.2)) else ((m_X0_placeOf W_n W_ac W_fa W_in W_yr W_ti S_ke S_di st.1).bind fun e10 => ck e10 8 (some (Sum.inl ((st.1 + 1), (upd st.2 (Int32.toNatClampNeg e10) st.1)))))
def m_X0_update (W_n : Int32) (W_ac : Nat → Int32) (W_fa : Nat → Int32) (W_in : Nat → Int32) (W_yr : Nat → Int32) (W_ti : Nat → Int32) (S_st : Int32) (S_nu : Int32) (S_ke : Nat → Int32) (S_di : Nat → Int32) (C_n : Int32) (C_sz : Nat → Int32) (C_cd : Nat → Int32) (A_or : Nat → Int32) (A_nu : Nat → Int32) (A_li : Nat → Int32) : Option ((Nat → Int32) × (Nat → Int32) × (Nat → Int32)) := (it (m_X0_update_B2 W_n W_ac W_fa W_in W_yr W_ti S_ke S_di) fu (0, A_or)).bind fun e1 => (m_X0_giveNumbers W_n S_nu C_n C_sz C_cd e1 A_nu).bind fun e2 => (it (m_X0_update_B36 W_n S_st e1 e2) fu (0, A_li)).bind fun e3 => some (e1, e2, e3)
def m_X0_worksWithNumbers_J34 (x1 : Int32) (x2 : Int32) (x3 : Int32) : Option ((Int32 × Int32) ⊕ Int32) := some (Sum.inl (x2, (x3 + 1)))
def m_X0_worksWithNumbers_B4 (x1 : Int32) (W_n : Int32) (A_nu : Nat → Int32) (st : Int32 × Int32) : Option ((Int32 × Int32) ⊕ Int32) := if W_n ≤ st.2 then (some (Sum.inr st.1)) else (ck st.2 8 ((m_X11_inSet x1 (A_nu (Int32.toNatClampNeg st.2))).bind fun e4 => if e4 = 0 then (m_X0_worksWithNumbers_J34 x1 st.1 st.2) else (m_X0_worksWithNumbers_J34 x1 (st.1 ||| (1 <<< (st.2 &&& 31))) st.2)))
def m_X0_worksWithNumbers (W_n : Int32) (A_nu : Nat → Int32) (x1 : Int32) : Option (Int32) := (it (m_X0_worksWithNumbers_B4 x1 W_n A_nu) fu (0, 0)).bind fun e1 => some e1
def w_X0_compare (cI : ClassId) (aW aW_ac aW_fa aW_in aW_yr aW_ti aA aA_or aA_nu aA_li aS aC : Nat) (W_n : Int32) (W_ac : Nat → Int32) (W_fa : Nat → Int32) (W_in : Nat → Int32) (W_yr : Nat → Int32) (W_ti : Nat → Int32) : va_W := [(aW, .inr (9, [.int W_n, .ref aW_ac, .ref aW_fa, .ref aW_in, .ref aW_yr, .ref aW_ti])), (aW_ac, .inl (cI, 8, .inl W_ac)), (aW_fa, .inl (cI, 32, .inl W_fa)), (aW_in, .inl (cI, 32, .inl W_in)), (aW_yr, .inl (cI, 8, .inl W_yr)), (aW_ti, .inl (cI, 8, .inl W_ti)), (aA, .inr (0, [.ref aA_or, .ref aA_nu, .ref aA_li, .ref aW, .ref aS, .ref aC]))]
theorem wa_X0_compare {cI : ClassId} {aW aW_ac aW_fa aW_in aW_yr aW_ti aA aA_or aA_nu aA_li aS aC : Nat} {W_n W_n' : Int32} {W_ac W_ac' : Nat → Int32} {W_fa W_fa' : Nat → Int32} {W_in W_in' : Nat → Int32} {W_yr W_yr' : Nat → Int32} {W_ti W_ti' : Nat → Int32} : (w_X0_compare cI aW aW_ac aW_fa aW_in aW_yr aW_ti aA aA_or aA_nu aA_li aS aC W_n' W_ac' W_fa' W_in' W_yr' W_ti').map Prod.fst = (w_X0_compare cI aW aW_ac aW_fa aW_in aW_yr aW_ti aA aA_or aA_nu aA_li aS aC W_n W_ac W_fa W_in W_yr W_ti).map Prod.fst := rfl
abbrev rm_X0_compare : Room := { frames := 1, cells := 0, slots := 0, locals := 25 }
def w_X0_numberCitedWorks (cI : ClassId) (aC aC_sz aC_cd aA aA_or aA_nu aA_li aW aS : Nat) (C_n : Int32) (C_sz : Nat → Int32) (C_cd : Nat → Int32) (A_nu : Nat → Int32) : va_W := [(aC, .inr (1, [.int C_n, .ref aC_sz, .ref aC_cd])), (aC_sz, .inl (cI, 10, .inl C_sz)), (aC_cd, .inl (cI, 50, .inl C_cd)), (aA, .inr (0, [.ref aA_or, .ref aA_nu, .ref aA_li, .ref aW, .ref aS, .ref aC])), (aA_nu, .inl (cI, 8, .inl A_nu))]
theorem wa_X0_numberCitedWorks {cI : ClassId} {aC aC_sz aC_cd aA aA_or aA_nu aA_li aW aS : Nat} {C_n C_n' : Int32} {C_sz C_sz' : Nat → Int32} {C_cd C_cd' : Nat → Int32} {A_nu A_nu' : Nat → Int32} : (w_X0_numberCitedWorks cI aC aC_sz aC_cd aA aA_or aA_nu aA_li aW aS C_n' C_sz' C_cd' A_nu').map Prod.fst = (w_X0_numberCitedWorks cI aC aC_sz aC_cd aA aA_or aA_nu aA_li aW aS C_n C_sz C_cd A_nu).map Prod.fst := rfl
abbrev rm_X0_numberCitedWorks : Room := { frames := 1, cells := 0, slots := 0, locals := 22 }
def w_X0_giveNumbers (cI : ClassId) (aW aW_ac aW_fa aW_in aW_yr aW_ti aS aS_ke aS_di aC aC_sz aC_cd aA aA_or aA_nu aA_li : Nat) (W_n : Int32) (S_st : Int32) (S_mi : Int32) (S_fi : Int32) (S_sp : Int32) (S_cl : Int32) (S_nu : Int32) (S_co : Int32) (C_n : Int32) (C_sz : Nat → Int32) (C_cd : Nat → Int32) (A_or : Nat → Int32) (A_nu : Nat → Int32) : va_W := [(aW, .inr (9, [.int W_n, .ref aW_ac, .ref aW_fa, .ref aW_in, .ref aW_yr, .ref aW_ti])), (aS, .inr (6, [.int S_st, .int S_mi, .int S_fi, .int S_sp, .int S_cl, .int S_nu, .int S_co, .ref aS_ke, .ref aS_di])), (aC, .inr (1, [.int C_n, .ref aC_sz, .ref aC_cd])), (aC_sz, .inl (cI, 10, .inl C_sz)), (aC_cd, .inl (cI, 50, .inl C_cd)), (aA, .inr (0, [.ref aA_or, .ref aA_nu, .ref aA_li, .ref aW, .ref aS, .ref aC])), (aA_or, .inl (cI, 8, .inl A_or)), (aA_nu, .inl (cI, 8, .inl A_nu))]
theorem wa_X0_giveNumbers {cI : ClassId} {aW aW_ac aW_fa aW_in aW_yr aW_ti aS aS_ke aS_di aC aC_sz aC_cd aA aA_or aA_nu aA_li : Nat} {W_n W_n' : Int32} {S_st S_st' : Int32} {S_mi S_mi' : Int32} {S_fi S_fi' : Int32} {S_sp S_sp' : Int32} {S_cl S_cl' : Int32} {S_nu S_nu' : Int32} {S_co S_co' : Int32} {C_n C_n' : Int32} {C_sz C_sz' : Nat → Int32} {C_cd C_cd' : Nat → Int32} {A_or A_or' : Nat → Int32} {A_nu A_nu' : Nat → Int32} : (w_X0_giveNumbers cI aW aW_ac aW_fa aW_in aW_yr aW_ti aS aS_ke aS_di aC aC_sz aC_cd aA aA_or aA_nu aA_li W_n' S_st' S_mi' S_fi' S_sp' S_cl' S_nu' S_co' C_n' C_sz' C_cd' A_or' A_nu').map Prod.fst = (w_X0_giveNumbers cI aW aW_ac aW_fa aW_in aW_yr aW_ti aS aS_ke aS_di aC aC_sz aC_cd aA aA_or aA_nu aA_li W_n S_st S_mi S_fi S_sp S_cl S_nu S_co C_n C_sz C_cd A_or A_nu).map Prod.fst := rfl
abbrev rm_X0_giveNumbers : Room := { frames := 2, cells := 0, slots := 0, locals := 46 }
def w_X0_precedes (cI : ClassId) (aW aW_ac aW_fa aW_in aW_yr aW_ti aS aS_ke aS_di aA aA_or aA_nu aA_li aC : Nat) (W_n : Int32) (W_ac : Nat → Int32) (W_fa : Nat → Int32) (W_in : Nat → Int32) (W_yr : Nat → Int32) (W_ti : Nat → Int32) (S_st : Int32) (S_mi : Int32) (S_fi : Int32) (S_sp : Int32) (S_cl : Int32) (S_nu : Int32) (S_co : Int32) (S_ke : Nat → Int32) (S_di : Nat → Int32) : va_W := [(aW, .inr (9, [.int W_n, .ref aW_ac, .ref aW_fa, .ref aW_in, .ref aW_yr, .ref aW_ti])), (aW_ac, .inl (cI, 8, .inl W_ac)), (aW_fa, .inl (cI, 32, .inl W_fa)), (aW_in, .inl (cI, 32, .inl W_in)), (aW_yr, .inl (cI, 8, .inl W_yr)), (aW_ti, .inl (cI, 8, .inl W_ti)), (aS, .inr (6, [.int S_st, .int S_mi, .int S_fi, .int S_sp, .int S_cl, .int S_nu, .int S_co, .ref aS_ke, .ref aS_di])), (aS_ke, .inl (cI, 3, .inl S_ke)), (aS_di, .inl (cI, 3, .inl S_di)), (aA, .inr (0, [.ref aA_or, .ref aA_nu, .ref aA_li, .ref aW, .ref aS, .ref aC]))]
theorem wa_X0_precedes {cI : ClassId} {aW aW_ac aW_fa aW_in aW_yr aW_ti aS aS_ke aS_di aA aA_or aA_nu aA_li aC : Nat} {W_n W_n' : Int32} {W_ac W_ac' : Nat → Int32} {W_fa W_fa' : Nat → Int32} {W_in W_in' : Nat → Int32} {W_yr W_yr' : Nat → Int32} {W_ti W_ti' : Nat → Int32} {S_st S_st' : Int32} {S_mi S_mi' : Int32} {S_fi S_fi' : Int32} {S_sp S_sp' : Int32} {S_cl S_cl' : Int32} {S_nu S_nu' : Int32} {S_co S_co' : Int32} {S_ke S_ke' : Nat → Int32} {S_di S_di' : Nat → Int32} : (w_X0_precedes cI aW aW_ac aW_fa aW_in aW_yr aW_ti aS aS_ke aS_di aA aA_or aA_nu aA_li aC W_n' W_ac' W_fa' W_in' W_yr' W_ti' S_st' S_mi' S_fi' S_sp' S_cl' S_nu' S_co' S_ke' S_di').map Prod.fst = (w_X0_precedes cI aW aW_ac aW_fa aW_in aW_yr aW_ti aS aS_ke aS_di aA aA_or aA_nu aA_li aC W_n W_ac W_fa W_in W_yr W_ti S_st S_mi S_fi S_sp S_cl S_nu S_co S_ke S_di).map Prod.fst := rfl
abbrev rm_X0_precedes : Room := { frames := 2, cells := 0, slots := 0, locals := 48 }
def w_X0_placeOf (cI : ClassId) (aW aW_ac aW_fa aW_in aW_yr aW_ti aS aS_ke aS_di aA aA_or aA_nu aA_li aC : Nat) (W_n : Int32) (W_ac : Nat → Int32) (W_fa : Nat → Int32) (W_in : Nat → Int32) (W_yr : Nat → Int32) (W_ti : Nat → Int32) (S_st : Int32) (S_mi : Int32) (S_fi : Int32) (S_sp : Int32) (S_cl : Int32) (S_nu : Int32) (S_co : Int32) (S_ke : Nat → Int32) (S_di : Nat → Int32) : va_W := [(aW, .inr (9, [.int W_n, .ref aW_ac, .ref aW_fa, .ref aW_in, .ref aW_yr, .ref aW_ti])), (aW_ac, .inl (cI, 8, .inl W_ac)), (aW_fa, .inl (cI, 32, .inl W_fa)), (aW_in, .inl (cI, 32, .inl W_in)), (aW_yr, .inl (cI, 8, .inl W_yr)), (aW_ti, .inl (cI, 8, .inl W_ti)), (aS, .inr (6, [.int S_st, .int S_mi, .int S_fi, .int S_sp, .int S_cl, .int S_nu, .int S_co, .ref aS_ke, .ref aS_di])), (aS_ke, .inl (cI, 3, .inl S_ke)), (aS_di, .inl (cI, 3, .inl S_di)), (aA, .inr (0, [.ref aA_or, .ref aA_nu, .ref aA_li, .ref aW, .ref aS, .ref aC]))]
theorem wa_X0_placeOf {cI : ClassId} {aW aW_ac aW_fa aW_in aW_yr aW_ti aS aS_ke aS_di aA aA_or aA_nu aA_li aC : Nat} {W_n W_n' : Int32} {W_ac W_ac' : Nat → Int32} {W_fa W_fa' : Nat → Int32} {W_in W_in' : Nat → Int32} {W_yr W_yr' : Nat → Int32} {W_ti W_ti' : Nat → Int32} {S_st S_st' : Int32} {S_mi S_mi' : Int32} {S_fi S_fi' : Int32} {S_sp S_sp' : Int32} {S_cl S_cl' : Int32} {S_nu S_nu' : Int32} {S_co S_co' : Int32} {S_ke S_ke' : Nat → Int32} {S_di S_di' : Nat → Int32} : (w_X0_placeOf cI aW aW_ac aW_fa aW_in aW_yr aW_ti aS aS_ke aS_di aA aA_or aA_nu aA_li aC W_n' W_ac' W_fa' W_in' W_yr' W_ti' S_st' S_mi' S_fi' S_sp' S_cl' S_nu' S_co' S_ke' S_di').map Prod.fst = (w_X0_placeOf cI aW aW_ac aW_fa aW_in aW_yr aW_ti aS aS_ke aS_di aA aA_or aA_nu aA_li aC W_n W_ac W_fa W_in W_yr W_ti S_st S_mi S_fi S_sp S_cl S_nu S_co S_ke S_di).map Prod.fst := rfl
abbrev rm_X0_placeOf : Room := { frames := 3, cells := 0, slots := 0, locals := 72 }
def w_X0_update (cI : ClassId) (aW aW_ac aW_fa aW_in aW_yr aW_ti aS aS_ke aS_di aC aC_sz aC_cd aA aA_or aA_nu aA_li : Nat) (W_n : Int32) (W_ac : Nat → Int32) (W_fa : Nat → Int32) (W_in : Nat → Int32) (W_yr : Nat → Int32) (W_ti : Nat → Int32) (S_st : Int32) (S_mi : Int32) (S_fi : Int32) (S_sp : Int32) (S_cl : Int32) (S_nu : Int32) (S_co : Int32) (S_ke : Nat → Int32) (S_di : Nat → Int32) (C_n : Int32) (C_sz : Nat → Int32) (C_cd : Nat → Int32) (A_or : Nat → Int32) (A_nu : Nat → Int32) (A_li : Nat → Int32) : va_W := [(aW, .inr (9, [.int W_n, .ref aW_ac, .ref aW_fa, .ref aW_in, .ref aW_yr, .ref aW_ti])), (aW_ac, .inl (cI, 8, .inl W_ac)), (aW_fa, .inl (cI, 32, .inl W_fa)), (aW_in, .inl (cI, 32, .inl W_in)), (aW_yr, .inl (cI, 8, .inl W_yr)), (aW_ti, .inl (cI, 8, .inl W_ti)), (aS, .inr (6, [.int S_st, .int S_mi, .int S_fi, .int S_sp, .int S_cl, .int S_nu, .int S_co, .ref aS_ke, .ref aS_di])), (aS_ke, .inl (cI, 3, .inl S_ke)), (aS_di, .inl (cI, 3, .inl S_di)), (aC, .inr (1, [.int C_n, .ref aC_sz, .ref aC_cd])), (aC_sz, .inl (cI, 10, .inl C_sz)), (aC_cd, .inl (cI, 50, .inl C_cd)), (aA, .inr (0, [.ref aA_or, .ref aA_nu, .ref aA_li, .ref aW, .ref aS, .ref aC])), (aA_or, .inl (cI, 8, .inl A_or)), (aA_nu, .inl (cI, 8, .inl A_nu)), (aA_li, .inl (cI, 8, .inl A_li))]
theorem wa_X0_update {cI : ClassId} {aW aW_ac aW_fa aW_in aW_yr aW_ti aS aS_ke aS_di aC aC_sz aC_cd aA aA_or aA_nu aA_li : Nat} {W_n W_n' : Int32} {W_ac W_ac' : Nat → Int32} {W_fa W_fa' : Nat → Int32} {W_in W_in' : Nat → Int32} {W_yr W_yr' : Nat → Int32} {W_ti W_ti' : Nat → Int32} {S_st S_st' : Int32} {S_mi S_mi' : Int32} {S_fi S_fi' : Int32} {S_sp S_sp' : Int32} {S_cl S_cl' : Int32} {S_nu S_nu' : Int32} {S_co S_co' : Int32} {S_ke S_ke' : Nat → Int32} {S_di S_di' : Nat → Int32} {C_n C_n' : Int32} {C_sz C_sz' : Nat → Int32} {C_cd C_cd' : Nat → Int32} {A_or A_or' : Nat → Int32} {A_nu A_nu' : Nat → Int32} {A_li A_li' : Nat → Int32} : (w_X0_update cI aW aW_ac aW_fa aW_in aW_yr aW_ti aS aS_ke aS_di aC aC_sz aC_cd aA aA_or aA_nu aA_li W_n' W_ac' W_fa' W_in' W_yr' W_ti' S_st' S_mi' S_fi' S_sp' S_cl' S_nu' S_co' S_ke' S_di' C_n' C_sz' C_cd' A_or' A_nu' A_li').map Prod.fst = (w_X0_update cI aW aW_ac aW_fa aW_in aW_yr aW_ti aS aS_ke aS_di aC aC_sz aC_cd aA aA_or aA_nu aA_li W_n W_ac W_fa W_in W_yr W_ti S_st S_mi S_fi S_sp S_cl S_nu S_co S_ke S_di C_n C_sz C_cd A_or A_nu A_li).map Prod.fst := rfl
abbrev rm_X0_update : Room := { frames := 4, cells := 0, slots := 0, locals := 95 }
def w_X0_worksWithNumbers (cI : ClassId) (aW aW_ac aW_fa aW_in aW_yr aW_ti aA aA_or aA_nu aA_li aS aC : Nat) (W_n : Int32) (A_nu : Nat → Int32) : va_W := [(aW, .inr (9, [.int W_n, .ref aW_ac, .ref aW_fa, .ref aW_in, .ref aW_yr, .ref aW_ti])), (aA, .inr (0, [.ref aA_or, .ref aA_nu, .ref aA_li, .ref aW, .ref aS, .ref aC])), (aA_nu, .inl (cI, 8, .inl A_nu))]
theorem wa_X0_worksWithNumbers {cI : ClassId} {aW aW_ac aW_fa aW_in aW_yr aW_ti aA aA_or aA_nu aA_li aS aC : Nat} {W_n W_n' : Int32} {A_nu A_nu' : Nat → Int32} : (w_X0_worksWithNumbers cI aW aW_ac aW_fa aW_in aW_yr aW_ti aA aA_or aA_nu aA_li aS aC W_n' A_nu').map Prod.fst = (w_X0_worksWithNumbers cI aW aW_ac aW_fa aW_in aW_yr aW_ti aA aA_or aA_nu aA_li aS aC W_n A_nu).map Prod.fst := rfl
abbrev rm_X0_worksWithNumbers : Room := { frames := 1, cells := 0, slots := 0, locals := 21 }
set_option maxHeartbeats 4000000 in
set_option maxRecDepth 100000 in
theorem c_X0_compare (l : Launch) (D : va_G) (cI cJ cZ cS : ClassId) (aW aW_ac aW_fa aW_in aW_yr aW_ti aA aA_or aA_nu aA_li aS aC : Nat) (W_n : Int32) (W_ac : Nat → Int32) (W_fa : Nat → Int32) (W_in : Nat → Int32) (W_yr : Nat → Int32) (W_ti : Nat → Int32) (x1 : Int32) (x2 : Int32) (x3 : Int32) (o : Int32) (hm : m_X0_compare W_ac W_fa W_in W_yr W_ti x1 x2 x3 = some o) : MI l yX0_compare wsX0_compare rm_X0_compare D (TY cI cJ cZ cS) [.ref aA, .int x1, .int x2, .int x3] (w_X0_compare cI aW aW_ac aW_fa aW_in aW_yr aW_ti aA aA_or aA_nu aA_li aS aC W_n W_ac W_fa W_in W_yr W_ti) (w_X0_compare cI aW aW_ac aW_fa aW_in aW_yr aW_ti aA aA_or aA_nu aA_li aS aC W_n W_ac W_fa W_in W_yr W_ti) (o) := by
  refine MI_of (cc := cX0_compare) (maxL := 4) (by decide) rfl (Nat.le_of_ble_eq_true rfl) ?_
  intro p e s m args below meth c A Q ls H locs hx hb hml hts hown hK hA hP hD hS hl hret
  have hown : s.vm.findClass RX0 = some m.cls := hown
  have hKv : va_K D vwCl (TY cI cJ cZ cS) s := hK.1
  have hl : lv_has ls 4 [(0, .ref aA), (1, .int x1), (2, .int x2), (3, .int x3)] := hl
  have S : CallFix p m c cX0_compare 4 s args wsX0_compare RX0 := ⟨hx, hb, hml, hown, hts⟩
  have k1 := hts (.fieldLink RX0 27 "CitationFormatter$Arrangement" "works" "LCitationFormatter$Works;") (by decide +kernel)
  have k2 : ∀ w ∈ wsX00, w ∈ wsX0_compare := by decide +kernel
  have k3 : CallW rm_X0_compare s args RX0 RX9 73 yX9_compareAuthors cX9_compareAuthors 6 (some .int) wsX9_compareAuthors rm_X9_compareAuthors 0 0 2 := cwV 2 hts gX0_compare_X9_compareAuthors rfl rfl rfl (by decide +kernel) ⟨Nat.le_of_ble_eq_true rfl, Nat.le_of_ble_eq_true rfl⟩
  have k4 := hts (.fieldLink RX0 77 "CitationFormatter$Works" "years" "[I") (by decide +kernel)
  have k5 : ∀ w ∈ wsX90, w ∈ wsX0_compare := by decide +kernel
  have k6 := hts (.fieldLink RX0 80 "CitationFormatter$Works" "titles" "[I") (by decide +kernel)
  refine lv_iload_n hx hb dX0_compare_0 rfl (lv_at hl 1 rfl) ?_
  by_cases c1 : x1 = 1
  · replace hm := if_t c1 hm
    refine lv_tableIn (tgt := 28) hx hb dX0_compare_1 (by rw [c1]; decide) (by rw [c1]; decide) (by rw [c1]; rfl) (by decide) ?_
    refine lv_aload_n hx hb dX0_compare_28 rfl (lv_at hl 0 rfl) ?_
    refine va_get (D := D) (ci := 0) (v := .ref aW) (C := RX0) (T := TX0) (N := 6) hx hb hts k2 hown hKv hP 6 rfl rfl 3 (by decide) k1 (fun _ h9 => h9) rfl dX0_compare_29 ?_
    refine lv_iload_n hx hb dX0_compare_32 rfl (lv_at hl 2 rfl) ?_
    refine lv_iload_n hx hb dX0_compare_33 rfl (lv_at hl 3 rfl) ?_
    replace hm := bd_some hm
    obtain ⟨e2, hc2, hm⟩ := hm
    refine kV_i (rest := []) (ws' := (w_X0_compare cI aW aW_ac aW_fa aW_in aW_yr aW_ti aA aA_or aA_nu aA_li aS aC W_n W_ac W_fa W_in W_yr W_ti)) S (c_X9_compareAuthors l D cI cJ cZ cS aW aW_ac aW_fa aW_in aW_yr aW_ti W_n W_ac W_fa W_in x2 x3 e2 hc2) k3 hK hP hD hS hA 0 rfl rfl rfl rfl hl.1 rfl (Nat.le_of_ble_eq_true rfl) ⟨Nat.zero_le _, Nat.zero_le _⟩ dX0_compare_34 [0, 1, 2, 3] rfl rfl wa_X9_compareAuthors (sa_eq [(aW_yr, .inl (cI, 8, .inl W_yr)), (aW_ti, .inl (cI, 8, .inl W_ti)), (aA, .inr (0, [.ref aA_or, .ref aA_nu, .ref aA_li, .ref aW, .ref aS, .ref aC]))] [4, 5, 6] 7 rfl rfl rfl rfl rfl rfl rfl) (fun H locs hP hD hS => ?_)
    have h9 := Option.some.inj hm
    subst h9
    exact hret H locs _ ls _ hP hD hS rfl dX0_compare_37
  · replace hm := if_f c1 hm
    by_cases c3 : x1 = 2
    · replace hm := if_t c3 hm
      refine lv_tableIn (tgt := 38) hx hb dX0_compare_1 (by rw [c3]; decide) (by rw [c3]; decide) (by rw [c3]; rfl) (by decide) ?_
      refine lv_aload_n hx hb dX0_compare_38 rfl (lv_at hl 0 rfl) ?_
      refine va_get (D := D) (ci := 0) (v := .ref aW) (C := RX0) (T := TX0) (N := 6) hx hb hts k2 hown hKv hP 6 rfl rfl 3 (by decide) k1 (fun _ h9 => h9) rfl dX0_compare_39 ?_
      refine va_get (D := D) (ci := 9) (v := .ref aW_yr) (C := RX9) (T := TX9) (N := 6) hx hb hts k5 hown hKv hP 0 rfl rfl 4 (by decide) k4 (fun _ h9 => h9) rfl dX0_compare_42 ?_
      refine lv_iload_n hx hb dX0_compare_45 rfl (lv_at hl 2 rfl) ?_
      replace hm := ck_some hm
      obtain ⟨h4, hm⟩ := hm
      refine va_iald hx hb hKv hP 4 0 rfl rfl h4 dX0_compare_46 ?_
      refine lv_aload_n hx hb dX0_compare_47 rfl (lv_at hl 0 rfl) ?_
      refine va_get (D := D) (ci := 0) (v := .ref aW) (C := RX0) (T := TX0) (N := 6) hx hb hts k2 hown hKv hP 6 rfl rfl 3 (by decide) k1 (fun _ h9 => h9) rfl dX0_compare_48 ?_
      refine va_get (D := D) (ci := 9) (v := .ref aW_yr) (C := RX9) (T := TX9) (N := 6) hx hb hts k5 hown hKv hP 0 rfl rfl 4 (by decide) k4 (fun _ h9 => h9) rfl dX0_compare_51 ?_
      refine lv_iload_n hx hb dX0_compare_54 rfl (lv_at hl 3 rfl) ?_
      replace hm := ck_some hm
      obtain ⟨h5, hm⟩ := hm
      refine va_iald hx hb hKv hP 4 0 rfl rfl h5 dX0_compare_55 ?_
      refine lv_isub hx hb dX0_compare_56 ?_
      have h9 := Option.some.inj hm
      subst h9
      exact hret H locs _ ls _ hP hD hS rfl dX0_compare_57
    · replace hm := if_f c3 hm
      by_cases c6 : x1 = 3
      · replace hm := if_t c6 hm
        refine lv_tableIn (tgt := 58) hx hb dX0_compare_1 (by rw [c6]; decide) (by rw [c6]; decide) (by rw [c6]; rfl) (by decide) ?_
        refine lv_aload_n hx hb dX0_compare_58 rfl (lv_at hl 0 rfl) ?_
        refine va_get (D := D) (ci := 0) (v := .ref aW) (C := RX0) (T := TX0) (N := 6) hx hb hts k2 hown hKv hP 6 rfl rfl 3 (by decide) k1 (fun _ h9 => h9) rfl dX0_compare_59 ?_
        refine va_get (D := D) (ci := 9) (v := .ref aW_ti) (C := RX9) (T := TX9) (N := 6) hx hb hts k5 hown hKv hP 0 rfl rfl 5 (by decide) k6 (fun _ h9 => h9) rfl dX0_compare_62 ?_
        refine lv_iload_n hx hb dX0_compare_65 rfl (lv_at hl 2 rfl) ?_
        replace hm := ck_some hm
        obtain ⟨h7, hm⟩ := hm
        refine va_iald hx hb hKv hP 5 0 rfl rfl h7 dX0_compare_66 ?_
        refine lv_aload_n hx hb dX0_compare_67 rfl (lv_at hl 0 rfl) ?_
        refine va_get (D := D) (ci := 0) (v := .ref aW) (C := RX0) (T := TX0) (N := 6) hx hb hts k2 hown hKv hP 6 rfl rfl 3 (by decide) k1 (fun _ h9 => h9) rfl dX0_compare_68 ?_
        refine va_get (D := D) (ci := 9) (v := .ref aW_ti) (C := RX9) (T := TX9) (N := 6) hx hb hts k5 hown hKv hP 0 rfl rfl 5 (by decide) k6 (fun _ h9 => h9) rfl dX0_compare_71 ?_
        refine lv_iload_n hx hb dX0_compare_74 rfl (lv_at hl 3 rfl) ?_
        replace hm := ck_some hm
        obtain ⟨h8, hm⟩ := hm
        refine va_iald hx hb hKv hP 5 0 rfl rfl h8 dX0_compare_75 ?_
        refine lv_isub hx hb dX0_compare_76 ?_
        have h9 := Option.some.inj hm
        subst h9
        exact hret H locs _ ls _ hP hD hS rfl dX0_compare_77
      · replace hm := if_f c6 hm
        refine lv_tableOut (tgt := 78) hx hb dX0_compare_1 (sw_out1_3 c1 c3 c6) (by decide) ?_
        refine lv_iconst (v := 0) hx hb dX0_compare_78 (by decide) ?_
        have h9 := Option.some.inj hm
        subst h9
        exact hret H locs _ ls _ hP hD hS rfl dX0_compare_79
set_option maxHeartbeats 4000000 in
set_option maxRecDepth 100000 in
theorem c_X0_numberCitedWorks (l : Launch) (D : va_G) (cI cJ cZ cS : ClassId) (aC aC_sz aC_cd aA aA_or aA_nu aA_li aW aS : Nat) (C_n : Int32) (C_sz : Nat → Int32) (C_cd : Nat → Int32) (A_nu : Nat → Int32) (o : Int32 × (Nat → Int32)) (hm : m_X0_numberCitedWorks C_n C_sz C_cd A_nu = some o) : MI l yX0_numberCitedWorks wsX0_numberCitedWorks rm_X0_numberCitedWorks D (TY cI cJ cZ cS) [.ref aA] (w_X0_numberCitedWorks cI aC aC_sz aC_cd aA aA_or aA_nu aA_li aW aS C_n C_sz C_cd A_nu) (w_X0_numberCitedWorks cI aC aC_sz aC_cd aA aA_or aA_nu aA_li aW aS C_n C_sz C_cd o.2) (o.1) := by
  refine MI_of (cc := cX0_numberCitedWorks) (maxL := 5) (by decide) rfl (Nat.le_of_ble_eq_true rfl) ?_
  intro p e s m args below meth c A Q ls H locs hx hb hml hts hown hK hA hP hD hS hl hret
  have hown : s.vm.findClass RX0 = some m.cls := hown
  have hKv : va_K D vwCl (TY cI cJ cZ cS) s := hK.1
  have hl : lv_has ls 5 [(0, .ref aA)] := hl
  have S : CallFix p m c cX0_numberCitedWorks 5 s args wsX0_numberCitedWorks RX0 := ⟨hx, hb, hml, hown, hts⟩
  have k1 := hts (.fieldLink RX0 37 "CitationFormatter$Arrangement" "citations" "LCitationFormatter$Citations;") (by decide +kernel)
  have k2 : ∀ w ∈ wsX00, w ∈ wsX0_numberCitedWorks := by decide +kernel
  have k3 := hts (.fieldLink RX0 90 "CitationFormatter$Citations" "count" "I") (by decide +kernel)
  have k4 : ∀ w ∈ wsX10, w ∈ wsX0_numberCitedWorks := by decide +kernel
  have k5 := hts (.fieldLink RX0 93 "CitationFormatter$Citations" "sizes" "[I") (by decide +kernel)
  have k6 : CallW rm_X0_numberCitedWorks s args RX0 RX1 96 yX1_workAt cX1_workAt 3 (some .int) wsX1_workAt rm_X1_workAt 0 0 2 := cwV 2 hts gX0_numberCitedWorks_X1_workAt rfl rfl rfl (by decide +kernel) ⟨Nat.le_of_ble_eq_true rfl, Nat.le_of_ble_eq_true rfl⟩
  have k7 := hts (.fieldLink RX0 15 "CitationFormatter$Arrangement" "numbers" "[I") (by decide +kernel)
  refine lv_iconst (v := 0) hx hb dX0_numberCitedWorks_0 (by decide) ?_
  refine lv_istore_n (lv' := [(1, .int 0), (0, .ref aA)]) hx hb dX0_numberCitedWorks_1 rfl hl (by decide) rfl (fun ls hl => ?_)
  refine lv_iconst (v := 0) hx hb dX0_numberCitedWorks_2 (by decide) ?_
  refine lv_istore_n (lv' := [(2, .int 0), (1, .int 0), (0, .ref aA)]) hx hb dX0_numberCitedWorks_3 rfl hl (by decide) rfl (fun ls hl => ?_)
  replace hm := bd_some hm
  obtain ⟨e1, hc1, hm⟩ := hm
  have X1_0 : ∀ (H : Heap) (locs : List Loc) (ls : Array Slot), va_P D vwCl (w_X0_numberCitedWorks cI aC aC_sz aC_cd aA aA_or aA_nu aA_li aW aS C_n C_sz C_cd e1.2) H → va_D A (w_X0_numberCitedWorks cI aC aC_sz aC_cd aA aA_or aA_nu aA_li aW aS C_n C_sz C_cd e1.2) → va_S A s.heap H locs → lv_has ls 5 [(0, .ref aA), (1, .int e1.1)] → W p l e rm_X0_numberCitedWorks s m args below meth c H locs 0 0 Q (F0 m 74 ls []) := by
    intro H locs ls hP hD hS hl
    refine lv_iload_n hx hb dX0_numberCitedWorks_74 rfl (lv_at hl 1 rfl) ?_
    have h9 := Option.some.inj hm
    subst h9
    exact hret H locs _ ls _ hP hD hS rfl dX0_numberCitedWorks_75
  refine it_W (G := fun (st4 : Int32 × Int32 × (Nat → Int32)) => ∀ (H : Heap) (locs : List Loc) (ls : Array Slot), va_P D vwCl (w_X0_numberCitedWorks cI aC aC_sz aC_cd aA aA_or aA_nu aA_li aW aS C_n C_sz C_cd st4.2.2) H → va_D A (w_X0_numberCitedWorks cI aC aC_sz aC_cd aA aA_or aA_nu aA_li aW aS C_n C_sz C_cd st4.2.2) → va_S A s.heap H locs → lv_has ls 5 [(0, .ref aA), (1, .int st4.1), (2, .int st4.2.1)] → W p l e rm_X0_numberCitedWorks s m args below meth c H locs 0 0 Q (F0 m 4 ls [])) (e := e1) (fun st4 x hm hG hE => ?_) fu _ hc1 H locs ls hP hD hS (lv_sub hl [2, 1, 0] rfl)
  intro H locs ls hP hD hS hl
  refine lv_iload_n hx hb dX0_numberCitedWorks_4 rfl (lv_at hl 2 rfl) ?_
  refine lv_aload_n hx hb dX0_numberCitedWorks_5 rfl (lv_at hl 0 rfl) ?_
  refine va_get (D := D) (ci := 0) (v := .ref aC) (C := RX0) (T := TX0) (N := 6) hx hb hts k2 hown hKv hP 3 rfl rfl 5 (by decide) k1 (fun _ h9 => h9) rfl dX0_numberCitedWorks_6 ?_
  refine va_get (D := D) (ci := 1) (v := .int C_n) (C := RX1) (T := TX1) (N := 3) hx hb hts k4 hown hKv hP 0 rfl rfl 0 (by decide) k3 (fun _ h9 => h9) rfl dX0_numberCitedWorks_9 ?_
  refine lv_icmp_ge (tgt := 74) hx hb dX0_numberCitedWorks_12 (by decide) (fun c2 => ?_) (fun c2 => ?_)
  · replace hm := if_t c2 hm
    have h9 := hE _ (Option.some.inj hm).symm
    subst h9
    exact X1_0 H locs ls hP hD hS (lv_sub hl [0, 1] rfl)
  · replace hm := if_f c2 hm
    refine lv_iconst (v := 0) hx hb dX0_numberCitedWorks_15 (by decide) ?_
    refine lv_istore_n (lv' := [(3, .int 0), (0, .ref aA), (1, .int st4.1), (2, .int st4.2.1)]) hx hb dX0_numberCitedWorks_16 rfl hl (by decide) rfl (fun ls hl => ?_)
    replace hm := bd_some hm
    obtain ⟨e3, hc3, hm⟩ := hm
    have X3_0 : ∀ (H : Heap) (locs : List Loc) (ls : Array Slot), va_P D vwCl (w_X0_numberCitedWorks cI aC aC_sz aC_cd aA aA_or aA_nu aA_li aW aS C_n C_sz C_cd e3.2) H → va_D A (w_X0_numberCitedWorks cI aC aC_sz aC_cd aA aA_or aA_nu aA_li aW aS C_n C_sz C_cd e3.2) → va_S A s.heap H locs → lv_has ls 5 [(0, .ref aA), (1, .int e3.1), (2, .int st4.2.1)] → W p l e rm_X0_numberCitedWorks s m args below meth c H locs 0 0 Q (F0 m 68 ls []) := by
      intro H locs ls hP hD hS hl
      refine lv_iinc (v := (st4.2.1 + 1)) (lv' := [(2, .int (st4.2.1 + 1)), (0, .ref aA), (1, .int e3.1)]) hx hb dX0_numberCitedWorks_68 hl (k := 2) rfl rfl (by decide) rfl (fun ls hl => ?_)
      refine lv_goto (tgt := 4) hx hb dX0_numberCitedWorks_71 (by decide) ?_
      exact hG _ (Option.some.inj hm).symm H locs ls hP hD hS (lv_sub hl [1, 2, 0] rfl)
    refine it_W (G := fun (st17 : Int32 × Int32 × (Nat → Int32)) => ∀ (H : Heap) (locs : List Loc) (ls : Array Slot), va_P D vwCl (w_X0_numberCitedWorks cI aC aC_sz aC_cd aA aA_or aA_nu aA_li aW aS C_n C_sz C_cd st17.2.2) H → va_D A (w_X0_numberCitedWorks cI aC aC_sz aC_cd aA aA_or aA_nu aA_li aW aS C_n C_sz C_cd st17.2.2) → va_S A s.heap H locs → lv_has ls 5 [(0, .ref aA), (1, .int st17.1), (2, .int st4.2.1), (3, .int st17.2.1)] → W p l e rm_X0_numberCitedWorks s m args below meth c H locs 0 0 Q (F0 m 17 ls [])) (e := e3) (fun st17 x hm hG hE => ?_) fu _ hc3 H locs ls hP hD hS (lv_sub hl [1, 2, 3, 0] rfl)
    intro H locs ls hP hD hS hl
    have J62 : ∀ (x1_j62 : Int32) (x3_j62 : Int32) (A_nu_j62 : Nat → Int32), (m_X0_numberCitedWorks_J62 x1_j62 st4.2.1 x3_j62 A_nu_j62 = some x) → ∀ (H : Heap) (locs : List Loc) (ls : Array Slot), va_P D vwCl (w_X0_numberCitedWorks cI aC aC_sz aC_cd aA aA_or aA_nu aA_li aW aS C_n C_sz C_cd A_nu_j62) H → va_D A (w_X0_numberCitedWorks cI aC aC_sz aC_cd aA aA_or aA_nu aA_li aW aS C_n C_sz C_cd A_nu_j62) → va_S A s.heap H locs → lv_has ls 5 [(0, .ref aA), (1, .int x1_j62), (2, .int st4.2.1), (3, .int x3_j62)] → W p l e rm_X0_numberCitedWorks s m args below meth c H locs 0 0 Q (F0 m 62 ls []) := by
      intro x1_j62 x3_j62 A_nu_j62 hm H locs ls hP hD hS hl
      refine lv_iinc (v := (x3_j62 + 1)) (lv' := [(3, .int (x3_j62 + 1)), (0, .ref aA), (1, .int x1_j62), (2, .int st4.2.1)]) hx hb dX0_numberCitedWorks_62 hl (k := 3) rfl rfl (by decide) rfl (fun ls hl => ?_)
      refine lv_goto (tgt := 17) hx hb dX0_numberCitedWorks_65 (by decide) ?_
      exact hG _ (Option.some.inj hm).symm H locs ls hP hD hS (lv_sub hl [1, 2, 3, 0] rfl)
    refine lv_iload_n hx hb dX0_numberCitedWorks_17 rfl (lv_at hl 3 rfl) ?_
    refine lv_aload_n hx hb dX0_numberCitedWorks_18 rfl (lv_at hl 0 rfl) ?_
    refine va_get (D := D) (ci := 0) (v := .ref aC) (C := RX0) (T := TX0) (N := 6) hx hb hts k2 hown hKv hP 3 rfl rfl 5 (by decide) k1 (fun _ h9 => h9) rfl dX0_numberCitedWorks_19 ?_
    refine va_get (D := D) (ci := 1) (v := .ref aC_sz) (C := RX1) (T := TX1) (N := 3) hx hb hts k4 hown hKv hP 0 rfl rfl 1 (by decide) k5 (fun _ h9 => h9) rfl dX0_numberCitedWorks_22 ?_
    refine lv_iload_n hx hb dX0_numberCitedWorks_25 rfl (lv_at hl 2 rfl) ?_
    replace hm := ck_some hm
    obtain ⟨h4, hm⟩ := hm
    refine va_iald hx hb hKv hP 1 0 rfl rfl h4 dX0_numberCitedWorks_26 ?_
    refine lv_icmp_ge (tgt := 68) hx hb dX0_numberCitedWorks_27 (by decide) (fun c5 => ?_) (fun c5 => ?_)
    · replace hm := if_t c5 hm
      have h9 := hE _ (Option.some.inj hm).symm
      subst h9
      exact X3_0 H locs ls hP hD hS (lv_sub hl [0, 1, 2] rfl)
    · replace hm := if_f c5 hm
      refine lv_aload_n hx hb dX0_numberCitedWorks_30 rfl (lv_at hl 0 rfl) ?_
      refine va_get (D := D) (ci := 0) (v := .ref aC) (C := RX0) (T := TX0) (N := 6) hx hb hts k2 hown hKv hP 3 rfl rfl 5 (by decide) k1 (fun _ h9 => h9) rfl dX0_numberCitedWorks_31 ?_
      refine lv_iload_n hx hb dX0_numberCitedWorks_34 rfl (lv_at hl 2 rfl) ?_
      refine lv_iload_n hx hb dX0_numberCitedWorks_35 rfl (lv_at hl 3 rfl) ?_
      replace hm := bd_some hm
      obtain ⟨e6, hc6, hm⟩ := hm
      refine kV_i (rest := []) (ws' := (w_X0_numberCitedWorks cI aC aC_sz aC_cd aA aA_or aA_nu aA_li aW aS C_n C_sz C_cd st17.2.2)) S (c_X1_workAt l D cI cJ cZ cS aC aC_sz aC_cd C_n C_cd st4.2.1 st17.2.1 e6 hc6) k6 hK hP hD hS hA 0 rfl rfl rfl rfl hl.1 rfl (Nat.le_of_ble_eq_true rfl) ⟨Nat.zero_le _, Nat.zero_le _⟩ dX0_numberCitedWorks_36 [0, 2] rfl rfl wa_X1_workAt (sa_eq [(aC_sz, .inl (cI, 10, .inl C_sz)), (aA, .inr (0, [.ref aA_or, .ref aA_nu, .ref aA_li, .ref aW, .ref aS, .ref aC])), (aA_nu, .inl (cI, 8, .inl st17.2.2))] [1, 3, 4] 5 rfl rfl rfl rfl rfl rfl rfl) (fun H locs hP hD hS => ?_)
      refine lv_istore (lv' := [(4, .int e6), (0, .ref aA), (1, .int st17.1), (2, .int st4.2.1), (3, .int st17.2.1)]) hx hb dX0_numberCitedWorks_39 hl (by decide) rfl (fun ls hl => ?_)
      refine lv_aload_n hx hb dX0_numberCitedWorks_41 rfl (lv_at hl 1 rfl) ?_
      refine va_get (D := D) (ci := 0) (v := .ref aA_nu) (C := RX0) (T := TX0) (N := 6) hx hb hts k2 hown hKv hP 3 rfl rfl 1 (by decide) k7 (fun _ h9 => h9) rfl dX0_numberCitedWorks_42 ?_
      refine lv_iload hx hb dX0_numberCitedWorks_45 (lv_at hl 0 rfl) ?_
      replace hm := ck_some hm
      obtain ⟨h7, hm⟩ := hm
      refine va_iald hx hb hKv hP 4 0 rfl rfl h7 dX0_numberCitedWorks_47 ?_
      refine lv_if_ne (tgt := 62) hx hb dX0_numberCitedWorks_48 (by decide) (fun c8 => ?_) (fun c8 => ?_)
      · replace hm := if_f c8 hm
        exact J62 st17.1 st17.2.1 st17.2.2 hm H locs ls hP hD hS (lv_sub hl [1, 2, 3, 4] rfl)
      · replace hm := if_t c8 hm
        refine lv_iinc (v := (st17.1 + 1)) (lv' := [(1, .int (st17.1 + 1)), (4, .int e6), (0, .ref aA), (2, .int st4.2.1), (3, .int st17.2.1)]) hx hb dX0_numberCitedWorks_51 hl (k := 2) rfl rfl (by decide) rfl (fun ls hl => ?_)
        refine lv_aload_n hx hb dX0_numberCitedWorks_54 rfl (lv_at hl 2 rfl) ?_
        refine va_get (D := D) (ci := 0) (v := .ref aA_nu) (C := RX0) (T := TX0) (N := 6) hx hb hts k2 hown hKv hP 3 rfl rfl 1 (by decide) k7 (fun _ h9 => h9) rfl dX0_numberCitedWorks_55 ?_
        refine lv_iload hx hb dX0_numberCitedWorks_58 (lv_at hl 1 rfl) ?_
        refine lv_iload_n hx hb dX0_numberCitedWorks_60 rfl (lv_at hl 0 rfl) ?_
        replace hm := ck_some hm
        obtain ⟨h9, hm⟩ := hm
        refine va_iast hx hb hKv hP hD hS 4 0 rfl rfl h9 dX0_numberCitedWorks_61 (fun H locs hP hD hS => ?_)
        replace hP : va_P D vwCl (w_X0_numberCitedWorks cI aC aC_sz aC_cd aA aA_or aA_nu aA_li aW aS C_n C_sz C_cd (upd st17.2.2 (Int32.toNatClampNeg e6) (st17.1 + 1))) H := hP
        replace hD : va_D A (w_X0_numberCitedWorks cI aC aC_sz aC_cd aA aA_or aA_nu aA_li aW aS C_n C_sz C_cd (upd st17.2.2 (Int32.toNatClampNeg e6) (st17.1 + 1))) := hD
        exact J62 (st17.1 + 1) st17.2.1 (upd st17.2.2 (Int32.toNatClampNeg e6) (st17.1 + 1)) hm H locs ls hP hD hS (lv_sub hl [2, 0, 3, 4] rfl)
set_option maxHeartbeats 4000000 in
set_option maxRecDepth 100000 in
theorem c_X0_giveNumbers (l : Launch) (D : va_G) (cI cJ cZ cS : ClassId) (aW aW_ac aW_fa aW_in aW_yr aW_ti aS aS_ke aS_di aC aC_sz aC_cd aA aA_or aA_nu aA_li : Nat) (W_n : Int32) (S_st : Int32) (S_mi : Int32) (S_fi : Int32) (S_sp : Int32) (S_cl : Int32) (S_nu : Int32) (S_co : Int32) (C_n : Int32) (C_sz : Nat → Int32) (C_cd : Nat → Int32) (A_or : Nat → Int32) (A_nu : Nat → Int32) (o : (Nat → Int32)) (hm : m_X0_giveNumbers W_n S_nu C_n C_sz C_cd A_or A_nu = some o) : MV l yX0_giveNumbers wsX0_giveNumbers rm_X0_giveNumbers D (TY cI cJ cZ cS) [.ref aA] (w_X0_giveNumbers cI aW aW_ac aW_fa aW_in aW_yr aW_ti aS aS_ke aS_di aC aC_sz aC_cd aA aA_or aA_nu aA_li W_n S_st S_mi S_fi S_sp S_cl S_nu S_co C_n C_sz C_cd A_or A_nu) (w_X0_giveNumbers cI aW aW_ac aW_fa aW_in aW_yr aW_ti aS aS_ke aS_di aC aC_sz aC_cd aA aA_or aA_nu aA_li W_n S_st S_mi S_fi S_sp S_cl S_nu S_co C_n C_sz C_cd A_or o) := by
  refine MV_of (cc := cX0_giveNumbers) (maxL := 3) (by decide) rfl (Nat.le_of_ble_eq_true rfl) ?_
  intro p e s m args below meth c A Q ls H locs hx hb hml hts hown hK hA hP hD hS hl hret
  have hown : s.vm.findClass RX0 = some m.cls := hown
  have hKv : va_K D vwCl (TY cI cJ cZ cS) s := hK.1
  have hl : lv_has ls 3 [(0, .ref aA)] := hl
  have S : CallFix p m c cX0_giveNumbers 3 s args wsX0_giveNumbers RX0 := ⟨hx, hb, hml, hown, hts⟩
  have k1 := hts (.fieldLink RX0 27 "CitationFormatter$Arrangement" "works" "LCitationFormatter$Works;") (by decide +kernel)
  have k2 : ∀ w ∈ wsX00, w ∈ wsX0_giveNumbers := by decide +kernel
  have k3 := hts (.fieldLink RX0 38 "CitationFormatter$Works" "count" "I") (by decide +kernel)
  have k4 : ∀ w ∈ wsX90, w ∈ wsX0_giveNumbers := by decide +kernel
  have k5 := hts (.fieldLink RX0 15 "CitationFormatter$Arrangement" "numbers" "[I") (by decide +kernel)
  have k6 := hts (.fieldLink RX0 9 "CitationFormatter$Arrangement" "order" "[I") (by decide +kernel)
  have k7 := hts (.fieldLink RX0 32 "CitationFormatter$Arrangement" "settings" "LCitationFormatter$Settings;") (by decide +kernel)
  have k8 := hts (.fieldLink RX0 83 "CitationFormatter$Settings" "numbering" "I") (by decide +kernel)
  have k9 : ∀ w ∈ wsX60, w ∈ wsX0_giveNumbers := by decide +kernel
  have k10 : CallW rm_X0_giveNumbers s args RX0 RX0 86 yX0_numberCitedWorks cX0_numberCitedWorks 5 (some .int) wsX0_numberCitedWorks rm_X0_numberCitedWorks 0 0 0 := cwV 0 hts gX0_giveNumbers_X0_numberCitedWorks rfl rfl rfl (by decide +kernel) ⟨Nat.le_of_ble_eq_true rfl, Nat.le_of_ble_eq_true rfl⟩
  have J44 : ∀ (x1_j44 : Int32) (A_nu_j44 : Nat → Int32), (m_X0_giveNumbers_J44 x1_j44 W_n A_or A_nu_j44 = some o) → ∀ (H : Heap) (locs : List Loc) (ls : Array Slot), va_P D vwCl (w_X0_giveNumbers cI aW aW_ac aW_fa aW_in aW_yr aW_ti aS aS_ke aS_di aC aC_sz aC_cd aA aA_or aA_nu aA_li W_n S_st S_mi S_fi S_sp S_cl S_nu S_co C_n C_sz C_cd A_or A_nu_j44) H → va_D A (w_X0_giveNumbers cI aW aW_ac aW_fa aW_in aW_yr aW_ti aS aS_ke aS_di aC aC_sz aC_cd aA aA_or aA_nu aA_li W_n S_st S_mi S_fi S_sp S_cl S_nu S_co C_n C_sz C_cd A_or A_nu_j44) → va_S A s.heap H locs → lv_has ls 3 [(0, .ref aA), (1, .int x1_j44)] → W p l e rm_X0_giveNumbers s m args below meth c H locs 0 0 Q (F0 m 44 ls []) := by
    intro x1_j44 A_nu_j44 hm H locs ls hP hD hS hl
    refine lv_iconst (v := 0) hx hb dX0_giveNumbers_44 (by decide) ?_
    refine lv_istore_n (lv' := [(2, .int 0), (0, .ref aA), (1, .int x1_j44)]) hx hb dX0_giveNumbers_45 rfl hl (by decide) rfl (fun ls hl => ?_)
    replace hm := bd_some hm
    obtain ⟨e1, hc1, hm⟩ := hm
    have X1_0 : ∀ (H : Heap) (locs : List Loc) (ls : Array Slot), va_P D vwCl (w_X0_giveNumbers cI aW aW_ac aW_fa aW_in aW_yr aW_ti aS aS_ke aS_di aC aC_sz aC_cd aA aA_or aA_nu aA_li W_n S_st S_mi S_fi S_sp S_cl S_nu S_co C_n C_sz C_cd A_or e1) H → va_D A (w_X0_giveNumbers cI aW aW_ac aW_fa aW_in aW_yr aW_ti aS aS_ke aS_di aC aC_sz aC_cd aA aA_or aA_nu aA_li W_n S_st S_mi S_fi S_sp S_cl S_nu S_co C_n C_sz C_cd A_or e1) → va_S A s.heap H locs → lv_has ls 3 [(0, .ref aA)] → W p l e rm_X0_giveNumbers s m args below meth c H locs 0 0 Q (F0 m 92 ls []) := by
      intro H locs ls hP hD hS hl
      have h9 := Option.some.inj hm
      subst h9
      exact hret H locs _ ls hP hD hS dX0_giveNumbers_92
    refine it_W (G := fun (st46 : Int32 × Int32 × (Nat → Int32)) => ∀ (H : Heap) (locs : List Loc) (ls : Array Slot), va_P D vwCl (w_X0_giveNumbers cI aW aW_ac aW_fa aW_in aW_yr aW_ti aS aS_ke aS_di aC aC_sz aC_cd aA aA_or aA_nu aA_li W_n S_st S_mi S_fi S_sp S_cl S_nu S_co C_n C_sz C_cd A_or st46.2.2) H → va_D A (w_X0_giveNumbers cI aW aW_ac aW_fa aW_in aW_yr aW_ti aS aS_ke aS_di aC aC_sz aC_cd aA aA_or aA_nu aA_li W_n S_st S_mi S_fi S_sp S_cl S_nu S_co C_n C_sz C_cd A_or st46.2.2) → va_S A s.heap H locs → lv_has ls 3 [(0, .ref aA), (1, .int st46.1), (2, .int st46.2.1)] → W p l e rm_X0_giveNumbers s m args below meth c H locs 0 0 Q (F0 m 46 ls [])) (e := e1) (fun st46 x hm hG hE => ?_) fu _ hc1 H locs ls hP hD hS (lv_sub hl [1, 2, 0] rfl)
    intro H locs ls hP hD hS hl
    have J86 : ∀ (x1_j86 : Int32) (x2_j86 : Int32) (A_nu_j86 : Nat → Int32), (m_X0_giveNumbers_J86 x1_j86 x2_j86 A_nu_j86 = some x) → ∀ (H : Heap) (locs : List Loc) (ls : Array Slot), va_P D vwCl (w_X0_giveNumbers cI aW aW_ac aW_fa aW_in aW_yr aW_ti aS aS_ke aS_di aC aC_sz aC_cd aA aA_or aA_nu aA_li W_n S_st S_mi S_fi S_sp S_cl S_nu S_co C_n C_sz C_cd A_or A_nu_j86) H → va_D A (w_X0_giveNumbers cI aW aW_ac aW_fa aW_in aW_yr aW_ti aS aS_ke aS_di aC aC_sz aC_cd aA aA_or aA_nu aA_li W_n S_st S_mi S_fi S_sp S_cl S_nu S_co C_n C_sz C_cd A_or A_nu_j86) → va_S A s.heap H locs → lv_has ls 3 [(0, .ref aA), (1, .int x1_j86), (2, .int x2_j86)] → W p l e rm_X0_giveNumbers s m args below meth c H locs 0 0 Q (F0 m 86 ls []) := by
      intro x1_j86 x2_j86 A_nu_j86 hm H locs ls hP hD hS hl
      refine lv_iinc (v := (x2_j86 + 1)) (lv' := [(2, .int (x2_j86 + 1)), (0, .ref aA), (1, .int x1_j86)]) hx hb dX0_giveNumbers_86 hl (k := 2) rfl rfl (by decide) rfl (fun ls hl => ?_)
      refine lv_goto (tgt := 46) hx hb dX0_giveNumbers_89 (by decide) ?_
      exact hG _ (Option.some.inj hm).symm H locs ls hP hD hS (lv_sub hl [1, 2, 0] rfl)
    refine lv_iload_n hx hb dX0_giveNumbers_46 rfl (lv_at hl 2 rfl) ?_
    refine lv_aload_n hx hb dX0_giveNumbers_47 rfl (lv_at hl 0 rfl) ?_
    refine va_get (D := D) (ci := 0) (v := .ref aW) (C := RX0) (T := TX0) (N := 6) hx hb hts k2 hown hKv hP 5 rfl rfl 3 (by decide) k1 (fun _ h9 => h9) rfl dX0_giveNumbers_48 ?_
    refine va_get (D := D) (ci := 9) (v := .int W_n) (C := RX9) (T := TX9) (N := 6) hx hb hts k4 hown hKv hP 0 rfl rfl 0 (by decide) k3 (fun _ h9 => h9) rfl dX0_giveNumbers_51 ?_
    refine lv_icmp_ge (tgt := 92) hx hb dX0_giveNumbers_54 (by decide) (fun c2 => ?_) (fun c2 => ?_)
    · replace hm := if_t c2 hm
      have h9 := hE _ (Option.some.inj hm).symm
      subst h9
      exact X1_0 H locs ls hP hD hS (lv_sub hl [0] rfl)
    · replace hm := if_f c2 hm
      refine lv_aload_n hx hb dX0_giveNumbers_57 rfl (lv_at hl 0 rfl) ?_
      refine va_get (D := D) (ci := 0) (v := .ref aA_nu) (C := RX0) (T := TX0) (N := 6) hx hb hts k2 hown hKv hP 5 rfl rfl 1 (by decide) k5 (fun _ h9 => h9) rfl dX0_giveNumbers_58 ?_
      refine lv_aload_n hx hb dX0_giveNumbers_61 rfl (lv_at hl 0 rfl) ?_
      refine va_get (D := D) (ci := 0) (v := .ref aA_or) (C := RX0) (T := TX0) (N := 6) hx hb hts k2 hown hKv hP 5 rfl rfl 0 (by decide) k6 (fun _ h9 => h9) rfl dX0_giveNumbers_62 ?_
      refine lv_iload_n hx hb dX0_giveNumbers_65 rfl (lv_at hl 2 rfl) ?_
      replace hm := ck_some hm
      obtain ⟨h3, hm⟩ := hm
      refine va_iald hx hb hKv hP 6 0 rfl rfl h3 dX0_giveNumbers_66 ?_
      replace hm := ck_some hm
      obtain ⟨h4, hm⟩ := hm
      refine va_iald hx hb hKv hP 7 0 rfl rfl h4 dX0_giveNumbers_67 ?_
      refine lv_if_ne (tgt := 86) hx hb dX0_giveNumbers_68 (by decide) (fun c5 => ?_) (fun c5 => ?_)
      · replace hm := if_f c5 hm
        exact J86 st46.1 st46.2.1 st46.2.2 hm H locs ls hP hD hS (lv_sub hl [0, 1, 2] rfl)
      · replace hm := if_t c5 hm
        refine lv_iinc (v := (st46.1 + 1)) (lv' := [(1, .int (st46.1 + 1)), (0, .ref aA), (2, .int st46.2.1)]) hx hb dX0_giveNumbers_71 hl (k := 1) rfl rfl (by decide) rfl (fun ls hl => ?_)
        refine lv_aload_n hx hb dX0_giveNumbers_74 rfl (lv_at hl 1 rfl) ?_
        refine va_get (D := D) (ci := 0) (v := .ref aA_nu) (C := RX0) (T := TX0) (N := 6) hx hb hts k2 hown hKv hP 5 rfl rfl 1 (by decide) k5 (fun _ h9 => h9) rfl dX0_giveNumbers_75 ?_
        refine lv_aload_n hx hb dX0_giveNumbers_78 rfl (lv_at hl 1 rfl) ?_
        refine va_get (D := D) (ci := 0) (v := .ref aA_or) (C := RX0) (T := TX0) (N := 6) hx hb hts k2 hown hKv hP 5 rfl rfl 0 (by decide) k6 (fun _ h9 => h9) rfl dX0_giveNumbers_79 ?_
        refine lv_iload_n hx hb dX0_giveNumbers_82 rfl (lv_at hl 2 rfl) ?_
        replace hm := ck_some hm
        obtain ⟨h6, hm⟩ := hm
        refine va_iald hx hb hKv hP 6 0 rfl rfl h6 dX0_giveNumbers_83 ?_
        refine lv_iload_n hx hb dX0_giveNumbers_84 rfl (lv_at hl 0 rfl) ?_
        replace hm := ck_some hm
        obtain ⟨h7, hm⟩ := hm
        refine va_iast hx hb hKv hP hD hS 7 0 rfl rfl h7 dX0_giveNumbers_85 (fun H locs hP hD hS => ?_)
        replace hP : va_P D vwCl (w_X0_giveNumbers cI aW aW_ac aW_fa aW_in aW_yr aW_ti aS aS_ke aS_di aC aC_sz aC_cd aA aA_or aA_nu aA_li W_n S_st S_mi S_fi S_sp S_cl S_nu S_co C_n C_sz C_cd A_or (upd st46.2.2 (Int32.toNatClampNeg (A_or (Int32.toNatClampNeg st46.2.1))) (st46.1 + 1))) H := hP
        replace hD : va_D A (w_X0_giveNumbers cI aW aW_ac aW_fa aW_in aW_yr aW_ti aS aS_ke aS_di aC aC_sz aC_cd aA aA_or aA_nu aA_li W_n S_st S_mi S_fi S_sp S_cl S_nu S_co C_n C_sz C_cd A_or (upd st46.2.2 (Int32.toNatClampNeg (A_or (Int32.toNatClampNeg st46.2.1))) (st46.1 + 1))) := hD
        exact J86 (st46.1 + 1) st46.2.1 (upd st46.2.2 (Int32.toNatClampNeg (A_or (Int32.toNatClampNeg st46.2.1))) (st46.1 + 1)) hm H locs ls hP hD hS (lv_sub hl [1, 0, 2] rfl)
  refine lv_iconst (v := 0) hx hb dX0_giveNumbers_0 (by decide) ?_
  refine lv_istore_n (lv' := [(1, .int 0), (0, .ref aA)]) hx hb dX0_giveNumbers_1 rfl hl (by decide) rfl (fun ls hl => ?_)
  refine lv_iconst (v := 0) hx hb dX0_giveNumbers_2 (by decide) ?_
  refine lv_istore_n (lv' := [(2, .int 0), (1, .int 0), (0, .ref aA)]) hx hb dX0_giveNumbers_3 rfl hl (by decide) rfl (fun ls hl => ?_)
  replace hm := bd_some hm
  obtain ⟨e8, hc8, hm⟩ := hm
  have X8_0 : ∀ (H : Heap) (locs : List Loc) (ls : Array Slot), va_P D vwCl (w_X0_giveNumbers cI aW aW_ac aW_fa aW_in aW_yr aW_ti aS aS_ke aS_di aC aC_sz aC_cd aA aA_or aA_nu aA_li W_n S_st S_mi S_fi S_sp S_cl S_nu S_co C_n C_sz C_cd A_or e8) H → va_D A (w_X0_giveNumbers cI aW aW_ac aW_fa aW_in aW_yr aW_ti aS aS_ke aS_di aC aC_sz aC_cd aA aA_or aA_nu aA_li W_n S_st S_mi S_fi S_sp S_cl S_nu S_co C_n C_sz C_cd A_or e8) → va_S A s.heap H locs → lv_has ls 3 [(0, .ref aA), (1, .int 0)] → W p l e rm_X0_giveNumbers s m args below meth c H locs 0 0 Q (F0 m 28 ls []) := by
    intro H locs ls hP hD hS hl
    refine lv_aload_n hx hb dX0_giveNumbers_28 rfl (lv_at hl 0 rfl) ?_
    refine va_get (D := D) (ci := 0) (v := .ref aS) (C := RX0) (T := TX0) (N := 6) hx hb hts k2 hown hKv hP 5 rfl rfl 4 (by decide) k7 (fun _ h9 => h9) rfl dX0_giveNumbers_29 ?_
    refine va_get (D := D) (ci := 6) (v := .int S_nu) (C := RX6) (T := TX6) (N := 9) hx hb hts k9 hown hKv hP 1 rfl rfl 5 (by decide) k8 (fun _ h9 => h9) rfl dX0_giveNumbers_32 ?_
    refine lv_iconst (v := 1) hx hb dX0_giveNumbers_35 (by decide) ?_
    refine lv_icmp_ne (tgt := 44) hx hb dX0_giveNumbers_36 (by decide) (fun c9 => ?_) (fun c9 => ?_)
    · replace hm := if_f c9 hm
      exact J44 0 e8 hm H locs ls hP hD hS (lv_sub hl [0, 1] rfl)
    · replace hm := if_t c9 hm
      refine lv_aload_n hx hb dX0_giveNumbers_39 rfl (lv_at hl 0 rfl) ?_
      replace hm := bd_some hm
      obtain ⟨e10, hc10, hm⟩ := hm
      refine kV_i (rest := []) (ws' := (w_X0_giveNumbers cI aW aW_ac aW_fa aW_in aW_yr aW_ti aS aS_ke aS_di aC aC_sz aC_cd aA aA_or aA_nu aA_li W_n S_st S_mi S_fi S_sp S_cl S_nu S_co C_n C_sz C_cd A_or e10.2)) S (c_X0_numberCitedWorks l D cI cJ cZ cS aC aC_sz aC_cd aA aA_or aA_nu aA_li aW aS C_n C_sz C_cd e8 e10 hc10) k10 hK hP hD hS hA 5 rfl rfl rfl rfl hl.1 rfl (Nat.le_of_ble_eq_true rfl) ⟨Nat.zero_le _, Nat.zero_le _⟩ dX0_giveNumbers_40 [2, 3, 4, 5, 7] rfl rfl wa_X0_numberCitedWorks (sa_eq [(aW, .inr (9, [.int W_n, .ref aW_ac, .ref aW_fa, .ref aW_in, .ref aW_yr, .ref aW_ti])), (aS, .inr (6, [.int S_st, .int S_mi, .int S_fi, .int S_sp, .int S_cl, .int S_nu, .int S_co, .ref aS_ke, .ref aS_di])), (aA_or, .inl (cI, 8, .inl A_or))] [0, 1, 6] 8 rfl rfl rfl rfl rfl rfl rfl) (fun H locs hP hD hS => ?_)
      refine lv_istore_n (lv' := [(1, .int e10.1), (0, .ref aA)]) hx hb dX0_giveNumbers_43 rfl hl (by decide) rfl (fun ls hl => ?_)
      exact J44 e10.1 e10.2 hm H locs ls hP hD hS (lv_sub hl [1, 0] rfl)
  refine it_W (G := fun (st4 : Int32 × (Nat → Int32)) => ∀ (H : Heap) (locs : List Loc) (ls : Array Slot), va_P D vwCl (w_X0_giveNumbers cI aW aW_ac aW_fa aW_in aW_yr aW_ti aS aS_ke aS_di aC aC_sz aC_cd aA aA_or aA_nu aA_li W_n S_st S_mi S_fi S_sp S_cl S_nu S_co C_n C_sz C_cd A_or st4.2) H → va_D A (w_X0_giveNumbers cI aW aW_ac aW_fa aW_in aW_yr aW_ti aS aS_ke aS_di aC aC_sz aC_cd aA aA_or aA_nu aA_li W_n S_st S_mi S_fi S_sp S_cl S_nu S_co C_n C_sz C_cd A_or st4.2) → va_S A s.heap H locs → lv_has ls 3 [(0, .ref aA), (1, .int 0), (2, .int st4.1)] → W p l e rm_X0_giveNumbers s m args below meth c H locs 0 0 Q (F0 m 4 ls [])) (e := e8) (fun st4 x hm hG hE => ?_) fu _ hc8 H locs ls hP hD hS (lv_sub hl [2, 1, 0] rfl)
  intro H locs ls hP hD hS hl
  refine lv_iload_n hx hb dX0_giveNumbers_4 rfl (lv_at hl 2 rfl) ?_
  refine lv_aload_n hx hb dX0_giveNumbers_5 rfl (lv_at hl 0 rfl) ?_
  refine va_get (D := D) (ci := 0) (v := .ref aW) (C := RX0) (T := TX0) (N := 6) hx hb hts k2 hown hKv hP 5 rfl rfl 3 (by decide) k1 (fun _ h9 => h9) rfl dX0_giveNumbers_6 ?_
  refine va_get (D := D) (ci := 9) (v := .int W_n) (C := RX9) (T := TX9) (N := 6) hx hb hts k4 hown hKv hP 0 rfl rfl 0 (by decide) k3 (fun _ h9 => h9) rfl dX0_giveNumbers_9 ?_
  refine lv_icmp_ge (tgt := 28) hx hb dX0_giveNumbers_12 (by decide) (fun c11 => ?_) (fun c11 => ?_)
  · replace hm := if_t c11 hm
    have h9 := hE _ (Option.some.inj hm).symm
    subst h9
    exact X8_0 H locs ls hP hD hS (lv_sub hl [0, 1] rfl)
  · replace hm := if_f c11 hm
    refine lv_aload_n hx hb dX0_giveNumbers_15 rfl (lv_at hl 0 rfl) ?_
    refine va_get (D := D) (ci := 0) (v := .ref aA_nu) (C := RX0) (T := TX0) (N := 6) hx hb hts k2 hown hKv hP 5 rfl rfl 1 (by decide) k5 (fun _ h9 => h9) rfl dX0_giveNumbers_16 ?_
    refine lv_iload_n hx hb dX0_giveNumbers_19 rfl (lv_at hl 2 rfl) ?_
    refine lv_iconst (v := 0) hx hb dX0_giveNumbers_20 (by decide) ?_
    replace hm := ck_some hm
    obtain ⟨h12, hm⟩ := hm
    refine va_iast hx hb hKv hP hD hS 7 0 rfl rfl h12 dX0_giveNumbers_21 (fun H locs hP hD hS => ?_)
    replace hP : va_P D vwCl (w_X0_giveNumbers cI aW aW_ac aW_fa aW_in aW_yr aW_ti aS aS_ke aS_di aC aC_sz aC_cd aA aA_or aA_nu aA_li W_n S_st S_mi S_fi S_sp S_cl S_nu S_co C_n C_sz C_cd A_or (upd st4.2 (Int32.toNatClampNeg st4.1) 0)) H := hP
    replace hD : va_D A (w_X0_giveNumbers cI aW aW_ac aW_fa aW_in aW_yr aW_ti aS aS_ke aS_di aC aC_sz aC_cd aA aA_or aA_nu aA_li W_n S_st S_mi S_fi S_sp S_cl S_nu S_co C_n C_sz C_cd A_or (upd st4.2 (Int32.toNatClampNeg st4.1) 0)) := hD
    refine lv_iinc (v := (st4.1 + 1)) (lv' := [(2, .int (st4.1 + 1)), (0, .ref aA), (1, .int 0)]) hx hb dX0_giveNumbers_22 hl (k := 2) rfl rfl (by decide) rfl (fun ls hl => ?_)
    refine lv_goto (tgt := 4) hx hb dX0_giveNumbers_25 (by decide) ?_
    exact hG _ (Option.some.inj hm).symm H locs ls hP hD hS (lv_sub hl [1, 2, 0] rfl)
set_option maxHeartbeats 4000000 in
set_option maxRecDepth 100000 in
theorem c_X0_precedes (l : Launch) (D : va_G) (cI cJ cZ cS : ClassId) (aW aW_ac aW_fa aW_in aW_yr aW_ti aS aS_ke aS_di aA aA_or aA_nu aA_li aC : Nat) (W_n : Int32) (W_ac : Nat → Int32) (W_fa : Nat → Int32) (W_in : Nat → Int32) (W_yr : Nat → Int32) (W_ti : Nat → Int32) (S_st : Int32) (S_mi : Int32) (S_fi : Int32) (S_sp : Int32) (S_cl : Int32) (S_nu : Int32) (S_co : Int32) (S_ke : Nat → Int32) (S_di : Nat → Int32) (x1 : Int32) (x2 : Int32) (o : Int32) (hm : m_X0_precedes W_ac W_fa W_in W_yr W_ti S_ke S_di x1 x2 = some o) : MI l yX0_precedes wsX0_precedes rm_X0_precedes D (TY cI cJ cZ cS) [.ref aA, .int x1, .int x2] (w_X0_precedes cI aW aW_ac aW_fa aW_in aW_yr aW_ti aS aS_ke aS_di aA aA_or aA_nu aA_li aC W_n W_ac W_fa W_in W_yr W_ti S_st S_mi S_fi S_sp S_cl S_nu S_co S_ke S_di) (w_X0_precedes cI aW aW_ac aW_fa aW_in aW_yr aW_ti aS aS_ke aS_di aA aA_or aA_nu aA_li aC W_n W_ac W_fa W_in W_yr W_ti S_st S_mi S_fi S_sp S_cl S_nu S_co S_ke S_di) (o) := by
  refine MZ_of (cc := cX0_precedes) (maxL := 5) (by decide) rfl (Nat.le_of_ble_eq_true rfl) ?_
  intro p e s m args below meth c A Q ls H locs hx hb hml hts hown hK hA hP hD hS hl hret
  have hown : s.vm.findClass RX0 = some m.cls := hown
  have hKv : va_K D vwCl (TY cI cJ cZ cS) s := hK.1
  have hl : lv_has ls 5 [(0, .ref aA), (1, .int x1), (2, .int x2)] := hl
  have S : CallFix p m c cX0_precedes 5 s args wsX0_precedes RX0 := ⟨hx, hb, hml, hown, hts⟩
  have k1 := hts (.fieldLink RX0 32 "CitationFormatter$Arrangement" "settings" "LCitationFormatter$Settings;") (by decide +kernel)
  have k2 : ∀ w ∈ wsX00, w ∈ wsX0_precedes := by decide +kernel
  have k3 := hts (.fieldLink RX0 70 "CitationFormatter$Settings" "sortDirections" "[I") (by decide +kernel)
  have k4 : ∀ w ∈ wsX60, w ∈ wsX0_precedes := by decide +kernel
  have k5 := hts (.fieldLink RX0 63 "CitationFormatter$Settings" "sortKeys" "[I") (by decide +kernel)
  have k6 : CallW rm_X0_precedes s args RX0 RX0 66 yX0_compare cX0_compare 4 (some .int) wsX0_compare rm_X0_compare 0 0 3 := cwV 3 hts gX0_precedes_X0_compare rfl rfl rfl (by decide +kernel) ⟨Nat.le_of_ble_eq_true rfl, Nat.le_of_ble_eq_true rfl⟩
  have J81 : ∀ (y0_j81 : Int32), (m_X0_precedes_J81 y0_j81 = some o) → ∀ (H : Heap) (locs : List Loc) (ls : Array Slot), va_P D vwCl (w_X0_precedes cI aW aW_ac aW_fa aW_in aW_yr aW_ti aS aS_ke aS_di aA aA_or aA_nu aA_li aC W_n W_ac W_fa W_in W_yr W_ti S_st S_mi S_fi S_sp S_cl S_nu S_co S_ke S_di) H → va_D A (w_X0_precedes cI aW aW_ac aW_fa aW_in aW_yr aW_ti aS aS_ke aS_di aA aA_or aA_nu aA_li aC W_n W_ac W_fa W_in W_yr W_ti S_st S_mi S_fi S_sp S_cl S_nu S_co S_ke S_di) → va_S A s.heap H locs → lv_has ls 5 [(0, .ref aA)] → W p l e rm_X0_precedes s m args below meth c H locs 0 0 Q (F0 m 81 ls [.int y0_j81]) := by
    intro y0_j81 hm H locs ls hP hD hS hl
    replace hm := ckb_some hm
    obtain ⟨h1, hm⟩ := hm
    have h9 := Option.some.inj hm
    subst h9
    exact hret H locs _ ls _ h1 hP hD hS rfl dX0_precedes_81
  have J64 : ∀ (y0_j64 : Int32), (m_X0_precedes_J64 y0_j64 = some o) → ∀ (H : Heap) (locs : List Loc) (ls : Array Slot), va_P D vwCl (w_X0_precedes cI aW aW_ac aW_fa aW_in aW_yr aW_ti aS aS_ke aS_di aA aA_or aA_nu aA_li aC W_n W_ac W_fa W_in W_yr W_ti S_st S_mi S_fi S_sp S_cl S_nu S_co S_ke S_di) H → va_D A (w_X0_precedes cI aW aW_ac aW_fa aW_in aW_yr aW_ti aS aS_ke aS_di aA aA_or aA_nu aA_li aC W_n W_ac W_fa W_in W_yr W_ti S_st S_mi S_fi S_sp S_cl S_nu S_co S_ke S_di) → va_S A s.heap H locs → lv_has ls 5 [(0, .ref aA)] → W p l e rm_X0_precedes s m args below meth c H locs 0 0 Q (F0 m 64 ls [.int y0_j64]) := by
    intro y0_j64 hm H locs ls hP hD hS hl
    replace hm := ckb_some hm
    obtain ⟨h2, hm⟩ := hm
    have h9 := Option.some.inj hm
    subst h9
    exact hret H locs _ ls _ h2 hP hD hS rfl dX0_precedes_64
  have J56 : ∀ (y0_j56 : Int32) (y1_j56 : Int32), (m_X0_precedes_J56 y0_j56 y1_j56 = some o) → ∀ (H : Heap) (locs : List Loc) (ls : Array Slot), va_P D vwCl (w_X0_precedes cI aW aW_ac aW_fa aW_in aW_yr aW_ti aS aS_ke aS_di aA aA_or aA_nu aA_li aC W_n W_ac W_fa W_in W_yr W_ti S_st S_mi S_fi S_sp S_cl S_nu S_co S_ke S_di) H → va_D A (w_X0_precedes cI aW aW_ac aW_fa aW_in aW_yr aW_ti aS aS_ke aS_di aA aA_or aA_nu aA_li aC W_n W_ac W_fa W_in W_yr W_ti S_st S_mi S_fi S_sp S_cl S_nu S_co S_ke S_di) → va_S A s.heap H locs → lv_has ls 5 [(0, .ref aA)] → W p l e rm_X0_precedes s m args below meth c H locs 0 0 Q (F0 m 56 ls [.int y0_j56, .int y1_j56]) := by
    intro y0_j56 y1_j56 hm H locs ls hP hD hS hl
    refine lv_icmp_ne (tgt := 63) hx hb dX0_precedes_56 (by decide) (fun c3 => ?_) (fun c3 => ?_)
    · replace hm := if_f c3 hm
      refine lv_iconst (v := 0) hx hb dX0_precedes_63 (by decide) ?_
      exact J64 0 hm H locs ls hP hD hS (lv_sub hl [0] rfl)
    · replace hm := if_t c3 hm
      refine lv_iconst (v := 1) hx hb dX0_precedes_59 (by decide) ?_
      refine lv_goto (tgt := 64) hx hb dX0_precedes_60 (by decide) ?_
      exact J64 1 hm H locs ls hP hD hS (lv_sub hl [0] rfl)
  have J39 : ∀ (x3_j39 : Int32) (y0_j39 : Int32), (m_X0_precedes_J39 x3_j39 y0_j39 S_di = some o) → ∀ (H : Heap) (locs : List Loc) (ls : Array Slot), va_P D vwCl (w_X0_precedes cI aW aW_ac aW_fa aW_in aW_yr aW_ti aS aS_ke aS_di aA aA_or aA_nu aA_li aC W_n W_ac W_fa W_in W_yr W_ti S_st S_mi S_fi S_sp S_cl S_nu S_co S_ke S_di) H → va_D A (w_X0_precedes cI aW aW_ac aW_fa aW_in aW_yr aW_ti aS aS_ke aS_di aA aA_or aA_nu aA_li aC W_n W_ac W_fa W_in W_yr W_ti S_st S_mi S_fi S_sp S_cl S_nu S_co S_ke S_di) → va_S A s.heap H locs → lv_has ls 5 [(0, .ref aA), (3, .int x3_j39)] → W p l e rm_X0_precedes s m args below meth c H locs 0 0 Q (F0 m 39 ls [.int y0_j39]) := by
    intro x3_j39 y0_j39 hm H locs ls hP hD hS hl
    refine lv_aload_n hx hb dX0_precedes_39 rfl (lv_at hl 0 rfl) ?_
    refine va_get (D := D) (ci := 0) (v := .ref aS) (C := RX0) (T := TX0) (N := 6) hx hb hts k2 hown hKv hP 9 rfl rfl 4 (by decide) k1 (fun _ h9 => h9) rfl dX0_precedes_40 ?_
    refine va_get (D := D) (ci := 6) (v := .ref aS_di) (C := RX6) (T := TX6) (N := 9) hx hb hts k4 hown hKv hP 6 rfl rfl 8 (by decide) k3 (fun _ h9 => h9) rfl dX0_precedes_43 ?_
    refine lv_iload_n hx hb dX0_precedes_46 rfl (lv_at hl 1 rfl) ?_
    replace hm := ck_some hm
    obtain ⟨h4, hm⟩ := hm
    refine va_iald hx hb hKv hP 8 0 rfl rfl h4 dX0_precedes_47 ?_
    refine lv_if_ne (tgt := 55) hx hb dX0_precedes_48 (by decide) (fun c5 => ?_) (fun c5 => ?_)
    · replace hm := if_f c5 hm
      refine lv_iconst (v := 0) hx hb dX0_precedes_55 (by decide) ?_
      exact J56 0 y0_j39 hm H locs ls hP hD hS (lv_sub hl [0] rfl)
    · replace hm := if_t c5 hm
      refine lv_iconst (v := 1) hx hb dX0_precedes_51 (by decide) ?_
      refine lv_goto (tgt := 56) hx hb dX0_precedes_52 (by decide) ?_
      exact J56 1 y0_j39 hm H locs ls hP hD hS (lv_sub hl [0] rfl)
  refine lv_iconst (v := 0) hx hb dX0_precedes_0 (by decide) ?_
  refine lv_istore_n (lv' := [(3, .int 0), (0, .ref aA), (1, .int x1), (2, .int x2)]) hx hb dX0_precedes_1 rfl hl (by decide) rfl (fun ls hl => ?_)
  replace hm := bd_some hm
  obtain ⟨e6, hc6, hm⟩ := hm
  have X6_0 : ∀ v6_0, e6 = Sum.inl v6_0 → ∀ (H : Heap) (locs : List Loc) (ls : Array Slot), va_P D vwCl (w_X0_precedes cI aW aW_ac aW_fa aW_in aW_yr aW_ti aS aS_ke aS_di aA aA_or aA_nu aA_li aC W_n W_ac W_fa W_in W_yr W_ti S_st S_mi S_fi S_sp S_cl S_nu S_co S_ke S_di) H → va_D A (w_X0_precedes cI aW aW_ac aW_fa aW_in aW_yr aW_ti aS aS_ke aS_di aA aA_or aA_nu aA_li aC W_n W_ac W_fa W_in W_yr W_ti S_st S_mi S_fi S_sp S_cl S_nu S_co S_ke S_di) → va_S A s.heap H locs → lv_has ls 5 [(0, .ref aA), (3, .int v6_0.1), (4, .int v6_0.2)] → W p l e rm_X0_precedes s m args below meth c H locs 0 0 Q (F0 m 29 ls []) := by
    intro v6_0 h9 H locs ls hP hD hS hl
    subst h9
    replace hm := el_l hm
    refine lv_iload hx hb dX0_precedes_29 (lv_at hl 2 rfl) ?_
    refine lv_if_ge (tgt := 38) hx hb dX0_precedes_31 (by decide) (fun c7 => ?_) (fun c7 => ?_)
    · replace hm := if_t c7 hm
      refine lv_iconst (v := 0) hx hb dX0_precedes_38 (by decide) ?_
      exact J39 v6_0.1 0 hm H locs ls hP hD hS (lv_sub hl [0, 1] rfl)
    · replace hm := if_f c7 hm
      refine lv_iconst (v := 1) hx hb dX0_precedes_34 (by decide) ?_
      refine lv_goto (tgt := 39) hx hb dX0_precedes_35 (by decide) ?_
      exact J39 v6_0.1 1 hm H locs ls hP hD hS (lv_sub hl [0, 1] rfl)
  have X6_1 : ∀ v6_1, e6 = Sum.inr (v6_1) → ∀ (H : Heap) (locs : List Loc) (ls : Array Slot), va_P D vwCl (w_X0_precedes cI aW aW_ac aW_fa aW_in aW_yr aW_ti aS aS_ke aS_di aA aA_or aA_nu aA_li aC W_n W_ac W_fa W_in W_yr W_ti S_st S_mi S_fi S_sp S_cl S_nu S_co S_ke S_di) H → va_D A (w_X0_precedes cI aW aW_ac aW_fa aW_in aW_yr aW_ti aS aS_ke aS_di aA aA_or aA_nu aA_li aC W_n W_ac W_fa W_in W_yr W_ti S_st S_mi S_fi S_sp S_cl S_nu S_co S_ke S_di) → va_S A s.heap H locs → lv_has ls 5 [(0, .ref aA), (1, .int x1), (2, .int x2)] → W p l e rm_X0_precedes s m args below meth c H locs 0 0 Q (F0 m 71 ls []) := by
    intro v6_1 h9 H locs ls hP hD hS hl
    subst h9
    replace hm := el_r hm
    refine lv_iload_n hx hb dX0_precedes_71 rfl (lv_at hl 1 rfl) ?_
    refine lv_iload_n hx hb dX0_precedes_72 rfl (lv_at hl 2 rfl) ?_
    refine lv_icmp_ge (tgt := 80) hx hb dX0_precedes_73 (by decide) (fun c8 => ?_) (fun c8 => ?_)
    · replace hm := if_t c8 hm
      refine lv_iconst (v := 0) hx hb dX0_precedes_80 (by decide) ?_
      exact J81 0 hm H locs ls hP hD hS (lv_sub hl [0] rfl)
    · replace hm := if_f c8 hm
      refine lv_iconst (v := 1) hx hb dX0_precedes_76 (by decide) ?_
      refine lv_goto (tgt := 81) hx hb dX0_precedes_77 (by decide) ?_
      exact J81 1 hm H locs ls hP hD hS (lv_sub hl [0] rfl)
  refine it_W (G := fun (st2 : Int32) => ∀ (H : Heap) (locs : List Loc) (ls : Array Slot), va_P D vwCl (w_X0_precedes cI aW aW_ac aW_fa aW_in aW_yr aW_ti aS aS_ke aS_di aA aA_or aA_nu aA_li aC W_n W_ac W_fa W_in W_yr W_ti S_st S_mi S_fi S_sp S_cl S_nu S_co S_ke S_di) H → va_D A (w_X0_precedes cI aW aW_ac aW_fa aW_in aW_yr aW_ti aS aS_ke aS_di aA aA_or aA_nu aA_li aC W_n W_ac W_fa W_in W_yr W_ti S_st S_mi S_fi S_sp S_cl S_nu S_co S_ke S_di) → va_S A s.heap H locs → lv_has ls 5 [(0, .ref aA), (1, .int x1), (2, .int x2), (3, .int st2)] → W p l e rm_X0_precedes s m args below meth c H locs 0 0 Q (F0 m 2 ls [])) (e := e6) (fun st2 x hm hG hE => ?_) fu _ hc6 H locs ls hP hD hS (lv_sub hl [1, 2, 3, 0] rfl)
  intro H locs ls hP hD hS hl
  refine lv_iload_n hx hb dX0_precedes_2 rfl (lv_at hl 3 rfl) ?_
  refine lv_iconst (v := 3) hx hb dX0_precedes_3 (by decide) ?_
  refine lv_icmp_ge (tgt := 71) hx hb dX0_precedes_4 (by decide) (fun c9 => ?_) (fun c9 => ?_)
  · replace hm := if_t c9 hm
    exact X6_1 _ (hE _ (Option.some.inj hm).symm).symm H locs ls hP hD hS (lv_sub hl [0, 1, 2] rfl)
  · replace hm := if_f c9 hm
    refine lv_aload_n hx hb dX0_precedes_7 rfl (lv_at hl 0 rfl) ?_
    refine lv_aload_n hx hb dX0_precedes_8 rfl (lv_at hl 0 rfl) ?_
    refine va_get (D := D) (ci := 0) (v := .ref aS) (C := RX0) (T := TX0) (N := 6) hx hb hts k2 hown hKv hP 9 rfl rfl 4 (by decide) k1 (fun _ h9 => h9) rfl dX0_precedes_9 ?_
    refine va_get (D := D) (ci := 6) (v := .ref aS_ke) (C := RX6) (T := TX6) (N := 9) hx hb hts k4 hown hKv hP 6 rfl rfl 7 (by decide) k5 (fun _ h9 => h9) rfl dX0_precedes_12 ?_
    refine lv_iload_n hx hb dX0_precedes_15 rfl (lv_at hl 3 rfl) ?_
    replace hm := ck_some hm
    obtain ⟨h10, hm⟩ := hm
    refine va_iald hx hb hKv hP 7 0 rfl rfl h10 dX0_precedes_16 ?_
    refine lv_iload_n hx hb dX0_precedes_17 rfl (lv_at hl 1 rfl) ?_
    refine lv_iload_n hx hb dX0_precedes_18 rfl (lv_at hl 2 rfl) ?_
    replace hm := bd_some hm
    obtain ⟨e11, hc11, hm⟩ := hm
    refine kV_i (rest := []) (ws' := (w_X0_precedes cI aW aW_ac aW_fa aW_in aW_yr aW_ti aS aS_ke aS_di aA aA_or aA_nu aA_li aC W_n W_ac W_fa W_in W_yr W_ti S_st S_mi S_fi S_sp S_cl S_nu S_co S_ke S_di)) S (c_X0_compare l D cI cJ cZ cS aW aW_ac aW_fa aW_in aW_yr aW_ti aA aA_or aA_nu aA_li aS aC W_n W_ac W_fa W_in W_yr W_ti (S_ke (Int32.toNatClampNeg st2)) x1 x2 e11 hc11) k6 hK hP hD hS hA 9 rfl rfl rfl rfl hl.1 rfl (Nat.le_of_ble_eq_true rfl) ⟨Nat.zero_le _, Nat.zero_le _⟩ dX0_precedes_19 [0, 1, 2, 3, 4, 5, 9] rfl rfl wa_X0_compare (sa_eq [(aS, .inr (6, [.int S_st, .int S_mi, .int S_fi, .int S_sp, .int S_cl, .int S_nu, .int S_co, .ref aS_ke, .ref aS_di])), (aS_ke, .inl (cI, 3, .inl S_ke)), (aS_di, .inl (cI, 3, .inl S_di))] [6, 7, 8] 10 rfl rfl rfl rfl rfl rfl rfl) (fun H locs hP hD hS => ?_)
    refine lv_istore (lv' := [(4, .int e11), (0, .ref aA), (1, .int x1), (2, .int x2), (3, .int st2)]) hx hb dX0_precedes_22 hl (by decide) rfl (fun ls hl => ?_)
    refine lv_iload hx hb dX0_precedes_24 (lv_at hl 0 rfl) ?_
    refine lv_if_eq (tgt := 65) hx hb dX0_precedes_26 (by decide) (fun c12 => ?_) (fun c12 => ?_)
    · replace hm := if_t c12 hm
      refine lv_iinc (v := (st2 + 1)) (lv' := [(3, .int (st2 + 1)), (4, .int e11), (0, .ref aA), (1, .int x1), (2, .int x2)]) hx hb dX0_precedes_65 hl (k := 4) rfl rfl (by decide) rfl (fun ls hl => ?_)
      refine lv_goto (tgt := 2) hx hb dX0_precedes_68 (by decide) ?_
      exact hG _ (Option.some.inj hm).symm H locs ls hP hD hS (lv_sub hl [2, 3, 4, 0] rfl)
    · replace hm := if_f c12 hm
      exact X6_0 _ (hE _ (Option.some.inj hm).symm).symm H locs ls hP hD hS (lv_sub hl [1, 4, 0] rfl)
set_option maxHeartbeats 4000000 in
set_option maxRecDepth 100000 in
theorem c_X0_placeOf (l : Launch) (D : va_G) (cI cJ cZ cS : ClassId) (aW aW_ac aW_fa aW_in aW_yr aW_ti aS aS_ke aS_di aA aA_or aA_nu aA_li aC : Nat) (W_n : Int32) (W_ac : Nat → Int32) (W_fa : Nat → Int32) (W_in : Nat → Int32) (W_yr : Nat → Int32) (W_ti : Nat → Int32) (S_st : Int32) (S_mi : Int32) (S_fi : Int32) (S_sp : Int32) (S_cl : Int32) (S_nu : Int32) (S_co : Int32) (S_ke : Nat → Int32) (S_di : Nat → Int32) (x1 : Int32) (o : Int32) (hm : m_X0_placeOf W_n W_ac W_fa W_in W_yr W_ti S_ke S_di x1 = some o) : MI l yX0_placeOf wsX0_placeOf rm_X0_placeOf D (TY cI cJ cZ cS) [.ref aA, .int x1] (w_X0_placeOf cI aW aW_ac aW_fa aW_in aW_yr aW_ti aS aS_ke aS_di aA aA_or aA_nu aA_li aC W_n W_ac W_fa W_in W_yr W_ti S_st S_mi S_fi S_sp S_cl S_nu S_co S_ke S_di) (w_X0_placeOf cI aW aW_ac aW_fa aW_in aW_yr aW_ti aS aS_ke aS_di aA aA_or aA_nu aA_li aC W_n W_ac W_fa W_in W_yr W_ti S_st S_mi S_fi S_sp S_cl S_nu S_co S_ke S_di) (o) := by
  refine MI_of (cc := cX0_placeOf) (maxL := 4) (by decide) rfl (Nat.le_of_ble_eq_true rfl) ?_
  intro p e s m args below meth c A Q ls H locs hx hb hml hts hown hK hA hP hD hS hl hret
  have hown : s.vm.findClass RX0 = some m.cls := hown
  have hKv : va_K D vwCl (TY cI cJ cZ cS) s := hK.1
  have hl : lv_has ls 4 [(0, .ref aA), (1, .int x1)] := hl
  have S : CallFix p m c cX0_placeOf 4 s args wsX0_placeOf RX0 := ⟨hx, hb, hml, hown, hts⟩
  have k1 := hts (.fieldLink RX0 27 "CitationFormatter$Arrangement" "works" "LCitationFormatter$Works;") (by decide +kernel)
  have k2 : ∀ w ∈ wsX00, w ∈ wsX0_placeOf := by decide +kernel
  have k3 := hts (.fieldLink RX0 38 "CitationFormatter$Works" "count" "I") (by decide +kernel)
  have k4 : ∀ w ∈ wsX90, w ∈ wsX0_placeOf := by decide +kernel
  have k5 : CallW rm_X0_placeOf s args RX0 RX0 60 yX0_precedes cX0_precedes 5 (some .boolean) wsX0_precedes rm_X0_precedes 0 0 2 := cwV 2 hts gX0_placeOf_X0_precedes rfl rfl rfl (by decide +kernel) ⟨Nat.le_of_ble_eq_true rfl, Nat.le_of_ble_eq_true rfl⟩
  refine lv_iconst (v := 0) hx hb dX0_placeOf_0 (by decide) ?_
  refine lv_istore_n (lv' := [(2, .int 0), (0, .ref aA), (1, .int x1)]) hx hb dX0_placeOf_1 rfl hl (by decide) rfl (fun ls hl => ?_)
  refine lv_iconst (v := 0) hx hb dX0_placeOf_2 (by decide) ?_
  refine lv_istore_n (lv' := [(3, .int 0), (2, .int 0), (0, .ref aA), (1, .int x1)]) hx hb dX0_placeOf_3 rfl hl (by decide) rfl (fun ls hl => ?_)
  replace hm := bd_some hm
  obtain ⟨e1, hc1, hm⟩ := hm
  have X1_0 : ∀ (H : Heap) (locs : List Loc) (ls : Array Slot), va_P D vwCl (w_X0_placeOf cI aW aW_ac aW_fa aW_in aW_yr aW_ti aS aS_ke aS_di aA aA_or aA_nu aA_li aC W_n W_ac W_fa W_in W_yr W_ti S_st S_mi S_fi S_sp S_cl S_nu S_co S_ke S_di) H → va_D A (w_X0_placeOf cI aW aW_ac aW_fa aW_in aW_yr aW_ti aS aS_ke aS_di aA aA_or aA_nu aA_li aC W_n W_ac W_fa W_in W_yr W_ti S_st S_mi S_fi S_sp S_cl S_nu S_co S_ke S_di) → va_S A s.heap H locs → lv_has ls 4 [(0, .ref aA), (2, .int e1)] → W p l e rm_X0_placeOf s m args below meth c H locs 0 0 Q (F0 m 33 ls []) := by
    intro H locs ls hP hD hS hl
    refine lv_iload_n hx hb dX0_placeOf_33 rfl (lv_at hl 1 rfl) ?_
    have h9 := Option.some.inj hm
    subst h9
    exact hret H locs _ ls _ hP hD hS rfl dX0_placeOf_34
  refine it_W (G := fun (st4 : Int32 × Int32) => ∀ (H : Heap) (locs : List Loc) (ls : Array Slot), va_P D vwCl (w_X0_placeOf cI aW aW_ac aW_fa aW_in aW_yr aW_ti aS aS_ke aS_di aA aA_or aA_nu aA_li aC W_n W_ac W_fa W_in W_yr W_ti S_st S_mi S_fi S_sp S_cl S_nu S_co S_ke S_di) H → va_D A (w_X0_placeOf cI aW aW_ac aW_fa aW_in aW_yr aW_ti aS aS_ke aS_di aA aA_or aA_nu aA_li aC W_n W_ac W_fa W_in W_yr W_ti S_st S_mi S_fi S_sp S_cl S_nu S_co S_ke S_di) → va_S A s.heap H locs → lv_has ls 4 [(0, .ref aA), (1, .int x1), (2, .int st4.1), (3, .int st4.2)] → W p l e rm_X0_placeOf s m args below meth c H locs 0 0 Q (F0 m 4 ls [])) (e := e1) (fun st4 x hm hG hE => ?_) fu _ hc1 H locs ls hP hD hS (lv_sub hl [2, 3, 1, 0] rfl)
  intro H locs ls hP hD hS hl
  have J27 : ∀ (x2_j27 : Int32) (x3_j27 : Int32), (m_X0_placeOf_J27 x1 x2_j27 x3_j27 = some x) → ∀ (H : Heap) (locs : List Loc) (ls : Array Slot), va_P D vwCl (w_X0_placeOf cI aW aW_ac aW_fa aW_in aW_yr aW_ti aS aS_ke aS_di aA aA_or aA_nu aA_li aC W_n W_ac W_fa W_in W_yr W_ti S_st S_mi S_fi S_sp S_cl S_nu S_co S_ke S_di) H → va_D A (w_X0_placeOf cI aW aW_ac aW_fa aW_in aW_yr aW_ti aS aS_ke aS_di aA aA_or aA_nu aA_li aC W_n W_ac W_fa W_in W_yr W_ti S_st S_mi S_fi S_sp S_cl S_nu S_co S_ke S_di) → va_S A s.heap H locs → lv_has ls 4 [(0, .ref aA), (1, .int x1), (2, .int x2_j27), (3, .int x3_j27)] → W p l e rm_X0_placeOf s m args below meth c H locs 0 0 Q (F0 m 27 ls []) := by
    intro x2_j27 x3_j27 hm H locs ls hP hD hS hl
    refine lv_iinc (v := (x3_j27 + 1)) (lv' := [(3, .int (x3_j27 + 1)), (0, .ref aA), (1, .int x1), (2, .int x2_j27)]) hx hb dX0_placeOf_27 hl (k := 3) rfl rfl (by decide) rfl (fun ls hl => ?_)
    refine lv_goto (tgt := 4) hx hb dX0_placeOf_30 (by decide) ?_
    exact hG _ (Option.some.inj hm).symm H locs ls hP hD hS (lv_sub hl [1, 2, 3, 0] rfl)
  refine lv_iload_n hx hb dX0_placeOf_4 rfl (lv_at hl 3 rfl) ?_
  refine lv_aload_n hx hb dX0_placeOf_5 rfl (lv_at hl 0 rfl) ?_
  refine va_get (D := D) (ci := 0) (v := .ref aW) (C := RX0) (T := TX0) (N := 6) hx hb hts k2 hown hKv hP 9 rfl rfl 3 (by decide) k1 (fun _ h9 => h9) rfl dX0_placeOf_6 ?_
  refine va_get (D := D) (ci := 9) (v := .int W_n) (C := RX9) (T := TX9) (N := 6) hx hb hts k4 hown hKv hP 0 rfl rfl 0 (by decide) k3 (fun _ h9 => h9) rfl dX0_placeOf_9 ?_
  refine lv_icmp_ge (tgt := 33) hx hb dX0_placeOf_12 (by decide) (fun c2 => ?_) (fun c2 => ?_)
  · replace hm := if_t c2 hm
    have h9 := hE _ (Option.some.inj hm).symm
    subst h9
    exact X1_0 H locs ls hP hD hS (lv_sub hl [0, 2] rfl)
  · replace hm := if_f c2 hm
    refine lv_aload_n hx hb dX0_placeOf_15 rfl (lv_at hl 0 rfl) ?_
    refine lv_iload_n hx hb dX0_placeOf_16 rfl (lv_at hl 3 rfl) ?_
    refine lv_iload_n hx hb dX0_placeOf_17 rfl (lv_at hl 1 rfl) ?_
    replace hm := bd_some hm
    obtain ⟨e3, hc3, hm⟩ := hm
    refine kV_i (rest := []) (ws' := (w_X0_placeOf cI aW aW_ac aW_fa aW_in aW_yr aW_ti aS aS_ke aS_di aA aA_or aA_nu aA_li aC W_n W_ac W_fa W_in W_yr W_ti S_st S_mi S_fi S_sp S_cl S_nu S_co S_ke S_di)) S (c_X0_precedes l D cI cJ cZ cS aW aW_ac aW_fa aW_in aW_yr aW_ti aS aS_ke aS_di aA aA_or aA_nu aA_li aC W_n W_ac W_fa W_in W_yr W_ti S_st S_mi S_fi S_sp S_cl S_nu S_co S_ke S_di st4.2 x1 e3 hc3) k5 hK hP hD hS hA 9 rfl rfl rfl rfl hl.1 rfl (Nat.le_of_ble_eq_true rfl) ⟨Nat.zero_le _, Nat.zero_le _⟩ dX0_placeOf_18 [0, 1, 2, 3, 4, 5, 6, 7, 8, 9] rfl rfl wa_X0_precedes (sa_eq [] [] 10 rfl rfl rfl rfl rfl rfl rfl) (fun H locs hP hD hS => ?_)
    refine lv_if_eq (tgt := 27) hx hb dX0_placeOf_21 (by decide) (fun c4 => ?_) (fun c4 => ?_)
    · replace hm := if_t c4 hm
      exact J27 st4.1 st4.2 hm H locs ls hP hD hS (lv_sub hl [0, 1, 2, 3] rfl)
    · replace hm := if_f c4 hm
      refine lv_iinc (v := (st4.1 + 1)) (lv' := [(2, .int (st4.1 + 1)), (0, .ref aA), (1, .int x1), (3, .int st4.2)]) hx hb dX0_placeOf_24 hl (k := 2) rfl rfl (by decide) rfl (fun ls hl => ?_)
      exact J27 (st4.1 + 1) st4.2 hm H locs ls hP hD hS (lv_sub hl [1, 2, 0, 3] rfl)
set_option maxHeartbeats 4000000 in
set_option maxRecDepth 100000 in
theorem c_X0_update (l : Launch) (D : va_G) (cI cJ cZ cS : ClassId) (aW aW_ac aW_fa aW_in aW_yr aW_ti aS aS_ke aS_di aC aC_sz aC_cd aA aA_or aA_nu aA_li : Nat) (W_n : Int32) (W_ac : Nat → Int32) (W_fa : Nat → Int32) (W_in : Nat → Int32) (W_yr : Nat → Int32) (W_ti : Nat → Int32) (S_st : Int32) (S_mi : Int32) (S_fi : Int32) (S_sp : Int32) (S_cl : Int32) (S_nu : Int32) (S_co : Int32) (S_ke : Nat → Int32) (S_di : Nat → Int32) (C_n : Int32) (C_sz : Nat → Int32) (C_cd : Nat → Int32) (A_or : Nat → Int32) (A_nu : Nat → Int32) (A_li : Nat → Int32) (o : (Nat → Int32) × (Nat → Int32) × (Nat → Int32)) (hm : m_X0_update W_n W_ac W_fa W_in W_yr W_ti S_st S_nu S_ke S_di C_n C_sz C_cd A_or A_nu A_li = some o) : MV l yX0_update wsX0_update rm_X0_update D (TY cI cJ cZ cS) [.ref aA] (w_X0_update cI aW aW_ac aW_fa aW_in aW_yr aW_ti aS aS_ke aS_di aC aC_sz aC_cd aA aA_or aA_nu aA_li W_n W_ac W_fa W_in W_yr W_ti S_st S_mi S_fi S_sp S_cl S_nu S_co S_ke S_di C_n C_sz C_cd A_or A_nu A_li) (w_X0_update cI aW aW_ac aW_fa aW_in aW_yr aW_ti aS aS_ke aS_di aC aC_sz aC_cd aA aA_or aA_nu aA_li W_n W_ac W_fa W_in W_yr W_ti S_st S_mi S_fi S_sp S_cl S_nu S_co S_ke S_di C_n C_sz C_cd o.1 o.2.1 o.2.2) := by
  refine MV_of (cc := cX0_update) (maxL := 3) (by decide) rfl (Nat.le_of_ble_eq_true rfl) ?_
  intro p e s m args below meth c A Q ls H locs hx hb hml hts hown hK hA hP hD hS hl hret
  have hown : s.vm.findClass RX0 = some m.cls := hown
  have hKv : va_K D vwCl (TY cI cJ cZ cS) s := hK.1
  have hl : lv_has ls 3 [(0, .ref aA)] := hl
  have S : CallFix p m c cX0_update 3 s args wsX0_update RX0 := ⟨hx, hb, hml, hown, hts⟩
  have k1 : CallW rm_X0_update s args RX0 RX0 48 yX0_giveNumbers cX0_giveNumbers 3 none wsX0_giveNumbers rm_X0_giveNumbers 0 0 0 := cwV 0 hts gX0_update_X0_giveNumbers rfl rfl rfl (by decide +kernel) ⟨Nat.le_of_ble_eq_true rfl, Nat.le_of_ble_eq_true rfl⟩
  have k2 := hts (.fieldLink RX0 27 "CitationFormatter$Arrangement" "works" "LCitationFormatter$Works;") (by decide +kernel)
  have k3 : ∀ w ∈ wsX00, w ∈ wsX0_update := by decide +kernel
  have k4 := hts (.fieldLink RX0 38 "CitationFormatter$Works" "count" "I") (by decide +kernel)
  have k5 : ∀ w ∈ wsX90, w ∈ wsX0_update := by decide +kernel
  have k6 := hts (.fieldLink RX0 9 "CitationFormatter$Arrangement" "order" "[I") (by decide +kernel)
  have k7 := hts (.fieldLink RX0 18 "CitationFormatter$Arrangement" "listing" "[I") (by decide +kernel)
  have k8 := hts (.fieldLink RX0 32 "CitationFormatter$Arrangement" "settings" "LCitationFormatter$Settings;") (by decide +kernel)
  have k9 := hts (.fieldLink RX0 51 "CitationFormatter$Settings" "style" "I") (by decide +kernel)
  have k10 : ∀ w ∈ wsX60, w ∈ wsX0_update := by decide +kernel
  have k11 := hts (.fieldLink RX0 15 "CitationFormatter$Arrangement" "numbers" "[I") (by decide +kernel)
  have k12 : CallW rm_X0_update s args RX0 RX0 44 yX0_placeOf cX0_placeOf 4 (some .int) wsX0_placeOf rm_X0_placeOf 0 0 1 := cwV 1 hts gX0_update_X0_placeOf rfl rfl rfl (by decide +kernel) ⟨Nat.le_of_ble_eq_true rfl, Nat.le_of_ble_eq_true rfl⟩
  refine lv_iconst (v := 0) hx hb dX0_update_0 (by decide) ?_
  refine lv_istore_n (lv' := [(1, .int 0), (0, .ref aA)]) hx hb dX0_update_1 rfl hl (by decide) rfl (fun ls hl => ?_)
  replace hm := bd_some hm
  obtain ⟨e1, hc1, hm⟩ := hm
  have X1_0 : ∀ (H : Heap) (locs : List Loc) (ls : Array Slot), va_P D vwCl (w_X0_update cI aW aW_ac aW_fa aW_in aW_yr aW_ti aS aS_ke aS_di aC aC_sz aC_cd aA aA_or aA_nu aA_li W_n W_ac W_fa W_in W_yr W_ti S_st S_mi S_fi S_sp S_cl S_nu S_co S_ke S_di C_n C_sz C_cd e1 A_nu A_li) H → va_D A (w_X0_update cI aW aW_ac aW_fa aW_in aW_yr aW_ti aS aS_ke aS_di aC aC_sz aC_cd aA aA_or aA_nu aA_li W_n W_ac W_fa W_in W_yr W_ti S_st S_mi S_fi S_sp S_cl S_nu S_co S_ke S_di C_n C_sz C_cd e1 A_nu A_li) → va_S A s.heap H locs → lv_has ls 3 [(0, .ref aA)] → W p l e rm_X0_update s m args below meth c H locs 0 0 Q (F0 m 30 ls []) := by
    intro H locs ls hP hD hS hl
    refine lv_aload_n hx hb dX0_update_30 rfl (lv_at hl 0 rfl) ?_
    replace hm := bd_some hm
    obtain ⟨e2, hc2, hm⟩ := hm
    refine kV_v (rest := []) (ws' := (w_X0_update cI aW aW_ac aW_fa aW_in aW_yr aW_ti aS aS_ke aS_di aC aC_sz aC_cd aA aA_or aA_nu aA_li W_n W_ac W_fa W_in W_yr W_ti S_st S_mi S_fi S_sp S_cl S_nu S_co S_ke S_di C_n C_sz C_cd e1 e2 A_li)) S (c_X0_giveNumbers l D cI cJ cZ cS aW aW_ac aW_fa aW_in aW_yr aW_ti aS aS_ke aS_di aC aC_sz aC_cd aA aA_or aA_nu aA_li W_n S_st S_mi S_fi S_sp S_cl S_nu S_co C_n C_sz C_cd e1 A_nu e2 hc2) k1 hK hP hD hS hA 12 rfl rfl rfl rfl hl.1 rfl (Nat.le_of_ble_eq_true rfl) ⟨Nat.zero_le _, Nat.zero_le _⟩ dX0_update_31 [0, 6, 9, 10, 11, 12, 13, 14] rfl rfl wa_X0_giveNumbers (sa_eq [(aW_ac, .inl (cI, 8, .inl W_ac)), (aW_fa, .inl (cI, 32, .inl W_fa)), (aW_in, .inl (cI, 32, .inl W_in)), (aW_yr, .inl (cI, 8, .inl W_yr)), (aW_ti, .inl (cI, 8, .inl W_ti)), (aS_ke, .inl (cI, 3, .inl S_ke)), (aS_di, .inl (cI, 3, .inl S_di)), (aA_li, .inl (cI, 8, .inl A_li))] [1, 2, 3, 4, 5, 7, 8, 15] 16 rfl rfl rfl rfl rfl rfl rfl) (fun H locs hP hD hS => ?_)
    refine lv_iconst (v := 0) hx hb dX0_update_34 (by decide) ?_
    refine lv_istore_n (lv' := [(1, .int 0), (0, .ref aA)]) hx hb dX0_update_35 rfl hl (by decide) rfl (fun ls hl => ?_)
    replace hm := bd_some hm
    obtain ⟨e3, hc3, hm⟩ := hm
    have X3_0 : ∀ (H : Heap) (locs : List Loc) (ls : Array Slot), va_P D vwCl (w_X0_update cI aW aW_ac aW_fa aW_in aW_yr aW_ti aS aS_ke aS_di aC aC_sz aC_cd aA aA_or aA_nu aA_li W_n W_ac W_fa W_in W_yr W_ti S_st S_mi S_fi S_sp S_cl S_nu S_co S_ke S_di C_n C_sz C_cd e1 e2 e3) H → va_D A (w_X0_update cI aW aW_ac aW_fa aW_in aW_yr aW_ti aS aS_ke aS_di aC aC_sz aC_cd aA aA_or aA_nu aA_li W_n W_ac W_fa W_in W_yr W_ti S_st S_mi S_fi S_sp S_cl S_nu S_co S_ke S_di C_n C_sz C_cd e1 e2 e3) → va_S A s.heap H locs → lv_has ls 3 [(0, .ref aA)] → W p l e rm_X0_update s m args below meth c H locs 0 0 Q (F0 m 89 ls []) := by
      intro H locs ls hP hD hS hl
      have h9 := Option.some.inj hm
      subst h9
      exact hret H locs _ ls hP hD hS dX0_update_89
    refine it_W (G := fun (st36 : Int32 × (Nat → Int32)) => ∀ (H : Heap) (locs : List Loc) (ls : Array Slot), va_P D vwCl (w_X0_update cI aW aW_ac aW_fa aW_in aW_yr aW_ti aS aS_ke aS_di aC aC_sz aC_cd aA aA_or aA_nu aA_li W_n W_ac W_fa W_in W_yr W_ti S_st S_mi S_fi S_sp S_cl S_nu S_co S_ke S_di C_n C_sz C_cd e1 e2 st36.2) H → va_D A (w_X0_update cI aW aW_ac aW_fa aW_in aW_yr aW_ti aS aS_ke aS_di aC aC_sz aC_cd aA aA_or aA_nu aA_li W_n W_ac W_fa W_in W_yr W_ti S_st S_mi S_fi S_sp S_cl S_nu S_co S_ke S_di C_n C_sz C_cd e1 e2 st36.2) → va_S A s.heap H locs → lv_has ls 3 [(0, .ref aA), (1, .int st36.1)] → W p l e rm_X0_update s m args below meth c H locs 0 0 Q (F0 m 36 ls [])) (e := e3) (fun st36 x hm hG hE => ?_) fu _ hc3 H locs ls hP hD hS (lv_sub hl [1, 0] rfl)
    intro H locs ls hP hD hS hl
    have J81 : ∀ (x1_j81 : Int32) (x2_j81 : Int32) (y0_j81 : Int32) (A_li_j81 : Nat → Int32), (m_X0_update_J81 x1_j81 x2_j81 y0_j81 A_li_j81 = some x) → ∀ (H : Heap) (locs : List Loc) (ls : Array Slot), va_P D vwCl (w_X0_update cI aW aW_ac aW_fa aW_in aW_yr aW_ti aS aS_ke aS_di aC aC_sz aC_cd aA aA_or aA_nu aA_li W_n W_ac W_fa W_in W_yr W_ti S_st S_mi S_fi S_sp S_cl S_nu S_co S_ke S_di C_n C_sz C_cd e1 e2 A_li_j81) H → va_D A (w_X0_update cI aW aW_ac aW_fa aW_in aW_yr aW_ti aS aS_ke aS_di aC aC_sz aC_cd aA aA_or aA_nu aA_li W_n W_ac W_fa W_in W_yr W_ti S_st S_mi S_fi S_sp S_cl S_nu S_co S_ke S_di C_n C_sz C_cd e1 e2 A_li_j81) → va_S A s.heap H locs → lv_has ls 3 [(0, .ref aA), (1, .int x1_j81), (2, .int x2_j81)] → W p l e rm_X0_update s m args below meth c H locs 0 0 Q (F0 m 81 ls [.int y0_j81, .ref aA_li]) := by
      intro x1_j81 x2_j81 y0_j81 A_li_j81 hm H locs ls hP hD hS hl
      refine lv_iload_n hx hb dX0_update_81 rfl (lv_at hl 2 rfl) ?_
      replace hm := ck_some hm
      obtain ⟨h4, hm⟩ := hm
      refine va_iast hx hb hKv hP hD hS 15 0 rfl rfl h4 dX0_update_82 (fun H locs hP hD hS => ?_)
      replace hP : va_P D vwCl (w_X0_update cI aW aW_ac aW_fa aW_in aW_yr aW_ti aS aS_ke aS_di aC aC_sz aC_cd aA aA_or aA_nu aA_li W_n W_ac W_fa W_in W_yr W_ti S_st S_mi S_fi S_sp S_cl S_nu S_co S_ke S_di C_n C_sz C_cd e1 e2 (upd A_li_j81 (Int32.toNatClampNeg y0_j81) x2_j81)) H := hP
      replace hD : va_D A (w_X0_update cI aW aW_ac aW_fa aW_in aW_yr aW_ti aS aS_ke aS_di aC aC_sz aC_cd aA aA_or aA_nu aA_li W_n W_ac W_fa W_in W_yr W_ti S_st S_mi S_fi S_sp S_cl S_nu S_co S_ke S_di C_n C_sz C_cd e1 e2 (upd A_li_j81 (Int32.toNatClampNeg y0_j81) x2_j81)) := hD
      refine lv_iinc (v := (x1_j81 + 1)) (lv' := [(1, .int (x1_j81 + 1)), (0, .ref aA), (2, .int x2_j81)]) hx hb dX0_update_83 hl (k := 1) rfl rfl (by decide) rfl (fun ls hl => ?_)
      refine lv_goto (tgt := 36) hx hb dX0_update_86 (by decide) ?_
      exact hG _ (Option.some.inj hm).symm H locs ls hP hD hS (lv_sub hl [1, 0] rfl)
    refine lv_iload_n hx hb dX0_update_36 rfl (lv_at hl 1 rfl) ?_
    refine lv_aload_n hx hb dX0_update_37 rfl (lv_at hl 0 rfl) ?_
    refine va_get (D := D) (ci := 0) (v := .ref aW) (C := RX0) (T := TX0) (N := 6) hx hb hts k3 hown hKv hP 12 rfl rfl 3 (by decide) k2 (fun _ h9 => h9) rfl dX0_update_38 ?_
    refine va_get (D := D) (ci := 9) (v := .int W_n) (C := RX9) (T := TX9) (N := 6) hx hb hts k5 hown hKv hP 0 rfl rfl 0 (by decide) k4 (fun _ h9 => h9) rfl dX0_update_41 ?_
    refine lv_icmp_ge (tgt := 89) hx hb dX0_update_44 (by decide) (fun c5 => ?_) (fun c5 => ?_)
    · replace hm := if_t c5 hm
      have h9 := hE _ (Option.some.inj hm).symm
      subst h9
      exact X3_0 H locs ls hP hD hS (lv_sub hl [0] rfl)
    · replace hm := if_f c5 hm
      refine lv_aload_n hx hb dX0_update_47 rfl (lv_at hl 0 rfl) ?_
      refine va_get (D := D) (ci := 0) (v := .ref aA_or) (C := RX0) (T := TX0) (N := 6) hx hb hts k3 hown hKv hP 12 rfl rfl 0 (by decide) k6 (fun _ h9 => h9) rfl dX0_update_48 ?_
      refine lv_iload_n hx hb dX0_update_51 rfl (lv_at hl 1 rfl) ?_
      replace hm := ck_some hm
      obtain ⟨h6, hm⟩ := hm
      refine va_iald hx hb hKv hP 13 0 rfl rfl h6 dX0_update_52 ?_
      refine lv_istore_n (lv' := [(2, .int (e1 (Int32.toNatClampNeg st36.1))), (0, .ref aA), (1, .int st36.1)]) hx hb dX0_update_53 rfl hl (by decide) rfl (fun ls hl => ?_)
      refine lv_aload_n hx hb dX0_update_54 rfl (lv_at hl 1 rfl) ?_
      refine va_get (D := D) (ci := 0) (v := .ref aA_li) (C := RX0) (T := TX0) (N := 6) hx hb hts k3 hown hKv hP 12 rfl rfl 2 (by decide) k7 (fun _ h9 => h9) rfl dX0_update_55 ?_
      refine lv_aload_n hx hb dX0_update_58 rfl (lv_at hl 1 rfl) ?_
      refine va_get (D := D) (ci := 0) (v := .ref aS) (C := RX0) (T := TX0) (N := 6) hx hb hts k3 hown hKv hP 12 rfl rfl 4 (by decide) k8 (fun _ h9 => h9) rfl dX0_update_59 ?_
      refine va_get (D := D) (ci := 6) (v := .int S_st) (C := RX6) (T := TX6) (N := 9) hx hb hts k10 hown hKv hP 6 rfl rfl 0 (by decide) k9 (fun _ h9 => h9) rfl dX0_update_62 ?_
      refine lv_iconst (v := 1) hx hb dX0_update_65 (by decide) ?_
      refine lv_icmp_ne (tgt := 80) hx hb dX0_update_66 (by decide) (fun c7 => ?_) (fun c7 => ?_)
      · replace hm := if_f c7 hm
        refine lv_iload_n hx hb dX0_update_80 rfl (lv_at hl 2 rfl) ?_
        exact J81 st36.1 (e1 (Int32.toNatClampNeg st36.1)) st36.1 st36.2 hm H locs ls hP hD hS (lv_sub hl [1, 2, 0] rfl)
      · replace hm := if_t c7 hm
        refine lv_aload_n hx hb dX0_update_69 rfl (lv_at hl 1 rfl) ?_
        refine va_get (D := D) (ci := 0) (v := .ref aA_nu) (C := RX0) (T := TX0) (N := 6) hx hb hts k3 hown hKv hP 12 rfl rfl 1 (by decide) k11 (fun _ h9 => h9) rfl dX0_update_70 ?_
        refine lv_iload_n hx hb dX0_update_73 rfl (lv_at hl 0 rfl) ?_
        replace hm := ck_some hm
        obtain ⟨h8, hm⟩ := hm
        refine va_iald hx hb hKv hP 14 0 rfl rfl h8 dX0_update_74 ?_
        refine lv_iconst (v := 1) hx hb dX0_update_75 (by decide) ?_
        refine lv_isub hx hb dX0_update_76 ?_
        refine lv_goto (tgt := 81) hx hb dX0_update_77 (by decide) ?_
        exact J81 st36.1 (e1 (Int32.toNatClampNeg st36.1)) ((e2 (Int32.toNatClampNeg (e1 (Int32.toNatClampNeg st36.1)))) - 1) st36.2 hm H locs ls hP hD hS (lv_sub hl [1, 2, 0] rfl)
  refine it_W (G := fun (st2 : Int32 × (Nat → Int32)) => ∀ (H : Heap) (locs : List Loc) (ls : Array Slot), va_P D vwCl (w_X0_update cI aW aW_ac aW_fa aW_in aW_yr aW_ti aS aS_ke aS_di aC aC_sz aC_cd aA aA_or aA_nu aA_li W_n W_ac W_fa W_in W_yr W_ti S_st S_mi S_fi S_sp S_cl S_nu S_co S_ke S_di C_n C_sz C_cd st2.2 A_nu A_li) H → va_D A (w_X0_update cI aW aW_ac aW_fa aW_in aW_yr aW_ti aS aS_ke aS_di aC aC_sz aC_cd aA aA_or aA_nu aA_li W_n W_ac W_fa W_in W_yr W_ti S_st S_mi S_fi S_sp S_cl S_nu S_co S_ke S_di C_n C_sz C_cd st2.2 A_nu A_li) → va_S A s.heap H locs → lv_has ls 3 [(0, .ref aA), (1, .int st2.1)] → W p l e rm_X0_update s m args below meth c H locs 0 0 Q (F0 m 2 ls [])) (e := e1) (fun st2 x hm hG hE => ?_) fu _ hc1 H locs ls hP hD hS (lv_sub hl [1, 0] rfl)
  intro H locs ls hP hD hS hl
  refine lv_iload_n hx hb dX0_update_2 rfl (lv_at hl 1 rfl) ?_
  refine lv_aload_n hx hb dX0_update_3 rfl (lv_at hl 0 rfl) ?_
  refine va_get (D := D) (ci := 0) (v := .ref aW) (C := RX0) (T := TX0) (N := 6) hx hb hts k3 hown hKv hP 12 rfl rfl 3 (by decide) k2 (fun _ h9 => h9) rfl dX0_update_4 ?_
  refine va_get (D := D) (ci := 9) (v := .int W_n) (C := RX9) (T := TX9) (N := 6) hx hb hts k5 hown hKv hP 0 rfl rfl 0 (by decide) k4 (fun _ h9 => h9) rfl dX0_update_7 ?_
  refine lv_icmp_ge (tgt := 30) hx hb dX0_update_10 (by decide) (fun c9 => ?_) (fun c9 => ?_)
  · replace hm := if_t c9 hm
    have h9 := hE _ (Option.some.inj hm).symm
    subst h9
    exact X1_0 H locs ls hP hD hS (lv_sub hl [0] rfl)
  · replace hm := if_f c9 hm
    refine lv_aload_n hx hb dX0_update_13 rfl (lv_at hl 0 rfl) ?_
    refine va_get (D := D) (ci := 0) (v := .ref aA_or) (C := RX0) (T := TX0) (N := 6) hx hb hts k3 hown hKv hP 12 rfl rfl 0 (by decide) k6 (fun _ h9 => h9) rfl dX0_update_14 ?_
    refine lv_aload_n hx hb dX0_update_17 rfl (lv_at hl 0 rfl) ?_
    refine lv_iload_n hx hb dX0_update_18 rfl (lv_at hl 1 rfl) ?_
    replace hm := bd_some hm
    obtain ⟨e10, hc10, hm⟩ := hm
    refine kV_i (rest := [.ref aA_or]) (ws' := (w_X0_update cI aW aW_ac aW_fa aW_in aW_yr aW_ti aS aS_ke aS_di aC aC_sz aC_cd aA aA_or aA_nu aA_li W_n W_ac W_fa W_in W_yr W_ti S_st S_mi S_fi S_sp S_cl S_nu S_co S_ke S_di C_n C_sz C_cd st2.2 A_nu A_li)) S (c_X0_placeOf l D cI cJ cZ cS aW aW_ac aW_fa aW_in aW_yr aW_ti aS aS_ke aS_di aA aA_or aA_nu aA_li aC W_n W_ac W_fa W_in W_yr W_ti S_st S_mi S_fi S_sp S_cl S_nu S_co S_ke S_di st2.1 e10 hc10) k12 hK hP hD hS hA 12 rfl rfl rfl rfl hl.1 rfl (Nat.le_of_ble_eq_true rfl) ⟨Nat.zero_le _, Nat.zero_le _⟩ dX0_update_19 [0, 1, 2, 3, 4, 5, 6, 7, 8, 12] rfl rfl wa_X0_placeOf (sa_eq [(aC, .inr (1, [.int C_n, .ref aC_sz, .ref aC_cd])), (aC_sz, .inl (cI, 10, .inl C_sz)), (aC_cd, .inl (cI, 50, .inl C_cd)), (aA_or, .inl (cI, 8, .inl st2.2)), (aA_nu, .inl (cI, 8, .inl A_nu)), (aA_li, .inl (cI, 8, .inl A_li))] [9, 10, 11, 13, 14, 15] 16 rfl rfl rfl rfl rfl rfl rfl) (fun H locs hP hD hS => ?_)
    refine lv_iload_n hx hb dX0_update_22 rfl (lv_at hl 1 rfl) ?_
    replace hm := ck_some hm
    obtain ⟨h11, hm⟩ := hm
    refine va_iast hx hb hKv hP hD hS 13 0 rfl rfl h11 dX0_update_23 (fun H locs hP hD hS => ?_)
    replace hP : va_P D vwCl (w_X0_update cI aW aW_ac aW_fa aW_in aW_yr aW_ti aS aS_ke aS_di aC aC_sz aC_cd aA aA_or aA_nu aA_li W_n W_ac W_fa W_in W_yr W_ti S_st S_mi S_fi S_sp S_cl S_nu S_co S_ke S_di C_n C_sz C_cd (upd st2.2 (Int32.toNatClampNeg e10) st2.1) A_nu A_li) H := hP
    replace hD : va_D A (w_X0_update cI aW aW_ac aW_fa aW_in aW_yr aW_ti aS aS_ke aS_di aC aC_sz aC_cd aA aA_or aA_nu aA_li W_n W_ac W_fa W_in W_yr W_ti S_st S_mi S_fi S_sp S_cl S_nu S_co S_ke S_di C_n C_sz C_cd (upd st2.2 (Int32.toNatClampNeg e10) st2.1) A_nu A_li) := hD
    refine lv_iinc (v := (st2.1 + 1)) (lv' := [(1, .int (st2.1 + 1)), (0, .ref aA)]) hx hb dX0_update_24 hl (k := 1) rfl rfl (by decide) rfl (fun ls hl => ?_)
    refine lv_goto (tgt := 2) hx hb dX0_update_27 (by decide) ?_
    exact hG _ (Option.some.inj hm).symm H locs ls hP hD hS (lv_sub hl [1, 0] rfl)
set_option maxHeartbeats 4000000 in
set_option maxRecDepth 100000 in
theorem c_X0_worksWithNumbers (l : Launch) (D : va_G) (cI cJ cZ cS : ClassId) (aW aW_ac aW_fa aW_in aW_yr aW_ti aA aA_or aA_nu aA_li aS aC : Nat) (W_n : Int32) (A_nu : Nat → Int32) (x1 : Int32) (o : Int32) (hm : m_X0_worksWithNumbers W_n A_nu x1 = some o) : MI l yX0_worksWithNumbers wsX0_worksWithNumbers rm_X0_worksWithNumbers D (TY cI cJ cZ cS) [.ref aA, .int x1] (w_X0_worksWithNumbers cI aW aW_ac aW_fa aW_in aW_yr aW_ti aA aA_or aA_nu aA_li aS aC W_n A_nu) (w_X0_worksWithNumbers cI aW aW_ac aW_fa aW_in aW_yr aW_ti aA aA_or aA_nu aA_li aS aC W_n A_nu) (o) := by
  refine MI_of (cc := cX0_worksWithNumbers) (maxL := 4) (by decide) rfl (Nat.le_of_ble_eq_true rfl) ?_
  intro p e s m args below meth c A Q ls H locs hx hb hml hts hown hK hA hP hD hS hl hret
  have hown : s.vm.findClass RX0 = some m.cls := hown
  have hKv : va_K D vwCl (TY cI cJ cZ cS) s := hK.1
  have hl : lv_has ls 4 [(0, .ref aA), (1, .int x1)] := hl
  have S : CallFix p m c cX0_worksWithNumbers 4 s args wsX0_worksWithNumbers RX0 := ⟨hx, hb, hml, hown, hts⟩
  have k1 := hts (.fieldLink RX0 27 "CitationFormatter$Arrangement" "works" "LCitationFormatter$Works;") (by decide +kernel)
  have k2 : ∀ w ∈ wsX00, w ∈ wsX0_worksWithNumbers := by decide +kernel
  have k3 := hts (.fieldLink RX0 38 "CitationFormatter$Works" "count" "I") (by decide +kernel)
  have k4 : ∀ w ∈ wsX90, w ∈ wsX0_worksWithNumbers := by decide +kernel
  have k5 := hts (.fieldLink RX0 15 "CitationFormatter$Arrangement" "numbers" "[I") (by decide +kernel)
  have k6 : va_CN rm_X0_worksWithNumbers s args RX0 56 yX11_inSet "CitationFormatter" cX11_inSet 2 (some .boolean) wsX11_inSet rm_X11_inSet 0 0 2 ∧ (Cond.static yX11_inSet).before args s = true ∧ True := ⟨va_cnB 2 hts gX0_worksWithNumbers_X11_inSet_n56 rfl rfl rfl (hK.2 (RX0, 56, yX11_inSet) (by decide +kernel)) (hts (.initialized RX11) (by decide +kernel)) (by decide +kernel) ⟨Nat.le_of_ble_eq_true rfl, Nat.le_of_ble_eq_true rfl⟩, hts (.static yX11_inSet) (by decide +kernel), trivial⟩
  refine lv_iconst (v := 0) hx hb dX0_worksWithNumbers_0 (by decide) ?_
  refine lv_istore_n (lv' := [(2, .int 0), (0, .ref aA), (1, .int x1)]) hx hb dX0_worksWithNumbers_1 rfl hl (by decide) rfl (fun ls hl => ?_)
  refine lv_iconst (v := 0) hx hb dX0_worksWithNumbers_2 (by decide) ?_
  refine lv_istore_n (lv' := [(3, .int 0), (2, .int 0), (0, .ref aA), (1, .int x1)]) hx hb dX0_worksWithNumbers_3 rfl hl (by decide) rfl (fun ls hl => ?_)
  replace hm := bd_some hm
  obtain ⟨e1, hc1, hm⟩ := hm
  have X1_0 : ∀ (H : Heap) (locs : List Loc) (ls : Array Slot), va_P D vwCl (w_X0_worksWithNumbers cI aW aW_ac aW_fa aW_in aW_yr aW_ti aA aA_or aA_nu aA_li aS aC W_n A_nu) H → va_D A (w_X0_worksWithNumbers cI aW aW_ac aW_fa aW_in aW_yr aW_ti aA aA_or aA_nu aA_li aS aC W_n A_nu) → va_S A s.heap H locs → lv_has ls 4 [(0, .ref aA), (2, .int e1)] → W p l e rm_X0_worksWithNumbers s m args below meth c H locs 0 0 Q (F0 m 40 ls []) := by
    intro H locs ls hP hD hS hl
    refine lv_iload_n hx hb dX0_worksWithNumbers_40 rfl (lv_at hl 1 rfl) ?_
    have h9 := Option.some.inj hm
    subst h9
    exact hret H locs _ ls _ hP hD hS rfl dX0_worksWithNumbers_41
  refine it_W (G := fun (st4 : Int32 × Int32) => ∀ (H : Heap) (locs : List Loc) (ls : Array Slot), va_P D vwCl (w_X0_worksWithNumbers cI aW aW_ac aW_fa aW_in aW_yr aW_ti aA aA_or aA_nu aA_li aS aC W_n A_nu) H → va_D A (w_X0_worksWithNumbers cI aW aW_ac aW_fa aW_in aW_yr aW_ti aA aA_or aA_nu aA_li aS aC W_n A_nu) → va_S A s.heap H locs → lv_has ls 4 [(0, .ref aA), (1, .int x1), (2, .int st4.1), (3, .int st4.2)] → W p l e rm_X0_worksWithNumbers s m args below meth c H locs 0 0 Q (F0 m 4 ls [])) (e := e1) (fun st4 x hm hG hE => ?_) fu _ hc1 H locs ls hP hD hS (lv_sub hl [2, 3, 1, 0] rfl)
  intro H locs ls hP hD hS hl
  have J34 : ∀ (x2_j34 : Int32) (x3_j34 : Int32), (m_X0_worksWithNumbers_J34 x1 x2_j34 x3_j34 = some x) → ∀ (H : Heap) (locs : List Loc) (ls : Array Slot), va_P D vwCl (w_X0_worksWithNumbers cI aW aW_ac aW_fa aW_in aW_yr aW_ti aA aA_or aA_nu aA_li aS aC W_n A_nu) H → va_D A (w_X0_worksWithNumbers cI aW aW_ac aW_fa aW_in aW_yr aW_ti aA aA_or aA_nu aA_li aS aC W_n A_nu) → va_S A s.heap H locs → lv_has ls 4 [(0, .ref aA), (1, .int x1), (2, .int x2_j34), (3, .int x3_j34)] → W p l e rm_X0_worksWithNumbers s m args below meth c H locs 0 0 Q (F0 m 34 ls []) := by
    intro x2_j34 x3_j34 hm H locs ls hP hD hS hl
    refine lv_iinc (v := (x3_j34 + 1)) (lv' := [(3, .int (x3_j34 + 1)), (0, .ref aA), (1, .int x1), (2, .int x2_j34)]) hx hb dX0_worksWithNumbers_34 hl (k := 3) rfl rfl (by decide) rfl (fun ls hl => ?_)
    refine lv_goto (tgt := 4) hx hb dX0_worksWithNumbers_37 (by decide) ?_
    exact hG _ (Option.some.inj hm).symm H locs ls hP hD hS (lv_sub hl [1, 2, 3, 0] rfl)
  refine lv_iload_n hx hb dX0_worksWithNumbers_4 rfl (lv_at hl 3 rfl) ?_
  refine lv_aload_n hx hb dX0_worksWithNumbers_5 rfl (lv_at hl 0 rfl) ?_
  refine va_get (D := D) (ci := 0) (v := .ref aW) (C := RX0) (T := TX0) (N := 6) hx hb hts k2 hown hKv hP 1 rfl rfl 3 (by decide) k1 (fun _ h9 => h9) rfl dX0_worksWithNumbers_6 ?_
  refine va_get (D := D) (ci := 9) (v := .int W_n) (C := RX9) (T := TX9) (N := 6) hx hb hts k4 hown hKv hP 0 rfl rfl 0 (by decide) k3 (fun _ h9 => h9) rfl dX0_worksWithNumbers_9 ?_
  refine lv_icmp_ge (tgt := 40) hx hb dX0_worksWithNumbers_12 (by decide) (fun c2 => ?_) (fun c2 => ?_)
  · replace hm := if_t c2 hm
    have h9 := hE _ (Option.some.inj hm).symm
    subst h9
    exact X1_0 H locs ls hP hD hS (lv_sub hl [0, 2] rfl)
  · replace hm := if_f c2 hm
    refine lv_iload_n hx hb dX0_worksWithNumbers_15 rfl (lv_at hl 1 rfl) ?_
    refine lv_aload_n hx hb dX0_worksWithNumbers_16 rfl (lv_at hl 0 rfl) ?_
    refine va_get (D := D) (ci := 0) (v := .ref aA_nu) (C := RX0) (T := TX0) (N := 6) hx hb hts k2 hown hKv hP 1 rfl rfl 1 (by decide) k5 (fun _ h9 => h9) rfl dX0_worksWithNumbers_17 ?_
    refine lv_iload_n hx hb dX0_worksWithNumbers_20 rfl (lv_at hl 3 rfl) ?_
    replace hm := ck_some hm
    obtain ⟨h3, hm⟩ := hm
    refine va_iald hx hb hKv hP 2 0 rfl rfl h3 dX0_worksWithNumbers_21 ?_
    replace hm := bd_some hm
    obtain ⟨e4, hc4, hm⟩ := hm
    refine kN_i (rest := []) S (c_X11_inSet l D cI cJ cZ cS x1 (A_nu (Int32.toNatClampNeg st4.2)) e4 hc4) k6 hK hP hD hS hA rfl hl.1 rfl (Nat.le_of_ble_eq_true rfl) ⟨Nat.zero_le _, Nat.zero_le _⟩ dX0_worksWithNumbers_22 (fun H locs hP hD hS => ?_)
    refine lv_if_eq (tgt := 34) hx hb dX0_worksWithNumbers_25 (by decide) (fun c5 => ?_) (fun c5 => ?_)
    · replace hm := if_t c5 hm
      exact J34 st4.1 st4.2 hm H locs ls hP hD hS (lv_sub hl [0, 1, 2, 3] rfl)
    · replace hm := if_f c5 hm
      refine lv_iload_n hx hb dX0_worksWithNumbers_28 rfl (lv_at hl 2 rfl) ?_
      refine lv_iconst (v := 1) hx hb dX0_worksWithNumbers_29 (by decide) ?_
      refine lv_iload_n hx hb dX0_worksWithNumbers_30 rfl (lv_at hl 3 rfl) ?_
      refine lv_ishl hx hb dX0_worksWithNumbers_31 ?_
      refine lv_ior hx hb dX0_worksWithNumbers_32 ?_
      refine lv_istore_n (lv' := [(2, .int (st4.1 ||| (1 <<< (st4.2 &&& 31)))), (0, .ref aA), (1, .int x1), (3, .int st4.2)]) hx hb dX0_worksWithNumbers_33 rfl hl (by decide) rfl (fun ls hl => ?_)
      exact J34 (st4.1 ||| (1 <<< (st4.2 &&& 31))) st4.2 hm H locs ls hP hD hS (lv_sub hl [1, 2, 0, 3] rfl)
