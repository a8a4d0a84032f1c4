def m_X3_hidesAuthors_J23 (y0 : Int32) : Option (Int32) := ckb y0 (some y0)
def m_X3_hidesAuthors (W_ac : Nat → Int32) (L_sh : Nat → Int32) (x1 : Int32) : Option (Int32) := ck x1 8 (ck x1 8 (if (W_ac (Int32.toNatClampNeg x1)) ≤ (L_sh (Int32.toNatClampNeg x1)) then (m_X3_hidesAuthors_J23 0) else (m_X3_hidesAuthors_J23 1)))
def m_X3_show_J86 (x1 : Int32) (x2 : Int32) (x3 : Int32) (x4 : Int64) (x6 : Int32) (x8 : Int32) (y0 : Int32) : Option ((Int64 × Int32) ⊕ Int64) := some (Sum.inl (((((x4 <<< (Int32.toInt64 5 &&& 63)) ||| (Int32.toInt64 x8)) <<< (Int32.toInt64 5 &&& 63)) ||| (Int32.toInt64 y0)), (x6 + 1)))
def m_X3_show_B32 (x1 : Int32) (x2 : Int32) (x3 : Int32) (W_fa : Nat → Int32) (W_in : Nat → Int32) (st : Int64 × Int32) : Option ((Int64 × Int32) ⊕ Int64) := if x2 ≤ st.2 then (some (Sum.inr st.1)) else (ck ((x1 * 4) + st.2) 32 (if x3 = 0 then (m_X3_show_J86 x1 x2 x3 st.1 st.2 (((W_fa (Int32.toNatClampNeg ((x1 * 4) + st.2))) - 65) + 1) 0) else (ck ((x1 * 4) + st.2) 32 (m_X3_show_J86 x1 x2 x3 st.1 st.2 (((W_fa (Int32.toNatClampNeg ((x1 * 4) + st.2))) - 65) + 1) (((W_in (Int32.toNatClampNeg ((x1 * 4) + st.2))) - 97) + 1)))))
def m_X3_show_J27 (x1 : Int32) (x2 : Int32) (x3 : Int32) (y0 : Int64) (W_fa : Nat → Int32) (W_in : Nat → Int32) (L_sh : Nat → Int32) (L_wi : Nat → Int32) (L_nk : Nat → Int64) : Option ((Nat → Int32) × (Nat → Int32) × (Nat → Int64)) := (it (m_X3_show_B32 x1 x2 x3 W_fa W_in) fu (y0, 0)).bind fun e1 => ck x1 8 (some (L_sh, L_wi, (vp_updL L_nk (Int32.toNatClampNeg x1) e1)))
def m_X3_show (W_ac : Nat → Int32) (W_fa : Nat → Int32) (W_in : Nat → Int32) (L_sh : Nat → Int32) (L_wi : Nat → Int32) (L_nk : Nat → Int64) (x1 : Int32) (x2 : Int32) (x3 : Int32) : Option ((Nat → Int32) × (Nat → Int32) × (Nat → Int64)) := ck x1 8 (ck x1 8 (ckb x3 ((m_X3_hidesAuthors W_ac (upd L_sh (Int32.toNatClampNeg x1) x2) x1).bind fun e10 => if e10 = 0 then (m_X3_show_J27 x1 x2 x3 0 W_fa W_in (upd L_sh (Int32.toNatClampNeg x1) x2) (upd L_wi (Int32.toNatClampNeg x1) x3) L_nk) else (m_X3_show_J27 x1 x2 x3 1 W_fa W_in (upd L_sh (Int32.toNatClampNeg x1) x2) (upd L_wi (Int32.toNatClampNeg x1) x3) L_nk))))
def m_X3_showInitials_J33 (x1 : Int32) (x2 : Int32) (x3 : Int32) (L_sh : Nat → Int32) (L_wi : Nat → Int32) (L_nk : Nat → Int64) : Option ((Int32 × (Nat → Int32) × (Nat → Int32) × (Nat → Int64)) ⊕ (((Nat → Int32) × (Nat → Int32) × (Nat → Int64)))) := some (Sum.inl ((x3 + 1), L_sh, L_wi, L_nk))
def m_X3_showInitials_B2 (x1 : Int32) (x2 : Int32) (W_n : Int32) (W_ac : Nat → Int32) (W_fa : Nat → Int32) (W_in : Nat → Int32) (st : Int32 × (Nat → Int32) × (Nat → Int32) × (Nat → Int64)) : Option ((Int32 × (Nat → Int32) × (Nat → Int32) × (Nat → Int64)) ⊕ (((Nat → Int32) × (Nat → Int32) × (Nat → Int64)))) := if W_n ≤ st.1 then (some (Sum.inr (st.2.1, st.2.2.1, st.2.2.2))) else ((m_X11_inSet x1 st.1).bind fun e3 => if e3 = 0 then (m_X3_showInitials_J33 x1 x2 st.1 st.2.1 st.2.2.1 st.2.2.2) else (ck st.1 8 ((m_X3_show W_ac W_fa W_in st.2.1 st.2.2.1 st.2.2.2 st.1 (st.2.1 (Int32.toNatClampNeg st.1)) x2).bind fun e6 => m_X3_showInitials_J33 x1 x2 st.1 e6.1 e6.2.1 e6.2.2)))
def m_X3_showInitials (W_n : Int32) (W_ac : Nat → Int32) (W_fa : Nat → Int32) (W_in : Nat → Int32) (L_sh : Nat → Int32) (L_wi : Nat → Int32) (L_nk : Nat → Int64) (x1 : Int32) (x2 : Int32) : Option ((Nat → Int32) × (Nat → Int32) × (Nat → Int64)) := (it (m_X3_showInitials_B2 x1 x2 W_n W_ac W_fa W_in) fu (0, L_sh, L_wi, L_nk)).bind fun e1 => some (e1.1, e1.2.1, e1.2.2)
def m_X3_sameNames_J21 (y0 : Int32) : Option (Int32) := ckb y0 (some y0)
def m_X3_sameNames (L_nk : Nat → Int64) (x1 : Int32) (x2 : Int32) : Option (Int32) := ck x1 8 (ck x2 8 (if (lg_cmp (L_nk (Int32.toNatClampNeg x1)) (L_nk (Int32.toNatClampNeg x2))) = 0 then (m_X3_sameNames_J21 1) else (m_X3_sameNames_J21 0)))
def m_X3_worksLabelledLike_J66 (x1 : Int32) (x2 : Int32) (x3 : Int32) : Option ((Int32 × Int32) ⊕ Int32) := some (Sum.inl (x2, (x3 + 1)))
def m_X3_worksLabelledLike_B4 (x1 : Int32) (W_n : Int32) (W_yr : Nat → Int32) (L_su : Nat → Int32) (L_nk : Nat → Int64) (st : Int32 × Int32) : Option ((Int32 × Int32) ⊕ Int32) := if W_n ≤ st.2 then (some (Sum.inr st.1)) else ((m_X3_sameNames L_nk x1 st.2).bind fun e3 => if e3 = 0 then (m_X3_worksLabelledLike_J66 x1 st.1 st.2) else (ck x1 8 (ck st.2 8 (if (W_yr (Int32.toNatClampNeg x1)) = (W_yr (Int32.toNatClampNeg st.2)) then (ck x1 8 (ck st.2 8 (if (L_su (Int32.toNatClampNeg x1)) = (L_su (Int32.toNatClampNeg st.2)) then (m_X3_worksLabelledLike_J66 x1 (st.1 ||| (1 <<< (st.2 &&& 31))) st.2) else (m_X3_worksLabelledLike_J66 x1 st.1 st.2)))) else (m_X3_worksLabelledLike_J66 x1 st.1 st.2)))))
def m_X3_worksLabelledLike (W_n : Int32) (W_yr : Nat → Int32) (L_su : Nat → Int32) (L_nk : Nat → Int64) (x1 : Int32) : Option (Int32) := (it (m_X3_worksLabelledLike_B4 x1 W_n W_yr L_su L_nk) fu (0, 0)).bind fun e1 => some e1
def m_X3_differentLabels_J40 (x1 : Int32) (x2 : Int32) (x3 : Int32) : Option ((Int32 × Int32) ⊕ Int32) := some (Sum.inl (x2, (x3 + 1)))
def m_X3_differentLabels_B4 (x1 : Int32) (W_n : Int32) (W_yr : Nat → Int32) (L_su : Nat → Int32) (L_nk : Nat → Int64) (st : Int32 × Int32) : Option ((Int32 × Int32) ⊕ Int32) := if W_n ≤ st.2 then (some (Sum.inr st.1)) else ((m_X11_inSet x1 st.2).bind fun e3 => if e3 = 0 then (m_X3_differentLabels_J40 x1 st.1 st.2) else ((m_X3_worksLabelledLike W_n W_yr L_su L_nk st.2).bind fun e5 => (m_X11_hasBelow (x1 &&& e5) st.2).bind fun e6 => if e6 = 0 then (m_X3_differentLabels_J40 x1 (st.1 + 1) st.2) else (m_X3_differentLabels_J40 x1 st.1 st.2)))
def m_X3_differentLabels (W_n : Int32) (W_yr : Nat → Int32) (L_su : Nat → Int32) (L_nk : Nat → Int64) (x1 : Int32) : Option (Int32) := (it (m_X3_differentLabels_B4 x1 W_n W_yr L_su L_nk) fu (0, 0)).bind fun e1 => some e1
def m_X3_addInitials_J21 (L_sh : Nat → Int32) (L_wi : Nat → Int32) (L_nk : Nat → Int64) : Option ((Nat → Int32) × (Nat → Int32) × (Nat → Int64)) := some (L_sh, L_wi, L_nk)
def m_X3_addInitials (W_n : Int32) (W_ac : Nat → Int32) (W_fa : Nat → Int32) (W_in : Nat → Int32) (W_yr : Nat → Int32) (L_sh : Nat → Int32) (L_wi : Nat → Int32) (L_su : Nat → Int32) (L_nk : Nat → Int64) (x1 : Int32) : Option ((Nat → Int32) × (Nat → Int32) × (Nat → Int64)) := (m_X3_showInitials W_n W_ac W_fa W_in L_sh L_wi L_nk x1 1).bind fun e1 => (m_X3_differentLabels W_n W_yr L_su e1.2.2 x1).bind fun e2 => if 2 ≤ e2 then (m_X3_addInitials_J21 e1.1 e1.2.1 e1.2.2) else ((m_X3_showInitials W_n W_ac W_fa W_in e1.1 e1.2.1 e1.2.2 x1 0).bind fun e4 => m_X3_addInitials_J21 e4.1 e4.2.1 e4.2.2)
def m_X3_initiallyShown_J31 (x2 : Int32) : Option (Int32) := some x2
def m_X3_initiallyShown (W_ac : Nat → Int32) (S_mi : Int32) (S_fi : Int32) (x1 : Int32) : Option (Int32) := ck x1 8 (if S_mi = 0 then (m_X3_initiallyShown_J31 (W_ac (Int32.toNatClampNeg x1))) else (if S_mi ≤ (W_ac (Int32.toNatClampNeg x1)) then (some (if (W_ac (Int32.toNatClampNeg x1)) < S_fi then (W_ac (Int32.toNatClampNeg x1)) else S_fi)) else (m_X3_initiallyShown_J31 (W_ac (Int32.toNatClampNeg x1)))))
def m_X3_showAuthors_J57 (x1 : Int32) (x2 : Int32) (x3 : Int32) (L_sh : Nat → Int32) (L_wi : Nat → Int32) (L_nk : Nat → Int64) : Option ((Int32 × (Nat → Int32) × (Nat → Int32) × (Nat → Int64)) ⊕ (((Nat → Int32) × (Nat → Int32) × (Nat → Int64)))) := some (Sum.inl ((x3 + 1), L_sh, L_wi, L_nk))
def m_X3_showAuthors_B2 (x1 : Int32) (x2 : Int32) (W_n : Int32) (W_ac : Nat → Int32) (W_fa : Nat → Int32) (W_in : Nat → Int32) (S_mi : Int32) (S_fi : Int32) (st : Int32 × (Nat → Int32) × (Nat → Int32) × (Nat → Int64)) : Option ((Int32 × (Nat → Int32) × (Nat → Int32) × (Nat → Int64)) ⊕ (((Nat → Int32) × (Nat → Int32) × (Nat → Int64)))) := if W_n ≤ st.1 then (some (Sum.inr (st.2.1, st.2.2.1, st.2.2.2))) else ((m_X11_inSet x1 st.1).bind fun e3 => if e3 = 0 then (m_X3_showAuthors_J57 x1 x2 st.1 st.2.1 st.2.2.1 st.2.2.2) else (ck st.1 8 ((m_X3_initiallyShown W_ac S_mi S_fi st.1).bind fun e6 => ck st.1 8 ((m_X3_show W_ac W_fa W_in st.2.1 st.2.2.1 st.2.2.2 st.1 (if (if (W_ac (Int32.toNatClampNeg st.1)) < x2 then (W_ac (Int32.toNatClampNeg st.1)) else x2) < e6 then e6 else (if (W_ac (Int32.toNatClampNeg st.1)) < x2 then (W_ac (Int32.toNatClampNeg st.1)) else x2)) (st.2.2.1 (Int32.toNatClampNeg st.1))).bind fun e8 => m_X3_showAuthors_J57 x1 x2 st.1 e8.1 e8.2.1 e8.2.2))))
def m_X3_showAuthors (W_n : Int32) (W_ac : Nat → Int32) (W_fa : Nat → Int32) (W_in : Nat → Int32) (S_mi : Int32) (S_fi : Int32) (L_sh : Nat → Int32) (L_wi : Nat → Int32) (L_nk : Nat → Int64) (x1 : Int32) (x2 : Int32) : Option ((Nat → Int32) × (Nat → Int32) × (Nat → Int64)) := (it (m_X3_showAuthors_B2 x1 x2 W_n W_ac W_fa W_in S_mi S_fi) fu (0, L_sh, L_wi, L_nk)).bind fun e1 => some (e1.1, e1.2.1, e1.2.2)
def m_X3_addNames_J51 (x1 : Int32) (x2 : Int32) (x3 : Int32) (x4 : Int32) (L_sh : Nat → Int32) (L_wi : Nat → Int32) (L_nk : Nat → Int64) : Option ((Int32 × Int32 × Int32 × (Nat → Int32) × (Nat → Int32) × (Nat → Int64)) ⊕ ((Int32 × (Nat → Int32) × (Nat → Int32) × (Nat → Int64)))) := some (Sum.inl (x2, x3, (x4 + 1), L_sh, L_wi, L_nk))
def m_X3_addNames_B19 (x1 : Int32) (W_n : Int32) (W_ac : Nat → Int32) (W_fa : Nat → Int32) (W_in : Nat → Int32) (W_yr : Nat → Int32) (S_mi : Int32) (S_fi : Int32) (L_su : Nat → Int32) (st : Int32 × Int32 × Int32 × (Nat → Int32) × (Nat → Int32) × (Nat → Int64)) : Option ((Int32 × Int32 × Int32 × (Nat → Int32) × (Nat → Int32) × (Nat → Int64)) ⊕ ((Int32 × (Nat → Int32) × (Nat → Int32) × (Nat → Int64)))) := if 4 < st.2.2.1 then (some (Sum.inr (st.1, st.2.2.2.1, st.2.2.2.2.1, st.2.2.2.2.2))) else ((m_X3_showAuthors W_n W_ac W_fa W_in S_mi S_fi st.2.2.2.1 st.2.2.2.2.1 st.2.2.2.2.2 x1 st.2.2.1).bind fun e4 => (m_X3_differentLabels W_n W_yr L_su e4.2.2 x1).bind fun e5 => if e5 ≤ st.2.1 then (m_X3_addNames_J51 x1 st.1 st.2.1 st.2.2.1 e4.1 e4.2.1 e4.2.2) else (m_X3_addNames_J51 x1 st.2.2.1 e5 st.2.2.1 e4.1 e4.2.1 e4.2.2))
def m_X3_addNames (W_n : Int32) (W_ac : Nat → Int32) (W_fa : Nat → Int32) (W_in : Nat → Int32) (W_yr : Nat → Int32) (S_mi : Int32) (S_fi : Int32) (L_sh : Nat → Int32) (L_wi : Nat → Int32) (L_su : Nat → Int32) (L_nk : Nat → Int64) (x1 : Int32) : Option ((Nat → Int32) × (Nat → Int32) × (Nat → Int64)) := (it (m_X3_addNames_B19 x1 W_n W_ac W_fa W_in W_yr S_mi S_fi L_su) fu (S_fi, 0, S_fi, L_sh, L_wi, L_nk)).bind fun e1 => (m_X3_showAuthors W_n W_ac W_fa W_in S_mi S_fi e1.2.1 e1.2.2.1 e1.2.2.2 x1 e1.1).bind fun e2 => some (e2.1, e2.2.1, e2.2.2)
def m_X3_addSuffixes_J47 (x1 : Int32) (x2 : Int32) (x3 : Int32) (L_su : Nat → Int32) : Option ((Int32 × Int32 × (Nat → Int32)) ⊕ (((Nat → Int32)))) := some (Sum.inl (x2, (x3 + 1), L_su))
def m_X3_addSuffixes_B5 (x1 : Int32) (W_n : Int32) (A_or : Nat → Int32) (st : Int32 × Int32 × (Nat → Int32)) : Option ((Int32 × Int32 × (Nat → Int32)) ⊕ (((Nat → Int32)))) := if W_n ≤ st.2.1 then (some (Sum.inr st.2.2)) else (ck st.2.1 8 ((m_X11_inSet x1 (A_or (Int32.toNatClampNeg st.2.1))).bind fun e4 => if e4 = 0 then (m_X3_addSuffixes_J47 x1 st.1 st.2.1 st.2.2) else (ck (A_or (Int32.toNatClampNeg st.2.1)) 8 (m_X3_addSuffixes_J47 x1 (st.1 + 1) st.2.1 (upd st.2.2 (Int32.toNatClampNeg (A_or (Int32.toNatClampNeg st.2.1))) st.1)))))
def m_X3_addSuffixes (W_n : Int32) (A_or : Nat → Int32) (L_su : Nat → Int32) (x1 : Int32) : Option ((Nat → Int32)) := (it (m_X3_addSuffixes_B5 x1 W_n A_or) fu (97, 0, L_su)).bind fun e1 => some e1
def m_X3_isFirstOfGroup_J30 (y0 : Int32) : Option (Int32) := ckb y0 (some y0)
def m_X3_isFirstOfGroup_J29 : Option (Int32) := m_X3_isFirstOfGroup_J30 0
def m_X3_isFirstOfGroup (L_gr : Nat → Int32) (x1 : Int32) : Option (Int32) := ck x1 8 (if (L_gr (Int32.toNatClampNeg x1)) = (1 <<< (x1 &&& 31)) then (m_X3_isFirstOfGroup_J29) else (ck x1 8 ((m_X11_hasBelow (L_gr (Int32.toNatClampNeg x1)) x1).bind fun e5 => if e5 = 0 then (m_X3_isFirstOfGroup_J30 1) else (m_X3_isFirstOfGroup_J29))))
def m_X3_perform_J116 (x1 : Int32) (x2 : Int32) (L_sh : Nat → Int32) (L_wi : Nat → Int32) (L_su : Nat → Int32) (L_nk : Nat → Int64) : Option ((Int32 × (Nat → Int32) × (Nat → Int32) × (Nat → Int32) × (Nat → Int64)) ⊕ (((Nat → Int32) × (Nat → Int32) × (Nat → Int32) × (Nat → Int64)))) := some (Sum.inl ((x2 + 1), L_sh, L_wi, L_su, L_nk))
def m_X3_perform_B32 (x1 : Int32) (W_n : Int32) (W_ac : Nat → Int32) (W_fa : Nat → Int32) (W_in : Nat → Int32) (W_yr : Nat → Int32) (S_mi : Int32) (S_fi : Int32) (A_or : Nat → Int32) (L_gr : Nat → Int32) (st : Int32 × (Nat → Int32) × (Nat → Int32) × (Nat → Int32) × (Nat → Int64)) : Option ((Int32 × (Nat → Int32) × (Nat → Int32) × (Nat → Int32) × (Nat → Int64)) ⊕ (((Nat → Int32) × (Nat → Int32) × (Nat → Int32) × (Nat → Int64)))) := if W_n ≤ st.1 then (some (Sum.inr (st.2.1, st.2.2.1, st.2.2.2.1, st.2.2.2.2))) else ((m_X3_isFirstOfGroup L_gr st.1).bind fun e4 => if e4 = 0 then (m_X3_perform_J116 x1 st.1 st.2.1 st.2.2.1 st.2.2.2.1 st.2.2.2.2) else (if x1 = 1 then (ck st.1 8 ((m_X3_addNames W_n W_ac W_fa W_in W_yr S_mi S_fi st.2.1 st.2.2.1 st.2.2.2.1 st.2.2.2.2 (L_gr (Int32.toNatClampNeg st.1))).bind fun e8 => m_X3_perform_J116 x1 st.1 e8.1 e8.2.1 st.2.2.2.1 e8.2.2)) else (if x1 = 2 then (ck st.1 8 ((m_X3_addInitials W_n W_ac W_fa W_in W_yr st.2.1 st.2.2.1 st.2.2.2.1 st.2.2.2.2 (L_gr (Int32.toNatClampNeg st.1))).bind fun e11 => m_X3_perform_J116 x1 st.1 e11.1 e11.2.1 st.2.2.2.1 e11.2.2)) else (ck st.1 8 ((m_X3_addSuffixes W_n A_or st.2.2.2.1 (L_gr (Int32.toNatClampNeg st.1))).bind fun e13 => m_X3_perform_J116 x1 st.1 st.2.1 st.2.2.1 e13 st.2.2.2.2)))))
def m_X3_perform_B2 (W_n : Int32) (W_yr : Nat → Int32) (L_su : Nat → Int32) (L_nk : Nat → Int64) (st : Int32 × (Nat → Int32)) : Option ((Int32 × (Nat → Int32)) ⊕ (((Nat → Int32)))) := if W_n ≤ st.1 then (some (Sum.inr st.2)) else ((m_X3_worksLabelledLike W_n W_yr L_su L_nk st.1).bind fun e15 => ck st.1 8 (some (Sum.inl ((st.1 + 1), (upd st.2 (Int32.toNatClampNeg st.1) e15)))))
def m_X3_perform (W_n : Int32) (W_ac : Nat → Int32) (W_fa : Nat → Int32) (W_in : Nat → Int32) (W_yr : Nat → Int32) (S_mi : Int32) (S_fi : Int32) (A_or : Nat → Int32) (L_sh : Nat → Int32) (L_wi : Nat → Int32) (L_su : Nat → Int32) (L_nk : Nat → Int64) (L_gr : Nat → Int32) (x1 : Int32) : Option ((Nat → Int32) × (Nat → Int32) × (Nat → Int32) × (Nat → Int64) × (Nat → Int32)) := (it (m_X3_perform_B2 W_n W_yr L_su L_nk) fu (0, L_gr)).bind fun e1 => (it (m_X3_perform_B32 x1 W_n W_ac W_fa W_in W_yr S_mi S_fi A_or e1) fu (0, L_sh, L_wi, L_su, L_nk)).bind fun e2 => some (e2.1, e2.2.1, e2.2.2.1, e2.2.2.2, e1)
def m_X3_update_J68 (x1 : Int32) (L_sh : Nat → Int32) (L_wi : Nat → Int32) (L_su : Nat → Int32) (L_nk : Nat → Int64) (L_gr : Nat → Int32) : Option ((Int32 × (Nat → Int32) × (Nat → Int32) × (Nat → Int32) × (Nat → Int64) × (Nat → Int32)) ⊕ (((Nat → Int32) × (Nat → Int32) × (Nat → Int32) × (Nat → Int64) × (Nat → Int32)))) := some (Sum.inl ((x1 * 2), L_sh, L_wi, L_su, L_nk, L_gr))
def m_X3_update_B46 (W_n : Int32) (W_ac : Nat → Int32) (W_fa : Nat → Int32) (W_in : Nat → Int32) (W_yr : Nat → Int32) (S_mi : Int32) (S_fi : Int32) (S_sp : Int32) (A_or : Nat → Int32) (st : Int32 × (Nat → Int32) × (Nat → Int32) × (Nat → Int32) × (Nat → Int64) × (Nat → Int32)) : Option ((Int32 × (Nat → Int32) × (Nat → Int32) × (Nat → Int32) × (Nat → Int64) × (Nat → Int32)) ⊕ (((Nat → Int32) × (Nat → Int32) × (Nat → Int32) × (Nat → Int64) × (Nat → Int32)))) := if 4 < st.1 then (some (Sum.inr (st.2.1, st.2.2.1, st.2.2.2.1, st.2.2.2.2.1, st.2.2.2.2.2))) else (if (S_sp &&& st.1) = 0 then (m_X3_update_J68 st.1 st.2.1 st.2.2.1 st.2.2.2.1 st.2.2.2.2.1 st.2.2.2.2.2) else ((m_X3_perform W_n W_ac W_fa W_in W_yr S_mi S_fi A_or st.2.1 st.2.2.1 st.2.2.2.1 st.2.2.2.2.1 st.2.2.2.2.2 st.1).bind fun e6 => m_X3_update_J68 st.1 e6.1 e6.2.1 e6.2.2.1 e6.2.2.2.1 e6.2.2.2.2))
def m_X3_update_B9 (W_n : Int32) (W_ac : Nat → Int32) (W_fa : Nat → Int32) (W_in : Nat → Int32) (S_mi : Int32) (S_fi : Int32) (st : Int32 × (Nat → Int32) × (Nat → Int32) × (Nat → Int32) × (Nat → Int64)) : Option ((Int32 × (Nat → Int32) × (Nat → Int32) × (Nat → Int32) × (Nat → Int64)) ⊕ (((Nat → Int32) × (Nat → Int32) × (Nat → Int32) × (Nat → Int64)))) := if W_n ≤ st.1 then (some (Sum.inr (st.2.1, st.2.2.1, st.2.2.2.1, st.2.2.2.2))) else ((m_X3_initiallyShown W_ac S_mi S_fi st.1).bind fun e8 => (m_X3_show W_ac W_fa W_in st.2.1 st.2.2.1 st.2.2.2.2 st.1 e8 0).bind fun e9 => ck st.1 8 (some (Sum.inl ((st.1 + 1), e9.1, e9.2.1, (upd st.2.2.2.1 (Int32.toNatClampNeg st.1) 0), e9.2.2))))
def m_X3_update (W_n : Int32) (W_ac : Nat → Int32) (W_fa : Nat → Int32) (W_in : Nat → Int32) (W_yr : Nat → Int32) (W_ti : Nat → Int32) (S_st : Int32) (S_mi : Int32) (S_fi : Int32) (S_sp : Int32) (S_nu : Int32) (S_ke : Nat → Int32) (S_di : Nat → Int32) (C_n : Int32) (C_sz : Nat → Int32) (C_cd : Nat → Int32) (A_or : Nat → Int32) (A_nu : Nat → Int32) (A_li : Nat → Int32) (L_sh : Nat → Int32) (L_wi : Nat → Int32) (L_su : Nat → Int32) (L_nk : Nat → Int64) (L_gr : Nat → Int32) : Option ((Nat → Int32) × (Nat → Int32) × (Nat → Int32) × (Nat → Int32) × (Nat → Int32) × (Nat → Int32) × (Nat → Int64) × (Nat → Int32)) := (m_X0_update W_n W_ac W_fa W_in W_yr W_ti S_st S_nu S_ke S_di C_n C_sz C_cd A_or A_nu A_li).bind fun e1 => (it (m_X3_update_B9 W_n W_ac W_fa W_in S_mi S_fi) fu (0, L_sh, L_wi, L_su, L_nk)).bind fun e2 => (it (m_X3_update_B46 W_n W_ac W_fa W_in W_yr S_mi S_fi S_sp e1.1) fu (1, e2.1, e2.2.1, e2.2.2.1, e2.2.2.2, L_gr)).bind fun e3 => some (e1.1, e1.2.1, e1.2.2, e3.1, e3.2.1, e3.2.2.1, e3.2.2.2.1, e3.2.2.2.2)
def w_X3_hidesAuthors (cI : ClassId) (aW aW_ac aW_fa aW_in aW_yr aW_ti aL aL_sh aL_wi aL_su aS aA aL_nk aL_gr : Nat) (W_n : Int32) (W_ac : Nat → Int32) (L_sh : Nat → Int32) : va_W := [(aW, .inr (9, [.int W_n, .ref aW_ac, .ref aW_fa, .ref aW_in, .ref aW_yr, .ref aW_ti])), (aW_ac, .inl (cI, 8, .inl W_ac)), (aL, .inr (3, [.ref aL_sh, .ref aL_wi, .ref aL_su, .ref aW, .ref aS, .ref aA, .ref aL_nk, .ref aL_gr])), (aL_sh, .inl (cI, 8, .inl L_sh))]
theorem wa_X3_hidesAuthors {cI : ClassId} {aW aW_ac aW_fa aW_in aW_yr aW_ti aL aL_sh aL_wi aL_su aS aA aL_nk aL_gr : Nat} {W_n W_n' : Int32} {W_ac W_ac' : Nat → Int32} {L_sh L_sh' : Nat → Int32} : (w_X3_hidesAuthors cI aW aW_ac aW_fa aW_in aW_yr aW_ti aL aL_sh aL_wi aL_su aS aA aL_nk aL_gr W_n' W_ac' L_sh').map Prod.fst = (w_X3_hidesAuthors cI aW aW_ac aW_fa aW_in aW_yr aW_ti aL aL_sh aL_wi aL_su aS aA aL_nk aL_gr W_n W_ac L_sh).map Prod.fst := rfl
abbrev rm_X3_hidesAuthors : Room := { frames := 0, cells := 0, slots := 0, locals := 0 }
def w_X3_show (cI : ClassId) (cJ : ClassId) (cZ : ClassId) (aW aW_ac aW_fa aW_in aW_yr aW_ti aL aL_sh aL_wi aL_su aS aA aL_nk aL_gr : Nat) (W_n : Int32) (W_ac : Nat → Int32) (W_fa : Nat → Int32) (W_in : Nat → Int32) (L_sh : Nat → Int32) (L_wi : Nat → Int32) (L_nk : Nat → Int64) : va_W := [(aW, .inr (9, [.int W_n, .ref aW_ac, .ref aW_fa, .ref aW_in, .ref aW_yr, .ref aW_ti])), (aW_ac, .inl (cI, 8, .inl W_ac)), (aW_fa, .inl (cI, 32, .inl W_fa)), (aW_in, .inl (cI, 32, .inl W_in)), (aL, .inr (3, [.ref aL_sh, .ref aL_wi, .ref aL_su, .ref aW, .ref aS, .ref aA, .ref aL_nk, .ref aL_gr])), (aL_sh, .inl (cI, 8, .inl L_sh)), (aL_wi, .inl (cZ, 8, .inl L_wi)), (aL_nk, .inl (cJ, 8, .inr (.inl L_nk)))]
theorem wa_X3_show {cI : ClassId} {cJ : ClassId} {cZ : ClassId} {aW aW_ac aW_fa aW_in aW_yr aW_ti aL aL_sh aL_wi aL_su aS aA aL_nk aL_gr : Nat} {W_n W_n' : Int32} {W_ac W_ac' : Nat → Int32} {W_fa W_fa' : Nat → Int32} {W_in W_in' : Nat → Int32} {L_sh L_sh' : Nat → Int32} {L_wi L_wi' : Nat → Int32} {L_nk L_nk' : Nat → Int64} : (w_X3_show cI cJ cZ aW aW_ac aW_fa aW_in aW_yr aW_ti aL aL_sh aL_wi aL_su aS aA aL_nk aL_gr W_n' W_ac' W_fa' W_in' L_sh' L_wi' L_nk').map Prod.fst = (w_X3_show cI cJ cZ aW aW_ac aW_fa aW_in aW_yr aW_ti aL aL_sh aL_wi aL_su aS aA aL_nk aL_gr W_n W_ac W_fa W_in L_sh L_wi L_nk).map Prod.fst := rfl
abbrev rm_X3_show : Room := { frames := 1, cells := 0, slots := 0, locals := 21 }
def w_X3_showInitials (cI : ClassId) (cJ : ClassId) (cZ : ClassId) (aW aW_ac aW_fa aW_in aW_yr aW_ti aL aL_sh aL_wi aL_su aS aA aL_nk aL_gr : Nat) (W_n : Int32) (W_ac : Nat → Int32) (W_fa : Nat → Int32) (W_in : Nat → Int32) (L_sh : Nat → Int32) (L_wi : Nat → Int32) (L_nk : Nat → Int64) : va_W := [(aW, .inr (9, [.int W_n, .ref aW_ac, .ref aW_fa, .ref aW_in, .ref aW_yr, .ref aW_ti])), (aW_ac, .inl (cI, 8, .inl W_ac)), (aW_fa, .inl (cI, 32, .inl W_fa)), (aW_in, .inl (cI, 32, .inl W_in)), (aL, .inr (3, [.ref aL_sh, .ref aL_wi, .ref aL_su, .ref aW, .ref aS, .ref aA, .ref aL_nk, .ref aL_gr])), (aL_sh, .inl (cI, 8, .inl L_sh)), (aL_wi, .inl (cZ, 8, .inl L_wi)), (aL_nk, .inl (cJ, 8, .inr (.inl L_nk)))]
theorem wa_X3_showInitials {cI : ClassId} {cJ : ClassId} {cZ : ClassId} {aW aW_ac aW_fa aW_in aW_yr aW_ti aL aL_sh aL_wi aL_su aS aA aL_nk aL_gr : Nat} {W_n W_n' : Int32} {W_ac W_ac' : Nat → Int32} {W_fa W_fa' : Nat → Int32} {W_in W_in' : Nat → Int32} {L_sh L_sh' : Nat → Int32} {L_wi L_wi' : Nat → Int32} {L_nk L_nk' : Nat → Int64} : (w_X3_showInitials cI cJ cZ aW aW_ac aW_fa aW_in aW_yr aW_ti aL aL_sh aL_wi aL_su aS aA aL_nk aL_gr W_n' W_ac' W_fa' W_in' L_sh' L_wi' L_nk').map Prod.fst = (w_X3_showInitials cI cJ cZ aW aW_ac aW_fa aW_in aW_yr aW_ti aL aL_sh aL_wi aL_su aS aA aL_nk aL_gr W_n W_ac W_fa W_in L_sh L_wi L_nk).map Prod.fst := rfl
abbrev rm_X3_showInitials : Room := { frames := 2, cells := 0, slots := 0, locals := 50 }
def w_X3_sameNames (cJ : ClassId) (aL aL_sh aL_wi aL_su aW aS aA aL_nk aL_gr : Nat) (L_nk : Nat → Int64) : va_W := [(aL, .inr (3, [.ref aL_sh, .ref aL_wi, .ref aL_su, .ref aW, .ref aS, .ref aA, .ref aL_nk, .ref aL_gr])), (aL_nk, .inl (cJ, 8, .inr (.inl L_nk)))]
theorem wa_X3_sameNames {cJ : ClassId} {aL aL_sh aL_wi aL_su aW aS aA aL_nk aL_gr : Nat} {L_nk L_nk' : Nat → Int64} : (w_X3_sameNames cJ aL aL_sh aL_wi aL_su aW aS aA aL_nk aL_gr L_nk').map Prod.fst = (w_X3_sameNames cJ aL aL_sh aL_wi aL_su aW aS aA aL_nk aL_gr L_nk).map Prod.fst := rfl
abbrev rm_X3_sameNames : Room := { frames := 0, cells := 0, slots := 0, locals := 0 }
def w_X3_worksLabelledLike (cI : ClassId) (cJ : ClassId) (aW aW_ac aW_fa aW_in aW_yr aW_ti aL aL_sh aL_wi aL_su aS aA aL_nk aL_gr : Nat) (W_n : Int32) (W_yr : Nat → Int32) (L_su : Nat → Int32) (L_nk : Nat → Int64) : va_W := [(aW, .inr (9, [.int W_n, .ref aW_ac, .ref aW_fa, .ref aW_in, .ref aW_yr, .ref aW_ti])), (aW_yr, .inl (cI, 8, .inl W_yr)), (aL, .inr (3, [.ref aL_sh, .ref aL_wi, .ref aL_su, .ref aW, .ref aS, .ref aA, .ref aL_nk, .ref aL_gr])), (aL_su, .inl (cI, 8, .inl L_su)), (aL_nk, .inl (cJ, 8, .inr (.inl L_nk)))]
theorem wa_X3_worksLabelledLike {cI : ClassId} {cJ : ClassId} {aW aW_ac aW_fa aW_in aW_yr aW_ti aL aL_sh aL_wi aL_su aS aA aL_nk aL_gr : Nat} {W_n W_n' : Int32} {W_yr W_yr' : Nat → Int32} {L_su L_su' : Nat → Int32} {L_nk L_nk' : Nat → Int64} : (w_X3_worksLabelledLike cI cJ aW aW_ac aW_fa aW_in aW_yr aW_ti aL aL_sh aL_wi aL_su aS aA aL_nk aL_gr W_n' W_yr' L_su' L_nk').map Prod.fst = (w_X3_worksLabelledLike cI cJ aW aW_ac aW_fa aW_in aW_yr aW_ti aL aL_sh aL_wi aL_su aS aA aL_nk aL_gr W_n W_yr L_su L_nk).map Prod.fst := rfl
abbrev rm_X3_worksLabelledLike : Room := { frames := 1, cells := 0, slots := 0, locals := 22 }
def w_X3_differentLabels (cI : ClassId) (cJ : ClassId) (aW aW_ac aW_fa aW_in aW_yr aW_ti aL aL_sh aL_wi aL_su aS aA aL_nk aL_gr : Nat) (W_n : Int32) (W_yr : Nat → Int32) (L_su : Nat → Int32) (L_nk : Nat → Int64) : va_W := [(aW, .inr (9, [.int W_n, .ref aW_ac, .ref aW_fa, .ref aW_in, .ref aW_yr, .ref aW_ti])), (aW_yr, .inl (cI, 8, .inl W_yr)), (aL, .inr (3, [.ref aL_sh, .ref aL_wi, .ref aL_su, .ref aW, .ref aS, .ref aA, .ref aL_nk, .ref aL_gr])), (aL_su, .inl (cI, 8, .inl L_su)), (aL_nk, .inl (cJ, 8, .inr (.inl L_nk)))]
theorem wa_X3_differentLabels {cI : ClassId} {cJ : ClassId} {aW aW_ac aW_fa aW_in aW_yr aW_ti aL aL_sh aL_wi aL_su aS aA aL_nk aL_gr : Nat} {W_n W_n' : Int32} {W_yr W_yr' : Nat → Int32} {L_su L_su' : Nat → Int32} {L_nk L_nk' : Nat → Int64} : (w_X3_differentLabels cI cJ aW aW_ac aW_fa aW_in aW_yr aW_ti aL aL_sh aL_wi aL_su aS aA aL_nk aL_gr W_n' W_yr' L_su' L_nk').map Prod.fst = (w_X3_differentLabels cI cJ aW aW_ac aW_fa aW_in aW_yr aW_ti aL aL_sh aL_wi aL_su aS aA aL_nk aL_gr W_n W_yr L_su L_nk).map Prod.fst := rfl
abbrev rm_X3_differentLabels : Room := { frames := 2, cells := 0, slots := 0, locals := 45 }
def w_X3_addInitials (cI : ClassId) (cJ : ClassId) (cZ : ClassId) (aW aW_ac aW_fa aW_in aW_yr aW_ti aL aL_sh aL_wi aL_su aS aA aL_nk aL_gr : Nat) (W_n : Int32) (W_ac : Nat → Int32) (W_fa : Nat → Int32) (W_in : Nat → Int32) (W_yr : Nat → Int32) (L_sh : Nat → Int32) (L_wi : Nat → Int32) (L_su : Nat → Int32) (L_nk : Nat → Int64) : va_W := [(aW, .inr (9, [.int W_n, .ref aW_ac, .ref aW_fa, .ref aW_in, .ref aW_yr, .ref aW_ti])), (aW_ac, .inl (cI, 8, .inl W_ac)), (aW_fa, .inl (cI, 32, .inl W_fa)), (aW_in, .inl (cI, 32, .inl W_in)), (aW_yr, .inl (cI, 8, .inl W_yr)), (aL, .inr (3, [.ref aL_sh, .ref aL_wi, .ref aL_su, .ref aW, .ref aS, .ref aA, .ref aL_nk, .ref aL_gr])), (aL_sh, .inl (cI, 8, .inl L_sh)), (aL_wi, .inl (cZ, 8, .inl L_wi)), (aL_su, .inl (cI, 8, .inl L_su)), (aL_nk, .inl (cJ, 8, .inr (.inl L_nk)))]
theorem wa_X3_addInitials {cI : ClassId} {cJ : ClassId} {cZ : ClassId} {aW aW_ac aW_fa aW_in aW_yr aW_ti aL aL_sh aL_wi aL_su aS aA aL_nk aL_gr : Nat} {W_n W_n' : Int32} {W_ac W_ac' : Nat → Int32} {W_fa W_fa' : Nat → Int32} {W_in W_in' : Nat → Int32} {W_yr W_yr' : Nat → Int32} {L_sh L_sh' : Nat → Int32} {L_wi L_wi' : Nat → Int32} {L_su L_su' : Nat → Int32} {L_nk L_nk' : Nat → Int64} : (w_X3_addInitials cI cJ cZ aW aW_ac aW_fa aW_in aW_yr aW_ti aL aL_sh aL_wi aL_su aS aA aL_nk aL_gr W_n' W_ac' W_fa' W_in' W_yr' L_sh' L_wi' L_su' L_nk').map Prod.fst = (w_X3_addInitials cI cJ cZ aW aW_ac aW_fa aW_in aW_yr aW_ti aL aL_sh aL_wi aL_su aS aA aL_nk aL_gr W_n W_ac W_fa W_in W_yr L_sh L_wi L_su L_nk).map Prod.fst := rfl
abbrev rm_X3_addInitials : Room := { frames := 3, cells := 0, slots := 0, locals := 73 }
def w_X3_initiallyShown (cI : ClassId) (aW aW_ac aW_fa aW_in aW_yr aW_ti aS aS_ke aS_di aL aL_sh aL_wi aL_su aA aL_nk aL_gr : Nat) (W_n : Int32) (W_ac : Nat → Int32) (S_st : Int32) (S_mi : Int32) (S_fi : Int32) (S_sp : Int32) (S_cl : Int32) (S_nu : Int32) (S_co : Int32) : va_W := [(aW, .inr (9, [.int W_n, .ref aW_ac, .ref aW_fa, .ref aW_in, .ref aW_yr, .ref aW_ti])), (aW_ac, .inl (cI, 8, .inl W_ac)), (aS, .inr (6, [.int S_st, .int S_mi, .int S_fi, .int S_sp, .int S_cl, .int S_nu, .int S_co, .ref aS_ke, .ref aS_di])), (aL, .inr (3, [.ref aL_sh, .ref aL_wi, .ref aL_su, .ref aW, .ref aS, .ref aA, .ref aL_nk, .ref aL_gr]))]
theorem wa_X3_initiallyShown {cI : ClassId} {aW aW_ac aW_fa aW_in aW_yr aW_ti aS aS_ke aS_di aL aL_sh aL_wi aL_su aA aL_nk aL_gr : Nat} {W_n W_n' : Int32} {W_ac W_ac' : Nat → Int32} {S_st S_st' : Int32} {S_mi S_mi' : Int32} {S_fi S_fi' : Int32} {S_sp S_sp' : Int32} {S_cl S_cl' : Int32} {S_nu S_nu' : Int32} {S_co S_co' : Int32} : (w_X3_initiallyShown cI aW aW_ac aW_fa aW_in aW_yr aW_ti aS aS_ke aS_di aL aL_sh aL_wi aL_su aA aL_nk aL_gr W_n' W_ac' S_st' S_mi' S_fi' S_sp' S_cl' S_nu' S_co').map Prod.fst = (w_X3_initiallyShown cI aW aW_ac aW_fa aW_in aW_yr aW_ti aS aS_ke aS_di aL aL_sh aL_wi aL_su aA aL_nk aL_gr W_n W_ac S_st S_mi S_fi S_sp S_cl S_nu S_co).map Prod.fst := rfl
abbrev rm_X3_initiallyShown : Room := { frames := 1, cells := 0, slots := 0, locals := 21 }
def w_X3_showAuthors (cI : ClassId) (cJ : ClassId) (cZ : ClassId) (aW aW_ac aW_fa aW_in aW_yr aW_ti aS aS_ke aS_di aL aL_sh aL_wi aL_su aA aL_nk aL_gr : Nat) (W_n : Int32) (W_ac : Nat → Int32) (W_fa : Nat → Int32) (W_in : Nat → Int32) (S_st : Int32) (S_mi : Int32) (S_fi : Int32) (S_sp : Int32) (S_cl : Int32) (S_nu : Int32) (S_co : Int32) (L_sh : Nat → Int32) (L_wi : Nat → Int32) (L_nk : Nat → Int64) : va_W := [(aW, .inr (9, [.int W_n, .ref aW_ac, .ref aW_fa, .ref aW_in, .ref aW_yr, .ref aW_ti])), (aW_ac, .inl (cI, 8, .inl W_ac)), (aW_fa, .inl (cI, 32, .inl W_fa)), (aW_in, .inl (cI, 32, .inl W_in)), (aS, .inr (6, [.int S_st, .int S_mi, .int S_fi, .int S_sp, .int S_cl, .int S_nu, .int S_co, .ref aS_ke, .ref aS_di])), (aL, .inr (3, [.ref aL_sh, .ref aL_wi, .ref aL_su, .ref aW, .ref aS, .ref aA, .ref aL_nk, .ref aL_gr])), (aL_sh, .inl (cI, 8, .inl L_sh)), (aL_wi, .inl (cZ, 8, .inl L_wi)), (aL_nk, .inl (cJ, 8, .inr (.inl L_nk)))]
theorem wa_X3_showAuthors {cI : ClassId} {cJ : ClassId} {cZ : ClassId} {aW aW_ac aW_fa aW_in aW_yr aW_ti aS aS_ke aS_di aL aL_sh aL_wi aL_su aA aL_nk aL_gr : Nat} {W_n W_n' : Int32} {W_ac W_ac' : Nat → Int32} {W_fa W_fa' : Nat → Int32} {W_in W_in' : Nat → Int32} {S_st S_st' : Int32} {S_mi S_mi' : Int32} {S_fi S_fi' : Int32} {S_sp S_sp' : Int32} {S_cl S_cl' : Int32} {S_nu S_nu' : Int32} {S_co S_co' : Int32} {L_sh L_sh' : Nat → Int32} {L_wi L_wi' : Nat → Int32} {L_nk L_nk' : Nat → Int64} : (w_X3_showAuthors cI cJ cZ aW aW_ac aW_fa aW_in aW_yr aW_ti aS aS_ke aS_di aL aL_sh aL_wi aL_su aA aL_nk aL_gr W_n' W_ac' W_fa' W_in' S_st' S_mi' S_fi' S_sp' S_cl' S_nu' S_co' L_sh' L_wi' L_nk').map Prod.fst = (w_X3_showAuthors cI cJ cZ aW aW_ac aW_fa aW_in aW_yr aW_ti aS aS_ke aS_di aL aL_sh aL_wi aL_su aA aL_nk aL_gr W_n W_ac W_fa W_in S_st S_mi S_fi S_sp S_cl S_nu S_co L_sh L_wi L_nk).map Prod.fst := rfl
abbrev rm_X3_showAuthors : Room := { frames := 2, cells := 0, slots := 0, locals := 50 }
def w_X3_addNames (cI : ClassId) (cJ : ClassId) (cZ : ClassId) (aW aW_ac aW_fa aW_in aW_yr aW_ti aS aS_ke aS_di aL aL_sh aL_wi aL_su aA aL_nk aL_gr : Nat) (W_n : Int32) (W_ac : Nat → Int32) (W_fa : Nat → Int32) (W_in : Nat → Int32) (W_yr : Nat → Int32) (S_st : Int32) (S_mi : Int32) (S_fi : Int32) (S_sp : Int32) (S_cl : Int32) (S_nu : Int32) (S_co : Int32) (L_sh : Nat → Int32) (L_wi : Nat → Int32) (L_su : Nat → Int32) (L_nk : Nat → Int64) : va_W := [(aW, .inr (9, [.int W_n, .ref aW_ac, .ref aW_fa, .ref aW_in, .ref aW_yr, .ref aW_ti])), (aW_ac, .inl (cI, 8, .inl W_ac)), (aW_fa, .inl (cI, 32, .inl W_fa)), (aW_in, .inl (cI, 32, .inl W_in)), (aW_yr, .inl (cI, 8, .inl W_yr)), (aS, .inr (6, [.int S_st, .int S_mi, .int S_fi, .int S_sp, .int S_cl, .int S_nu, .int S_co, .ref aS_ke, .ref aS_di])), (aL, .inr (3, [.ref aL_sh, .ref aL_wi, .ref aL_su, .ref aW, .ref aS, .ref aA, .ref aL_nk, .ref aL_gr])), (aL_sh, .inl (cI, 8, .inl L_sh)), (aL_wi, .inl (cZ, 8, .inl L_wi)), (aL_su, .inl (cI, 8, .inl L_su)), (aL_nk, .inl (cJ, 8, .inr (.inl L_nk)))]
theorem wa_X3_addNames {cI : ClassId} {cJ : ClassId} {cZ : ClassId} {aW aW_ac aW_fa aW_in aW_yr aW_ti aS aS_ke aS_di aL aL_sh aL_wi aL_su aA aL_nk aL_gr : Nat} {W_n W_n' : Int32} {W_ac W_ac' : Nat → Int32} {W_fa W_fa' : Nat → Int32} {W_in W_in' : Nat → Int32} {W_yr W_yr' : Nat → Int32} {S_st S_st' : Int32} {S_mi S_mi' : Int32} {S_fi S_fi' : Int32} {S_sp S_sp' : Int32} {S_cl S_cl' : Int32} {S_nu S_nu' : Int32} {S_co S_co' : Int32} {L_sh L_sh' : Nat → Int32} {L_wi L_wi' : Nat → Int32} {L_su L_su' : Nat → Int32} {L_nk L_nk' : Nat → Int64} : (w_X3_addNames cI cJ cZ aW aW_ac aW_fa aW_in aW_yr aW_ti aS aS_ke aS_di aL aL_sh aL_wi aL_su aA aL_nk aL_gr W_n' W_ac' W_fa' W_in' W_yr' S_st' S_mi' S_fi' S_sp' S_cl' S_nu' S_co' L_sh' L_wi' L_su' L_nk').map Prod.fst = (w_X3_addNames cI cJ cZ aW aW_ac aW_fa aW_in aW_yr aW_ti aS aS_ke aS_di aL aL_sh aL_wi aL_su aA aL_nk aL_gr W_n W_ac W_fa W_in W_yr S_st S_mi S_fi S_sp S_cl S_nu S_co L_sh L_wi L_su L_nk).map Prod.fst := rfl
abbrev rm_X3_addNames : Room := { frames := 3, cells := 0, slots := 0, locals := 74 }
def w_X3_addSuffixes (cI : ClassId) (aW aW_ac aW_fa aW_in aW_yr aW_ti aA aA_or aA_nu aA_li aS aC aL aL_sh aL_wi aL_su aL_nk aL_gr : Nat) (W_n : Int32) (A_or : Nat → Int32) (L_su : Nat → Int32) : va_W := [(aW, .inr (9, [.int W_n, .ref aW_ac, .ref aW_fa, .ref aW_in, .ref aW_yr, .ref aW_ti])), (aA, .inr (0, [.ref aA_or, .ref aA_nu, .ref aA_li, .ref aW, .ref aS, .ref aC])), (aA_or, .inl (cI, 8, .inl A_or)), (aL, .inr (3, [.ref aL_sh, .ref aL_wi, .ref aL_su, .ref aW, .ref aS, .ref aA, .ref aL_nk, .ref aL_gr])), (aL_su, .inl (cI, 8, .inl L_su))]
theorem wa_X3_addSuffixes {cI : ClassId} {aW aW_ac aW_fa aW_in aW_yr aW_ti aA aA_or aA_nu aA_li aS aC aL aL_sh aL_wi aL_su aL_nk aL_gr : Nat} {W_n W_n' : Int32} {A_or A_or' : Nat → Int32} {L_su L_su' : Nat → Int32} : (w_X3_addSuffixes cI aW aW_ac aW_fa aW_in aW_yr aW_ti aA aA_or aA_nu aA_li aS aC aL aL_sh aL_wi aL_su aL_nk aL_gr W_n' A_or' L_su').map Prod.fst = (w_X3_addSuffixes cI aW aW_ac aW_fa aW_in aW_yr aW_ti aA aA_or aA_nu aA_li aS aC aL aL_sh aL_wi aL_su aL_nk aL_gr W_n A_or L_su).map Prod.fst := rfl
abbrev rm_X3_addSuffixes : Room := { frames := 1, cells := 0, slots := 0, locals := 21 }
def w_X3_isFirstOfGroup (cI : ClassId) (aL aL_sh aL_wi aL_su aW aS aA aL_nk aL_gr : Nat) (L_gr : Nat → Int32) : va_W := [(aL, .inr (3, [.ref aL_sh, .ref aL_wi, .ref aL_su, .ref aW, .ref aS, .ref aA, .ref aL_nk, .ref aL_gr])), (aL_gr, .inl (cI, 8, .inl L_gr))]
theorem wa_X3_isFirstOfGroup {cI : ClassId} {aL aL_sh aL_wi aL_su aW aS aA aL_nk aL_gr : Nat} {L_gr L_gr' : Nat → Int32} : (w_X3_isFirstOfGroup cI aL aL_sh aL_wi aL_su aW aS aA aL_nk aL_gr L_gr').map Prod.fst = (w_X3_isFirstOfGroup cI aL aL_sh aL_wi aL_su aW aS aA aL_nk aL_gr L_gr).map Prod.fst := rfl
abbrev rm_X3_isFirstOfGroup : Room := { frames := 1, cells := 0, slots := 0, locals := 21 }
def w_X3_perform (cI : ClassId) (cJ : ClassId) (cZ : ClassId) (aW aW_ac aW_fa aW_in aW_yr aW_ti aS aS_ke aS_di aA aA_or aA_nu aA_li aC aL aL_sh aL_wi aL_su aL_nk aL_gr : Nat) (W_n : Int32) (W_ac : Nat → Int32) (W_fa : Nat → Int32) (W_in : Nat → Int32) (W_yr : Nat → Int32) (S_st : Int32) (S_mi : Int32) (S_fi : Int32) (S_sp : Int32) (S_cl : Int32) (S_nu : Int32) (S_co : Int32) (A_or : Nat → Int32) (L_sh : Nat → Int32) (L_wi : Nat → Int32) (L_su : Nat → Int32) (L_nk : Nat → Int64) (L_gr : Nat → Int32) : va_W := [(aW, .inr (9, [.int W_n, .ref aW_ac, .ref aW_fa, .ref aW_in, .ref aW_yr, .ref aW_ti])), (aW_ac, .inl (cI, 8, .inl W_ac)), (aW_fa, .inl (cI, 32, .inl W_fa)), (aW_in, .inl (cI, 32, .inl W_in)), (aW_yr, .inl (cI, 8, .inl W_yr)), (aS, .inr (6, [.int S_st, .int S_mi, .int S_fi, .int S_sp, .int S_cl, .int S_nu, .int S_co, .ref aS_ke, .ref aS_di])), (aA, .inr (0, [.ref aA_or, .ref aA_nu, .ref aA_li, .ref aW, .ref aS, .ref aC])), (aA_or, .inl (cI, 8, .inl A_or)), (aL, .inr (3, [.ref aL_sh, .ref aL_wi, .ref aL_su, .ref aW, .ref aS, .ref aA, .ref aL_nk, .ref aL_gr])), (aL_sh, .inl (cI, 8, .inl L_sh)), (aL_wi, .inl (cZ, 8, .inl L_wi)), (aL_su, .inl (cI, 8, .inl L_su)), (aL_nk, .inl (cJ, 8, .inr (.inl L_nk))), (aL_gr, .inl (cI, 8, .inl L_gr))]
theorem wa_X3_perform {cI : ClassId} {cJ : ClassId} {cZ : ClassId} {aW aW_ac aW_fa aW_in aW_yr aW_ti aS aS_ke aS_di aA aA_or aA_nu aA_li aC aL aL_sh aL_wi aL_su aL_nk aL_gr : Nat} {W_n W_n' : Int32} {W_ac W_ac' : Nat → Int32} {W_fa W_fa' : Nat → Int32} {W_in W_in' : Nat → Int32} {W_yr W_yr' : Nat → Int32} {S_st S_st' : Int32} {S_mi S_mi' : Int32} {S_fi S_fi' : Int32} {S_sp S_sp' : Int32} {S_cl S_cl' : Int32} {S_nu S_nu' : Int32} {S_co S_co' : Int32} {A_or A_or' : Nat → Int32} {L_sh L_sh' : Nat → Int32} {L_wi L_wi' : Nat → Int32} {L_su L_su' : Nat → Int32} {L_nk L_nk' : Nat → Int64} {L_gr L_gr' : Nat → Int32} : (w_X3_perform cI cJ cZ aW aW_ac aW_fa aW_in aW_yr aW_ti aS aS_ke aS_di aA aA_or aA_nu aA_li aC aL aL_sh aL_wi aL_su aL_nk aL_gr W_n' W_ac' W_fa' W_in' W_yr' S_st' S_mi' S_fi' S_sp' S_cl' S_nu' S_co' A_or' L_sh' L_wi' L_su' L_nk' L_gr').map Prod.fst = (w_X3_perform cI cJ cZ aW aW_ac aW_fa aW_in aW_yr aW_ti aS aS_ke aS_di aA aA_or aA_nu aA_li aC aL aL_sh aL_wi aL_su aL_nk aL_gr W_n W_ac W_fa W_in W_yr S_st S_mi S_fi S_sp S_cl S_nu S_co A_or L_sh L_wi L_su L_nk L_gr).map Prod.fst := rfl
abbrev rm_X3_perform : Room := { frames := 4, cells := 0, slots := 0, locals := 99 }
def w_X3_update (cI : ClassId) (cJ : ClassId) (cZ : ClassId) (aW aW_ac aW_fa aW_in aW_yr aW_ti aS aS_ke aS_di aC aC_sz aC_cd aA aA_or aA_nu aA_li aL aL_sh aL_wi aL_su aL_nk aL_gr : Nat) (W_n : Int32) (W_ac : Nat → Int32) (W_fa : Nat → Int32) (W_in : Nat → Int32) (W_yr : Nat → Int32) (W_ti : Nat → Int32) (S_st : Int32) (S_mi : Int32) (S_fi : Int32) (S_sp : Int32) (S_cl : Int32) (S_nu : Int32) (S_co : Int32) (S_ke : Nat → Int32) (S_di : Nat → Int32) (C_n : Int32) (C_sz : Nat → Int32) (C_cd : Nat → Int32) (A_or : Nat → Int32) (A_nu : Nat → Int32) (A_li : Nat → Int32) (L_sh : Nat → Int32) (L_wi : Nat → Int32) (L_su : Nat → Int32) (L_nk : Nat → Int64) (L_gr : Nat → Int32) : va_W := [(aW, .inr (9, [.int W_n, .ref aW_ac, .ref aW_fa, .ref aW_in, .ref aW_yr, .ref aW_ti])), (aW_ac, .inl (cI, 8, .inl W_ac)), (aW_fa, .inl (cI, 32, .inl W_fa)), (aW_in, .inl (cI, 32, .inl W_in)), (aW_yr, .inl (cI, 8, .inl W_yr)), (aW_ti, .inl (cI, 8, .inl W_ti)), (aS, .inr (6, [.int S_st, .int S_mi, .int S_fi, .int S_sp, .int S_cl, .int S_nu, .int S_co, .ref aS_ke, .ref aS_di])), (aS_ke, .inl (cI, 3, .inl S_ke)), (aS_di, .inl (cI, 3, .inl S_di)), (aC, .inr (1, [.int C_n, .ref aC_sz, .ref aC_cd])), (aC_sz, .inl (cI, 10, .inl C_sz)), (aC_cd, .inl (cI, 50, .inl C_cd)), (aA, .inr (0, [.ref aA_or, .ref aA_nu, .ref aA_li, .ref aW, .ref aS, .ref aC])), (aA_or, .inl (cI, 8, .inl A_or)), (aA_nu, .inl (cI, 8, .inl A_nu)), (aA_li, .inl (cI, 8, .inl A_li)), (aL, .inr (3, [.ref aL_sh, .ref aL_wi, .ref aL_su, .ref aW, .ref aS, .ref aA, .ref aL_nk, .ref aL_gr])), (aL_sh, .inl (cI, 8, .inl L_sh)), (aL_wi, .inl (cZ, 8, .inl L_wi)), (aL_su, .inl (cI, 8, .inl L_su)), (aL_nk, .inl (cJ, 8, .inr (.inl L_nk))), (aL_gr, .inl (cI, 8, .inl L_gr))]
theorem wa_X3_update {cI : ClassId} {cJ : ClassId} {cZ : ClassId} {aW aW_ac aW_fa aW_in aW_yr aW_ti aS aS_ke aS_di aC aC_sz aC_cd aA aA_or aA_nu aA_li aL aL_sh aL_wi aL_su aL_nk aL_gr : Nat} {W_n W_n' : Int32} {W_ac W_ac' : Nat → Int32} {W_fa W_fa' : Nat → Int32} {W_in W_in' : Nat → Int32} {W_yr W_yr' : Nat → Int32} {W_ti W_ti' : Nat → Int32} {S_st S_st' : Int32} {S_mi S_mi' : Int32} {S_fi S_fi' : Int32} {S_sp S_sp' : Int32} {S_cl S_cl' : Int32} {S_nu S_nu' : Int32} {S_co S_co' : Int32} {S_ke S_ke' : Nat → Int32} {S_di S_di' : Nat → Int32} {C_n C_n' : Int32} {C_sz C_sz' : Nat → Int32} {C_cd C_cd' : Nat → Int32} {A_or A_or' : Nat → Int32} {A_nu A_nu' : Nat → Int32} {A_li A_li' : Nat → Int32} {L_sh L_sh' : Nat → Int32} {L_wi L_wi' : Nat → Int32} {L_su L_su' : Nat → Int32} {L_nk L_nk' : Nat → Int64} {L_gr L_gr' : Nat → Int32} : (w_X3_update cI cJ cZ aW aW_ac aW_fa aW_in aW_yr aW_ti aS aS_ke aS_di aC aC_sz aC_cd aA aA_or aA_nu aA_li aL aL_sh aL_wi aL_su aL_nk aL_gr W_n' W_ac' W_fa' W_in' W_yr' W_ti' S_st' S_mi' S_fi' S_sp' S_cl' S_nu' S_co' S_ke' S_di' C_n' C_sz' C_cd' A_or' A_nu' A_li' L_sh' L_wi' L_su' L_nk' L_gr').map Prod.fst = (w_X3_update cI cJ cZ aW aW_ac aW_fa aW_in aW_yr aW_ti aS aS_ke aS_di aC aC_sz aC_cd aA aA_or aA_nu aA_li aL aL_sh aL_wi aL_su aL_nk aL_gr W_n W_ac W_fa W_in W_yr W_ti S_st S_mi S_fi S_sp S_cl S_nu S_co S_ke S_di C_n C_sz C_cd A_or A_nu A_li L_sh L_wi L_su L_nk L_gr).map Prod.fst := rfl
abbrev rm_X3_update : Room := { frames := 5, cells := 0, slots := 0, locals := 121 }
set_option maxHeartbeats 4000000 in
set_option maxRecDepth 100000 in
theorem c_X3_hidesAuthors (l : Launch) (D : va_G) (cI cJ cZ cS : ClassId) (aW aW_ac aW_fa aW_in aW_yr aW_ti aL aL_sh aL_wi aL_su aS aA aL_nk aL_gr : Nat) (W_n : Int32) (W_ac : Nat → Int32) (L_sh : Nat → Int32) (x1 : Int32) (o : Int32) (hm : m_X3_hidesAuthors W_ac L_sh x1 = some o) : MI l yX3_hidesAuthors wsX3_hidesAuthors rm_X3_hidesAuthors D (TY cI cJ cZ cS) [.ref aL, .int x1] (w_X3_hidesAuthors cI aW aW_ac aW_fa aW_in aW_yr aW_ti aL aL_sh aL_wi aL_su aS aA aL_nk aL_gr W_n W_ac L_sh) (w_X3_hidesAuthors cI aW aW_ac aW_fa aW_in aW_yr aW_ti aL aL_sh aL_wi aL_su aS aA aL_nk aL_gr W_n W_ac L_sh) (o) := by
  refine MZ_of (cc := cX3_hidesAuthors) (maxL := 2) (by decide) rfl (Nat.le_of_ble_eq_true rfl) ?_
  intro p e s m args below meth c A Q ls H locs hx hb hml hts hown hK hA hP hD hS hl hret
  have hown : s.vm.findClass RX3 = some m.cls := hown
  have hKv : va_K D vwCl (TY cI cJ cZ cS) s := hK.1
  have hl : lv_has ls 2 [(0, .ref aL), (1, .int x1)] := hl
  have S : CallFix p m c cX3_hidesAuthors 2 s args wsX3_hidesAuthors RX3 := ⟨hx, hb, hml, hown, hts⟩
  have k1 := hts (.fieldLink RX3 9 "CitationFormatter$Labels" "shown" "[I") (by decide +kernel)
  have k2 : ∀ w ∈ wsX30, w ∈ wsX3_hidesAuthors := by decide +kernel
  have k3 := hts (.fieldLink RX3 35 "CitationFormatter$Labels" "works" "LCitationFormatter$Works;") (by decide +kernel)
  have k4 := hts (.fieldLink RX3 73 "CitationFormatter$Works" "authorCounts" "[I") (by decide +kernel)
  have k5 : ∀ w ∈ wsX90, w ∈ wsX3_hidesAuthors := by decide +kernel
  have J23 : ∀ (y0_j23 : Int32), (m_X3_hidesAuthors_J23 y0_j23 = some o) → ∀ (H : Heap) (locs : List Loc) (ls : Array Slot), va_P D vwCl (w_X3_hidesAuthors cI aW aW_ac aW_fa aW_in aW_yr aW_ti aL aL_sh aL_wi aL_su aS aA aL_nk aL_gr W_n W_ac L_sh) H → va_D A (w_X3_hidesAuthors cI aW aW_ac aW_fa aW_in aW_yr aW_ti aL aL_sh aL_wi aL_su aS aA aL_nk aL_gr W_n W_ac L_sh) → va_S A s.heap H locs → lv_has ls 2 [(0, .ref aL)] → W p l e rm_X3_hidesAuthors s m args below meth c H locs 0 0 Q (F0 m 23 ls [.int y0_j23]) := by
    intro y0_j23 hm H locs ls hP hD hS hl
    replace hm := ckb_some hm
    obtain ⟨h1, hm⟩ := hm
    have h9 := Option.some.inj hm
    subst h9
    exact hret H locs _ ls _ h1 hP hD hS rfl dX3_hidesAuthors_23
  refine lv_aload_n hx hb dX3_hidesAuthors_0 rfl (lv_at hl 0 rfl) ?_
  refine va_get (D := D) (ci := 3) (v := .ref aL_sh) (C := RX3) (T := TX3) (N := 8) hx hb hts k2 hown hKv hP 2 rfl rfl 0 (by decide) k1 (fun _ h9 => h9) rfl dX3_hidesAuthors_1 ?_
  refine lv_iload_n hx hb dX3_hidesAuthors_4 rfl (lv_at hl 1 rfl) ?_
  replace hm := ck_some hm
  obtain ⟨h2, hm⟩ := hm
  refine va_iald hx hb hKv hP 3 0 rfl rfl h2 dX3_hidesAuthors_5 ?_
  refine lv_aload_n hx hb dX3_hidesAuthors_6 rfl (lv_at hl 0 rfl) ?_
  refine va_get (D := D) (ci := 3) (v := .ref aW) (C := RX3) (T := TX3) (N := 8) hx hb hts k2 hown hKv hP 2 rfl rfl 3 (by decide) k3 (fun _ h9 => h9) rfl dX3_hidesAuthors_7 ?_
  refine va_get (D := D) (ci := 9) (v := .ref aW_ac) (C := RX9) (T := TX9) (N := 6) hx hb hts k5 hown hKv hP 0 rfl rfl 1 (by decide) k4 (fun _ h9 => h9) rfl dX3_hidesAuthors_10 ?_
  refine lv_iload_n hx hb dX3_hidesAuthors_13 rfl (lv_at hl 1 rfl) ?_
  replace hm := ck_some hm
  obtain ⟨h3, hm⟩ := hm
  refine va_iald hx hb hKv hP 1 0 rfl rfl h3 dX3_hidesAuthors_14 ?_
  refine lv_icmp_ge (tgt := 22) hx hb dX3_hidesAuthors_15 (by decide) (fun c4 => ?_) (fun c4 => ?_)
  · replace hm := if_t c4 hm
    refine lv_iconst (v := 0) hx hb dX3_hidesAuthors_22 (by decide) ?_
    exact J23 0 hm H locs ls hP hD hS (lv_sub hl [0] rfl)
  · replace hm := if_f c4 hm
    refine lv_iconst (v := 1) hx hb dX3_hidesAuthors_18 (by decide) ?_
    refine lv_goto (tgt := 23) hx hb dX3_hidesAuthors_19 (by decide) ?_
    exact J23 1 hm H locs ls hP hD hS (lv_sub hl [0] rfl)
set_option maxHeartbeats 4000000 in
set_option maxRecDepth 100000 in
theorem c_X3_show (l : Launch) (D : va_G) (cI cJ cZ cS : ClassId) (aW aW_ac aW_fa aW_in aW_yr aW_ti aL aL_sh aL_wi aL_su aS aA aL_nk aL_gr : Nat) (W_n : Int32) (W_ac : Nat → Int32) (W_fa : Nat → Int32) (W_in : Nat → Int32) (L_sh : Nat → Int32) (L_wi : Nat → Int32) (L_nk : Nat → Int64) (x1 : Int32) (x2 : Int32) (x3 : Int32) (o : (Nat → Int32) × (Nat → Int32) × (Nat → Int64)) (hm : m_X3_show W_ac W_fa W_in L_sh L_wi L_nk x1 x2 x3 = some o) : MV l yX3_show wsX3_show rm_X3_show D (TY cI cJ cZ cS) [.ref aL, .int x1, .int x2, .int x3] (w_X3_show cI cJ cZ aW aW_ac aW_fa aW_in aW_yr aW_ti aL aL_sh aL_wi aL_su aS aA aL_nk aL_gr W_n W_ac W_fa W_in L_sh L_wi L_nk) (w_X3_show cI cJ cZ aW aW_ac aW_fa aW_in aW_yr aW_ti aL aL_sh aL_wi aL_su aS aA aL_nk aL_gr W_n W_ac W_fa W_in o.1 o.2.1 o.2.2) := by
  refine MV_of (cc := cX3_show) (maxL := 10) (by decide) rfl (Nat.le_of_ble_eq_true rfl) ?_
  intro p e s m args below meth c A Q ls H locs hx hb hml hts hown hK hA hP hD hS hl hret
  have hown : s.vm.findClass RX3 = some m.cls := hown
  have hKv : va_K D vwCl (TY cI cJ cZ cS) s := hK.1
  have hl : lv_has ls 10 [(0, .ref aL), (1, .int x1), (2, .int x2), (3, .int x3)] := hl
  have S : CallFix p m c cX3_show 10 s args wsX3_show RX3 := ⟨hx, hb, hml, hown, hts⟩
  have k1 := hts (.fieldLink RX3 22 "CitationFormatter$Labels" "namesKeys" "[J") (by decide +kernel)
  have k2 : ∀ w ∈ wsX30, w ∈ wsX3_show := by decide +kernel
  have k3 := hts (.fieldLink RX3 35 "CitationFormatter$Labels" "works" "LCitationFormatter$Works;") (by decide +kernel)
  have k4 := hts (.fieldLink RX3 99 "CitationFormatter$Works" "families" "[I") (by decide +kernel)
  have k5 : ∀ w ∈ wsX90, w ∈ wsX3_show := by decide +kernel
  have k6 := hts (.fieldLink RX3 102 "CitationFormatter$Works" "initials" "[I") (by decide +kernel)
  have k7 := hts (.fieldLink RX3 9 "CitationFormatter$Labels" "shown" "[I") (by decide +kernel)
  have k8 := hts (.fieldLink RX3 15 "CitationFormatter$Labels" "withInitials" "[Z") (by decide +kernel)
  have k9 : CallW rm_X3_show s args RX3 RX3 95 yX3_hidesAuthors cX3_hidesAuthors 2 (some .boolean) wsX3_hidesAuthors rm_X3_hidesAuthors 0 0 1 := cwV 1 hts gX3_show_X3_hidesAuthors rfl rfl rfl (by decide +kernel) ⟨Nat.le_of_ble_eq_true rfl, Nat.le_of_ble_eq_true rfl⟩
  have J27 : ∀ (y0_j27 : Int64) (L_sh_j27 : Nat → Int32) (L_wi_j27 : Nat → Int32) (L_nk_j27 : Nat → Int64), (m_X3_show_J27 x1 x2 x3 y0_j27 W_fa W_in L_sh_j27 L_wi_j27 L_nk_j27 = some o) → ∀ (H : Heap) (locs : List Loc) (ls : Array Slot), va_P D vwCl (w_X3_show cI cJ cZ aW aW_ac aW_fa aW_in aW_yr aW_ti aL aL_sh aL_wi aL_su aS aA aL_nk aL_gr W_n W_ac W_fa W_in L_sh_j27 L_wi_j27 L_nk_j27) H → va_D A (w_X3_show cI cJ cZ aW aW_ac aW_fa aW_in aW_yr aW_ti aL aL_sh aL_wi aL_su aS aA aL_nk aL_gr W_n W_ac W_fa W_in L_sh_j27 L_wi_j27 L_nk_j27) → va_S A s.heap H locs → lv_has ls 10 [(0, .ref aL), (1, .int x1), (2, .int x2), (3, .int x3)] → W p l e rm_X3_show s m args below meth c H locs 0 0 Q (F0 m 27 ls [.long y0_j27]) := by
    intro y0_j27 L_sh_j27 L_wi_j27 L_nk_j27 hm H locs ls hP hD hS hl
    refine lv_lstore (lv' := [(4, .long y0_j27), (0, .ref aL), (1, .int x1), (2, .int x2), (3, .int x3)]) hx hb dX3_show_27 hl (by decide) rfl (fun ls hl => ?_)
    refine lv_iconst (v := 0) hx hb dX3_show_29 (by decide) ?_
    refine lv_istore (lv' := [(6, .int 0), (4, .long y0_j27), (0, .ref aL), (1, .int x1), (2, .int x2), (3, .int x3)]) hx hb dX3_show_30 hl (by decide) rfl (fun ls hl => ?_)
    replace hm := bd_some hm
    obtain ⟨e1, hc1, hm⟩ := hm
    have X1_0 : ∀ (H : Heap) (locs : List Loc) (ls : Array Slot), va_P D vwCl (w_X3_show cI cJ cZ aW aW_ac aW_fa aW_in aW_yr aW_ti aL aL_sh aL_wi aL_su aS aA aL_nk aL_gr W_n W_ac W_fa W_in L_sh_j27 L_wi_j27 L_nk_j27) H → va_D A (w_X3_show cI cJ cZ aW aW_ac aW_fa aW_in aW_yr aW_ti aL aL_sh aL_wi aL_su aS aA aL_nk aL_gr W_n W_ac W_fa W_in L_sh_j27 L_wi_j27 L_nk_j27) → va_S A s.heap H locs → lv_has ls 10 [(0, .ref aL), (1, .int x1), (4, .long e1)] → W p l e rm_X3_show s m args below meth c H locs 0 0 Q (F0 m 110 ls []) := by
      intro H locs ls hP hD hS hl
      refine lv_aload_n hx hb dX3_show_110 rfl (lv_at hl 0 rfl) ?_
      refine va_get (D := D) (ci := 3) (v := .ref aL_nk) (C := RX3) (T := TX3) (N := 8) hx hb hts k2 hown hKv hP 4 rfl rfl 6 (by decide) k1 (fun _ h9 => h9) rfl dX3_show_111 ?_
      refine lv_iload_n hx hb dX3_show_114 rfl (lv_at hl 1 rfl) ?_
      refine lv_lload hx hb dX3_show_115 (lv_at hl 2 rfl) ?_
      replace hm := ck_some hm
      obtain ⟨h2, hm⟩ := hm
      refine va_last hx hb hKv hP hD hS 7 1 rfl rfl h2 dX3_show_117 (fun H locs hP hD hS => ?_)
      replace hP : va_P D vwCl (w_X3_show cI cJ cZ aW aW_ac aW_fa aW_in aW_yr aW_ti aL aL_sh aL_wi aL_su aS aA aL_nk aL_gr W_n W_ac W_fa W_in L_sh_j27 L_wi_j27 (vp_updL L_nk_j27 (Int32.toNatClampNeg x1) e1)) H := hP
      replace hD : va_D A (w_X3_show cI cJ cZ aW aW_ac aW_fa aW_in aW_yr aW_ti aL aL_sh aL_wi aL_su aS aA aL_nk aL_gr W_n W_ac W_fa W_in L_sh_j27 L_wi_j27 (vp_updL L_nk_j27 (Int32.toNatClampNeg x1) e1)) := hD
      have h9 := Option.some.inj hm
      subst h9
      exact hret H locs _ ls hP hD hS dX3_show_118
    refine it_W (G := fun (st32 : Int64 × Int32) => ∀ (H : Heap) (locs : List Loc) (ls : Array Slot), va_P D vwCl (w_X3_show cI cJ cZ aW aW_ac aW_fa aW_in aW_yr aW_ti aL aL_sh aL_wi aL_su aS aA aL_nk aL_gr W_n W_ac W_fa W_in L_sh_j27 L_wi_j27 L_nk_j27) H → va_D A (w_X3_show cI cJ cZ aW aW_ac aW_fa aW_in aW_yr aW_ti aL aL_sh aL_wi aL_su aS aA aL_nk aL_gr W_n W_ac W_fa W_in L_sh_j27 L_wi_j27 L_nk_j27) → va_S A s.heap H locs → lv_has ls 10 [(0, .ref aL), (1, .int x1), (2, .int x2), (3, .int x3), (4, .long st32.1), (6, .int st32.2)] → W p l e rm_X3_show s m args below meth c H locs 0 0 Q (F0 m 32 ls [])) (e := e1) (fun st32 x hm hG hE => ?_) fu _ hc1 H locs ls hP hD hS (lv_sub hl [2, 3, 4, 5, 1, 0] rfl)
    intro H locs ls hP hD hS hl
    have J86 : ∀ (x4_j86 : Int64) (x6_j86 : Int32) (x8_j86 : Int32) (y0_j86 : Int32), (m_X3_show_J86 x1 x2 x3 x4_j86 x6_j86 x8_j86 y0_j86 = some x) → ∀ (H : Heap) (locs : List Loc) (ls : Array Slot), va_P D vwCl (w_X3_show cI cJ cZ aW aW_ac aW_fa aW_in aW_yr aW_ti aL aL_sh aL_wi aL_su aS aA aL_nk aL_gr W_n W_ac W_fa W_in L_sh_j27 L_wi_j27 L_nk_j27) H → va_D A (w_X3_show cI cJ cZ aW aW_ac aW_fa aW_in aW_yr aW_ti aL aL_sh aL_wi aL_su aS aA aL_nk aL_gr W_n W_ac W_fa W_in L_sh_j27 L_wi_j27 L_nk_j27) → va_S A s.heap H locs → lv_has ls 10 [(0, .ref aL), (1, .int x1), (2, .int x2), (3, .int x3), (4, .long x4_j86), (6, .int x6_j86), (8, .int x8_j86)] → W p l e rm_X3_show s m args below meth c H locs 0 0 Q (F0 m 86 ls [.int y0_j86]) := by
      intro x4_j86 x6_j86 x8_j86 y0_j86 hm H locs ls hP hD hS hl
      refine lv_istore (lv' := [(9, .int y0_j86), (0, .ref aL), (1, .int x1), (2, .int x2), (3, .int x3), (4, .long x4_j86), (6, .int x6_j86), (8, .int x8_j86)]) hx hb dX3_show_86 hl (by decide) rfl (fun ls hl => ?_)
      refine lv_lload hx hb dX3_show_88 (lv_at hl 5 rfl) ?_
      refine lv_iconst (v := 5) hx hb dX3_show_90 (by decide) ?_
      refine lv_lshl hx hb dX3_show_91 rfl ?_
      refine lv_iload hx hb dX3_show_92 (lv_at hl 7 rfl) ?_
      refine lv_i2l hx hb dX3_show_94 rfl ?_
      refine lv_lor hx hb dX3_show_95 ?_
      refine lv_iconst (v := 5) hx hb dX3_show_96 (by decide) ?_
      refine lv_lshl hx hb dX3_show_97 rfl ?_
      refine lv_iload hx hb dX3_show_98 (lv_at hl 0 rfl) ?_
      refine lv_i2l hx hb dX3_show_100 rfl ?_
      refine lv_lor hx hb dX3_show_101 ?_
      refine lv_lstore (lv' := [(4, .long ((((x4_j86 <<< (Int32.toInt64 5 &&& 63)) ||| (Int32.toInt64 x8_j86)) <<< (Int32.toInt64 5 &&& 63)) ||| (Int32.toInt64 y0_j86))), (9, .int y0_j86), (0, .ref aL), (1, .int x1), (2, .int x2), (3, .int x3), (6, .int x6_j86), (8, .int x8_j86)]) hx hb dX3_show_102 hl (by decide) rfl (fun ls hl => ?_)
      refine lv_iinc (v := (x6_j86 + 1)) (lv' := [(6, .int (x6_j86 + 1)), (4, .long ((((x4_j86 <<< (Int32.toInt64 5 &&& 63)) ||| (Int32.toInt64 x8_j86)) <<< (Int32.toInt64 5 &&& 63)) ||| (Int32.toInt64 y0_j86))), (9, .int y0_j86), (0, .ref aL), (1, .int x1), (2, .int x2), (3, .int x3), (8, .int x8_j86)]) hx hb dX3_show_104 hl (k := 6) rfl rfl (by decide) rfl (fun ls hl => ?_)
      refine lv_goto (tgt := 32) hx hb dX3_show_107 (by decide) ?_
      exact hG _ (Option.some.inj hm).symm H locs ls hP hD hS (lv_sub hl [3, 4, 5, 6, 1, 0] rfl)
    refine lv_iload hx hb dX3_show_32 (lv_at hl 5 rfl) ?_
    refine lv_iload_n hx hb dX3_show_34 rfl (lv_at hl 2 rfl) ?_
    refine lv_icmp_ge (tgt := 110) hx hb dX3_show_35 (by decide) (fun c3 => ?_) (fun c3 => ?_)
    · replace hm := if_t c3 hm
      have h9 := hE _ (Option.some.inj hm).symm
      subst h9
      exact X1_0 H locs ls hP hD hS (lv_sub hl [0, 1, 4] rfl)
    · replace hm := if_f c3 hm
      refine lv_iload_n hx hb dX3_show_38 rfl (lv_at hl 1 rfl) ?_
      refine lv_iconst (v := 4) hx hb dX3_show_39 (by decide) ?_
      refine lv_imul hx hb dX3_show_40 ?_
      refine lv_iload hx hb dX3_show_41 (lv_at hl 5 rfl) ?_
      refine lv_iadd hx hb dX3_show_43 ?_
      refine lv_istore (lv' := [(7, .int ((x1 * 4) + st32.2)), (0, .ref aL), (1, .int x1), (2, .int x2), (3, .int x3), (4, .long st32.1), (6, .int st32.2)]) hx hb dX3_show_44 hl (by decide) rfl (fun ls hl => ?_)
      refine lv_aload_n hx hb dX3_show_46 rfl (lv_at hl 1 rfl) ?_
      refine va_get (D := D) (ci := 3) (v := .ref aW) (C := RX3) (T := TX3) (N := 8) hx hb hts k2 hown hKv hP 4 rfl rfl 3 (by decide) k3 (fun _ h9 => h9) rfl dX3_show_47 ?_
      refine va_get (D := D) (ci := 9) (v := .ref aW_fa) (C := RX9) (T := TX9) (N := 6) hx hb hts k5 hown hKv hP 0 rfl rfl 2 (by decide) k4 (fun _ h9 => h9) rfl dX3_show_50 ?_
      refine lv_iload hx hb dX3_show_53 (lv_at hl 0 rfl) ?_
      replace hm := ck_some hm
      obtain ⟨h4, hm⟩ := hm
      refine va_iald hx hb hKv hP 2 0 rfl rfl h4 dX3_show_55 ?_
      refine lv_bipush (v := 65) hx hb dX3_show_56 (by decide) ?_
      refine lv_isub hx hb dX3_show_58 ?_
      refine lv_iconst (v := 1) hx hb dX3_show_59 (by decide) ?_
      refine lv_iadd hx hb dX3_show_60 ?_
      refine lv_istore (lv' := [(8, .int (((W_fa (Int32.toNatClampNeg ((x1 * 4) + st32.2))) - 65) + 1)), (7, .int ((x1 * 4) + st32.2)), (0, .ref aL), (1, .int x1), (2, .int x2), (3, .int x3), (4, .long st32.1), (6, .int st32.2)]) hx hb dX3_show_61 hl (by decide) rfl (fun ls hl => ?_)
      refine lv_iload_n hx hb dX3_show_63 rfl (lv_at hl 5 rfl) ?_
      refine lv_if_eq (tgt := 85) hx hb dX3_show_64 (by decide) (fun c5 => ?_) (fun c5 => ?_)
      · replace hm := if_t c5 hm
        refine lv_iconst (v := 0) hx hb dX3_show_85 (by decide) ?_
        exact J86 st32.1 st32.2 (((W_fa (Int32.toNatClampNeg ((x1 * 4) + st32.2))) - 65) + 1) 0 hm H locs ls hP hD hS (lv_sub hl [2, 3, 4, 5, 6, 7, 0] rfl)
      · replace hm := if_f c5 hm
        refine lv_aload_n hx hb dX3_show_67 rfl (lv_at hl 2 rfl) ?_
        refine va_get (D := D) (ci := 3) (v := .ref aW) (C := RX3) (T := TX3) (N := 8) hx hb hts k2 hown hKv hP 4 rfl rfl 3 (by decide) k3 (fun _ h9 => h9) rfl dX3_show_68 ?_
        refine va_get (D := D) (ci := 9) (v := .ref aW_in) (C := RX9) (T := TX9) (N := 6) hx hb hts k5 hown hKv hP 0 rfl rfl 3 (by decide) k6 (fun _ h9 => h9) rfl dX3_show_71 ?_
        refine lv_iload hx hb dX3_show_74 (lv_at hl 1 rfl) ?_
        replace hm := ck_some hm
        obtain ⟨h6, hm⟩ := hm
        refine va_iald hx hb hKv hP 3 0 rfl rfl h6 dX3_show_76 ?_
        refine lv_bipush (v := 97) hx hb dX3_show_77 (by decide) ?_
        refine lv_isub hx hb dX3_show_79 ?_
        refine lv_iconst (v := 1) hx hb dX3_show_80 (by decide) ?_
        refine lv_iadd hx hb dX3_show_81 ?_
        refine lv_goto (tgt := 86) hx hb dX3_show_82 (by decide) ?_
        exact J86 st32.1 st32.2 (((W_fa (Int32.toNatClampNeg ((x1 * 4) + st32.2))) - 65) + 1) (((W_in (Int32.toNatClampNeg ((x1 * 4) + st32.2))) - 97) + 1) hm H locs ls hP hD hS (lv_sub hl [2, 3, 4, 5, 6, 7, 0] rfl)
  refine lv_aload_n hx hb dX3_show_0 rfl (lv_at hl 0 rfl) ?_
  refine va_get (D := D) (ci := 3) (v := .ref aL_sh) (C := RX3) (T := TX3) (N := 8) hx hb hts k2 hown hKv hP 4 rfl rfl 0 (by decide) k7 (fun _ h9 => h9) rfl dX3_show_1 ?_
  refine lv_iload_n hx hb dX3_show_4 rfl (lv_at hl 1 rfl) ?_
  refine lv_iload_n hx hb dX3_show_5 rfl (lv_at hl 2 rfl) ?_
  replace hm := ck_some hm
  obtain ⟨h7, hm⟩ := hm
  refine va_iast hx hb hKv hP hD hS 5 0 rfl rfl h7 dX3_show_6 (fun H locs hP hD hS => ?_)
  replace hP : va_P D vwCl (w_X3_show cI cJ cZ aW aW_ac aW_fa aW_in aW_yr aW_ti aL aL_sh aL_wi aL_su aS aA aL_nk aL_gr W_n W_ac W_fa W_in (upd L_sh (Int32.toNatClampNeg x1) x2) L_wi L_nk) H := hP
  replace hD : va_D A (w_X3_show cI cJ cZ aW aW_ac aW_fa aW_in aW_yr aW_ti aL aL_sh aL_wi aL_su aS aA aL_nk aL_gr W_n W_ac W_fa W_in (upd L_sh (Int32.toNatClampNeg x1) x2) L_wi L_nk) := hD
  refine lv_aload_n hx hb dX3_show_7 rfl (lv_at hl 0 rfl) ?_
  refine va_get (D := D) (ci := 3) (v := .ref aL_wi) (C := RX3) (T := TX3) (N := 8) hx hb hts k2 hown hKv hP 4 rfl rfl 1 (by decide) k8 (fun _ h9 => h9) rfl dX3_show_8 ?_
  refine lv_iload_n hx hb dX3_show_11 rfl (lv_at hl 1 rfl) ?_
  refine lv_iload_n hx hb dX3_show_12 rfl (lv_at hl 3 rfl) ?_
  replace hm := ck_some hm
  obtain ⟨h8, hm⟩ := hm
  replace hm := ckb_some hm
  obtain ⟨h9, hm⟩ := hm
  refine va_zast hx hb hKv hP hD hS 6 2 rfl rfl h8 dX3_show_13 (fun H locs hP hD hS => ?_)
  rw [vnar_b h9] at hP hD
  replace hP : va_P D vwCl (w_X3_show cI cJ cZ aW aW_ac aW_fa aW_in aW_yr aW_ti aL aL_sh aL_wi aL_su aS aA aL_nk aL_gr W_n W_ac W_fa W_in (upd L_sh (Int32.toNatClampNeg x1) x2) (upd L_wi (Int32.toNatClampNeg x1) x3) L_nk) H := hP
  replace hD : va_D A (w_X3_show cI cJ cZ aW aW_ac aW_fa aW_in aW_yr aW_ti aL aL_sh aL_wi aL_su aS aA aL_nk aL_gr W_n W_ac W_fa W_in (upd L_sh (Int32.toNatClampNeg x1) x2) (upd L_wi (Int32.toNatClampNeg x1) x3) L_nk) := hD
  refine lv_aload_n hx hb dX3_show_14 rfl (lv_at hl 0 rfl) ?_
  refine lv_iload_n hx hb dX3_show_15 rfl (lv_at hl 1 rfl) ?_
  replace hm := bd_some hm
  obtain ⟨e10, hc10, hm⟩ := hm
  refine kV_i (rest := []) (ws' := (w_X3_show cI cJ cZ aW aW_ac aW_fa aW_in aW_yr aW_ti aL aL_sh aL_wi aL_su aS aA aL_nk aL_gr W_n W_ac W_fa W_in (upd L_sh (Int32.toNatClampNeg x1) x2) (upd L_wi (Int32.toNatClampNeg x1) x3) L_nk)) S (c_X3_hidesAuthors l D cI cJ cZ cS aW aW_ac aW_fa aW_in aW_yr aW_ti aL aL_sh aL_wi aL_su aS aA aL_nk aL_gr W_n W_ac (upd L_sh (Int32.toNatClampNeg x1) x2) x1 e10 hc10) k9 hK hP hD hS hA 4 rfl rfl rfl rfl hl.1 rfl (Nat.le_of_ble_eq_true rfl) ⟨Nat.zero_le _, Nat.zero_le _⟩ dX3_show_16 [0, 1, 4, 5] rfl rfl wa_X3_hidesAuthors (sa_eq [(aW_fa, .inl (cI, 32, .inl W_fa)), (aW_in, .inl (cI, 32, .inl W_in)), (aL_wi, .inl (cZ, 8, .inl (upd L_wi (Int32.toNatClampNeg x1) x3))), (aL_nk, .inl (cJ, 8, .inr (.inl L_nk)))] [2, 3, 6, 7] 8 rfl rfl rfl rfl rfl rfl rfl) (fun H locs hP hD hS => ?_)
  refine lv_if_eq (tgt := 26) hx hb dX3_show_19 (by decide) (fun c11 => ?_) (fun c11 => ?_)
  · replace hm := if_t c11 hm
    refine lv_lconst (v := 0) hx hb dX3_show_26 (by decide) ?_
    exact J27 0 (upd L_sh (Int32.toNatClampNeg x1) x2) (upd L_wi (Int32.toNatClampNeg x1) x3) L_nk hm H locs ls hP hD hS (lv_sub hl [0, 1, 2, 3] rfl)
  · replace hm := if_f c11 hm
    refine lv_lconst (v := 1) hx hb dX3_show_22 (by decide) ?_
    refine lv_goto (tgt := 27) hx hb dX3_show_23 (by decide) ?_
    exact J27 1 (upd L_sh (Int32.toNatClampNeg x1) x2) (upd L_wi (Int32.toNatClampNeg x1) x3) L_nk hm H locs ls hP hD hS (lv_sub hl [0, 1, 2, 3] rfl)
set_option maxHeartbeats 4000000 in
set_option maxRecDepth 100000 in
theorem c_X3_showInitials (l : Launch) (D : va_G) (cI cJ cZ cS : ClassId) (aW aW_ac aW_fa aW_in aW_yr aW_ti aL aL_sh aL_wi aL_su aS aA aL_nk aL_gr : Nat) (W_n : Int32) (W_ac : Nat → Int32) (W_fa : Nat → Int32) (W_in : Nat → Int32) (L_sh : Nat → Int32) (L_wi : Nat → Int32) (L_nk : Nat → Int64) (x1 : Int32) (x2 : Int32) (o : (Nat → Int32) × (Nat → Int32) × (Nat → Int64)) (hm : m_X3_showInitials W_n W_ac W_fa W_in L_sh L_wi L_nk x1 x2 = some o) : MV l yX3_showInitials wsX3_showInitials rm_X3_showInitials D (TY cI cJ cZ cS) [.ref aL, .int x1, .int x2] (w_X3_showInitials cI cJ cZ aW aW_ac aW_fa aW_in aW_yr aW_ti aL aL_sh aL_wi aL_su aS aA aL_nk aL_gr W_n W_ac W_fa W_in L_sh L_wi L_nk) (w_X3_showInitials cI cJ cZ aW aW_ac aW_fa aW_in aW_yr aW_ti aL aL_sh aL_wi aL_su aS aA aL_nk aL_gr W_n W_ac W_fa W_in o.1 o.2.1 o.2.2) := by
  refine MV_of (cc := cX3_showInitials) (maxL := 4) (by decide) rfl (Nat.le_of_ble_eq_true rfl) ?_
  intro p e s m args below meth c A Q ls H locs hx hb hml hts hown hK hA hP hD hS hl hret
  have hown : s.vm.findClass RX3 = some m.cls := hown
  have hKv : va_K D vwCl (TY cI cJ cZ cS) s := hK.1
  have hl : lv_has ls 4 [(0, .ref aL), (1, .int x1), (2, .int x2)] := hl
  have S : CallFix p m c cX3_showInitials 4 s args wsX3_showInitials RX3 := ⟨hx, hb, hml, hown, hts⟩
  have k1 := hts (.fieldLink RX3 35 "CitationFormatter$Labels" "works" "LCitationFormatter$Works;") (by decide +kernel)
  have k2 : ∀ w ∈ wsX30, w ∈ wsX3_showInitials := by decide +kernel
  have k3 := hts (.fieldLink RX3 50 "CitationFormatter$Works" "count" "I") (by decide +kernel)
  have k4 : ∀ w ∈ wsX90, w ∈ wsX3_showInitials := by decide +kernel
  have k5 : va_CN rm_X3_showInitials s args RX3 130 yX11_inSet "CitationFormatter" cX11_inSet 2 (some .boolean) wsX11_inSet rm_X11_inSet 0 0 2 ∧ (Cond.static yX11_inSet).before args s = true ∧ True := ⟨va_cnB 2 hts gX3_showInitials_X11_inSet_n130 rfl rfl rfl (hK.2 (RX3, 130, yX11_inSet) (by decide +kernel)) (hts (.initialized RX11) (by decide +kernel)) (by decide +kernel) ⟨Nat.le_of_ble_eq_true rfl, Nat.le_of_ble_eq_true rfl⟩, hts (.static yX11_inSet) (by decide +kernel), trivial⟩
  have k6 := hts (.fieldLink RX3 9 "CitationFormatter$Labels" "shown" "[I") (by decide +kernel)
  have k7 : CallW rm_X3_showInitials s args RX3 RX3 60 yX3_show cX3_show 10 none wsX3_show rm_X3_show 0 0 3 := cwV 3 hts gX3_showInitials_X3_show rfl rfl rfl (by decide +kernel) ⟨Nat.le_of_ble_eq_true rfl, Nat.le_of_ble_eq_true rfl⟩
  refine lv_iconst (v := 0) hx hb dX3_showInitials_0 (by decide) ?_
  refine lv_istore_n (lv' := [(3, .int 0), (0, .ref aL), (1, .int x1), (2, .int x2)]) hx hb dX3_showInitials_1 rfl hl (by decide) rfl (fun ls hl => ?_)
  replace hm := bd_some hm
  obtain ⟨e1, hc1, hm⟩ := hm
  have X1_0 : ∀ (H : Heap) (locs : List Loc) (ls : Array Slot), va_P D vwCl (w_X3_showInitials cI cJ cZ aW aW_ac aW_fa aW_in aW_yr aW_ti aL aL_sh aL_wi aL_su aS aA aL_nk aL_gr W_n W_ac W_fa W_in e1.1 e1.2.1 e1.2.2) H → va_D A (w_X3_showInitials cI cJ cZ aW aW_ac aW_fa aW_in aW_yr aW_ti aL aL_sh aL_wi aL_su aS aA aL_nk aL_gr W_n W_ac W_fa W_in e1.1 e1.2.1 e1.2.2) → va_S A s.heap H locs → lv_has ls 4 [(0, .ref aL)] → W p l e rm_X3_showInitials s m args below meth c H locs 0 0 Q (F0 m 39 ls []) := by
    intro H locs ls hP hD hS hl
    have h9 := Option.some.inj hm
    subst h9
    exact hret H locs _ ls hP hD hS dX3_showInitials_39
  refine it_W (G := fun (st2 : Int32 × (Nat → Int32) × (Nat → Int32) × (Nat → Int64)) => ∀ (H : Heap) (locs : List Loc) (ls : Array Slot), va_P D vwCl (w_X3_showInitials cI cJ cZ aW aW_ac aW_fa aW_in aW_yr aW_ti aL aL_sh aL_wi aL_su aS aA aL_nk aL_gr W_n W_ac W_fa W_in st2.2.1 st2.2.2.1 st2.2.2.2) H → va_D A (w_X3_showInitials cI cJ cZ aW aW_ac aW_fa aW_in aW_yr aW_ti aL aL_sh aL_wi aL_su aS aA aL_nk aL_gr W_n W_ac W_fa W_in st2.2.1 st2.2.2.1 st2.2.2.2) → va_S A s.heap H locs → lv_has ls 4 [(0, .ref aL), (1, .int x1), (2, .int x2), (3, .int st2.1)] → W p l e rm_X3_showInitials s m args below meth c H locs 0 0 Q (F0 m 2 ls [])) (e := e1) (fun st2 x hm hG hE => ?_) fu _ hc1 H locs ls hP hD hS (lv_sub hl [1, 2, 3, 0] rfl)
  intro H locs ls hP hD hS hl
  have J33 : ∀ (x3_j33 : Int32) (L_sh_j33 : Nat → Int32) (L_wi_j33 : Nat → Int32) (L_nk_j33 : Nat → Int64), (m_X3_showInitials_J33 x1 x2 x3_j33 L_sh_j33 L_wi_j33 L_nk_j33 = some x) → ∀ (H : Heap) (locs : List Loc) (ls : Array Slot), va_P D vwCl (w_X3_showInitials cI cJ cZ aW aW_ac aW_fa aW_in aW_yr aW_ti aL aL_sh aL_wi aL_su aS aA aL_nk aL_gr W_n W_ac W_fa W_in L_sh_j33 L_wi_j33 L_nk_j33) H → va_D A (w_X3_showInitials cI cJ cZ aW aW_ac aW_fa aW_in aW_yr aW_ti aL aL_sh aL_wi aL_su aS aA aL_nk aL_gr W_n W_ac W_fa W_in L_sh_j33 L_wi_j33 L_nk_j33) → va_S A s.heap H locs → lv_has ls 4 [(0, .ref aL), (1, .int x1), (2, .int x2), (3, .int x3_j33)] → W p l e rm_X3_showInitials s m args below meth c H locs 0 0 Q (F0 m 33 ls []) := by
    intro x3_j33 L_sh_j33 L_wi_j33 L_nk_j33 hm H locs ls hP hD hS hl
    refine lv_iinc (v := (x3_j33 + 1)) (lv' := [(3, .int (x3_j33 + 1)), (0, .ref aL), (1, .int x1), (2, .int x2)]) hx hb dX3_showInitials_33 hl (k := 3) rfl rfl (by decide) rfl (fun ls hl => ?_)
    refine lv_goto (tgt := 2) hx hb dX3_showInitials_36 (by decide) ?_
    exact hG _ (Option.some.inj hm).symm H locs ls hP hD hS (lv_sub hl [1, 2, 3, 0] rfl)
  refine lv_iload_n hx hb dX3_showInitials_2 rfl (lv_at hl 3 rfl) ?_
  refine lv_aload_n hx hb dX3_showInitials_3 rfl (lv_at hl 0 rfl) ?_
  refine va_get (D := D) (ci := 3) (v := .ref aW) (C := RX3) (T := TX3) (N := 8) hx hb hts k2 hown hKv hP 4 rfl rfl 3 (by decide) k1 (fun _ h9 => h9) rfl dX3_showInitials_4 ?_
  refine va_get (D := D) (ci := 9) (v := .int W_n) (C := RX9) (T := TX9) (N := 6) hx hb hts k4 hown hKv hP 0 rfl rfl 0 (by decide) k3 (fun _ h9 => h9) rfl dX3_showInitials_7 ?_
  refine lv_icmp_ge (tgt := 39) hx hb dX3_showInitials_10 (by decide) (fun c2 => ?_) (fun c2 => ?_)
  · replace hm := if_t c2 hm
    have h9 := hE _ (Option.some.inj hm).symm
    subst h9
    exact X1_0 H locs ls hP hD hS (lv_sub hl [0] rfl)
  · replace hm := if_f c2 hm
    refine lv_iload_n hx hb dX3_showInitials_13 rfl (lv_at hl 1 rfl) ?_
    refine lv_iload_n hx hb dX3_showInitials_14 rfl (lv_at hl 3 rfl) ?_
    replace hm := bd_some hm
    obtain ⟨e3, hc3, hm⟩ := hm
    refine kN_i (rest := []) S (c_X11_inSet l D cI cJ cZ cS x1 st2.1 e3 hc3) k5 hK hP hD hS hA rfl hl.1 rfl (Nat.le_of_ble_eq_true rfl) ⟨Nat.zero_le _, Nat.zero_le _⟩ dX3_showInitials_15 (fun H locs hP hD hS => ?_)
    refine lv_if_eq (tgt := 33) hx hb dX3_showInitials_18 (by decide) (fun c4 => ?_) (fun c4 => ?_)
    · replace hm := if_t c4 hm
      exact J33 st2.1 st2.2.1 st2.2.2.1 st2.2.2.2 hm H locs ls hP hD hS (lv_sub hl [0, 1, 2, 3] rfl)
    · replace hm := if_f c4 hm
      refine lv_aload_n hx hb dX3_showInitials_21 rfl (lv_at hl 0 rfl) ?_
      refine lv_iload_n hx hb dX3_showInitials_22 rfl (lv_at hl 3 rfl) ?_
      refine lv_aload_n hx hb dX3_showInitials_23 rfl (lv_at hl 0 rfl) ?_
      refine va_get (D := D) (ci := 3) (v := .ref aL_sh) (C := RX3) (T := TX3) (N := 8) hx hb hts k2 hown hKv hP 4 rfl rfl 0 (by decide) k6 (fun _ h9 => h9) rfl dX3_showInitials_24 ?_
      refine lv_iload_n hx hb dX3_showInitials_27 rfl (lv_at hl 3 rfl) ?_
      replace hm := ck_some hm
      obtain ⟨h5, hm⟩ := hm
      refine va_iald hx hb hKv hP 5 0 rfl rfl h5 dX3_showInitials_28 ?_
      refine lv_iload_n hx hb dX3_showInitials_29 rfl (lv_at hl 2 rfl) ?_
      replace hm := bd_some hm
      obtain ⟨e6, hc6, hm⟩ := hm
      refine kV_v (rest := []) (ws' := (w_X3_showInitials cI cJ cZ aW aW_ac aW_fa aW_in aW_yr aW_ti aL aL_sh aL_wi aL_su aS aA aL_nk aL_gr W_n W_ac W_fa W_in e6.1 e6.2.1 e6.2.2)) S (c_X3_show l D cI cJ cZ cS aW aW_ac aW_fa aW_in aW_yr aW_ti aL aL_sh aL_wi aL_su aS aA aL_nk aL_gr W_n W_ac W_fa W_in st2.2.1 st2.2.2.1 st2.2.2.2 st2.1 (st2.2.1 (Int32.toNatClampNeg st2.1)) x2 e6 hc6) k7 hK hP hD hS hA 4 rfl rfl rfl rfl hl.1 rfl (Nat.le_of_ble_eq_true rfl) ⟨Nat.zero_le _, Nat.zero_le _⟩ dX3_showInitials_30 [0, 1, 2, 3, 4, 5, 6, 7] rfl rfl wa_X3_show (sa_eq [] [] 8 rfl rfl rfl rfl rfl rfl rfl) (fun H locs hP hD hS => ?_)
      exact J33 st2.1 e6.1 e6.2.1 e6.2.2 hm H locs ls hP hD hS (lv_sub hl [0, 1, 2, 3] rfl)
set_option maxHeartbeats 4000000 in
set_option maxRecDepth 100000 in
theorem c_X3_sameNames (l : Launch) (D : va_G) (cI cJ cZ cS : ClassId) (aL aL_sh aL_wi aL_su aW aS aA aL_nk aL_gr : Nat) (L_nk : Nat → Int64) (x1 : Int32) (x2 : Int32) (o : Int32) (hm : m_X3_sameNames L_nk x1 x2 = some o) : MI l yX3_sameNames wsX3_sameNames rm_X3_sameNames D (TY cI cJ cZ cS) [.ref aL, .int x1, .int x2] (w_X3_sameNames cJ aL aL_sh aL_wi aL_su aW aS aA aL_nk aL_gr L_nk) (w_X3_sameNames cJ aL aL_sh aL_wi aL_su aW aS aA aL_nk aL_gr L_nk) (o) := by
  refine MZ_of (cc := cX3_sameNames) (maxL := 3) (by decide) rfl (Nat.le_of_ble_eq_true rfl) ?_
  intro p e s m args below meth c A Q ls H locs hx hb hml hts hown hK hA hP hD hS hl hret
  have hown : s.vm.findClass RX3 = some m.cls := hown
  have hKv : va_K D vwCl (TY cI cJ cZ cS) s := hK.1
  have hl : lv_has ls 3 [(0, .ref aL), (1, .int x1), (2, .int x2)] := hl
  have S : CallFix p m c cX3_sameNames 3 s args wsX3_sameNames RX3 := ⟨hx, hb, hml, hown, hts⟩
  have k1 := hts (.fieldLink RX3 22 "CitationFormatter$Labels" "namesKeys" "[J") (by decide +kernel)
  have k2 : ∀ w ∈ wsX30, w ∈ wsX3_sameNames := by decide +kernel
  have J21 : ∀ (y0_j21 : Int32), (m_X3_sameNames_J21 y0_j21 = some o) → ∀ (H : Heap) (locs : List Loc) (ls : Array Slot), va_P D vwCl (w_X3_sameNames cJ aL aL_sh aL_wi aL_su aW aS aA aL_nk aL_gr L_nk) H → va_D A (w_X3_sameNames cJ aL aL_sh aL_wi aL_su aW aS aA aL_nk aL_gr L_nk) → va_S A s.heap H locs → lv_has ls 3 [(0, .ref aL)] → W p l e rm_X3_sameNames s m args below meth c H locs 0 0 Q (F0 m 21 ls [.int y0_j21]) := by
    intro y0_j21 hm H locs ls hP hD hS hl
    replace hm := ckb_some hm
    obtain ⟨h1, hm⟩ := hm
    have h9 := Option.some.inj hm
    subst h9
    exact hret H locs _ ls _ h1 hP hD hS rfl dX3_sameNames_21
  refine lv_aload_n hx hb dX3_sameNames_0 rfl (lv_at hl 0 rfl) ?_
  refine va_get (D := D) (ci := 3) (v := .ref aL_nk) (C := RX3) (T := TX3) (N := 8) hx hb hts k2 hown hKv hP 0 rfl rfl 6 (by decide) k1 (fun _ h9 => h9) rfl dX3_sameNames_1 ?_
  refine lv_iload_n hx hb dX3_sameNames_4 rfl (lv_at hl 1 rfl) ?_
  replace hm := ck_some hm
  obtain ⟨h2, hm⟩ := hm
  refine va_lald hx hb hKv hP 1 1 rfl rfl h2 dX3_sameNames_5 ?_
  refine lv_aload_n hx hb dX3_sameNames_6 rfl (lv_at hl 0 rfl) ?_
  refine va_get (D := D) (ci := 3) (v := .ref aL_nk) (C := RX3) (T := TX3) (N := 8) hx hb hts k2 hown hKv hP 0 rfl rfl 6 (by decide) k1 (fun _ h9 => h9) rfl dX3_sameNames_7 ?_
  refine lv_iload_n hx hb dX3_sameNames_10 rfl (lv_at hl 2 rfl) ?_
  replace hm := ck_some hm
  obtain ⟨h3, hm⟩ := hm
  refine va_lald hx hb hKv hP 1 1 rfl rfl h3 dX3_sameNames_11 ?_
  refine W.lcmp hx hb dX3_sameNames_12 ?_
  refine lv_if_ne (tgt := 20) hx hb dX3_sameNames_13 (by decide) (fun c4 => ?_) (fun c4 => ?_)
  · replace hm := if_f c4 hm
    refine lv_iconst (v := 0) hx hb dX3_sameNames_20 (by decide) ?_
    exact J21 0 hm H locs ls hP hD hS (lv_sub hl [0] rfl)
  · replace hm := if_t c4 hm
    refine lv_iconst (v := 1) hx hb dX3_sameNames_16 (by decide) ?_
    refine lv_goto (tgt := 21) hx hb dX3_sameNames_17 (by decide) ?_
    exact J21 1 hm H locs ls hP hD hS (lv_sub hl [0] rfl)
set_option maxHeartbeats 4000000 in
set_option maxRecDepth 100000 in
theorem c_X3_worksLabelledLike (l : Launch) (D : va_G) (cI cJ cZ cS : ClassId) (aW aW_ac aW_fa aW_in aW_yr aW_ti aL aL_sh aL_wi aL_su aS aA aL_nk aL_gr : Nat) (W_n : Int32) (W_yr : Nat → Int32) (L_su : Nat → Int32) (L_nk : Nat → Int64) (x1 : Int32) (o : Int32) (hm : m_X3_worksLabelledLike W_n W_yr L_su L_nk x1 = some o) : MI l yX3_worksLabelledLike wsX3_worksLabelledLike rm_X3_worksLabelledLike D (TY cI cJ cZ cS) [.ref aL, .int x1] (w_X3_worksLabelledLike cI cJ aW aW_ac aW_fa aW_in aW_yr aW_ti aL aL_sh aL_wi aL_su aS aA aL_nk aL_gr W_n W_yr L_su L_nk) (w_X3_worksLabelledLike cI cJ aW aW_ac aW_fa aW_in aW_yr aW_ti aL aL_sh aL_wi aL_su aS aA aL_nk aL_gr W_n W_yr L_su L_nk) (o) := by
  refine MI_of (cc := cX3_worksLabelledLike) (maxL := 4) (by decide) rfl (Nat.le_of_ble_eq_true rfl) ?_
  intro p e s m args below meth c A Q ls H locs hx hb hml hts hown hK hA hP hD hS hl hret
  have hown : s.vm.findClass RX3 = some m.cls := hown
  have hKv : va_K D vwCl (TY cI cJ cZ cS) s := hK.1
  have hl : lv_has ls 4 [(0, .ref aL), (1, .int x1)] := hl
  have S : CallFix p m c cX3_worksLabelledLike 4 s args wsX3_worksLabelledLike RX3 := ⟨hx, hb, hml, hown, hts⟩
  have k1 := hts (.fieldLink RX3 35 "CitationFormatter$Labels" "works" "LCitationFormatter$Works;") (by decide +kernel)
  have k2 : ∀ w ∈ wsX30, w ∈ wsX3_worksLabelledLike := by decide +kernel
  have k3 := hts (.fieldLink RX3 50 "CitationFormatter$Works" "count" "I") (by decide +kernel)
  have k4 : ∀ w ∈ wsX90, w ∈ wsX3_worksLabelledLike := by decide +kernel
  have k5 : CallW rm_X3_worksLabelledLike s args RX3 RX3 76 yX3_sameNames cX3_sameNames 3 (some .boolean) wsX3_sameNames rm_X3_sameNames 0 0 2 := cwV 2 hts gX3_worksLabelledLike_X3_sameNames rfl rfl rfl (by decide +kernel) ⟨Nat.le_of_ble_eq_true rfl, Nat.le_of_ble_eq_true rfl⟩
  have k6 := hts (.fieldLink RX3 80 "CitationFormatter$Works" "years" "[I") (by decide +kernel)
  have k7 := hts (.fieldLink RX3 19 "CitationFormatter$Labels" "suffixes" "[I") (by decide +kernel)
  refine lv_iconst (v := 0) hx hb dX3_worksLabelledLike_0 (by decide) ?_
  refine lv_istore_n (lv' := [(2, .int 0), (0, .ref aL), (1, .int x1)]) hx hb dX3_worksLabelledLike_1 rfl hl (by decide) rfl (fun ls hl => ?_)
  refine lv_iconst (v := 0) hx hb dX3_worksLabelledLike_2 (by decide) ?_
  refine lv_istore_n (lv' := [(3, .int 0), (2, .int 0), (0, .ref aL), (1, .int x1)]) hx hb dX3_worksLabelledLike_3 rfl hl (by decide) rfl (fun ls hl => ?_)
  replace hm := bd_some hm
  obtain ⟨e1, hc1, hm⟩ := hm
  have X1_0 : ∀ (H : Heap) (locs : List Loc) (ls : Array Slot), va_P D vwCl (w_X3_worksLabelledLike cI cJ aW aW_ac aW_fa aW_in aW_yr aW_ti aL aL_sh aL_wi aL_su aS aA aL_nk aL_gr W_n W_yr L_su L_nk) H → va_D A (w_X3_worksLabelledLike cI cJ aW aW_ac aW_fa aW_in aW_yr aW_ti aL aL_sh aL_wi aL_su aS aA aL_nk aL_gr W_n W_yr L_su L_nk) → va_S A s.heap H locs → lv_has ls 4 [(0, .ref aL), (2, .int e1)] → W p l e rm_X3_worksLabelledLike s m args below meth c H locs 0 0 Q (F0 m 72 ls []) := by
    intro H locs ls hP hD hS hl
    refine lv_iload_n hx hb dX3_worksLabelledLike_72 rfl (lv_at hl 1 rfl) ?_
    have h9 := Option.some.inj hm
    subst h9
    exact hret H locs _ ls _ hP hD hS rfl dX3_worksLabelledLike_73
  refine it_W (G := fun (st4 : Int32 × Int32) => ∀ (H : Heap) (locs : List Loc) (ls : Array Slot), va_P D vwCl (w_X3_worksLabelledLike cI cJ aW aW_ac aW_fa aW_in aW_yr aW_ti aL aL_sh aL_wi aL_su aS aA aL_nk aL_gr W_n W_yr L_su L_nk) H → va_D A (w_X3_worksLabelledLike cI cJ aW aW_ac aW_fa aW_in aW_yr aW_ti aL aL_sh aL_wi aL_su aS aA aL_nk aL_gr W_n W_yr L_su L_nk) → va_S A s.heap H locs → lv_has ls 4 [(0, .ref aL), (1, .int x1), (2, .int st4.1), (3, .int st4.2)] → W p l e rm_X3_worksLabelledLike s m args below meth c H locs 0 0 Q (F0 m 4 ls [])) (e := e1) (fun st4 x hm hG hE => ?_) fu _ hc1 H locs ls hP hD hS (lv_sub hl [2, 3, 1, 0] rfl)
  intro H locs ls hP hD hS hl
  have J66 : ∀ (x2_j66 : Int32) (x3_j66 : Int32), (m_X3_worksLabelledLike_J66 x1 x2_j66 x3_j66 = some x) → ∀ (H : Heap) (locs : List Loc) (ls : Array Slot), va_P D vwCl (w_X3_worksLabelledLike cI cJ aW aW_ac aW_fa aW_in aW_yr aW_ti aL aL_sh aL_wi aL_su aS aA aL_nk aL_gr W_n W_yr L_su L_nk) H → va_D A (w_X3_worksLabelledLike cI cJ aW aW_ac aW_fa aW_in aW_yr aW_ti aL aL_sh aL_wi aL_su aS aA aL_nk aL_gr W_n W_yr L_su L_nk) → va_S A s.heap H locs → lv_has ls 4 [(0, .ref aL), (1, .int x1), (2, .int x2_j66), (3, .int x3_j66)] → W p l e rm_X3_worksLabelledLike s m args below meth c H locs 0 0 Q (F0 m 66 ls []) := by
    intro x2_j66 x3_j66 hm H locs ls hP hD hS hl
    refine lv_iinc (v := (x3_j66 + 1)) (lv' := [(3, .int (x3_j66 + 1)), (0, .ref aL), (1, .int x1), (2, .int x2_j66)]) hx hb dX3_worksLabelledLike_66 hl (k := 3) rfl rfl (by decide) rfl (fun ls hl => ?_)
    refine lv_goto (tgt := 4) hx hb dX3_worksLabelledLike_69 (by decide) ?_
    exact hG _ (Option.some.inj hm).symm H locs ls hP hD hS (lv_sub hl [1, 2, 3, 0] rfl)
  refine lv_iload_n hx hb dX3_worksLabelledLike_4 rfl (lv_at hl 3 rfl) ?_
  refine lv_aload_n hx hb dX3_worksLabelledLike_5 rfl (lv_at hl 0 rfl) ?_
  refine va_get (D := D) (ci := 3) (v := .ref aW) (C := RX3) (T := TX3) (N := 8) hx hb hts k2 hown hKv hP 2 rfl rfl 3 (by decide) k1 (fun _ h9 => h9) rfl dX3_worksLabelledLike_6 ?_
  refine va_get (D := D) (ci := 9) (v := .int W_n) (C := RX9) (T := TX9) (N := 6) hx hb hts k4 hown hKv hP 0 rfl rfl 0 (by decide) k3 (fun _ h9 => h9) rfl dX3_worksLabelledLike_9 ?_
  refine lv_icmp_ge (tgt := 72) hx hb dX3_worksLabelledLike_12 (by decide) (fun c2 => ?_) (fun c2 => ?_)
  · replace hm := if_t c2 hm
    have h9 := hE _ (Option.some.inj hm).symm
    subst h9
    exact X1_0 H locs ls hP hD hS (lv_sub hl [0, 2] rfl)
  · replace hm := if_f c2 hm
    refine lv_aload_n hx hb dX3_worksLabelledLike_15 rfl (lv_at hl 0 rfl) ?_
    refine lv_iload_n hx hb dX3_worksLabelledLike_16 rfl (lv_at hl 1 rfl) ?_
    refine lv_iload_n hx hb dX3_worksLabelledLike_17 rfl (lv_at hl 3 rfl) ?_
    replace hm := bd_some hm
    obtain ⟨e3, hc3, hm⟩ := hm
    refine kV_i (rest := []) (ws' := (w_X3_worksLabelledLike cI cJ aW aW_ac aW_fa aW_in aW_yr aW_ti aL aL_sh aL_wi aL_su aS aA aL_nk aL_gr W_n W_yr L_su L_nk)) S (c_X3_sameNames l D cI cJ cZ cS aL aL_sh aL_wi aL_su aW aS aA aL_nk aL_gr L_nk x1 st4.2 e3 hc3) k5 hK hP hD hS hA 2 rfl rfl rfl rfl hl.1 rfl (Nat.le_of_ble_eq_true rfl) ⟨Nat.zero_le _, Nat.zero_le _⟩ dX3_worksLabelledLike_18 [2, 4] rfl rfl wa_X3_sameNames (sa_eq [(aW, .inr (9, [.int W_n, .ref aW_ac, .ref aW_fa, .ref aW_in, .ref aW_yr, .ref aW_ti])), (aW_yr, .inl (cI, 8, .inl W_yr)), (aL_su, .inl (cI, 8, .inl L_su))] [0, 1, 3] 5 rfl rfl rfl rfl rfl rfl rfl) (fun H locs hP hD hS => ?_)
    refine lv_if_eq (tgt := 66) hx hb dX3_worksLabelledLike_21 (by decide) (fun c4 => ?_) (fun c4 => ?_)
    · replace hm := if_t c4 hm
      exact J66 st4.1 st4.2 hm H locs ls hP hD hS (lv_sub hl [0, 1, 2, 3] rfl)
    · replace hm := if_f c4 hm
      refine lv_aload_n hx hb dX3_worksLabelledLike_24 rfl (lv_at hl 0 rfl) ?_
      refine va_get (D := D) (ci := 3) (v := .ref aW) (C := RX3) (T := TX3) (N := 8) hx hb hts k2 hown hKv hP 2 rfl rfl 3 (by decide) k1 (fun _ h9 => h9) rfl dX3_worksLabelledLike_25 ?_
      refine va_get (D := D) (ci := 9) (v := .ref aW_yr) (C := RX9) (T := TX9) (N := 6) hx hb hts k4 hown hKv hP 0 rfl rfl 4 (by decide) k6 (fun _ h9 => h9) rfl dX3_worksLabelledLike_28 ?_
      refine lv_iload_n hx hb dX3_worksLabelledLike_31 rfl (lv_at hl 1 rfl) ?_
      replace hm := ck_some hm
      obtain ⟨h5, hm⟩ := hm
      refine va_iald hx hb hKv hP 1 0 rfl rfl h5 dX3_worksLabelledLike_32 ?_
      refine lv_aload_n hx hb dX3_worksLabelledLike_33 rfl (lv_at hl 0 rfl) ?_
      refine va_get (D := D) (ci := 3) (v := .ref aW) (C := RX3) (T := TX3) (N := 8) hx hb hts k2 hown hKv hP 2 rfl rfl 3 (by decide) k1 (fun _ h9 => h9) rfl dX3_worksLabelledLike_34 ?_
      refine va_get (D := D) (ci := 9) (v := .ref aW_yr) (C := RX9) (T := TX9) (N := 6) hx hb hts k4 hown hKv hP 0 rfl rfl 4 (by decide) k6 (fun _ h9 => h9) rfl dX3_worksLabelledLike_37 ?_
      refine lv_iload_n hx hb dX3_worksLabelledLike_40 rfl (lv_at hl 3 rfl) ?_
      replace hm := ck_some hm
      obtain ⟨h6, hm⟩ := hm
      refine va_iald hx hb hKv hP 1 0 rfl rfl h6 dX3_worksLabelledLike_41 ?_
      refine lv_icmp_ne (tgt := 66) hx hb dX3_worksLabelledLike_42 (by decide) (fun c7 => ?_) (fun c7 => ?_)
      · replace hm := if_f c7 hm
        exact J66 st4.1 st4.2 hm H locs ls hP hD hS (lv_sub hl [0, 1, 2, 3] rfl)
      · replace hm := if_t c7 hm
        refine lv_aload_n hx hb dX3_worksLabelledLike_45 rfl (lv_at hl 0 rfl) ?_
        refine va_get (D := D) (ci := 3) (v := .ref aL_su) (C := RX3) (T := TX3) (N := 8) hx hb hts k2 hown hKv hP 2 rfl rfl 2 (by decide) k7 (fun _ h9 => h9) rfl dX3_worksLabelledLike_46 ?_
        refine lv_iload_n hx hb dX3_worksLabelledLike_49 rfl (lv_at hl 1 rfl) ?_
        replace hm := ck_some hm
        obtain ⟨h8, hm⟩ := hm
        refine va_iald hx hb hKv hP 3 0 rfl rfl h8 dX3_worksLabelledLike_50 ?_
        refine lv_aload_n hx hb dX3_worksLabelledLike_51 rfl (lv_at hl 0 rfl) ?_
        refine va_get (D := D) (ci := 3) (v := .ref aL_su) (C := RX3) (T := TX3) (N := 8) hx hb hts k2 hown hKv hP 2 rfl rfl 2 (by decide) k7 (fun _ h9 => h9) rfl dX3_worksLabelledLike_52 ?_
        refine lv_iload_n hx hb dX3_worksLabelledLike_55 rfl (lv_at hl 3 rfl) ?_
        replace hm := ck_some hm
        obtain ⟨h9, hm⟩ := hm
        refine va_iald hx hb hKv hP 3 0 rfl rfl h9 dX3_worksLabelledLike_56 ?_
        refine lv_icmp_ne (tgt := 66) hx hb dX3_worksLabelledLike_57 (by decide) (fun c10 => ?_) (fun c10 => ?_)
        · replace hm := if_f c10 hm
          exact J66 st4.1 st4.2 hm H locs ls hP hD hS (lv_sub hl [0, 1, 2, 3] rfl)
        · replace hm := if_t c10 hm
          refine lv_iload_n hx hb dX3_worksLabelledLike_60 rfl (lv_at hl 2 rfl) ?_
          refine lv_iconst (v := 1) hx hb dX3_worksLabelledLike_61 (by decide) ?_
          refine lv_iload_n hx hb dX3_worksLabelledLike_62 rfl (lv_at hl 3 rfl) ?_
          refine lv_ishl hx hb dX3_worksLabelledLike_63 ?_
          refine lv_ior hx hb dX3_worksLabelledLike_64 ?_
          refine lv_istore_n (lv' := [(2, .int (st4.1 ||| (1 <<< (st4.2 &&& 31)))), (0, .ref aL), (1, .int x1), (3, .int st4.2)]) hx hb dX3_worksLabelledLike_65 rfl hl (by decide) rfl (fun ls hl => ?_)
          exact J66 (st4.1 ||| (1 <<< (st4.2 &&& 31))) st4.2 hm H locs ls hP hD hS (lv_sub hl [1, 2, 0, 3] rfl)
set_option maxHeartbeats 4000000 in
set_option maxRecDepth 100000 in
theorem c_X3_differentLabels (l : Launch) (D : va_G) (cI cJ cZ cS : ClassId) (aW aW_ac aW_fa aW_in aW_yr aW_ti aL aL_sh aL_wi aL_su aS aA aL_nk aL_gr : Nat) (W_n : Int32) (W_yr : Nat → Int32) (L_su : Nat → Int32) (L_nk : Nat → Int64) (x1 : Int32) (o : Int32) (hm : m_X3_differentLabels W_n W_yr L_su L_nk x1 = some o) : MI l yX3_differentLabels wsX3_differentLabels rm_X3_differentLabels D (TY cI cJ cZ cS) [.ref aL, .int x1] (w_X3_differentLabels cI cJ aW aW_ac aW_fa aW_in aW_yr aW_ti aL aL_sh aL_wi aL_su aS aA aL_nk aL_gr W_n W_yr L_su L_nk) (w_X3_differentLabels cI cJ aW aW_ac aW_fa aW_in aW_yr aW_ti aL aL_sh aL_wi aL_su aS aA aL_nk aL_gr W_n W_yr L_su L_nk) (o) := by
  refine MI_of (cc := cX3_differentLabels) (maxL := 4) (by decide) rfl (Nat.le_of_ble_eq_true rfl) ?_
  intro p e s m args below meth c A Q ls H locs hx hb hml hts hown hK hA hP hD hS hl hret
  have hown : s.vm.findClass RX3 = some m.cls := hown
  have hKv : va_K D vwCl (TY cI cJ cZ cS) s := hK.1
  have hl : lv_has ls 4 [(0, .ref aL), (1, .int x1)] := hl
  have S : CallFix p m c cX3_differentLabels 4 s args wsX3_differentLabels RX3 := ⟨hx, hb, hml, hown, hts⟩
  have k1 := hts (.fieldLink RX3 35 "CitationFormatter$Labels" "works" "LCitationFormatter$Works;") (by decide +kernel)
  have k2 : ∀ w ∈ wsX30, w ∈ wsX3_differentLabels := by decide +kernel
  have k3 := hts (.fieldLink RX3 50 "CitationFormatter$Works" "count" "I") (by decide +kernel)
  have k4 : ∀ w ∈ wsX90, w ∈ wsX3_differentLabels := by decide +kernel
  have k5 : va_CN rm_X3_differentLabels s args RX3 130 yX11_inSet "CitationFormatter" cX11_inSet 2 (some .boolean) wsX11_inSet rm_X11_inSet 0 0 2 ∧ (Cond.static yX11_inSet).before args s = true ∧ True := ⟨va_cnB 2 hts gX3_differentLabels_X11_inSet_n130 rfl rfl rfl (hK.2 (RX3, 130, yX11_inSet) (by decide +kernel)) (hts (.initialized RX11) (by decide +kernel)) (by decide +kernel) ⟨Nat.le_of_ble_eq_true rfl, Nat.le_of_ble_eq_true rfl⟩, hts (.static yX11_inSet) (by decide +kernel), trivial⟩
  have k6 : CallW rm_X3_differentLabels s args RX3 RX3 105 yX3_worksLabelledLike cX3_worksLabelledLike 4 (some .int) wsX3_worksLabelledLike rm_X3_worksLabelledLike 0 0 1 := cwV 1 hts gX3_differentLabels_X3_worksLabelledLike rfl rfl rfl (by decide +kernel) ⟨Nat.le_of_ble_eq_true rfl, Nat.le_of_ble_eq_true rfl⟩
  have k7 : va_CN rm_X3_differentLabels s args RX3 120 yX11_hasBelow "CitationFormatter" cX11_hasBelow 2 (some .boolean) wsX11_hasBelow rm_X11_hasBelow 0 0 2 ∧ (Cond.static yX11_hasBelow).before args s = true ∧ True := ⟨va_cnB 2 hts gX3_differentLabels_X11_hasBelow_n120 rfl rfl rfl (hK.2 (RX3, 120, yX11_hasBelow) (by decide +kernel)) (hts (.initialized RX11) (by decide +kernel)) (by decide +kernel) ⟨Nat.le_of_ble_eq_true rfl, Nat.le_of_ble_eq_true rfl⟩, hts (.static yX11_hasBelow) (by decide +kernel), trivial⟩
  refine lv_iconst (v := 0) hx hb dX3_differentLabels_0 (by decide) ?_
  refine lv_istore_n (lv' := [(2, .int 0), (0, .ref aL), (1, .int x1)]) hx hb dX3_differentLabels_1 rfl hl (by decide) rfl (fun ls hl => ?_)
  refine lv_iconst (v := 0) hx hb dX3_differentLabels_2 (by decide) ?_
  refine lv_istore_n (lv' := [(3, .int 0), (2, .int 0), (0, .ref aL), (1, .int x1)]) hx hb dX3_differentLabels_3 rfl hl (by decide) rfl (fun ls hl => ?_)
  replace hm := bd_some hm
  obtain ⟨e1, hc1, hm⟩ := hm
  have X1_0 : ∀ (H : Heap) (locs : List Loc) (ls : Array Slot), va_P D vwCl (w_X3_differentLabels cI cJ aW aW_ac aW_fa aW_in aW_yr aW_ti aL aL_sh aL_wi aL_su aS aA aL_nk aL_gr W_n W_yr L_su L_nk) H → va_D A (w_X3_differentLabels cI cJ aW aW_ac aW_fa aW_in aW_yr aW_ti aL aL_sh aL_wi aL_su aS aA aL_nk aL_gr W_n W_yr L_su L_nk) → va_S A s.heap H locs → lv_has ls 4 [(0, .ref aL), (2, .int e1)] → W p l e rm_X3_differentLabels s m args below meth c H locs 0 0 Q (F0 m 46 ls []) := by
    intro H locs ls hP hD hS hl
    refine lv_iload_n hx hb dX3_differentLabels_46 rfl (lv_at hl 1 rfl) ?_
    have h9 := Option.some.inj hm
    subst h9
    exact hret H locs _ ls _ hP hD hS rfl dX3_differentLabels_47
  refine it_W (G := fun (st4 : Int32 × Int32) => ∀ (H : Heap) (locs : List Loc) (ls : Array Slot), va_P D vwCl (w_X3_differentLabels cI cJ aW aW_ac aW_fa aW_in aW_yr aW_ti aL aL_sh aL_wi aL_su aS aA aL_nk aL_gr W_n W_yr L_su L_nk) H → va_D A (w_X3_differentLabels cI cJ aW aW_ac aW_fa aW_in aW_yr aW_ti aL aL_sh aL_wi aL_su aS aA aL_nk aL_gr W_n W_yr L_su L_nk) → va_S A s.heap H locs → lv_has ls 4 [(0, .ref aL), (1, .int x1), (2, .int st4.1), (3, .int st4.2)] → W p l e rm_X3_differentLabels s m args below meth c H locs 0 0 Q (F0 m 4 ls [])) (e := e1) (fun st4 x hm hG hE => ?_) fu _ hc1 H locs ls hP hD hS (lv_sub hl [2, 3, 1, 0] rfl)
  intro H locs ls hP hD hS hl
  have J40 : ∀ (x2_j40 : Int32) (x3_j40 : Int32), (m_X3_differentLabels_J40 x1 x2_j40 x3_j40 = some x) → ∀ (H : Heap) (locs : List Loc) (ls : Array Slot), va_P D vwCl (w_X3_differentLabels cI cJ aW aW_ac aW_fa aW_in aW_yr aW_ti aL aL_sh aL_wi aL_su aS aA aL_nk aL_gr W_n W_yr L_su L_nk) H → va_D A (w_X3_differentLabels cI cJ aW aW_ac aW_fa aW_in aW_yr aW_ti aL aL_sh aL_wi aL_su aS aA aL_nk aL_gr W_n W_yr L_su L_nk) → va_S A s.heap H locs → lv_has ls 4 [(0, .ref aL), (1, .int x1), (2, .int x2_j40), (3, .int x3_j40)] → W p l e rm_X3_differentLabels s m args below meth c H locs 0 0 Q (F0 m 40 ls []) := by
    intro x2_j40 x3_j40 hm H locs ls hP hD hS hl
    refine lv_iinc (v := (x3_j40 + 1)) (lv' := [(3, .int (x3_j40 + 1)), (0, .ref aL), (1, .int x1), (2, .int x2_j40)]) hx hb dX3_differentLabels_40 hl (k := 3) rfl rfl (by decide) rfl (fun ls hl => ?_)
    refine lv_goto (tgt := 4) hx hb dX3_differentLabels_43 (by decide) ?_
    exact hG _ (Option.some.inj hm).symm H locs ls hP hD hS (lv_sub hl [1, 2, 3, 0] rfl)
  refine lv_iload_n hx hb dX3_differentLabels_4 rfl (lv_at hl 3 rfl) ?_
  refine lv_aload_n hx hb dX3_differentLabels_5 rfl (lv_at hl 0 rfl) ?_
  refine va_get (D := D) (ci := 3) (v := .ref aW) (C := RX3) (T := TX3) (N := 8) hx hb hts k2 hown hKv hP 2 rfl rfl 3 (by decide) k1 (fun _ h9 => h9) rfl dX3_differentLabels_6 ?_
  refine va_get (D := D) (ci := 9) (v := .int W_n) (C := RX9) (T := TX9) (N := 6) hx hb hts k4 hown hKv hP 0 rfl rfl 0 (by decide) k3 (fun _ h9 => h9) rfl dX3_differentLabels_9 ?_
  refine lv_icmp_ge (tgt := 46) hx hb dX3_differentLabels_12 (by decide) (fun c2 => ?_) (fun c2 => ?_)
  · replace hm := if_t c2 hm
    have h9 := hE _ (Option.some.inj hm).symm
    subst h9
    exact X1_0 H locs ls hP hD hS (lv_sub hl [0, 2] rfl)
  · replace hm := if_f c2 hm
    refine lv_iload_n hx hb dX3_differentLabels_15 rfl (lv_at hl 1 rfl) ?_
    refine lv_iload_n hx hb dX3_differentLabels_16 rfl (lv_at hl 3 rfl) ?_
    replace hm := bd_some hm
    obtain ⟨e3, hc3, hm⟩ := hm
    refine kN_i (rest := []) S (c_X11_inSet l D cI cJ cZ cS x1 st4.2 e3 hc3) k5 hK hP hD hS hA rfl hl.1 rfl (Nat.le_of_ble_eq_true rfl) ⟨Nat.zero_le _, Nat.zero_le _⟩ dX3_differentLabels_17 (fun H locs hP hD hS => ?_)
    refine lv_if_eq (tgt := 40) hx hb dX3_differentLabels_20 (by decide) (fun c4 => ?_) (fun c4 => ?_)
    · replace hm := if_t c4 hm
      exact J40 st4.1 st4.2 hm H locs ls hP hD hS (lv_sub hl [0, 1, 2, 3] rfl)
    · replace hm := if_f c4 hm
      refine lv_iload_n hx hb dX3_differentLabels_23 rfl (lv_at hl 1 rfl) ?_
      refine lv_aload_n hx hb dX3_differentLabels_24 rfl (lv_at hl 0 rfl) ?_
      refine lv_iload_n hx hb dX3_differentLabels_25 rfl (lv_at hl 3 rfl) ?_
      replace hm := bd_some hm
      obtain ⟨e5, hc5, hm⟩ := hm
      refine kV_i (rest := [.int x1]) (ws' := (w_X3_differentLabels cI cJ aW aW_ac aW_fa aW_in aW_yr aW_ti aL aL_sh aL_wi aL_su aS aA aL_nk aL_gr W_n W_yr L_su L_nk)) S (c_X3_worksLabelledLike l D cI cJ cZ cS aW aW_ac aW_fa aW_in aW_yr aW_ti aL aL_sh aL_wi aL_su aS aA aL_nk aL_gr W_n W_yr L_su L_nk st4.2 e5 hc5) k6 hK hP hD hS hA 2 rfl rfl rfl rfl hl.1 rfl (Nat.le_of_ble_eq_true rfl) ⟨Nat.zero_le _, Nat.zero_le _⟩ dX3_differentLabels_26 [0, 1, 2, 3, 4] rfl rfl wa_X3_worksLabelledLike (sa_eq [] [] 5 rfl rfl rfl rfl rfl rfl rfl) (fun H locs hP hD hS => ?_)
      refine lv_iand hx hb dX3_differentLabels_29 ?_
      refine lv_iload_n hx hb dX3_differentLabels_30 rfl (lv_at hl 3 rfl) ?_
      replace hm := bd_some hm
      obtain ⟨e6, hc6, hm⟩ := hm
      refine kN_i (rest := []) S (c_X11_hasBelow l D cI cJ cZ cS (x1 &&& e5) st4.2 e6 hc6) k7 hK hP hD hS hA rfl hl.1 rfl (Nat.le_of_ble_eq_true rfl) ⟨Nat.zero_le _, Nat.zero_le _⟩ dX3_differentLabels_31 (fun H locs hP hD hS => ?_)
      refine lv_if_ne (tgt := 40) hx hb dX3_differentLabels_34 (by decide) (fun c7 => ?_) (fun c7 => ?_)
      · replace hm := if_f c7 hm
        exact J40 st4.1 st4.2 hm H locs ls hP hD hS (lv_sub hl [0, 1, 2, 3] rfl)
      · replace hm := if_t c7 hm
        refine lv_iinc (v := (st4.1 + 1)) (lv' := [(2, .int (st4.1 + 1)), (0, .ref aL), (1, .int x1), (3, .int st4.2)]) hx hb dX3_differentLabels_37 hl (k := 2) rfl rfl (by decide) rfl (fun ls hl => ?_)
        exact J40 (st4.1 + 1) st4.2 hm H locs ls hP hD hS (lv_sub hl [1, 2, 0, 3] rfl)
set_option maxHeartbeats 4000000 in
set_option maxRecDepth 100000 in
theorem c_X3_addInitials (l : Launch) (D : va_G) (cI cJ cZ cS : ClassId) (aW aW_ac aW_fa aW_in aW_yr aW_ti aL aL_sh aL_wi aL_su aS aA aL_nk aL_gr : Nat) (W_n : Int32) (W_ac : Nat → Int32) (W_fa : Nat → Int32) (W_in : Nat → Int32) (W_yr : Nat → Int32) (L_sh : Nat → Int32) (L_wi : Nat → Int32) (L_su : Nat → Int32) (L_nk : Nat → Int64) (x1 : Int32) (o : (Nat → Int32) × (Nat → Int32) × (Nat → Int64)) (hm : m_X3_addInitials W_n W_ac W_fa W_in W_yr L_sh L_wi L_su L_nk x1 = some o) : MV l yX3_addInitials wsX3_addInitials rm_X3_addInitials D (TY cI cJ cZ cS) [.ref aL, .int x1] (w_X3_addInitials cI cJ cZ aW aW_ac aW_fa aW_in aW_yr aW_ti aL aL_sh aL_wi aL_su aS aA aL_nk aL_gr W_n W_ac W_fa W_in W_yr L_sh L_wi L_su L_nk) (w_X3_addInitials cI cJ cZ aW aW_ac aW_fa aW_in aW_yr aW_ti aL aL_sh aL_wi aL_su aS aA aL_nk aL_gr W_n W_ac W_fa W_in W_yr o.1 o.2.1 L_su o.2.2) := by
  refine MV_of (cc := cX3_addInitials) (maxL := 2) (by decide) rfl (Nat.le_of_ble_eq_true rfl) ?_
  intro p e s m args below meth c A Q ls H locs hx hb hml hts hown hK hA hP hD hS hl hret
  have hown : s.vm.findClass RX3 = some m.cls := hown
  have hKv : va_K D vwCl (TY cI cJ cZ cS) s := hK.1
  have hl : lv_has ls 2 [(0, .ref aL), (1, .int x1)] := hl
  have S : CallFix p m c cX3_addInitials 2 s args wsX3_addInitials RX3 := ⟨hx, hb, hml, hown, hts⟩
  have k1 : CallW rm_X3_addInitials s args RX3 RX3 136 yX3_showInitials cX3_showInitials 4 none wsX3_showInitials rm_X3_showInitials 0 0 2 := cwV 2 hts gX3_addInitials_X3_showInitials rfl rfl rfl (by decide +kernel) ⟨Nat.le_of_ble_eq_true rfl, Nat.le_of_ble_eq_true rfl⟩
  have k2 : CallW rm_X3_addInitials s args RX3 RX3 127 yX3_differentLabels cX3_differentLabels 4 (some .int) wsX3_differentLabels rm_X3_differentLabels 0 0 1 := cwV 1 hts gX3_addInitials_X3_differentLabels rfl rfl rfl (by decide +kernel) ⟨Nat.le_of_ble_eq_true rfl, Nat.le_of_ble_eq_true rfl⟩
  have J21 : ∀ (L_sh_j21 : Nat → Int32) (L_wi_j21 : Nat → Int32) (L_nk_j21 : Nat → Int64), (m_X3_addInitials_J21 L_sh_j21 L_wi_j21 L_nk_j21 = some o) → ∀ (H : Heap) (locs : List Loc) (ls : Array Slot), va_P D vwCl (w_X3_addInitials cI cJ cZ aW aW_ac aW_fa aW_in aW_yr aW_ti aL aL_sh aL_wi aL_su aS aA aL_nk aL_gr W_n W_ac W_fa W_in W_yr L_sh_j21 L_wi_j21 L_su L_nk_j21) H → va_D A (w_X3_addInitials cI cJ cZ aW aW_ac aW_fa aW_in aW_yr aW_ti aL aL_sh aL_wi aL_su aS aA aL_nk aL_gr W_n W_ac W_fa W_in W_yr L_sh_j21 L_wi_j21 L_su L_nk_j21) → va_S A s.heap H locs → lv_has ls 2 [(0, .ref aL)] → W p l e rm_X3_addInitials s m args below meth c H locs 0 0 Q (F0 m 21 ls []) := by
    intro L_sh_j21 L_wi_j21 L_nk_j21 hm H locs ls hP hD hS hl
    have h9 := Option.some.inj hm
    subst h9
    exact hret H locs _ ls hP hD hS dX3_addInitials_21
  refine lv_aload_n hx hb dX3_addInitials_0 rfl (lv_at hl 0 rfl) ?_
  refine lv_iload_n hx hb dX3_addInitials_1 rfl (lv_at hl 1 rfl) ?_
  refine lv_iconst (v := 1) hx hb dX3_addInitials_2 (by decide) ?_
  replace hm := bd_some hm
  obtain ⟨e1, hc1, hm⟩ := hm
  refine kV_v (rest := []) (ws' := (w_X3_addInitials cI cJ cZ aW aW_ac aW_fa aW_in aW_yr aW_ti aL aL_sh aL_wi aL_su aS aA aL_nk aL_gr W_n W_ac W_fa W_in W_yr e1.1 e1.2.1 L_su e1.2.2)) S (c_X3_showInitials l D cI cJ cZ cS aW aW_ac aW_fa aW_in aW_yr aW_ti aL aL_sh aL_wi aL_su aS aA aL_nk aL_gr W_n W_ac W_fa W_in L_sh L_wi L_nk x1 1 e1 hc1) k1 hK hP hD hS hA 5 rfl rfl rfl rfl hl.1 rfl (Nat.le_of_ble_eq_true rfl) ⟨Nat.zero_le _, Nat.zero_le _⟩ dX3_addInitials_3 [0, 1, 2, 3, 5, 6, 7, 9] rfl rfl wa_X3_showInitials (sa_eq [(aW_yr, .inl (cI, 8, .inl W_yr)), (aL_su, .inl (cI, 8, .inl L_su))] [4, 8] 10 rfl rfl rfl rfl rfl rfl rfl) (fun H locs hP hD hS => ?_)
  refine lv_aload_n hx hb dX3_addInitials_6 rfl (lv_at hl 0 rfl) ?_
  refine lv_iload_n hx hb dX3_addInitials_7 rfl (lv_at hl 1 rfl) ?_
  replace hm := bd_some hm
  obtain ⟨e2, hc2, hm⟩ := hm
  refine kV_i (rest := []) (ws' := (w_X3_addInitials cI cJ cZ aW aW_ac aW_fa aW_in aW_yr aW_ti aL aL_sh aL_wi aL_su aS aA aL_nk aL_gr W_n W_ac W_fa W_in W_yr e1.1 e1.2.1 L_su e1.2.2)) S (c_X3_differentLabels l D cI cJ cZ cS aW aW_ac aW_fa aW_in aW_yr aW_ti aL aL_sh aL_wi aL_su aS aA aL_nk aL_gr W_n W_yr L_su e1.2.2 x1 e2 hc2) k2 hK hP hD hS hA 5 rfl rfl rfl rfl hl.1 rfl (Nat.le_of_ble_eq_true rfl) ⟨Nat.zero_le _, Nat.zero_le _⟩ dX3_addInitials_8 [0, 4, 5, 8, 9] rfl rfl wa_X3_differentLabels (sa_eq [(aW_ac, .inl (cI, 8, .inl W_ac)), (aW_fa, .inl (cI, 32, .inl W_fa)), (aW_in, .inl (cI, 32, .inl W_in)), (aL_sh, .inl (cI, 8, .inl e1.1)), (aL_wi, .inl (cZ, 8, .inl e1.2.1))] [1, 2, 3, 6, 7] 10 rfl rfl rfl rfl rfl rfl rfl) (fun H locs hP hD hS => ?_)
  refine lv_iconst (v := 2) hx hb dX3_addInitials_11 (by decide) ?_
  refine lv_icmp_ge (tgt := 21) hx hb dX3_addInitials_12 (by decide) (fun c3 => ?_) (fun c3 => ?_)
  · replace hm := if_t c3 hm
    exact J21 e1.1 e1.2.1 e1.2.2 hm H locs ls hP hD hS (lv_sub hl [0] rfl)
  · replace hm := if_f c3 hm
    refine lv_aload_n hx hb dX3_addInitials_15 rfl (lv_at hl 0 rfl) ?_
    refine lv_iload_n hx hb dX3_addInitials_16 rfl (lv_at hl 1 rfl) ?_
    refine lv_iconst (v := 0) hx hb dX3_addInitials_17 (by decide) ?_
    replace hm := bd_some hm
    obtain ⟨e4, hc4, hm⟩ := hm
    refine kV_v (rest := []) (ws' := (w_X3_addInitials cI cJ cZ aW aW_ac aW_fa aW_in aW_yr aW_ti aL aL_sh aL_wi aL_su aS aA aL_nk aL_gr W_n W_ac W_fa W_in W_yr e4.1 e4.2.1 L_su e4.2.2)) S (c_X3_showInitials l D cI cJ cZ cS aW aW_ac aW_fa aW_in aW_yr aW_ti aL aL_sh aL_wi aL_su aS aA aL_nk aL_gr W_n W_ac W_fa W_in e1.1 e1.2.1 e1.2.2 x1 0 e4 hc4) k1 hK hP hD hS hA 5 rfl rfl rfl rfl hl.1 rfl (Nat.le_of_ble_eq_true rfl) ⟨Nat.zero_le _, Nat.zero_le _⟩ dX3_addInitials_18 [0, 1, 2, 3, 5, 6, 7, 9] rfl rfl wa_X3_showInitials (sa_eq [(aW_yr, .inl (cI, 8, .inl W_yr)), (aL_su, .inl (cI, 8, .inl L_su))] [4, 8] 10 rfl rfl rfl rfl rfl rfl rfl) (fun H locs hP hD hS => ?_)
    exact J21 e4.1 e4.2.1 e4.2.2 hm H locs ls hP hD hS (lv_sub hl [0] rfl)
set_option maxHeartbeats 4000000 in
set_option maxRecDepth 100000 in
theorem c_X3_initiallyShown (l : Launch) (D : va_G) (cI cJ cZ cS : ClassId) (aW aW_ac aW_fa aW_in aW_yr aW_ti aS aS_ke aS_di aL aL_sh aL_wi aL_su aA aL_nk aL_gr : Nat) (W_n : Int32) (W_ac : Nat → Int32) (S_st : Int32) (S_mi : Int32) (S_fi : Int32) (S_sp : Int32) (S_cl : Int32) (S_nu : Int32) (S_co : Int32) (x1 : Int32) (o : Int32) (hm : m_X3_initiallyShown W_ac S_mi S_fi x1 = some o) : MI l yX3_initiallyShown wsX3_initiallyShown rm_X3_initiallyShown D (TY cI cJ cZ cS) [.ref aL, .int x1] (w_X3_initiallyShown cI aW aW_ac aW_fa aW_in aW_yr aW_ti aS aS_ke aS_di aL aL_sh aL_wi aL_su aA aL_nk aL_gr W_n W_ac S_st S_mi S_fi S_sp S_cl S_nu S_co) (w_X3_initiallyShown cI aW aW_ac aW_fa aW_in aW_yr aW_ti aS aS_ke aS_di aL aL_sh aL_wi aL_su aA aL_nk aL_gr W_n W_ac S_st S_mi S_fi S_sp S_cl S_nu S_co) (o) := by
  refine MI_of (cc := cX3_initiallyShown) (maxL := 3) (by decide) rfl (Nat.le_of_ble_eq_true rfl) ?_
  intro p e s m args below meth c A Q ls H locs hx hb hml hts hown hK hA hP hD hS hl hret
  have hown : s.vm.findClass RX3 = some m.cls := hown
  have hKv : va_K D vwCl (TY cI cJ cZ cS) s := hK.1
  have hl : lv_has ls 3 [(0, .ref aL), (1, .int x1)] := hl
  have S : CallFix p m c cX3_initiallyShown 3 s args wsX3_initiallyShown RX3 := ⟨hx, hb, hml, hown, hts⟩
  have k1 := hts (.fieldLink RX3 35 "CitationFormatter$Labels" "works" "LCitationFormatter$Works;") (by decide +kernel)
  have k2 : ∀ w ∈ wsX30, w ∈ wsX3_initiallyShown := by decide +kernel
  have k3 := hts (.fieldLink RX3 73 "CitationFormatter$Works" "authorCounts" "[I") (by decide +kernel)
  have k4 : ∀ w ∈ wsX90, w ∈ wsX3_initiallyShown := by decide +kernel
  have k5 := hts (.fieldLink RX3 40 "CitationFormatter$Labels" "settings" "LCitationFormatter$Settings;") (by decide +kernel)
  have k6 := hts (.fieldLink RX3 83 "CitationFormatter$Settings" "etAlMinimum" "I") (by decide +kernel)
  have k7 : ∀ w ∈ wsX60, w ∈ wsX3_initiallyShown := by decide +kernel
  have k8 := hts (.fieldLink RX3 86 "CitationFormatter$Settings" "etAlFirst" "I") (by decide +kernel)
  have k9 := hts (.methodLink RX3 89 Lib.Math.min.name) (by decide +kernel)
  have k10 := hts (.static Lib.Math.min.name) (by decide +kernel)
  have k11 := hts (.initialized "java/lang/Math") (by decide +kernel)
  have k12 := hts (.code Lib.Math.min.name Lib.Math.min.code 2 (some .int)) (by decide +kernel)
  have J31 : ∀ (x2_j31 : Int32), (m_X3_initiallyShown_J31 x2_j31 = some o) → ∀ (H : Heap) (locs : List Loc) (ls : Array Slot), va_P D vwCl (w_X3_initiallyShown cI aW aW_ac aW_fa aW_in aW_yr aW_ti aS aS_ke aS_di aL aL_sh aL_wi aL_su aA aL_nk aL_gr W_n W_ac S_st S_mi S_fi S_sp S_cl S_nu S_co) H → va_D A (w_X3_initiallyShown cI aW aW_ac aW_fa aW_in aW_yr aW_ti aS aS_ke aS_di aL aL_sh aL_wi aL_su aA aL_nk aL_gr W_n W_ac S_st S_mi S_fi S_sp S_cl S_nu S_co) → va_S A s.heap H locs → lv_has ls 3 [(0, .ref aL), (2, .int x2_j31)] → W p l e rm_X3_initiallyShown s m args below meth c H locs 0 0 Q (F0 m 31 ls []) := by
    intro x2_j31 hm H locs ls hP hD hS hl
    refine lv_iload_n hx hb dX3_initiallyShown_31 rfl (lv_at hl 1 rfl) ?_
    have h9 := Option.some.inj hm
    subst h9
    exact hret H locs _ ls _ hP hD hS rfl dX3_initiallyShown_32
  refine lv_aload_n hx hb dX3_initiallyShown_0 rfl (lv_at hl 0 rfl) ?_
  refine va_get (D := D) (ci := 3) (v := .ref aW) (C := RX3) (T := TX3) (N := 8) hx hb hts k2 hown hKv hP 3 rfl rfl 3 (by decide) k1 (fun _ h9 => h9) rfl dX3_initiallyShown_1 ?_
  refine va_get (D := D) (ci := 9) (v := .ref aW_ac) (C := RX9) (T := TX9) (N := 6) hx hb hts k4 hown hKv hP 0 rfl rfl 1 (by decide) k3 (fun _ h9 => h9) rfl dX3_initiallyShown_4 ?_
  refine lv_iload_n hx hb dX3_initiallyShown_7 rfl (lv_at hl 1 rfl) ?_
  replace hm := ck_some hm
  obtain ⟨h1, hm⟩ := hm
  refine va_iald hx hb hKv hP 1 0 rfl rfl h1 dX3_initiallyShown_8 ?_
  refine lv_istore_n (lv' := [(2, .int (W_ac (Int32.toNatClampNeg x1))), (0, .ref aL), (1, .int x1)]) hx hb dX3_initiallyShown_9 rfl hl (by decide) rfl (fun ls hl => ?_)
  refine lv_aload_n hx hb dX3_initiallyShown_10 rfl (lv_at hl 1 rfl) ?_
  refine va_get (D := D) (ci := 3) (v := .ref aS) (C := RX3) (T := TX3) (N := 8) hx hb hts k2 hown hKv hP 3 rfl rfl 4 (by decide) k5 (fun _ h9 => h9) rfl dX3_initiallyShown_11 ?_
  refine va_get (D := D) (ci := 6) (v := .int S_mi) (C := RX6) (T := TX6) (N := 9) hx hb hts k7 hown hKv hP 2 rfl rfl 1 (by decide) k6 (fun _ h9 => h9) rfl dX3_initiallyShown_14 ?_
  refine lv_if_eq (tgt := 31) hx hb dX3_initiallyShown_17 (by decide) (fun c2 => ?_) (fun c2 => ?_)
  · replace hm := if_t c2 hm
    exact J31 (W_ac (Int32.toNatClampNeg x1)) hm H locs ls hP hD hS (lv_sub hl [1, 0] rfl)
  · replace hm := if_f c2 hm
    refine lv_iload_n hx hb dX3_initiallyShown_20 rfl (lv_at hl 0 rfl) ?_
    refine lv_aload_n hx hb dX3_initiallyShown_21 rfl (lv_at hl 1 rfl) ?_
    refine va_get (D := D) (ci := 3) (v := .ref aS) (C := RX3) (T := TX3) (N := 8) hx hb hts k2 hown hKv hP 3 rfl rfl 4 (by decide) k5 (fun _ h9 => h9) rfl dX3_initiallyShown_22 ?_
    refine va_get (D := D) (ci := 6) (v := .int S_mi) (C := RX6) (T := TX6) (N := 9) hx hb hts k7 hown hKv hP 2 rfl rfl 1 (by decide) k6 (fun _ h9 => h9) rfl dX3_initiallyShown_25 ?_
    refine lv_icmp_ge (tgt := 33) hx hb dX3_initiallyShown_28 (by decide) (fun c3 => ?_) (fun c3 => ?_)
    · replace hm := if_t c3 hm
      refine lv_aload_n hx hb dX3_initiallyShown_33 rfl (lv_at hl 1 rfl) ?_
      refine va_get (D := D) (ci := 3) (v := .ref aS) (C := RX3) (T := TX3) (N := 8) hx hb hts k2 hown hKv hP 3 rfl rfl 4 (by decide) k5 (fun _ h9 => h9) rfl dX3_initiallyShown_34 ?_
      refine va_get (D := D) (ci := 6) (v := .int S_fi) (C := RX6) (T := TX6) (N := 9) hx hb hts k7 hown hKv hP 2 rfl rfl 2 (by decide) k8 (fun _ h9 => h9) rfl dX3_initiallyShown_37 ?_
      refine lv_iload_n hx hb dX3_initiallyShown_40 rfl (lv_at hl 0 rfl) ?_
      refine va_mmin hx hb (hml.trans hl.1.symm) hown k9 k10 k11 k12 (Nat.le_of_ble_eq_true rfl) (Nat.le_of_ble_eq_true rfl) (Nat.zero_le _) (Nat.zero_le _) dX3_initiallyShown_41 ?_
      have h9 := Option.some.inj hm
      subst h9
      exact hret H locs _ ls _ hP hD hS rfl dX3_initiallyShown_44
    · replace hm := if_f c3 hm
      exact J31 (W_ac (Int32.toNatClampNeg x1)) hm H locs ls hP hD hS (lv_sub hl [1, 0] rfl)
set_option maxHeartbeats 4000000 in
set_option maxRecDepth 100000 in
theorem c_X3_showAuthors (l : Launch) (D : va_G) (cI cJ cZ cS : ClassId) (aW aW_ac aW_fa aW_in aW_yr aW_ti aS aS_ke aS_di aL aL_sh aL_wi aL_su aA aL_nk aL_gr : Nat) (W_n : Int32) (W_ac : Nat → Int32) (W_fa : Nat → Int32) (W_in : Nat → Int32) (S_st : Int32) (S_mi : Int32) (S_fi : Int32) (S_sp : Int32) (S_cl : Int32) (S_nu : Int32) (S_co : Int32) (L_sh : Nat → Int32) (L_wi : Nat → Int32) (L_nk : Nat → Int64) (x1 : Int32) (x2 : Int32) (o : (Nat → Int32) × (Nat → Int32) × (Nat → Int64)) (hm : m_X3_showAuthors W_n W_ac W_fa W_in S_mi S_fi L_sh L_wi L_nk x1 x2 = some o) : MV l yX3_showAuthors wsX3_showAuthors rm_X3_showAuthors D (TY cI cJ cZ cS) [.ref aL, .int x1, .int x2] (w_X3_showAuthors cI cJ cZ aW aW_ac aW_fa aW_in aW_yr aW_ti aS aS_ke aS_di aL aL_sh aL_wi aL_su aA aL_nk aL_gr W_n W_ac W_fa W_in S_st S_mi S_fi S_sp S_cl S_nu S_co L_sh L_wi L_nk) (w_X3_showAuthors cI cJ cZ aW aW_ac aW_fa aW_in aW_yr aW_ti aS aS_ke aS_di aL aL_sh aL_wi aL_su aA aL_nk aL_gr W_n W_ac W_fa W_in S_st S_mi S_fi S_sp S_cl S_nu S_co o.1 o.2.1 o.2.2) := by
  refine MV_of (cc := cX3_showAuthors) (maxL := 5) (by decide) rfl (Nat.le_of_ble_eq_true rfl) ?_
  intro p e s m args below meth c A Q ls H locs hx hb hml hts hown hK hA hP hD hS hl hret
  have hown : s.vm.findClass RX3 = some m.cls := hown
  have hKv : va_K D vwCl (TY cI cJ cZ cS) s := hK.1
  have hl : lv_has ls 5 [(0, .ref aL), (1, .int x1), (2, .int x2)] := hl
  have S : CallFix p m c cX3_showAuthors 5 s args wsX3_showAuthors RX3 := ⟨hx, hb, hml, hown, hts⟩
  have k1 := hts (.fieldLink RX3 35 "CitationFormatter$Labels" "works" "LCitationFormatter$Works;") (by decide +kernel)
  have k2 : ∀ w ∈ wsX30, w ∈ wsX3_showAuthors := by decide +kernel
  have k3 := hts (.fieldLink RX3 50 "CitationFormatter$Works" "count" "I") (by decide +kernel)
  have k4 : ∀ w ∈ wsX90, w ∈ wsX3_showAuthors := by decide +kernel
  have k5 : va_CN rm_X3_showAuthors s args RX3 130 yX11_inSet "CitationFormatter" cX11_inSet 2 (some .boolean) wsX11_inSet rm_X11_inSet 0 0 2 ∧ (Cond.static yX11_inSet).before args s = true ∧ True := ⟨va_cnB 2 hts gX3_showAuthors_X11_inSet_n130 rfl rfl rfl (hK.2 (RX3, 130, yX11_inSet) (by decide +kernel)) (hts (.initialized RX11) (by decide +kernel)) (by decide +kernel) ⟨Nat.le_of_ble_eq_true rfl, Nat.le_of_ble_eq_true rfl⟩, hts (.static yX11_inSet) (by decide +kernel), trivial⟩
  have k6 := hts (.fieldLink RX3 73 "CitationFormatter$Works" "authorCounts" "[I") (by decide +kernel)
  have k7 := hts (.methodLink RX3 89 Lib.Math.min.name) (by decide +kernel)
  have k8 := hts (.static Lib.Math.min.name) (by decide +kernel)
  have k9 := hts (.initialized "java/lang/Math") (by decide +kernel)
  have k10 := hts (.code Lib.Math.min.name Lib.Math.min.code 2 (some .int)) (by decide +kernel)
  have k11 : CallW rm_X3_showAuthors s args RX3 RX3 56 yX3_initiallyShown cX3_initiallyShown 3 (some .int) wsX3_initiallyShown rm_X3_initiallyShown 0 0 1 := cwV 1 hts gX3_showAuthors_X3_initiallyShown rfl rfl rfl (by decide +kernel) ⟨Nat.le_of_ble_eq_true rfl, Nat.le_of_ble_eq_true rfl⟩
  have k12 := hts (.methodLink RX3 133 Lib.Math.max.name) (by decide +kernel)
  have k13 := hts (.static Lib.Math.max.name) (by decide +kernel)
  have k14 := hts (.code Lib.Math.max.name Lib.Math.max.code 2 (some .int)) (by decide +kernel)
  have k15 := hts (.fieldLink RX3 15 "CitationFormatter$Labels" "withInitials" "[Z") (by decide +kernel)
  have k16 : CallW rm_X3_showAuthors s args RX3 RX3 60 yX3_show cX3_show 10 none wsX3_show rm_X3_show 0 0 3 := cwV 3 hts gX3_showAuthors_X3_show rfl rfl rfl (by decide +kernel) ⟨Nat.le_of_ble_eq_true rfl, Nat.le_of_ble_eq_true rfl⟩
  refine lv_iconst (v := 0) hx hb dX3_showAuthors_0 (by decide) ?_
  refine lv_istore_n (lv' := [(3, .int 0), (0, .ref aL), (1, .int x1), (2, .int x2)]) hx hb dX3_showAuthors_1 rfl hl (by decide) rfl (fun ls hl => ?_)
  replace hm := bd_some hm
  obtain ⟨e1, hc1, hm⟩ := hm
  have X1_0 : ∀ (H : Heap) (locs : List Loc) (ls : Array Slot), va_P D vwCl (w_X3_showAuthors cI cJ cZ aW aW_ac aW_fa aW_in aW_yr aW_ti aS aS_ke aS_di aL aL_sh aL_wi aL_su aA aL_nk aL_gr W_n W_ac W_fa W_in S_st S_mi S_fi S_sp S_cl S_nu S_co e1.1 e1.2.1 e1.2.2) H → va_D A (w_X3_showAuthors cI cJ cZ aW aW_ac aW_fa aW_in aW_yr aW_ti aS aS_ke aS_di aL aL_sh aL_wi aL_su aA aL_nk aL_gr W_n W_ac W_fa W_in S_st S_mi S_fi S_sp S_cl S_nu S_co e1.1 e1.2.1 e1.2.2) → va_S A s.heap H locs → lv_has ls 5 [(0, .ref aL)] → W p l e rm_X3_showAuthors s m args below meth c H locs 0 0 Q (F0 m 63 ls []) := by
    intro H locs ls hP hD hS hl
    have h9 := Option.some.inj hm
    subst h9
    exact hret H locs _ ls hP hD hS dX3_showAuthors_63
  refine it_W (G := fun (st2 : Int32 × (Nat → Int32) × (Nat → Int32) × (Nat → Int64)) => ∀ (H : Heap) (locs : List Loc) (ls : Array Slot), va_P D vwCl (w_X3_showAuthors cI cJ cZ aW aW_ac aW_fa aW_in aW_yr aW_ti aS aS_ke aS_di aL aL_sh aL_wi aL_su aA aL_nk aL_gr W_n W_ac W_fa W_in S_st S_mi S_fi S_sp S_cl S_nu S_co st2.2.1 st2.2.2.1 st2.2.2.2) H → va_D A (w_X3_showAuthors cI cJ cZ aW aW_ac aW_fa aW_in aW_yr aW_ti aS aS_ke aS_di aL aL_sh aL_wi aL_su aA aL_nk aL_gr W_n W_ac W_fa W_in S_st S_mi S_fi S_sp S_cl S_nu S_co st2.2.1 st2.2.2.1 st2.2.2.2) → va_S A s.heap H locs → lv_has ls 5 [(0, .ref aL), (1, .int x1), (2, .int x2), (3, .int st2.1)] → W p l e rm_X3_showAuthors s m args below meth c H locs 0 0 Q (F0 m 2 ls [])) (e := e1) (fun st2 x hm hG hE => ?_) fu _ hc1 H locs ls hP hD hS (lv_sub hl [1, 2, 3, 0] rfl)
  intro H locs ls hP hD hS hl
  have J57 : ∀ (x3_j57 : Int32) (L_sh_j57 : Nat → Int32) (L_wi_j57 : Nat → Int32) (L_nk_j57 : Nat → Int64), (m_X3_showAuthors_J57 x1 x2 x3_j57 L_sh_j57 L_wi_j57 L_nk_j57 = some x) → ∀ (H : Heap) (locs : List Loc) (ls : Array Slot), va_P D vwCl (w_X3_showAuthors cI cJ cZ aW aW_ac aW_fa aW_in aW_yr aW_ti aS aS_ke aS_di aL aL_sh aL_wi aL_su aA aL_nk aL_gr W_n W_ac W_fa W_in S_st S_mi S_fi S_sp S_cl S_nu S_co L_sh_j57 L_wi_j57 L_nk_j57) H → va_D A (w_X3_showAuthors cI cJ cZ aW aW_ac aW_fa aW_in aW_yr aW_ti aS aS_ke aS_di aL aL_sh aL_wi aL_su aA aL_nk aL_gr W_n W_ac W_fa W_in S_st S_mi S_fi S_sp S_cl S_nu S_co L_sh_j57 L_wi_j57 L_nk_j57) → va_S A s.heap H locs → lv_has ls 5 [(0, .ref aL), (1, .int x1), (2, .int x2), (3, .int x3_j57)] → W p l e rm_X3_showAuthors s m args below meth c H locs 0 0 Q (F0 m 57 ls []) := by
    intro x3_j57 L_sh_j57 L_wi_j57 L_nk_j57 hm H locs ls hP hD hS hl
    refine lv_iinc (v := (x3_j57 + 1)) (lv' := [(3, .int (x3_j57 + 1)), (0, .ref aL), (1, .int x1), (2, .int x2)]) hx hb dX3_showAuthors_57 hl (k := 3) rfl rfl (by decide) rfl (fun ls hl => ?_)
    refine lv_goto (tgt := 2) hx hb dX3_showAuthors_60 (by decide) ?_
    exact hG _ (Option.some.inj hm).symm H locs ls hP hD hS (lv_sub hl [1, 2, 3, 0] rfl)
  refine lv_iload_n hx hb dX3_showAuthors_2 rfl (lv_at hl 3 rfl) ?_
  refine lv_aload_n hx hb dX3_showAuthors_3 rfl (lv_at hl 0 rfl) ?_
  refine va_get (D := D) (ci := 3) (v := .ref aW) (C := RX3) (T := TX3) (N := 8) hx hb hts k2 hown hKv hP 5 rfl rfl 3 (by decide) k1 (fun _ h9 => h9) rfl dX3_showAuthors_4 ?_
  refine va_get (D := D) (ci := 9) (v := .int W_n) (C := RX9) (T := TX9) (N := 6) hx hb hts k4 hown hKv hP 0 rfl rfl 0 (by decide) k3 (fun _ h9 => h9) rfl dX3_showAuthors_7 ?_
  refine lv_icmp_ge (tgt := 63) hx hb dX3_showAuthors_10 (by decide) (fun c2 => ?_) (fun c2 => ?_)
  · replace hm := if_t c2 hm
    have h9 := hE _ (Option.some.inj hm).symm
    subst h9
    exact X1_0 H locs ls hP hD hS (lv_sub hl [0] rfl)
  · replace hm := if_f c2 hm
    refine lv_iload_n hx hb dX3_showAuthors_13 rfl (lv_at hl 1 rfl) ?_
    refine lv_iload_n hx hb dX3_showAuthors_14 rfl (lv_at hl 3 rfl) ?_
    replace hm := bd_some hm
    obtain ⟨e3, hc3, hm⟩ := hm
    refine kN_i (rest := []) S (c_X11_inSet l D cI cJ cZ cS x1 st2.1 e3 hc3) k5 hK hP hD hS hA rfl hl.1 rfl (Nat.le_of_ble_eq_true rfl) ⟨Nat.zero_le _, Nat.zero_le _⟩ dX3_showAuthors_15 (fun H locs hP hD hS => ?_)
    refine lv_if_eq (tgt := 57) hx hb dX3_showAuthors_18 (by decide) (fun c4 => ?_) (fun c4 => ?_)
    · replace hm := if_t c4 hm
      exact J57 st2.1 st2.2.1 st2.2.2.1 st2.2.2.2 hm H locs ls hP hD hS (lv_sub hl [0, 1, 2, 3] rfl)
    · replace hm := if_f c4 hm
      refine lv_iload_n hx hb dX3_showAuthors_21 rfl (lv_at hl 2 rfl) ?_
      refine lv_aload_n hx hb dX3_showAuthors_22 rfl (lv_at hl 0 rfl) ?_
      refine va_get (D := D) (ci := 3) (v := .ref aW) (C := RX3) (T := TX3) (N := 8) hx hb hts k2 hown hKv hP 5 rfl rfl 3 (by decide) k1 (fun _ h9 => h9) rfl dX3_showAuthors_23 ?_
      refine va_get (D := D) (ci := 9) (v := .ref aW_ac) (C := RX9) (T := TX9) (N := 6) hx hb hts k4 hown hKv hP 0 rfl rfl 1 (by decide) k6 (fun _ h9 => h9) rfl dX3_showAuthors_26 ?_
      refine lv_iload_n hx hb dX3_showAuthors_29 rfl (lv_at hl 3 rfl) ?_
      replace hm := ck_some hm
      obtain ⟨h5, hm⟩ := hm
      refine va_iald hx hb hKv hP 1 0 rfl rfl h5 dX3_showAuthors_30 ?_
      refine va_mmin hx hb (hml.trans hl.1.symm) hown k7 k8 k9 k10 (Nat.le_of_ble_eq_true rfl) (Nat.le_of_ble_eq_true rfl) (Nat.zero_le _) (Nat.zero_le _) dX3_showAuthors_31 ?_
      refine lv_istore (lv' := [(4, .int (if (W_ac (Int32.toNatClampNeg st2.1)) < x2 then (W_ac (Int32.toNatClampNeg st2.1)) else x2)), (0, .ref aL), (1, .int x1), (2, .int x2), (3, .int st2.1)]) hx hb dX3_showAuthors_34 hl (by decide) rfl (fun ls hl => ?_)
      refine lv_aload_n hx hb dX3_showAuthors_36 rfl (lv_at hl 1 rfl) ?_
      refine lv_iload_n hx hb dX3_showAuthors_37 rfl (lv_at hl 4 rfl) ?_
      refine lv_iload hx hb dX3_showAuthors_38 (lv_at hl 0 rfl) ?_
      refine lv_aload_n hx hb dX3_showAuthors_40 rfl (lv_at hl 1 rfl) ?_
      refine lv_iload_n hx hb dX3_showAuthors_41 rfl (lv_at hl 4 rfl) ?_
      replace hm := bd_some hm
      obtain ⟨e6, hc6, hm⟩ := hm
      refine kV_i (rest := [.int (if (W_ac (Int32.toNatClampNeg st2.1)) < x2 then (W_ac (Int32.toNatClampNeg st2.1)) else x2), .int st2.1, .ref aL]) (ws' := (w_X3_showAuthors cI cJ cZ aW aW_ac aW_fa aW_in aW_yr aW_ti aS aS_ke aS_di aL aL_sh aL_wi aL_su aA aL_nk aL_gr W_n W_ac W_fa W_in S_st S_mi S_fi S_sp S_cl S_nu S_co st2.2.1 st2.2.2.1 st2.2.2.2)) S (c_X3_initiallyShown l D cI cJ cZ cS aW aW_ac aW_fa aW_in aW_yr aW_ti aS aS_ke aS_di aL aL_sh aL_wi aL_su aA aL_nk aL_gr W_n W_ac S_st S_mi S_fi S_sp S_cl S_nu S_co st2.1 e6 hc6) k11 hK hP hD hS hA 5 rfl rfl rfl rfl hl.1 rfl (Nat.le_of_ble_eq_true rfl) ⟨Nat.zero_le _, Nat.zero_le _⟩ dX3_showAuthors_42 [0, 1, 4, 5] rfl rfl wa_X3_initiallyShown (sa_eq [(aW_fa, .inl (cI, 32, .inl W_fa)), (aW_in, .inl (cI, 32, .inl W_in)), (aL_sh, .inl (cI, 8, .inl st2.2.1)), (aL_wi, .inl (cZ, 8, .inl st2.2.2.1)), (aL_nk, .inl (cJ, 8, .inr (.inl st2.2.2.2)))] [2, 3, 6, 7, 8] 9 rfl rfl rfl rfl rfl rfl rfl) (fun H locs hP hD hS => ?_)
      refine va_mmax hx hb (hml.trans hl.1.symm) hown k12 k13 k9 k14 (Nat.le_of_ble_eq_true rfl) (Nat.le_of_ble_eq_true rfl) (Nat.zero_le _) (Nat.zero_le _) dX3_showAuthors_45 ?_
      refine lv_aload_n hx hb dX3_showAuthors_48 rfl (lv_at hl 1 rfl) ?_
      refine va_get (D := D) (ci := 3) (v := .ref aL_wi) (C := RX3) (T := TX3) (N := 8) hx hb hts k2 hown hKv hP 5 rfl rfl 1 (by decide) k15 (fun _ h9 => h9) rfl dX3_showAuthors_49 ?_
      refine lv_iload_n hx hb dX3_showAuthors_52 rfl (lv_at hl 4 rfl) ?_
      replace hm := ck_some hm
      obtain ⟨h7, hm⟩ := hm
      refine va_zald hx hb hKv hP 7 2 rfl rfl h7 dX3_showAuthors_53 ?_
      replace hm := bd_some hm
      obtain ⟨e8, hc8, hm⟩ := hm
      refine kV_v (rest := []) (ws' := (w_X3_showAuthors cI cJ cZ aW aW_ac aW_fa aW_in aW_yr aW_ti aS aS_ke aS_di aL aL_sh aL_wi aL_su aA aL_nk aL_gr W_n W_ac W_fa W_in S_st S_mi S_fi S_sp S_cl S_nu S_co e8.1 e8.2.1 e8.2.2)) S (c_X3_show l D cI cJ cZ cS aW aW_ac aW_fa aW_in aW_yr aW_ti aL aL_sh aL_wi aL_su aS aA aL_nk aL_gr W_n W_ac W_fa W_in st2.2.1 st2.2.2.1 st2.2.2.2 st2.1 (if (if (W_ac (Int32.toNatClampNeg st2.1)) < x2 then (W_ac (Int32.toNatClampNeg st2.1)) else x2) < e6 then e6 else (if (W_ac (Int32.toNatClampNeg st2.1)) < x2 then (W_ac (Int32.toNatClampNeg st2.1)) else x2)) (st2.2.2.1 (Int32.toNatClampNeg st2.1)) e8 hc8) k16 hK hP hD hS hA 5 rfl rfl rfl rfl hl.1 rfl (Nat.le_of_ble_eq_true rfl) ⟨Nat.zero_le _, Nat.zero_le _⟩ dX3_showAuthors_54 [0, 1, 2, 3, 5, 6, 7, 8] rfl rfl wa_X3_show (sa_eq [(aS, .inr (6, [.int S_st, .int S_mi, .int S_fi, .int S_sp, .int S_cl, .int S_nu, .int S_co, .ref aS_ke, .ref aS_di]))] [4] 9 rfl rfl rfl rfl rfl rfl rfl) (fun H locs hP hD hS => ?_)
      exact J57 st2.1 e8.1 e8.2.1 e8.2.2 hm H locs ls hP hD hS (lv_sub hl [1, 2, 3, 4] rfl)
set_option maxHeartbeats 4000000 in
set_option maxRecDepth 100000 in
theorem c_X3_addNames (l : Launch) (D : va_G) (cI cJ cZ cS : ClassId) (aW aW_ac aW_fa aW_in aW_yr aW_ti aS aS_ke aS_di aL aL_sh aL_wi aL_su aA aL_nk aL_gr : Nat) (W_n : Int32) (W_ac : Nat → Int32) (W_fa : Nat → Int32) (W_in : Nat → Int32) (W_yr : Nat → Int32) (S_st : Int32) (S_mi : Int32) (S_fi : Int32) (S_sp : Int32) (S_cl : Int32) (S_nu : Int32) (S_co : Int32) (L_sh : Nat → Int32) (L_wi : Nat → Int32) (L_su : Nat → Int32) (L_nk : Nat → Int64) (x1 : Int32) (o : (Nat → Int32) × (Nat → Int32) × (Nat → Int64)) (hm : m_X3_addNames W_n W_ac W_fa W_in W_yr S_mi S_fi L_sh L_wi L_su L_nk x1 = some o) : MV l yX3_addNames wsX3_addNames rm_X3_addNames D (TY cI cJ cZ cS) [.ref aL, .int x1] (w_X3_addNames cI cJ cZ aW aW_ac aW_fa aW_in aW_yr aW_ti aS aS_ke aS_di aL aL_sh aL_wi aL_su aA aL_nk aL_gr W_n W_ac W_fa W_in W_yr S_st S_mi S_fi S_sp S_cl S_nu S_co L_sh L_wi L_su L_nk) (w_X3_addNames cI cJ cZ aW aW_ac aW_fa aW_in aW_yr aW_ti aS aS_ke aS_di aL aL_sh aL_wi aL_su aA aL_nk aL_gr W_n W_ac W_fa W_in W_yr S_st S_mi S_fi S_sp S_cl S_nu S_co o.1 o.2.1 L_su o.2.2) := by
  refine MV_of (cc := cX3_addNames) (maxL := 6) (by decide) rfl (Nat.le_of_ble_eq_true rfl) ?_
  intro p e s m args below meth c A Q ls H locs hx hb hml hts hown hK hA hP hD hS hl hret
  have hown : s.vm.findClass RX3 = some m.cls := hown
  have hKv : va_K D vwCl (TY cI cJ cZ cS) s := hK.1
  have hl : lv_has ls 6 [(0, .ref aL), (1, .int x1)] := hl
  have S : CallFix p m c cX3_addNames 6 s args wsX3_addNames RX3 := ⟨hx, hb, hml, hown, hts⟩
  have k1 := hts (.fieldLink RX3 40 "CitationFormatter$Labels" "settings" "LCitationFormatter$Settings;") (by decide +kernel)
  have k2 : ∀ w ∈ wsX30, w ∈ wsX3_addNames := by decide +kernel
  have k3 := hts (.fieldLink RX3 86 "CitationFormatter$Settings" "etAlFirst" "I") (by decide +kernel)
  have k4 : ∀ w ∈ wsX60, w ∈ wsX3_addNames := by decide +kernel
  have k5 : CallW rm_X3_addNames s args RX3 RX3 123 yX3_showAuthors cX3_showAuthors 5 none wsX3_showAuthors rm_X3_showAuthors 0 0 2 := cwV 2 hts gX3_addNames_X3_showAuthors rfl rfl rfl (by decide +kernel) ⟨Nat.le_of_ble_eq_true rfl, Nat.le_of_ble_eq_true rfl⟩
  have k6 : CallW rm_X3_addNames s args RX3 RX3 127 yX3_differentLabels cX3_differentLabels 4 (some .int) wsX3_differentLabels rm_X3_differentLabels 0 0 1 := cwV 1 hts gX3_addNames_X3_differentLabels rfl rfl rfl (by decide +kernel) ⟨Nat.le_of_ble_eq_true rfl, Nat.le_of_ble_eq_true rfl⟩
  refine lv_aload_n hx hb dX3_addNames_0 rfl (lv_at hl 0 rfl) ?_
  refine va_get (D := D) (ci := 3) (v := .ref aS) (C := RX3) (T := TX3) (N := 8) hx hb hts k2 hown hKv hP 6 rfl rfl 4 (by decide) k1 (fun _ h9 => h9) rfl dX3_addNames_1 ?_
  refine va_get (D := D) (ci := 6) (v := .int S_fi) (C := RX6) (T := TX6) (N := 9) hx hb hts k4 hown hKv hP 5 rfl rfl 2 (by decide) k3 (fun _ h9 => h9) rfl dX3_addNames_4 ?_
  refine lv_istore_n (lv' := [(2, .int S_fi), (0, .ref aL), (1, .int x1)]) hx hb dX3_addNames_7 rfl hl (by decide) rfl (fun ls hl => ?_)
  refine lv_iconst (v := 0) hx hb dX3_addNames_8 (by decide) ?_
  refine lv_istore_n (lv' := [(3, .int 0), (2, .int S_fi), (0, .ref aL), (1, .int x1)]) hx hb dX3_addNames_9 rfl hl (by decide) rfl (fun ls hl => ?_)
  refine lv_aload_n hx hb dX3_addNames_10 rfl (lv_at hl 2 rfl) ?_
  refine va_get (D := D) (ci := 3) (v := .ref aS) (C := RX3) (T := TX3) (N := 8) hx hb hts k2 hown hKv hP 6 rfl rfl 4 (by decide) k1 (fun _ h9 => h9) rfl dX3_addNames_11 ?_
  refine va_get (D := D) (ci := 6) (v := .int S_fi) (C := RX6) (T := TX6) (N := 9) hx hb hts k4 hown hKv hP 5 rfl rfl 2 (by decide) k3 (fun _ h9 => h9) rfl dX3_addNames_14 ?_
  refine lv_istore (lv' := [(4, .int S_fi), (3, .int 0), (2, .int S_fi), (0, .ref aL), (1, .int x1)]) hx hb dX3_addNames_17 hl (by decide) rfl (fun ls hl => ?_)
  replace hm := bd_some hm
  obtain ⟨e1, hc1, hm⟩ := hm
  have X1_0 : ∀ (H : Heap) (locs : List Loc) (ls : Array Slot), va_P D vwCl (w_X3_addNames cI cJ cZ aW aW_ac aW_fa aW_in aW_yr aW_ti aS aS_ke aS_di aL aL_sh aL_wi aL_su aA aL_nk aL_gr W_n W_ac W_fa W_in W_yr S_st S_mi S_fi S_sp S_cl S_nu S_co e1.2.1 e1.2.2.1 L_su e1.2.2.2) H → va_D A (w_X3_addNames cI cJ cZ aW aW_ac aW_fa aW_in aW_yr aW_ti aS aS_ke aS_di aL aL_sh aL_wi aL_su aA aL_nk aL_gr W_n W_ac W_fa W_in W_yr S_st S_mi S_fi S_sp S_cl S_nu S_co e1.2.1 e1.2.2.1 L_su e1.2.2.2) → va_S A s.heap H locs → lv_has ls 6 [(0, .ref aL), (1, .int x1), (2, .int e1.1)] → W p l e rm_X3_addNames s m args below meth c H locs 0 0 Q (F0 m 57 ls []) := by
    intro H locs ls hP hD hS hl
    refine lv_aload_n hx hb dX3_addNames_57 rfl (lv_at hl 0 rfl) ?_
    refine lv_iload_n hx hb dX3_addNames_58 rfl (lv_at hl 1 rfl) ?_
    refine lv_iload_n hx hb dX3_addNames_59 rfl (lv_at hl 2 rfl) ?_
    replace hm := bd_some hm
    obtain ⟨e2, hc2, hm⟩ := hm
    refine kV_v (rest := []) (ws' := (w_X3_addNames cI cJ cZ aW aW_ac aW_fa aW_in aW_yr aW_ti aS aS_ke aS_di aL aL_sh aL_wi aL_su aA aL_nk aL_gr W_n W_ac W_fa W_in W_yr S_st S_mi S_fi S_sp S_cl S_nu S_co e2.1 e2.2.1 L_su e2.2.2)) S (c_X3_showAuthors l D cI cJ cZ cS aW aW_ac aW_fa aW_in aW_yr aW_ti aS aS_ke aS_di aL aL_sh aL_wi aL_su aA aL_nk aL_gr W_n W_ac W_fa W_in S_st S_mi S_fi S_sp S_cl S_nu S_co e1.2.1 e1.2.2.1 e1.2.2.2 x1 e1.1 e2 hc2) k5 hK hP hD hS hA 6 rfl rfl rfl rfl hl.1 rfl (Nat.le_of_ble_eq_true rfl) ⟨Nat.zero_le _, Nat.zero_le _⟩ dX3_addNames_60 [0, 1, 2, 3, 5, 6, 7, 8, 10] rfl rfl wa_X3_showAuthors (sa_eq [(aW_yr, .inl (cI, 8, .inl W_yr)), (aL_su, .inl (cI, 8, .inl L_su))] [4, 9] 11 rfl rfl rfl rfl rfl rfl rfl) (fun H locs hP hD hS => ?_)
    have h9 := Option.some.inj hm
    subst h9
    exact hret H locs _ ls hP hD hS dX3_addNames_63
  refine it_W (G := fun (st19 : Int32 × Int32 × Int32 × (Nat → Int32) × (Nat → Int32) × (Nat → Int64)) => ∀ (H : Heap) (locs : List Loc) (ls : Array Slot), va_P D vwCl (w_X3_addNames cI cJ cZ aW aW_ac aW_fa aW_in aW_yr aW_ti aS aS_ke aS_di aL aL_sh aL_wi aL_su aA aL_nk aL_gr W_n W_ac W_fa W_in W_yr S_st S_mi S_fi S_sp S_cl S_nu S_co st19.2.2.2.1 st19.2.2.2.2.1 L_su st19.2.2.2.2.2) H → va_D A (w_X3_addNames cI cJ cZ aW aW_ac aW_fa aW_in aW_yr aW_ti aS aS_ke aS_di aL aL_sh aL_wi aL_su aA aL_nk aL_gr W_n W_ac W_fa W_in W_yr S_st S_mi S_fi S_sp S_cl S_nu S_co st19.2.2.2.1 st19.2.2.2.2.1 L_su st19.2.2.2.2.2) → va_S A s.heap H locs → lv_has ls 6 [(0, .ref aL), (1, .int x1), (2, .int st19.1), (3, .int st19.2.1), (4, .int st19.2.2.1)] → W p l e rm_X3_addNames s m args below meth c H locs 0 0 Q (F0 m 19 ls [])) (e := e1) (fun st19 x hm hG hE => ?_) fu _ hc1 H locs ls hP hD hS (lv_sub hl [3, 4, 2, 1, 0] rfl)
  intro H locs ls hP hD hS hl
  have J51 : ∀ (x2_j51 : Int32) (x3_j51 : Int32) (x4_j51 : Int32) (L_sh_j51 : Nat → Int32) (L_wi_j51 : Nat → Int32) (L_nk_j51 : Nat → Int64), (m_X3_addNames_J51 x1 x2_j51 x3_j51 x4_j51 L_sh_j51 L_wi_j51 L_nk_j51 = some x) → ∀ (H : Heap) (locs : List Loc) (ls : Array Slot), va_P D vwCl (w_X3_addNames cI cJ cZ aW aW_ac aW_fa aW_in aW_yr aW_ti aS aS_ke aS_di aL aL_sh aL_wi aL_su aA aL_nk aL_gr W_n W_ac W_fa W_in W_yr S_st S_mi S_fi S_sp S_cl S_nu S_co L_sh_j51 L_wi_j51 L_su L_nk_j51) H → va_D A (w_X3_addNames cI cJ cZ aW aW_ac aW_fa aW_in aW_yr aW_ti aS aS_ke aS_di aL aL_sh aL_wi aL_su aA aL_nk aL_gr W_n W_ac W_fa W_in W_yr S_st S_mi S_fi S_sp S_cl S_nu S_co L_sh_j51 L_wi_j51 L_su L_nk_j51) → va_S A s.heap H locs → lv_has ls 6 [(0, .ref aL), (1, .int x1), (2, .int x2_j51), (3, .int x3_j51), (4, .int x4_j51)] → W p l e rm_X3_addNames s m args below meth c H locs 0 0 Q (F0 m 51 ls []) := by
    intro x2_j51 x3_j51 x4_j51 L_sh_j51 L_wi_j51 L_nk_j51 hm H locs ls hP hD hS hl
    refine lv_iinc (v := (x4_j51 + 1)) (lv' := [(4, .int (x4_j51 + 1)), (0, .ref aL), (1, .int x1), (2, .int x2_j51), (3, .int x3_j51)]) hx hb dX3_addNames_51 hl (k := 4) rfl rfl (by decide) rfl (fun ls hl => ?_)
    refine lv_goto (tgt := 19) hx hb dX3_addNames_54 (by decide) ?_
    exact hG _ (Option.some.inj hm).symm H locs ls hP hD hS (lv_sub hl [1, 2, 3, 4, 0] rfl)
  refine lv_iload hx hb dX3_addNames_19 (lv_at hl 4 rfl) ?_
  refine lv_iconst (v := 4) hx hb dX3_addNames_21 (by decide) ?_
  refine lv_icmp_gt (tgt := 57) hx hb dX3_addNames_22 (by decide) (fun c3 => ?_) (fun c3 => ?_)
  · replace hm := if_t c3 hm
    have h9 := hE _ (Option.some.inj hm).symm
    subst h9
    exact X1_0 H locs ls hP hD hS (lv_sub hl [0, 1, 2] rfl)
  · replace hm := if_f c3 hm
    refine lv_aload_n hx hb dX3_addNames_25 rfl (lv_at hl 0 rfl) ?_
    refine lv_iload_n hx hb dX3_addNames_26 rfl (lv_at hl 1 rfl) ?_
    refine lv_iload hx hb dX3_addNames_27 (lv_at hl 4 rfl) ?_
    replace hm := bd_some hm
    obtain ⟨e4, hc4, hm⟩ := hm
    refine kV_v (rest := []) (ws' := (w_X3_addNames cI cJ cZ aW aW_ac aW_fa aW_in aW_yr aW_ti aS aS_ke aS_di aL aL_sh aL_wi aL_su aA aL_nk aL_gr W_n W_ac W_fa W_in W_yr S_st S_mi S_fi S_sp S_cl S_nu S_co e4.1 e4.2.1 L_su e4.2.2)) S (c_X3_showAuthors l D cI cJ cZ cS aW aW_ac aW_fa aW_in aW_yr aW_ti aS aS_ke aS_di aL aL_sh aL_wi aL_su aA aL_nk aL_gr W_n W_ac W_fa W_in S_st S_mi S_fi S_sp S_cl S_nu S_co st19.2.2.2.1 st19.2.2.2.2.1 st19.2.2.2.2.2 x1 st19.2.2.1 e4 hc4) k5 hK hP hD hS hA 6 rfl rfl rfl rfl hl.1 rfl (Nat.le_of_ble_eq_true rfl) ⟨Nat.zero_le _, Nat.zero_le _⟩ dX3_addNames_29 [0, 1, 2, 3, 5, 6, 7, 8, 10] rfl rfl wa_X3_showAuthors (sa_eq [(aW_yr, .inl (cI, 8, .inl W_yr)), (aL_su, .inl (cI, 8, .inl L_su))] [4, 9] 11 rfl rfl rfl rfl rfl rfl rfl) (fun H locs hP hD hS => ?_)
    refine lv_aload_n hx hb dX3_addNames_32 rfl (lv_at hl 0 rfl) ?_
    refine lv_iload_n hx hb dX3_addNames_33 rfl (lv_at hl 1 rfl) ?_
    replace hm := bd_some hm
    obtain ⟨e5, hc5, hm⟩ := hm
    refine kV_i (rest := []) (ws' := (w_X3_addNames cI cJ cZ aW aW_ac aW_fa aW_in aW_yr aW_ti aS aS_ke aS_di aL aL_sh aL_wi aL_su aA aL_nk aL_gr W_n W_ac W_fa W_in W_yr S_st S_mi S_fi S_sp S_cl S_nu S_co e4.1 e4.2.1 L_su e4.2.2)) S (c_X3_differentLabels l D cI cJ cZ cS aW aW_ac aW_fa aW_in aW_yr aW_ti aL aL_sh aL_wi aL_su aS aA aL_nk aL_gr W_n W_yr L_su e4.2.2 x1 e5 hc5) k6 hK hP hD hS hA 6 rfl rfl rfl rfl hl.1 rfl (Nat.le_of_ble_eq_true rfl) ⟨Nat.zero_le _, Nat.zero_le _⟩ dX3_addNames_34 [0, 4, 6, 9, 10] rfl rfl wa_X3_differentLabels (sa_eq [(aW_ac, .inl (cI, 8, .inl W_ac)), (aW_fa, .inl (cI, 32, .inl W_fa)), (aW_in, .inl (cI, 32, .inl W_in)), (aS, .inr (6, [.int S_st, .int S_mi, .int S_fi, .int S_sp, .int S_cl, .int S_nu, .int S_co, .ref aS_ke, .ref aS_di])), (aL_sh, .inl (cI, 8, .inl e4.1)), (aL_wi, .inl (cZ, 8, .inl e4.2.1))] [1, 2, 3, 5, 7, 8] 11 rfl rfl rfl rfl rfl rfl rfl) (fun H locs hP hD hS => ?_)
    refine lv_istore (lv' := [(5, .int e5), (0, .ref aL), (1, .int x1), (2, .int st19.1), (3, .int st19.2.1), (4, .int st19.2.2.1)]) hx hb dX3_addNames_37 hl (by decide) rfl (fun ls hl => ?_)
    refine lv_iload hx hb dX3_addNames_39 (lv_at hl 0 rfl) ?_
    refine lv_iload_n hx hb dX3_addNames_41 rfl (lv_at hl 4 rfl) ?_
    refine lv_icmp_le (tgt := 51) hx hb dX3_addNames_42 (by decide) (fun c6 => ?_) (fun c6 => ?_)
    · replace hm := if_t c6 hm
      exact J51 st19.1 st19.2.1 st19.2.2.1 e4.1 e4.2.1 e4.2.2 hm H locs ls hP hD hS (lv_sub hl [1, 2, 3, 4, 5] rfl)
    · replace hm := if_f c6 hm
      refine lv_iload hx hb dX3_addNames_45 (lv_at hl 5 rfl) ?_
      refine lv_istore_n (lv' := [(2, .int st19.2.2.1), (5, .int e5), (0, .ref aL), (1, .int x1), (3, .int st19.2.1), (4, .int st19.2.2.1)]) hx hb dX3_addNames_47 rfl hl (by decide) rfl (fun ls hl => ?_)
      refine lv_iload hx hb dX3_addNames_48 (lv_at hl 1 rfl) ?_
      refine lv_istore_n (lv' := [(3, .int e5), (2, .int st19.2.2.1), (5, .int e5), (0, .ref aL), (1, .int x1), (4, .int st19.2.2.1)]) hx hb dX3_addNames_50 rfl hl (by decide) rfl (fun ls hl => ?_)
      exact J51 st19.2.2.1 e5 st19.2.2.1 e4.1 e4.2.1 e4.2.2 hm H locs ls hP hD hS (lv_sub hl [3, 4, 1, 0, 5] rfl)
set_option maxHeartbeats 4000000 in
set_option maxRecDepth 100000 in
theorem c_X3_addSuffixes (l : Launch) (D : va_G) (cI cJ cZ cS : ClassId) (aW aW_ac aW_fa aW_in aW_yr aW_ti aA aA_or aA_nu aA_li aS aC aL aL_sh aL_wi aL_su aL_nk aL_gr : Nat) (W_n : Int32) (A_or : Nat → Int32) (L_su : Nat → Int32) (x1 : Int32) (o : (Nat → Int32)) (hm : m_X3_addSuffixes W_n A_or L_su x1 = some o) : MV l yX3_addSuffixes wsX3_addSuffixes rm_X3_addSuffixes D (TY cI cJ cZ cS) [.ref aL, .int x1] (w_X3_addSuffixes cI aW aW_ac aW_fa aW_in aW_yr aW_ti aA aA_or aA_nu aA_li aS aC aL aL_sh aL_wi aL_su aL_nk aL_gr W_n A_or L_su) (w_X3_addSuffixes cI aW aW_ac aW_fa aW_in aW_yr aW_ti aA aA_or aA_nu aA_li aS aC aL aL_sh aL_wi aL_su aL_nk aL_gr W_n A_or o) := by
  refine MV_of (cc := cX3_addSuffixes) (maxL := 5) (by decide) rfl (Nat.le_of_ble_eq_true rfl) ?_
  intro p e s m args below meth c A Q ls H locs hx hb hml hts hown hK hA hP hD hS hl hret
  have hown : s.vm.findClass RX3 = some m.cls := hown
  have hKv : va_K D vwCl (TY cI cJ cZ cS) s := hK.1
  have hl : lv_has ls 5 [(0, .ref aL), (1, .int x1)] := hl
  have S : CallFix p m c cX3_addSuffixes 5 s args wsX3_addSuffixes RX3 := ⟨hx, hb, hml, hown, hts⟩
  have k1 := hts (.fieldLink RX3 35 "CitationFormatter$Labels" "works" "LCitationFormatter$Works;") (by decide +kernel)
  have k2 : ∀ w ∈ wsX30, w ∈ wsX3_addSuffixes := by decide +kernel
  have k3 := hts (.fieldLink RX3 50 "CitationFormatter$Works" "count" "I") (by decide +kernel)
  have k4 : ∀ w ∈ wsX90, w ∈ wsX3_addSuffixes := by decide +kernel
  have k5 := hts (.fieldLink RX3 41 "CitationFormatter$Labels" "arrangement" "LCitationFormatter$Arrangement;") (by decide +kernel)
  have k6 := hts (.fieldLink RX3 140 "CitationFormatter$Arrangement" "order" "[I") (by decide +kernel)
  have k7 : ∀ w ∈ wsX00, w ∈ wsX3_addSuffixes := by decide +kernel
  have k8 : va_CN rm_X3_addSuffixes s args RX3 130 yX11_inSet "CitationFormatter" cX11_inSet 2 (some .boolean) wsX11_inSet rm_X11_inSet 0 0 2 ∧ (Cond.static yX11_inSet).before args s = true ∧ True := ⟨va_cnB 2 hts gX3_addSuffixes_X11_inSet_n130 rfl rfl rfl (hK.2 (RX3, 130, yX11_inSet) (by decide +kernel)) (hts (.initialized RX11) (by decide +kernel)) (by decide +kernel) ⟨Nat.le_of_ble_eq_true rfl, Nat.le_of_ble_eq_true rfl⟩, hts (.static yX11_inSet) (by decide +kernel), trivial⟩
  have k9 := hts (.fieldLink RX3 19 "CitationFormatter$Labels" "suffixes" "[I") (by decide +kernel)
  refine lv_bipush (v := 97) hx hb dX3_addSuffixes_0 (by decide) ?_
  refine lv_istore_n (lv' := [(2, .int 97), (0, .ref aL), (1, .int x1)]) hx hb dX3_addSuffixes_2 rfl hl (by decide) rfl (fun ls hl => ?_)
  refine lv_iconst (v := 0) hx hb dX3_addSuffixes_3 (by decide) ?_
  refine lv_istore_n (lv' := [(3, .int 0), (2, .int 97), (0, .ref aL), (1, .int x1)]) hx hb dX3_addSuffixes_4 rfl hl (by decide) rfl (fun ls hl => ?_)
  replace hm := bd_some hm
  obtain ⟨e1, hc1, hm⟩ := hm
  have X1_0 : ∀ (H : Heap) (locs : List Loc) (ls : Array Slot), va_P D vwCl (w_X3_addSuffixes cI aW aW_ac aW_fa aW_in aW_yr aW_ti aA aA_or aA_nu aA_li aS aC aL aL_sh aL_wi aL_su aL_nk aL_gr W_n A_or e1) H → va_D A (w_X3_addSuffixes cI aW aW_ac aW_fa aW_in aW_yr aW_ti aA aA_or aA_nu aA_li aS aC aL aL_sh aL_wi aL_su aL_nk aL_gr W_n A_or e1) → va_S A s.heap H locs → lv_has ls 5 [(0, .ref aL)] → W p l e rm_X3_addSuffixes s m args below meth c H locs 0 0 Q (F0 m 53 ls []) := by
    intro H locs ls hP hD hS hl
    have h9 := Option.some.inj hm
    subst h9
    exact hret H locs _ ls hP hD hS dX3_addSuffixes_53
  refine it_W (G := fun (st5 : Int32 × Int32 × (Nat → Int32)) => ∀ (H : Heap) (locs : List Loc) (ls : Array Slot), va_P D vwCl (w_X3_addSuffixes cI aW aW_ac aW_fa aW_in aW_yr aW_ti aA aA_or aA_nu aA_li aS aC aL aL_sh aL_wi aL_su aL_nk aL_gr W_n A_or st5.2.2) H → va_D A (w_X3_addSuffixes cI aW aW_ac aW_fa aW_in aW_yr aW_ti aA aA_or aA_nu aA_li aS aC aL aL_sh aL_wi aL_su aL_nk aL_gr W_n A_or st5.2.2) → va_S A s.heap H locs → lv_has ls 5 [(0, .ref aL), (1, .int x1), (2, .int st5.1), (3, .int st5.2.1)] → W p l e rm_X3_addSuffixes s m args below meth c H locs 0 0 Q (F0 m 5 ls [])) (e := e1) (fun st5 x hm hG hE => ?_) fu _ hc1 H locs ls hP hD hS (lv_sub hl [2, 3, 1, 0] rfl)
  intro H locs ls hP hD hS hl
  have J47 : ∀ (x2_j47 : Int32) (x3_j47 : Int32) (L_su_j47 : Nat → Int32), (m_X3_addSuffixes_J47 x1 x2_j47 x3_j47 L_su_j47 = some x) → ∀ (H : Heap) (locs : List Loc) (ls : Array Slot), va_P D vwCl (w_X3_addSuffixes cI aW aW_ac aW_fa aW_in aW_yr aW_ti aA aA_or aA_nu aA_li aS aC aL aL_sh aL_wi aL_su aL_nk aL_gr W_n A_or L_su_j47) H → va_D A (w_X3_addSuffixes cI aW aW_ac aW_fa aW_in aW_yr aW_ti aA aA_or aA_nu aA_li aS aC aL aL_sh aL_wi aL_su aL_nk aL_gr W_n A_or L_su_j47) → va_S A s.heap H locs → lv_has ls 5 [(0, .ref aL), (1, .int x1), (2, .int x2_j47), (3, .int x3_j47)] → W p l e rm_X3_addSuffixes s m args below meth c H locs 0 0 Q (F0 m 47 ls []) := by
    intro x2_j47 x3_j47 L_su_j47 hm H locs ls hP hD hS hl
    refine lv_iinc (v := (x3_j47 + 1)) (lv' := [(3, .int (x3_j47 + 1)), (0, .ref aL), (1, .int x1), (2, .int x2_j47)]) hx hb dX3_addSuffixes_47 hl (k := 3) rfl rfl (by decide) rfl (fun ls hl => ?_)
    refine lv_goto (tgt := 5) hx hb dX3_addSuffixes_50 (by decide) ?_
    exact hG _ (Option.some.inj hm).symm H locs ls hP hD hS (lv_sub hl [1, 2, 3, 0] rfl)
  refine lv_iload_n hx hb dX3_addSuffixes_5 rfl (lv_at hl 3 rfl) ?_
  refine lv_aload_n hx hb dX3_addSuffixes_6 rfl (lv_at hl 0 rfl) ?_
  refine va_get (D := D) (ci := 3) (v := .ref aW) (C := RX3) (T := TX3) (N := 8) hx hb hts k2 hown hKv hP 3 rfl rfl 3 (by decide) k1 (fun _ h9 => h9) rfl dX3_addSuffixes_7 ?_
  refine va_get (D := D) (ci := 9) (v := .int W_n) (C := RX9) (T := TX9) (N := 6) hx hb hts k4 hown hKv hP 0 rfl rfl 0 (by decide) k3 (fun _ h9 => h9) rfl dX3_addSuffixes_10 ?_
  refine lv_icmp_ge (tgt := 53) hx hb dX3_addSuffixes_13 (by decide) (fun c2 => ?_) (fun c2 => ?_)
  · replace hm := if_t c2 hm
    have h9 := hE _ (Option.some.inj hm).symm
    subst h9
    exact X1_0 H locs ls hP hD hS (lv_sub hl [0] rfl)
  · replace hm := if_f c2 hm
    refine lv_aload_n hx hb dX3_addSuffixes_16 rfl (lv_at hl 0 rfl) ?_
    refine va_get (D := D) (ci := 3) (v := .ref aA) (C := RX3) (T := TX3) (N := 8) hx hb hts k2 hown hKv hP 3 rfl rfl 5 (by decide) k5 (fun _ h9 => h9) rfl dX3_addSuffixes_17 ?_
    refine va_get (D := D) (ci := 0) (v := .ref aA_or) (C := RX0) (T := TX0) (N := 6) hx hb hts k7 hown hKv hP 1 rfl rfl 0 (by decide) k6 (fun _ h9 => h9) rfl dX3_addSuffixes_20 ?_
    refine lv_iload_n hx hb dX3_addSuffixes_23 rfl (lv_at hl 3 rfl) ?_
    replace hm := ck_some hm
    obtain ⟨h3, hm⟩ := hm
    refine va_iald hx hb hKv hP 2 0 rfl rfl h3 dX3_addSuffixes_24 ?_
    refine lv_istore (lv' := [(4, .int (A_or (Int32.toNatClampNeg st5.2.1))), (0, .ref aL), (1, .int x1), (2, .int st5.1), (3, .int st5.2.1)]) hx hb dX3_addSuffixes_25 hl (by decide) rfl (fun ls hl => ?_)
    refine lv_iload_n hx hb dX3_addSuffixes_27 rfl (lv_at hl 2 rfl) ?_
    refine lv_iload hx hb dX3_addSuffixes_28 (lv_at hl 0 rfl) ?_
    replace hm := bd_some hm
    obtain ⟨e4, hc4, hm⟩ := hm
    refine kN_i (rest := []) S (c_X11_inSet l D cI cJ cZ cS x1 (A_or (Int32.toNatClampNeg st5.2.1)) e4 hc4) k8 hK hP hD hS hA rfl hl.1 rfl (Nat.le_of_ble_eq_true rfl) ⟨Nat.zero_le _, Nat.zero_le _⟩ dX3_addSuffixes_30 (fun H locs hP hD hS => ?_)
    refine lv_if_eq (tgt := 47) hx hb dX3_addSuffixes_33 (by decide) (fun c5 => ?_) (fun c5 => ?_)
    · replace hm := if_t c5 hm
      exact J47 st5.1 st5.2.1 st5.2.2 hm H locs ls hP hD hS (lv_sub hl [1, 2, 3, 4] rfl)
    · replace hm := if_f c5 hm
      refine lv_aload_n hx hb dX3_addSuffixes_36 rfl (lv_at hl 1 rfl) ?_
      refine va_get (D := D) (ci := 3) (v := .ref aL_su) (C := RX3) (T := TX3) (N := 8) hx hb hts k2 hown hKv hP 3 rfl rfl 2 (by decide) k9 (fun _ h9 => h9) rfl dX3_addSuffixes_37 ?_
      refine lv_iload hx hb dX3_addSuffixes_40 (lv_at hl 0 rfl) ?_
      refine lv_iload_n hx hb dX3_addSuffixes_42 rfl (lv_at hl 3 rfl) ?_
      replace hm := ck_some hm
      obtain ⟨h6, hm⟩ := hm
      refine va_iast hx hb hKv hP hD hS 4 0 rfl rfl h6 dX3_addSuffixes_43 (fun H locs hP hD hS => ?_)
      replace hP : va_P D vwCl (w_X3_addSuffixes cI aW aW_ac aW_fa aW_in aW_yr aW_ti aA aA_or aA_nu aA_li aS aC aL aL_sh aL_wi aL_su aL_nk aL_gr W_n A_or (upd st5.2.2 (Int32.toNatClampNeg (A_or (Int32.toNatClampNeg st5.2.1))) st5.1)) H := hP
      replace hD : va_D A (w_X3_addSuffixes cI aW aW_ac aW_fa aW_in aW_yr aW_ti aA aA_or aA_nu aA_li aS aC aL aL_sh aL_wi aL_su aL_nk aL_gr W_n A_or (upd st5.2.2 (Int32.toNatClampNeg (A_or (Int32.toNatClampNeg st5.2.1))) st5.1)) := hD
      refine lv_iinc (v := (st5.1 + 1)) (lv' := [(2, .int (st5.1 + 1)), (4, .int (A_or (Int32.toNatClampNeg st5.2.1))), (0, .ref aL), (1, .int x1), (3, .int st5.2.1)]) hx hb dX3_addSuffixes_44 hl (k := 3) rfl rfl (by decide) rfl (fun ls hl => ?_)
      exact J47 (st5.1 + 1) st5.2.1 (upd st5.2.2 (Int32.toNatClampNeg (A_or (Int32.toNatClampNeg st5.2.1))) st5.1) hm H locs ls hP hD hS (lv_sub hl [2, 3, 0, 4] rfl)
set_option maxHeartbeats 4000000 in
set_option maxRecDepth 100000 in
theorem c_X3_isFirstOfGroup (l : Launch) (D : va_G) (cI cJ cZ cS : ClassId) (aL aL_sh aL_wi aL_su aW aS aA aL_nk aL_gr : Nat) (L_gr : Nat → Int32) (x1 : Int32) (o : Int32) (hm : m_X3_isFirstOfGroup L_gr x1 = some o) : MI l yX3_isFirstOfGroup wsX3_isFirstOfGroup rm_X3_isFirstOfGroup D (TY cI cJ cZ cS) [.ref aL, .int x1] (w_X3_isFirstOfGroup cI aL aL_sh aL_wi aL_su aW aS aA aL_nk aL_gr L_gr) (w_X3_isFirstOfGroup cI aL aL_sh aL_wi aL_su aW aS aA aL_nk aL_gr L_gr) (o) := by
  refine MZ_of (cc := cX3_isFirstOfGroup) (maxL := 2) (by decide) rfl (Nat.le_of_ble_eq_true rfl) ?_
  intro p e s m args below meth c A Q ls H locs hx hb hml hts hown hK hA hP hD hS hl hret
  have hown : s.vm.findClass RX3 = some m.cls := hown
  have hKv : va_K D vwCl (TY cI cJ cZ cS) s := hK.1
  have hl : lv_has ls 2 [(0, .ref aL), (1, .int x1)] := hl
  have S : CallFix p m c cX3_isFirstOfGroup 2 s args wsX3_isFirstOfGroup RX3 := ⟨hx, hb, hml, hown, hts⟩
  have k1 := hts (.fieldLink RX3 26 "CitationFormatter$Labels" "groups" "[I") (by decide +kernel)
  have k2 : ∀ w ∈ wsX30, w ∈ wsX3_isFirstOfGroup := by decide +kernel
  have k3 : va_CN rm_X3_isFirstOfGroup s args RX3 120 yX11_hasBelow "CitationFormatter" cX11_hasBelow 2 (some .boolean) wsX11_hasBelow rm_X11_hasBelow 0 0 2 ∧ (Cond.static yX11_hasBelow).before args s = true ∧ True := ⟨va_cnB 2 hts gX3_isFirstOfGroup_X11_hasBelow_n120 rfl rfl rfl (hK.2 (RX3, 120, yX11_hasBelow) (by decide +kernel)) (hts (.initialized RX11) (by decide +kernel)) (by decide +kernel) ⟨Nat.le_of_ble_eq_true rfl, Nat.le_of_ble_eq_true rfl⟩, hts (.static yX11_hasBelow) (by decide +kernel), trivial⟩
  have J30 : ∀ (y0_j30 : Int32), (m_X3_isFirstOfGroup_J30 y0_j30 = some o) → ∀ (H : Heap) (locs : List Loc) (ls : Array Slot), va_P D vwCl (w_X3_isFirstOfGroup cI aL aL_sh aL_wi aL_su aW aS aA aL_nk aL_gr L_gr) H → va_D A (w_X3_isFirstOfGroup cI aL aL_sh aL_wi aL_su aW aS aA aL_nk aL_gr L_gr) → va_S A s.heap H locs → lv_has ls 2 [(0, .ref aL)] → W p l e rm_X3_isFirstOfGroup s m args below meth c H locs 0 0 Q (F0 m 30 ls [.int y0_j30]) := by
    intro y0_j30 hm H locs ls hP hD hS hl
    replace hm := ckb_some hm
    obtain ⟨h1, hm⟩ := hm
    have h9 := Option.some.inj hm
    subst h9
    exact hret H locs _ ls _ h1 hP hD hS rfl dX3_isFirstOfGroup_30
  have J29 : (m_X3_isFirstOfGroup_J29 = some o) → ∀ (H : Heap) (locs : List Loc) (ls : Array Slot), va_P D vwCl (w_X3_isFirstOfGroup cI aL aL_sh aL_wi aL_su aW aS aA aL_nk aL_gr L_gr) H → va_D A (w_X3_isFirstOfGroup cI aL aL_sh aL_wi aL_su aW aS aA aL_nk aL_gr L_gr) → va_S A s.heap H locs → lv_has ls 2 [(0, .ref aL)] → W p l e rm_X3_isFirstOfGroup s m args below meth c H locs 0 0 Q (F0 m 29 ls []) := by
    intro  hm H locs ls hP hD hS hl
    refine lv_iconst (v := 0) hx hb dX3_isFirstOfGroup_29 (by decide) ?_
    exact J30 0 hm H locs ls hP hD hS (lv_sub hl [0] rfl)
  refine lv_aload_n hx hb dX3_isFirstOfGroup_0 rfl (lv_at hl 0 rfl) ?_
  refine va_get (D := D) (ci := 3) (v := .ref aL_gr) (C := RX3) (T := TX3) (N := 8) hx hb hts k2 hown hKv hP 0 rfl rfl 7 (by decide) k1 (fun _ h9 => h9) rfl dX3_isFirstOfGroup_1 ?_
  refine lv_iload_n hx hb dX3_isFirstOfGroup_4 rfl (lv_at hl 1 rfl) ?_
  replace hm := ck_some hm
  obtain ⟨h2, hm⟩ := hm
  refine va_iald hx hb hKv hP 1 0 rfl rfl h2 dX3_isFirstOfGroup_5 ?_
  refine lv_iconst (v := 1) hx hb dX3_isFirstOfGroup_6 (by decide) ?_
  refine lv_iload_n hx hb dX3_isFirstOfGroup_7 rfl (lv_at hl 1 rfl) ?_
  refine lv_ishl hx hb dX3_isFirstOfGroup_8 ?_
  refine lv_icmp_eq (tgt := 29) hx hb dX3_isFirstOfGroup_9 (by decide) (fun c3 => ?_) (fun c3 => ?_)
  · replace hm := if_t c3 hm
    exact J29  hm H locs ls hP hD hS (lv_sub hl [0] rfl)
  · replace hm := if_f c3 hm
    refine lv_aload_n hx hb dX3_isFirstOfGroup_12 rfl (lv_at hl 0 rfl) ?_
    refine va_get (D := D) (ci := 3) (v := .ref aL_gr) (C := RX3) (T := TX3) (N := 8) hx hb hts k2 hown hKv hP 0 rfl rfl 7 (by decide) k1 (fun _ h9 => h9) rfl dX3_isFirstOfGroup_13 ?_
    refine lv_iload_n hx hb dX3_isFirstOfGroup_16 rfl (lv_at hl 1 rfl) ?_
    replace hm := ck_some hm
    obtain ⟨h4, hm⟩ := hm
    refine va_iald hx hb hKv hP 1 0 rfl rfl h4 dX3_isFirstOfGroup_17 ?_
    refine lv_iload_n hx hb dX3_isFirstOfGroup_18 rfl (lv_at hl 1 rfl) ?_
    replace hm := bd_some hm
    obtain ⟨e5, hc5, hm⟩ := hm
    refine kN_i (rest := []) S (c_X11_hasBelow l D cI cJ cZ cS (L_gr (Int32.toNatClampNeg x1)) x1 e5 hc5) k3 hK hP hD hS hA rfl hl.1 rfl (Nat.le_of_ble_eq_true rfl) ⟨Nat.zero_le _, Nat.zero_le _⟩ dX3_isFirstOfGroup_19 (fun H locs hP hD hS => ?_)
    refine lv_if_ne (tgt := 29) hx hb dX3_isFirstOfGroup_22 (by decide) (fun c6 => ?_) (fun c6 => ?_)
    · replace hm := if_f c6 hm
      exact J29  hm H locs ls hP hD hS (lv_sub hl [0] rfl)
    · replace hm := if_t c6 hm
      refine lv_iconst (v := 1) hx hb dX3_isFirstOfGroup_25 (by decide) ?_
      refine lv_goto (tgt := 30) hx hb dX3_isFirstOfGroup_26 (by decide) ?_
      exact J30 1 hm H locs ls hP hD hS (lv_sub hl [0] rfl)
set_option maxHeartbeats 4000000 in
set_option maxRecDepth 100000 in
theorem c_X3_perform (l : Launch) (D : va_G) (cI cJ cZ cS : ClassId) (aW aW_ac aW_fa aW_in aW_yr aW_ti aS aS_ke aS_di aA aA_or aA_nu aA_li aC aL aL_sh aL_wi aL_su aL_nk aL_gr : Nat) (W_n : Int32) (W_ac : Nat → Int32) (W_fa : Nat → Int32) (W_in : Nat → Int32) (W_yr : Nat → Int32) (S_st : Int32) (S_mi : Int32) (S_fi : Int32) (S_sp : Int32) (S_cl : Int32) (S_nu : Int32) (S_co : Int32) (A_or : Nat → Int32) (L_sh : Nat → Int32) (L_wi : Nat → Int32) (L_su : Nat → Int32) (L_nk : Nat → Int64) (L_gr : Nat → Int32) (x1 : Int32) (o : (Nat → Int32) × (Nat → Int32) × (Nat → Int32) × (Nat → Int64) × (Nat → Int32)) (hm : m_X3_perform W_n W_ac W_fa W_in W_yr S_mi S_fi A_or L_sh L_wi L_su L_nk L_gr x1 = some o) : MV l yX3_perform wsX3_perform rm_X3_perform D (TY cI cJ cZ cS) [.ref aL, .int x1] (w_X3_perform cI cJ cZ aW aW_ac aW_fa aW_in aW_yr aW_ti aS aS_ke aS_di aA aA_or aA_nu aA_li aC aL aL_sh aL_wi aL_su aL_nk aL_gr W_n W_ac W_fa W_in W_yr S_st S_mi S_fi S_sp S_cl S_nu S_co A_or L_sh L_wi L_su L_nk L_gr) (w_X3_perform cI cJ cZ aW aW_ac aW_fa aW_in aW_yr aW_ti aS aS_ke aS_di aA aA_or aA_nu aA_li aC aL aL_sh aL_wi aL_su aL_nk aL_gr W_n W_ac W_fa W_in W_yr S_st S_mi S_fi S_sp S_cl S_nu S_co A_or o.1 o.2.1 o.2.2.1 o.2.2.2.1 o.2.2.2.2) := by
  refine MV_of (cc := cX3_perform) (maxL := 3) (by decide) rfl (Nat.le_of_ble_eq_true rfl) ?_
  intro p e s m args below meth c A Q ls H locs hx hb hml hts hown hK hA hP hD hS hl hret
  have hown : s.vm.findClass RX3 = some m.cls := hown
  have hKv : va_K D vwCl (TY cI cJ cZ cS) s := hK.1
  have hl : lv_has ls 3 [(0, .ref aL), (1, .int x1)] := hl
  have S : CallFix p m c cX3_perform 3 s args wsX3_perform RX3 := ⟨hx, hb, hml, hown, hts⟩
  have k1 := hts (.fieldLink RX3 35 "CitationFormatter$Labels" "works" "LCitationFormatter$Works;") (by decide +kernel)
  have k2 : ∀ w ∈ wsX30, w ∈ wsX3_perform := by decide +kernel
  have k3 := hts (.fieldLink RX3 50 "CitationFormatter$Works" "count" "I") (by decide +kernel)
  have k4 : ∀ w ∈ wsX90, w ∈ wsX3_perform := by decide +kernel
  have k5 : CallW rm_X3_perform s args RX3 RX3 108 yX3_isFirstOfGroup cX3_isFirstOfGroup 2 (some .boolean) wsX3_isFirstOfGroup rm_X3_isFirstOfGroup 0 0 1 := cwV 1 hts gX3_perform_X3_isFirstOfGroup rfl rfl rfl (by decide +kernel) ⟨Nat.le_of_ble_eq_true rfl, Nat.le_of_ble_eq_true rfl⟩
  have k6 := hts (.fieldLink RX3 26 "CitationFormatter$Labels" "groups" "[I") (by decide +kernel)
  have k7 : CallW rm_X3_perform s args RX3 RX3 111 yX3_addNames cX3_addNames 6 none wsX3_addNames rm_X3_addNames 0 0 1 := cwV 1 hts gX3_perform_X3_addNames rfl rfl rfl (by decide +kernel) ⟨Nat.le_of_ble_eq_true rfl, Nat.le_of_ble_eq_true rfl⟩
  have k8 : CallW rm_X3_perform s args RX3 RX3 114 yX3_addInitials cX3_addInitials 2 none wsX3_addInitials rm_X3_addInitials 0 0 1 := cwV 1 hts gX3_perform_X3_addInitials rfl rfl rfl (by decide +kernel) ⟨Nat.le_of_ble_eq_true rfl, Nat.le_of_ble_eq_true rfl⟩
  have k9 : CallW rm_X3_perform s args RX3 RX3 117 yX3_addSuffixes cX3_addSuffixes 5 none wsX3_addSuffixes rm_X3_addSuffixes 0 0 1 := cwV 1 hts gX3_perform_X3_addSuffixes rfl rfl rfl (by decide +kernel) ⟨Nat.le_of_ble_eq_true rfl, Nat.le_of_ble_eq_true rfl⟩
  have k10 : CallW rm_X3_perform s args RX3 RX3 105 yX3_worksLabelledLike cX3_worksLabelledLike 4 (some .int) wsX3_worksLabelledLike rm_X3_worksLabelledLike 0 0 1 := cwV 1 hts gX3_perform_X3_worksLabelledLike rfl rfl rfl (by decide +kernel) ⟨Nat.le_of_ble_eq_true rfl, Nat.le_of_ble_eq_true rfl⟩
  refine lv_iconst (v := 0) hx hb dX3_perform_0 (by decide) ?_
  refine lv_istore_n (lv' := [(2, .int 0), (0, .ref aL), (1, .int x1)]) hx hb dX3_perform_1 rfl hl (by decide) rfl (fun ls hl => ?_)
  replace hm := bd_some hm
  obtain ⟨e1, hc1, hm⟩ := hm
  have X1_0 : ∀ (H : Heap) (locs : List Loc) (ls : Array Slot), va_P D vwCl (w_X3_perform cI cJ cZ aW aW_ac aW_fa aW_in aW_yr aW_ti aS aS_ke aS_di aA aA_or aA_nu aA_li aC aL aL_sh aL_wi aL_su aL_nk aL_gr W_n W_ac W_fa W_in W_yr S_st S_mi S_fi S_sp S_cl S_nu S_co A_or L_sh L_wi L_su L_nk e1) H → va_D A (w_X3_perform cI cJ cZ aW aW_ac aW_fa aW_in aW_yr aW_ti aS aS_ke aS_di aA aA_or aA_nu aA_li aC aL aL_sh aL_wi aL_su aL_nk aL_gr W_n W_ac W_fa W_in W_yr S_st S_mi S_fi S_sp S_cl S_nu S_co A_or L_sh L_wi L_su L_nk e1) → va_S A s.heap H locs → lv_has ls 3 [(0, .ref aL), (1, .int x1)] → W p l e rm_X3_perform s m args below meth c H locs 0 0 Q (F0 m 30 ls []) := by
    intro H locs ls hP hD hS hl
    refine lv_iconst (v := 0) hx hb dX3_perform_30 (by decide) ?_
    refine lv_istore_n (lv' := [(2, .int 0), (0, .ref aL), (1, .int x1)]) hx hb dX3_perform_31 rfl hl (by decide) rfl (fun ls hl => ?_)
    replace hm := bd_some hm
    obtain ⟨e2, hc2, hm⟩ := hm
    have X2_0 : ∀ (H : Heap) (locs : List Loc) (ls : Array Slot), va_P D vwCl (w_X3_perform cI cJ cZ aW aW_ac aW_fa aW_in aW_yr aW_ti aS aS_ke aS_di aA aA_or aA_nu aA_li aC aL aL_sh aL_wi aL_su aL_nk aL_gr W_n W_ac W_fa W_in W_yr S_st S_mi S_fi S_sp S_cl S_nu S_co A_or e2.1 e2.2.1 e2.2.2.1 e2.2.2.2 e1) H → va_D A (w_X3_perform cI cJ cZ aW aW_ac aW_fa aW_in aW_yr aW_ti aS aS_ke aS_di aA aA_or aA_nu aA_li aC aL aL_sh aL_wi aL_su aL_nk aL_gr W_n W_ac W_fa W_in W_yr S_st S_mi S_fi S_sp S_cl S_nu S_co A_or e2.1 e2.2.1 e2.2.2.1 e2.2.2.2 e1) → va_S A s.heap H locs → lv_has ls 3 [(0, .ref aL)] → W p l e rm_X3_perform s m args below meth c H locs 0 0 Q (F0 m 122 ls []) := by
      intro H locs ls hP hD hS hl
      have h9 := Option.some.inj hm
      subst h9
      exact hret H locs _ ls hP hD hS dX3_perform_122
    refine it_W (G := fun (st32 : Int32 × (Nat → Int32) × (Nat → Int32) × (Nat → Int32) × (Nat → Int64)) => ∀ (H : Heap) (locs : List Loc) (ls : Array Slot), va_P D vwCl (w_X3_perform cI cJ cZ aW aW_ac aW_fa aW_in aW_yr aW_ti aS aS_ke aS_di aA aA_or aA_nu aA_li aC aL aL_sh aL_wi aL_su aL_nk aL_gr W_n W_ac W_fa W_in W_yr S_st S_mi S_fi S_sp S_cl S_nu S_co A_or st32.2.1 st32.2.2.1 st32.2.2.2.1 st32.2.2.2.2 e1) H → va_D A (w_X3_perform cI cJ cZ aW aW_ac aW_fa aW_in aW_yr aW_ti aS aS_ke aS_di aA aA_or aA_nu aA_li aC aL aL_sh aL_wi aL_su aL_nk aL_gr W_n W_ac W_fa W_in W_yr S_st S_mi S_fi S_sp S_cl S_nu S_co A_or st32.2.1 st32.2.2.1 st32.2.2.2.1 st32.2.2.2.2 e1) → va_S A s.heap H locs → lv_has ls 3 [(0, .ref aL), (1, .int x1), (2, .int st32.1)] → W p l e rm_X3_perform s m args below meth c H locs 0 0 Q (F0 m 32 ls [])) (e := e2) (fun st32 x hm hG hE => ?_) fu _ hc2 H locs ls hP hD hS (lv_sub hl [1, 2, 0] rfl)
    intro H locs ls hP hD hS hl
    have J116 : ∀ (x2_j116 : Int32) (L_sh_j116 : Nat → Int32) (L_wi_j116 : Nat → Int32) (L_su_j116 : Nat → Int32) (L_nk_j116 : Nat → Int64), (m_X3_perform_J116 x1 x2_j116 L_sh_j116 L_wi_j116 L_su_j116 L_nk_j116 = some x) → ∀ (H : Heap) (locs : List Loc) (ls : Array Slot), va_P D vwCl (w_X3_perform cI cJ cZ aW aW_ac aW_fa aW_in aW_yr aW_ti aS aS_ke aS_di aA aA_or aA_nu aA_li aC aL aL_sh aL_wi aL_su aL_nk aL_gr W_n W_ac W_fa W_in W_yr S_st S_mi S_fi S_sp S_cl S_nu S_co A_or L_sh_j116 L_wi_j116 L_su_j116 L_nk_j116 e1) H → va_D A (w_X3_perform cI cJ cZ aW aW_ac aW_fa aW_in aW_yr aW_ti aS aS_ke aS_di aA aA_or aA_nu aA_li aC aL aL_sh aL_wi aL_su aL_nk aL_gr W_n W_ac W_fa W_in W_yr S_st S_mi S_fi S_sp S_cl S_nu S_co A_or L_sh_j116 L_wi_j116 L_su_j116 L_nk_j116 e1) → va_S A s.heap H locs → lv_has ls 3 [(0, .ref aL), (1, .int x1), (2, .int x2_j116)] → W p l e rm_X3_perform s m args below meth c H locs 0 0 Q (F0 m 116 ls []) := by
      intro x2_j116 L_sh_j116 L_wi_j116 L_su_j116 L_nk_j116 hm H locs ls hP hD hS hl
      refine lv_iinc (v := (x2_j116 + 1)) (lv' := [(2, .int (x2_j116 + 1)), (0, .ref aL), (1, .int x1)]) hx hb dX3_perform_116 hl (k := 2) rfl rfl (by decide) rfl (fun ls hl => ?_)
      refine lv_goto (tgt := 32) hx hb dX3_perform_119 (by decide) ?_
      exact hG _ (Option.some.inj hm).symm H locs ls hP hD hS (lv_sub hl [1, 2, 0] rfl)
    refine lv_iload_n hx hb dX3_perform_32 rfl (lv_at hl 2 rfl) ?_
    refine lv_aload_n hx hb dX3_perform_33 rfl (lv_at hl 0 rfl) ?_
    refine va_get (D := D) (ci := 3) (v := .ref aW) (C := RX3) (T := TX3) (N := 8) hx hb hts k2 hown hKv hP 8 rfl rfl 3 (by decide) k1 (fun _ h9 => h9) rfl dX3_perform_34 ?_
    refine va_get (D := D) (ci := 9) (v := .int W_n) (C := RX9) (T := TX9) (N := 6) hx hb hts k4 hown hKv hP 0 rfl rfl 0 (by decide) k3 (fun _ h9 => h9) rfl dX3_perform_37 ?_
    refine lv_icmp_ge (tgt := 122) hx hb dX3_perform_40 (by decide) (fun c3 => ?_) (fun c3 => ?_)
    · replace hm := if_t c3 hm
      have h9 := hE _ (Option.some.inj hm).symm
      subst h9
      exact X2_0 H locs ls hP hD hS (lv_sub hl [0] rfl)
    · replace hm := if_f c3 hm
      refine lv_aload_n hx hb dX3_perform_43 rfl (lv_at hl 0 rfl) ?_
      refine lv_iload_n hx hb dX3_perform_44 rfl (lv_at hl 2 rfl) ?_
      replace hm := bd_some hm
      obtain ⟨e4, hc4, hm⟩ := hm
      refine kV_i (rest := []) (ws' := (w_X3_perform cI cJ cZ aW aW_ac aW_fa aW_in aW_yr aW_ti aS aS_ke aS_di aA aA_or aA_nu aA_li aC aL aL_sh aL_wi aL_su aL_nk aL_gr W_n W_ac W_fa W_in W_yr S_st S_mi S_fi S_sp S_cl S_nu S_co A_or st32.2.1 st32.2.2.1 st32.2.2.2.1 st32.2.2.2.2 e1)) S (c_X3_isFirstOfGroup l D cI cJ cZ cS aL aL_sh aL_wi aL_su aW aS aA aL_nk aL_gr e1 st32.1 e4 hc4) k5 hK hP hD hS hA 8 rfl rfl rfl rfl hl.1 rfl (Nat.le_of_ble_eq_true rfl) ⟨Nat.zero_le _, Nat.zero_le _⟩ dX3_perform_45 [8, 13] rfl rfl wa_X3_isFirstOfGroup (sa_eq [(aW, .inr (9, [.int W_n, .ref aW_ac, .ref aW_fa, .ref aW_in, .ref aW_yr, .ref aW_ti])), (aW_ac, .inl (cI, 8, .inl W_ac)), (aW_fa, .inl (cI, 32, .inl W_fa)), (aW_in, .inl (cI, 32, .inl W_in)), (aW_yr, .inl (cI, 8, .inl W_yr)), (aS, .inr (6, [.int S_st, .int S_mi, .int S_fi, .int S_sp, .int S_cl, .int S_nu, .int S_co, .ref aS_ke, .ref aS_di])), (aA, .inr (0, [.ref aA_or, .ref aA_nu, .ref aA_li, .ref aW, .ref aS, .ref aC])), (aA_or, .inl (cI, 8, .inl A_or)), (aL_sh, .inl (cI, 8, .inl st32.2.1)), (aL_wi, .inl (cZ, 8, .inl st32.2.2.1)), (aL_su, .inl (cI, 8, .inl st32.2.2.2.1)), (aL_nk, .inl (cJ, 8, .inr (.inl st32.2.2.2.2)))] [0, 1, 2, 3, 4, 5, 6, 7, 9, 10, 11, 12] 14 rfl rfl rfl rfl rfl rfl rfl) (fun H locs hP hD hS => ?_)
      refine lv_if_ne (tgt := 54) hx hb dX3_perform_48 (by decide) (fun c5 => ?_) (fun c5 => ?_)
      · replace hm := if_f c5 hm
        refine lv_iload_n hx hb dX3_perform_54 rfl (lv_at hl 1 rfl) ?_
        by_cases c6 : x1 = 1
        · replace hm := if_t c6 hm
          refine lv_lookup (tgt := 80) hx hb dX3_perform_55 (by decide) (by first | (rw [c6]; done) | (rw [c6]; rfl)) (by decide) ?_
          refine lv_aload_n hx hb dX3_perform_80 rfl (lv_at hl 0 rfl) ?_
          refine lv_aload_n hx hb dX3_perform_81 rfl (lv_at hl 0 rfl) ?_
          refine va_get (D := D) (ci := 3) (v := .ref aL_gr) (C := RX3) (T := TX3) (N := 8) hx hb hts k2 hown hKv hP 8 rfl rfl 7 (by decide) k6 (fun _ h9 => h9) rfl dX3_perform_82 ?_
          refine lv_iload_n hx hb dX3_perform_85 rfl (lv_at hl 2 rfl) ?_
          replace hm := ck_some hm
          obtain ⟨h7, hm⟩ := hm
          refine va_iald hx hb hKv hP 13 0 rfl rfl h7 dX3_perform_86 ?_
          replace hm := bd_some hm
          obtain ⟨e8, hc8, hm⟩ := hm
          refine kV_v (rest := []) (ws' := (w_X3_perform cI cJ cZ aW aW_ac aW_fa aW_in aW_yr aW_ti aS aS_ke aS_di aA aA_or aA_nu aA_li aC aL aL_sh aL_wi aL_su aL_nk aL_gr W_n W_ac W_fa W_in W_yr S_st S_mi S_fi S_sp S_cl S_nu S_co A_or e8.1 e8.2.1 st32.2.2.2.1 e8.2.2 e1)) S (c_X3_addNames l D cI cJ cZ cS aW aW_ac aW_fa aW_in aW_yr aW_ti aS aS_ke aS_di aL aL_sh aL_wi aL_su aA aL_nk aL_gr W_n W_ac W_fa W_in W_yr S_st S_mi S_fi S_sp S_cl S_nu S_co st32.2.1 st32.2.2.1 st32.2.2.2.1 st32.2.2.2.2 (e1 (Int32.toNatClampNeg st32.1)) e8 hc8) k7 hK hP hD hS hA 8 rfl rfl rfl rfl hl.1 rfl (Nat.le_of_ble_eq_true rfl) ⟨Nat.zero_le _, Nat.zero_le _⟩ dX3_perform_87 [0, 1, 2, 3, 4, 5, 8, 9, 10, 11, 12] rfl rfl wa_X3_addNames (sa_eq [(aA, .inr (0, [.ref aA_or, .ref aA_nu, .ref aA_li, .ref aW, .ref aS, .ref aC])), (aA_or, .inl (cI, 8, .inl A_or)), (aL_gr, .inl (cI, 8, .inl e1))] [6, 7, 13] 14 rfl rfl rfl rfl rfl rfl rfl) (fun H locs hP hD hS => ?_)
          refine lv_goto (tgt := 116) hx hb dX3_perform_90 (by decide) ?_
          exact J116 st32.1 e8.1 e8.2.1 st32.2.2.2.1 e8.2.2 hm H locs ls hP hD hS (lv_sub hl [0, 1, 2] rfl)
        · replace hm := if_f c6 hm
          by_cases c9 : x1 = 2
          · replace hm := if_t c9 hm
            refine lv_lookup (tgt := 93) hx hb dX3_perform_55 (by decide) (by first | (rw [c9]; done) | (rw [c9]; rfl)) (by decide) ?_
            refine lv_aload_n hx hb dX3_perform_93 rfl (lv_at hl 0 rfl) ?_
            refine lv_aload_n hx hb dX3_perform_94 rfl (lv_at hl 0 rfl) ?_
            refine va_get (D := D) (ci := 3) (v := .ref aL_gr) (C := RX3) (T := TX3) (N := 8) hx hb hts k2 hown hKv hP 8 rfl rfl 7 (by decide) k6 (fun _ h9 => h9) rfl dX3_perform_95 ?_
            refine lv_iload_n hx hb dX3_perform_98 rfl (lv_at hl 2 rfl) ?_
            replace hm := ck_some hm
            obtain ⟨h10, hm⟩ := hm
            refine va_iald hx hb hKv hP 13 0 rfl rfl h10 dX3_perform_99 ?_
            replace hm := bd_some hm
            obtain ⟨e11, hc11, hm⟩ := hm
            refine kV_v (rest := []) (ws' := (w_X3_perform cI cJ cZ aW aW_ac aW_fa aW_in aW_yr aW_ti aS aS_ke aS_di aA aA_or aA_nu aA_li aC aL aL_sh aL_wi aL_su aL_nk aL_gr W_n W_ac W_fa W_in W_yr S_st S_mi S_fi S_sp S_cl S_nu S_co A_or e11.1 e11.2.1 st32.2.2.2.1 e11.2.2 e1)) S (c_X3_addInitials l D cI cJ cZ cS aW aW_ac aW_fa aW_in aW_yr aW_ti aL aL_sh aL_wi aL_su aS aA aL_nk aL_gr W_n W_ac W_fa W_in W_yr st32.2.1 st32.2.2.1 st32.2.2.2.1 st32.2.2.2.2 (e1 (Int32.toNatClampNeg st32.1)) e11 hc11) k8 hK hP hD hS hA 8 rfl rfl rfl rfl hl.1 rfl (Nat.le_of_ble_eq_true rfl) ⟨Nat.zero_le _, Nat.zero_le _⟩ dX3_perform_100 [0, 1, 2, 3, 4, 8, 9, 10, 11, 12] rfl rfl wa_X3_addInitials (sa_eq [(aS, .inr (6, [.int S_st, .int S_mi, .int S_fi, .int S_sp, .int S_cl, .int S_nu, .int S_co, .ref aS_ke, .ref aS_di])), (aA, .inr (0, [.ref aA_or, .ref aA_nu, .ref aA_li, .ref aW, .ref aS, .ref aC])), (aA_or, .inl (cI, 8, .inl A_or)), (aL_gr, .inl (cI, 8, .inl e1))] [5, 6, 7, 13] 14 rfl rfl rfl rfl rfl rfl rfl) (fun H locs hP hD hS => ?_)
            refine lv_goto (tgt := 116) hx hb dX3_perform_103 (by decide) ?_
            exact J116 st32.1 e11.1 e11.2.1 st32.2.2.2.1 e11.2.2 hm H locs ls hP hD hS (lv_sub hl [0, 1, 2] rfl)
          · replace hm := if_f c9 hm
            refine lv_lookup (tgt := 106) hx hb dX3_perform_55 (by decide) (lk_out_1_2 c6 c9) (by decide) ?_
            refine lv_aload_n hx hb dX3_perform_106 rfl (lv_at hl 0 rfl) ?_
            refine lv_aload_n hx hb dX3_perform_107 rfl (lv_at hl 0 rfl) ?_
            refine va_get (D := D) (ci := 3) (v := .ref aL_gr) (C := RX3) (T := TX3) (N := 8) hx hb hts k2 hown hKv hP 8 rfl rfl 7 (by decide) k6 (fun _ h9 => h9) rfl dX3_perform_108 ?_
            refine lv_iload_n hx hb dX3_perform_111 rfl (lv_at hl 2 rfl) ?_
            replace hm := ck_some hm
            obtain ⟨h12, hm⟩ := hm
            refine va_iald hx hb hKv hP 13 0 rfl rfl h12 dX3_perform_112 ?_
            replace hm := bd_some hm
            obtain ⟨e13, hc13, hm⟩ := hm
            refine kV_v (rest := []) (ws' := (w_X3_perform cI cJ cZ aW aW_ac aW_fa aW_in aW_yr aW_ti aS aS_ke aS_di aA aA_or aA_nu aA_li aC aL aL_sh aL_wi aL_su aL_nk aL_gr W_n W_ac W_fa W_in W_yr S_st S_mi S_fi S_sp S_cl S_nu S_co A_or st32.2.1 st32.2.2.1 e13 st32.2.2.2.2 e1)) S (c_X3_addSuffixes l D cI cJ cZ cS aW aW_ac aW_fa aW_in aW_yr aW_ti aA aA_or aA_nu aA_li aS aC aL aL_sh aL_wi aL_su aL_nk aL_gr W_n A_or st32.2.2.2.1 (e1 (Int32.toNatClampNeg st32.1)) e13 hc13) k9 hK hP hD hS hA 8 rfl rfl rfl rfl hl.1 rfl (Nat.le_of_ble_eq_true rfl) ⟨Nat.zero_le _, Nat.zero_le _⟩ dX3_perform_113 [0, 6, 7, 8, 11] rfl rfl wa_X3_addSuffixes (sa_eq [(aW_ac, .inl (cI, 8, .inl W_ac)), (aW_fa, .inl (cI, 32, .inl W_fa)), (aW_in, .inl (cI, 32, .inl W_in)), (aW_yr, .inl (cI, 8, .inl W_yr)), (aS, .inr (6, [.int S_st, .int S_mi, .int S_fi, .int S_sp, .int S_cl, .int S_nu, .int S_co, .ref aS_ke, .ref aS_di])), (aL_sh, .inl (cI, 8, .inl st32.2.1)), (aL_wi, .inl (cZ, 8, .inl st32.2.2.1)), (aL_nk, .inl (cJ, 8, .inr (.inl st32.2.2.2.2))), (aL_gr, .inl (cI, 8, .inl e1))] [1, 2, 3, 4, 5, 9, 10, 12, 13] 14 rfl rfl rfl rfl rfl rfl rfl) (fun H locs hP hD hS => ?_)
            exact J116 st32.1 st32.2.1 st32.2.2.1 e13 st32.2.2.2.2 hm H locs ls hP hD hS (lv_sub hl [0, 1, 2] rfl)
      · replace hm := if_t c5 hm
        refine lv_goto (tgt := 116) hx hb dX3_perform_51 (by decide) ?_
        exact J116 st32.1 st32.2.1 st32.2.2.1 st32.2.2.2.1 st32.2.2.2.2 hm H locs ls hP hD hS (lv_sub hl [0, 1, 2] rfl)
  refine it_W (G := fun (st2 : Int32 × (Nat → Int32)) => ∀ (H : Heap) (locs : List Loc) (ls : Array Slot), va_P D vwCl (w_X3_perform cI cJ cZ aW aW_ac aW_fa aW_in aW_yr aW_ti aS aS_ke aS_di aA aA_or aA_nu aA_li aC aL aL_sh aL_wi aL_su aL_nk aL_gr W_n W_ac W_fa W_in W_yr S_st S_mi S_fi S_sp S_cl S_nu S_co A_or L_sh L_wi L_su L_nk st2.2) H → va_D A (w_X3_perform cI cJ cZ aW aW_ac aW_fa aW_in aW_yr aW_ti aS aS_ke aS_di aA aA_or aA_nu aA_li aC aL aL_sh aL_wi aL_su aL_nk aL_gr W_n W_ac W_fa W_in W_yr S_st S_mi S_fi S_sp S_cl S_nu S_co A_or L_sh L_wi L_su L_nk st2.2) → va_S A s.heap H locs → lv_has ls 3 [(0, .ref aL), (1, .int x1), (2, .int st2.1)] → W p l e rm_X3_perform s m args below meth c H locs 0 0 Q (F0 m 2 ls [])) (e := e1) (fun st2 x hm hG hE => ?_) fu _ hc1 H locs ls hP hD hS (lv_sub hl [1, 2, 0] rfl)
  intro H locs ls hP hD hS hl
  refine lv_iload_n hx hb dX3_perform_2 rfl (lv_at hl 2 rfl) ?_
  refine lv_aload_n hx hb dX3_perform_3 rfl (lv_at hl 0 rfl) ?_
  refine va_get (D := D) (ci := 3) (v := .ref aW) (C := RX3) (T := TX3) (N := 8) hx hb hts k2 hown hKv hP 8 rfl rfl 3 (by decide) k1 (fun _ h9 => h9) rfl dX3_perform_4 ?_
  refine va_get (D := D) (ci := 9) (v := .int W_n) (C := RX9) (T := TX9) (N := 6) hx hb hts k4 hown hKv hP 0 rfl rfl 0 (by decide) k3 (fun _ h9 => h9) rfl dX3_perform_7 ?_
  refine lv_icmp_ge (tgt := 30) hx hb dX3_perform_10 (by decide) (fun c14 => ?_) (fun c14 => ?_)
  · replace hm := if_t c14 hm
    have h9 := hE _ (Option.some.inj hm).symm
    subst h9
    exact X1_0 H locs ls hP hD hS (lv_sub hl [0, 1] rfl)
  · replace hm := if_f c14 hm
    refine lv_aload_n hx hb dX3_perform_13 rfl (lv_at hl 0 rfl) ?_
    refine va_get (D := D) (ci := 3) (v := .ref aL_gr) (C := RX3) (T := TX3) (N := 8) hx hb hts k2 hown hKv hP 8 rfl rfl 7 (by decide) k6 (fun _ h9 => h9) rfl dX3_perform_14 ?_
    refine lv_iload_n hx hb dX3_perform_17 rfl (lv_at hl 2 rfl) ?_
    refine lv_aload_n hx hb dX3_perform_18 rfl (lv_at hl 0 rfl) ?_
    refine lv_iload_n hx hb dX3_perform_19 rfl (lv_at hl 2 rfl) ?_
    replace hm := bd_some hm
    obtain ⟨e15, hc15, hm⟩ := hm
    refine kV_i (rest := [.int st2.1, .ref aL_gr]) (ws' := (w_X3_perform cI cJ cZ aW aW_ac aW_fa aW_in aW_yr aW_ti aS aS_ke aS_di aA aA_or aA_nu aA_li aC aL aL_sh aL_wi aL_su aL_nk aL_gr W_n W_ac W_fa W_in W_yr S_st S_mi S_fi S_sp S_cl S_nu S_co A_or L_sh L_wi L_su L_nk st2.2)) S (c_X3_worksLabelledLike l D cI cJ cZ cS aW aW_ac aW_fa aW_in aW_yr aW_ti aL aL_sh aL_wi aL_su aS aA aL_nk aL_gr W_n W_yr L_su L_nk st2.1 e15 hc15) k10 hK hP hD hS hA 8 rfl rfl rfl rfl hl.1 rfl (Nat.le_of_ble_eq_true rfl) ⟨Nat.zero_le _, Nat.zero_le _⟩ dX3_perform_20 [0, 4, 8, 11, 12] rfl rfl wa_X3_worksLabelledLike (sa_eq [(aW_ac, .inl (cI, 8, .inl W_ac)), (aW_fa, .inl (cI, 32, .inl W_fa)), (aW_in, .inl (cI, 32, .inl W_in)), (aS, .inr (6, [.int S_st, .int S_mi, .int S_fi, .int S_sp, .int S_cl, .int S_nu, .int S_co, .ref aS_ke, .ref aS_di])), (aA, .inr (0, [.ref aA_or, .ref aA_nu, .ref aA_li, .ref aW, .ref aS, .ref aC])), (aA_or, .inl (cI, 8, .inl A_or)), (aL_sh, .inl (cI, 8, .inl L_sh)), (aL_wi, .inl (cZ, 8, .inl L_wi)), (aL_gr, .inl (cI, 8, .inl st2.2))] [1, 2, 3, 5, 6, 7, 9, 10, 13] 14 rfl rfl rfl rfl rfl rfl rfl) (fun H locs hP hD hS => ?_)
    replace hm := ck_some hm
    obtain ⟨h16, hm⟩ := hm
    refine va_iast hx hb hKv hP hD hS 13 0 rfl rfl h16 dX3_perform_23 (fun H locs hP hD hS => ?_)
    replace hP : va_P D vwCl (w_X3_perform cI cJ cZ aW aW_ac aW_fa aW_in aW_yr aW_ti aS aS_ke aS_di aA aA_or aA_nu aA_li aC aL aL_sh aL_wi aL_su aL_nk aL_gr W_n W_ac W_fa W_in W_yr S_st S_mi S_fi S_sp S_cl S_nu S_co A_or L_sh L_wi L_su L_nk (upd st2.2 (Int32.toNatClampNeg st2.1) e15)) H := hP
    replace hD : va_D A (w_X3_perform cI cJ cZ aW aW_ac aW_fa aW_in aW_yr aW_ti aS aS_ke aS_di aA aA_or aA_nu aA_li aC aL aL_sh aL_wi aL_su aL_nk aL_gr W_n W_ac W_fa W_in W_yr S_st S_mi S_fi S_sp S_cl S_nu S_co A_or L_sh L_wi L_su L_nk (upd st2.2 (Int32.toNatClampNeg st2.1) e15)) := hD
    refine lv_iinc (v := (st2.1 + 1)) (lv' := [(2, .int (st2.1 + 1)), (0, .ref aL), (1, .int x1)]) hx hb dX3_perform_24 hl (k := 2) rfl rfl (by decide) rfl (fun ls hl => ?_)
    refine lv_goto (tgt := 2) hx hb dX3_perform_27 (by decide) ?_
    exact hG _ (Option.some.inj hm).symm H locs ls hP hD hS (lv_sub hl [1, 2, 0] rfl)
set_option maxHeartbeats 4000000 in
set_option maxRecDepth 100000 in
theorem c_X3_update (l : Launch) (D : va_G) (cI cJ cZ cS : ClassId) (aW aW_ac aW_fa aW_in aW_yr aW_ti aS aS_ke aS_di aC aC_sz aC_cd aA aA_or aA_nu aA_li aL aL_sh aL_wi aL_su aL_nk aL_gr : Nat) (W_n : Int32) (W_ac : Nat → Int32) (W_fa : Nat → Int32) (W_in : Nat → Int32) (W_yr : Nat → Int32) (W_ti : Nat → Int32) (S_st : Int32) (S_mi : Int32) (S_fi : Int32) (S_sp : Int32) (S_cl : Int32) (S_nu : Int32) (S_co : Int32) (S_ke : Nat → Int32) (S_di : Nat → Int32) (C_n : Int32) (C_sz : Nat → Int32) (C_cd : Nat → Int32) (A_or : Nat → Int32) (A_nu : Nat → Int32) (A_li : Nat → Int32) (L_sh : Nat → Int32) (L_wi : Nat → Int32) (L_su : Nat → Int32) (L_nk : Nat → Int64) (L_gr : Nat → Int32) (o : (Nat → Int32) × (Nat → Int32) × (Nat → Int32) × (Nat → Int32) × (Nat → Int32) × (Nat → Int32) × (Nat → Int64) × (Nat → Int32)) (hm : m_X3_update W_n W_ac W_fa W_in W_yr W_ti S_st S_mi S_fi S_sp S_nu S_ke S_di C_n C_sz C_cd A_or A_nu A_li L_sh L_wi L_su L_nk L_gr = some o) : MV l yX3_update wsX3_update rm_X3_update D (TY cI cJ cZ cS) [.ref aL] (w_X3_update cI cJ cZ aW aW_ac aW_fa aW_in aW_yr aW_ti aS aS_ke aS_di aC aC_sz aC_cd aA aA_or aA_nu aA_li aL aL_sh aL_wi aL_su aL_nk aL_gr W_n W_ac W_fa W_in W_yr W_ti S_st S_mi S_fi S_sp S_cl S_nu S_co S_ke S_di C_n C_sz C_cd A_or A_nu A_li L_sh L_wi L_su L_nk L_gr) (w_X3_update cI cJ cZ aW aW_ac aW_fa aW_in aW_yr aW_ti aS aS_ke aS_di aC aC_sz aC_cd aA aA_or aA_nu aA_li aL aL_sh aL_wi aL_su aL_nk aL_gr W_n W_ac W_fa W_in W_yr W_ti S_st S_mi S_fi S_sp S_cl S_nu S_co S_ke S_di C_n C_sz C_cd o.1 o.2.1 o.2.2.1 o.2.2.2.1 o.2.2.2.2.1 o.2.2.2.2.2.1 o.2.2.2.2.2.2.1 o.2.2.2.2.2.2.2) := by
  refine MV_of (cc := cX3_update) (maxL := 2) (by decide) rfl (Nat.le_of_ble_eq_true rfl) ?_
  intro p e s m args below meth c A Q ls H locs hx hb hml hts hown hK hA hP hD hS hl hret
  have hown : s.vm.findClass RX3 = some m.cls := hown
  have hKv : va_K D vwCl (TY cI cJ cZ cS) s := hK.1
  have hl : lv_has ls 2 [(0, .ref aL)] := hl
  have S : CallFix p m c cX3_update 2 s args wsX3_update RX3 := ⟨hx, hb, hml, hown, hts⟩
  have k1 := hts (.fieldLink RX3 41 "CitationFormatter$Labels" "arrangement" "LCitationFormatter$Arrangement;") (by decide +kernel)
  have k2 : ∀ w ∈ wsX30, w ∈ wsX3_update := by decide +kernel
  have k3 : CallW rm_X3_update s args RX3 RX0 45 yX0_update cX0_update 3 none wsX0_update rm_X0_update 0 0 0 := cwV 0 hts gX3_update_X0_update rfl rfl rfl (by decide +kernel) ⟨Nat.le_of_ble_eq_true rfl, Nat.le_of_ble_eq_true rfl⟩
  have k4 := hts (.fieldLink RX3 40 "CitationFormatter$Labels" "settings" "LCitationFormatter$Settings;") (by decide +kernel)
  have k5 := hts (.fieldLink RX3 64 "CitationFormatter$Settings" "steps" "I") (by decide +kernel)
  have k6 : ∀ w ∈ wsX60, w ∈ wsX3_update := by decide +kernel
  have k7 : CallW rm_X3_update s args RX3 RX3 69 yX3_perform cX3_perform 3 none wsX3_perform rm_X3_perform 0 0 1 := cwV 1 hts gX3_update_X3_perform rfl rfl rfl (by decide +kernel) ⟨Nat.le_of_ble_eq_true rfl, Nat.le_of_ble_eq_true rfl⟩
  have k8 := hts (.fieldLink RX3 35 "CitationFormatter$Labels" "works" "LCitationFormatter$Works;") (by decide +kernel)
  have k9 := hts (.fieldLink RX3 50 "CitationFormatter$Works" "count" "I") (by decide +kernel)
  have k10 : ∀ w ∈ wsX90, w ∈ wsX3_update := by decide +kernel
  have k11 : CallW rm_X3_update s args RX3 RX3 56 yX3_initiallyShown cX3_initiallyShown 3 (some .int) wsX3_initiallyShown rm_X3_initiallyShown 0 0 1 := cwV 1 hts gX3_update_X3_initiallyShown rfl rfl rfl (by decide +kernel) ⟨Nat.le_of_ble_eq_true rfl, Nat.le_of_ble_eq_true rfl⟩
  have k12 : CallW rm_X3_update s args RX3 RX3 60 yX3_show cX3_show 10 none wsX3_show rm_X3_show 0 0 3 := cwV 3 hts gX3_update_X3_show rfl rfl rfl (by decide +kernel) ⟨Nat.le_of_ble_eq_true rfl, Nat.le_of_ble_eq_true rfl⟩
  have k13 := hts (.fieldLink RX3 19 "CitationFormatter$Labels" "suffixes" "[I") (by decide +kernel)
  refine lv_aload_n hx hb dX3_update_0 rfl (lv_at hl 0 rfl) ?_
  refine va_get (D := D) (ci := 3) (v := .ref aA) (C := RX3) (T := TX3) (N := 8) hx hb hts k2 hown hKv hP 16 rfl rfl 5 (by decide) k1 (fun _ h9 => h9) rfl dX3_update_1 ?_
  replace hm := bd_some hm
  obtain ⟨e1, hc1, hm⟩ := hm
  refine kV_v (rest := []) (ws' := (w_X3_update cI cJ cZ aW aW_ac aW_fa aW_in aW_yr aW_ti aS aS_ke aS_di aC aC_sz aC_cd aA aA_or aA_nu aA_li aL aL_sh aL_wi aL_su aL_nk aL_gr W_n W_ac W_fa W_in W_yr W_ti S_st S_mi S_fi S_sp S_cl S_nu S_co S_ke S_di C_n C_sz C_cd e1.1 e1.2.1 e1.2.2 L_sh L_wi L_su L_nk L_gr)) S (c_X0_update l D cI cJ cZ cS aW aW_ac aW_fa aW_in aW_yr aW_ti aS aS_ke aS_di aC aC_sz aC_cd aA aA_or aA_nu aA_li W_n W_ac W_fa W_in W_yr W_ti S_st S_mi S_fi S_sp S_cl S_nu S_co S_ke S_di C_n C_sz C_cd A_or A_nu A_li e1 hc1) k3 hK hP hD hS hA 12 rfl rfl rfl rfl hl.1 rfl (Nat.le_of_ble_eq_true rfl) ⟨Nat.zero_le _, Nat.zero_le _⟩ dX3_update_4 [0, 1, 2, 3, 4, 5, 6, 7, 8, 9, 10, 11, 12, 13, 14, 15] rfl rfl wa_X0_update (sa_eq [(aL, .inr (3, [.ref aL_sh, .ref aL_wi, .ref aL_su, .ref aW, .ref aS, .ref aA, .ref aL_nk, .ref aL_gr])), (aL_sh, .inl (cI, 8, .inl L_sh)), (aL_wi, .inl (cZ, 8, .inl L_wi)), (aL_su, .inl (cI, 8, .inl L_su)), (aL_nk, .inl (cJ, 8, .inr (.inl L_nk))), (aL_gr, .inl (cI, 8, .inl L_gr))] [16, 17, 18, 19, 20, 21] 22 rfl rfl rfl rfl rfl rfl rfl) (fun H locs hP hD hS => ?_)
  refine lv_iconst (v := 0) hx hb dX3_update_7 (by decide) ?_
  refine lv_istore_n (lv' := [(1, .int 0), (0, .ref aL)]) hx hb dX3_update_8 rfl hl (by decide) rfl (fun ls hl => ?_)
  replace hm := bd_some hm
  obtain ⟨e2, hc2, hm⟩ := hm
  have X2_0 : ∀ (H : Heap) (locs : List Loc) (ls : Array Slot), va_P D vwCl (w_X3_update cI cJ cZ aW aW_ac aW_fa aW_in aW_yr aW_ti aS aS_ke aS_di aC aC_sz aC_cd aA aA_or aA_nu aA_li aL aL_sh aL_wi aL_su aL_nk aL_gr W_n W_ac W_fa W_in W_yr W_ti S_st S_mi S_fi S_sp S_cl S_nu S_co S_ke S_di C_n C_sz C_cd e1.1 e1.2.1 e1.2.2 e2.1 e2.2.1 e2.2.2.1 e2.2.2.2 L_gr) H → va_D A (w_X3_update cI cJ cZ aW aW_ac aW_fa aW_in aW_yr aW_ti aS aS_ke aS_di aC aC_sz aC_cd aA aA_or aA_nu aA_li aL aL_sh aL_wi aL_su aL_nk aL_gr W_n W_ac W_fa W_in W_yr W_ti S_st S_mi S_fi S_sp S_cl S_nu S_co S_ke S_di C_n C_sz C_cd e1.1 e1.2.1 e1.2.2 e2.1 e2.2.1 e2.2.2.1 e2.2.2.2 L_gr) → va_S A s.heap H locs → lv_has ls 2 [(0, .ref aL)] → W p l e rm_X3_update s m args below meth c H locs 0 0 Q (F0 m 44 ls []) := by
    intro H locs ls hP hD hS hl
    refine lv_iconst (v := 1) hx hb dX3_update_44 (by decide) ?_
    refine lv_istore_n (lv' := [(1, .int 1), (0, .ref aL)]) hx hb dX3_update_45 rfl hl (by decide) rfl (fun ls hl => ?_)
    replace hm := bd_some hm
    obtain ⟨e3, hc3, hm⟩ := hm
    have X3_0 : ∀ (H : Heap) (locs : List Loc) (ls : Array Slot), va_P D vwCl (w_X3_update cI cJ cZ aW aW_ac aW_fa aW_in aW_yr aW_ti aS aS_ke aS_di aC aC_sz aC_cd aA aA_or aA_nu aA_li aL aL_sh aL_wi aL_su aL_nk aL_gr W_n W_ac W_fa W_in W_yr W_ti S_st S_mi S_fi S_sp S_cl S_nu S_co S_ke S_di C_n C_sz C_cd e1.1 e1.2.1 e1.2.2 e3.1 e3.2.1 e3.2.2.1 e3.2.2.2.1 e3.2.2.2.2) H → va_D A (w_X3_update cI cJ cZ aW aW_ac aW_fa aW_in aW_yr aW_ti aS aS_ke aS_di aC aC_sz aC_cd aA aA_or aA_nu aA_li aL aL_sh aL_wi aL_su aL_nk aL_gr W_n W_ac W_fa W_in W_yr W_ti S_st S_mi S_fi S_sp S_cl S_nu S_co S_ke S_di C_n C_sz C_cd e1.1 e1.2.1 e1.2.2 e3.1 e3.2.1 e3.2.2.1 e3.2.2.2.1 e3.2.2.2.2) → va_S A s.heap H locs → lv_has ls 2 [(0, .ref aL)] → W p l e rm_X3_update s m args below meth c H locs 0 0 Q (F0 m 75 ls []) := by
      intro H locs ls hP hD hS hl
      have h9 := Option.some.inj hm
      subst h9
      exact hret H locs _ ls hP hD hS dX3_update_75
    refine it_W (G := fun (st46 : Int32 × (Nat → Int32) × (Nat → Int32) × (Nat → Int32) × (Nat → Int64) × (Nat → Int32)) => ∀ (H : Heap) (locs : List Loc) (ls : Array Slot), va_P D vwCl (w_X3_update cI cJ cZ aW aW_ac aW_fa aW_in aW_yr aW_ti aS aS_ke aS_di aC aC_sz aC_cd aA aA_or aA_nu aA_li aL aL_sh aL_wi aL_su aL_nk aL_gr W_n W_ac W_fa W_in W_yr W_ti S_st S_mi S_fi S_sp S_cl S_nu S_co S_ke S_di C_n C_sz C_cd e1.1 e1.2.1 e1.2.2 st46.2.1 st46.2.2.1 st46.2.2.2.1 st46.2.2.2.2.1 st46.2.2.2.2.2) H → va_D A (w_X3_update cI cJ cZ aW aW_ac aW_fa aW_in aW_yr aW_ti aS aS_ke aS_di aC aC_sz aC_cd aA aA_or aA_nu aA_li aL aL_sh aL_wi aL_su aL_nk aL_gr W_n W_ac W_fa W_in W_yr W_ti S_st S_mi S_fi S_sp S_cl S_nu S_co S_ke S_di C_n C_sz C_cd e1.1 e1.2.1 e1.2.2 st46.2.1 st46.2.2.1 st46.2.2.2.1 st46.2.2.2.2.1 st46.2.2.2.2.2) → va_S A s.heap H locs → lv_has ls 2 [(0, .ref aL), (1, .int st46.1)] → W p l e rm_X3_update s m args below meth c H locs 0 0 Q (F0 m 46 ls [])) (e := e3) (fun st46 x hm hG hE => ?_) fu _ hc3 H locs ls hP hD hS (lv_sub hl [1, 0] rfl)
    intro H locs ls hP hD hS hl
    have J68 : ∀ (x1_j68 : Int32) (L_sh_j68 : Nat → Int32) (L_wi_j68 : Nat → Int32) (L_su_j68 : Nat → Int32) (L_nk_j68 : Nat → Int64) (L_gr_j68 : Nat → Int32), (m_X3_update_J68 x1_j68 L_sh_j68 L_wi_j68 L_su_j68 L_nk_j68 L_gr_j68 = some x) → ∀ (H : Heap) (locs : List Loc) (ls : Array Slot), va_P D vwCl (w_X3_update cI cJ cZ aW aW_ac aW_fa aW_in aW_yr aW_ti aS aS_ke aS_di aC aC_sz aC_cd aA aA_or aA_nu aA_li aL aL_sh aL_wi aL_su aL_nk aL_gr W_n W_ac W_fa W_in W_yr W_ti S_st S_mi S_fi S_sp S_cl S_nu S_co S_ke S_di C_n C_sz C_cd e1.1 e1.2.1 e1.2.2 L_sh_j68 L_wi_j68 L_su_j68 L_nk_j68 L_gr_j68) H → va_D A (w_X3_update cI cJ cZ aW aW_ac aW_fa aW_in aW_yr aW_ti aS aS_ke aS_di aC aC_sz aC_cd aA aA_or aA_nu aA_li aL aL_sh aL_wi aL_su aL_nk aL_gr W_n W_ac W_fa W_in W_yr W_ti S_st S_mi S_fi S_sp S_cl S_nu S_co S_ke S_di C_n C_sz C_cd e1.1 e1.2.1 e1.2.2 L_sh_j68 L_wi_j68 L_su_j68 L_nk_j68 L_gr_j68) → va_S A s.heap H locs → lv_has ls 2 [(0, .ref aL), (1, .int x1_j68)] → W p l e rm_X3_update s m args below meth c H locs 0 0 Q (F0 m 68 ls []) := by
      intro x1_j68 L_sh_j68 L_wi_j68 L_su_j68 L_nk_j68 L_gr_j68 hm H locs ls hP hD hS hl
      refine lv_iload_n hx hb dX3_update_68 rfl (lv_at hl 1 rfl) ?_
      refine lv_iconst (v := 2) hx hb dX3_update_69 (by decide) ?_
      refine lv_imul hx hb dX3_update_70 ?_
      refine lv_istore_n (lv' := [(1, .int (x1_j68 * 2)), (0, .ref aL)]) hx hb dX3_update_71 rfl hl (by decide) rfl (fun ls hl => ?_)
      refine lv_goto (tgt := 46) hx hb dX3_update_72 (by decide) ?_
      exact hG _ (Option.some.inj hm).symm H locs ls hP hD hS (lv_sub hl [1, 0] rfl)
    refine lv_iload_n hx hb dX3_update_46 rfl (lv_at hl 1 rfl) ?_
    refine lv_iconst (v := 4) hx hb dX3_update_47 (by decide) ?_
    refine lv_icmp_gt (tgt := 75) hx hb dX3_update_48 (by decide) (fun c4 => ?_) (fun c4 => ?_)
    · replace hm := if_t c4 hm
      have h9 := hE _ (Option.some.inj hm).symm
      subst h9
      exact X3_0 H locs ls hP hD hS (lv_sub hl [0] rfl)
    · replace hm := if_f c4 hm
      refine lv_aload_n hx hb dX3_update_51 rfl (lv_at hl 0 rfl) ?_
      refine va_get (D := D) (ci := 3) (v := .ref aS) (C := RX3) (T := TX3) (N := 8) hx hb hts k2 hown hKv hP 16 rfl rfl 4 (by decide) k4 (fun _ h9 => h9) rfl dX3_update_52 ?_
      refine va_get (D := D) (ci := 6) (v := .int S_sp) (C := RX6) (T := TX6) (N := 9) hx hb hts k6 hown hKv hP 6 rfl rfl 3 (by decide) k5 (fun _ h9 => h9) rfl dX3_update_55 ?_
      refine lv_iload_n hx hb dX3_update_58 rfl (lv_at hl 1 rfl) ?_
      refine lv_iand hx hb dX3_update_59 ?_
      refine lv_if_eq (tgt := 68) hx hb dX3_update_60 (by decide) (fun c5 => ?_) (fun c5 => ?_)
      · replace hm := if_t c5 hm
        exact J68 st46.1 st46.2.1 st46.2.2.1 st46.2.2.2.1 st46.2.2.2.2.1 st46.2.2.2.2.2 hm H locs ls hP hD hS (lv_sub hl [0, 1] rfl)
      · replace hm := if_f c5 hm
        refine lv_aload_n hx hb dX3_update_63 rfl (lv_at hl 0 rfl) ?_
        refine lv_iload_n hx hb dX3_update_64 rfl (lv_at hl 1 rfl) ?_
        replace hm := bd_some hm
        obtain ⟨e6, hc6, hm⟩ := hm
        obtain ⟨e6_0, e6_1, e6_2, e6_3, e6_4⟩ := e6
        refine kV_v (rest := []) (ws' := (w_X3_update cI cJ cZ aW aW_ac aW_fa aW_in aW_yr aW_ti aS aS_ke aS_di aC aC_sz aC_cd aA aA_or aA_nu aA_li aL aL_sh aL_wi aL_su aL_nk aL_gr W_n W_ac W_fa W_in W_yr W_ti S_st S_mi S_fi S_sp S_cl S_nu S_co S_ke S_di C_n C_sz C_cd e1.1 e1.2.1 e1.2.2 e6_0 e6_1 e6_2 e6_3 e6_4)) S (c_X3_perform l D cI cJ cZ cS aW aW_ac aW_fa aW_in aW_yr aW_ti aS aS_ke aS_di aA aA_or aA_nu aA_li aC aL aL_sh aL_wi aL_su aL_nk aL_gr W_n W_ac W_fa W_in W_yr S_st S_mi S_fi S_sp S_cl S_nu S_co e1.1 st46.2.1 st46.2.2.1 st46.2.2.2.1 st46.2.2.2.2.1 st46.2.2.2.2.2 st46.1 (e6_0, e6_1, e6_2, e6_3, e6_4) hc6) k7 hK hP hD hS hA 16 rfl rfl rfl rfl hl.1 rfl (Nat.le_of_ble_eq_true rfl) ⟨Nat.zero_le _, Nat.zero_le _⟩ dX3_update_65 [0, 1, 2, 3, 4, 6, 12, 13, 16, 17, 18, 19, 20, 21] rfl rfl wa_X3_perform (sa_eq [(aW_ti, .inl (cI, 8, .inl W_ti)), (aS_ke, .inl (cI, 3, .inl S_ke)), (aS_di, .inl (cI, 3, .inl S_di)), (aC, .inr (1, [.int C_n, .ref aC_sz, .ref aC_cd])), (aC_sz, .inl (cI, 10, .inl C_sz)), (aC_cd, .inl (cI, 50, .inl C_cd)), (aA_nu, .inl (cI, 8, .inl e1.2.1)), (aA_li, .inl (cI, 8, .inl e1.2.2))] [5, 7, 8, 9, 10, 11, 14, 15] 22 rfl rfl rfl rfl rfl rfl rfl) (fun H locs hP hD hS => ?_)
        exact J68 st46.1 e6_0 e6_1 e6_2 e6_3 e6_4 hm H locs ls hP hD hS (lv_sub hl [0, 1] rfl)
  refine it_W (G := fun (st9 : Int32 × (Nat → Int32) × (Nat → Int32) × (Nat → Int32) × (Nat → Int64)) => ∀ (H : Heap) (locs : List Loc) (ls : Array Slot), va_P D vwCl (w_X3_update cI cJ cZ aW aW_ac aW_fa aW_in aW_yr aW_ti aS aS_ke aS_di aC aC_sz aC_cd aA aA_or aA_nu aA_li aL aL_sh aL_wi aL_su aL_nk aL_gr W_n W_ac W_fa W_in W_yr W_ti S_st S_mi S_fi S_sp S_cl S_nu S_co S_ke S_di C_n C_sz C_cd e1.1 e1.2.1 e1.2.2 st9.2.1 st9.2.2.1 st9.2.2.2.1 st9.2.2.2.2 L_gr) H → va_D A (w_X3_update cI cJ cZ aW aW_ac aW_fa aW_in aW_yr aW_ti aS aS_ke aS_di aC aC_sz aC_cd aA aA_or aA_nu aA_li aL aL_sh aL_wi aL_su aL_nk aL_gr W_n W_ac W_fa W_in W_yr W_ti S_st S_mi S_fi S_sp S_cl S_nu S_co S_ke S_di C_n C_sz C_cd e1.1 e1.2.1 e1.2.2 st9.2.1 st9.2.2.1 st9.2.2.2.1 st9.2.2.2.2 L_gr) → va_S A s.heap H locs → lv_has ls 2 [(0, .ref aL), (1, .int st9.1)] → W p l e rm_X3_update s m args below meth c H locs 0 0 Q (F0 m 9 ls [])) (e := e2) (fun st9 x hm hG hE => ?_) fu _ hc2 H locs ls hP hD hS (lv_sub hl [1, 0] rfl)
  intro H locs ls hP hD hS hl
  refine lv_iload_n hx hb dX3_update_9 rfl (lv_at hl 1 rfl) ?_
  refine lv_aload_n hx hb dX3_update_10 rfl (lv_at hl 0 rfl) ?_
  refine va_get (D := D) (ci := 3) (v := .ref aW) (C := RX3) (T := TX3) (N := 8) hx hb hts k2 hown hKv hP 16 rfl rfl 3 (by decide) k8 (fun _ h9 => h9) rfl dX3_update_11 ?_
  refine va_get (D := D) (ci := 9) (v := .int W_n) (C := RX9) (T := TX9) (N := 6) hx hb hts k10 hown hKv hP 0 rfl rfl 0 (by decide) k9 (fun _ h9 => h9) rfl dX3_update_14 ?_
  refine lv_icmp_ge (tgt := 44) hx hb dX3_update_17 (by decide) (fun c7 => ?_) (fun c7 => ?_)
  · replace hm := if_t c7 hm
    have h9 := hE _ (Option.some.inj hm).symm
    subst h9
    exact X2_0 H locs ls hP hD hS (lv_sub hl [0] rfl)
  · replace hm := if_f c7 hm
    refine lv_aload_n hx hb dX3_update_20 rfl (lv_at hl 0 rfl) ?_
    refine lv_iload_n hx hb dX3_update_21 rfl (lv_at hl 1 rfl) ?_
    refine lv_aload_n hx hb dX3_update_22 rfl (lv_at hl 0 rfl) ?_
    refine lv_iload_n hx hb dX3_update_23 rfl (lv_at hl 1 rfl) ?_
    replace hm := bd_some hm
    obtain ⟨e8, hc8, hm⟩ := hm
    refine kV_i (rest := [.int st9.1, .ref aL]) (ws' := (w_X3_update cI cJ cZ aW aW_ac aW_fa aW_in aW_yr aW_ti aS aS_ke aS_di aC aC_sz aC_cd aA aA_or aA_nu aA_li aL aL_sh aL_wi aL_su aL_nk aL_gr W_n W_ac W_fa W_in W_yr W_ti S_st S_mi S_fi S_sp S_cl S_nu S_co S_ke S_di C_n C_sz C_cd e1.1 e1.2.1 e1.2.2 st9.2.1 st9.2.2.1 st9.2.2.2.1 st9.2.2.2.2 L_gr)) S (c_X3_initiallyShown l D cI cJ cZ cS aW aW_ac aW_fa aW_in aW_yr aW_ti aS aS_ke aS_di aL aL_sh aL_wi aL_su aA aL_nk aL_gr W_n W_ac S_st S_mi S_fi S_sp S_cl S_nu S_co st9.1 e8 hc8) k11 hK hP hD hS hA 16 rfl rfl rfl rfl hl.1 rfl (Nat.le_of_ble_eq_true rfl) ⟨Nat.zero_le _, Nat.zero_le _⟩ dX3_update_24 [0, 1, 6, 16] rfl rfl wa_X3_initiallyShown (sa_eq [(aW_fa, .inl (cI, 32, .inl W_fa)), (aW_in, .inl (cI, 32, .inl W_in)), (aW_yr, .inl (cI, 8, .inl W_yr)), (aW_ti, .inl (cI, 8, .inl W_ti)), (aS_ke, .inl (cI, 3, .inl S_ke)), (aS_di, .inl (cI, 3, .inl S_di)), (aC, .inr (1, [.int C_n, .ref aC_sz, .ref aC_cd])), (aC_sz, .inl (cI, 10, .inl C_sz)), (aC_cd, .inl (cI, 50, .inl C_cd)), (aA, .inr (0, [.ref aA_or, .ref aA_nu, .ref aA_li, .ref aW, .ref aS, .ref aC])), (aA_or, .inl (cI, 8, .inl e1.1)), (aA_nu, .inl (cI, 8, .inl e1.2.1)), (aA_li, .inl (cI, 8, .inl e1.2.2)), (aL_sh, .inl (cI, 8, .inl st9.2.1)), (aL_wi, .inl (cZ, 8, .inl st9.2.2.1)), (aL_su, .inl (cI, 8, .inl st9.2.2.2.1)), (aL_nk, .inl (cJ, 8, .inr (.inl st9.2.2.2.2))), (aL_gr, .inl (cI, 8, .inl L_gr))] [2, 3, 4, 5, 7, 8, 9, 10, 11, 12, 13, 14, 15, 17, 18, 19, 20, 21] 22 rfl rfl rfl rfl rfl rfl rfl) (fun H locs hP hD hS => ?_)
    refine lv_iconst (v := 0) hx hb dX3_update_27 (by decide) ?_
    replace hm := bd_some hm
    obtain ⟨e9, hc9, hm⟩ := hm
    refine kV_v (rest := []) (ws' := (w_X3_update cI cJ cZ aW aW_ac aW_fa aW_in aW_yr aW_ti aS aS_ke aS_di aC aC_sz aC_cd aA aA_or aA_nu aA_li aL aL_sh aL_wi aL_su aL_nk aL_gr W_n W_ac W_fa W_in W_yr W_ti S_st S_mi S_fi S_sp S_cl S_nu S_co S_ke S_di C_n C_sz C_cd e1.1 e1.2.1 e1.2.2 e9.1 e9.2.1 st9.2.2.2.1 e9.2.2 L_gr)) S (c_X3_show l D cI cJ cZ cS aW aW_ac aW_fa aW_in aW_yr aW_ti aL aL_sh aL_wi aL_su aS aA aL_nk aL_gr W_n W_ac W_fa W_in st9.2.1 st9.2.2.1 st9.2.2.2.2 st9.1 e8 0 e9 hc9) k12 hK hP hD hS hA 16 rfl rfl rfl rfl hl.1 rfl (Nat.le_of_ble_eq_true rfl) ⟨Nat.zero_le _, Nat.zero_le _⟩ dX3_update_28 [0, 1, 2, 3, 16, 17, 18, 20] rfl rfl wa_X3_show (sa_eq [(aW_yr, .inl (cI, 8, .inl W_yr)), (aW_ti, .inl (cI, 8, .inl W_ti)), (aS, .inr (6, [.int S_st, .int S_mi, .int S_fi, .int S_sp, .int S_cl, .int S_nu, .int S_co, .ref aS_ke, .ref aS_di])), (aS_ke, .inl (cI, 3, .inl S_ke)), (aS_di, .inl (cI, 3, .inl S_di)), (aC, .inr (1, [.int C_n, .ref aC_sz, .ref aC_cd])), (aC_sz, .inl (cI, 10, .inl C_sz)), (aC_cd, .inl (cI, 50, .inl C_cd)), (aA, .inr (0, [.ref aA_or, .ref aA_nu, .ref aA_li, .ref aW, .ref aS, .ref aC])), (aA_or, .inl (cI, 8, .inl e1.1)), (aA_nu, .inl (cI, 8, .inl e1.2.1)), (aA_li, .inl (cI, 8, .inl e1.2.2)), (aL_su, .inl (cI, 8, .inl st9.2.2.2.1)), (aL_gr, .inl (cI, 8, .inl L_gr))] [4, 5, 6, 7, 8, 9, 10, 11, 12, 13, 14, 15, 19, 21] 22 rfl rfl rfl rfl rfl rfl rfl) (fun H locs hP hD hS => ?_)
    refine lv_aload_n hx hb dX3_update_31 rfl (lv_at hl 0 rfl) ?_
    refine va_get (D := D) (ci := 3) (v := .ref aL_su) (C := RX3) (T := TX3) (N := 8) hx hb hts k2 hown hKv hP 16 rfl rfl 2 (by decide) k13 (fun _ h9 => h9) rfl dX3_update_32 ?_
    refine lv_iload_n hx hb dX3_update_35 rfl (lv_at hl 1 rfl) ?_
    refine lv_iconst (v := 0) hx hb dX3_update_36 (by decide) ?_
    replace hm := ck_some hm
    obtain ⟨h10, hm⟩ := hm
    refine va_iast hx hb hKv hP hD hS 19 0 rfl rfl h10 dX3_update_37 (fun H locs hP hD hS => ?_)
    replace hP : va_P D vwCl (w_X3_update cI cJ cZ aW aW_ac aW_fa aW_in aW_yr aW_ti aS aS_ke aS_di aC aC_sz aC_cd aA aA_or aA_nu aA_li aL aL_sh aL_wi aL_su aL_nk aL_gr W_n W_ac W_fa W_in W_yr W_ti S_st S_mi S_fi S_sp S_cl S_nu S_co S_ke S_di C_n C_sz C_cd e1.1 e1.2.1 e1.2.2 e9.1 e9.2.1 (upd st9.2.2.2.1 (Int32.toNatClampNeg st9.1) 0) e9.2.2 L_gr) H := hP
    replace hD : va_D A (w_X3_update cI cJ cZ aW aW_ac aW_fa aW_in aW_yr aW_ti aS aS_ke aS_di aC aC_sz aC_cd aA aA_or aA_nu aA_li aL aL_sh aL_wi aL_su aL_nk aL_gr W_n W_ac W_fa W_in W_yr W_ti S_st S_mi S_fi S_sp S_cl S_nu S_co S_ke S_di C_n C_sz C_cd e1.1 e1.2.1 e1.2.2 e9.1 e9.2.1 (upd st9.2.2.2.1 (Int32.toNatClampNeg st9.1) 0) e9.2.2 L_gr) := hD
    refine lv_iinc (v := (st9.1 + 1)) (lv' := [(1, .int (st9.1 + 1)), (0, .ref aL)]) hx hb dX3_update_38 hl (k := 1) rfl rfl (by decide) rfl (fun ls hl => ?_)
    refine lv_goto (tgt := 9) hx hb dX3_update_41 (by decide) ?_
    exact hG _ (Option.some.inj hm).symm H locs ls hP hD hS (lv_sub hl [1, 0] rfl)
