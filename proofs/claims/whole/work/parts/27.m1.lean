def m_X12_year (M_s : Nat → Int32) (x1 : Int32) : Option (Int32) := ck ((1 + (7 * x1)) + 5) 131 (some (M_s (Int32.toNatClampNeg ((1 + (7 * x1)) + 5))))
def m_X12_authors (M_s : Nat → Int32) (x1 : Int32) : Option (Int32) := ck (1 + (7 * x1)) 131 (some (M_s (Int32.toNatClampNeg (1 + (7 * x1)))))
def m_X12_author (M_s : Nat → Int32) (x1 : Int32) (x2 : Int32) : Option (Int32) := ck (((1 + (7 * x1)) + 1) + x2) 131 (some (M_s (Int32.toNatClampNeg (((1 + (7 * x1)) + 1) + x2))))
def m_X12_haveOneNames_J161 (x1 : Int32) (x2 : Int32) (x5 : Int32) (y0 : Int32) : Option ((Int32 × Int32) ⊕ Int32) := some (Sum.inl (y0, (x5 + 1)))
def m_X12_haveOneNames_B83 (x1 : Int32) (x2 : Int32) (M_s : Nat → Int32) (M_sh : Nat → Int32) (M_in : Nat → Int32) (st : Int32 × Int32) : Option ((Int32 × Int32) ⊕ Int32) := ck x1 8 (if (M_sh (Int32.toNatClampNeg x1)) ≤ st.2 then (some (Sum.inr st.1)) else (if st.1 = 0 then (some (Sum.inr st.1)) else (ck x1 8 (if (M_in (Int32.toNatClampNeg x1)) = 0 then ((m_X12_author M_s x1 st.2).bind fun e8 => (m_X12_author M_s x2 st.2).bind fun e9 => if (e8 / 26) = (e9 / 26) then (m_X12_haveOneNames_J161 x1 x2 st.2 1) else (m_X12_haveOneNames_J161 x1 x2 st.2 0)) else ((m_X12_author M_s x1 st.2).bind fun e11 => (m_X12_author M_s x2 st.2).bind fun e12 => if e11 = e12 then (m_X12_haveOneNames_J161 x1 x2 st.2 1) else (m_X12_haveOneNames_J161 x1 x2 st.2 0))))))
def m_X12_haveOneNames_J78 (x1 : Int32) (x2 : Int32) (y0 : Int32) (M_s : Nat → Int32) (M_sh : Nat → Int32) (M_in : Nat → Int32) : Option (Int32) := (it (m_X12_haveOneNames_B83 x1 x2 M_s M_sh M_in) fu (y0, 0)).bind fun e1 => ckb e1 (some e1)
def m_X12_haveOneNames_J77 (x1 : Int32) (x2 : Int32) (M_s : Nat → Int32) (M_sh : Nat → Int32) (M_in : Nat → Int32) : Option (Int32) := m_X12_haveOneNames_J78 x1 x2 0 M_s M_sh M_in
def m_X12_haveOneNames_J70 (x1 : Int32) (x2 : Int32) (y0 : Int32) (y1 : Int32) (M_s : Nat → Int32) (M_sh : Nat → Int32) (M_in : Nat → Int32) : Option (Int32) := if y1 = y0 then (m_X12_haveOneNames_J78 x1 x2 1 M_s M_sh M_in) else (m_X12_haveOneNames_J77 x1 x2 M_s M_sh M_in)
def m_X12_haveOneNames_J19 (x1 : Int32) (x2 : Int32) (y0 : Int32) (M_s : Nat → Int32) (M_sh : Nat → Int32) (M_in : Nat → Int32) : Option (Int32) := ck x1 8 (ck x2 8 (if (M_sh (Int32.toNatClampNeg x1)) = (M_sh (Int32.toNatClampNeg x2)) then (ck x1 8 (ck x2 8 (if (M_in (Int32.toNatClampNeg x1)) = (M_in (Int32.toNatClampNeg x2)) then (ck x2 8 ((m_X12_authors M_s x2).bind fun e22 => if (M_sh (Int32.toNatClampNeg x2)) = e22 then (m_X12_haveOneNames_J70 x1 x2 1 y0 M_s M_sh M_in) else (m_X12_haveOneNames_J70 x1 x2 0 y0 M_s M_sh M_in))) else (m_X12_haveOneNames_J77 x1 x2 M_s M_sh M_in)))) else (m_X12_haveOneNames_J77 x1 x2 M_s M_sh M_in)))
def m_X12_haveOneNames (M_s : Nat → Int32) (M_sh : Nat → Int32) (M_in : Nat → Int32) (x1 : Int32) (x2 : Int32) : Option (Int32) := ck x1 8 ((m_X12_authors M_s x1).bind fun e25 => if (M_sh (Int32.toNatClampNeg x1)) = e25 then (m_X12_haveOneNames_J19 x1 x2 1 M_s M_sh M_in) else (m_X12_haveOneNames_J19 x1 x2 0 M_s M_sh M_in))
def m_X12_haveOneLabel_J42 (y0 : Int32) : Option (Int32) := ckb y0 (some y0)
def m_X12_haveOneLabel_J41 : Option (Int32) := m_X12_haveOneLabel_J42 0
def m_X12_haveOneLabel (M_s : Nat → Int32) (M_sh : Nat → Int32) (M_in : Nat → Int32) (M_su : Nat → Int32) (x1 : Int32) (x2 : Int32) : Option (Int32) := (m_X12_year M_s x1).bind fun e2 => (m_X12_year M_s x2).bind fun e3 => if e2 = e3 then (ck x1 8 (ck x2 8 (if (M_su (Int32.toNatClampNeg x1)) = (M_su (Int32.toNatClampNeg x2)) then ((m_X12_haveOneNames M_s M_sh M_in x1 x2).bind fun e8 => if e8 = 0 then (m_X12_haveOneLabel_J41) else (m_X12_haveOneLabel_J42 1)) else (m_X12_haveOneLabel_J41)))) else (m_X12_haveOneLabel_J41)
def m_X12_labelsOf_J90 (x1 : Int32) (x3 : Int32) (y0 : Int32) (y1 : Int32) : Option ((Int32 × Int32) ⊕ Int32) := some (Sum.inl ((y1 + y0), (x3 + 1)))
def m_X12_labelsOf_J71 (x1 : Int32) (x3 : Int32) (x5 : Int32) (y0 : Int32) : Option ((Int32 × Int32) ⊕ Int32) := some (Sum.inl (y0, (x5 + 1)))
def m_X12_labelsOf_J70 (x1 : Int32) (x3 : Int32) (x5 : Int32) : Option ((Int32 × Int32) ⊕ Int32) := m_X12_labelsOf_J71 x1 x3 x5 0
def m_X12_labelsOf_J66 (x1 : Int32) (x3 : Int32) (x5 : Int32) : Option ((Int32 × Int32) ⊕ Int32) := m_X12_labelsOf_J71 x1 x3 x5 1
def m_X12_labelsOf_B34 (x1 : Int32) (x3 : Int32) (M_s : Nat → Int32) (M_sh : Nat → Int32) (M_in : Nat → Int32) (M_su : Nat → Int32) (M_gr : Nat → Int32) (st : Int32 × Int32) : Option ((Int32 × Int32) ⊕ Int32) := if x3 ≤ st.2 then (some (Sum.inr st.1)) else (if st.1 = 0 then (m_X12_labelsOf_J70 x1 x3 st.2) else (ck st.2 8 (if (M_gr (Int32.toNatClampNeg st.2)) = x1 then ((m_X12_haveOneLabel M_s M_sh M_in M_su st.2 x3).bind fun e8 => if e8 = 0 then (m_X12_labelsOf_J66 x1 x3 st.2) else (m_X12_labelsOf_J70 x1 x3 st.2)) else (m_X12_labelsOf_J66 x1 x3 st.2))))
def m_X12_labelsOf_J29 (x1 : Int32) (x2 : Int32) (x3 : Int32) (y0 : Int32) (M_s : Nat → Int32) (M_sh : Nat → Int32) (M_in : Nat → Int32) (M_su : Nat → Int32) (M_gr : Nat → Int32) : Option ((Int32 × Int32) ⊕ Int32) := (it (m_X12_labelsOf_B34 x1 x3 M_s M_sh M_in M_su M_gr) fu (y0, 0)).bind fun e2 => if e2 = 0 then (m_X12_labelsOf_J90 x1 x3 0 x2) else (m_X12_labelsOf_J90 x1 x3 1 x2)
def m_X12_labelsOf_B4 (x1 : Int32) (M_s : Nat → Int32) (M_sh : Nat → Int32) (M_in : Nat → Int32) (M_su : Nat → Int32) (M_gr : Nat → Int32) (st : Int32 × Int32) : Option ((Int32 × Int32) ⊕ Int32) := ck 0 131 (if (M_s (Int32.toNatClampNeg 0)) ≤ st.2 then (some (Sum.inr st.1)) else (ck st.2 8 (if (M_gr (Int32.toNatClampNeg st.2)) = x1 then (m_X12_labelsOf_J29 x1 st.1 st.2 1 M_s M_sh M_in M_su M_gr) else (m_X12_labelsOf_J29 x1 st.1 st.2 0 M_s M_sh M_in M_su M_gr))))
def m_X12_labelsOf (M_s : Nat → Int32) (M_sh : Nat → Int32) (M_in : Nat → Int32) (M_su : Nat → Int32) (M_gr : Nat → Int32) (x1 : Int32) : Option (Int32) := (it (m_X12_labelsOf_B4 x1 M_s M_sh M_in M_su M_gr) fu (0, 0)).bind fun e1 => some e1
def m_X12_addInitials_J108 (x1 : Int32) (x2 : Int32) (x3 : Int32) (y0 : Int32) (y1 : Int32) (M_in : Nat → Int32) : Option ((Int32 × (Nat → Int32)) ⊕ (((Nat → Int32)))) := ck y1 8 (ckb y0 (some (Sum.inl ((x3 + 1), (upd M_in (Int32.toNatClampNeg y1) y0)))))
def m_X12_addInitials_J107 (x1 : Int32) (x2 : Int32) (x3 : Int32) (y0 : Int32) (M_in : Nat → Int32) : Option ((Int32 × (Nat → Int32)) ⊕ (((Nat → Int32)))) := m_X12_addInitials_J108 x1 x2 x3 0 y0 M_in
def m_X12_addInitials_J103 (x1 : Int32) (x2 : Int32) (x3 : Int32) (y0 : Int32) (M_in : Nat → Int32) : Option ((Int32 × (Nat → Int32)) ⊕ (((Nat → Int32)))) := m_X12_addInitials_J108 x1 x2 x3 1 y0 M_in
def m_X12_addInitials_B65 (x1 : Int32) (x2 : Int32) (M_s : Nat → Int32) (M_gr : Nat → Int32) (st : Int32 × (Nat → Int32)) : Option ((Int32 × (Nat → Int32)) ⊕ (((Nat → Int32)))) := ck 0 131 (if (M_s (Int32.toNatClampNeg 0)) ≤ st.1 then (some (Sum.inr st.2)) else (ck st.1 8 (if (st.2 (Int32.toNatClampNeg st.1)) = 0 then (m_X12_addInitials_J107 x1 x2 st.1 st.1 st.2) else (ck st.1 8 (if (M_gr (Int32.toNatClampNeg st.1)) = x1 then (if x2 = 0 then (m_X12_addInitials_J107 x1 x2 st.1 st.1 st.2) else (m_X12_addInitials_J103 x1 x2 st.1 st.1 st.2)) else (m_X12_addInitials_J103 x1 x2 st.1 st.1 st.2))))))
def m_X12_addInitials_J62 (x1 : Int32) (y0 : Int32) (M_s : Nat → Int32) (M_in : Nat → Int32) (M_gr : Nat → Int32) : Option ((Nat → Int32)) := (it (m_X12_addInitials_B65 x1 y0 M_s M_gr) fu (0, M_in)).bind fun e1 => some e1
def m_X12_addInitials_J41 (x1 : Int32) (x2 : Int32) (y0 : Int32) (y1 : Int32) (M_in : Nat → Int32) : Option ((Int32 × (Nat → Int32)) ⊕ (((Nat → Int32)))) := ck y1 8 (ckb y0 (some (Sum.inl ((x2 + 1), (upd M_in (Int32.toNatClampNeg y1) y0)))))
def m_X12_addInitials_J36 (x1 : Int32) (x2 : Int32) (y0 : Int32) (M_in : Nat → Int32) : Option ((Int32 × (Nat → Int32)) ⊕ (((Nat → Int32)))) := m_X12_addInitials_J41 x1 x2 1 y0 M_in
def m_X12_addInitials_B2 (x1 : Int32) (M_s : Nat → Int32) (M_gr : Nat → Int32) (st : Int32 × (Nat → Int32)) : Option ((Int32 × (Nat → Int32)) ⊕ (((Nat → Int32)))) := ck 0 131 (if (M_s (Int32.toNatClampNeg 0)) ≤ st.1 then (some (Sum.inr st.2)) else (ck st.1 8 (if (st.2 (Int32.toNatClampNeg st.1)) = 0 then (ck st.1 8 (if (M_gr (Int32.toNatClampNeg st.1)) = x1 then (m_X12_addInitials_J36 x1 st.1 st.1 st.2) else (m_X12_addInitials_J41 x1 st.1 0 st.1 st.2))) else (m_X12_addInitials_J36 x1 st.1 st.1 st.2))))
def m_X12_addInitials (M_s : Nat → Int32) (M_sh : Nat → Int32) (M_in : Nat → Int32) (M_su : Nat → Int32) (M_gr : Nat → Int32) (x1 : Int32) : Option ((Nat → Int32)) := (it (m_X12_addInitials_B2 x1 M_s M_gr) fu (0, M_in)).bind fun e11 => (m_X12_labelsOf M_s M_sh e11 M_su M_gr x1).bind fun e12 => if e12 ≤ 1 then (m_X12_addInitials_J62 x1 0 M_s e11 M_gr) else (m_X12_addInitials_J62 x1 1 M_s e11 M_gr)
def m_X12_showAtLeast_J70 (x1 : Int32) (x2 : Int32) (x3 : Int32) (M_sh : Nat → Int32) : Option ((Int32 × (Nat → Int32)) ⊕ (((Nat → Int32)))) := some (Sum.inl ((x3 + 1), M_sh))
def m_X12_showAtLeast_J69 (x1 : Int32) (x2 : Int32) (x3 : Int32) (y0 : Int32) (y1 : Int32) (M_sh : Nat → Int32) : Option ((Int32 × (Nat → Int32)) ⊕ (((Nat → Int32)))) := ck y1 8 (m_X12_showAtLeast_J70 x1 x2 x3 (upd M_sh (Int32.toNatClampNeg y1) y0))
def m_X12_showAtLeast_J40 (x1 : Int32) (x2 : Int32) (x3 : Int32) (y0 : Int32) (M_sh : Nat → Int32) (M_tr : Nat → Int32) : Option ((Int32 × (Nat → Int32)) ⊕ (((Nat → Int32)))) := ck x3 8 (if (M_tr (Int32.toNatClampNeg x3)) ≤ y0 then (m_X12_showAtLeast_J69 x1 x2 x3 y0 x3 M_sh) else (ck x3 8 (m_X12_showAtLeast_J69 x1 x2 x3 (M_tr (Int32.toNatClampNeg x3)) x3 M_sh)))
def m_X12_showAtLeast_B2 (x1 : Int32) (x2 : Int32) (M_s : Nat → Int32) (M_gr : Nat → Int32) (M_tr : Nat → Int32) (st : Int32 × (Nat → Int32)) : Option ((Int32 × (Nat → Int32)) ⊕ (((Nat → Int32)))) := ck 0 131 (if (M_s (Int32.toNatClampNeg 0)) ≤ st.1 then (some (Sum.inr st.2)) else (ck st.1 8 (if (M_gr (Int32.toNatClampNeg st.1)) = x1 then ((m_X12_authors M_s st.1).bind fun e10 => if e10 ≤ x2 then ((m_X12_authors M_s st.1).bind fun e12 => m_X12_showAtLeast_J40 x1 x2 st.1 e12 st.2 M_tr) else (m_X12_showAtLeast_J40 x1 x2 st.1 x2 st.2 M_tr)) else (m_X12_showAtLeast_J70 x1 x2 st.1 st.2))))
def m_X12_showAtLeast (M_s : Nat → Int32) (M_sh : Nat → Int32) (M_gr : Nat → Int32) (M_tr : Nat → Int32) (x1 : Int32) (x2 : Int32) : Option ((Nat → Int32)) := (it (m_X12_showAtLeast_B2 x1 x2 M_s M_gr M_tr) fu (0, M_sh)).bind fun e1 => some e1
def m_X12_addNames_J94 (x1 : Int32) (x2 : Int32) (x4 : Int32) (y0 : Int32) (M_sh : Nat → Int32) : Option ((Int32 × Int32 × Int32 × (Nat → Int32)) ⊕ ((Int32 × (Nat → Int32)))) := some (Sum.inl (x2, y0, (x4 + 1), M_sh))
def m_X12_addNames_J81 (x1 : Int32) (x3 : Int32) (x4 : Int32) (x5 : Int32) (y0 : Int32) (M_sh : Nat → Int32) : Option ((Int32 × Int32 × Int32 × (Nat → Int32)) ⊕ ((Int32 × (Nat → Int32)))) := if x5 ≤ x3 then (m_X12_addNames_J94 x1 y0 x4 x3 M_sh) else (m_X12_addNames_J94 x1 y0 x4 x5 M_sh)
def m_X12_addNames_B49 (x1 : Int32) (M_s : Nat → Int32) (M_in : Nat → Int32) (M_su : Nat → Int32) (M_gr : Nat → Int32) (M_tr : Nat → Int32) (st : Int32 × Int32 × Int32 × (Nat → Int32)) : Option ((Int32 × Int32 × Int32 × (Nat → Int32)) ⊕ ((Int32 × (Nat → Int32)))) := if 5 ≤ st.2.2.1 then (some (Sum.inr (st.1, st.2.2.2))) else ((m_X12_showAtLeast M_s st.2.2.2 M_gr M_tr x1 st.2.2.1).bind fun e8 => (m_X12_labelsOf M_s e8 M_in M_su M_gr x1).bind fun e9 => if e9 ≤ st.2.1 then (m_X12_addNames_J81 x1 st.2.1 st.2.2.1 e9 st.1 e8) else (m_X12_addNames_J81 x1 st.2.1 st.2.2.1 e9 st.2.2.1 e8))
def m_X12_addNames_B2 (M_s : Nat → Int32) (M_sh : Nat → Int32) (st : Int32 × (Nat → Int32)) : Option ((Int32 × (Nat → Int32)) ⊕ (((Nat → Int32)))) := ck 0 131 (if (M_s (Int32.toNatClampNeg 0)) ≤ st.1 then (some (Sum.inr st.2)) else (ck st.1 8 (ck st.1 8 (some (Sum.inl ((st.1 + 1), (upd st.2 (Int32.toNatClampNeg st.1) (M_sh (Int32.toNatClampNeg st.1)))))))))
def m_X12_addNames (M_s : Nat → Int32) (M_sh : Nat → Int32) (M_in : Nat → Int32) (M_su : Nat → Int32) (M_gr : Nat → Int32) (M_tr : Nat → Int32) (x1 : Int32) : Option ((Nat → Int32) × (Nat → Int32)) := (it (m_X12_addNames_B2 M_s M_sh) fu (0, M_tr)).bind fun e1 => ck 59 131 (ck 59 131 ((it (m_X12_addNames_B49 x1 M_s M_in M_su M_gr e1) fu ((M_s (Int32.toNatClampNeg 59)), 0, (M_s (Int32.toNatClampNeg 59)), M_sh)).bind fun e4 => (m_X12_showAtLeast M_s e4.2 M_gr e1 x1 e4.1).bind fun e5 => some (e5, e1)))
def m_X12_addSuffixes_J47 (x1 : Int32) (x2 : Int32) (x3 : Int32) (M_su : Nat → Int32) : Option ((Int32 × Int32 × (Nat → Int32)) ⊕ (((Nat → Int32)))) := some (Sum.inl (x2, (x3 + 1), M_su))
def m_X12_addSuffixes_B4 (x1 : Int32) (M_s : Nat → Int32) (M_bo : Nat → Int32) (M_gr : Nat → Int32) (st : Int32 × Int32 × (Nat → Int32)) : Option ((Int32 × Int32 × (Nat → Int32)) ⊕ (((Nat → Int32)))) := ck 0 131 (if (M_s (Int32.toNatClampNeg 0)) ≤ st.2.1 then (some (Sum.inr st.2.2)) else (ck st.2.1 8 (ck (M_bo (Int32.toNatClampNeg st.2.1)) 8 (if (M_gr (Int32.toNatClampNeg (M_bo (Int32.toNatClampNeg st.2.1)))) = x1 then (ck st.2.1 8 (ck (M_bo (Int32.toNatClampNeg st.2.1)) 8 (m_X12_addSuffixes_J47 x1 (st.1 + 1) st.2.1 (upd st.2.2 (Int32.toNatClampNeg (M_bo (Int32.toNatClampNeg st.2.1))) (97 + st.1))))) else (m_X12_addSuffixes_J47 x1 st.1 st.2.1 st.2.2)))))
def m_X12_addSuffixes (M_s : Nat → Int32) (M_bo : Nat → Int32) (M_su : Nat → Int32) (M_gr : Nat → Int32) (x1 : Int32) : Option ((Nat → Int32)) := (it (m_X12_addSuffixes_B4 x1 M_s M_bo M_gr) fu (0, 0, M_su)).bind fun e1 => some e1
def m_X12_in_J18 (y0 : Int32) : Option (Int32) := ckb y0 (some y0)
def m_X12_in_J17 : Option (Int32) := m_X12_in_J18 0
def m_X12_in (x0 : Int64) (x2 : Int64) (x4 : Int64) : Option (Int32) := if (lg_cmp x0 x2) < 0 then (m_X12_in_J17) else (if 0 < (lg_cmp x0 x4) then (m_X12_in_J17) else (m_X12_in_J18 1))
def m_X12_isWork (M_s : Nat → Int32) (x1 : Int32) : Option (Int32) := ck 0 131 ((m_X12_in (Int32.toInt64 x1) 0 (Int32.toInt64 ((M_s (Int32.toNatClampNeg 0)) - 1))).bind fun e2 => ckb e2 (some e2))
def m_X12_cites (M_s : Nat → Int32) (x1 : Int32) : Option (Int32) := ck (71 + (6 * x1)) 131 (some (M_s (Int32.toNatClampNeg (71 + (6 * x1)))))
def m_X12_cited (M_s : Nat → Int32) (x1 : Int32) (x2 : Int32) : Option (Int32) := ck (((71 + (6 * x1)) + 1) + x2) 131 (some (M_s (Int32.toNatClampNeg (((71 + (6 * x1)) + 1) + x2))))
def m_X12_doesCite_J35 (x1 : Int32) (x2 : Int32) (x4 : Int32) (y0 : Int32) : Option ((Int32 × Int32) ⊕ Int32) := some (Sum.inl (y0, (x4 + 1)))
def m_X12_doesCite_J30 (x1 : Int32) (x2 : Int32) (x4 : Int32) : Option ((Int32 × Int32) ⊕ Int32) := m_X12_doesCite_J35 x1 x2 x4 1
def m_X12_doesCite_B5 (x1 : Int32) (x2 : Int32) (M_s : Nat → Int32) (st : Int32 × Int32) : Option ((Int32 × Int32) ⊕ Int32) := (m_X12_cites M_s x1).bind fun e3 => if e3 ≤ st.2 then (some (Sum.inr st.1)) else (if st.1 = 0 then ((m_X12_cited M_s x1 st.2).bind fun e6 => if e6 = x2 then (m_X12_doesCite_J30 x1 x2 st.2) else (m_X12_doesCite_J35 x1 x2 st.2 0)) else (m_X12_doesCite_J30 x1 x2 st.2))
def m_X12_doesCite (M_s : Nat → Int32) (x1 : Int32) (x2 : Int32) : Option (Int32) := (it (m_X12_doesCite_B5 x1 x2 M_s) fu (0, 0)).bind fun e1 => ckb e1 (some e1)
def m_X12_keeps_B52 (M_s : Nat → Int32) (M_km : Int32) (st : Int32 × (Nat → Int32)) : Option ((Int32 × (Nat → Int32)) ⊕ (((Nat → Int32)))) := if 131 ≤ st.1 then (some (Sum.inr st.2)) else (ck st.1 131 (ck ((131 * M_km) + st.1) 1048 (some (Sum.inl ((st.1 + 1), (upd st.2 (Int32.toNatClampNeg ((131 * M_km) + st.1)) (M_s (Int32.toNatClampNeg st.1))))))))
def m_X12_keeps_J50 (M_s : Nat → Int32) (M_ke : Nat → Int32) (M_km : Int32) : Option ((Nat → Int32) × Int32) := (it (m_X12_keeps_B52 M_s M_km) fu (0, M_ke)).bind fun e1 => some (e1, (M_km + 1))
def m_X12_keeps_B11 (st : Int32 × (Nat → Int32)) : Option ((Int32 × (Nat → Int32)) ⊕ (((Nat → Int32)))) := if 917 ≤ st.1 then (some (Sum.inr st.2)) else (ck (131 + st.1) 1048 (ck st.1 1048 (some (Sum.inl ((st.1 + 1), (upd st.2 (Int32.toNatClampNeg st.1) (st.2 (Int32.toNatClampNeg (131 + st.1)))))))))
def m_X12_keeps (M_s : Nat → Int32) (M_ke : Nat → Int32) (M_km : Int32) : Option ((Nat → Int32) × Int32) := if M_km = 8 then ((it (m_X12_keeps_B11) fu (0, M_ke)).bind fun e6 => m_X12_keeps_J50 M_s e6 (M_km - 1)) else (m_X12_keeps_J50 M_s M_ke M_km)
def m_X12_addToCitation_J33 (M_s : Nat → Int32) (M_ke : Nat → Int32) (M_km : Int32) : Option (Int32 × (Nat → Int32) × (Nat → Int32) × Int32) := some ((-2), M_s, M_ke, M_km)
def m_X12_addToCitation (M_s : Nat → Int32) (M_ke : Nat → Int32) (M_km : Int32) (x1 : Int32) : Option (Int32 × (Nat → Int32) × (Nat → Int32) × Int32) := (m_X12_isWork M_s x1).bind fun e1 => if e1 = 0 then (some ((-1), M_s, M_ke, M_km)) else (ck 70 131 (if ((M_s (Int32.toNatClampNeg 70)) - 1) < 0 then (m_X12_addToCitation_J33 M_s M_ke M_km) else ((m_X12_doesCite M_s ((M_s (Int32.toNatClampNeg 70)) - 1) x1).bind fun e5 => if e5 = 0 then ((m_X12_cites M_s ((M_s (Int32.toNatClampNeg 70)) - 1)).bind fun e7 => if e7 = 5 then (some ((-3), M_s, M_ke, M_km)) else ((m_X12_keeps M_s M_ke M_km).bind fun e9 => (m_X12_cites M_s ((M_s (Int32.toNatClampNeg 70)) - 1)).bind fun e10 => ck (((71 + (6 * ((M_s (Int32.toNatClampNeg 70)) - 1))) + 1) + e10) 131 (ck (71 + (6 * ((M_s (Int32.toNatClampNeg 70)) - 1))) 131 (ck (71 + (6 * ((M_s (Int32.toNatClampNeg 70)) - 1))) 131 ((m_X12_cites (upd (upd M_s (Int32.toNatClampNeg (((71 + (6 * ((M_s (Int32.toNatClampNeg 70)) - 1))) + 1) + e10)) x1) (Int32.toNatClampNeg (71 + (6 * ((M_s (Int32.toNatClampNeg 70)) - 1)))) (((upd M_s (Int32.toNatClampNeg (((71 + (6 * ((M_s (Int32.toNatClampNeg 70)) - 1))) + 1) + e10)) x1) (Int32.toNatClampNeg (71 + (6 * ((M_s (Int32.toNatClampNeg 70)) - 1))))) + 1)) ((M_s (Int32.toNatClampNeg 70)) - 1)).bind fun e14 => some (e14, (upd (upd M_s (Int32.toNatClampNeg (((71 + (6 * ((M_s (Int32.toNatClampNeg 70)) - 1))) + 1) + e10)) x1) (Int32.toNatClampNeg (71 + (6 * ((M_s (Int32.toNatClampNeg 70)) - 1)))) (((upd M_s (Int32.toNatClampNeg (((71 + (6 * ((M_s (Int32.toNatClampNeg 70)) - 1))) + 1) + e10)) x1) (Int32.toNatClampNeg (71 + (6 * ((M_s (Int32.toNatClampNeg 70)) - 1))))) + 1)), e9.1, e9.2)))))) else (m_X12_addToCitation_J33 M_s M_ke M_km))))
def m_X12_againstAuthors_B30 (x1 : Int32) (x2 : Int32) (x3 : Int32) (M_s : Nat → Int32) (st : Int32) : Option (Int32 ⊕ (Int32 ⊕ Unit)) := if x3 ≤ st then (some (Sum.inr (Sum.inr (())))) else ((m_X12_author M_s x1 st).bind fun e7 => (m_X12_author M_s x2 st).bind fun e8 => if e7 = e8 then (some (Sum.inl (st + 1))) else (some (Sum.inr (Sum.inl st))))
def m_X12_againstAuthors_J26 (x1 : Int32) (x2 : Int32) (y0 : Int32) (M_s : Nat → Int32) : Option (Int32) := (it (m_X12_againstAuthors_B30 x1 x2 y0 M_s) fu 0).bind (Sum.elim (fun v1_0 => (m_X12_author M_s x1 v1_0).bind fun e2 => (m_X12_author M_s x2 v1_0).bind fun e3 => some (e2 - e3)) (fun v1_1 => (m_X12_authors M_s x1).bind fun e4 => (m_X12_authors M_s x2).bind fun e5 => some (e4 - e5)))
def m_X12_againstAuthors (M_s : Nat → Int32) (x1 : Int32) (x2 : Int32) : Option (Int32) := (m_X12_authors M_s x1).bind fun e10 => (m_X12_authors M_s x2).bind fun e11 => if e11 ≤ e10 then ((m_X12_authors M_s x2).bind fun e13 => m_X12_againstAuthors_J26 x1 x2 e13 M_s) else ((m_X12_authors M_s x1).bind fun e14 => m_X12_againstAuthors_J26 x1 x2 e14 M_s)
def m_X12_title (M_s : Nat → Int32) (x1 : Int32) : Option (Int32) := ck ((1 + (7 * x1)) + 6) 131 (some (M_s (Int32.toNatClampNeg ((1 + (7 * x1)) + 6))))
def m_X12_against_J108 (y0 : Int32) : Option (Int32) := some y0
def m_X12_against_J76 (x1 : Int32) (x2 : Int32) (x3 : Int32) (y0 : Int32) : Option (Int32 ⊕ ((Int32 × Int32) ⊕ Unit)) := if y0 = 0 then (some (Sum.inl (x3 + 1))) else (some (Sum.inr (Sum.inl (x3, y0))))
def m_X12_against_B2 (x1 : Int32) (x2 : Int32) (M_s : Nat → Int32) (st : Int32) : Option (Int32 ⊕ ((Int32 × Int32) ⊕ Unit)) := if 3 ≤ st then (some (Sum.inr (Sum.inr (())))) else (ck (64 + (2 * st)) 131 (if (M_s (Int32.toNatClampNeg (64 + (2 * st)))) = 1 then ((m_X12_againstAuthors M_s x1 x2).bind fun e14 => m_X12_against_J76 x1 x2 st e14) else (if (M_s (Int32.toNatClampNeg (64 + (2 * st)))) = 2 then ((m_X12_year M_s x1).bind fun e12 => (m_X12_year M_s x2).bind fun e13 => m_X12_against_J76 x1 x2 st (e12 - e13)) else (if (M_s (Int32.toNatClampNeg (64 + (2 * st)))) = 3 then ((m_X12_title M_s x1).bind fun e10 => (m_X12_title M_s x2).bind fun e11 => m_X12_against_J76 x1 x2 st (e10 - e11)) else (m_X12_against_J76 x1 x2 st 0)))))
def m_X12_against (M_s : Nat → Int32) (x1 : Int32) (x2 : Int32) : Option (Int32) := (it (m_X12_against_B2 x1 x2 M_s) fu 0).bind (Sum.elim (fun v1_0 => ck ((64 + (2 * v1_0.1)) + 1) 131 (if (M_s (Int32.toNatClampNeg ((64 + (2 * v1_0.1)) + 1))) = 1 then (m_X12_against_J108 (-v1_0.2)) else (m_X12_against_J108 v1_0.2))) (fun v1_1 => some (x1 - x2)))
def m_X12_layOrder_J46 (x1 : Int32) (x3 : Int32) (y0 : Int32) (y1 : Int32) : Option ((Int32 × Int32) ⊕ Int32) := some (Sum.inl ((y1 + y0), (x3 + 1)))
def m_X12_layOrder_J45 (x1 : Int32) (x3 : Int32) (y0 : Int32) : Option ((Int32 × Int32) ⊕ Int32) := m_X12_layOrder_J46 x1 x3 0 y0
def m_X12_layOrder_B16 (x1 : Int32) (M_s : Nat → Int32) (st : Int32 × Int32) : Option ((Int32 × Int32) ⊕ Int32) := ck 0 131 (if (M_s (Int32.toNatClampNeg 0)) ≤ st.2 then (some (Sum.inr st.1)) else (if st.2 = x1 then (m_X12_layOrder_J45 x1 st.2 st.1) else ((m_X12_against M_s st.2 x1).bind fun e9 => if 0 ≤ e9 then (m_X12_layOrder_J45 x1 st.2 st.1) else (m_X12_layOrder_J46 x1 st.2 1 st.1))))
def m_X12_layOrder_B2 (M_s : Nat → Int32) (st : Int32 × (Nat → Int32)) : Option ((Int32 × (Nat → Int32)) ⊕ (((Nat → Int32)))) := ck 0 131 (if (M_s (Int32.toNatClampNeg 0)) ≤ st.1 then (some (Sum.inr st.2)) else ((it (m_X12_layOrder_B16 st.1 M_s) fu (0, 0)).bind fun e4 => ck e4 8 (some (Sum.inl ((st.1 + 1), (upd st.2 (Int32.toNatClampNeg e4) st.1))))))
def m_X12_layOrder (M_s : Nat → Int32) (M_bo : Nat → Int32) : Option ((Nat → Int32)) := (it (m_X12_layOrder_B2 M_s) fu (0, M_bo)).bind fun e1 => some e1
def m_X12_layNumbers_J133 (x1 : Int32) (x2 : Int32) (x3 : Int32) (M_bn : Nat → Int32) : Option ((Int32 × Int32 × (Nat → Int32)) ⊕ (((Nat → Int32)))) := some (Sum.inl (x1, (x3 + 1), M_bn))
def m_X12_layNumbers_B95 (x2 : Int32) (M_s : Nat → Int32) (M_bo : Nat → Int32) (st : Int32 × Int32 × (Nat → Int32)) : Option ((Int32 × Int32 × (Nat → Int32)) ⊕ (((Nat → Int32)))) := ck 0 131 (if (M_s (Int32.toNatClampNeg 0)) ≤ st.2.1 then (some (Sum.inr st.2.2)) else (ck st.2.1 8 (if ((x2 >>> ((M_bo (Int32.toNatClampNeg st.2.1)) &&& 31)) &&& 1) = 0 then (ck st.2.1 8 (ck st.1 8 (m_X12_layNumbers_J133 (st.1 + 1) x2 st.2.1 (upd st.2.2 (Int32.toNatClampNeg st.1) (M_bo (Int32.toNatClampNeg st.2.1)))))) else (m_X12_layNumbers_J133 st.1 x2 st.2.1 st.2.2))))
def m_X12_layNumbers_J81 (x1 : Int32) (x2 : Int32) (x3 : Int32) (x4 : Int32) (M_bn : Nat → Int32) : Option ((Int32 × Int32 × Int32 × (Nat → Int32)) ⊕ ((Int32 × Int32 × (Nat → Int32)))) := some (Sum.inl (x1, x2, (x4 + 1), M_bn))
def m_X12_layNumbers_B35 (x3 : Int32) (M_s : Nat → Int32) (st : Int32 × Int32 × Int32 × (Nat → Int32)) : Option ((Int32 × Int32 × Int32 × (Nat → Int32)) ⊕ ((Int32 × Int32 × (Nat → Int32)))) := (m_X12_cites M_s x3).bind fun e15 => if e15 ≤ st.2.2.1 then (some (Sum.inr (st.1, st.2.1, st.2.2.2))) else ((m_X12_cited M_s x3 st.2.2.1).bind fun e17 => if ((st.2.1 >>> (e17 &&& 31)) &&& 1) = 0 then (ck st.1 8 (m_X12_layNumbers_J81 (st.1 + 1) (st.2.1 ||| (1 <<< (e17 &&& 31))) x3 st.2.2.1 (upd st.2.2.2 (Int32.toNatClampNeg st.1) e17))) else (m_X12_layNumbers_J81 st.1 st.2.1 x3 st.2.2.1 st.2.2.2))
def m_X12_layNumbers_B10 (M_s : Nat → Int32) (st : Int32 × Int32 × Int32 × (Nat → Int32)) : Option ((Int32 × Int32 × Int32 × (Nat → Int32)) ⊕ ((Int32 × Int32 × (Nat → Int32)))) := ck 70 131 (if (M_s (Int32.toNatClampNeg 70)) ≤ st.2.2.1 then (some (Sum.inr (st.1, st.2.1, st.2.2.2))) else (ck 62 131 (if (M_s (Int32.toNatClampNeg 62)) = 1 then ((it (m_X12_layNumbers_B35 st.2.2.1 M_s) fu (st.1, st.2.1, 0, st.2.2.2)).bind fun e14 => some (Sum.inl (e14.1, e14.2.1, (st.2.2.1 + 1), e14.2.2))) else (some (Sum.inr (st.1, st.2.1, st.2.2.2))))))
def m_X12_layNumbers (M_s : Nat → Int32) (M_bo : Nat → Int32) (M_bn : Nat → Int32) : Option ((Nat → Int32) × (Nat → Int32)) := (m_X12_layOrder M_s M_bo).bind fun e1 => (it (m_X12_layNumbers_B10 M_s) fu (0, 0, 0, M_bn)).bind fun e2 => (it (m_X12_layNumbers_B95 e2.2.1 M_s e1) fu (e2.1, 0, e2.2.2)).bind fun e3 => some (e1, e3)
def m_X12_layGroups_J51 (x1 : Int32) (x2 : Int32) (y0 : Int32) (y1 : Int32) (M_gr : Nat → Int32) : Option ((Int32 × (Nat → Int32)) ⊕ (((Nat → Int32)))) := ck y1 8 (some (Sum.inl ((x2 + (-1)), (upd M_gr (Int32.toNatClampNeg y1) y0))))
def m_X12_layGroups_B23 (x1 : Int32) (M_s : Nat → Int32) (M_sh : Nat → Int32) (M_in : Nat → Int32) (M_su : Nat → Int32) (st : Int32 × (Nat → Int32)) : Option ((Int32 × (Nat → Int32)) ⊕ (((Nat → Int32)))) := if st.1 < 0 then (some (Sum.inr st.2)) else ((m_X12_haveOneLabel M_s M_sh M_in M_su st.1 x1).bind fun e8 => if e8 = 0 then (ck x1 8 (m_X12_layGroups_J51 x1 st.1 (st.2 (Int32.toNatClampNeg x1)) x1 st.2)) else (m_X12_layGroups_J51 x1 st.1 st.1 x1 st.2))
def m_X12_layGroups_B2 (M_s : Nat → Int32) (M_sh : Nat → Int32) (M_in : Nat → Int32) (M_su : Nat → Int32) (st : Int32 × (Nat → Int32)) : Option ((Int32 × (Nat → Int32)) ⊕ (((Nat → Int32)))) := ck 0 131 (if (M_s (Int32.toNatClampNeg 0)) ≤ st.1 then (some (Sum.inr st.2)) else (ck st.1 8 ((it (m_X12_layGroups_B23 st.1 M_s M_sh M_in M_su) fu ((st.1 - 1), (upd st.2 (Int32.toNatClampNeg st.1) st.1))).bind fun e5 => some (Sum.inl ((st.1 + 1), e5)))))
def m_X12_layGroups (M_s : Nat → Int32) (M_sh : Nat → Int32) (M_in : Nat → Int32) (M_su : Nat → Int32) (M_gr : Nat → Int32) : Option ((Nat → Int32)) := (it (m_X12_layGroups_B2 M_s M_sh M_in M_su) fu (0, M_gr)).bind fun e1 => some e1
def m_X12_sizeOf_J30 (x1 : Int32) (x3 : Int32) (y0 : Int32) (y1 : Int32) : Option ((Int32 × Int32) ⊕ Int32) := some (Sum.inl ((y1 + y0), (x3 + 1)))
def m_X12_sizeOf_B4 (x1 : Int32) (M_s : Nat → Int32) (M_gr : Nat → Int32) (st : Int32 × Int32) : Option ((Int32 × Int32) ⊕ Int32) := ck 0 131 (if (M_s (Int32.toNatClampNeg 0)) ≤ st.2 then (some (Sum.inr st.1)) else (ck st.2 8 (if (M_gr (Int32.toNatClampNeg st.2)) = x1 then (m_X12_sizeOf_J30 x1 st.2 1 st.1) else (m_X12_sizeOf_J30 x1 st.2 0 st.1))))
def m_X12_sizeOf (M_s : Nat → Int32) (M_gr : Nat → Int32) (x1 : Int32) : Option (Int32) := (it (m_X12_sizeOf_B4 x1 M_s M_gr) fu (0, 0)).bind fun e1 => some e1
def m_X12_layLabels_J185 (x1 : Int32) (x2 : Int32) (M_sh : Nat → Int32) (M_in : Nat → Int32) (M_su : Nat → Int32) (M_tr : Nat → Int32) : Option ((Int32 × (Nat → Int32) × (Nat → Int32) × (Nat → Int32) × (Nat → Int32)) ⊕ (((Nat → Int32) × (Nat → Int32) × (Nat → Int32) × (Nat → Int32)))) := some (Sum.inl ((x2 + 1), M_sh, M_in, M_su, M_tr))
def m_X12_layLabels_B121 (x1 : Int32) (M_s : Nat → Int32) (M_bo : Nat → Int32) (M_gr : Nat → Int32) (st : Int32 × (Nat → Int32) × (Nat → Int32) × (Nat → Int32) × (Nat → Int32)) : Option ((Int32 × (Nat → Int32) × (Nat → Int32) × (Nat → Int32) × (Nat → Int32)) ⊕ (((Nat → Int32) × (Nat → Int32) × (Nat → Int32) × (Nat → Int32)))) := ck 0 131 (if (M_s (Int32.toNatClampNeg 0)) ≤ st.1 then (some (Sum.inr (st.2.1, st.2.2.1, st.2.2.2.1, st.2.2.2.2))) else (ck 60 131 (if (((M_s (Int32.toNatClampNeg 60)) >>> (x1 &&& 31)) &&& 1) = 1 then ((m_X12_sizeOf M_s M_gr st.1).bind fun e11 => if e11 ≤ 1 then (m_X12_layLabels_J185 x1 st.1 st.2.1 st.2.2.1 st.2.2.2.1 st.2.2.2.2) else (if x1 = 0 then ((m_X12_addNames M_s st.2.1 st.2.2.1 st.2.2.2.1 M_gr st.2.2.2.2 st.1).bind fun e17 => m_X12_layLabels_J185 x1 st.1 e17.1 st.2.2.1 st.2.2.2.1 e17.2) else (if x1 = 1 then ((m_X12_addInitials M_s st.2.1 st.2.2.1 st.2.2.2.1 M_gr st.1).bind fun e16 => m_X12_layLabels_J185 x1 st.1 st.2.1 e16 st.2.2.2.1 st.2.2.2.2) else ((m_X12_addSuffixes M_s M_bo st.2.2.2.1 M_gr st.1).bind fun e15 => m_X12_layLabels_J185 x1 st.1 st.2.1 st.2.2.1 e15 st.2.2.2.2)))) else (some (Sum.inr (st.2.1, st.2.2.1, st.2.2.2.1, st.2.2.2.2))))))
def m_X12_layLabels_B110 (M_s : Nat → Int32) (M_bo : Nat → Int32) (st : Int32 × (Nat → Int32) × (Nat → Int32) × (Nat → Int32) × (Nat → Int32) × (Nat → Int32)) : Option ((Int32 × (Nat → Int32) × (Nat → Int32) × (Nat → Int32) × (Nat → Int32) × (Nat → Int32)) ⊕ (((Nat → Int32) × (Nat → Int32) × (Nat → Int32) × (Nat → Int32) × (Nat → Int32)))) := if 3 ≤ st.1 then (some (Sum.inr (st.2.1, st.2.2.1, st.2.2.2.1, st.2.2.2.2.1, st.2.2.2.2.2))) else ((m_X12_layGroups M_s st.2.1 st.2.2.1 st.2.2.2.1 st.2.2.2.2.1).bind fun e5 => (it (m_X12_layLabels_B121 st.1 M_s M_bo e5) fu (0, st.2.1, st.2.2.1, st.2.2.2.1, st.2.2.2.2.2)).bind fun e6 => some (Sum.inl ((st.1 + 1), e6.1, e6.2.1, e6.2.2.1, e5, e6.2.2.2)))
def m_X12_layLabels_J86 (x1 : Int32) (y0 : Int32) (y1 : Int32) (M_sh : Nat → Int32) (M_in : Nat → Int32) (M_su : Nat → Int32) : Option ((Int32 × (Nat → Int32) × (Nat → Int32) × (Nat → Int32)) ⊕ (((Nat → Int32) × (Nat → Int32) × (Nat → Int32)))) := ck y1 8 (ck x1 8 (ckb 0 (ck x1 8 (some (Sum.inl ((x1 + 1), (upd M_sh (Int32.toNatClampNeg y1) y0), (upd M_in (Int32.toNatClampNeg x1) 0), (upd M_su (Int32.toNatClampNeg x1) (-9))))))))
def m_X12_layLabels_J81 (x1 : Int32) (y0 : Int32) (M_s : Nat → Int32) (M_sh : Nat → Int32) (M_in : Nat → Int32) (M_su : Nat → Int32) : Option ((Int32 × (Nat → Int32) × (Nat → Int32) × (Nat → Int32)) ⊕ (((Nat → Int32) × (Nat → Int32) × (Nat → Int32)))) := (m_X12_authors M_s x1).bind fun e22 => m_X12_layLabels_J86 x1 e22 y0 M_sh M_in M_su
def m_X12_layLabels_J46 (x1 : Int32) (y0 : Int32) (M_s : Nat → Int32) (M_sh : Nat → Int32) (M_in : Nat → Int32) (M_su : Nat → Int32) : Option ((Int32 × (Nat → Int32) × (Nat → Int32) × (Nat → Int32)) ⊕ (((Nat → Int32) × (Nat → Int32) × (Nat → Int32)))) := if y0 = 0 then (m_X12_layLabels_J81 x1 x1 M_s M_sh M_in M_su) else (ck 59 131 ((m_X12_authors M_s x1).bind fun e25 => if e25 ≤ (M_s (Int32.toNatClampNeg 59)) then (m_X12_layLabels_J81 x1 x1 M_s M_sh M_in M_su) else (ck 59 131 (m_X12_layLabels_J86 x1 (M_s (Int32.toNatClampNeg 59)) x1 M_sh M_in M_su))))
def m_X12_layLabels_J45 (x1 : Int32) (M_s : Nat → Int32) (M_sh : Nat → Int32) (M_in : Nat → Int32) (M_su : Nat → Int32) : Option ((Int32 × (Nat → Int32) × (Nat → Int32) × (Nat → Int32)) ⊕ (((Nat → Int32) × (Nat → Int32) × (Nat → Int32)))) := m_X12_layLabels_J46 x1 0 M_s M_sh M_in M_su
def m_X12_layLabels_B6 (M_s : Nat → Int32) (st : Int32 × (Nat → Int32) × (Nat → Int32) × (Nat → Int32)) : Option ((Int32 × (Nat → Int32) × (Nat → Int32) × (Nat → Int32)) ⊕ (((Nat → Int32) × (Nat → Int32) × (Nat → Int32)))) := ck 0 131 (if (M_s (Int32.toNatClampNeg 0)) ≤ st.1 then (some (Sum.inr (st.2.1, st.2.2.1, st.2.2.2))) else (ck 58 131 (if (M_s (Int32.toNatClampNeg 58)) ≤ 0 then (m_X12_layLabels_J45 st.1 M_s st.2.1 st.2.2.1 st.2.2.2) else ((m_X12_authors M_s st.1).bind fun e32 => ck 58 131 (if e32 < (M_s (Int32.toNatClampNeg 58)) then (m_X12_layLabels_J45 st.1 M_s st.2.1 st.2.2.1 st.2.2.2) else (m_X12_layLabels_J46 st.1 1 M_s st.2.1 st.2.2.1 st.2.2.2))))))
def m_X12_layLabels (M_s : Nat → Int32) (M_bo : Nat → Int32) (M_bn : Nat → Int32) (M_sh : Nat → Int32) (M_in : Nat → Int32) (M_su : Nat → Int32) (M_gr : Nat → Int32) (M_tr : Nat → Int32) : Option ((Nat → Int32) × (Nat → Int32) × (Nat → Int32) × (Nat → Int32) × (Nat → Int32) × (Nat → Int32) × (Nat → Int32)) := (m_X12_layNumbers M_s M_bo M_bn).bind fun e1 => (it (m_X12_layLabels_B6 M_s) fu (0, M_sh, M_in, M_su)).bind fun e2 => (it (m_X12_layLabels_B110 M_s e1.1) fu (0, e2.1, e2.2.1, e2.2.2, M_gr, M_tr)).bind fun e3 => some (e1.1, e1.2, e3.1, e3.2.1, e3.2.2.1, e3.2.2.2.1, e3.2.2.2.2)
def m_X12_ambiguousWith_J50 (x1 : Int32) (x3 : Int32) (y0 : Int32) (y1 : Int32) : Option ((Int32 × Int32) ⊕ Int32) := some (Sum.inl ((y1 ||| y0), (x3 + 1)))
def m_X12_ambiguousWith_J49 (x1 : Int32) (x3 : Int32) (y0 : Int32) : Option ((Int32 × Int32) ⊕ Int32) := m_X12_ambiguousWith_J50 x1 x3 0 y0
def m_X12_ambiguousWith_B18 (x1 : Int32) (M_s : Nat → Int32) (M_sh : Nat → Int32) (M_in : Nat → Int32) (M_su : Nat → Int32) (st : Int32 × Int32) : Option ((Int32 × Int32) ⊕ Int32) := ck 0 131 (if (M_s (Int32.toNatClampNeg 0)) ≤ st.2 then (some (Sum.inr st.1)) else (if st.2 = x1 then (m_X12_ambiguousWith_J49 x1 st.2 st.1) else ((m_X12_haveOneLabel M_s M_sh M_in M_su st.2 x1).bind fun e8 => if e8 = 0 then (m_X12_ambiguousWith_J49 x1 st.2 st.1) else (m_X12_ambiguousWith_J50 x1 st.2 (1 <<< (st.2 &&& 31)) st.1))))
def m_X12_ambiguousWith (M_s : Nat → Int32) (M_bo : Nat → Int32) (M_bn : Nat → Int32) (M_sh : Nat → Int32) (M_in : Nat → Int32) (M_su : Nat → Int32) (M_gr : Nat → Int32) (M_tr : Nat → Int32) (x1 : Int32) : Option (Int32 × (Nat → Int32) × (Nat → Int32) × (Nat → Int32) × (Nat → Int32) × (Nat → Int32) × (Nat → Int32) × (Nat → Int32)) := (m_X12_isWork M_s x1).bind fun e1 => if e1 = 0 then (some ((-1), M_bo, M_bn, M_sh, M_in, M_su, M_gr, M_tr)) else ((m_X12_layLabels M_s M_bo M_bn M_sh M_in M_su M_gr M_tr).bind fun e3 => (it (m_X12_ambiguousWith_B18 x1 M_s e3.2.2.1 e3.2.2.2.1 e3.2.2.2.2.1) fu (0, 0)).bind fun e4 => some (e4, e3.1, e3.2.1, e3.2.2.1, e3.2.2.2.1, e3.2.2.2.2.1, e3.2.2.2.2.2.1, e3.2.2.2.2.2.2))
def m_X12_appendCharacter (M_te : Nat → Int32) (M_n : Int32) (x1 : Int32) : Option (Int32 × (Nat → Int32) × Int32) := (m_X12_in (Int32.toInt64 x1) 0 255).bind fun e1 => if e1 = 0 then (some ((-1), M_te, M_n)) else (if M_n = 150 then (some ((-3), M_te, M_n)) else (ck M_n 150 (some ((M_n + 1), (upd M_te (Int32.toNatClampNeg M_n) x1), (M_n + 1)))))
def m_X12_authorCount_J17 (y0 : Int32) : Option (Int32) := some y0
def m_X12_authorCount (M_s : Nat → Int32) (x1 : Int32) : Option (Int32) := (m_X12_isWork M_s x1).bind fun e1 => if e1 = 0 then (m_X12_authorCount_J17 (-1)) else ((m_X12_authors M_s x1).bind fun e3 => m_X12_authorCount_J17 e3)
def m_X12_beginCitation (M_s : Nat → Int32) (M_ke : Nat → Int32) (M_km : Int32) (x1 : Int32) : Option (Int32 × (Nat → Int32) × (Nat → Int32) × Int32) := (m_X12_isWork M_s x1).bind fun e1 => if e1 = 0 then (some ((-1), M_s, M_ke, M_km)) else (ck 70 131 (if (M_s (Int32.toNatClampNeg 70)) = 10 then (some ((-3), M_s, M_ke, M_km)) else ((m_X12_keeps M_s M_ke M_km).bind fun e5 => ck 70 131 (ck (71 + (6 * (M_s (Int32.toNatClampNeg 70)))) 131 (ck 70 131 (ck ((71 + (6 * ((upd M_s (Int32.toNatClampNeg (71 + (6 * (M_s (Int32.toNatClampNeg 70))))) 1) (Int32.toNatClampNeg 70)))) + 1) 131 (ck 70 131 (ck 70 131 (ck 70 131 (some ((((upd (upd (upd M_s (Int32.toNatClampNeg (71 + (6 * (M_s (Int32.toNatClampNeg 70))))) 1) (Int32.toNatClampNeg ((71 + (6 * ((upd M_s (Int32.toNatClampNeg (71 + (6 * (M_s (Int32.toNatClampNeg 70))))) 1) (Int32.toNatClampNeg 70)))) + 1)) x1) (Int32.toNatClampNeg 70) (((upd (upd M_s (Int32.toNatClampNeg (71 + (6 * (M_s (Int32.toNatClampNeg 70))))) 1) (Int32.toNatClampNeg ((71 + (6 * ((upd M_s (Int32.toNatClampNeg (71 + (6 * (M_s (Int32.toNatClampNeg 70))))) 1) (Int32.toNatClampNeg 70)))) + 1)) x1) (Int32.toNatClampNeg 70)) + 1)) (Int32.toNatClampNeg 70)) - 1), (upd (upd (upd M_s (Int32.toNatClampNeg (71 + (6 * (M_s (Int32.toNatClampNeg 70))))) 1) (Int32.toNatClampNeg ((71 + (6 * ((upd M_s (Int32.toNatClampNeg (71 + (6 * (M_s (Int32.toNatClampNeg 70))))) 1) (Int32.toNatClampNeg 70)))) + 1)) x1) (Int32.toNatClampNeg 70) (((upd (upd M_s (Int32.toNatClampNeg (71 + (6 * (M_s (Int32.toNatClampNeg 70))))) 1) (Int32.toNatClampNeg ((71 + (6 * ((upd M_s (Int32.toNatClampNeg (71 + (6 * (M_s (Int32.toNatClampNeg 70))))) 1) (Int32.toNatClampNeg 70)))) + 1)) x1) (Int32.toNatClampNeg 70)) + 1)), e5.1, e5.2)))))))))))
def m_X12_listed_J26 (y0 : Int32) : Option (Int32) := some y0
def m_X12_listed (M_s : Nat → Int32) (M_bo : Nat → Int32) (M_bn : Nat → Int32) (x1 : Int32) : Option (Int32) := ck 57 131 (if (M_s (Int32.toNatClampNeg 57)) = 1 then (ck x1 8 (m_X12_listed_J26 (M_bn (Int32.toNatClampNeg x1)))) else (ck x1 8 (m_X12_listed_J26 (M_bo (Int32.toNatClampNeg x1)))))
def m_X12_bibliographyAt (M_s : Nat → Int32) (M_bo : Nat → Int32) (M_bn : Nat → Int32) (x1 : Int32) : Option (Int32 × (Nat → Int32) × (Nat → Int32)) := ck 0 131 ((m_X12_in (Int32.toInt64 x1) 0 (Int32.toInt64 ((M_s (Int32.toNatClampNeg 0)) - 1))).bind fun e2 => if e2 = 0 then (some ((-1), M_bo, M_bn)) else ((m_X12_layNumbers M_s M_bo M_bn).bind fun e4 => (m_X12_listed M_s e4.1 e4.2 x1).bind fun e5 => some (e5, e4.1, e4.2)))
def m_X12_citationCount (M_s : Nat → Int32) : Option (Int32) := ck 70 131 (some (M_s (Int32.toNatClampNeg 70)))
def m_X12_isCitation (M_s : Nat → Int32) (x1 : Int32) : Option (Int32) := ck 70 131 ((m_X12_in (Int32.toInt64 x1) 0 (Int32.toInt64 ((M_s (Int32.toNatClampNeg 70)) - 1))).bind fun e2 => ckb e2 (some e2))
def m_X12_citationSize_J17 (y0 : Int32) : Option (Int32) := some y0
def m_X12_citationSize (M_s : Nat → Int32) (x1 : Int32) : Option (Int32) := (m_X12_isCitation M_s x1).bind fun e1 => if e1 = 0 then (m_X12_citationSize_J17 (-1)) else ((m_X12_cites M_s x1).bind fun e3 => m_X12_citationSize_J17 e3)
def m_X12_clearText (M_n : Int32) : Option (Int32 × Int32) := some (M_n, 0)
def m_X12_earliest_B2 (x1 : Int32) (x2 : Int32) (M_s : Nat → Int32) (st : Int32) : Option (Int32 ⊕ (Int32 ⊕ Unit)) := if x2 ≤ st then (some (Sum.inr (Sum.inr (())))) else ((m_X12_doesCite M_s st x1).bind fun e3 => if e3 = 0 then (some (Sum.inl (st + 1))) else (some (Sum.inr (Sum.inl st))))
def m_X12_earliest (M_s : Nat → Int32) (x1 : Int32) (x2 : Int32) : Option (Int32) := (it (m_X12_earliest_B2 x1 x2 M_s) fu 0).bind (Sum.elim (fun v1_0 => some v1_0) (fun v1_1 => some (-9)))
def m_X12_put (M_ou : Nat → Int32) (M_om : Int32) (x1 : Int32) : Option ((Nat → Int32) × Int32) := ck M_om 300 (some ((upd M_ou (Int32.toNatClampNeg M_om) x1), (M_om + 1)))
def m_X12_placeIn_bn_B2 (x2 : Int32) (M_bn : Nat → Int32) (st : Int32) : Option (Int32 ⊕ Int32) := ck st 8 (if (M_bn (Int32.toNatClampNeg st)) = x2 then (some (Sum.inr st)) else (some (Sum.inl (st + 1))))
def m_X12_placeIn_bn (M_bn : Nat → Int32) (x2 : Int32) : Option (Int32) := (it (m_X12_placeIn_bn_B2 x2 M_bn) fu 0).bind fun e1 => some e1
def m_X12_putAuthors_J58 (x1 : Int32) (x2 : Int32) (x3 : Int32) (x4 : Int32) (M_ou : Nat → Int32) (M_om : Int32) : Option ((Int32 × (Nat → Int32) × Int32) ⊕ (((Nat → Int32) × Int32))) := some (Sum.inl ((x4 + 1), M_ou, M_om))
def m_X12_putAuthors_J20 (x1 : Int32) (x2 : Int32) (x3 : Int32) (x4 : Int32) (M_s : Nat → Int32) (M_ou : Nat → Int32) (M_om : Int32) : Option ((Int32 × (Nat → Int32) × Int32) ⊕ (((Nat → Int32) × Int32))) := (m_X12_author M_s x1 x4).bind fun e2 => (m_X12_put M_ou M_om (65 + (e2 / 26))).bind fun e3 => if x3 = 0 then (m_X12_putAuthors_J58 x1 x2 x3 x4 e3.1 e3.2) else ((m_X12_author M_s x1 x4).bind fun e5 => (m_X12_put e3.1 e3.2 (97 + (e5 - e5 / 26 * 26))).bind fun e6 => m_X12_putAuthors_J58 x1 x2 x3 x4 e6.1 e6.2)
def m_X12_putAuthors_B3 (x1 : Int32) (x2 : Int32) (x3 : Int32) (M_s : Nat → Int32) (st : Int32 × (Nat → Int32) × Int32) : Option ((Int32 × (Nat → Int32) × Int32) ⊕ (((Nat → Int32) × Int32))) := if x2 ≤ st.1 then (some (Sum.inr (st.2.1, st.2.2))) else (if st.1 ≤ 0 then (m_X12_putAuthors_J20 x1 x2 x3 st.1 M_s st.2.1 st.2.2) else ((m_X12_put st.2.1 st.2.2 38).bind fun e9 => m_X12_putAuthors_J20 x1 x2 x3 st.1 M_s e9.1 e9.2))
def m_X12_putAuthors (M_s : Nat → Int32) (M_ou : Nat → Int32) (M_om : Int32) (x1 : Int32) (x2 : Int32) (x3 : Int32) : Option ((Nat → Int32) × Int32) := (it (m_X12_putAuthors_B3 x1 x2 x3 M_s) fu (0, M_ou, M_om)).bind fun e1 => some (e1.1, e1.2)
def w_X12_year (cI : ClassId) (aM aM_s aM_ke aM_te aM_re aM_bo aM_bn aM_sh aM_in aM_su aM_gr aM_tr aM_ou aM_ro : Nat) (M_s : Nat → Int32) (M_km : Int32) (M_n : Int32) (M_be : Int32) (M_ma : Int32) (M_so : Int32) (M_om : Int32) : va_W := [(aM, .inr (12, [.ref aM_s, .ref aM_ke, .int M_km, .ref aM_te, .int M_n, .ref aM_re, .int M_be, .int M_ma, .int M_so, .ref aM_bo, .ref aM_bn, .ref aM_sh, .ref aM_in, .ref aM_su, .ref aM_gr, .ref aM_tr, .ref aM_ou, .int M_om, .ref aM_ro])), (aM_s, .inl (cI, 131, .inl M_s))]
theorem wa_X12_year {cI : ClassId} {aM aM_s aM_ke aM_te aM_re aM_bo aM_bn aM_sh aM_in aM_su aM_gr aM_tr aM_ou aM_ro : Nat} {M_s M_s' : Nat → Int32} {M_km M_km' : Int32} {M_n M_n' : Int32} {M_be M_be' : Int32} {M_ma M_ma' : Int32} {M_so M_so' : Int32} {M_om M_om' : Int32} : (w_X12_year cI aM aM_s aM_ke aM_te aM_re aM_bo aM_bn aM_sh aM_in aM_su aM_gr aM_tr aM_ou aM_ro M_s' M_km' M_n' M_be' M_ma' M_so' M_om').map Prod.fst = (w_X12_year cI aM aM_s aM_ke aM_te aM_re aM_bo aM_bn aM_sh aM_in aM_su aM_gr aM_tr aM_ou aM_ro M_s M_km M_n M_be M_ma M_so M_om).map Prod.fst := rfl
abbrev rm_X12_year : Room := { frames := 0, cells := 0, slots := 0, locals := 0 }
def w_X12_authors (cI : ClassId) (aM aM_s aM_ke aM_te aM_re aM_bo aM_bn aM_sh aM_in aM_su aM_gr aM_tr aM_ou aM_ro : Nat) (M_s : Nat → Int32) (M_km : Int32) (M_n : Int32) (M_be : Int32) (M_ma : Int32) (M_so : Int32) (M_om : Int32) : va_W := [(aM, .inr (12, [.ref aM_s, .ref aM_ke, .int M_km, .ref aM_te, .int M_n, .ref aM_re, .int M_be, .int M_ma, .int M_so, .ref aM_bo, .ref aM_bn, .ref aM_sh, .ref aM_in, .ref aM_su, .ref aM_gr, .ref aM_tr, .ref aM_ou, .int M_om, .ref aM_ro])), (aM_s, .inl (cI, 131, .inl M_s))]
theorem wa_X12_authors {cI : ClassId} {aM aM_s aM_ke aM_te aM_re aM_bo aM_bn aM_sh aM_in aM_su aM_gr aM_tr aM_ou aM_ro : Nat} {M_s M_s' : Nat → Int32} {M_km M_km' : Int32} {M_n M_n' : Int32} {M_be M_be' : Int32} {M_ma M_ma' : Int32} {M_so M_so' : Int32} {M_om M_om' : Int32} : (w_X12_authors cI aM aM_s aM_ke aM_te aM_re aM_bo aM_bn aM_sh aM_in aM_su aM_gr aM_tr aM_ou aM_ro M_s' M_km' M_n' M_be' M_ma' M_so' M_om').map Prod.fst = (w_X12_authors cI aM aM_s aM_ke aM_te aM_re aM_bo aM_bn aM_sh aM_in aM_su aM_gr aM_tr aM_ou aM_ro M_s M_km M_n M_be M_ma M_so M_om).map Prod.fst := rfl
abbrev rm_X12_authors : Room := { frames := 0, cells := 0, slots := 0, locals := 0 }
def w_X12_author (cI : ClassId) (aM aM_s aM_ke aM_te aM_re aM_bo aM_bn aM_sh aM_in aM_su aM_gr aM_tr aM_ou aM_ro : Nat) (M_s : Nat → Int32) (M_km : Int32) (M_n : Int32) (M_be : Int32) (M_ma : Int32) (M_so : Int32) (M_om : Int32) : va_W := [(aM, .inr (12, [.ref aM_s, .ref aM_ke, .int M_km, .ref aM_te, .int M_n, .ref aM_re, .int M_be, .int M_ma, .int M_so, .ref aM_bo, .ref aM_bn, .ref aM_sh, .ref aM_in, .ref aM_su, .ref aM_gr, .ref aM_tr, .ref aM_ou, .int M_om, .ref aM_ro])), (aM_s, .inl (cI, 131, .inl M_s))]
theorem wa_X12_author {cI : ClassId} {aM aM_s aM_ke aM_te aM_re aM_bo aM_bn aM_sh aM_in aM_su aM_gr aM_tr aM_ou aM_ro : Nat} {M_s M_s' : Nat → Int32} {M_km M_km' : Int32} {M_n M_n' : Int32} {M_be M_be' : Int32} {M_ma M_ma' : Int32} {M_so M_so' : Int32} {M_om M_om' : Int32} : (w_X12_author cI aM aM_s aM_ke aM_te aM_re aM_bo aM_bn aM_sh aM_in aM_su aM_gr aM_tr aM_ou aM_ro M_s' M_km' M_n' M_be' M_ma' M_so' M_om').map Prod.fst = (w_X12_author cI aM aM_s aM_ke aM_te aM_re aM_bo aM_bn aM_sh aM_in aM_su aM_gr aM_tr aM_ou aM_ro M_s M_km M_n M_be M_ma M_so M_om).map Prod.fst := rfl
abbrev rm_X12_author : Room := { frames := 0, cells := 0, slots := 0, locals := 0 }
def w_X12_haveOneNames (cI : ClassId) (cZ : ClassId) (aM aM_s aM_ke aM_te aM_re aM_bo aM_bn aM_sh aM_in aM_su aM_gr aM_tr aM_ou aM_ro : Nat) (M_s : Nat → Int32) (M_km : Int32) (M_n : Int32) (M_be : Int32) (M_ma : Int32) (M_so : Int32) (M_sh : Nat → Int32) (M_in : Nat → Int32) (M_om : Int32) : va_W := [(aM, .inr (12, [.ref aM_s, .ref aM_ke, .int M_km, .ref aM_te, .int M_n, .ref aM_re, .int M_be, .int M_ma, .int M_so, .ref aM_bo, .ref aM_bn, .ref aM_sh, .ref aM_in, .ref aM_su, .ref aM_gr, .ref aM_tr, .ref aM_ou, .int M_om, .ref aM_ro])), (aM_s, .inl (cI, 131, .inl M_s)), (aM_sh, .inl (cI, 8, .inl M_sh)), (aM_in, .inl (cZ, 8, .inl M_in))]
theorem wa_X12_haveOneNames {cI : ClassId} {cZ : ClassId} {aM aM_s aM_ke aM_te aM_re aM_bo aM_bn aM_sh aM_in aM_su aM_gr aM_tr aM_ou aM_ro : Nat} {M_s M_s' : Nat → Int32} {M_km M_km' : Int32} {M_n M_n' : Int32} {M_be M_be' : Int32} {M_ma M_ma' : Int32} {M_so M_so' : Int32} {M_sh M_sh' : Nat → Int32} {M_in M_in' : Nat → Int32} {M_om M_om' : Int32} : (w_X12_haveOneNames cI cZ aM aM_s aM_ke aM_te aM_re aM_bo aM_bn aM_sh aM_in aM_su aM_gr aM_tr aM_ou aM_ro M_s' M_km' M_n' M_be' M_ma' M_so' M_sh' M_in' M_om').map Prod.fst = (w_X12_haveOneNames cI cZ aM aM_s aM_ke aM_te aM_re aM_bo aM_bn aM_sh aM_in aM_su aM_gr aM_tr aM_ou aM_ro M_s M_km M_n M_be M_ma M_so M_sh M_in M_om).map Prod.fst := rfl
abbrev rm_X12_haveOneNames : Room := { frames := 1, cells := 0, slots := 0, locals := 22 }
def w_X12_haveOneLabel (cI : ClassId) (cZ : ClassId) (aM aM_s aM_ke aM_te aM_re aM_bo aM_bn aM_sh aM_in aM_su aM_gr aM_tr aM_ou aM_ro : Nat) (M_s : Nat → Int32) (M_km : Int32) (M_n : Int32) (M_be : Int32) (M_ma : Int32) (M_so : Int32) (M_sh : Nat → Int32) (M_in : Nat → Int32) (M_su : Nat → Int32) (M_om : Int32) : va_W := [(aM, .inr (12, [.ref aM_s, .ref aM_ke, .int M_km, .ref aM_te, .int M_n, .ref aM_re, .int M_be, .int M_ma, .int M_so, .ref aM_bo, .ref aM_bn, .ref aM_sh, .ref aM_in, .ref aM_su, .ref aM_gr, .ref aM_tr, .ref aM_ou, .int M_om, .ref aM_ro])), (aM_s, .inl (cI, 131, .inl M_s)), (aM_sh, .inl (cI, 8, .inl M_sh)), (aM_in, .inl (cZ, 8, .inl M_in)), (aM_su, .inl (cI, 8, .inl M_su))]
theorem wa_X12_haveOneLabel {cI : ClassId} {cZ : ClassId} {aM aM_s aM_ke aM_te aM_re aM_bo aM_bn aM_sh aM_in aM_su aM_gr aM_tr aM_ou aM_ro : Nat} {M_s M_s' : Nat → Int32} {M_km M_km' : Int32} {M_n M_n' : Int32} {M_be M_be' : Int32} {M_ma M_ma' : Int32} {M_so M_so' : Int32} {M_sh M_sh' : Nat → Int32} {M_in M_in' : Nat → Int32} {M_su M_su' : Nat → Int32} {M_om M_om' : Int32} : (w_X12_haveOneLabel cI cZ aM aM_s aM_ke aM_te aM_re aM_bo aM_bn aM_sh aM_in aM_su aM_gr aM_tr aM_ou aM_ro M_s' M_km' M_n' M_be' M_ma' M_so' M_sh' M_in' M_su' M_om').map Prod.fst = (w_X12_haveOneLabel cI cZ aM aM_s aM_ke aM_te aM_re aM_bo aM_bn aM_sh aM_in aM_su aM_gr aM_tr aM_ou aM_ro M_s M_km M_n M_be M_ma M_so M_sh M_in M_su M_om).map Prod.fst := rfl
abbrev rm_X12_haveOneLabel : Room := { frames := 2, cells := 0, slots := 0, locals := 47 }
def w_X12_labelsOf (cI : ClassId) (cZ : ClassId) (aM aM_s aM_ke aM_te aM_re aM_bo aM_bn aM_sh aM_in aM_su aM_gr aM_tr aM_ou aM_ro : Nat) (M_s : Nat → Int32) (M_km : Int32) (M_n : Int32) (M_be : Int32) (M_ma : Int32) (M_so : Int32) (M_sh : Nat → Int32) (M_in : Nat → Int32) (M_su : Nat → Int32) (M_gr : Nat → Int32) (M_om : Int32) : va_W := [(aM, .inr (12, [.ref aM_s, .ref aM_ke, .int M_km, .ref aM_te, .int M_n, .ref aM_re, .int M_be, .int M_ma, .int M_so, .ref aM_bo, .ref aM_bn, .ref aM_sh, .ref aM_in, .ref aM_su, .ref aM_gr, .ref aM_tr, .ref aM_ou, .int M_om, .ref aM_ro])), (aM_s, .inl (cI, 131, .inl M_s)), (aM_sh, .inl (cI, 8, .inl M_sh)), (aM_in, .inl (cZ, 8, .inl M_in)), (aM_su, .inl (cI, 8, .inl M_su)), (aM_gr, .inl (cI, 8, .inl M_gr))]
theorem wa_X12_labelsOf {cI : ClassId} {cZ : ClassId} {aM aM_s aM_ke aM_te aM_re aM_bo aM_bn aM_sh aM_in aM_su aM_gr aM_tr aM_ou aM_ro : Nat} {M_s M_s' : Nat → Int32} {M_km M_km' : Int32} {M_n M_n' : Int32} {M_be M_be' : Int32} {M_ma M_ma' : Int32} {M_so M_so' : Int32} {M_sh M_sh' : Nat → Int32} {M_in M_in' : Nat → Int32} {M_su M_su' : Nat → Int32} {M_gr M_gr' : Nat → Int32} {M_om M_om' : Int32} : (w_X12_labelsOf cI cZ aM aM_s aM_ke aM_te aM_re aM_bo aM_bn aM_sh aM_in aM_su aM_gr aM_tr aM_ou aM_ro M_s' M_km' M_n' M_be' M_ma' M_so' M_sh' M_in' M_su' M_gr' M_om').map Prod.fst = (w_X12_labelsOf cI cZ aM aM_s aM_ke aM_te aM_re aM_bo aM_bn aM_sh aM_in aM_su aM_gr aM_tr aM_ou aM_ro M_s M_km M_n M_be M_ma M_so M_sh M_in M_su M_gr M_om).map Prod.fst := rfl
abbrev rm_X12_labelsOf : Room := { frames := 3, cells := 0, slots := 0, locals := 69 }
def w_X12_addInitials (cI : ClassId) (cZ : ClassId) (aM aM_s aM_ke aM_te aM_re aM_bo aM_bn aM_sh aM_in aM_su aM_gr aM_tr aM_ou aM_ro : Nat) (M_s : Nat → Int32) (M_km : Int32) (M_n : Int32) (M_be : Int32) (M_ma : Int32) (M_so : Int32) (M_sh : Nat → Int32) (M_in : Nat → Int32) (M_su : Nat → Int32) (M_gr : Nat → Int32) (M_om : Int32) : va_W := [(aM, .inr (12, [.ref aM_s, .ref aM_ke, .int M_km, .ref aM_te, .int M_n, .ref aM_re, .int M_be, .int M_ma, .int M_so, .ref aM_bo, .ref aM_bn, .ref aM_sh, .ref aM_in, .ref aM_su, .ref aM_gr, .ref aM_tr, .ref aM_ou, .int M_om, .ref aM_ro])), (aM_s, .inl (cI, 131, .inl M_s)), (aM_sh, .inl (cI, 8, .inl M_sh)), (aM_in, .inl (cZ, 8, .inl M_in)), (aM_su, .inl (cI, 8, .inl M_su)), (aM_gr, .inl (cI, 8, .inl M_gr))]
theorem wa_X12_addInitials {cI : ClassId} {cZ : ClassId} {aM aM_s aM_ke aM_te aM_re aM_bo aM_bn aM_sh aM_in aM_su aM_gr aM_tr aM_ou aM_ro : Nat} {M_s M_s' : Nat → Int32} {M_km M_km' : Int32} {M_n M_n' : Int32} {M_be M_be' : Int32} {M_ma M_ma' : Int32} {M_so M_so' : Int32} {M_sh M_sh' : Nat → Int32} {M_in M_in' : Nat → Int32} {M_su M_su' : Nat → Int32} {M_gr M_gr' : Nat → Int32} {M_om M_om' : Int32} : (w_X12_addInitials cI cZ aM aM_s aM_ke aM_te aM_re aM_bo aM_bn aM_sh aM_in aM_su aM_gr aM_tr aM_ou aM_ro M_s' M_km' M_n' M_be' M_ma' M_so' M_sh' M_in' M_su' M_gr' M_om').map Prod.fst = (w_X12_addInitials cI cZ aM aM_s aM_ke aM_te aM_re aM_bo aM_bn aM_sh aM_in aM_su aM_gr aM_tr aM_ou aM_ro M_s M_km M_n M_be M_ma M_so M_sh M_in M_su M_gr M_om).map Prod.fst := rfl
abbrev rm_X12_addInitials : Room := { frames := 4, cells := 0, slots := 0, locals := 94 }
def w_X12_showAtLeast (cI : ClassId) (aM aM_s aM_ke aM_te aM_re aM_bo aM_bn aM_sh aM_in aM_su aM_gr aM_tr aM_ou aM_ro : Nat) (M_s : Nat → Int32) (M_km : Int32) (M_n : Int32) (M_be : Int32) (M_ma : Int32) (M_so : Int32) (M_sh : Nat → Int32) (M_gr : Nat → Int32) (M_tr : Nat → Int32) (M_om : Int32) : va_W := [(aM, .inr (12, [.ref aM_s, .ref aM_ke, .int M_km, .ref aM_te, .int M_n, .ref aM_re, .int M_be, .int M_ma, .int M_so, .ref aM_bo, .ref aM_bn, .ref aM_sh, .ref aM_in, .ref aM_su, .ref aM_gr, .ref aM_tr, .ref aM_ou, .int M_om, .ref aM_ro])), (aM_s, .inl (cI, 131, .inl M_s)), (aM_sh, .inl (cI, 8, .inl M_sh)), (aM_gr, .inl (cI, 8, .inl M_gr)), (aM_tr, .inl (cI, 8, .inl M_tr))]
theorem wa_X12_showAtLeast {cI : ClassId} {aM aM_s aM_ke aM_te aM_re aM_bo aM_bn aM_sh aM_in aM_su aM_gr aM_tr aM_ou aM_ro : Nat} {M_s M_s' : Nat → Int32} {M_km M_km' : Int32} {M_n M_n' : Int32} {M_be M_be' : Int32} {M_ma M_ma' : Int32} {M_so M_so' : Int32} {M_sh M_sh' : Nat → Int32} {M_gr M_gr' : Nat → Int32} {M_tr M_tr' : Nat → Int32} {M_om M_om' : Int32} : (w_X12_showAtLeast cI aM aM_s aM_ke aM_te aM_re aM_bo aM_bn aM_sh aM_in aM_su aM_gr aM_tr aM_ou aM_ro M_s' M_km' M_n' M_be' M_ma' M_so' M_sh' M_gr' M_tr' M_om').map Prod.fst = (w_X12_showAtLeast cI aM aM_s aM_ke aM_te aM_re aM_bo aM_bn aM_sh aM_in aM_su aM_gr aM_tr aM_ou aM_ro M_s M_km M_n M_be M_ma M_so M_sh M_gr M_tr M_om).map Prod.fst := rfl
abbrev rm_X12_showAtLeast : Room := { frames := 1, cells := 0, slots := 0, locals := 21 }
def w_X12_addNames (cI : ClassId) (cZ : ClassId) (aM aM_s aM_ke aM_te aM_re aM_bo aM_bn aM_sh aM_in aM_su aM_gr aM_tr aM_ou aM_ro : Nat) (M_s : Nat → Int32) (M_km : Int32) (M_n : Int32) (M_be : Int32) (M_ma : Int32) (M_so : Int32) (M_sh : Nat → Int32) (M_in : Nat → Int32) (M_su : Nat → Int32) (M_gr : Nat → Int32) (M_tr : Nat → Int32) (M_om : Int32) : va_W := [(aM, .inr (12, [.ref aM_s, .ref aM_ke, .int M_km, .ref aM_te, .int M_n, .ref aM_re, .int M_be, .int M_ma, .int M_so, .ref aM_bo, .ref aM_bn, .ref aM_sh, .ref aM_in, .ref aM_su, .ref aM_gr, .ref aM_tr, .ref aM_ou, .int M_om, .ref aM_ro])), (aM_s, .inl (cI, 131, .inl M_s)), (aM_sh, .inl (cI, 8, .inl M_sh)), (aM_in, .inl (cZ, 8, .inl M_in)), (aM_su, .inl (cI, 8, .inl M_su)), (aM_gr, .inl (cI, 8, .inl M_gr)), (aM_tr, .inl (cI, 8, .inl M_tr))]
theorem wa_X12_addNames {cI : ClassId} {cZ : ClassId} {aM aM_s aM_ke aM_te aM_re aM_bo aM_bn aM_sh aM_in aM_su aM_gr aM_tr aM_ou aM_ro : Nat} {M_s M_s' : Nat → Int32} {M_km M_km' : Int32} {M_n M_n' : Int32} {M_be M_be' : Int32} {M_ma M_ma' : Int32} {M_so M_so' : Int32} {M_sh M_sh' : Nat → Int32} {M_in M_in' : Nat → Int32} {M_su M_su' : Nat → Int32} {M_gr M_gr' : Nat → Int32} {M_tr M_tr' : Nat → Int32} {M_om M_om' : Int32} : (w_X12_addNames cI cZ aM aM_s aM_ke aM_te aM_re aM_bo aM_bn aM_sh aM_in aM_su aM_gr aM_tr aM_ou aM_ro M_s' M_km' M_n' M_be' M_ma' M_so' M_sh' M_in' M_su' M_gr' M_tr' M_om').map Prod.fst = (w_X12_addNames cI cZ aM aM_s aM_ke aM_te aM_re aM_bo aM_bn aM_sh aM_in aM_su aM_gr aM_tr aM_ou aM_ro M_s M_km M_n M_be M_ma M_so M_sh M_in M_su M_gr M_tr M_om).map Prod.fst := rfl
abbrev rm_X12_addNames : Room := { frames := 4, cells := 0, slots := 0, locals := 94 }
def w_X12_addSuffixes (cI : ClassId) (aM aM_s aM_ke aM_te aM_re aM_bo aM_bn aM_sh aM_in aM_su aM_gr aM_tr aM_ou aM_ro : Nat) (M_s : Nat → Int32) (M_km : Int32) (M_n : Int32) (M_be : Int32) (M_ma : Int32) (M_so : Int32) (M_bo : Nat → Int32) (M_su : Nat → Int32) (M_gr : Nat → Int32) (M_om : Int32) : va_W := [(aM, .inr (12, [.ref aM_s, .ref aM_ke, .int M_km, .ref aM_te, .int M_n, .ref aM_re, .int M_be, .int M_ma, .int M_so, .ref aM_bo, .ref aM_bn, .ref aM_sh, .ref aM_in, .ref aM_su, .ref aM_gr, .ref aM_tr, .ref aM_ou, .int M_om, .ref aM_ro])), (aM_s, .inl (cI, 131, .inl M_s)), (aM_bo, .inl (cI, 8, .inl M_bo)), (aM_su, .inl (cI, 8, .inl M_su)), (aM_gr, .inl (cI, 8, .inl M_gr))]
theorem wa_X12_addSuffixes {cI : ClassId} {aM aM_s aM_ke aM_te aM_re aM_bo aM_bn aM_sh aM_in aM_su aM_gr aM_tr aM_ou aM_ro : Nat} {M_s M_s' : Nat → Int32} {M_km M_km' : Int32} {M_n M_n' : Int32} {M_be M_be' : Int32} {M_ma M_ma' : Int32} {M_so M_so' : Int32} {M_bo M_bo' : Nat → Int32} {M_su M_su' : Nat → Int32} {M_gr M_gr' : Nat → Int32} {M_om M_om' : Int32} : (w_X12_addSuffixes cI aM aM_s aM_ke aM_te aM_re aM_bo aM_bn aM_sh aM_in aM_su aM_gr aM_tr aM_ou aM_ro M_s' M_km' M_n' M_be' M_ma' M_so' M_bo' M_su' M_gr' M_om').map Prod.fst = (w_X12_addSuffixes cI aM aM_s aM_ke aM_te aM_re aM_bo aM_bn aM_sh aM_in aM_su aM_gr aM_tr aM_ou aM_ro M_s M_km M_n M_be M_ma M_so M_bo M_su M_gr M_om).map Prod.fst := rfl
abbrev rm_X12_addSuffixes : Room := { frames := 0, cells := 0, slots := 0, locals := 0 }
def w_X12_in : va_W := []
abbrev rm_X12_in : Room := { frames := 0, cells := 0, slots := 0, locals := 0 }
def w_X12_isWork (cI : ClassId) (aM aM_s aM_ke aM_te aM_re aM_bo aM_bn aM_sh aM_in aM_su aM_gr aM_tr aM_ou aM_ro : Nat) (M_s : Nat → Int32) (M_km : Int32) (M_n : Int32) (M_be : Int32) (M_ma : Int32) (M_so : Int32) (M_om : Int32) : va_W := [(aM, .inr (12, [.ref aM_s, .ref aM_ke, .int M_km, .ref aM_te, .int M_n, .ref aM_re, .int M_be, .int M_ma, .int M_so, .ref aM_bo, .ref aM_bn, .ref aM_sh, .ref aM_in, .ref aM_su, .ref aM_gr, .ref aM_tr, .ref aM_ou, .int M_om, .ref aM_ro])), (aM_s, .inl (cI, 131, .inl M_s))]
theorem wa_X12_isWork {cI : ClassId} {aM aM_s aM_ke aM_te aM_re aM_bo aM_bn aM_sh aM_in aM_su aM_gr aM_tr aM_ou aM_ro : Nat} {M_s M_s' : Nat → Int32} {M_km M_km' : Int32} {M_n M_n' : Int32} {M_be M_be' : Int32} {M_ma M_ma' : Int32} {M_so M_so' : Int32} {M_om M_om' : Int32} : (w_X12_isWork cI aM aM_s aM_ke aM_te aM_re aM_bo aM_bn aM_sh aM_in aM_su aM_gr aM_tr aM_ou aM_ro M_s' M_km' M_n' M_be' M_ma' M_so' M_om').map Prod.fst = (w_X12_isWork cI aM aM_s aM_ke aM_te aM_re aM_bo aM_bn aM_sh aM_in aM_su aM_gr aM_tr aM_ou aM_ro M_s M_km M_n M_be M_ma M_so M_om).map Prod.fst := rfl
abbrev rm_X12_isWork : Room := { frames := 1, cells := 0, slots := 0, locals := 25 }
def w_X12_cites (cI : ClassId) (aM aM_s aM_ke aM_te aM_re aM_bo aM_bn aM_sh aM_in aM_su aM_gr aM_tr aM_ou aM_ro : Nat) (M_s : Nat → Int32) (M_km : Int32) (M_n : Int32) (M_be : Int32) (M_ma : Int32) (M_so : Int32) (M_om : Int32) : va_W := [(aM, .inr (12, [.ref aM_s, .ref aM_ke, .int M_km, .ref aM_te, .int M_n, .ref aM_re, .int M_be, .int M_ma, .int M_so, .ref aM_bo, .ref aM_bn, .ref aM_sh, .ref aM_in, .ref aM_su, .ref aM_gr, .ref aM_tr, .ref aM_ou, .int M_om, .ref aM_ro])), (aM_s, .inl (cI, 131, .inl M_s))]
theorem wa_X12_cites {cI : ClassId} {aM aM_s aM_ke aM_te aM_re aM_bo aM_bn aM_sh aM_in aM_su aM_gr aM_tr aM_ou aM_ro : Nat} {M_s M_s' : Nat → Int32} {M_km M_km' : Int32} {M_n M_n' : Int32} {M_be M_be' : Int32} {M_ma M_ma' : Int32} {M_so M_so' : Int32} {M_om M_om' : Int32} : (w_X12_cites cI aM aM_s aM_ke aM_te aM_re aM_bo aM_bn aM_sh aM_in aM_su aM_gr aM_tr aM_ou aM_ro M_s' M_km' M_n' M_be' M_ma' M_so' M_om').map Prod.fst = (w_X12_cites cI aM aM_s aM_ke aM_te aM_re aM_bo aM_bn aM_sh aM_in aM_su aM_gr aM_tr aM_ou aM_ro M_s M_km M_n M_be M_ma M_so M_om).map Prod.fst := rfl
abbrev rm_X12_cites : Room := { frames := 0, cells := 0, slots := 0, locals := 0 }
def w_X12_cited (cI : ClassId) (aM aM_s aM_ke aM_te aM_re aM_bo aM_bn aM_sh aM_in aM_su aM_gr aM_tr aM_ou aM_ro : Nat) (M_s : Nat → Int32) (M_km : Int32) (M_n : Int32) (M_be : Int32) (M_ma : Int32) (M_so : Int32) (M_om : Int32) : va_W := [(aM, .inr (12, [.ref aM_s, .ref aM_ke, .int M_km, .ref aM_te, .int M_n, .ref aM_re, .int M_be, .int M_ma, .int M_so, .ref aM_bo, .ref aM_bn, .ref aM_sh, .ref aM_in, .ref aM_su, .ref aM_gr, .ref aM_tr, .ref aM_ou, .int M_om, .ref aM_ro])), (aM_s, .inl (cI, 131, .inl M_s))]
theorem wa_X12_cited {cI : ClassId} {aM aM_s aM_ke aM_te aM_re aM_bo aM_bn aM_sh aM_in aM_su aM_gr aM_tr aM_ou aM_ro : Nat} {M_s M_s' : Nat → Int32} {M_km M_km' : Int32} {M_n M_n' : Int32} {M_be M_be' : Int32} {M_ma M_ma' : Int32} {M_so M_so' : Int32} {M_om M_om' : Int32} : (w_X12_cited cI aM aM_s aM_ke aM_te aM_re aM_bo aM_bn aM_sh aM_in aM_su aM_gr aM_tr aM_ou aM_ro M_s' M_km' M_n' M_be' M_ma' M_so' M_om').map Prod.fst = (w_X12_cited cI aM aM_s aM_ke aM_te aM_re aM_bo aM_bn aM_sh aM_in aM_su aM_gr aM_tr aM_ou aM_ro M_s M_km M_n M_be M_ma M_so M_om).map Prod.fst := rfl
abbrev rm_X12_cited : Room := { frames := 0, cells := 0, slots := 0, locals := 0 }
def w_X12_doesCite (cI : ClassId) (aM aM_s aM_ke aM_te aM_re aM_bo aM_bn aM_sh aM_in aM_su aM_gr aM_tr aM_ou aM_ro : Nat) (M_s : Nat → Int32) (M_km : Int32) (M_n : Int32) (M_be : Int32) (M_ma : Int32) (M_so : Int32) (M_om : Int32) : va_W := [(aM, .inr (12, [.ref aM_s, .ref aM_ke, .int M_km, .ref aM_te, .int M_n, .ref aM_re, .int M_be, .int M_ma, .int M_so, .ref aM_bo, .ref aM_bn, .ref aM_sh, .ref aM_in, .ref aM_su, .ref aM_gr, .ref aM_tr, .ref aM_ou, .int M_om, .ref aM_ro])), (aM_s, .inl (cI, 131, .inl M_s))]
theorem wa_X12_doesCite {cI : ClassId} {aM aM_s aM_ke aM_te aM_re aM_bo aM_bn aM_sh aM_in aM_su aM_gr aM_tr aM_ou aM_ro : Nat} {M_s M_s' : Nat → Int32} {M_km M_km' : Int32} {M_n M_n' : Int32} {M_be M_be' : Int32} {M_ma M_ma' : Int32} {M_so M_so' : Int32} {M_om M_om' : Int32} : (w_X12_doesCite cI aM aM_s aM_ke aM_te aM_re aM_bo aM_bn aM_sh aM_in aM_su aM_gr aM_tr aM_ou aM_ro M_s' M_km' M_n' M_be' M_ma' M_so' M_om').map Prod.fst = (w_X12_doesCite cI aM aM_s aM_ke aM_te aM_re aM_bo aM_bn aM_sh aM_in aM_su aM_gr aM_tr aM_ou aM_ro M_s M_km M_n M_be M_ma M_so M_om).map Prod.fst := rfl
abbrev rm_X12_doesCite : Room := { frames := 1, cells := 0, slots := 0, locals := 22 }
def w_X12_keeps (cI : ClassId) (aM aM_s aM_ke aM_te aM_re aM_bo aM_bn aM_sh aM_in aM_su aM_gr aM_tr aM_ou aM_ro : Nat) (M_s : Nat → Int32) (M_ke : Nat → Int32) (M_km : Int32) (M_n : Int32) (M_be : Int32) (M_ma : Int32) (M_so : Int32) (M_om : Int32) : va_W := [(aM, .inr (12, [.ref aM_s, .ref aM_ke, .int M_km, .ref aM_te, .int M_n, .ref aM_re, .int M_be, .int M_ma, .int M_so, .ref aM_bo, .ref aM_bn, .ref aM_sh, .ref aM_in, .ref aM_su, .ref aM_gr, .ref aM_tr, .ref aM_ou, .int M_om, .ref aM_ro])), (aM_s, .inl (cI, 131, .inl M_s)), (aM_ke, .inl (cI, 1048, .inl M_ke))]
theorem wa_X12_keeps {cI : ClassId} {aM aM_s aM_ke aM_te aM_re aM_bo aM_bn aM_sh aM_in aM_su aM_gr aM_tr aM_ou aM_ro : Nat} {M_s M_s' : Nat → Int32} {M_ke M_ke' : Nat → Int32} {M_km M_km' : Int32} {M_n M_n' : Int32} {M_be M_be' : Int32} {M_ma M_ma' : Int32} {M_so M_so' : Int32} {M_om M_om' : Int32} : (w_X12_keeps cI aM aM_s aM_ke aM_te aM_re aM_bo aM_bn aM_sh aM_in aM_su aM_gr aM_tr aM_ou aM_ro M_s' M_ke' M_km' M_n' M_be' M_ma' M_so' M_om').map Prod.fst = (w_X12_keeps cI aM aM_s aM_ke aM_te aM_re aM_bo aM_bn aM_sh aM_in aM_su aM_gr aM_tr aM_ou aM_ro M_s M_ke M_km M_n M_be M_ma M_so M_om).map Prod.fst := rfl
abbrev rm_X12_keeps : Room := { frames := 0, cells := 0, slots := 0, locals := 0 }
def w_X12_addToCitation (cI : ClassId) (aM aM_s aM_ke aM_te aM_re aM_bo aM_bn aM_sh aM_in aM_su aM_gr aM_tr aM_ou aM_ro : Nat) (M_s : Nat → Int32) (M_ke : Nat → Int32) (M_km : Int32) (M_n : Int32) (M_be : Int32) (M_ma : Int32) (M_so : Int32) (M_om : Int32) : va_W := [(aM, .inr (12, [.ref aM_s, .ref aM_ke, .int M_km, .ref aM_te, .int M_n, .ref aM_re, .int M_be, .int M_ma, .int M_so, .ref aM_bo, .ref aM_bn, .ref aM_sh, .ref aM_in, .ref aM_su, .ref aM_gr, .ref aM_tr, .ref aM_ou, .int M_om, .ref aM_ro])), (aM_s, .inl (cI, 131, .inl M_s)), (aM_ke, .inl (cI, 1048, .inl M_ke))]
theorem wa_X12_addToCitation {cI : ClassId} {aM aM_s aM_ke aM_te aM_re aM_bo aM_bn aM_sh aM_in aM_su aM_gr aM_tr aM_ou aM_ro : Nat} {M_s M_s' : Nat → Int32} {M_ke M_ke' : Nat → Int32} {M_km M_km' : Int32} {M_n M_n' : Int32} {M_be M_be' : Int32} {M_ma M_ma' : Int32} {M_so M_so' : Int32} {M_om M_om' : Int32} : (w_X12_addToCitation cI aM aM_s aM_ke aM_te aM_re aM_bo aM_bn aM_sh aM_in aM_su aM_gr aM_tr aM_ou aM_ro M_s' M_ke' M_km' M_n' M_be' M_ma' M_so' M_om').map Prod.fst = (w_X12_addToCitation cI aM aM_s aM_ke aM_te aM_re aM_bo aM_bn aM_sh aM_in aM_su aM_gr aM_tr aM_ou aM_ro M_s M_ke M_km M_n M_be M_ma M_so M_om).map Prod.fst := rfl
abbrev rm_X12_addToCitation : Room := { frames := 2, cells := 0, slots := 0, locals := 46 }
def w_X12_againstAuthors (cI : ClassId) (aM aM_s aM_ke aM_te aM_re aM_bo aM_bn aM_sh aM_in aM_su aM_gr aM_tr aM_ou aM_ro : Nat) (M_s : Nat → Int32) (M_km : Int32) (M_n : Int32) (M_be : Int32) (M_ma : Int32) (M_so : Int32) (M_om : Int32) : va_W := [(aM, .inr (12, [.ref aM_s, .ref aM_ke, .int M_km, .ref aM_te, .int M_n, .ref aM_re, .int M_be, .int M_ma, .int M_so, .ref aM_bo, .ref aM_bn, .ref aM_sh, .ref aM_in, .ref aM_su, .ref aM_gr, .ref aM_tr, .ref aM_ou, .int M_om, .ref aM_ro])), (aM_s, .inl (cI, 131, .inl M_s))]
theorem wa_X12_againstAuthors {cI : ClassId} {aM aM_s aM_ke aM_te aM_re aM_bo aM_bn aM_sh aM_in aM_su aM_gr aM_tr aM_ou aM_ro : Nat} {M_s M_s' : Nat → Int32} {M_km M_km' : Int32} {M_n M_n' : Int32} {M_be M_be' : Int32} {M_ma M_ma' : Int32} {M_so M_so' : Int32} {M_om M_om' : Int32} : (w_X12_againstAuthors cI aM aM_s aM_ke aM_te aM_re aM_bo aM_bn aM_sh aM_in aM_su aM_gr aM_tr aM_ou aM_ro M_s' M_km' M_n' M_be' M_ma' M_so' M_om').map Prod.fst = (w_X12_againstAuthors cI aM aM_s aM_ke aM_te aM_re aM_bo aM_bn aM_sh aM_in aM_su aM_gr aM_tr aM_ou aM_ro M_s M_km M_n M_be M_ma M_so M_om).map Prod.fst := rfl
abbrev rm_X12_againstAuthors : Room := { frames := 1, cells := 0, slots := 0, locals := 22 }
def w_X12_title (cI : ClassId) (aM aM_s aM_ke aM_te aM_re aM_bo aM_bn aM_sh aM_in aM_su aM_gr aM_tr aM_ou aM_ro : Nat) (M_s : Nat → Int32) (M_km : Int32) (M_n : Int32) (M_be : Int32) (M_ma : Int32) (M_so : Int32) (M_om : Int32) : va_W := [(aM, .inr (12, [.ref aM_s, .ref aM_ke, .int M_km, .ref aM_te, .int M_n, .ref aM_re, .int M_be, .int M_ma, .int M_so, .ref aM_bo, .ref aM_bn, .ref aM_sh, .ref aM_in, .ref aM_su, .ref aM_gr, .ref aM_tr, .ref aM_ou, .int M_om, .ref aM_ro])), (aM_s, .inl (cI, 131, .inl M_s))]
theorem wa_X12_title {cI : ClassId} {aM aM_s aM_ke aM_te aM_re aM_bo aM_bn aM_sh aM_in aM_su aM_gr aM_tr aM_ou aM_ro : Nat} {M_s M_s' : Nat → Int32} {M_km M_km' : Int32} {M_n M_n' : Int32} {M_be M_be' : Int32} {M_ma M_ma' : Int32} {M_so M_so' : Int32} {M_om M_om' : Int32} : (w_X12_title cI aM aM_s aM_ke aM_te aM_re aM_bo aM_bn aM_sh aM_in aM_su aM_gr aM_tr aM_ou aM_ro M_s' M_km' M_n' M_be' M_ma' M_so' M_om').map Prod.fst = (w_X12_title cI aM aM_s aM_ke aM_te aM_re aM_bo aM_bn aM_sh aM_in aM_su aM_gr aM_tr aM_ou aM_ro M_s M_km M_n M_be M_ma M_so M_om).map Prod.fst := rfl
abbrev rm_X12_title : Room := { frames := 0, cells := 0, slots := 0, locals := 0 }
def w_X12_against (cI : ClassId) (aM aM_s aM_ke aM_te aM_re aM_bo aM_bn aM_sh aM_in aM_su aM_gr aM_tr aM_ou aM_ro : Nat) (M_s : Nat → Int32) (M_km : Int32) (M_n : Int32) (M_be : Int32) (M_ma : Int32) (M_so : Int32) (M_om : Int32) : va_W := [(aM, .inr (12, [.ref aM_s, .ref aM_ke, .int M_km, .ref aM_te, .int M_n, .ref aM_re, .int M_be, .int M_ma, .int M_so, .ref aM_bo, .ref aM_bn, .ref aM_sh, .ref aM_in, .ref aM_su, .ref aM_gr, .ref aM_tr, .ref aM_ou, .int M_om, .ref aM_ro])), (aM_s, .inl (cI, 131, .inl M_s))]
theorem wa_X12_against {cI : ClassId} {aM aM_s aM_ke aM_te aM_re aM_bo aM_bn aM_sh aM_in aM_su aM_gr aM_tr aM_ou aM_ro : Nat} {M_s M_s' : Nat → Int32} {M_km M_km' : Int32} {M_n M_n' : Int32} {M_be M_be' : Int32} {M_ma M_ma' : Int32} {M_so M_so' : Int32} {M_om M_om' : Int32} : (w_X12_against cI aM aM_s aM_ke aM_te aM_re aM_bo aM_bn aM_sh aM_in aM_su aM_gr aM_tr aM_ou aM_ro M_s' M_km' M_n' M_be' M_ma' M_so' M_om').map Prod.fst = (w_X12_against cI aM aM_s aM_ke aM_te aM_re aM_bo aM_bn aM_sh aM_in aM_su aM_gr aM_tr aM_ou aM_ro M_s M_km M_n M_be M_ma M_so M_om).map Prod.fst := rfl
abbrev rm_X12_against : Room := { frames := 2, cells := 0, slots := 0, locals := 46 }
def w_X12_layOrder (cI : ClassId) (aM aM_s aM_ke aM_te aM_re aM_bo aM_bn aM_sh aM_in aM_su aM_gr aM_tr aM_ou aM_ro : Nat) (M_s : Nat → Int32) (M_km : Int32) (M_n : Int32) (M_be : Int32) (M_ma : Int32) (M_so : Int32) (M_bo : Nat → Int32) (M_om : Int32) : va_W := [(aM, .inr (12, [.ref aM_s, .ref aM_ke, .int M_km, .ref aM_te, .int M_n, .ref aM_re, .int M_be, .int M_ma, .int M_so, .ref aM_bo, .ref aM_bn, .ref aM_sh, .ref aM_in, .ref aM_su, .ref aM_gr, .ref aM_tr, .ref aM_ou, .int M_om, .ref aM_ro])), (aM_s, .inl (cI, 131, .inl M_s)), (aM_bo, .inl (cI, 8, .inl M_bo))]
theorem wa_X12_layOrder {cI : ClassId} {aM aM_s aM_ke aM_te aM_re aM_bo aM_bn aM_sh aM_in aM_su aM_gr aM_tr aM_ou aM_ro : Nat} {M_s M_s' : Nat → Int32} {M_km M_km' : Int32} {M_n M_n' : Int32} {M_be M_be' : Int32} {M_ma M_ma' : Int32} {M_so M_so' : Int32} {M_bo M_bo' : Nat → Int32} {M_om M_om' : Int32} : (w_X12_layOrder cI aM aM_s aM_ke aM_te aM_re aM_bo aM_bn aM_sh aM_in aM_su aM_gr aM_tr aM_ou aM_ro M_s' M_km' M_n' M_be' M_ma' M_so' M_bo' M_om').map Prod.fst = (w_X12_layOrder cI aM aM_s aM_ke aM_te aM_re aM_bo aM_bn aM_sh aM_in aM_su aM_gr aM_tr aM_ou aM_ro M_s M_km M_n M_be M_ma M_so M_bo M_om).map Prod.fst := rfl
abbrev rm_X12_layOrder : Room := { frames := 3, cells := 0, slots := 0, locals := 71 }
def w_X12_layNumbers (cI : ClassId) (aM aM_s aM_ke aM_te aM_re aM_bo aM_bn aM_sh aM_in aM_su aM_gr aM_tr aM_ou aM_ro : Nat) (M_s : Nat → Int32) (M_km : Int32) (M_n : Int32) (M_be : Int32) (M_ma : Int32) (M_so : Int32) (M_bo : Nat → Int32) (M_bn : Nat → Int32) (M_om : Int32) : va_W := [(aM, .inr (12, [.ref aM_s, .ref aM_ke, .int M_km, .ref aM_te, .int M_n, .ref aM_re, .int M_be, .int M_ma, .int M_so, .ref aM_bo, .ref aM_bn, .ref aM_sh, .ref aM_in, .ref aM_su, .ref aM_gr, .ref aM_tr, .ref aM_ou, .int M_om, .ref aM_ro])), (aM_s, .inl (cI, 131, .inl M_s)), (aM_bo, .inl (cI, 8, .inl M_bo)), (aM_bn, .inl (cI, 8, .inl M_bn))]
theorem wa_X12_layNumbers {cI : ClassId} {aM aM_s aM_ke aM_te aM_re aM_bo aM_bn aM_sh aM_in aM_su aM_gr aM_tr aM_ou aM_ro : Nat} {M_s M_s' : Nat → Int32} {M_km M_km' : Int32} {M_n M_n' : Int32} {M_be M_be' : Int32} {M_ma M_ma' : Int32} {M_so M_so' : Int32} {M_bo M_bo' : Nat → Int32} {M_bn M_bn' : Nat → Int32} {M_om M_om' : Int32} : (w_X12_layNumbers cI aM aM_s aM_ke aM_te aM_re aM_bo aM_bn aM_sh aM_in aM_su aM_gr aM_tr aM_ou aM_ro M_s' M_km' M_n' M_be' M_ma' M_so' M_bo' M_bn' M_om').map Prod.fst = (w_X12_layNumbers cI aM aM_s aM_ke aM_te aM_re aM_bo aM_bn aM_sh aM_in aM_su aM_gr aM_tr aM_ou aM_ro M_s M_km M_n M_be M_ma M_so M_bo M_bn M_om).map Prod.fst := rfl
abbrev rm_X12_layNumbers : Room := { frames := 4, cells := 0, slots := 0, locals := 94 }
def w_X12_layGroups (cI : ClassId) (cZ : ClassId) (aM aM_s aM_ke aM_te aM_re aM_bo aM_bn aM_sh aM_in aM_su aM_gr aM_tr aM_ou aM_ro : Nat) (M_s : Nat → Int32) (M_km : Int32) (M_n : Int32) (M_be : Int32) (M_ma : Int32) (M_so : Int32) (M_sh : Nat → Int32) (M_in : Nat → Int32) (M_su : Nat → Int32) (M_gr : Nat → Int32) (M_om : Int32) : va_W := [(aM, .inr (12, [.ref aM_s, .ref aM_ke, .int M_km, .ref aM_te, .int M_n, .ref aM_re, .int M_be, .int M_ma, .int M_so, .ref aM_bo, .ref aM_bn, .ref aM_sh, .ref aM_in, .ref aM_su, .ref aM_gr, .ref aM_tr, .ref aM_ou, .int M_om, .ref aM_ro])), (aM_s, .inl (cI, 131, .inl M_s)), (aM_sh, .inl (cI, 8, .inl M_sh)), (aM_in, .inl (cZ, 8, .inl M_in)), (aM_su, .inl (cI, 8, .inl M_su)), (aM_gr, .inl (cI, 8, .inl M_gr))]
theorem wa_X12_layGroups {cI : ClassId} {cZ : ClassId} {aM aM_s aM_ke aM_te aM_re aM_bo aM_bn aM_sh aM_in aM_su aM_gr aM_tr aM_ou aM_ro : Nat} {M_s M_s' : Nat → Int32} {M_km M_km' : Int32} {M_n M_n' : Int32} {M_be M_be' : Int32} {M_ma M_ma' : Int32} {M_so M_so' : Int32} {M_sh M_sh' : Nat → Int32} {M_in M_in' : Nat → Int32} {M_su M_su' : Nat → Int32} {M_gr M_gr' : Nat → Int32} {M_om M_om' : Int32} : (w_X12_layGroups cI cZ aM aM_s aM_ke aM_te aM_re aM_bo aM_bn aM_sh aM_in aM_su aM_gr aM_tr aM_ou aM_ro M_s' M_km' M_n' M_be' M_ma' M_so' M_sh' M_in' M_su' M_gr' M_om').map Prod.fst = (w_X12_layGroups cI cZ aM aM_s aM_ke aM_te aM_re aM_bo aM_bn aM_sh aM_in aM_su aM_gr aM_tr aM_ou aM_ro M_s M_km M_n M_be M_ma M_so M_sh M_in M_su M_gr M_om).map Prod.fst := rfl
abbrev rm_X12_layGroups : Room := { frames := 3, cells := 0, slots := 0, locals := 69 }
def w_X12_sizeOf (cI : ClassId) (aM aM_s aM_ke aM_te aM_re aM_bo aM_bn aM_sh aM_in aM_su aM_gr aM_tr aM_ou aM_ro : Nat) (M_s : Nat → Int32) (M_km : Int32) (M_n : Int32) (M_be : Int32) (M_ma : Int32) (M_so : Int32) (M_gr : Nat → Int32) (M_om : Int32) : va_W := [(aM, .inr (12, [.ref aM_s, .ref aM_ke, .int M_km, .ref aM_te, .int M_n, .ref aM_re, .int M_be, .int M_ma, .int M_so, .ref aM_bo, .ref aM_bn, .ref aM_sh, .ref aM_in, .ref aM_su, .ref aM_gr, .ref aM_tr, .ref aM_ou, .int M_om, .ref aM_ro])), (aM_s, .inl (cI, 131, .inl M_s)), (aM_gr, .inl (cI, 8, .inl M_gr))]
theorem wa_X12_sizeOf {cI : ClassId} {aM aM_s aM_ke aM_te aM_re aM_bo aM_bn aM_sh aM_in aM_su aM_gr aM_tr aM_ou aM_ro : Nat} {M_s M_s' : Nat → Int32} {M_km M_km' : Int32} {M_n M_n' : Int32} {M_be M_be' : Int32} {M_ma M_ma' : Int32} {M_so M_so' : Int32} {M_gr M_gr' : Nat → Int32} {M_om M_om' : Int32} : (w_X12_sizeOf cI aM aM_s aM_ke aM_te aM_re aM_bo aM_bn aM_sh aM_in aM_su aM_gr aM_tr aM_ou aM_ro M_s' M_km' M_n' M_be' M_ma' M_so' M_gr' M_om').map Prod.fst = (w_X12_sizeOf cI aM aM_s aM_ke aM_te aM_re aM_bo aM_bn aM_sh aM_in aM_su aM_gr aM_tr aM_ou aM_ro M_s M_km M_n M_be M_ma M_so M_gr M_om).map Prod.fst := rfl
abbrev rm_X12_sizeOf : Room := { frames := 0, cells := 0, slots := 0, locals := 0 }
def w_X12_layLabels (cI : ClassId) (cZ : ClassId) (aM aM_s aM_ke aM_te aM_re aM_bo aM_bn aM_sh aM_in aM_su aM_gr aM_tr aM_ou aM_ro : Nat) (M_s : Nat → Int32) (M_km : Int32) (M_n : Int32) (M_be : Int32) (M_ma : Int32) (M_so : Int32) (M_bo : Nat → Int32) (M_bn : Nat → Int32) (M_sh : Nat → Int32) (M_in : Nat → Int32) (M_su : Nat → Int32) (M_gr : Nat → Int32) (M_tr : Nat → Int32) (M_om : Int32) : va_W := [(aM, .inr (12, [.ref aM_s, .ref aM_ke, .int M_km, .ref aM_te, .int M_n, .ref aM_re, .int M_be, .int M_ma, .int M_so, .ref aM_bo, .ref aM_bn, .ref aM_sh, .ref aM_in, .ref aM_su, .ref aM_gr, .ref aM_tr, .ref aM_ou, .int M_om, .ref aM_ro])), (aM_s, .inl (cI, 131, .inl M_s)), (aM_bo, .inl (cI, 8, .inl M_bo)), (aM_bn, .inl (cI, 8, .inl M_bn)), (aM_sh, .inl (cI, 8, .inl M_sh)), (aM_in, .inl (cZ, 8, .inl M_in)), (aM_su, .inl (cI, 8, .inl M_su)), (aM_gr, .inl (cI, 8, .inl M_gr)), (aM_tr, .inl (cI, 8, .inl M_tr))]
theorem wa_X12_layLabels {cI : ClassId} {cZ : ClassId} {aM aM_s aM_ke aM_te aM_re aM_bo aM_bn aM_sh aM_in aM_su aM_gr aM_tr aM_ou aM_ro : Nat} {M_s M_s' : Nat → Int32} {M_km M_km' : Int32} {M_n M_n' : Int32} {M_be M_be' : Int32} {M_ma M_ma' : Int32} {M_so M_so' : Int32} {M_bo M_bo' : Nat → Int32} {M_bn M_bn' : Nat → Int32} {M_sh M_sh' : Nat → Int32} {M_in M_in' : Nat → Int32} {M_su M_su' : Nat → Int32} {M_gr M_gr' : Nat → Int32} {M_tr M_tr' : Nat → Int32} {M_om M_om' : Int32} : (w_X12_layLabels cI cZ aM aM_s aM_ke aM_te aM_re aM_bo aM_bn aM_sh aM_in aM_su aM_gr aM_tr aM_ou aM_ro M_s' M_km' M_n' M_be' M_ma' M_so' M_bo' M_bn' M_sh' M_in' M_su' M_gr' M_tr' M_om').map Prod.fst = (w_X12_layLabels cI cZ aM aM_s aM_ke aM_te aM_re aM_bo aM_bn aM_sh aM_in aM_su aM_gr aM_tr aM_ou aM_ro M_s M_km M_n M_be M_ma M_so M_bo M_bn M_sh M_in M_su M_gr M_tr M_om).map Prod.fst := rfl
abbrev rm_X12_layLabels : Room := { frames := 5, cells := 0, slots := 0, locals := 119 }
def w_X12_ambiguousWith (cI : ClassId) (cZ : ClassId) (aM aM_s aM_ke aM_te aM_re aM_bo aM_bn aM_sh aM_in aM_su aM_gr aM_tr aM_ou aM_ro : Nat) (M_s : Nat → Int32) (M_km : Int32) (M_n : Int32) (M_be : Int32) (M_ma : Int32) (M_so : Int32) (M_bo : Nat → Int32) (M_bn : Nat → Int32) (M_sh : Nat → Int32) (M_in : Nat → Int32) (M_su : Nat → Int32) (M_gr : Nat → Int32) (M_tr : Nat → Int32) (M_om : Int32) : va_W := [(aM, .inr (12, [.ref aM_s, .ref aM_ke, .int M_km, .ref aM_te, .int M_n, .ref aM_re, .int M_be, .int M_ma, .int M_so, .ref aM_bo, .ref aM_bn, .ref aM_sh, .ref aM_in, .ref aM_su, .ref aM_gr, .ref aM_tr, .ref aM_ou, .int M_om, .ref aM_ro])), (aM_s, .inl (cI, 131, .inl M_s)), (aM_bo, .inl (cI, 8, .inl M_bo)), (aM_bn, .inl (cI, 8, .inl M_bn)), (aM_sh, .inl (cI, 8, .inl M_sh)), (aM_in, .inl (cZ, 8, .inl M_in)), (aM_su, .inl (cI, 8, .inl M_su)), (aM_gr, .inl (cI, 8, .inl M_gr)), (aM_tr, .inl (cI, 8, .inl M_tr))]
theorem wa_X12_ambiguousWith {cI : ClassId} {cZ : ClassId} {aM aM_s aM_ke aM_te aM_re aM_bo aM_bn aM_sh aM_in aM_su aM_gr aM_tr aM_ou aM_ro : Nat} {M_s M_s' : Nat → Int32} {M_km M_km' : Int32} {M_n M_n' : Int32} {M_be M_be' : Int32} {M_ma M_ma' : Int32} {M_so M_so' : Int32} {M_bo M_bo' : Nat → Int32} {M_bn M_bn' : Nat → Int32} {M_sh M_sh' : Nat → Int32} {M_in M_in' : Nat → Int32} {M_su M_su' : Nat → Int32} {M_gr M_gr' : Nat → Int32} {M_tr M_tr' : Nat → Int32} {M_om M_om' : Int32} : (w_X12_ambiguousWith cI cZ aM aM_s aM_ke aM_te aM_re aM_bo aM_bn aM_sh aM_in aM_su aM_gr aM_tr aM_ou aM_ro M_s' M_km' M_n' M_be' M_ma' M_so' M_bo' M_bn' M_sh' M_in' M_su' M_gr' M_tr' M_om').map Prod.fst = (w_X12_ambiguousWith cI cZ aM aM_s aM_ke aM_te aM_re aM_bo aM_bn aM_sh aM_in aM_su aM_gr aM_tr aM_ou aM_ro M_s M_km M_n M_be M_ma M_so M_bo M_bn M_sh M_in M_su M_gr M_tr M_om).map Prod.fst := rfl
abbrev rm_X12_ambiguousWith : Room := { frames := 6, cells := 0, slots := 0, locals := 141 }
def w_X12_appendCharacter (cI : ClassId) (aM aM_s aM_ke aM_te aM_re aM_bo aM_bn aM_sh aM_in aM_su aM_gr aM_tr aM_ou aM_ro : Nat) (M_km : Int32) (M_te : Nat → Int32) (M_n : Int32) (M_be : Int32) (M_ma : Int32) (M_so : Int32) (M_om : Int32) : va_W := [(aM, .inr (12, [.ref aM_s, .ref aM_ke, .int M_km, .ref aM_te, .int M_n, .ref aM_re, .int M_be, .int M_ma, .int M_so, .ref aM_bo, .ref aM_bn, .ref aM_sh, .ref aM_in, .ref aM_su, .ref aM_gr, .ref aM_tr, .ref aM_ou, .int M_om, .ref aM_ro])), (aM_te, .inl (cI, 150, .inl M_te))]
theorem wa_X12_appendCharacter {cI : ClassId} {aM aM_s aM_ke aM_te aM_re aM_bo aM_bn aM_sh aM_in aM_su aM_gr aM_tr aM_ou aM_ro : Nat} {M_km M_km' : Int32} {M_te M_te' : Nat → Int32} {M_n M_n' : Int32} {M_be M_be' : Int32} {M_ma M_ma' : Int32} {M_so M_so' : Int32} {M_om M_om' : Int32} : (w_X12_appendCharacter cI aM aM_s aM_ke aM_te aM_re aM_bo aM_bn aM_sh aM_in aM_su aM_gr aM_tr aM_ou aM_ro M_km' M_te' M_n' M_be' M_ma' M_so' M_om').map Prod.fst = (w_X12_appendCharacter cI aM aM_s aM_ke aM_te aM_re aM_bo aM_bn aM_sh aM_in aM_su aM_gr aM_tr aM_ou aM_ro M_km M_te M_n M_be M_ma M_so M_om).map Prod.fst := rfl
abbrev rm_X12_appendCharacter : Room := { frames := 1, cells := 0, slots := 0, locals := 25 }
def w_X12_authorCount (cI : ClassId) (aM aM_s aM_ke aM_te aM_re aM_bo aM_bn aM_sh aM_in aM_su aM_gr aM_tr aM_ou aM_ro : Nat) (M_s : Nat → Int32) (M_km : Int32) (M_n : Int32) (M_be : Int32) (M_ma : Int32) (M_so : Int32) (M_om : Int32) : va_W := [(aM, .inr (12, [.ref aM_s, .ref aM_ke, .int M_km, .ref aM_te, .int M_n, .ref aM_re, .int M_be, .int M_ma, .int M_so, .ref aM_bo, .ref aM_bn, .ref aM_sh, .ref aM_in, .ref aM_su, .ref aM_gr, .ref aM_tr, .ref aM_ou, .int M_om, .ref aM_ro])), (aM_s, .inl (cI, 131, .inl M_s))]
theorem wa_X12_authorCount {cI : ClassId} {aM aM_s aM_ke aM_te aM_re aM_bo aM_bn aM_sh aM_in aM_su aM_gr aM_tr aM_ou aM_ro : Nat} {M_s M_s' : Nat → Int32} {M_km M_km' : Int32} {M_n M_n' : Int32} {M_be M_be' : Int32} {M_ma M_ma' : Int32} {M_so M_so' : Int32} {M_om M_om' : Int32} : (w_X12_authorCount cI aM aM_s aM_ke aM_te aM_re aM_bo aM_bn aM_sh aM_in aM_su aM_gr aM_tr aM_ou aM_ro M_s' M_km' M_n' M_be' M_ma' M_so' M_om').map Prod.fst = (w_X12_authorCount cI aM aM_s aM_ke aM_te aM_re aM_bo aM_bn aM_sh aM_in aM_su aM_gr aM_tr aM_ou aM_ro M_s M_km M_n M_be M_ma M_so M_om).map Prod.fst := rfl
abbrev rm_X12_authorCount : Room := { frames := 2, cells := 0, slots := 0, locals := 46 }
def w_X12_beginCitation (cI : ClassId) (aM aM_s aM_ke aM_te aM_re aM_bo aM_bn aM_sh aM_in aM_su aM_gr aM_tr aM_ou aM_ro : Nat) (M_s : Nat → Int32) (M_ke : Nat → Int32) (M_km : Int32) (M_n : Int32) (M_be : Int32) (M_ma : Int32) (M_so : Int32) (M_om : Int32) : va_W := [(aM, .inr (12, [.ref aM_s, .ref aM_ke, .int M_km, .ref aM_te, .int M_n, .ref aM_re, .int M_be, .int M_ma, .int M_so, .ref aM_bo, .ref aM_bn, .ref aM_sh, .ref aM_in, .ref aM_su, .ref aM_gr, .ref aM_tr, .ref aM_ou, .int M_om, .ref aM_ro])), (aM_s, .inl (cI, 131, .inl M_s)), (aM_ke, .inl (cI, 1048, .inl M_ke))]
theorem wa_X12_beginCitation {cI : ClassId} {aM aM_s aM_ke aM_te aM_re aM_bo aM_bn aM_sh aM_in aM_su aM_gr aM_tr aM_ou aM_ro : Nat} {M_s M_s' : Nat → Int32} {M_ke M_ke' : Nat → Int32} {M_km M_km' : Int32} {M_n M_n' : Int32} {M_be M_be' : Int32} {M_ma M_ma' : Int32} {M_so M_so' : Int32} {M_om M_om' : Int32} : (w_X12_beginCitation cI aM aM_s aM_ke aM_te aM_re aM_bo aM_bn aM_sh aM_in aM_su aM_gr aM_tr aM_ou aM_ro M_s' M_ke' M_km' M_n' M_be' M_ma' M_so' M_om').map Prod.fst = (w_X12_beginCitation cI aM aM_s aM_ke aM_te aM_re aM_bo aM_bn aM_sh aM_in aM_su aM_gr aM_tr aM_ou aM_ro M_s M_ke M_km M_n M_be M_ma M_so M_om).map Prod.fst := rfl
abbrev rm_X12_beginCitation : Room := { frames := 2, cells := 0, slots := 0, locals := 46 }
def w_X12_listed (cI : ClassId) (aM aM_s aM_ke aM_te aM_re aM_bo aM_bn aM_sh aM_in aM_su aM_gr aM_tr aM_ou aM_ro : Nat) (M_s : Nat → Int32) (M_km : Int32) (M_n : Int32) (M_be : Int32) (M_ma : Int32) (M_so : Int32) (M_bo : Nat → Int32) (M_bn : Nat → Int32) (M_om : Int32) : va_W := [(aM, .inr (12, [.ref aM_s, .ref aM_ke, .int M_km, .ref aM_te, .int M_n, .ref aM_re, .int M_be, .int M_ma, .int M_so, .ref aM_bo, .ref aM_bn, .ref aM_sh, .ref aM_in, .ref aM_su, .ref aM_gr, .ref aM_tr, .ref aM_ou, .int M_om, .ref aM_ro])), (aM_s, .inl (cI, 131, .inl M_s)), (aM_bo, .inl (cI, 8, .inl M_bo)), (aM_bn, .inl (cI, 8, .inl M_bn))]
theorem wa_X12_listed {cI : ClassId} {aM aM_s aM_ke aM_te aM_re aM_bo aM_bn aM_sh aM_in aM_su aM_gr aM_tr aM_ou aM_ro : Nat} {M_s M_s' : Nat → Int32} {M_km M_km' : Int32} {M_n M_n' : Int32} {M_be M_be' : Int32} {M_ma M_ma' : Int32} {M_so M_so' : Int32} {M_bo M_bo' : Nat → Int32} {M_bn M_bn' : Nat → Int32} {M_om M_om' : Int32} : (w_X12_listed cI aM aM_s aM_ke aM_te aM_re aM_bo aM_bn aM_sh aM_in aM_su aM_gr aM_tr aM_ou aM_ro M_s' M_km' M_n' M_be' M_ma' M_so' M_bo' M_bn' M_om').map Prod.fst = (w_X12_listed cI aM aM_s aM_ke aM_te aM_re aM_bo aM_bn aM_sh aM_in aM_su aM_gr aM_tr aM_ou aM_ro M_s M_km M_n M_be M_ma M_so M_bo M_bn M_om).map Prod.fst := rfl
abbrev rm_X12_listed : Room := { frames := 0, cells := 0, slots := 0, locals := 0 }
def w_X12_bibliographyAt (cI : ClassId) (aM aM_s aM_ke aM_te aM_re aM_bo aM_bn aM_sh aM_in aM_su aM_gr aM_tr aM_ou aM_ro : Nat) (M_s : Nat → Int32) (M_km : Int32) (M_n : Int32) (M_be : Int32) (M_ma : Int32) (M_so : Int32) (M_bo : Nat → Int32) (M_bn : Nat → Int32) (M_om : Int32) : va_W := [(aM, .inr (12, [.ref aM_s, .ref aM_ke, .int M_km, .ref aM_te, .int M_n, .ref aM_re, .int M_be, .int M_ma, .int M_so, .ref aM_bo, .ref aM_bn, .ref aM_sh, .ref aM_in, .ref aM_su, .ref aM_gr, .ref aM_tr, .ref aM_ou, .int M_om, .ref aM_ro])), (aM_s, .inl (cI, 131, .inl M_s)), (aM_bo, .inl (cI, 8, .inl M_bo)), (aM_bn, .inl (cI, 8, .inl M_bn))]
theorem wa_X12_bibliographyAt {cI : ClassId} {aM aM_s aM_ke aM_te aM_re aM_bo aM_bn aM_sh aM_in aM_su aM_gr aM_tr aM_ou aM_ro : Nat} {M_s M_s' : Nat → Int32} {M_km M_km' : Int32} {M_n M_n' : Int32} {M_be M_be' : Int32} {M_ma M_ma' : Int32} {M_so M_so' : Int32} {M_bo M_bo' : Nat → Int32} {M_bn M_bn' : Nat → Int32} {M_om M_om' : Int32} : (w_X12_bibliographyAt cI aM aM_s aM_ke aM_te aM_re aM_bo aM_bn aM_sh aM_in aM_su aM_gr aM_tr aM_ou aM_ro M_s' M_km' M_n' M_be' M_ma' M_so' M_bo' M_bn' M_om').map Prod.fst = (w_X12_bibliographyAt cI aM aM_s aM_ke aM_te aM_re aM_bo aM_bn aM_sh aM_in aM_su aM_gr aM_tr aM_ou aM_ro M_s M_km M_n M_be M_ma M_so M_bo M_bn M_om).map Prod.fst := rfl
abbrev rm_X12_bibliographyAt : Room := { frames := 5, cells := 0, slots := 0, locals := 119 }
def w_X12_citationCount (cI : ClassId) (aM aM_s aM_ke aM_te aM_re aM_bo aM_bn aM_sh aM_in aM_su aM_gr aM_tr aM_ou aM_ro : Nat) (M_s : Nat → Int32) (M_km : Int32) (M_n : Int32) (M_be : Int32) (M_ma : Int32) (M_so : Int32) (M_om : Int32) : va_W := [(aM, .inr (12, [.ref aM_s, .ref aM_ke, .int M_km, .ref aM_te, .int M_n, .ref aM_re, .int M_be, .int M_ma, .int M_so, .ref aM_bo, .ref aM_bn, .ref aM_sh, .ref aM_in, .ref aM_su, .ref aM_gr, .ref aM_tr, .ref aM_ou, .int M_om, .ref aM_ro])), (aM_s, .inl (cI, 131, .inl M_s))]
theorem wa_X12_citationCount {cI : ClassId} {aM aM_s aM_ke aM_te aM_re aM_bo aM_bn aM_sh aM_in aM_su aM_gr aM_tr aM_ou aM_ro : Nat} {M_s M_s' : Nat → Int32} {M_km M_km' : Int32} {M_n M_n' : Int32} {M_be M_be' : Int32} {M_ma M_ma' : Int32} {M_so M_so' : Int32} {M_om M_om' : Int32} : (w_X12_citationCount cI aM aM_s aM_ke aM_te aM_re aM_bo aM_bn aM_sh aM_in aM_su aM_gr aM_tr aM_ou aM_ro M_s' M_km' M_n' M_be' M_ma' M_so' M_om').map Prod.fst = (w_X12_citationCount cI aM aM_s aM_ke aM_te aM_re aM_bo aM_bn aM_sh aM_in aM_su aM_gr aM_tr aM_ou aM_ro M_s M_km M_n M_be M_ma M_so M_om).map Prod.fst := rfl
abbrev rm_X12_citationCount : Room := { frames := 0, cells := 0, slots := 0, locals := 0 }
def w_X12_isCitation (cI : ClassId) (aM aM_s aM_ke aM_te aM_re aM_bo aM_bn aM_sh aM_in aM_su aM_gr aM_tr aM_ou aM_ro : Nat) (M_s : Nat → Int32) (M_km : Int32) (M_n : Int32) (M_be : Int32) (M_ma : Int32) (M_so : Int32) (M_om : Int32) : va_W := [(aM, .inr (12, [.ref aM_s, .ref aM_ke, .int M_km, .ref aM_te, .int M_n, .ref aM_re, .int M_be, .int M_ma, .int M_so, .ref aM_bo, .ref aM_bn, .ref aM_sh, .ref aM_in, .ref aM_su, .ref aM_gr, .ref aM_tr, .ref aM_ou, .int M_om, .ref aM_ro])), (aM_s, .inl (cI, 131, .inl M_s))]
theorem wa_X12_isCitation {cI : ClassId} {aM aM_s aM_ke aM_te aM_re aM_bo aM_bn aM_sh aM_in aM_su aM_gr aM_tr aM_ou aM_ro : Nat} {M_s M_s' : Nat → Int32} {M_km M_km' : Int32} {M_n M_n' : Int32} {M_be M_be' : Int32} {M_ma M_ma' : Int32} {M_so M_so' : Int32} {M_om M_om' : Int32} : (w_X12_isCitation cI aM aM_s aM_ke aM_te aM_re aM_bo aM_bn aM_sh aM_in aM_su aM_gr aM_tr aM_ou aM_ro M_s' M_km' M_n' M_be' M_ma' M_so' M_om').map Prod.fst = (w_X12_isCitation cI aM aM_s aM_ke aM_te aM_re aM_bo aM_bn aM_sh aM_in aM_su aM_gr aM_tr aM_ou aM_ro M_s M_km M_n M_be M_ma M_so M_om).map Prod.fst := rfl
abbrev rm_X12_isCitation : Room := { frames := 1, cells := 0, slots := 0, locals := 25 }
def w_X12_citationSize (cI : ClassId) (aM aM_s aM_ke aM_te aM_re aM_bo aM_bn aM_sh aM_in aM_su aM_gr aM_tr aM_ou aM_ro : Nat) (M_s : Nat → Int32) (M_km : Int32) (M_n : Int32) (M_be : Int32) (M_ma : Int32) (M_so : Int32) (M_om : Int32) : va_W := [(aM, .inr (12, [.ref aM_s, .ref aM_ke, .int M_km, .ref aM_te, .int M_n, .ref aM_re, .int M_be, .int M_ma, .int M_so, .ref aM_bo, .ref aM_bn, .ref aM_sh, .ref aM_in, .ref aM_su, .ref aM_gr, .ref aM_tr, .ref aM_ou, .int M_om, .ref aM_ro])), (aM_s, .inl (cI, 131, .inl M_s))]
theorem wa_X12_citationSize {cI : ClassId} {aM aM_s aM_ke aM_te aM_re aM_bo aM_bn aM_sh aM_in aM_su aM_gr aM_tr aM_ou aM_ro : Nat} {M_s M_s' : Nat → Int32} {M_km M_km' : Int32} {M_n M_n' : Int32} {M_be M_be' : Int32} {M_ma M_ma' : Int32} {M_so M_so' : Int32} {M_om M_om' : Int32} : (w_X12_citationSize cI aM aM_s aM_ke aM_te aM_re aM_bo aM_bn aM_sh aM_in aM_su aM_gr aM_tr aM_ou aM_ro M_s' M_km' M_n' M_be' M_ma' M_so' M_om').map Prod.fst = (w_X12_citationSize cI aM aM_s aM_ke aM_te aM_re aM_bo aM_bn aM_sh aM_in aM_su aM_gr aM_tr aM_ou aM_ro M_s M_km M_n M_be M_ma M_so M_om).map Prod.fst := rfl
abbrev rm_X12_citationSize : Room := { frames := 2, cells := 0, slots := 0, locals := 46 }
def w_X12_clearText (aM aM_s aM_ke aM_te aM_re aM_bo aM_bn aM_sh aM_in aM_su aM_gr aM_tr aM_ou aM_ro : Nat) (M_km : Int32) (M_n : Int32) (M_be : Int32) (M_ma : Int32) (M_so : Int32) (M_om : Int32) : va_W := [(aM, .inr (12, [.ref aM_s, .ref aM_ke, .int M_km, .ref aM_te, .int M_n, .ref aM_re, .int M_be, .int M_ma, .int M_so, .ref aM_bo, .ref aM_bn, .ref aM_sh, .ref aM_in, .ref aM_su, .ref aM_gr, .ref aM_tr, .ref aM_ou, .int M_om, .ref aM_ro]))]
theorem wa_X12_clearText {aM aM_s aM_ke aM_te aM_re aM_bo aM_bn aM_sh aM_in aM_su aM_gr aM_tr aM_ou aM_ro : Nat} {M_km M_km' : Int32} {M_n M_n' : Int32} {M_be M_be' : Int32} {M_ma M_ma' : Int32} {M_so M_so' : Int32} {M_om M_om' : Int32} : (w_X12_clearText aM aM_s aM_ke aM_te aM_re aM_bo aM_bn aM_sh aM_in aM_su aM_gr aM_tr aM_ou aM_ro M_km' M_n' M_be' M_ma' M_so' M_om').map Prod.fst = (w_X12_clearText aM aM_s aM_ke aM_te aM_re aM_bo aM_bn aM_sh aM_in aM_su aM_gr aM_tr aM_ou aM_ro M_km M_n M_be M_ma M_so M_om).map Prod.fst := rfl
abbrev rm_X12_clearText : Room := { frames := 0, cells := 0, slots := 0, locals := 0 }
def w_X12_earliest (cI : ClassId) (aM aM_s aM_ke aM_te aM_re aM_bo aM_bn aM_sh aM_in aM_su aM_gr aM_tr aM_ou aM_ro : Nat) (M_s : Nat → Int32) (M_km : Int32) (M_n : Int32) (M_be : Int32) (M_ma : Int32) (M_so : Int32) (M_om : Int32) : va_W := [(aM, .inr (12, [.ref aM_s, .ref aM_ke, .int M_km, .ref aM_te, .int M_n, .ref aM_re, .int M_be, .int M_ma, .int M_so, .ref aM_bo, .ref aM_bn, .ref aM_sh, .ref aM_in, .ref aM_su, .ref aM_gr, .ref aM_tr, .ref aM_ou, .int M_om, .ref aM_ro])), (aM_s, .inl (cI, 131, .inl M_s))]
theorem wa_X12_earliest {cI : ClassId} {aM aM_s aM_ke aM_te aM_re aM_bo aM_bn aM_sh aM_in aM_su aM_gr aM_tr aM_ou aM_ro : Nat} {M_s M_s' : Nat → Int32} {M_km M_km' : Int32} {M_n M_n' : Int32} {M_be M_be' : Int32} {M_ma M_ma' : Int32} {M_so M_so' : Int32} {M_om M_om' : Int32} : (w_X12_earliest cI aM aM_s aM_ke aM_te aM_re aM_bo aM_bn aM_sh aM_in aM_su aM_gr aM_tr aM_ou aM_ro M_s' M_km' M_n' M_be' M_ma' M_so' M_om').map Prod.fst = (w_X12_earliest cI aM aM_s aM_ke aM_te aM_re aM_bo aM_bn aM_sh aM_in aM_su aM_gr aM_tr aM_ou aM_ro M_s M_km M_n M_be M_ma M_so M_om).map Prod.fst := rfl
abbrev rm_X12_earliest : Room := { frames := 2, cells := 0, slots := 0, locals := 46 }
def w_X12_put (cI : ClassId) (aM aM_s aM_ke aM_te aM_re aM_bo aM_bn aM_sh aM_in aM_su aM_gr aM_tr aM_ou aM_ro : Nat) (M_km : Int32) (M_n : Int32) (M_be : Int32) (M_ma : Int32) (M_so : Int32) (M_ou : Nat → Int32) (M_om : Int32) : va_W := [(aM, .inr (12, [.ref aM_s, .ref aM_ke, .int M_km, .ref aM_te, .int M_n, .ref aM_re, .int M_be, .int M_ma, .int M_so, .ref aM_bo, .ref aM_bn, .ref aM_sh, .ref aM_in, .ref aM_su, .ref aM_gr, .ref aM_tr, .ref aM_ou, .int M_om, .ref aM_ro])), (aM_ou, .inl (cI, 300, .inl M_ou))]
theorem wa_X12_put {cI : ClassId} {aM aM_s aM_ke aM_te aM_re aM_bo aM_bn aM_sh aM_in aM_su aM_gr aM_tr aM_ou aM_ro : Nat} {M_km M_km' : Int32} {M_n M_n' : Int32} {M_be M_be' : Int32} {M_ma M_ma' : Int32} {M_so M_so' : Int32} {M_ou M_ou' : Nat → Int32} {M_om M_om' : Int32} : (w_X12_put cI aM aM_s aM_ke aM_te aM_re aM_bo aM_bn aM_sh aM_in aM_su aM_gr aM_tr aM_ou aM_ro M_km' M_n' M_be' M_ma' M_so' M_ou' M_om').map Prod.fst = (w_X12_put cI aM aM_s aM_ke aM_te aM_re aM_bo aM_bn aM_sh aM_in aM_su aM_gr aM_tr aM_ou aM_ro M_km M_n M_be M_ma M_so M_ou M_om).map Prod.fst := rfl
abbrev rm_X12_put : Room := { frames := 0, cells := 0, slots := 0, locals := 0 }
def w_X12_placeIn_bn (cI : ClassId) (aM aM_s aM_ke aM_te aM_re aM_bo aM_bn aM_sh aM_in aM_su aM_gr aM_tr aM_ou aM_ro : Nat) (M_km : Int32) (M_n : Int32) (M_be : Int32) (M_ma : Int32) (M_so : Int32) (M_bn : Nat → Int32) (M_om : Int32) : va_W := [(aM, .inr (12, [.ref aM_s, .ref aM_ke, .int M_km, .ref aM_te, .int M_n, .ref aM_re, .int M_be, .int M_ma, .int M_so, .ref aM_bo, .ref aM_bn, .ref aM_sh, .ref aM_in, .ref aM_su, .ref aM_gr, .ref aM_tr, .ref aM_ou, .int M_om, .ref aM_ro])), (aM_bn, .inl (cI, 8, .inl M_bn))]
theorem wa_X12_placeIn_bn {cI : ClassId} {aM aM_s aM_ke aM_te aM_re aM_bo aM_bn aM_sh aM_in aM_su aM_gr aM_tr aM_ou aM_ro : Nat} {M_km M_km' : Int32} {M_n M_n' : Int32} {M_be M_be' : Int32} {M_ma M_ma' : Int32} {M_so M_so' : Int32} {M_bn M_bn' : Nat → Int32} {M_om M_om' : Int32} : (w_X12_placeIn_bn cI aM aM_s aM_ke aM_te aM_re aM_bo aM_bn aM_sh aM_in aM_su aM_gr aM_tr aM_ou aM_ro M_km' M_n' M_be' M_ma' M_so' M_bn' M_om').map Prod.fst = (w_X12_placeIn_bn cI aM aM_s aM_ke aM_te aM_re aM_bo aM_bn aM_sh aM_in aM_su aM_gr aM_tr aM_ou aM_ro M_km M_n M_be M_ma M_so M_bn M_om).map Prod.fst := rfl
abbrev rm_X12_placeIn_bn : Room := { frames := 0, cells := 0, slots := 0, locals := 0 }
def w_X12_putAuthors (cI : ClassId) (aM aM_s aM_ke aM_te aM_re aM_bo aM_bn aM_sh aM_in aM_su aM_gr aM_tr aM_ou aM_ro : Nat) (M_s : Nat → Int32) (M_km : Int32) (M_n : Int32) (M_be : Int32) (M_ma : Int32) (M_so : Int32) (M_ou : Nat → Int32) (M_om : Int32) : va_W := [(aM, .inr (12, [.ref aM_s, .ref aM_ke, .int M_km, .ref aM_te, .int M_n, .ref aM_re, .int M_be, .int M_ma, .int M_so, .ref aM_bo, .ref aM_bn, .ref aM_sh, .ref aM_in, .ref aM_su, .ref aM_gr, .ref aM_tr, .ref aM_ou, .int M_om, .ref aM_ro])), (aM_s, .inl (cI, 131, .inl M_s)), (aM_ou, .inl (cI, 300, .inl M_ou))]
theorem wa_X12_putAuthors {cI : ClassId} {aM aM_s aM_ke aM_te aM_re aM_bo aM_bn aM_sh aM_in aM_su aM_gr aM_tr aM_ou aM_ro : Nat} {M_s M_s' : Nat → Int32} {M_km M_km' : Int32} {M_n M_n' : Int32} {M_be M_be' : Int32} {M_ma M_ma' : Int32} {M_so M_so' : Int32} {M_ou M_ou' : Nat → Int32} {M_om M_om' : Int32} : (w_X12_putAuthors cI aM aM_s aM_ke aM_te aM_re aM_bo aM_bn aM_sh aM_in aM_su aM_gr aM_tr aM_ou aM_ro M_s' M_km' M_n' M_be' M_ma' M_so' M_ou' M_om').map Prod.fst = (w_X12_putAuthors cI aM aM_s aM_ke aM_te aM_re aM_bo aM_bn aM_sh aM_in aM_su aM_gr aM_tr aM_ou aM_ro M_s M_km M_n M_be M_ma M_so M_ou M_om).map Prod.fst := rfl
abbrev rm_X12_putAuthors : Room := { frames := 1, cells := 0, slots := 0, locals := 22 }
set_option maxHeartbeats 4000000 in
set_option maxRecDepth 100000 in
theorem c_X12_year (l : Launch) (D : va_G) (cI cJ cZ cS : ClassId) (aM aM_s aM_ke aM_te aM_re aM_bo aM_bn aM_sh aM_in aM_su aM_gr aM_tr aM_ou aM_ro : Nat) (M_s : Nat → Int32) (M_km : Int32) (M_n : Int32) (M_be : Int32) (M_ma : Int32) (M_so : Int32) (M_om : Int32) (x1 : Int32) (o : Int32) (hm : m_X12_year M_s x1 = some o) : MI l yX12_year wsX12_year rm_X12_year D (TY cI cJ cZ cS) [.ref aM, .int x1] (w_X12_year cI aM aM_s aM_ke aM_te aM_re aM_bo aM_bn aM_sh aM_in aM_su aM_gr aM_tr aM_ou aM_ro M_s M_km M_n M_be M_ma M_so M_om) (w_X12_year cI aM aM_s aM_ke aM_te aM_re aM_bo aM_bn aM_sh aM_in aM_su aM_gr aM_tr aM_ou aM_ro M_s M_km M_n M_be M_ma M_so M_om) (o) := by
  refine MI_of (cc := cX12_year) (maxL := 2) (by decide) rfl (Nat.le_of_ble_eq_true rfl) ?_
  intro p e s m args below meth c A Q ls H locs hx hb hml hts hown hK hA hP hD hS hl hret
  have hown : s.vm.findClass RX12 = some m.cls := hown
  have hKv : va_K D vwCl (TY cI cJ cZ cS) s := hK.1
  have hl : lv_has ls 2 [(0, .ref aM), (1, .int x1)] := hl
  have S : CallFix p m c cX12_year 2 s args wsX12_year RX12 := ⟨hx, hb, hml, hown, hts⟩
  have k1 := hts (.fieldLink RX12 7 "CitationFormatterModel" "s" "[I") (by decide +kernel)
  have k2 : ∀ w ∈ wsX120, w ∈ wsX12_year := by decide +kernel
  refine lv_aload_n hx hb dX12_year_0 rfl (lv_at hl 0 rfl) ?_
  refine va_get (D := D) (ci := 12) (v := .ref aM_s) (C := RX12) (T := TX12) (N := 19) hx hb hts k2 hown hKv hP 0 rfl rfl 0 (by decide) k1 (fun _ h9 => h9) rfl dX12_year_1 ?_
  refine lv_iconst (v := 1) hx hb dX12_year_4 (by decide) ?_
  refine lv_bipush (v := 7) hx hb dX12_year_5 (by decide) ?_
  refine lv_iload_n hx hb dX12_year_7 rfl (lv_at hl 1 rfl) ?_
  refine lv_imul hx hb dX12_year_8 ?_
  refine lv_iadd hx hb dX12_year_9 ?_
  refine lv_iconst (v := 5) hx hb dX12_year_10 (by decide) ?_
  refine lv_iadd hx hb dX12_year_11 ?_
  replace hm := ck_some hm
  obtain ⟨h1, hm⟩ := hm
  refine va_iald hx hb hKv hP 1 0 rfl rfl h1 dX12_year_12 ?_
  have h9 := Option.some.inj hm
  subst h9
  exact hret H locs _ ls _ hP hD hS rfl dX12_year_13
set_option maxHeartbeats 4000000 in
set_option maxRecDepth 100000 in
theorem c_X12_authors (l : Launch) (D : va_G) (cI cJ cZ cS : ClassId) (aM aM_s aM_ke aM_te aM_re aM_bo aM_bn aM_sh aM_in aM_su aM_gr aM_tr aM_ou aM_ro : Nat) (M_s : Nat → Int32) (M_km : Int32) (M_n : Int32) (M_be : Int32) (M_ma : Int32) (M_so : Int32) (M_om : Int32) (x1 : Int32) (o : Int32) (hm : m_X12_authors M_s x1 = some o) : MI l yX12_authors wsX12_authors rm_X12_authors D (TY cI cJ cZ cS) [.ref aM, .int x1] (w_X12_authors cI aM aM_s aM_ke aM_te aM_re aM_bo aM_bn aM_sh aM_in aM_su aM_gr aM_tr aM_ou aM_ro M_s M_km M_n M_be M_ma M_so M_om) (w_X12_authors cI aM aM_s aM_ke aM_te aM_re aM_bo aM_bn aM_sh aM_in aM_su aM_gr aM_tr aM_ou aM_ro M_s M_km M_n M_be M_ma M_so M_om) (o) := by
  refine MI_of (cc := cX12_authors) (maxL := 2) (by decide) rfl (Nat.le_of_ble_eq_true rfl) ?_
  intro p e s m args below meth c A Q ls H locs hx hb hml hts hown hK hA hP hD hS hl hret
  have hown : s.vm.findClass RX12 = some m.cls := hown
  have hKv : va_K D vwCl (TY cI cJ cZ cS) s := hK.1
  have hl : lv_has ls 2 [(0, .ref aM), (1, .int x1)] := hl
  have S : CallFix p m c cX12_authors 2 s args wsX12_authors RX12 := ⟨hx, hb, hml, hown, hts⟩
  have k1 := hts (.fieldLink RX12 7 "CitationFormatterModel" "s" "[I") (by decide +kernel)
  have k2 : ∀ w ∈ wsX120, w ∈ wsX12_authors := by decide +kernel
  refine lv_aload_n hx hb dX12_authors_0 rfl (lv_at hl 0 rfl) ?_
  refine va_get (D := D) (ci := 12) (v := .ref aM_s) (C := RX12) (T := TX12) (N := 19) hx hb hts k2 hown hKv hP 0 rfl rfl 0 (by decide) k1 (fun _ h9 => h9) rfl dX12_authors_1 ?_
  refine lv_iconst (v := 1) hx hb dX12_authors_4 (by decide) ?_
  refine lv_bipush (v := 7) hx hb dX12_authors_5 (by decide) ?_
  refine lv_iload_n hx hb dX12_authors_7 rfl (lv_at hl 1 rfl) ?_
  refine lv_imul hx hb dX12_authors_8 ?_
  refine lv_iadd hx hb dX12_authors_9 ?_
  replace hm := ck_some hm
  obtain ⟨h1, hm⟩ := hm
  refine va_iald hx hb hKv hP 1 0 rfl rfl h1 dX12_authors_10 ?_
  have h9 := Option.some.inj hm
  subst h9
  exact hret H locs _ ls _ hP hD hS rfl dX12_authors_11
set_option maxHeartbeats 4000000 in
set_option maxRecDepth 100000 in
theorem c_X12_author (l : Launch) (D : va_G) (cI cJ cZ cS : ClassId) (aM aM_s aM_ke aM_te aM_re aM_bo aM_bn aM_sh aM_in aM_su aM_gr aM_tr aM_ou aM_ro : Nat) (M_s : Nat → Int32) (M_km : Int32) (M_n : Int32) (M_be : Int32) (M_ma : Int32) (M_so : Int32) (M_om : Int32) (x1 : Int32) (x2 : Int32) (o : Int32) (hm : m_X12_author M_s x1 x2 = some o) : MI l yX12_author wsX12_author rm_X12_author D (TY cI cJ cZ cS) [.ref aM, .int x1, .int x2] (w_X12_author cI aM aM_s aM_ke aM_te aM_re aM_bo aM_bn aM_sh aM_in aM_su aM_gr aM_tr aM_ou aM_ro M_s M_km M_n M_be M_ma M_so M_om) (w_X12_author cI aM aM_s aM_ke aM_te aM_re aM_bo aM_bn aM_sh aM_in aM_su aM_gr aM_tr aM_ou aM_ro M_s M_km M_n M_be M_ma M_so M_om) (o) := by
  refine MI_of (cc := cX12_author) (maxL := 3) (by decide) rfl (Nat.le_of_ble_eq_true rfl) ?_
  intro p e s m args below meth c A Q ls H locs hx hb hml hts hown hK hA hP hD hS hl hret
  have hown : s.vm.findClass RX12 = some m.cls := hown
  have hKv : va_K D vwCl (TY cI cJ cZ cS) s := hK.1
  have hl : lv_has ls 3 [(0, .ref aM), (1, .int x1), (2, .int x2)] := hl
  have S : CallFix p m c cX12_author 3 s args wsX12_author RX12 := ⟨hx, hb, hml, hown, hts⟩
  have k1 := hts (.fieldLink RX12 7 "CitationFormatterModel" "s" "[I") (by decide +kernel)
  have k2 : ∀ w ∈ wsX120, w ∈ wsX12_author := by decide +kernel
  refine lv_aload_n hx hb dX12_author_0 rfl (lv_at hl 0 rfl) ?_
  refine va_get (D := D) (ci := 12) (v := .ref aM_s) (C := RX12) (T := TX12) (N := 19) hx hb hts k2 hown hKv hP 0 rfl rfl 0 (by decide) k1 (fun _ h9 => h9) rfl dX12_author_1 ?_
  refine lv_iconst (v := 1) hx hb dX12_author_4 (by decide) ?_
  refine lv_bipush (v := 7) hx hb dX12_author_5 (by decide) ?_
  refine lv_iload_n hx hb dX12_author_7 rfl (lv_at hl 1 rfl) ?_
  refine lv_imul hx hb dX12_author_8 ?_
  refine lv_iadd hx hb dX12_author_9 ?_
  refine lv_iconst (v := 1) hx hb dX12_author_10 (by decide) ?_
  refine lv_iadd hx hb dX12_author_11 ?_
  refine lv_iload_n hx hb dX12_author_12 rfl (lv_at hl 2 rfl) ?_
  refine lv_iadd hx hb dX12_author_13 ?_
  replace hm := ck_some hm
  obtain ⟨h1, hm⟩ := hm
  refine va_iald hx hb hKv hP 1 0 rfl rfl h1 dX12_author_14 ?_
  have h9 := Option.some.inj hm
  subst h9
  exact hret H locs _ ls _ hP hD hS rfl dX12_author_15
set_option maxHeartbeats 4000000 in
set_option maxRecDepth 100000 in
theorem c_X12_haveOneNames (l : Launch) (D : va_G) (cI cJ cZ cS : ClassId) (aM aM_s aM_ke aM_te aM_re aM_bo aM_bn aM_sh aM_in aM_su aM_gr aM_tr aM_ou aM_ro : Nat) (M_s : Nat → Int32) (M_km : Int32) (M_n : Int32) (M_be : Int32) (M_ma : Int32) (M_so : Int32) (M_sh : Nat → Int32) (M_in : Nat → Int32) (M_om : Int32) (x1 : Int32) (x2 : Int32) (o : Int32) (hm : m_X12_haveOneNames M_s M_sh M_in x1 x2 = some o) : MI l yX12_haveOneNames wsX12_haveOneNames rm_X12_haveOneNames D (TY cI cJ cZ cS) [.ref aM, .int x1, .int x2] (w_X12_haveOneNames cI cZ aM aM_s aM_ke aM_te aM_re aM_bo aM_bn aM_sh aM_in aM_su aM_gr aM_tr aM_ou aM_ro M_s M_km M_n M_be M_ma M_so M_sh M_in M_om) (w_X12_haveOneNames cI cZ aM aM_s aM_ke aM_te aM_re aM_bo aM_bn aM_sh aM_in aM_su aM_gr aM_tr aM_ou aM_ro M_s M_km M_n M_be M_ma M_so M_sh M_in M_om) (o) := by
  refine MZ_of (cc := cX12_haveOneNames) (maxL := 6) (by decide) rfl (Nat.le_of_ble_eq_true rfl) ?_
  intro p e s m args below meth c A Q ls H locs hx hb hml hts hown hK hA hP hD hS hl hret
  have hown : s.vm.findClass RX12 = some m.cls := hown
  have hKv : va_K D vwCl (TY cI cJ cZ cS) s := hK.1
  have hl : lv_has ls 6 [(0, .ref aM), (1, .int x1), (2, .int x2)] := hl
  have S : CallFix p m c cX12_haveOneNames 6 s args wsX12_haveOneNames RX12 := ⟨hx, hb, hml, hown, hts⟩
  have k1 := hts (.fieldLink RX12 28 "CitationFormatterModel" "shown" "[I") (by decide +kernel)
  have k2 : ∀ w ∈ wsX120, w ∈ wsX12_haveOneNames := by decide +kernel
  have k3 := hts (.fieldLink RX12 31 "CitationFormatterModel" "initials" "[Z") (by decide +kernel)
  have k4 : CallW rm_X12_haveOneNames s args RX12 RX12 149 yX12_author cX12_author 3 (some .int) wsX12_author rm_X12_author 0 0 2 := cwV 2 hts gX12_haveOneNames_X12_author rfl rfl rfl (by decide +kernel) ⟨Nat.le_of_ble_eq_true rfl, Nat.le_of_ble_eq_true rfl⟩
  have k5 : CallW rm_X12_haveOneNames s args RX12 RX12 146 yX12_authors cX12_authors 2 (some .int) wsX12_authors rm_X12_authors 0 0 1 := cwV 1 hts gX12_haveOneNames_X12_authors rfl rfl rfl (by decide +kernel) ⟨Nat.le_of_ble_eq_true rfl, Nat.le_of_ble_eq_true rfl⟩
  have J78 : ∀ (y0_j78 : Int32), (m_X12_haveOneNames_J78 x1 x2 y0_j78 M_s M_sh M_in = some o) → ∀ (H : Heap) (locs : List Loc) (ls : Array Slot), va_P D vwCl (w_X12_haveOneNames cI cZ aM aM_s aM_ke aM_te aM_re aM_bo aM_bn aM_sh aM_in aM_su aM_gr aM_tr aM_ou aM_ro M_s M_km M_n M_be M_ma M_so M_sh M_in M_om) H → va_D A (w_X12_haveOneNames cI cZ aM aM_s aM_ke aM_te aM_re aM_bo aM_bn aM_sh aM_in aM_su aM_gr aM_tr aM_ou aM_ro M_s M_km M_n M_be M_ma M_so M_sh M_in M_om) → va_S A s.heap H locs → lv_has ls 6 [(0, .ref aM), (1, .int x1), (2, .int x2)] → W p l e rm_X12_haveOneNames s m args below meth c H locs 0 0 Q (F0 m 78 ls [.int y0_j78]) := by
    intro y0_j78 hm H locs ls hP hD hS hl
    refine lv_istore (lv' := [(4, .int y0_j78), (0, .ref aM), (1, .int x1), (2, .int x2)]) hx hb dX12_haveOneNames_78 hl (by decide) rfl (fun ls hl => ?_)
    refine lv_iconst (v := 0) hx hb dX12_haveOneNames_80 (by decide) ?_
    refine lv_istore (lv' := [(5, .int 0), (4, .int y0_j78), (0, .ref aM), (1, .int x1), (2, .int x2)]) hx hb dX12_haveOneNames_81 hl (by decide) rfl (fun ls hl => ?_)
    replace hm := bd_some hm
    obtain ⟨e1, hc1, hm⟩ := hm
    have X1_0 : ∀ (H : Heap) (locs : List Loc) (ls : Array Slot), va_P D vwCl (w_X12_haveOneNames cI cZ aM aM_s aM_ke aM_te aM_re aM_bo aM_bn aM_sh aM_in aM_su aM_gr aM_tr aM_ou aM_ro M_s M_km M_n M_be M_ma M_so M_sh M_in M_om) H → va_D A (w_X12_haveOneNames cI cZ aM aM_s aM_ke aM_te aM_re aM_bo aM_bn aM_sh aM_in aM_su aM_gr aM_tr aM_ou aM_ro M_s M_km M_n M_be M_ma M_so M_sh M_in M_om) → va_S A s.heap H locs → lv_has ls 6 [(0, .ref aM), (4, .int e1)] → W p l e rm_X12_haveOneNames s m args below meth c H locs 0 0 Q (F0 m 169 ls []) := by
      intro H locs ls hP hD hS hl
      refine lv_iload hx hb dX12_haveOneNames_169 (lv_at hl 1 rfl) ?_
      replace hm := ckb_some hm
      obtain ⟨h2, hm⟩ := hm
      have h9 := Option.some.inj hm
      subst h9
      exact hret H locs _ ls _ h2 hP hD hS rfl dX12_haveOneNames_171
    refine it_W (G := fun (st83 : Int32 × Int32) => ∀ (H : Heap) (locs : List Loc) (ls : Array Slot), va_P D vwCl (w_X12_haveOneNames cI cZ aM aM_s aM_ke aM_te aM_re aM_bo aM_bn aM_sh aM_in aM_su aM_gr aM_tr aM_ou aM_ro M_s M_km M_n M_be M_ma M_so M_sh M_in M_om) H → va_D A (w_X12_haveOneNames cI cZ aM aM_s aM_ke aM_te aM_re aM_bo aM_bn aM_sh aM_in aM_su aM_gr aM_tr aM_ou aM_ro M_s M_km M_n M_be M_ma M_so M_sh M_in M_om) → va_S A s.heap H locs → lv_has ls 6 [(0, .ref aM), (1, .int x1), (2, .int x2), (4, .int st83.1), (5, .int st83.2)] → W p l e rm_X12_haveOneNames s m args below meth c H locs 0 0 Q (F0 m 83 ls [])) (e := e1) (fun st83 x hm hG hE => ?_) fu _ hc1 H locs ls hP hD hS (lv_sub hl [2, 3, 4, 1, 0] rfl)
    intro H locs ls hP hD hS hl
    have J161 : ∀ (x5_j161 : Int32) (y0_j161 : Int32), (m_X12_haveOneNames_J161 x1 x2 x5_j161 y0_j161 = some x) → ∀ (H : Heap) (locs : List Loc) (ls : Array Slot), va_P D vwCl (w_X12_haveOneNames cI cZ aM aM_s aM_ke aM_te aM_re aM_bo aM_bn aM_sh aM_in aM_su aM_gr aM_tr aM_ou aM_ro M_s M_km M_n M_be M_ma M_so M_sh M_in M_om) H → va_D A (w_X12_haveOneNames cI cZ aM aM_s aM_ke aM_te aM_re aM_bo aM_bn aM_sh aM_in aM_su aM_gr aM_tr aM_ou aM_ro M_s M_km M_n M_be M_ma M_so M_sh M_in M_om) → va_S A s.heap H locs → lv_has ls 6 [(0, .ref aM), (1, .int x1), (2, .int x2), (5, .int x5_j161)] → W p l e rm_X12_haveOneNames s m args below meth c H locs 0 0 Q (F0 m 161 ls [.int y0_j161]) := by
      intro x5_j161 y0_j161 hm H locs ls hP hD hS hl
      refine lv_istore (lv' := [(4, .int y0_j161), (0, .ref aM), (1, .int x1), (2, .int x2), (5, .int x5_j161)]) hx hb dX12_haveOneNames_161 hl (by decide) rfl (fun ls hl => ?_)
      refine lv_iinc (v := (x5_j161 + 1)) (lv' := [(5, .int (x5_j161 + 1)), (4, .int y0_j161), (0, .ref aM), (1, .int x1), (2, .int x2)]) hx hb dX12_haveOneNames_163 hl (k := 4) rfl rfl (by decide) rfl (fun ls hl => ?_)
      refine lv_goto (tgt := 83) hx hb dX12_haveOneNames_166 (by decide) ?_
      exact hG _ (Option.some.inj hm).symm H locs ls hP hD hS (lv_sub hl [2, 3, 4, 1, 0] rfl)
    refine lv_iload hx hb dX12_haveOneNames_83 (lv_at hl 4 rfl) ?_
    refine lv_aload_n hx hb dX12_haveOneNames_85 rfl (lv_at hl 0 rfl) ?_
    refine va_get (D := D) (ci := 12) (v := .ref aM_sh) (C := RX12) (T := TX12) (N := 19) hx hb hts k2 hown hKv hP 0 rfl rfl 11 (by decide) k1 (fun _ h9 => h9) rfl dX12_haveOneNames_86 ?_
    refine lv_iload_n hx hb dX12_haveOneNames_89 rfl (lv_at hl 1 rfl) ?_
    replace hm := ck_some hm
    obtain ⟨h3, hm⟩ := hm
    refine va_iald hx hb hKv hP 2 0 rfl rfl h3 dX12_haveOneNames_90 ?_
    refine lv_icmp_ge (tgt := 169) hx hb dX12_haveOneNames_91 (by decide) (fun c4 => ?_) (fun c4 => ?_)
    · replace hm := if_t c4 hm
      have h9 := hE _ (Option.some.inj hm).symm
      subst h9
      exact X1_0 H locs ls hP hD hS (lv_sub hl [0, 3] rfl)
    · replace hm := if_f c4 hm
      refine lv_iload hx hb dX12_haveOneNames_94 (lv_at hl 3 rfl) ?_
      refine lv_if_eq (tgt := 169) hx hb dX12_haveOneNames_96 (by decide) (fun c5 => ?_) (fun c5 => ?_)
      · replace hm := if_t c5 hm
        have h9 := hE _ (Option.some.inj hm).symm
        subst h9
        exact X1_0 H locs ls hP hD hS (lv_sub hl [0, 3] rfl)
      · replace hm := if_f c5 hm
        refine lv_aload_n hx hb dX12_haveOneNames_99 rfl (lv_at hl 0 rfl) ?_
        refine va_get (D := D) (ci := 12) (v := .ref aM_in) (C := RX12) (T := TX12) (N := 19) hx hb hts k2 hown hKv hP 0 rfl rfl 12 (by decide) k3 (fun _ h9 => h9) rfl dX12_haveOneNames_100 ?_
        refine lv_iload_n hx hb dX12_haveOneNames_103 rfl (lv_at hl 1 rfl) ?_
        replace hm := ck_some hm
        obtain ⟨h6, hm⟩ := hm
        refine va_zald hx hb hKv hP 3 2 rfl rfl h6 dX12_haveOneNames_104 ?_
        refine lv_if_eq (tgt := 133) hx hb dX12_haveOneNames_105 (by decide) (fun c7 => ?_) (fun c7 => ?_)
        · replace hm := if_t c7 hm
          refine lv_aload_n hx hb dX12_haveOneNames_133 rfl (lv_at hl 0 rfl) ?_
          refine lv_iload_n hx hb dX12_haveOneNames_134 rfl (lv_at hl 1 rfl) ?_
          refine lv_iload hx hb dX12_haveOneNames_135 (lv_at hl 4 rfl) ?_
          replace hm := bd_some hm
          obtain ⟨e8, hc8, hm⟩ := hm
          refine kV_i (rest := []) (ws' := (w_X12_haveOneNames cI cZ aM aM_s aM_ke aM_te aM_re aM_bo aM_bn aM_sh aM_in aM_su aM_gr aM_tr aM_ou aM_ro M_s M_km M_n M_be M_ma M_so M_sh M_in M_om)) S (c_X12_author l D cI cJ cZ cS aM aM_s aM_ke aM_te aM_re aM_bo aM_bn aM_sh aM_in aM_su aM_gr aM_tr aM_ou aM_ro M_s M_km M_n M_be M_ma M_so M_om x1 st83.2 e8 hc8) k4 hK hP hD hS hA 0 rfl rfl rfl rfl hl.1 rfl (Nat.le_of_ble_eq_true rfl) ⟨Nat.zero_le _, Nat.zero_le _⟩ dX12_haveOneNames_137 [0, 1] rfl rfl wa_X12_author (sa_eq [(aM_sh, .inl (cI, 8, .inl M_sh)), (aM_in, .inl (cZ, 8, .inl M_in))] [2, 3] 4 rfl rfl rfl rfl rfl rfl rfl) (fun H locs hP hD hS => ?_)
          refine lv_bipush (v := 26) hx hb dX12_haveOneNames_140 (by decide) ?_
          refine lv_idiv hx hb dX12_haveOneNames_142 (by decide) ?_
          refine lv_aload_n hx hb dX12_haveOneNames_143 rfl (lv_at hl 0 rfl) ?_
          refine lv_iload_n hx hb dX12_haveOneNames_144 rfl (lv_at hl 2 rfl) ?_
          refine lv_iload hx hb dX12_haveOneNames_145 (lv_at hl 4 rfl) ?_
          replace hm := bd_some hm
          obtain ⟨e9, hc9, hm⟩ := hm
          refine kV_i (rest := [.int (e8 / 26)]) (ws' := (w_X12_haveOneNames cI cZ aM aM_s aM_ke aM_te aM_re aM_bo aM_bn aM_sh aM_in aM_su aM_gr aM_tr aM_ou aM_ro M_s M_km M_n M_be M_ma M_so M_sh M_in M_om)) S (c_X12_author l D cI cJ cZ cS aM aM_s aM_ke aM_te aM_re aM_bo aM_bn aM_sh aM_in aM_su aM_gr aM_tr aM_ou aM_ro M_s M_km M_n M_be M_ma M_so M_om x2 st83.2 e9 hc9) k4 hK hP hD hS hA 0 rfl rfl rfl rfl hl.1 rfl (Nat.le_of_ble_eq_true rfl) ⟨Nat.zero_le _, Nat.zero_le _⟩ dX12_haveOneNames_147 [0, 1] rfl rfl wa_X12_author (sa_eq [(aM_sh, .inl (cI, 8, .inl M_sh)), (aM_in, .inl (cZ, 8, .inl M_in))] [2, 3] 4 rfl rfl rfl rfl rfl rfl rfl) (fun H locs hP hD hS => ?_)
          refine lv_bipush (v := 26) hx hb dX12_haveOneNames_150 (by decide) ?_
          refine lv_idiv hx hb dX12_haveOneNames_152 (by decide) ?_
          refine lv_icmp_ne (tgt := 160) hx hb dX12_haveOneNames_153 (by decide) (fun c10 => ?_) (fun c10 => ?_)
          · replace hm := if_f c10 hm
            refine lv_iconst (v := 0) hx hb dX12_haveOneNames_160 (by decide) ?_
            exact J161 st83.2 0 hm H locs ls hP hD hS (lv_sub hl [0, 1, 2, 4] rfl)
          · replace hm := if_t c10 hm
            refine lv_iconst (v := 1) hx hb dX12_haveOneNames_156 (by decide) ?_
            refine lv_goto (tgt := 161) hx hb dX12_haveOneNames_157 (by decide) ?_
            exact J161 st83.2 1 hm H locs ls hP hD hS (lv_sub hl [0, 1, 2, 4] rfl)
        · replace hm := if_f c7 hm
          refine lv_aload_n hx hb dX12_haveOneNames_108 rfl (lv_at hl 0 rfl) ?_
          refine lv_iload_n hx hb dX12_haveOneNames_109 rfl (lv_at hl 1 rfl) ?_
          refine lv_iload hx hb dX12_haveOneNames_110 (lv_at hl 4 rfl) ?_
          replace hm := bd_some hm
          obtain ⟨e11, hc11, hm⟩ := hm
          refine kV_i (rest := []) (ws' := (w_X12_haveOneNames cI cZ aM aM_s aM_ke aM_te aM_re aM_bo aM_bn aM_sh aM_in aM_su aM_gr aM_tr aM_ou aM_ro M_s M_km M_n M_be M_ma M_so M_sh M_in M_om)) S (c_X12_author l D cI cJ cZ cS aM aM_s aM_ke aM_te aM_re aM_bo aM_bn aM_sh aM_in aM_su aM_gr aM_tr aM_ou aM_ro M_s M_km M_n M_be M_ma M_so M_om x1 st83.2 e11 hc11) k4 hK hP hD hS hA 0 rfl rfl rfl rfl hl.1 rfl (Nat.le_of_ble_eq_true rfl) ⟨Nat.zero_le _, Nat.zero_le _⟩ dX12_haveOneNames_112 [0, 1] rfl rfl wa_X12_author (sa_eq [(aM_sh, .inl (cI, 8, .inl M_sh)), (aM_in, .inl (cZ, 8, .inl M_in))] [2, 3] 4 rfl rfl rfl rfl rfl rfl rfl) (fun H locs hP hD hS => ?_)
          refine lv_aload_n hx hb dX12_haveOneNames_115 rfl (lv_at hl 0 rfl) ?_
          refine lv_iload_n hx hb dX12_haveOneNames_116 rfl (lv_at hl 2 rfl) ?_
          refine lv_iload hx hb dX12_haveOneNames_117 (lv_at hl 4 rfl) ?_
          replace hm := bd_some hm
          obtain ⟨e12, hc12, hm⟩ := hm
          refine kV_i (rest := [.int e11]) (ws' := (w_X12_haveOneNames cI cZ aM aM_s aM_ke aM_te aM_re aM_bo aM_bn aM_sh aM_in aM_su aM_gr aM_tr aM_ou aM_ro M_s M_km M_n M_be M_ma M_so M_sh M_in M_om)) S (c_X12_author l D cI cJ cZ cS aM aM_s aM_ke aM_te aM_re aM_bo aM_bn aM_sh aM_in aM_su aM_gr aM_tr aM_ou aM_ro M_s M_km M_n M_be M_ma M_so M_om x2 st83.2 e12 hc12) k4 hK hP hD hS hA 0 rfl rfl rfl rfl hl.1 rfl (Nat.le_of_ble_eq_true rfl) ⟨Nat.zero_le _, Nat.zero_le _⟩ dX12_haveOneNames_119 [0, 1] rfl rfl wa_X12_author (sa_eq [(aM_sh, .inl (cI, 8, .inl M_sh)), (aM_in, .inl (cZ, 8, .inl M_in))] [2, 3] 4 rfl rfl rfl rfl rfl rfl rfl) (fun H locs hP hD hS => ?_)
          refine lv_icmp_ne (tgt := 129) hx hb dX12_haveOneNames_122 (by decide) (fun c13 => ?_) (fun c13 => ?_)
          · replace hm := if_f c13 hm
            refine lv_iconst (v := 0) hx hb dX12_haveOneNames_129 (by decide) ?_
            refine lv_goto (tgt := 161) hx hb dX12_haveOneNames_130 (by decide) ?_
            exact J161 st83.2 0 hm H locs ls hP hD hS (lv_sub hl [0, 1, 2, 4] rfl)
          · replace hm := if_t c13 hm
            refine lv_iconst (v := 1) hx hb dX12_haveOneNames_125 (by decide) ?_
            refine lv_goto (tgt := 161) hx hb dX12_haveOneNames_126 (by decide) ?_
            exact J161 st83.2 1 hm H locs ls hP hD hS (lv_sub hl [0, 1, 2, 4] rfl)
  have J77 : (m_X12_haveOneNames_J77 x1 x2 M_s M_sh M_in = some o) → ∀ (H : Heap) (locs : List Loc) (ls : Array Slot), va_P D vwCl (w_X12_haveOneNames cI cZ aM aM_s aM_ke aM_te aM_re aM_bo aM_bn aM_sh aM_in aM_su aM_gr aM_tr aM_ou aM_ro M_s M_km M_n M_be M_ma M_so M_sh M_in M_om) H → va_D A (w_X12_haveOneNames cI cZ aM aM_s aM_ke aM_te aM_re aM_bo aM_bn aM_sh aM_in aM_su aM_gr aM_tr aM_ou aM_ro M_s M_km M_n M_be M_ma M_so M_sh M_in M_om) → va_S A s.heap H locs → lv_has ls 6 [(0, .ref aM), (1, .int x1), (2, .int x2)] → W p l e rm_X12_haveOneNames s m args below meth c H locs 0 0 Q (F0 m 77 ls []) := by
    intro  hm H locs ls hP hD hS hl
    refine lv_iconst (v := 0) hx hb dX12_haveOneNames_77 (by decide) ?_
    exact J78 0 hm H locs ls hP hD hS (lv_sub hl [0, 1, 2] rfl)
  have J70 : ∀ (y0_j70 : Int32) (y1_j70 : Int32), (m_X12_haveOneNames_J70 x1 x2 y0_j70 y1_j70 M_s M_sh M_in = some o) → ∀ (H : Heap) (locs : List Loc) (ls : Array Slot), va_P D vwCl (w_X12_haveOneNames cI cZ aM aM_s aM_ke aM_te aM_re aM_bo aM_bn aM_sh aM_in aM_su aM_gr aM_tr aM_ou aM_ro M_s M_km M_n M_be M_ma M_so M_sh M_in M_om) H → va_D A (w_X12_haveOneNames cI cZ aM aM_s aM_ke aM_te aM_re aM_bo aM_bn aM_sh aM_in aM_su aM_gr aM_tr aM_ou aM_ro M_s M_km M_n M_be M_ma M_so M_sh M_in M_om) → va_S A s.heap H locs → lv_has ls 6 [(0, .ref aM), (1, .int x1), (2, .int x2)] → W p l e rm_X12_haveOneNames s m args below meth c H locs 0 0 Q (F0 m 70 ls [.int y0_j70, .int y1_j70]) := by
    intro y0_j70 y1_j70 hm H locs ls hP hD hS hl
    refine lv_icmp_ne (tgt := 77) hx hb dX12_haveOneNames_70 (by decide) (fun c14 => ?_) (fun c14 => ?_)
    · replace hm := if_f c14 hm
      exact J77  hm H locs ls hP hD hS (lv_sub hl [0, 1, 2] rfl)
    · replace hm := if_t c14 hm
      refine lv_iconst (v := 1) hx hb dX12_haveOneNames_73 (by decide) ?_
      refine lv_goto (tgt := 78) hx hb dX12_haveOneNames_74 (by decide) ?_
      exact J78 1 hm H locs ls hP hD hS (lv_sub hl [0, 1, 2] rfl)
  have J19 : ∀ (y0_j19 : Int32), (m_X12_haveOneNames_J19 x1 x2 y0_j19 M_s M_sh M_in = some o) → ∀ (H : Heap) (locs : List Loc) (ls : Array Slot), va_P D vwCl (w_X12_haveOneNames cI cZ aM aM_s aM_ke aM_te aM_re aM_bo aM_bn aM_sh aM_in aM_su aM_gr aM_tr aM_ou aM_ro M_s M_km M_n M_be M_ma M_so M_sh M_in M_om) H → va_D A (w_X12_haveOneNames cI cZ aM aM_s aM_ke aM_te aM_re aM_bo aM_bn aM_sh aM_in aM_su aM_gr aM_tr aM_ou aM_ro M_s M_km M_n M_be M_ma M_so M_sh M_in M_om) → va_S A s.heap H locs → lv_has ls 6 [(0, .ref aM), (1, .int x1), (2, .int x2)] → W p l e rm_X12_haveOneNames s m args below meth c H locs 0 0 Q (F0 m 19 ls [.int y0_j19]) := by
    intro y0_j19 hm H locs ls hP hD hS hl
    refine lv_istore_n (lv' := [(3, .int y0_j19), (0, .ref aM), (1, .int x1), (2, .int x2)]) hx hb dX12_haveOneNames_19 rfl hl (by decide) rfl (fun ls hl => ?_)
    refine lv_aload_n hx hb dX12_haveOneNames_20 rfl (lv_at hl 1 rfl) ?_
    refine va_get (D := D) (ci := 12) (v := .ref aM_sh) (C := RX12) (T := TX12) (N := 19) hx hb hts k2 hown hKv hP 0 rfl rfl 11 (by decide) k1 (fun _ h9 => h9) rfl dX12_haveOneNames_21 ?_
    refine lv_iload_n hx hb dX12_haveOneNames_24 rfl (lv_at hl 2 rfl) ?_
    replace hm := ck_some hm
    obtain ⟨h15, hm⟩ := hm
    refine va_iald hx hb hKv hP 2 0 rfl rfl h15 dX12_haveOneNames_25 ?_
    refine lv_aload_n hx hb dX12_haveOneNames_26 rfl (lv_at hl 1 rfl) ?_
    refine va_get (D := D) (ci := 12) (v := .ref aM_sh) (C := RX12) (T := TX12) (N := 19) hx hb hts k2 hown hKv hP 0 rfl rfl 11 (by decide) k1 (fun _ h9 => h9) rfl dX12_haveOneNames_27 ?_
    refine lv_iload_n hx hb dX12_haveOneNames_30 rfl (lv_at hl 3 rfl) ?_
    replace hm := ck_some hm
    obtain ⟨h16, hm⟩ := hm
    refine va_iald hx hb hKv hP 2 0 rfl rfl h16 dX12_haveOneNames_31 ?_
    refine lv_icmp_ne (tgt := 77) hx hb dX12_haveOneNames_32 (by decide) (fun c17 => ?_) (fun c17 => ?_)
    · replace hm := if_f c17 hm
      exact J77  hm H locs ls hP hD hS (lv_sub hl [1, 2, 3] rfl)
    · replace hm := if_t c17 hm
      refine lv_aload_n hx hb dX12_haveOneNames_35 rfl (lv_at hl 1 rfl) ?_
      refine va_get (D := D) (ci := 12) (v := .ref aM_in) (C := RX12) (T := TX12) (N := 19) hx hb hts k2 hown hKv hP 0 rfl rfl 12 (by decide) k3 (fun _ h9 => h9) rfl dX12_haveOneNames_36 ?_
      refine lv_iload_n hx hb dX12_haveOneNames_39 rfl (lv_at hl 2 rfl) ?_
      replace hm := ck_some hm
      obtain ⟨h18, hm⟩ := hm
      refine va_zald hx hb hKv hP 3 2 rfl rfl h18 dX12_haveOneNames_40 ?_
      refine lv_aload_n hx hb dX12_haveOneNames_41 rfl (lv_at hl 1 rfl) ?_
      refine va_get (D := D) (ci := 12) (v := .ref aM_in) (C := RX12) (T := TX12) (N := 19) hx hb hts k2 hown hKv hP 0 rfl rfl 12 (by decide) k3 (fun _ h9 => h9) rfl dX12_haveOneNames_42 ?_
      refine lv_iload_n hx hb dX12_haveOneNames_45 rfl (lv_at hl 3 rfl) ?_
      replace hm := ck_some hm
      obtain ⟨h19, hm⟩ := hm
      refine va_zald hx hb hKv hP 3 2 rfl rfl h19 dX12_haveOneNames_46 ?_
      refine lv_icmp_ne (tgt := 77) hx hb dX12_haveOneNames_47 (by decide) (fun c20 => ?_) (fun c20 => ?_)
      · replace hm := if_f c20 hm
        exact J77  hm H locs ls hP hD hS (lv_sub hl [1, 2, 3] rfl)
      · replace hm := if_t c20 hm
        refine lv_iload_n hx hb dX12_haveOneNames_50 rfl (lv_at hl 0 rfl) ?_
        refine lv_aload_n hx hb dX12_haveOneNames_51 rfl (lv_at hl 1 rfl) ?_
        refine va_get (D := D) (ci := 12) (v := .ref aM_sh) (C := RX12) (T := TX12) (N := 19) hx hb hts k2 hown hKv hP 0 rfl rfl 11 (by decide) k1 (fun _ h9 => h9) rfl dX12_haveOneNames_52 ?_
        refine lv_iload_n hx hb dX12_haveOneNames_55 rfl (lv_at hl 3 rfl) ?_
        replace hm := ck_some hm
        obtain ⟨h21, hm⟩ := hm
        refine va_iald hx hb hKv hP 2 0 rfl rfl h21 dX12_haveOneNames_56 ?_
        refine lv_aload_n hx hb dX12_haveOneNames_57 rfl (lv_at hl 1 rfl) ?_
        refine lv_iload_n hx hb dX12_haveOneNames_58 rfl (lv_at hl 3 rfl) ?_
        replace hm := bd_some hm
        obtain ⟨e22, hc22, hm⟩ := hm
        refine kV_i (rest := [.int (M_sh (Int32.toNatClampNeg x2)), .int y0_j19]) (ws' := (w_X12_haveOneNames cI cZ aM aM_s aM_ke aM_te aM_re aM_bo aM_bn aM_sh aM_in aM_su aM_gr aM_tr aM_ou aM_ro M_s M_km M_n M_be M_ma M_so M_sh M_in M_om)) S (c_X12_authors l D cI cJ cZ cS aM aM_s aM_ke aM_te aM_re aM_bo aM_bn aM_sh aM_in aM_su aM_gr aM_tr aM_ou aM_ro M_s M_km M_n M_be M_ma M_so M_om x2 e22 hc22) k5 hK hP hD hS hA 0 rfl rfl rfl rfl hl.1 rfl (Nat.le_of_ble_eq_true rfl) ⟨Nat.zero_le _, Nat.zero_le _⟩ dX12_haveOneNames_59 [0, 1] rfl rfl wa_X12_authors (sa_eq [(aM_sh, .inl (cI, 8, .inl M_sh)), (aM_in, .inl (cZ, 8, .inl M_in))] [2, 3] 4 rfl rfl rfl rfl rfl rfl rfl) (fun H locs hP hD hS => ?_)
        refine lv_icmp_ne (tgt := 69) hx hb dX12_haveOneNames_62 (by decide) (fun c23 => ?_) (fun c23 => ?_)
        · replace hm := if_f c23 hm
          refine lv_iconst (v := 0) hx hb dX12_haveOneNames_69 (by decide) ?_
          exact J70 0 y0_j19 hm H locs ls hP hD hS (lv_sub hl [1, 2, 3] rfl)
        · replace hm := if_t c23 hm
          refine lv_iconst (v := 1) hx hb dX12_haveOneNames_65 (by decide) ?_
          refine lv_goto (tgt := 70) hx hb dX12_haveOneNames_66 (by decide) ?_
          exact J70 1 y0_j19 hm H locs ls hP hD hS (lv_sub hl [1, 2, 3] rfl)
  refine lv_aload_n hx hb dX12_haveOneNames_0 rfl (lv_at hl 0 rfl) ?_
  refine va_get (D := D) (ci := 12) (v := .ref aM_sh) (C := RX12) (T := TX12) (N := 19) hx hb hts k2 hown hKv hP 0 rfl rfl 11 (by decide) k1 (fun _ h9 => h9) rfl dX12_haveOneNames_1 ?_
  refine lv_iload_n hx hb dX12_haveOneNames_4 rfl (lv_at hl 1 rfl) ?_
  replace hm := ck_some hm
  obtain ⟨h24, hm⟩ := hm
  refine va_iald hx hb hKv hP 2 0 rfl rfl h24 dX12_haveOneNames_5 ?_
  refine lv_aload_n hx hb dX12_haveOneNames_6 rfl (lv_at hl 0 rfl) ?_
  refine lv_iload_n hx hb dX12_haveOneNames_7 rfl (lv_at hl 1 rfl) ?_
  replace hm := bd_some hm
  obtain ⟨e25, hc25, hm⟩ := hm
  refine kV_i (rest := [.int (M_sh (Int32.toNatClampNeg x1))]) (ws' := (w_X12_haveOneNames cI cZ aM aM_s aM_ke aM_te aM_re aM_bo aM_bn aM_sh aM_in aM_su aM_gr aM_tr aM_ou aM_ro M_s M_km M_n M_be M_ma M_so M_sh M_in M_om)) S (c_X12_authors l D cI cJ cZ cS aM aM_s aM_ke aM_te aM_re aM_bo aM_bn aM_sh aM_in aM_su aM_gr aM_tr aM_ou aM_ro M_s M_km M_n M_be M_ma M_so M_om x1 e25 hc25) k5 hK hP hD hS hA 0 rfl rfl rfl rfl hl.1 rfl (Nat.le_of_ble_eq_true rfl) ⟨Nat.zero_le _, Nat.zero_le _⟩ dX12_haveOneNames_8 [0, 1] rfl rfl wa_X12_authors (sa_eq [(aM_sh, .inl (cI, 8, .inl M_sh)), (aM_in, .inl (cZ, 8, .inl M_in))] [2, 3] 4 rfl rfl rfl rfl rfl rfl rfl) (fun H locs hP hD hS => ?_)
  refine lv_icmp_ne (tgt := 18) hx hb dX12_haveOneNames_11 (by decide) (fun c26 => ?_) (fun c26 => ?_)
  · replace hm := if_f c26 hm
    refine lv_iconst (v := 0) hx hb dX12_haveOneNames_18 (by decide) ?_
    exact J19 0 hm H locs ls hP hD hS (lv_sub hl [0, 1, 2] rfl)
  · replace hm := if_t c26 hm
    refine lv_iconst (v := 1) hx hb dX12_haveOneNames_14 (by decide) ?_
    refine lv_goto (tgt := 19) hx hb dX12_haveOneNames_15 (by decide) ?_
    exact J19 1 hm H locs ls hP hD hS (lv_sub hl [0, 1, 2] rfl)
set_option maxHeartbeats 4000000 in
set_option maxRecDepth 100000 in
theorem c_X12_haveOneLabel (l : Launch) (D : va_G) (cI cJ cZ cS : ClassId) (aM aM_s aM_ke aM_te aM_re aM_bo aM_bn aM_sh aM_in aM_su aM_gr aM_tr aM_ou aM_ro : Nat) (M_s : Nat → Int32) (M_km : Int32) (M_n : Int32) (M_be : Int32) (M_ma : Int32) (M_so : Int32) (M_sh : Nat → Int32) (M_in : Nat → Int32) (M_su : Nat → Int32) (M_om : Int32) (x1 : Int32) (x2 : Int32) (o : Int32) (hm : m_X12_haveOneLabel M_s M_sh M_in M_su x1 x2 = some o) : MI l yX12_haveOneLabel wsX12_haveOneLabel rm_X12_haveOneLabel D (TY cI cJ cZ cS) [.ref aM, .int x1, .int x2] (w_X12_haveOneLabel cI cZ aM aM_s aM_ke aM_te aM_re aM_bo aM_bn aM_sh aM_in aM_su aM_gr aM_tr aM_ou aM_ro M_s M_km M_n M_be M_ma M_so M_sh M_in M_su M_om) (w_X12_haveOneLabel cI cZ aM aM_s aM_ke aM_te aM_re aM_bo aM_bn aM_sh aM_in aM_su aM_gr aM_tr aM_ou aM_ro M_s M_km M_n M_be M_ma M_so M_sh M_in M_su M_om) (o) := by
  refine MZ_of (cc := cX12_haveOneLabel) (maxL := 3) (by decide) rfl (Nat.le_of_ble_eq_true rfl) ?_
  intro p e s m args below meth c A Q ls H locs hx hb hml hts hown hK hA hP hD hS hl hret
  have hown : s.vm.findClass RX12 = some m.cls := hown
  have hKv : va_K D vwCl (TY cI cJ cZ cS) s := hK.1
  have hl : lv_has ls 3 [(0, .ref aM), (1, .int x1), (2, .int x2)] := hl
  have S : CallFix p m c cX12_haveOneLabel 3 s args wsX12_haveOneLabel RX12 := ⟨hx, hb, hml, hown, hts⟩
  have k1 : CallW rm_X12_haveOneLabel s args RX12 RX12 155 yX12_year cX12_year 2 (some .int) wsX12_year rm_X12_year 0 0 1 := cwV 1 hts gX12_haveOneLabel_X12_year rfl rfl rfl (by decide +kernel) ⟨Nat.le_of_ble_eq_true rfl, Nat.le_of_ble_eq_true rfl⟩
  have k2 := hts (.fieldLink RX12 35 "CitationFormatterModel" "suffix" "[I") (by decide +kernel)
  have k3 : ∀ w ∈ wsX120, w ∈ wsX12_haveOneLabel := by decide +kernel
  have k4 : CallW rm_X12_haveOneLabel s args RX12 RX12 174 yX12_haveOneNames cX12_haveOneNames 6 (some .boolean) wsX12_haveOneNames rm_X12_haveOneNames 0 0 2 := cwV 2 hts gX12_haveOneLabel_X12_haveOneNames rfl rfl rfl (by decide +kernel) ⟨Nat.le_of_ble_eq_true rfl, Nat.le_of_ble_eq_true rfl⟩
  have J42 : ∀ (y0_j42 : Int32), (m_X12_haveOneLabel_J42 y0_j42 = some o) → ∀ (H : Heap) (locs : List Loc) (ls : Array Slot), va_P D vwCl (w_X12_haveOneLabel cI cZ aM aM_s aM_ke aM_te aM_re aM_bo aM_bn aM_sh aM_in aM_su aM_gr aM_tr aM_ou aM_ro M_s M_km M_n M_be M_ma M_so M_sh M_in M_su M_om) H → va_D A (w_X12_haveOneLabel cI cZ aM aM_s aM_ke aM_te aM_re aM_bo aM_bn aM_sh aM_in aM_su aM_gr aM_tr aM_ou aM_ro M_s M_km M_n M_be M_ma M_so M_sh M_in M_su M_om) → va_S A s.heap H locs → lv_has ls 3 [(0, .ref aM)] → W p l e rm_X12_haveOneLabel s m args below meth c H locs 0 0 Q (F0 m 42 ls [.int y0_j42]) := by
    intro y0_j42 hm H locs ls hP hD hS hl
    replace hm := ckb_some hm
    obtain ⟨h1, hm⟩ := hm
    have h9 := Option.some.inj hm
    subst h9
    exact hret H locs _ ls _ h1 hP hD hS rfl dX12_haveOneLabel_42
  have J41 : (m_X12_haveOneLabel_J41 = some o) → ∀ (H : Heap) (locs : List Loc) (ls : Array Slot), va_P D vwCl (w_X12_haveOneLabel cI cZ aM aM_s aM_ke aM_te aM_re aM_bo aM_bn aM_sh aM_in aM_su aM_gr aM_tr aM_ou aM_ro M_s M_km M_n M_be M_ma M_so M_sh M_in M_su M_om) H → va_D A (w_X12_haveOneLabel cI cZ aM aM_s aM_ke aM_te aM_re aM_bo aM_bn aM_sh aM_in aM_su aM_gr aM_tr aM_ou aM_ro M_s M_km M_n M_be M_ma M_so M_sh M_in M_su M_om) → va_S A s.heap H locs → lv_has ls 3 [(0, .ref aM)] → W p l e rm_X12_haveOneLabel s m args below meth c H locs 0 0 Q (F0 m 41 ls []) := by
    intro  hm H locs ls hP hD hS hl
    refine lv_iconst (v := 0) hx hb dX12_haveOneLabel_41 (by decide) ?_
    exact J42 0 hm H locs ls hP hD hS (lv_sub hl [0] rfl)
  refine lv_aload_n hx hb dX12_haveOneLabel_0 rfl (lv_at hl 0 rfl) ?_
  refine lv_iload_n hx hb dX12_haveOneLabel_1 rfl (lv_at hl 1 rfl) ?_
  replace hm := bd_some hm
  obtain ⟨e2, hc2, hm⟩ := hm
  refine kV_i (rest := []) (ws' := (w_X12_haveOneLabel cI cZ aM aM_s aM_ke aM_te aM_re aM_bo aM_bn aM_sh aM_in aM_su aM_gr aM_tr aM_ou aM_ro M_s M_km M_n M_be M_ma M_so M_sh M_in M_su M_om)) S (c_X12_year l D cI cJ cZ cS aM aM_s aM_ke aM_te aM_re aM_bo aM_bn aM_sh aM_in aM_su aM_gr aM_tr aM_ou aM_ro M_s M_km M_n M_be M_ma M_so M_om x1 e2 hc2) k1 hK hP hD hS hA 0 rfl rfl rfl rfl hl.1 rfl (Nat.le_of_ble_eq_true rfl) ⟨Nat.zero_le _, Nat.zero_le _⟩ dX12_haveOneLabel_2 [0, 1] rfl rfl wa_X12_year (sa_eq [(aM_sh, .inl (cI, 8, .inl M_sh)), (aM_in, .inl (cZ, 8, .inl M_in)), (aM_su, .inl (cI, 8, .inl M_su))] [2, 3, 4] 5 rfl rfl rfl rfl rfl rfl rfl) (fun H locs hP hD hS => ?_)
  refine lv_aload_n hx hb dX12_haveOneLabel_5 rfl (lv_at hl 0 rfl) ?_
  refine lv_iload_n hx hb dX12_haveOneLabel_6 rfl (lv_at hl 2 rfl) ?_
  replace hm := bd_some hm
  obtain ⟨e3, hc3, hm⟩ := hm
  refine kV_i (rest := [.int e2]) (ws' := (w_X12_haveOneLabel cI cZ aM aM_s aM_ke aM_te aM_re aM_bo aM_bn aM_sh aM_in aM_su aM_gr aM_tr aM_ou aM_ro M_s M_km M_n M_be M_ma M_so M_sh M_in M_su M_om)) S (c_X12_year l D cI cJ cZ cS aM aM_s aM_ke aM_te aM_re aM_bo aM_bn aM_sh aM_in aM_su aM_gr aM_tr aM_ou aM_ro M_s M_km M_n M_be M_ma M_so M_om x2 e3 hc3) k1 hK hP hD hS hA 0 rfl rfl rfl rfl hl.1 rfl (Nat.le_of_ble_eq_true rfl) ⟨Nat.zero_le _, Nat.zero_le _⟩ dX12_haveOneLabel_7 [0, 1] rfl rfl wa_X12_year (sa_eq [(aM_sh, .inl (cI, 8, .inl M_sh)), (aM_in, .inl (cZ, 8, .inl M_in)), (aM_su, .inl (cI, 8, .inl M_su))] [2, 3, 4] 5 rfl rfl rfl rfl rfl rfl rfl) (fun H locs hP hD hS => ?_)
  refine lv_icmp_ne (tgt := 41) hx hb dX12_haveOneLabel_10 (by decide) (fun c4 => ?_) (fun c4 => ?_)
  · replace hm := if_f c4 hm
    exact J41  hm H locs ls hP hD hS (lv_sub hl [0] rfl)
  · replace hm := if_t c4 hm
    refine lv_aload_n hx hb dX12_haveOneLabel_13 rfl (lv_at hl 0 rfl) ?_
    refine va_get (D := D) (ci := 12) (v := .ref aM_su) (C := RX12) (T := TX12) (N := 19) hx hb hts k3 hown hKv hP 0 rfl rfl 13 (by decide) k2 (fun _ h9 => h9) rfl dX12_haveOneLabel_14 ?_
    refine lv_iload_n hx hb dX12_haveOneLabel_17 rfl (lv_at hl 1 rfl) ?_
    replace hm := ck_some hm
    obtain ⟨h5, hm⟩ := hm
    refine va_iald hx hb hKv hP 4 0 rfl rfl h5 dX12_haveOneLabel_18 ?_
    refine lv_aload_n hx hb dX12_haveOneLabel_19 rfl (lv_at hl 0 rfl) ?_
    refine va_get (D := D) (ci := 12) (v := .ref aM_su) (C := RX12) (T := TX12) (N := 19) hx hb hts k3 hown hKv hP 0 rfl rfl 13 (by decide) k2 (fun _ h9 => h9) rfl dX12_haveOneLabel_20 ?_
    refine lv_iload_n hx hb dX12_haveOneLabel_23 rfl (lv_at hl 2 rfl) ?_
    replace hm := ck_some hm
    obtain ⟨h6, hm⟩ := hm
    refine va_iald hx hb hKv hP 4 0 rfl rfl h6 dX12_haveOneLabel_24 ?_
    refine lv_icmp_ne (tgt := 41) hx hb dX12_haveOneLabel_25 (by decide) (fun c7 => ?_) (fun c7 => ?_)
    · replace hm := if_f c7 hm
      exact J41  hm H locs ls hP hD hS (lv_sub hl [0] rfl)
    · replace hm := if_t c7 hm
      refine lv_aload_n hx hb dX12_haveOneLabel_28 rfl (lv_at hl 0 rfl) ?_
      refine lv_iload_n hx hb dX12_haveOneLabel_29 rfl (lv_at hl 1 rfl) ?_
      refine lv_iload_n hx hb dX12_haveOneLabel_30 rfl (lv_at hl 2 rfl) ?_
      replace hm := bd_some hm
      obtain ⟨e8, hc8, hm⟩ := hm
      refine kV_i (rest := []) (ws' := (w_X12_haveOneLabel cI cZ aM aM_s aM_ke aM_te aM_re aM_bo aM_bn aM_sh aM_in aM_su aM_gr aM_tr aM_ou aM_ro M_s M_km M_n M_be M_ma M_so M_sh M_in M_su M_om)) S (c_X12_haveOneNames l D cI cJ cZ cS aM aM_s aM_ke aM_te aM_re aM_bo aM_bn aM_sh aM_in aM_su aM_gr aM_tr aM_ou aM_ro M_s M_km M_n M_be M_ma M_so M_sh M_in M_om x1 x2 e8 hc8) k4 hK hP hD hS hA 0 rfl rfl rfl rfl hl.1 rfl (Nat.le_of_ble_eq_true rfl) ⟨Nat.zero_le _, Nat.zero_le _⟩ dX12_haveOneLabel_31 [0, 1, 2, 3] rfl rfl wa_X12_haveOneNames (sa_eq [(aM_su, .inl (cI, 8, .inl M_su))] [4] 5 rfl rfl rfl rfl rfl rfl rfl) (fun H locs hP hD hS => ?_)
      refine lv_if_eq (tgt := 41) hx hb dX12_haveOneLabel_34 (by decide) (fun c9 => ?_) (fun c9 => ?_)
      · replace hm := if_t c9 hm
        exact J41  hm H locs ls hP hD hS (lv_sub hl [0] rfl)
      · replace hm := if_f c9 hm
        refine lv_iconst (v := 1) hx hb dX12_haveOneLabel_37 (by decide) ?_
        refine lv_goto (tgt := 42) hx hb dX12_haveOneLabel_38 (by decide) ?_
        exact J42 1 hm H locs ls hP hD hS (lv_sub hl [0] rfl)
set_option maxHeartbeats 4000000 in
set_option maxRecDepth 100000 in
theorem c_X12_labelsOf (l : Launch) (D : va_G) (cI cJ cZ cS : ClassId) (aM aM_s aM_ke aM_te aM_re aM_bo aM_bn aM_sh aM_in aM_su aM_gr aM_tr aM_ou aM_ro : Nat) (M_s : Nat → Int32) (M_km : Int32) (M_n : Int32) (M_be : Int32) (M_ma : Int32) (M_so : Int32) (M_sh : Nat → Int32) (M_in : Nat → Int32) (M_su : Nat → Int32) (M_gr : Nat → Int32) (M_om : Int32) (x1 : Int32) (o : Int32) (hm : m_X12_labelsOf M_s M_sh M_in M_su M_gr x1 = some o) : MI l yX12_labelsOf wsX12_labelsOf rm_X12_labelsOf D (TY cI cJ cZ cS) [.ref aM, .int x1] (w_X12_labelsOf cI cZ aM aM_s aM_ke aM_te aM_re aM_bo aM_bn aM_sh aM_in aM_su aM_gr aM_tr aM_ou aM_ro M_s M_km M_n M_be M_ma M_so M_sh M_in M_su M_gr M_om) (w_X12_labelsOf cI cZ aM aM_s aM_ke aM_te aM_re aM_bo aM_bn aM_sh aM_in aM_su aM_gr aM_tr aM_ou aM_ro M_s M_km M_n M_be M_ma M_so M_sh M_in M_su M_gr M_om) (o) := by
  refine MI_of (cc := cX12_labelsOf) (maxL := 6) (by decide) rfl (Nat.le_of_ble_eq_true rfl) ?_
  intro p e s m args below meth c A Q ls H locs hx hb hml hts hown hK hA hP hD hS hl hret
  have hown : s.vm.findClass RX12 = some m.cls := hown
  have hKv : va_K D vwCl (TY cI cJ cZ cS) s := hK.1
  have hl : lv_has ls 6 [(0, .ref aM), (1, .int x1)] := hl
  have S : CallFix p m c cX12_labelsOf 6 s args wsX12_labelsOf RX12 := ⟨hx, hb, hml, hown, hts⟩
  have k1 := hts (.fieldLink RX12 38 "CitationFormatterModel" "group" "[I") (by decide +kernel)
  have k2 : ∀ w ∈ wsX120, w ∈ wsX12_labelsOf := by decide +kernel
  have k3 : CallW rm_X12_labelsOf s args RX12 RX12 177 yX12_haveOneLabel cX12_haveOneLabel 3 (some .boolean) wsX12_haveOneLabel rm_X12_haveOneLabel 0 0 2 := cwV 2 hts gX12_labelsOf_X12_haveOneLabel rfl rfl rfl (by decide +kernel) ⟨Nat.le_of_ble_eq_true rfl, Nat.le_of_ble_eq_true rfl⟩
  have k4 := hts (.fieldLink RX12 7 "CitationFormatterModel" "s" "[I") (by decide +kernel)
  refine lv_iconst (v := 0) hx hb dX12_labelsOf_0 (by decide) ?_
  refine lv_istore_n (lv' := [(2, .int 0), (0, .ref aM), (1, .int x1)]) hx hb dX12_labelsOf_1 rfl hl (by decide) rfl (fun ls hl => ?_)
  refine lv_iconst (v := 0) hx hb dX12_labelsOf_2 (by decide) ?_
  refine lv_istore_n (lv' := [(3, .int 0), (2, .int 0), (0, .ref aM), (1, .int x1)]) hx hb dX12_labelsOf_3 rfl hl (by decide) rfl (fun ls hl => ?_)
  replace hm := bd_some hm
  obtain ⟨e1, hc1, hm⟩ := hm
  have X1_0 : ∀ (H : Heap) (locs : List Loc) (ls : Array Slot), va_P D vwCl (w_X12_labelsOf cI cZ aM aM_s aM_ke aM_te aM_re aM_bo aM_bn aM_sh aM_in aM_su aM_gr aM_tr aM_ou aM_ro M_s M_km M_n M_be M_ma M_so M_sh M_in M_su M_gr M_om) H → va_D A (w_X12_labelsOf cI cZ aM aM_s aM_ke aM_te aM_re aM_bo aM_bn aM_sh aM_in aM_su aM_gr aM_tr aM_ou aM_ro M_s M_km M_n M_be M_ma M_so M_sh M_in M_su M_gr M_om) → va_S A s.heap H locs → lv_has ls 6 [(0, .ref aM), (2, .int e1)] → W p l e rm_X12_labelsOf s m args below meth c H locs 0 0 Q (F0 m 98 ls []) := by
    intro H locs ls hP hD hS hl
    refine lv_iload_n hx hb dX12_labelsOf_98 rfl (lv_at hl 1 rfl) ?_
    have h9 := Option.some.inj hm
    subst h9
    exact hret H locs _ ls _ hP hD hS rfl dX12_labelsOf_99
  refine it_W (G := fun (st4 : Int32 × Int32) => ∀ (H : Heap) (locs : List Loc) (ls : Array Slot), va_P D vwCl (w_X12_labelsOf cI cZ aM aM_s aM_ke aM_te aM_re aM_bo aM_bn aM_sh aM_in aM_su aM_gr aM_tr aM_ou aM_ro M_s M_km M_n M_be M_ma M_so M_sh M_in M_su M_gr M_om) H → va_D A (w_X12_labelsOf cI cZ aM aM_s aM_ke aM_te aM_re aM_bo aM_bn aM_sh aM_in aM_su aM_gr aM_tr aM_ou aM_ro M_s M_km M_n M_be M_ma M_so M_sh M_in M_su M_gr M_om) → va_S A s.heap H locs → lv_has ls 6 [(0, .ref aM), (1, .int x1), (2, .int st4.1), (3, .int st4.2)] → W p l e rm_X12_labelsOf s m args below meth c H locs 0 0 Q (F0 m 4 ls [])) (e := e1) (fun st4 x hm hG hE => ?_) fu _ hc1 H locs ls hP hD hS (lv_sub hl [2, 3, 1, 0] rfl)
  intro H locs ls hP hD hS hl
  have J90 : ∀ (x3_j90 : Int32) (y0_j90 : Int32) (y1_j90 : Int32), (m_X12_labelsOf_J90 x1 x3_j90 y0_j90 y1_j90 = some x) → ∀ (H : Heap) (locs : List Loc) (ls : Array Slot), va_P D vwCl (w_X12_labelsOf cI cZ aM aM_s aM_ke aM_te aM_re aM_bo aM_bn aM_sh aM_in aM_su aM_gr aM_tr aM_ou aM_ro M_s M_km M_n M_be M_ma M_so M_sh M_in M_su M_gr M_om) H → va_D A (w_X12_labelsOf cI cZ aM aM_s aM_ke aM_te aM_re aM_bo aM_bn aM_sh aM_in aM_su aM_gr aM_tr aM_ou aM_ro M_s M_km M_n M_be M_ma M_so M_sh M_in M_su M_gr M_om) → va_S A s.heap H locs → lv_has ls 6 [(0, .ref aM), (1, .int x1), (3, .int x3_j90)] → W p l e rm_X12_labelsOf s m args below meth c H locs 0 0 Q (F0 m 90 ls [.int y0_j90, .int y1_j90]) := by
    intro x3_j90 y0_j90 y1_j90 hm H locs ls hP hD hS hl
    refine lv_iadd hx hb dX12_labelsOf_90 ?_
    refine lv_istore_n (lv' := [(2, .int (y1_j90 + y0_j90)), (0, .ref aM), (1, .int x1), (3, .int x3_j90)]) hx hb dX12_labelsOf_91 rfl hl (by decide) rfl (fun ls hl => ?_)
    refine lv_iinc (v := (x3_j90 + 1)) (lv' := [(3, .int (x3_j90 + 1)), (2, .int (y1_j90 + y0_j90)), (0, .ref aM), (1, .int x1)]) hx hb dX12_labelsOf_92 hl (k := 3) rfl rfl (by decide) rfl (fun ls hl => ?_)
    refine lv_goto (tgt := 4) hx hb dX12_labelsOf_95 (by decide) ?_
    exact hG _ (Option.some.inj hm).symm H locs ls hP hD hS (lv_sub hl [2, 3, 1, 0] rfl)
  have J29 : ∀ (x2_j29 : Int32) (x3_j29 : Int32) (y0_j29 : Int32), (m_X12_labelsOf_J29 x1 x2_j29 x3_j29 y0_j29 M_s M_sh M_in M_su M_gr = some x) → ∀ (H : Heap) (locs : List Loc) (ls : Array Slot), va_P D vwCl (w_X12_labelsOf cI cZ aM aM_s aM_ke aM_te aM_re aM_bo aM_bn aM_sh aM_in aM_su aM_gr aM_tr aM_ou aM_ro M_s M_km M_n M_be M_ma M_so M_sh M_in M_su M_gr M_om) H → va_D A (w_X12_labelsOf cI cZ aM aM_s aM_ke aM_te aM_re aM_bo aM_bn aM_sh aM_in aM_su aM_gr aM_tr aM_ou aM_ro M_s M_km M_n M_be M_ma M_so M_sh M_in M_su M_gr M_om) → va_S A s.heap H locs → lv_has ls 6 [(0, .ref aM), (1, .int x1), (2, .int x2_j29), (3, .int x3_j29)] → W p l e rm_X12_labelsOf s m args below meth c H locs 0 0 Q (F0 m 29 ls [.int y0_j29]) := by
    intro x2_j29 x3_j29 y0_j29 hm H locs ls hP hD hS hl
    refine lv_istore (lv' := [(4, .int y0_j29), (0, .ref aM), (1, .int x1), (2, .int x2_j29), (3, .int x3_j29)]) hx hb dX12_labelsOf_29 hl (by decide) rfl (fun ls hl => ?_)
    refine lv_iconst (v := 0) hx hb dX12_labelsOf_31 (by decide) ?_
    refine lv_istore (lv' := [(5, .int 0), (4, .int y0_j29), (0, .ref aM), (1, .int x1), (2, .int x2_j29), (3, .int x3_j29)]) hx hb dX12_labelsOf_32 hl (by decide) rfl (fun ls hl => ?_)
    replace hm := bd_some hm
    obtain ⟨e2, hc2, hm⟩ := hm
    have X2_0 : ∀ (H : Heap) (locs : List Loc) (ls : Array Slot), va_P D vwCl (w_X12_labelsOf cI cZ aM aM_s aM_ke aM_te aM_re aM_bo aM_bn aM_sh aM_in aM_su aM_gr aM_tr aM_ou aM_ro M_s M_km M_n M_be M_ma M_so M_sh M_in M_su M_gr M_om) H → va_D A (w_X12_labelsOf cI cZ aM aM_s aM_ke aM_te aM_re aM_bo aM_bn aM_sh aM_in aM_su aM_gr aM_tr aM_ou aM_ro M_s M_km M_n M_be M_ma M_so M_sh M_in M_su M_gr M_om) → va_S A s.heap H locs → lv_has ls 6 [(0, .ref aM), (1, .int x1), (2, .int x2_j29), (3, .int x3_j29), (4, .int e2)] → W p l e rm_X12_labelsOf s m args below meth c H locs 0 0 Q (F0 m 79 ls []) := by
      intro H locs ls hP hD hS hl
      refine lv_iload_n hx hb dX12_labelsOf_79 rfl (lv_at hl 2 rfl) ?_
      refine lv_iload hx hb dX12_labelsOf_80 (lv_at hl 4 rfl) ?_
      refine lv_if_eq (tgt := 89) hx hb dX12_labelsOf_82 (by decide) (fun c3 => ?_) (fun c3 => ?_)
      · replace hm := if_t c3 hm
        refine lv_iconst (v := 0) hx hb dX12_labelsOf_89 (by decide) ?_
        exact J90 x3_j29 0 x2_j29 hm H locs ls hP hD hS (lv_sub hl [0, 1, 3] rfl)
      · replace hm := if_f c3 hm
        refine lv_iconst (v := 1) hx hb dX12_labelsOf_85 (by decide) ?_
        refine lv_goto (tgt := 90) hx hb dX12_labelsOf_86 (by decide) ?_
        exact J90 x3_j29 1 x2_j29 hm H locs ls hP hD hS (lv_sub hl [0, 1, 3] rfl)
    refine it_W (G := fun (st34 : Int32 × Int32) => ∀ (H : Heap) (locs : List Loc) (ls : Array Slot), va_P D vwCl (w_X12_labelsOf cI cZ aM aM_s aM_ke aM_te aM_re aM_bo aM_bn aM_sh aM_in aM_su aM_gr aM_tr aM_ou aM_ro M_s M_km M_n M_be M_ma M_so M_sh M_in M_su M_gr M_om) H → va_D A (w_X12_labelsOf cI cZ aM aM_s aM_ke aM_te aM_re aM_bo aM_bn aM_sh aM_in aM_su aM_gr aM_tr aM_ou aM_ro M_s M_km M_n M_be M_ma M_so M_sh M_in M_su M_gr M_om) → va_S A s.heap H locs → lv_has ls 6 [(0, .ref aM), (1, .int x1), (2, .int x2_j29), (3, .int x3_j29), (4, .int st34.1), (5, .int st34.2)] → W p l e rm_X12_labelsOf s m args below meth c H locs 0 0 Q (F0 m 34 ls [])) (e := e2) (fun st34 x hm hG hE => ?_) fu _ hc2 H locs ls hP hD hS (lv_sub hl [2, 3, 4, 5, 1, 0] rfl)
    intro H locs ls hP hD hS hl
    have J71 : ∀ (x5_j71 : Int32) (y0_j71 : Int32), (m_X12_labelsOf_J71 x1 x3_j29 x5_j71 y0_j71 = some x) → ∀ (H : Heap) (locs : List Loc) (ls : Array Slot), va_P D vwCl (w_X12_labelsOf cI cZ aM aM_s aM_ke aM_te aM_re aM_bo aM_bn aM_sh aM_in aM_su aM_gr aM_tr aM_ou aM_ro M_s M_km M_n M_be M_ma M_so M_sh M_in M_su M_gr M_om) H → va_D A (w_X12_labelsOf cI cZ aM aM_s aM_ke aM_te aM_re aM_bo aM_bn aM_sh aM_in aM_su aM_gr aM_tr aM_ou aM_ro M_s M_km M_n M_be M_ma M_so M_sh M_in M_su M_gr M_om) → va_S A s.heap H locs → lv_has ls 6 [(0, .ref aM), (1, .int x1), (2, .int x2_j29), (3, .int x3_j29), (5, .int x5_j71)] → W p l e rm_X12_labelsOf s m args below meth c H locs 0 0 Q (F0 m 71 ls [.int y0_j71]) := by
      intro x5_j71 y0_j71 hm H locs ls hP hD hS hl
      refine lv_istore (lv' := [(4, .int y0_j71), (0, .ref aM), (1, .int x1), (2, .int x2_j29), (3, .int x3_j29), (5, .int x5_j71)]) hx hb dX12_labelsOf_71 hl (by decide) rfl (fun ls hl => ?_)
      refine lv_iinc (v := (x5_j71 + 1)) (lv' := [(5, .int (x5_j71 + 1)), (4, .int y0_j71), (0, .ref aM), (1, .int x1), (2, .int x2_j29), (3, .int x3_j29)]) hx hb dX12_labelsOf_73 hl (k := 5) rfl rfl (by decide) rfl (fun ls hl => ?_)
      refine lv_goto (tgt := 34) hx hb dX12_labelsOf_76 (by decide) ?_
      exact hG _ (Option.some.inj hm).symm H locs ls hP hD hS (lv_sub hl [2, 3, 4, 5, 1, 0] rfl)
    have J70 : ∀ (x5_j70 : Int32), (m_X12_labelsOf_J70 x1 x3_j29 x5_j70 = some x) → ∀ (H : Heap) (locs : List Loc) (ls : Array Slot), va_P D vwCl (w_X12_labelsOf cI cZ aM aM_s aM_ke aM_te aM_re aM_bo aM_bn aM_sh aM_in aM_su aM_gr aM_tr aM_ou aM_ro M_s M_km M_n M_be M_ma M_so M_sh M_in M_su M_gr M_om) H → va_D A (w_X12_labelsOf cI cZ aM aM_s aM_ke aM_te aM_re aM_bo aM_bn aM_sh aM_in aM_su aM_gr aM_tr aM_ou aM_ro M_s M_km M_n M_be M_ma M_so M_sh M_in M_su M_gr M_om) → va_S A s.heap H locs → lv_has ls 6 [(0, .ref aM), (1, .int x1), (2, .int x2_j29), (3, .int x3_j29), (5, .int x5_j70)] → W p l e rm_X12_labelsOf s m args below meth c H locs 0 0 Q (F0 m 70 ls []) := by
      intro x5_j70 hm H locs ls hP hD hS hl
      refine lv_iconst (v := 0) hx hb dX12_labelsOf_70 (by decide) ?_
      exact J71 x5_j70 0 hm H locs ls hP hD hS (lv_sub hl [0, 1, 2, 3, 4] rfl)
    have J66 : ∀ (x5_j66 : Int32), (m_X12_labelsOf_J66 x1 x3_j29 x5_j66 = some x) → ∀ (H : Heap) (locs : List Loc) (ls : Array Slot), va_P D vwCl (w_X12_labelsOf cI cZ aM aM_s aM_ke aM_te aM_re aM_bo aM_bn aM_sh aM_in aM_su aM_gr aM_tr aM_ou aM_ro M_s M_km M_n M_be M_ma M_so M_sh M_in M_su M_gr M_om) H → va_D A (w_X12_labelsOf cI cZ aM aM_s aM_ke aM_te aM_re aM_bo aM_bn aM_sh aM_in aM_su aM_gr aM_tr aM_ou aM_ro M_s M_km M_n M_be M_ma M_so M_sh M_in M_su M_gr M_om) → va_S A s.heap H locs → lv_has ls 6 [(0, .ref aM), (1, .int x1), (2, .int x2_j29), (3, .int x3_j29), (5, .int x5_j66)] → W p l e rm_X12_labelsOf s m args below meth c H locs 0 0 Q (F0 m 66 ls []) := by
      intro x5_j66 hm H locs ls hP hD hS hl
      refine lv_iconst (v := 1) hx hb dX12_labelsOf_66 (by decide) ?_
      refine lv_goto (tgt := 71) hx hb dX12_labelsOf_67 (by decide) ?_
      exact J71 x5_j66 1 hm H locs ls hP hD hS (lv_sub hl [0, 1, 2, 3, 4] rfl)
    refine lv_iload hx hb dX12_labelsOf_34 (lv_at hl 5 rfl) ?_
    refine lv_iload_n hx hb dX12_labelsOf_36 rfl (lv_at hl 3 rfl) ?_
    refine lv_icmp_ge (tgt := 79) hx hb dX12_labelsOf_37 (by decide) (fun c4 => ?_) (fun c4 => ?_)
    · replace hm := if_t c4 hm
      have h9 := hE _ (Option.some.inj hm).symm
      subst h9
      exact X2_0 H locs ls hP hD hS (lv_sub hl [0, 1, 2, 3, 4] rfl)
    · replace hm := if_f c4 hm
      refine lv_iload hx hb dX12_labelsOf_40 (lv_at hl 4 rfl) ?_
      refine lv_if_eq (tgt := 70) hx hb dX12_labelsOf_42 (by decide) (fun c5 => ?_) (fun c5 => ?_)
      · replace hm := if_t c5 hm
        exact J70 st34.2 hm H locs ls hP hD hS (lv_sub hl [0, 1, 2, 3, 5] rfl)
      · replace hm := if_f c5 hm
        refine lv_aload_n hx hb dX12_labelsOf_45 rfl (lv_at hl 0 rfl) ?_
        refine va_get (D := D) (ci := 12) (v := .ref aM_gr) (C := RX12) (T := TX12) (N := 19) hx hb hts k2 hown hKv hP 0 rfl rfl 14 (by decide) k1 (fun _ h9 => h9) rfl dX12_labelsOf_46 ?_
        refine lv_iload hx hb dX12_labelsOf_49 (lv_at hl 5 rfl) ?_
        replace hm := ck_some hm
        obtain ⟨h6, hm⟩ := hm
        refine va_iald hx hb hKv hP 5 0 rfl rfl h6 dX12_labelsOf_51 ?_
        refine lv_iload_n hx hb dX12_labelsOf_52 rfl (lv_at hl 1 rfl) ?_
        refine lv_icmp_ne (tgt := 66) hx hb dX12_labelsOf_53 (by decide) (fun c7 => ?_) (fun c7 => ?_)
        · replace hm := if_f c7 hm
          exact J66 st34.2 hm H locs ls hP hD hS (lv_sub hl [0, 1, 2, 3, 5] rfl)
        · replace hm := if_t c7 hm
          refine lv_aload_n hx hb dX12_labelsOf_56 rfl (lv_at hl 0 rfl) ?_
          refine lv_iload hx hb dX12_labelsOf_57 (lv_at hl 5 rfl) ?_
          refine lv_iload_n hx hb dX12_labelsOf_59 rfl (lv_at hl 3 rfl) ?_
          replace hm := bd_some hm
          obtain ⟨e8, hc8, hm⟩ := hm
          refine kV_i (rest := []) (ws' := (w_X12_labelsOf cI cZ aM aM_s aM_ke aM_te aM_re aM_bo aM_bn aM_sh aM_in aM_su aM_gr aM_tr aM_ou aM_ro M_s M_km M_n M_be M_ma M_so M_sh M_in M_su M_gr M_om)) S (c_X12_haveOneLabel l D cI cJ cZ cS aM aM_s aM_ke aM_te aM_re aM_bo aM_bn aM_sh aM_in aM_su aM_gr aM_tr aM_ou aM_ro M_s M_km M_n M_be M_ma M_so M_sh M_in M_su M_om st34.2 x3_j29 e8 hc8) k3 hK hP hD hS hA 0 rfl rfl rfl rfl hl.1 rfl (Nat.le_of_ble_eq_true rfl) ⟨Nat.zero_le _, Nat.zero_le _⟩ dX12_labelsOf_60 [0, 1, 2, 3, 4] rfl rfl wa_X12_haveOneLabel (sa_eq [(aM_gr, .inl (cI, 8, .inl M_gr))] [5] 6 rfl rfl rfl rfl rfl rfl rfl) (fun H locs hP hD hS => ?_)
          refine lv_if_ne (tgt := 70) hx hb dX12_labelsOf_63 (by decide) (fun c9 => ?_) (fun c9 => ?_)
          · replace hm := if_f c9 hm
            exact J70 st34.2 hm H locs ls hP hD hS (lv_sub hl [0, 1, 2, 3, 5] rfl)
          · replace hm := if_t c9 hm
            exact J66 st34.2 hm H locs ls hP hD hS (lv_sub hl [0, 1, 2, 3, 5] rfl)
  refine lv_iload_n hx hb dX12_labelsOf_4 rfl (lv_at hl 3 rfl) ?_
  refine lv_aload_n hx hb dX12_labelsOf_5 rfl (lv_at hl 0 rfl) ?_
  refine va_get (D := D) (ci := 12) (v := .ref aM_s) (C := RX12) (T := TX12) (N := 19) hx hb hts k2 hown hKv hP 0 rfl rfl 0 (by decide) k4 (fun _ h9 => h9) rfl dX12_labelsOf_6 ?_
  refine lv_iconst (v := 0) hx hb dX12_labelsOf_9 (by decide) ?_
  replace hm := ck_some hm
  obtain ⟨h10, hm⟩ := hm
  refine va_iald hx hb hKv hP 1 0 rfl rfl h10 dX12_labelsOf_10 ?_
  refine lv_icmp_ge (tgt := 98) hx hb dX12_labelsOf_11 (by decide) (fun c11 => ?_) (fun c11 => ?_)
  · replace hm := if_t c11 hm
    have h9 := hE _ (Option.some.inj hm).symm
    subst h9
    exact X1_0 H locs ls hP hD hS (lv_sub hl [0, 2] rfl)
  · replace hm := if_f c11 hm
    refine lv_aload_n hx hb dX12_labelsOf_14 rfl (lv_at hl 0 rfl) ?_
    refine va_get (D := D) (ci := 12) (v := .ref aM_gr) (C := RX12) (T := TX12) (N := 19) hx hb hts k2 hown hKv hP 0 rfl rfl 14 (by decide) k1 (fun _ h9 => h9) rfl dX12_labelsOf_15 ?_
    refine lv_iload_n hx hb dX12_labelsOf_18 rfl (lv_at hl 3 rfl) ?_
    replace hm := ck_some hm
    obtain ⟨h12, hm⟩ := hm
    refine va_iald hx hb hKv hP 5 0 rfl rfl h12 dX12_labelsOf_19 ?_
    refine lv_iload_n hx hb dX12_labelsOf_20 rfl (lv_at hl 1 rfl) ?_
    refine lv_icmp_ne (tgt := 28) hx hb dX12_labelsOf_21 (by decide) (fun c13 => ?_) (fun c13 => ?_)
    · replace hm := if_f c13 hm
      refine lv_iconst (v := 0) hx hb dX12_labelsOf_28 (by decide) ?_
      exact J29 st4.1 st4.2 0 hm H locs ls hP hD hS (lv_sub hl [0, 1, 2, 3] rfl)
    · replace hm := if_t c13 hm
      refine lv_iconst (v := 1) hx hb dX12_labelsOf_24 (by decide) ?_
      refine lv_goto (tgt := 29) hx hb dX12_labelsOf_25 (by decide) ?_
      exact J29 st4.1 st4.2 1 hm H locs ls hP hD hS (lv_sub hl [0, 1, 2, 3] rfl)
set_option maxHeartbeats 4000000 in
set_option maxRecDepth 100000 in
theorem c_X12_addInitials (l : Launch) (D : va_G) (cI cJ cZ cS : ClassId) (aM aM_s aM_ke aM_te aM_re aM_bo aM_bn aM_sh aM_in aM_su aM_gr aM_tr aM_ou aM_ro : Nat) (M_s : Nat → Int32) (M_km : Int32) (M_n : Int32) (M_be : Int32) (M_ma : Int32) (M_so : Int32) (M_sh : Nat → Int32) (M_in : Nat → Int32) (M_su : Nat → Int32) (M_gr : Nat → Int32) (M_om : Int32) (x1 : Int32) (o : (Nat → Int32)) (hm : m_X12_addInitials M_s M_sh M_in M_su M_gr x1 = some o) : MV l yX12_addInitials wsX12_addInitials rm_X12_addInitials D (TY cI cJ cZ cS) [.ref aM, .int x1] (w_X12_addInitials cI cZ aM aM_s aM_ke aM_te aM_re aM_bo aM_bn aM_sh aM_in aM_su aM_gr aM_tr aM_ou aM_ro M_s M_km M_n M_be M_ma M_so M_sh M_in M_su M_gr M_om) (w_X12_addInitials cI cZ aM aM_s aM_ke aM_te aM_re aM_bo aM_bn aM_sh aM_in aM_su aM_gr aM_tr aM_ou aM_ro M_s M_km M_n M_be M_ma M_so M_sh o M_su M_gr M_om) := by
  refine MV_of (cc := cX12_addInitials) (maxL := 4) (by decide) rfl (Nat.le_of_ble_eq_true rfl) ?_
  intro p e s m args below meth c A Q ls H locs hx hb hml hts hown hK hA hP hD hS hl hret
  have hown : s.vm.findClass RX12 = some m.cls := hown
  have hKv : va_K D vwCl (TY cI cJ cZ cS) s := hK.1
  have hl : lv_has ls 4 [(0, .ref aM), (1, .int x1)] := hl
  have S : CallFix p m c cX12_addInitials 4 s args wsX12_addInitials RX12 := ⟨hx, hb, hml, hown, hts⟩
  have k1 := hts (.fieldLink RX12 7 "CitationFormatterModel" "s" "[I") (by decide +kernel)
  have k2 : ∀ w ∈ wsX120, w ∈ wsX12_addInitials := by decide +kernel
  have k3 := hts (.fieldLink RX12 31 "CitationFormatterModel" "initials" "[Z") (by decide +kernel)
  have k4 := hts (.fieldLink RX12 38 "CitationFormatterModel" "group" "[I") (by decide +kernel)
  have k5 : CallW rm_X12_addInitials s args RX12 RX12 184 yX12_labelsOf cX12_labelsOf 6 (some .int) wsX12_labelsOf rm_X12_labelsOf 0 0 1 := cwV 1 hts gX12_addInitials_X12_labelsOf rfl rfl rfl (by decide +kernel) ⟨Nat.le_of_ble_eq_true rfl, Nat.le_of_ble_eq_true rfl⟩
  have J62 : ∀ (y0_j62 : Int32) (M_in_j62 : Nat → Int32), (m_X12_addInitials_J62 x1 y0_j62 M_s M_in_j62 M_gr = some o) → ∀ (H : Heap) (locs : List Loc) (ls : Array Slot), va_P D vwCl (w_X12_addInitials cI cZ aM aM_s aM_ke aM_te aM_re aM_bo aM_bn aM_sh aM_in aM_su aM_gr aM_tr aM_ou aM_ro M_s M_km M_n M_be M_ma M_so M_sh M_in_j62 M_su M_gr M_om) H → va_D A (w_X12_addInitials cI cZ aM aM_s aM_ke aM_te aM_re aM_bo aM_bn aM_sh aM_in aM_su aM_gr aM_tr aM_ou aM_ro M_s M_km M_n M_be M_ma M_so M_sh M_in_j62 M_su M_gr M_om) → va_S A s.heap H locs → lv_has ls 4 [(0, .ref aM), (1, .int x1)] → W p l e rm_X12_addInitials s m args below meth c H locs 0 0 Q (F0 m 62 ls [.int y0_j62]) := by
    intro y0_j62 M_in_j62 hm H locs ls hP hD hS hl
    refine lv_istore_n (lv' := [(2, .int y0_j62), (0, .ref aM), (1, .int x1)]) hx hb dX12_addInitials_62 rfl hl (by decide) rfl (fun ls hl => ?_)
    refine lv_iconst (v := 0) hx hb dX12_addInitials_63 (by decide) ?_
    refine lv_istore_n (lv' := [(3, .int 0), (2, .int y0_j62), (0, .ref aM), (1, .int x1)]) hx hb dX12_addInitials_64 rfl hl (by decide) rfl (fun ls hl => ?_)
    replace hm := bd_some hm
    obtain ⟨e1, hc1, hm⟩ := hm
    have X1_0 : ∀ (H : Heap) (locs : List Loc) (ls : Array Slot), va_P D vwCl (w_X12_addInitials cI cZ aM aM_s aM_ke aM_te aM_re aM_bo aM_bn aM_sh aM_in aM_su aM_gr aM_tr aM_ou aM_ro M_s M_km M_n M_be M_ma M_so M_sh e1 M_su M_gr M_om) H → va_D A (w_X12_addInitials cI cZ aM aM_s aM_ke aM_te aM_re aM_bo aM_bn aM_sh aM_in aM_su aM_gr aM_tr aM_ou aM_ro M_s M_km M_n M_be M_ma M_so M_sh e1 M_su M_gr M_om) → va_S A s.heap H locs → lv_has ls 4 [(0, .ref aM)] → W p l e rm_X12_addInitials s m args below meth c H locs 0 0 Q (F0 m 115 ls []) := by
      intro H locs ls hP hD hS hl
      have h9 := Option.some.inj hm
      subst h9
      exact hret H locs _ ls hP hD hS dX12_addInitials_115
    refine it_W (G := fun (st65 : Int32 × (Nat → Int32)) => ∀ (H : Heap) (locs : List Loc) (ls : Array Slot), va_P D vwCl (w_X12_addInitials cI cZ aM aM_s aM_ke aM_te aM_re aM_bo aM_bn aM_sh aM_in aM_su aM_gr aM_tr aM_ou aM_ro M_s M_km M_n M_be M_ma M_so M_sh st65.2 M_su M_gr M_om) H → va_D A (w_X12_addInitials cI cZ aM aM_s aM_ke aM_te aM_re aM_bo aM_bn aM_sh aM_in aM_su aM_gr aM_tr aM_ou aM_ro M_s M_km M_n M_be M_ma M_so M_sh st65.2 M_su M_gr M_om) → va_S A s.heap H locs → lv_has ls 4 [(0, .ref aM), (1, .int x1), (2, .int y0_j62), (3, .int st65.1)] → W p l e rm_X12_addInitials s m args below meth c H locs 0 0 Q (F0 m 65 ls [])) (e := e1) (fun st65 x hm hG hE => ?_) fu _ hc1 H locs ls hP hD hS (lv_sub hl [2, 3, 1, 0] rfl)
    intro H locs ls hP hD hS hl
    have J108 : ∀ (x3_j108 : Int32) (y0_j108 : Int32) (y1_j108 : Int32) (M_in_j108 : Nat → Int32), (m_X12_addInitials_J108 x1 y0_j62 x3_j108 y0_j108 y1_j108 M_in_j108 = some x) → ∀ (H : Heap) (locs : List Loc) (ls : Array Slot), va_P D vwCl (w_X12_addInitials cI cZ aM aM_s aM_ke aM_te aM_re aM_bo aM_bn aM_sh aM_in aM_su aM_gr aM_tr aM_ou aM_ro M_s M_km M_n M_be M_ma M_so M_sh M_in_j108 M_su M_gr M_om) H → va_D A (w_X12_addInitials cI cZ aM aM_s aM_ke aM_te aM_re aM_bo aM_bn aM_sh aM_in aM_su aM_gr aM_tr aM_ou aM_ro M_s M_km M_n M_be M_ma M_so M_sh M_in_j108 M_su M_gr M_om) → va_S A s.heap H locs → lv_has ls 4 [(0, .ref aM), (1, .int x1), (2, .int y0_j62), (3, .int x3_j108)] → W p l e rm_X12_addInitials s m args below meth c H locs 0 0 Q (F0 m 108 ls [.int y0_j108, .int y1_j108, .ref aM_in]) := by
      intro x3_j108 y0_j108 y1_j108 M_in_j108 hm H locs ls hP hD hS hl
      replace hm := ck_some hm
      obtain ⟨h2, hm⟩ := hm
      replace hm := ckb_some hm
      obtain ⟨h3, hm⟩ := hm
      refine va_zast hx hb hKv hP hD hS 3 2 rfl rfl h2 dX12_addInitials_108 (fun H locs hP hD hS => ?_)
      rw [vnar_b h3] at hP hD
      replace hP : va_P D vwCl (w_X12_addInitials cI cZ aM aM_s aM_ke aM_te aM_re aM_bo aM_bn aM_sh aM_in aM_su aM_gr aM_tr aM_ou aM_ro M_s M_km M_n M_be M_ma M_so M_sh (upd M_in_j108 (Int32.toNatClampNeg y1_j108) y0_j108) M_su M_gr M_om) H := hP
      replace hD : va_D A (w_X12_addInitials cI cZ aM aM_s aM_ke aM_te aM_re aM_bo aM_bn aM_sh aM_in aM_su aM_gr aM_tr aM_ou aM_ro M_s M_km M_n M_be M_ma M_so M_sh (upd M_in_j108 (Int32.toNatClampNeg y1_j108) y0_j108) M_su M_gr M_om) := hD
      refine lv_iinc (v := (x3_j108 + 1)) (lv' := [(3, .int (x3_j108 + 1)), (0, .ref aM), (1, .int x1), (2, .int y0_j62)]) hx hb dX12_addInitials_109 hl (k := 3) rfl rfl (by decide) rfl (fun ls hl => ?_)
      refine lv_goto (tgt := 65) hx hb dX12_addInitials_112 (by decide) ?_
      exact hG _ (Option.some.inj hm).symm H locs ls hP hD hS (lv_sub hl [1, 2, 3, 0] rfl)
    have J107 : ∀ (x3_j107 : Int32) (y0_j107 : Int32) (M_in_j107 : Nat → Int32), (m_X12_addInitials_J107 x1 y0_j62 x3_j107 y0_j107 M_in_j107 = some x) → ∀ (H : Heap) (locs : List Loc) (ls : Array Slot), va_P D vwCl (w_X12_addInitials cI cZ aM aM_s aM_ke aM_te aM_re aM_bo aM_bn aM_sh aM_in aM_su aM_gr aM_tr aM_ou aM_ro M_s M_km M_n M_be M_ma M_so M_sh M_in_j107 M_su M_gr M_om) H → va_D A (w_X12_addInitials cI cZ aM aM_s aM_ke aM_te aM_re aM_bo aM_bn aM_sh aM_in aM_su aM_gr aM_tr aM_ou aM_ro M_s M_km M_n M_be M_ma M_so M_sh M_in_j107 M_su M_gr M_om) → va_S A s.heap H locs → lv_has ls 4 [(0, .ref aM), (1, .int x1), (2, .int y0_j62), (3, .int x3_j107)] → W p l e rm_X12_addInitials s m args below meth c H locs 0 0 Q (F0 m 107 ls [.int y0_j107, .ref aM_in]) := by
      intro x3_j107 y0_j107 M_in_j107 hm H locs ls hP hD hS hl
      refine lv_iconst (v := 0) hx hb dX12_addInitials_107 (by decide) ?_
      exact J108 x3_j107 0 y0_j107 M_in_j107 hm H locs ls hP hD hS (lv_sub hl [0, 1, 2, 3] rfl)
    have J103 : ∀ (x3_j103 : Int32) (y0_j103 : Int32) (M_in_j103 : Nat → Int32), (m_X12_addInitials_J103 x1 y0_j62 x3_j103 y0_j103 M_in_j103 = some x) → ∀ (H : Heap) (locs : List Loc) (ls : Array Slot), va_P D vwCl (w_X12_addInitials cI cZ aM aM_s aM_ke aM_te aM_re aM_bo aM_bn aM_sh aM_in aM_su aM_gr aM_tr aM_ou aM_ro M_s M_km M_n M_be M_ma M_so M_sh M_in_j103 M_su M_gr M_om) H → va_D A (w_X12_addInitials cI cZ aM aM_s aM_ke aM_te aM_re aM_bo aM_bn aM_sh aM_in aM_su aM_gr aM_tr aM_ou aM_ro M_s M_km M_n M_be M_ma M_so M_sh M_in_j103 M_su M_gr M_om) → va_S A s.heap H locs → lv_has ls 4 [(0, .ref aM), (1, .int x1), (2, .int y0_j62), (3, .int x3_j103)] → W p l e rm_X12_addInitials s m args below meth c H locs 0 0 Q (F0 m 103 ls [.int y0_j103, .ref aM_in]) := by
      intro x3_j103 y0_j103 M_in_j103 hm H locs ls hP hD hS hl
      refine lv_iconst (v := 1) hx hb dX12_addInitials_103 (by decide) ?_
      refine lv_goto (tgt := 108) hx hb dX12_addInitials_104 (by decide) ?_
      exact J108 x3_j103 1 y0_j103 M_in_j103 hm H locs ls hP hD hS (lv_sub hl [0, 1, 2, 3] rfl)
    refine lv_iload_n hx hb dX12_addInitials_65 rfl (lv_at hl 3 rfl) ?_
    refine lv_aload_n hx hb dX12_addInitials_66 rfl (lv_at hl 0 rfl) ?_
    refine va_get (D := D) (ci := 12) (v := .ref aM_s) (C := RX12) (T := TX12) (N := 19) hx hb hts k2 hown hKv hP 0 rfl rfl 0 (by decide) k1 (fun _ h9 => h9) rfl dX12_addInitials_67 ?_
    refine lv_iconst (v := 0) hx hb dX12_addInitials_70 (by decide) ?_
    replace hm := ck_some hm
    obtain ⟨h4, hm⟩ := hm
    refine va_iald hx hb hKv hP 1 0 rfl rfl h4 dX12_addInitials_71 ?_
    refine lv_icmp_ge (tgt := 115) hx hb dX12_addInitials_72 (by decide) (fun c5 => ?_) (fun c5 => ?_)
    · replace hm := if_t c5 hm
      have h9 := hE _ (Option.some.inj hm).symm
      subst h9
      exact X1_0 H locs ls hP hD hS (lv_sub hl [0] rfl)
    · replace hm := if_f c5 hm
      refine lv_aload_n hx hb dX12_addInitials_75 rfl (lv_at hl 0 rfl) ?_
      refine va_get (D := D) (ci := 12) (v := .ref aM_in) (C := RX12) (T := TX12) (N := 19) hx hb hts k2 hown hKv hP 0 rfl rfl 12 (by decide) k3 (fun _ h9 => h9) rfl dX12_addInitials_76 ?_
      refine lv_iload_n hx hb dX12_addInitials_79 rfl (lv_at hl 3 rfl) ?_
      refine lv_aload_n hx hb dX12_addInitials_80 rfl (lv_at hl 0 rfl) ?_
      refine va_get (D := D) (ci := 12) (v := .ref aM_in) (C := RX12) (T := TX12) (N := 19) hx hb hts k2 hown hKv hP 0 rfl rfl 12 (by decide) k3 (fun _ h9 => h9) rfl dX12_addInitials_81 ?_
      refine lv_iload_n hx hb dX12_addInitials_84 rfl (lv_at hl 3 rfl) ?_
      replace hm := ck_some hm
      obtain ⟨h6, hm⟩ := hm
      refine va_zald hx hb hKv hP 3 2 rfl rfl h6 dX12_addInitials_85 ?_
      refine lv_if_eq (tgt := 107) hx hb dX12_addInitials_86 (by decide) (fun c7 => ?_) (fun c7 => ?_)
      · replace hm := if_t c7 hm
        exact J107 st65.1 st65.1 st65.2 hm H locs ls hP hD hS (lv_sub hl [0, 1, 2, 3] rfl)
      · replace hm := if_f c7 hm
        refine lv_aload_n hx hb dX12_addInitials_89 rfl (lv_at hl 0 rfl) ?_
        refine va_get (D := D) (ci := 12) (v := .ref aM_gr) (C := RX12) (T := TX12) (N := 19) hx hb hts k2 hown hKv hP 0 rfl rfl 14 (by decide) k4 (fun _ h9 => h9) rfl dX12_addInitials_90 ?_
        refine lv_iload_n hx hb dX12_addInitials_93 rfl (lv_at hl 3 rfl) ?_
        replace hm := ck_some hm
        obtain ⟨h8, hm⟩ := hm
        refine va_iald hx hb hKv hP 5 0 rfl rfl h8 dX12_addInitials_94 ?_
        refine lv_iload_n hx hb dX12_addInitials_95 rfl (lv_at hl 1 rfl) ?_
        refine lv_icmp_ne (tgt := 103) hx hb dX12_addInitials_96 (by decide) (fun c9 => ?_) (fun c9 => ?_)
        · replace hm := if_f c9 hm
          exact J103 st65.1 st65.1 st65.2 hm H locs ls hP hD hS (lv_sub hl [0, 1, 2, 3] rfl)
        · replace hm := if_t c9 hm
          refine lv_iload_n hx hb dX12_addInitials_99 rfl (lv_at hl 2 rfl) ?_
          refine lv_if_eq (tgt := 107) hx hb dX12_addInitials_100 (by decide) (fun c10 => ?_) (fun c10 => ?_)
          · replace hm := if_t c10 hm
            exact J107 st65.1 st65.1 st65.2 hm H locs ls hP hD hS (lv_sub hl [0, 1, 2, 3] rfl)
          · replace hm := if_f c10 hm
            exact J103 st65.1 st65.1 st65.2 hm H locs ls hP hD hS (lv_sub hl [0, 1, 2, 3] rfl)
  refine lv_iconst (v := 0) hx hb dX12_addInitials_0 (by decide) ?_
  refine lv_istore_n (lv' := [(2, .int 0), (0, .ref aM), (1, .int x1)]) hx hb dX12_addInitials_1 rfl hl (by decide) rfl (fun ls hl => ?_)
  replace hm := bd_some hm
  obtain ⟨e11, hc11, hm⟩ := hm
  have X11_0 : ∀ (H : Heap) (locs : List Loc) (ls : Array Slot), va_P D vwCl (w_X12_addInitials cI cZ aM aM_s aM_ke aM_te aM_re aM_bo aM_bn aM_sh aM_in aM_su aM_gr aM_tr aM_ou aM_ro M_s M_km M_n M_be M_ma M_so M_sh e11 M_su M_gr M_om) H → va_D A (w_X12_addInitials cI cZ aM aM_s aM_ke aM_te aM_re aM_bo aM_bn aM_sh aM_in aM_su aM_gr aM_tr aM_ou aM_ro M_s M_km M_n M_be M_ma M_so M_sh e11 M_su M_gr M_om) → va_S A s.heap H locs → lv_has ls 4 [(0, .ref aM), (1, .int x1)] → W p l e rm_X12_addInitials s m args below meth c H locs 0 0 Q (F0 m 48 ls []) := by
    intro H locs ls hP hD hS hl
    refine lv_aload_n hx hb dX12_addInitials_48 rfl (lv_at hl 0 rfl) ?_
    refine lv_iload_n hx hb dX12_addInitials_49 rfl (lv_at hl 1 rfl) ?_
    replace hm := bd_some hm
    obtain ⟨e12, hc12, hm⟩ := hm
    refine kV_i (rest := []) (ws' := (w_X12_addInitials cI cZ aM aM_s aM_ke aM_te aM_re aM_bo aM_bn aM_sh aM_in aM_su aM_gr aM_tr aM_ou aM_ro M_s M_km M_n M_be M_ma M_so M_sh e11 M_su M_gr M_om)) S (c_X12_labelsOf l D cI cJ cZ cS aM aM_s aM_ke aM_te aM_re aM_bo aM_bn aM_sh aM_in aM_su aM_gr aM_tr aM_ou aM_ro M_s M_km M_n M_be M_ma M_so M_sh e11 M_su M_gr M_om x1 e12 hc12) k5 hK hP hD hS hA 0 rfl rfl rfl rfl hl.1 rfl (Nat.le_of_ble_eq_true rfl) ⟨Nat.zero_le _, Nat.zero_le _⟩ dX12_addInitials_50 [0, 1, 2, 3, 4, 5] rfl rfl wa_X12_labelsOf (sa_eq [] [] 6 rfl rfl rfl rfl rfl rfl rfl) (fun H locs hP hD hS => ?_)
    refine lv_iconst (v := 1) hx hb dX12_addInitials_53 (by decide) ?_
    refine lv_icmp_le (tgt := 61) hx hb dX12_addInitials_54 (by decide) (fun c13 => ?_) (fun c13 => ?_)
    · replace hm := if_t c13 hm
      refine lv_iconst (v := 0) hx hb dX12_addInitials_61 (by decide) ?_
      exact J62 0 e11 hm H locs ls hP hD hS (lv_sub hl [0, 1] rfl)
    · replace hm := if_f c13 hm
      refine lv_iconst (v := 1) hx hb dX12_addInitials_57 (by decide) ?_
      refine lv_goto (tgt := 62) hx hb dX12_addInitials_58 (by decide) ?_
      exact J62 1 e11 hm H locs ls hP hD hS (lv_sub hl [0, 1] rfl)
  refine it_W (G := fun (st2 : Int32 × (Nat → Int32)) => ∀ (H : Heap) (locs : List Loc) (ls : Array Slot), va_P D vwCl (w_X12_addInitials cI cZ aM aM_s aM_ke aM_te aM_re aM_bo aM_bn aM_sh aM_in aM_su aM_gr aM_tr aM_ou aM_ro M_s M_km M_n M_be M_ma M_so M_sh st2.2 M_su M_gr M_om) H → va_D A (w_X12_addInitials cI cZ aM aM_s aM_ke aM_te aM_re aM_bo aM_bn aM_sh aM_in aM_su aM_gr aM_tr aM_ou aM_ro M_s M_km M_n M_be M_ma M_so M_sh st2.2 M_su M_gr M_om) → va_S A s.heap H locs → lv_has ls 4 [(0, .ref aM), (1, .int x1), (2, .int st2.1)] → W p l e rm_X12_addInitials s m args below meth c H locs 0 0 Q (F0 m 2 ls [])) (e := e11) (fun st2 x hm hG hE => ?_) fu _ hc11 H locs ls hP hD hS (lv_sub hl [1, 2, 0] rfl)
  intro H locs ls hP hD hS hl
  have J41 : ∀ (x2_j41 : Int32) (y0_j41 : Int32) (y1_j41 : Int32) (M_in_j41 : Nat → Int32), (m_X12_addInitials_J41 x1 x2_j41 y0_j41 y1_j41 M_in_j41 = some x) → ∀ (H : Heap) (locs : List Loc) (ls : Array Slot), va_P D vwCl (w_X12_addInitials cI cZ aM aM_s aM_ke aM_te aM_re aM_bo aM_bn aM_sh aM_in aM_su aM_gr aM_tr aM_ou aM_ro M_s M_km M_n M_be M_ma M_so M_sh M_in_j41 M_su M_gr M_om) H → va_D A (w_X12_addInitials cI cZ aM aM_s aM_ke aM_te aM_re aM_bo aM_bn aM_sh aM_in aM_su aM_gr aM_tr aM_ou aM_ro M_s M_km M_n M_be M_ma M_so M_sh M_in_j41 M_su M_gr M_om) → va_S A s.heap H locs → lv_has ls 4 [(0, .ref aM), (1, .int x1), (2, .int x2_j41)] → W p l e rm_X12_addInitials s m args below meth c H locs 0 0 Q (F0 m 41 ls [.int y0_j41, .int y1_j41, .ref aM_in]) := by
    intro x2_j41 y0_j41 y1_j41 M_in_j41 hm H locs ls hP hD hS hl
    replace hm := ck_some hm
    obtain ⟨h14, hm⟩ := hm
    replace hm := ckb_some hm
    obtain ⟨h15, hm⟩ := hm
    refine va_zast hx hb hKv hP hD hS 3 2 rfl rfl h14 dX12_addInitials_41 (fun H locs hP hD hS => ?_)
    rw [vnar_b h15] at hP hD
    replace hP : va_P D vwCl (w_X12_addInitials cI cZ aM aM_s aM_ke aM_te aM_re aM_bo aM_bn aM_sh aM_in aM_su aM_gr aM_tr aM_ou aM_ro M_s M_km M_n M_be M_ma M_so M_sh (upd M_in_j41 (Int32.toNatClampNeg y1_j41) y0_j41) M_su M_gr M_om) H := hP
    replace hD : va_D A (w_X12_addInitials cI cZ aM aM_s aM_ke aM_te aM_re aM_bo aM_bn aM_sh aM_in aM_su aM_gr aM_tr aM_ou aM_ro M_s M_km M_n M_be M_ma M_so M_sh (upd M_in_j41 (Int32.toNatClampNeg y1_j41) y0_j41) M_su M_gr M_om) := hD
    refine lv_iinc (v := (x2_j41 + 1)) (lv' := [(2, .int (x2_j41 + 1)), (0, .ref aM), (1, .int x1)]) hx hb dX12_addInitials_42 hl (k := 2) rfl rfl (by decide) rfl (fun ls hl => ?_)
    refine lv_goto (tgt := 2) hx hb dX12_addInitials_45 (by decide) ?_
    exact hG _ (Option.some.inj hm).symm H locs ls hP hD hS (lv_sub hl [1, 2, 0] rfl)
  have J36 : ∀ (x2_j36 : Int32) (y0_j36 : Int32) (M_in_j36 : Nat → Int32), (m_X12_addInitials_J36 x1 x2_j36 y0_j36 M_in_j36 = some x) → ∀ (H : Heap) (locs : List Loc) (ls : Array Slot), va_P D vwCl (w_X12_addInitials cI cZ aM aM_s aM_ke aM_te aM_re aM_bo aM_bn aM_sh aM_in aM_su aM_gr aM_tr aM_ou aM_ro M_s M_km M_n M_be M_ma M_so M_sh M_in_j36 M_su M_gr M_om) H → va_D A (w_X12_addInitials cI cZ aM aM_s aM_ke aM_te aM_re aM_bo aM_bn aM_sh aM_in aM_su aM_gr aM_tr aM_ou aM_ro M_s M_km M_n M_be M_ma M_so M_sh M_in_j36 M_su M_gr M_om) → va_S A s.heap H locs → lv_has ls 4 [(0, .ref aM), (1, .int x1), (2, .int x2_j36)] → W p l e rm_X12_addInitials s m args below meth c H locs 0 0 Q (F0 m 36 ls [.int y0_j36, .ref aM_in]) := by
    intro x2_j36 y0_j36 M_in_j36 hm H locs ls hP hD hS hl
    refine lv_iconst (v := 1) hx hb dX12_addInitials_36 (by decide) ?_
    refine lv_goto (tgt := 41) hx hb dX12_addInitials_37 (by decide) ?_
    exact J41 x2_j36 1 y0_j36 M_in_j36 hm H locs ls hP hD hS (lv_sub hl [0, 1, 2] rfl)
  refine lv_iload_n hx hb dX12_addInitials_2 rfl (lv_at hl 2 rfl) ?_
  refine lv_aload_n hx hb dX12_addInitials_3 rfl (lv_at hl 0 rfl) ?_
  refine va_get (D := D) (ci := 12) (v := .ref aM_s) (C := RX12) (T := TX12) (N := 19) hx hb hts k2 hown hKv hP 0 rfl rfl 0 (by decide) k1 (fun _ h9 => h9) rfl dX12_addInitials_4 ?_
  refine lv_iconst (v := 0) hx hb dX12_addInitials_7 (by decide) ?_
  replace hm := ck_some hm
  obtain ⟨h16, hm⟩ := hm
  refine va_iald hx hb hKv hP 1 0 rfl rfl h16 dX12_addInitials_8 ?_
  refine lv_icmp_ge (tgt := 48) hx hb dX12_addInitials_9 (by decide) (fun c17 => ?_) (fun c17 => ?_)
  · replace hm := if_t c17 hm
    have h9 := hE _ (Option.some.inj hm).symm
    subst h9
    exact X11_0 H locs ls hP hD hS (lv_sub hl [0, 1] rfl)
  · replace hm := if_f c17 hm
    refine lv_aload_n hx hb dX12_addInitials_12 rfl (lv_at hl 0 rfl) ?_
    refine va_get (D := D) (ci := 12) (v := .ref aM_in) (C := RX12) (T := TX12) (N := 19) hx hb hts k2 hown hKv hP 0 rfl rfl 12 (by decide) k3 (fun _ h9 => h9) rfl dX12_addInitials_13 ?_
    refine lv_iload_n hx hb dX12_addInitials_16 rfl (lv_at hl 2 rfl) ?_
    refine lv_aload_n hx hb dX12_addInitials_17 rfl (lv_at hl 0 rfl) ?_
    refine va_get (D := D) (ci := 12) (v := .ref aM_in) (C := RX12) (T := TX12) (N := 19) hx hb hts k2 hown hKv hP 0 rfl rfl 12 (by decide) k3 (fun _ h9 => h9) rfl dX12_addInitials_18 ?_
    refine lv_iload_n hx hb dX12_addInitials_21 rfl (lv_at hl 2 rfl) ?_
    replace hm := ck_some hm
    obtain ⟨h18, hm⟩ := hm
    refine va_zald hx hb hKv hP 3 2 rfl rfl h18 dX12_addInitials_22 ?_
    refine lv_if_ne (tgt := 36) hx hb dX12_addInitials_23 (by decide) (fun c19 => ?_) (fun c19 => ?_)
    · replace hm := if_f c19 hm
      exact J36 st2.1 st2.1 st2.2 hm H locs ls hP hD hS (lv_sub hl [0, 1, 2] rfl)
    · replace hm := if_t c19 hm
      refine lv_aload_n hx hb dX12_addInitials_26 rfl (lv_at hl 0 rfl) ?_
      refine va_get (D := D) (ci := 12) (v := .ref aM_gr) (C := RX12) (T := TX12) (N := 19) hx hb hts k2 hown hKv hP 0 rfl rfl 14 (by decide) k4 (fun _ h9 => h9) rfl dX12_addInitials_27 ?_
      refine lv_iload_n hx hb dX12_addInitials_30 rfl (lv_at hl 2 rfl) ?_
      replace hm := ck_some hm
      obtain ⟨h20, hm⟩ := hm
      refine va_iald hx hb hKv hP 5 0 rfl rfl h20 dX12_addInitials_31 ?_
      refine lv_iload_n hx hb dX12_addInitials_32 rfl (lv_at hl 1 rfl) ?_
      refine lv_icmp_ne (tgt := 40) hx hb dX12_addInitials_33 (by decide) (fun c21 => ?_) (fun c21 => ?_)
      · replace hm := if_f c21 hm
        refine lv_iconst (v := 0) hx hb dX12_addInitials_40 (by decide) ?_
        exact J41 st2.1 0 st2.1 st2.2 hm H locs ls hP hD hS (lv_sub hl [0, 1, 2] rfl)
      · replace hm := if_t c21 hm
        exact J36 st2.1 st2.1 st2.2 hm H locs ls hP hD hS (lv_sub hl [0, 1, 2] rfl)
set_option maxHeartbeats 4000000 in
set_option maxRecDepth 100000 in
theorem c_X12_showAtLeast (l : Launch) (D : va_G) (cI cJ cZ cS : ClassId) (aM aM_s aM_ke aM_te aM_re aM_bo aM_bn aM_sh aM_in aM_su aM_gr aM_tr aM_ou aM_ro : Nat) (M_s : Nat → Int32) (M_km : Int32) (M_n : Int32) (M_be : Int32) (M_ma : Int32) (M_so : Int32) (M_sh : Nat → Int32) (M_gr : Nat → Int32) (M_tr : Nat → Int32) (M_om : Int32) (x1 : Int32) (x2 : Int32) (o : (Nat → Int32)) (hm : m_X12_showAtLeast M_s M_sh M_gr M_tr x1 x2 = some o) : MV l yX12_showAtLeast wsX12_showAtLeast rm_X12_showAtLeast D (TY cI cJ cZ cS) [.ref aM, .int x1, .int x2] (w_X12_showAtLeast cI aM aM_s aM_ke aM_te aM_re aM_bo aM_bn aM_sh aM_in aM_su aM_gr aM_tr aM_ou aM_ro M_s M_km M_n M_be M_ma M_so M_sh M_gr M_tr M_om) (w_X12_showAtLeast cI aM aM_s aM_ke aM_te aM_re aM_bo aM_bn aM_sh aM_in aM_su aM_gr aM_tr aM_ou aM_ro M_s M_km M_n M_be M_ma M_so o M_gr M_tr M_om) := by
  refine MV_of (cc := cX12_showAtLeast) (maxL := 5) (by decide) rfl (Nat.le_of_ble_eq_true rfl) ?_
  intro p e s m args below meth c A Q ls H locs hx hb hml hts hown hK hA hP hD hS hl hret
  have hown : s.vm.findClass RX12 = some m.cls := hown
  have hKv : va_K D vwCl (TY cI cJ cZ cS) s := hK.1
  have hl : lv_has ls 5 [(0, .ref aM), (1, .int x1), (2, .int x2)] := hl
  have S : CallFix p m c cX12_showAtLeast 5 s args wsX12_showAtLeast RX12 := ⟨hx, hb, hml, hown, hts⟩
  have k1 := hts (.fieldLink RX12 28 "CitationFormatterModel" "shown" "[I") (by decide +kernel)
  have k2 : ∀ w ∈ wsX120, w ∈ wsX12_showAtLeast := by decide +kernel
  have k3 := hts (.fieldLink RX12 41 "CitationFormatterModel" "tried" "[I") (by decide +kernel)
  have k4 := hts (.fieldLink RX12 7 "CitationFormatterModel" "s" "[I") (by decide +kernel)
  have k5 := hts (.fieldLink RX12 38 "CitationFormatterModel" "group" "[I") (by decide +kernel)
  have k6 : CallW rm_X12_showAtLeast s args RX12 RX12 146 yX12_authors cX12_authors 2 (some .int) wsX12_authors rm_X12_authors 0 0 1 := cwV 1 hts gX12_showAtLeast_X12_authors rfl rfl rfl (by decide +kernel) ⟨Nat.le_of_ble_eq_true rfl, Nat.le_of_ble_eq_true rfl⟩
  refine lv_iconst (v := 0) hx hb dX12_showAtLeast_0 (by decide) ?_
  refine lv_istore_n (lv' := [(3, .int 0), (0, .ref aM), (1, .int x1), (2, .int x2)]) hx hb dX12_showAtLeast_1 rfl hl (by decide) rfl (fun ls hl => ?_)
  replace hm := bd_some hm
  obtain ⟨e1, hc1, hm⟩ := hm
  have X1_0 : ∀ (H : Heap) (locs : List Loc) (ls : Array Slot), va_P D vwCl (w_X12_showAtLeast cI aM aM_s aM_ke aM_te aM_re aM_bo aM_bn aM_sh aM_in aM_su aM_gr aM_tr aM_ou aM_ro M_s M_km M_n M_be M_ma M_so e1 M_gr M_tr M_om) H → va_D A (w_X12_showAtLeast cI aM aM_s aM_ke aM_te aM_re aM_bo aM_bn aM_sh aM_in aM_su aM_gr aM_tr aM_ou aM_ro M_s M_km M_n M_be M_ma M_so e1 M_gr M_tr M_om) → va_S A s.heap H locs → lv_has ls 5 [(0, .ref aM)] → W p l e rm_X12_showAtLeast s m args below meth c H locs 0 0 Q (F0 m 76 ls []) := by
    intro H locs ls hP hD hS hl
    have h9 := Option.some.inj hm
    subst h9
    exact hret H locs _ ls hP hD hS dX12_showAtLeast_76
  refine it_W (G := fun (st2 : Int32 × (Nat → Int32)) => ∀ (H : Heap) (locs : List Loc) (ls : Array Slot), va_P D vwCl (w_X12_showAtLeast cI aM aM_s aM_ke aM_te aM_re aM_bo aM_bn aM_sh aM_in aM_su aM_gr aM_tr aM_ou aM_ro M_s M_km M_n M_be M_ma M_so st2.2 M_gr M_tr M_om) H → va_D A (w_X12_showAtLeast cI aM aM_s aM_ke aM_te aM_re aM_bo aM_bn aM_sh aM_in aM_su aM_gr aM_tr aM_ou aM_ro M_s M_km M_n M_be M_ma M_so st2.2 M_gr M_tr M_om) → va_S A s.heap H locs → lv_has ls 5 [(0, .ref aM), (1, .int x1), (2, .int x2), (3, .int st2.1)] → W p l e rm_X12_showAtLeast s m args below meth c H locs 0 0 Q (F0 m 2 ls [])) (e := e1) (fun st2 x hm hG hE => ?_) fu _ hc1 H locs ls hP hD hS (lv_sub hl [1, 2, 3, 0] rfl)
  intro H locs ls hP hD hS hl
  have J70 : ∀ (x3_j70 : Int32) (M_sh_j70 : Nat → Int32), (m_X12_showAtLeast_J70 x1 x2 x3_j70 M_sh_j70 = some x) → ∀ (H : Heap) (locs : List Loc) (ls : Array Slot), va_P D vwCl (w_X12_showAtLeast cI aM aM_s aM_ke aM_te aM_re aM_bo aM_bn aM_sh aM_in aM_su aM_gr aM_tr aM_ou aM_ro M_s M_km M_n M_be M_ma M_so M_sh_j70 M_gr M_tr M_om) H → va_D A (w_X12_showAtLeast cI aM aM_s aM_ke aM_te aM_re aM_bo aM_bn aM_sh aM_in aM_su aM_gr aM_tr aM_ou aM_ro M_s M_km M_n M_be M_ma M_so M_sh_j70 M_gr M_tr M_om) → va_S A s.heap H locs → lv_has ls 5 [(0, .ref aM), (1, .int x1), (2, .int x2), (3, .int x3_j70)] → W p l e rm_X12_showAtLeast s m args below meth c H locs 0 0 Q (F0 m 70 ls []) := by
    intro x3_j70 M_sh_j70 hm H locs ls hP hD hS hl
    refine lv_iinc (v := (x3_j70 + 1)) (lv' := [(3, .int (x3_j70 + 1)), (0, .ref aM), (1, .int x1), (2, .int x2)]) hx hb dX12_showAtLeast_70 hl (k := 3) rfl rfl (by decide) rfl (fun ls hl => ?_)
    refine lv_goto (tgt := 2) hx hb dX12_showAtLeast_73 (by decide) ?_
    exact hG _ (Option.some.inj hm).symm H locs ls hP hD hS (lv_sub hl [1, 2, 3, 0] rfl)
  have J69 : ∀ (x3_j69 : Int32) (y0_j69 : Int32) (y1_j69 : Int32) (M_sh_j69 : Nat → Int32), (m_X12_showAtLeast_J69 x1 x2 x3_j69 y0_j69 y1_j69 M_sh_j69 = some x) → ∀ (H : Heap) (locs : List Loc) (ls : Array Slot), va_P D vwCl (w_X12_showAtLeast cI aM aM_s aM_ke aM_te aM_re aM_bo aM_bn aM_sh aM_in aM_su aM_gr aM_tr aM_ou aM_ro M_s M_km M_n M_be M_ma M_so M_sh_j69 M_gr M_tr M_om) H → va_D A (w_X12_showAtLeast cI aM aM_s aM_ke aM_te aM_re aM_bo aM_bn aM_sh aM_in aM_su aM_gr aM_tr aM_ou aM_ro M_s M_km M_n M_be M_ma M_so M_sh_j69 M_gr M_tr M_om) → va_S A s.heap H locs → lv_has ls 5 [(0, .ref aM), (1, .int x1), (2, .int x2), (3, .int x3_j69)] → W p l e rm_X12_showAtLeast s m args below meth c H locs 0 0 Q (F0 m 69 ls [.int y0_j69, .int y1_j69, .ref aM_sh]) := by
    intro x3_j69 y0_j69 y1_j69 M_sh_j69 hm H locs ls hP hD hS hl
    replace hm := ck_some hm
    obtain ⟨h2, hm⟩ := hm
    refine va_iast hx hb hKv hP hD hS 2 0 rfl rfl h2 dX12_showAtLeast_69 (fun H locs hP hD hS => ?_)
    replace hP : va_P D vwCl (w_X12_showAtLeast cI aM aM_s aM_ke aM_te aM_re aM_bo aM_bn aM_sh aM_in aM_su aM_gr aM_tr aM_ou aM_ro M_s M_km M_n M_be M_ma M_so (upd M_sh_j69 (Int32.toNatClampNeg y1_j69) y0_j69) M_gr M_tr M_om) H := hP
    replace hD : va_D A (w_X12_showAtLeast cI aM aM_s aM_ke aM_te aM_re aM_bo aM_bn aM_sh aM_in aM_su aM_gr aM_tr aM_ou aM_ro M_s M_km M_n M_be M_ma M_so (upd M_sh_j69 (Int32.toNatClampNeg y1_j69) y0_j69) M_gr M_tr M_om) := hD
    exact J70 x3_j69 (upd M_sh_j69 (Int32.toNatClampNeg y1_j69) y0_j69) hm H locs ls hP hD hS (lv_sub hl [0, 1, 2, 3] rfl)
  have J40 : ∀ (x3_j40 : Int32) (y0_j40 : Int32) (M_sh_j40 : Nat → Int32), (m_X12_showAtLeast_J40 x1 x2 x3_j40 y0_j40 M_sh_j40 M_tr = some x) → ∀ (H : Heap) (locs : List Loc) (ls : Array Slot), va_P D vwCl (w_X12_showAtLeast cI aM aM_s aM_ke aM_te aM_re aM_bo aM_bn aM_sh aM_in aM_su aM_gr aM_tr aM_ou aM_ro M_s M_km M_n M_be M_ma M_so M_sh_j40 M_gr M_tr M_om) H → va_D A (w_X12_showAtLeast cI aM aM_s aM_ke aM_te aM_re aM_bo aM_bn aM_sh aM_in aM_su aM_gr aM_tr aM_ou aM_ro M_s M_km M_n M_be M_ma M_so M_sh_j40 M_gr M_tr M_om) → va_S A s.heap H locs → lv_has ls 5 [(0, .ref aM), (1, .int x1), (2, .int x2), (3, .int x3_j40)] → W p l e rm_X12_showAtLeast s m args below meth c H locs 0 0 Q (F0 m 40 ls [.int y0_j40]) := by
    intro x3_j40 y0_j40 M_sh_j40 hm H locs ls hP hD hS hl
    refine lv_istore (lv' := [(4, .int y0_j40), (0, .ref aM), (1, .int x1), (2, .int x2), (3, .int x3_j40)]) hx hb dX12_showAtLeast_40 hl (by decide) rfl (fun ls hl => ?_)
    refine lv_aload_n hx hb dX12_showAtLeast_42 rfl (lv_at hl 1 rfl) ?_
    refine va_get (D := D) (ci := 12) (v := .ref aM_sh) (C := RX12) (T := TX12) (N := 19) hx hb hts k2 hown hKv hP 0 rfl rfl 11 (by decide) k1 (fun _ h9 => h9) rfl dX12_showAtLeast_43 ?_
    refine lv_iload_n hx hb dX12_showAtLeast_46 rfl (lv_at hl 4 rfl) ?_
    refine lv_aload_n hx hb dX12_showAtLeast_47 rfl (lv_at hl 1 rfl) ?_
    refine va_get (D := D) (ci := 12) (v := .ref aM_tr) (C := RX12) (T := TX12) (N := 19) hx hb hts k2 hown hKv hP 0 rfl rfl 15 (by decide) k3 (fun _ h9 => h9) rfl dX12_showAtLeast_48 ?_
    refine lv_iload_n hx hb dX12_showAtLeast_51 rfl (lv_at hl 4 rfl) ?_
    replace hm := ck_some hm
    obtain ⟨h3, hm⟩ := hm
    refine va_iald hx hb hKv hP 4 0 rfl rfl h3 dX12_showAtLeast_52 ?_
    refine lv_iload hx hb dX12_showAtLeast_53 (lv_at hl 0 rfl) ?_
    refine lv_icmp_le (tgt := 67) hx hb dX12_showAtLeast_55 (by decide) (fun c4 => ?_) (fun c4 => ?_)
    · replace hm := if_t c4 hm
      refine lv_iload hx hb dX12_showAtLeast_67 (lv_at hl 0 rfl) ?_
      exact J69 x3_j40 y0_j40 x3_j40 M_sh_j40 hm H locs ls hP hD hS (lv_sub hl [1, 2, 3, 4] rfl)
    · replace hm := if_f c4 hm
      refine lv_aload_n hx hb dX12_showAtLeast_58 rfl (lv_at hl 1 rfl) ?_
      refine va_get (D := D) (ci := 12) (v := .ref aM_tr) (C := RX12) (T := TX12) (N := 19) hx hb hts k2 hown hKv hP 0 rfl rfl 15 (by decide) k3 (fun _ h9 => h9) rfl dX12_showAtLeast_59 ?_
      refine lv_iload_n hx hb dX12_showAtLeast_62 rfl (lv_at hl 4 rfl) ?_
      replace hm := ck_some hm
      obtain ⟨h5, hm⟩ := hm
      refine va_iald hx hb hKv hP 4 0 rfl rfl h5 dX12_showAtLeast_63 ?_
      refine lv_goto (tgt := 69) hx hb dX12_showAtLeast_64 (by decide) ?_
      exact J69 x3_j40 (M_tr (Int32.toNatClampNeg x3_j40)) x3_j40 M_sh_j40 hm H locs ls hP hD hS (lv_sub hl [1, 2, 3, 4] rfl)
  refine lv_iload_n hx hb dX12_showAtLeast_2 rfl (lv_at hl 3 rfl) ?_
  refine lv_aload_n hx hb dX12_showAtLeast_3 rfl (lv_at hl 0 rfl) ?_
  refine va_get (D := D) (ci := 12) (v := .ref aM_s) (C := RX12) (T := TX12) (N := 19) hx hb hts k2 hown hKv hP 0 rfl rfl 0 (by decide) k4 (fun _ h9 => h9) rfl dX12_showAtLeast_4 ?_
  refine lv_iconst (v := 0) hx hb dX12_showAtLeast_7 (by decide) ?_
  replace hm := ck_some hm
  obtain ⟨h6, hm⟩ := hm
  refine va_iald hx hb hKv hP 1 0 rfl rfl h6 dX12_showAtLeast_8 ?_
  refine lv_icmp_ge (tgt := 76) hx hb dX12_showAtLeast_9 (by decide) (fun c7 => ?_) (fun c7 => ?_)
  · replace hm := if_t c7 hm
    have h9 := hE _ (Option.some.inj hm).symm
    subst h9
    exact X1_0 H locs ls hP hD hS (lv_sub hl [0] rfl)
  · replace hm := if_f c7 hm
    refine lv_aload_n hx hb dX12_showAtLeast_12 rfl (lv_at hl 0 rfl) ?_
    refine va_get (D := D) (ci := 12) (v := .ref aM_gr) (C := RX12) (T := TX12) (N := 19) hx hb hts k2 hown hKv hP 0 rfl rfl 14 (by decide) k5 (fun _ h9 => h9) rfl dX12_showAtLeast_13 ?_
    refine lv_iload_n hx hb dX12_showAtLeast_16 rfl (lv_at hl 3 rfl) ?_
    replace hm := ck_some hm
    obtain ⟨h8, hm⟩ := hm
    refine va_iald hx hb hKv hP 3 0 rfl rfl h8 dX12_showAtLeast_17 ?_
    refine lv_iload_n hx hb dX12_showAtLeast_18 rfl (lv_at hl 1 rfl) ?_
    refine lv_icmp_ne (tgt := 70) hx hb dX12_showAtLeast_19 (by decide) (fun c9 => ?_) (fun c9 => ?_)
    · replace hm := if_f c9 hm
      exact J70 st2.1 st2.2 hm H locs ls hP hD hS (lv_sub hl [0, 1, 2, 3] rfl)
    · replace hm := if_t c9 hm
      refine lv_iload_n hx hb dX12_showAtLeast_22 rfl (lv_at hl 2 rfl) ?_
      refine lv_aload_n hx hb dX12_showAtLeast_23 rfl (lv_at hl 0 rfl) ?_
      refine lv_iload_n hx hb dX12_showAtLeast_24 rfl (lv_at hl 3 rfl) ?_
      replace hm := bd_some hm
      obtain ⟨e10, hc10, hm⟩ := hm
      refine kV_i (rest := [.int x2]) (ws' := (w_X12_showAtLeast cI aM aM_s aM_ke aM_te aM_re aM_bo aM_bn aM_sh aM_in aM_su aM_gr aM_tr aM_ou aM_ro M_s M_km M_n M_be M_ma M_so st2.2 M_gr M_tr M_om)) S (c_X12_authors l D cI cJ cZ cS aM aM_s aM_ke aM_te aM_re aM_bo aM_bn aM_sh aM_in aM_su aM_gr aM_tr aM_ou aM_ro M_s M_km M_n M_be M_ma M_so M_om st2.1 e10 hc10) k6 hK hP hD hS hA 0 rfl rfl rfl rfl hl.1 rfl (Nat.le_of_ble_eq_true rfl) ⟨Nat.zero_le _, Nat.zero_le _⟩ dX12_showAtLeast_25 [0, 1] rfl rfl wa_X12_authors (sa_eq [(aM_sh, .inl (cI, 8, .inl st2.2)), (aM_gr, .inl (cI, 8, .inl M_gr)), (aM_tr, .inl (cI, 8, .inl M_tr))] [2, 3, 4] 5 rfl rfl rfl rfl rfl rfl rfl) (fun H locs hP hD hS => ?_)
      refine lv_icmp_ge (tgt := 35) hx hb dX12_showAtLeast_28 (by decide) (fun c11 => ?_) (fun c11 => ?_)
      · replace hm := if_t c11 hm
        refine lv_aload_n hx hb dX12_showAtLeast_35 rfl (lv_at hl 0 rfl) ?_
        refine lv_iload_n hx hb dX12_showAtLeast_36 rfl (lv_at hl 3 rfl) ?_
        replace hm := bd_some hm
        obtain ⟨e12, hc12, hm⟩ := hm
        refine kV_i (rest := []) (ws' := (w_X12_showAtLeast cI aM aM_s aM_ke aM_te aM_re aM_bo aM_bn aM_sh aM_in aM_su aM_gr aM_tr aM_ou aM_ro M_s M_km M_n M_be M_ma M_so st2.2 M_gr M_tr M_om)) S (c_X12_authors l D cI cJ cZ cS aM aM_s aM_ke aM_te aM_re aM_bo aM_bn aM_sh aM_in aM_su aM_gr aM_tr aM_ou aM_ro M_s M_km M_n M_be M_ma M_so M_om st2.1 e12 hc12) k6 hK hP hD hS hA 0 rfl rfl rfl rfl hl.1 rfl (Nat.le_of_ble_eq_true rfl) ⟨Nat.zero_le _, Nat.zero_le _⟩ dX12_showAtLeast_37 [0, 1] rfl rfl wa_X12_authors (sa_eq [(aM_sh, .inl (cI, 8, .inl st2.2)), (aM_gr, .inl (cI, 8, .inl M_gr)), (aM_tr, .inl (cI, 8, .inl M_tr))] [2, 3, 4] 5 rfl rfl rfl rfl rfl rfl rfl) (fun H locs hP hD hS => ?_)
        exact J40 st2.1 e12 st2.2 hm H locs ls hP hD hS (lv_sub hl [0, 1, 2, 3] rfl)
      · replace hm := if_f c11 hm
        refine lv_iload_n hx hb dX12_showAtLeast_31 rfl (lv_at hl 2 rfl) ?_
        refine lv_goto (tgt := 40) hx hb dX12_showAtLeast_32 (by decide) ?_
        exact J40 st2.1 x2 st2.2 hm H locs ls hP hD hS (lv_sub hl [0, 1, 2, 3] rfl)
set_option maxHeartbeats 4000000 in
set_option maxRecDepth 100000 in
theorem c_X12_addNames (l : Launch) (D : va_G) (cI cJ cZ cS : ClassId) (aM aM_s aM_ke aM_te aM_re aM_bo aM_bn aM_sh aM_in aM_su aM_gr aM_tr aM_ou aM_ro : Nat) (M_s : Nat → Int32) (M_km : Int32) (M_n : Int32) (M_be : Int32) (M_ma : Int32) (M_so : Int32) (M_sh : Nat → Int32) (M_in : Nat → Int32) (M_su : Nat → Int32) (M_gr : Nat → Int32) (M_tr : Nat → Int32) (M_om : Int32) (x1 : Int32) (o : (Nat → Int32) × (Nat → Int32)) (hm : m_X12_addNames M_s M_sh M_in M_su M_gr M_tr x1 = some o) : MV l yX12_addNames wsX12_addNames rm_X12_addNames D (TY cI cJ cZ cS) [.ref aM, .int x1] (w_X12_addNames cI cZ aM aM_s aM_ke aM_te aM_re aM_bo aM_bn aM_sh aM_in aM_su aM_gr aM_tr aM_ou aM_ro M_s M_km M_n M_be M_ma M_so M_sh M_in M_su M_gr M_tr M_om) (w_X12_addNames cI cZ aM aM_s aM_ke aM_te aM_re aM_bo aM_bn aM_sh aM_in aM_su aM_gr aM_tr aM_ou aM_ro M_s M_km M_n M_be M_ma M_so o.1 M_in M_su M_gr o.2 M_om) := by
  refine MV_of (cc := cX12_addNames) (maxL := 6) (by decide) rfl (Nat.le_of_ble_eq_true rfl) ?_
  intro p e s m args below meth c A Q ls H locs hx hb hml hts hown hK hA hP hD hS hl hret
  have hown : s.vm.findClass RX12 = some m.cls := hown
  have hKv : va_K D vwCl (TY cI cJ cZ cS) s := hK.1
  have hl : lv_has ls 6 [(0, .ref aM), (1, .int x1)] := hl
  have S : CallFix p m c cX12_addNames 6 s args wsX12_addNames RX12 := ⟨hx, hb, hml, hown, hts⟩
  have k1 := hts (.fieldLink RX12 7 "CitationFormatterModel" "s" "[I") (by decide +kernel)
  have k2 : ∀ w ∈ wsX120, w ∈ wsX12_addNames := by decide +kernel
  have k3 : CallW rm_X12_addNames s args RX12 RX12 180 yX12_showAtLeast cX12_showAtLeast 5 none wsX12_showAtLeast rm_X12_showAtLeast 0 0 2 := cwV 2 hts gX12_addNames_X12_showAtLeast rfl rfl rfl (by decide +kernel) ⟨Nat.le_of_ble_eq_true rfl, Nat.le_of_ble_eq_true rfl⟩
  have k4 : CallW rm_X12_addNames s args RX12 RX12 184 yX12_labelsOf cX12_labelsOf 6 (some .int) wsX12_labelsOf rm_X12_labelsOf 0 0 1 := cwV 1 hts gX12_addNames_X12_labelsOf rfl rfl rfl (by decide +kernel) ⟨Nat.le_of_ble_eq_true rfl, Nat.le_of_ble_eq_true rfl⟩
  have k5 := hts (.fieldLink RX12 41 "CitationFormatterModel" "tried" "[I") (by decide +kernel)
  have k6 := hts (.fieldLink RX12 28 "CitationFormatterModel" "shown" "[I") (by decide +kernel)
  refine lv_iconst (v := 0) hx hb dX12_addNames_0 (by decide) ?_
  refine lv_istore_n (lv' := [(2, .int 0), (0, .ref aM), (1, .int x1)]) hx hb dX12_addNames_1 rfl hl (by decide) rfl (fun ls hl => ?_)
  replace hm := bd_some hm
  obtain ⟨e1, hc1, hm⟩ := hm
  have X1_0 : ∀ (H : Heap) (locs : List Loc) (ls : Array Slot), va_P D vwCl (w_X12_addNames cI cZ aM aM_s aM_ke aM_te aM_re aM_bo aM_bn aM_sh aM_in aM_su aM_gr aM_tr aM_ou aM_ro M_s M_km M_n M_be M_ma M_so M_sh M_in M_su M_gr e1 M_om) H → va_D A (w_X12_addNames cI cZ aM aM_s aM_ke aM_te aM_re aM_bo aM_bn aM_sh aM_in aM_su aM_gr aM_tr aM_ou aM_ro M_s M_km M_n M_be M_ma M_so M_sh M_in M_su M_gr e1 M_om) → va_S A s.heap H locs → lv_has ls 6 [(0, .ref aM), (1, .int x1)] → W p l e rm_X12_addNames s m args below meth c H locs 0 0 Q (F0 m 30 ls []) := by
    intro H locs ls hP hD hS hl
    refine lv_aload_n hx hb dX12_addNames_30 rfl (lv_at hl 0 rfl) ?_
    refine va_get (D := D) (ci := 12) (v := .ref aM_s) (C := RX12) (T := TX12) (N := 19) hx hb hts k2 hown hKv hP 0 rfl rfl 0 (by decide) k1 (fun _ h9 => h9) rfl dX12_addNames_31 ?_
    refine lv_bipush (v := 59) hx hb dX12_addNames_34 (by decide) ?_
    replace hm := ck_some hm
    obtain ⟨h2, hm⟩ := hm
    refine va_iald hx hb hKv hP 1 0 rfl rfl h2 dX12_addNames_36 ?_
    refine lv_istore_n (lv' := [(2, .int (M_s (Int32.toNatClampNeg 59))), (0, .ref aM), (1, .int x1)]) hx hb dX12_addNames_37 rfl hl (by decide) rfl (fun ls hl => ?_)
    refine lv_iconst (v := 0) hx hb dX12_addNames_38 (by decide) ?_
    refine lv_istore_n (lv' := [(3, .int 0), (2, .int (M_s (Int32.toNatClampNeg 59))), (0, .ref aM), (1, .int x1)]) hx hb dX12_addNames_39 rfl hl (by decide) rfl (fun ls hl => ?_)
    refine lv_aload_n hx hb dX12_addNames_40 rfl (lv_at hl 2 rfl) ?_
    refine va_get (D := D) (ci := 12) (v := .ref aM_s) (C := RX12) (T := TX12) (N := 19) hx hb hts k2 hown hKv hP 0 rfl rfl 0 (by decide) k1 (fun _ h9 => h9) rfl dX12_addNames_41 ?_
    refine lv_bipush (v := 59) hx hb dX12_addNames_44 (by decide) ?_
    replace hm := ck_some hm
    obtain ⟨h3, hm⟩ := hm
    refine va_iald hx hb hKv hP 1 0 rfl rfl h3 dX12_addNames_46 ?_
    refine lv_istore (lv' := [(4, .int (M_s (Int32.toNatClampNeg 59))), (3, .int 0), (2, .int (M_s (Int32.toNatClampNeg 59))), (0, .ref aM), (1, .int x1)]) hx hb dX12_addNames_47 hl (by decide) rfl (fun ls hl => ?_)
    replace hm := bd_some hm
    obtain ⟨e4, hc4, hm⟩ := hm
    have X4_0 : ∀ (H : Heap) (locs : List Loc) (ls : Array Slot), va_P D vwCl (w_X12_addNames cI cZ aM aM_s aM_ke aM_te aM_re aM_bo aM_bn aM_sh aM_in aM_su aM_gr aM_tr aM_ou aM_ro M_s M_km M_n M_be M_ma M_so e4.2 M_in M_su M_gr e1 M_om) H → va_D A (w_X12_addNames cI cZ aM aM_s aM_ke aM_te aM_re aM_bo aM_bn aM_sh aM_in aM_su aM_gr aM_tr aM_ou aM_ro M_s M_km M_n M_be M_ma M_so e4.2 M_in M_su M_gr e1 M_om) → va_S A s.heap H locs → lv_has ls 6 [(0, .ref aM), (1, .int x1), (2, .int e4.1)] → W p l e rm_X12_addNames s m args below meth c H locs 0 0 Q (F0 m 101 ls []) := by
      intro H locs ls hP hD hS hl
      refine lv_aload_n hx hb dX12_addNames_101 rfl (lv_at hl 0 rfl) ?_
      refine lv_iload_n hx hb dX12_addNames_102 rfl (lv_at hl 1 rfl) ?_
      refine lv_iload_n hx hb dX12_addNames_103 rfl (lv_at hl 2 rfl) ?_
      replace hm := bd_some hm
      obtain ⟨e5, hc5, hm⟩ := hm
      refine kV_v (rest := []) (ws' := (w_X12_addNames cI cZ aM aM_s aM_ke aM_te aM_re aM_bo aM_bn aM_sh aM_in aM_su aM_gr aM_tr aM_ou aM_ro M_s M_km M_n M_be M_ma M_so e5 M_in M_su M_gr e1 M_om)) S (c_X12_showAtLeast l D cI cJ cZ cS aM aM_s aM_ke aM_te aM_re aM_bo aM_bn aM_sh aM_in aM_su aM_gr aM_tr aM_ou aM_ro M_s M_km M_n M_be M_ma M_so e4.2 M_gr e1 M_om x1 e4.1 e5 hc5) k3 hK hP hD hS hA 0 rfl rfl rfl rfl hl.1 rfl (Nat.le_of_ble_eq_true rfl) ⟨Nat.zero_le _, Nat.zero_le _⟩ dX12_addNames_104 [0, 1, 2, 5, 6] rfl rfl wa_X12_showAtLeast (sa_eq [(aM_in, .inl (cZ, 8, .inl M_in)), (aM_su, .inl (cI, 8, .inl M_su))] [3, 4] 7 rfl rfl rfl rfl rfl rfl rfl) (fun H locs hP hD hS => ?_)
      have h9 := Option.some.inj hm
      subst h9
      exact hret H locs _ ls hP hD hS dX12_addNames_107
    refine it_W (G := fun (st49 : Int32 × Int32 × Int32 × (Nat → Int32)) => ∀ (H : Heap) (locs : List Loc) (ls : Array Slot), va_P D vwCl (w_X12_addNames cI cZ aM aM_s aM_ke aM_te aM_re aM_bo aM_bn aM_sh aM_in aM_su aM_gr aM_tr aM_ou aM_ro M_s M_km M_n M_be M_ma M_so st49.2.2.2 M_in M_su M_gr e1 M_om) H → va_D A (w_X12_addNames cI cZ aM aM_s aM_ke aM_te aM_re aM_bo aM_bn aM_sh aM_in aM_su aM_gr aM_tr aM_ou aM_ro M_s M_km M_n M_be M_ma M_so st49.2.2.2 M_in M_su M_gr e1 M_om) → va_S A s.heap H locs → lv_has ls 6 [(0, .ref aM), (1, .int x1), (2, .int st49.1), (3, .int st49.2.1), (4, .int st49.2.2.1)] → W p l e rm_X12_addNames s m args below meth c H locs 0 0 Q (F0 m 49 ls [])) (e := e4) (fun st49 x hm hG hE => ?_) fu _ hc4 H locs ls hP hD hS (lv_sub hl [3, 4, 2, 1, 0] rfl)
    intro H locs ls hP hD hS hl
    have J94 : ∀ (x2_j94 : Int32) (x4_j94 : Int32) (y0_j94 : Int32) (M_sh_j94 : Nat → Int32), (m_X12_addNames_J94 x1 x2_j94 x4_j94 y0_j94 M_sh_j94 = some x) → ∀ (H : Heap) (locs : List Loc) (ls : Array Slot), va_P D vwCl (w_X12_addNames cI cZ aM aM_s aM_ke aM_te aM_re aM_bo aM_bn aM_sh aM_in aM_su aM_gr aM_tr aM_ou aM_ro M_s M_km M_n M_be M_ma M_so M_sh_j94 M_in M_su M_gr e1 M_om) H → va_D A (w_X12_addNames cI cZ aM aM_s aM_ke aM_te aM_re aM_bo aM_bn aM_sh aM_in aM_su aM_gr aM_tr aM_ou aM_ro M_s M_km M_n M_be M_ma M_so M_sh_j94 M_in M_su M_gr e1 M_om) → va_S A s.heap H locs → lv_has ls 6 [(0, .ref aM), (1, .int x1), (2, .int x2_j94), (4, .int x4_j94)] → W p l e rm_X12_addNames s m args below meth c H locs 0 0 Q (F0 m 94 ls [.int y0_j94]) := by
      intro x2_j94 x4_j94 y0_j94 M_sh_j94 hm H locs ls hP hD hS hl
      refine lv_istore_n (lv' := [(3, .int y0_j94), (0, .ref aM), (1, .int x1), (2, .int x2_j94), (4, .int x4_j94)]) hx hb dX12_addNames_94 rfl hl (by decide) rfl (fun ls hl => ?_)
      refine lv_iinc (v := (x4_j94 + 1)) (lv' := [(4, .int (x4_j94 + 1)), (3, .int y0_j94), (0, .ref aM), (1, .int x1), (2, .int x2_j94)]) hx hb dX12_addNames_95 hl (k := 4) rfl rfl (by decide) rfl (fun ls hl => ?_)
      refine lv_goto (tgt := 49) hx hb dX12_addNames_98 (by decide) ?_
      exact hG _ (Option.some.inj hm).symm H locs ls hP hD hS (lv_sub hl [2, 3, 4, 1, 0] rfl)
    have J81 : ∀ (x3_j81 : Int32) (x4_j81 : Int32) (x5_j81 : Int32) (y0_j81 : Int32) (M_sh_j81 : Nat → Int32), (m_X12_addNames_J81 x1 x3_j81 x4_j81 x5_j81 y0_j81 M_sh_j81 = some x) → ∀ (H : Heap) (locs : List Loc) (ls : Array Slot), va_P D vwCl (w_X12_addNames cI cZ aM aM_s aM_ke aM_te aM_re aM_bo aM_bn aM_sh aM_in aM_su aM_gr aM_tr aM_ou aM_ro M_s M_km M_n M_be M_ma M_so M_sh_j81 M_in M_su M_gr e1 M_om) H → va_D A (w_X12_addNames cI cZ aM aM_s aM_ke aM_te aM_re aM_bo aM_bn aM_sh aM_in aM_su aM_gr aM_tr aM_ou aM_ro M_s M_km M_n M_be M_ma M_so M_sh_j81 M_in M_su M_gr e1 M_om) → va_S A s.heap H locs → lv_has ls 6 [(0, .ref aM), (1, .int x1), (3, .int x3_j81), (4, .int x4_j81), (5, .int x5_j81)] → W p l e rm_X12_addNames s m args below meth c H locs 0 0 Q (F0 m 81 ls [.int y0_j81]) := by
      intro x3_j81 x4_j81 x5_j81 y0_j81 M_sh_j81 hm H locs ls hP hD hS hl
      refine lv_istore_n (lv' := [(2, .int y0_j81), (0, .ref aM), (1, .int x1), (3, .int x3_j81), (4, .int x4_j81), (5, .int x5_j81)]) hx hb dX12_addNames_81 rfl hl (by decide) rfl (fun ls hl => ?_)
      refine lv_iload hx hb dX12_addNames_82 (lv_at hl 5 rfl) ?_
      refine lv_iload_n hx hb dX12_addNames_84 rfl (lv_at hl 3 rfl) ?_
      refine lv_icmp_le (tgt := 93) hx hb dX12_addNames_85 (by decide) (fun c6 => ?_) (fun c6 => ?_)
      · replace hm := if_t c6 hm
        refine lv_iload_n hx hb dX12_addNames_93 rfl (lv_at hl 3 rfl) ?_
        exact J94 y0_j81 x4_j81 x3_j81 M_sh_j81 hm H locs ls hP hD hS (lv_sub hl [1, 2, 0, 4] rfl)
      · replace hm := if_f c6 hm
        refine lv_iload hx hb dX12_addNames_88 (lv_at hl 5 rfl) ?_
        refine lv_goto (tgt := 94) hx hb dX12_addNames_90 (by decide) ?_
        exact J94 y0_j81 x4_j81 x5_j81 M_sh_j81 hm H locs ls hP hD hS (lv_sub hl [1, 2, 0, 4] rfl)
    refine lv_iload hx hb dX12_addNames_49 (lv_at hl 4 rfl) ?_
    refine lv_iconst (v := 5) hx hb dX12_addNames_51 (by decide) ?_
    refine lv_icmp_ge (tgt := 101) hx hb dX12_addNames_52 (by decide) (fun c7 => ?_) (fun c7 => ?_)
    · replace hm := if_t c7 hm
      have h9 := hE _ (Option.some.inj hm).symm
      subst h9
      exact X4_0 H locs ls hP hD hS (lv_sub hl [0, 1, 2] rfl)
    · replace hm := if_f c7 hm
      refine lv_aload_n hx hb dX12_addNames_55 rfl (lv_at hl 0 rfl) ?_
      refine lv_iload_n hx hb dX12_addNames_56 rfl (lv_at hl 1 rfl) ?_
      refine lv_iload hx hb dX12_addNames_57 (lv_at hl 4 rfl) ?_
      replace hm := bd_some hm
      obtain ⟨e8, hc8, hm⟩ := hm
      refine kV_v (rest := []) (ws' := (w_X12_addNames cI cZ aM aM_s aM_ke aM_te aM_re aM_bo aM_bn aM_sh aM_in aM_su aM_gr aM_tr aM_ou aM_ro M_s M_km M_n M_be M_ma M_so e8 M_in M_su M_gr e1 M_om)) S (c_X12_showAtLeast l D cI cJ cZ cS aM aM_s aM_ke aM_te aM_re aM_bo aM_bn aM_sh aM_in aM_su aM_gr aM_tr aM_ou aM_ro M_s M_km M_n M_be M_ma M_so st49.2.2.2 M_gr e1 M_om x1 st49.2.2.1 e8 hc8) k3 hK hP hD hS hA 0 rfl rfl rfl rfl hl.1 rfl (Nat.le_of_ble_eq_true rfl) ⟨Nat.zero_le _, Nat.zero_le _⟩ dX12_addNames_59 [0, 1, 2, 5, 6] rfl rfl wa_X12_showAtLeast (sa_eq [(aM_in, .inl (cZ, 8, .inl M_in)), (aM_su, .inl (cI, 8, .inl M_su))] [3, 4] 7 rfl rfl rfl rfl rfl rfl rfl) (fun H locs hP hD hS => ?_)
      refine lv_aload_n hx hb dX12_addNames_62 rfl (lv_at hl 0 rfl) ?_
      refine lv_iload_n hx hb dX12_addNames_63 rfl (lv_at hl 1 rfl) ?_
      replace hm := bd_some hm
      obtain ⟨e9, hc9, hm⟩ := hm
      refine kV_i (rest := []) (ws' := (w_X12_addNames cI cZ aM aM_s aM_ke aM_te aM_re aM_bo aM_bn aM_sh aM_in aM_su aM_gr aM_tr aM_ou aM_ro M_s M_km M_n M_be M_ma M_so e8 M_in M_su M_gr e1 M_om)) S (c_X12_labelsOf l D cI cJ cZ cS aM aM_s aM_ke aM_te aM_re aM_bo aM_bn aM_sh aM_in aM_su aM_gr aM_tr aM_ou aM_ro M_s M_km M_n M_be M_ma M_so e8 M_in M_su M_gr M_om x1 e9 hc9) k4 hK hP hD hS hA 0 rfl rfl rfl rfl hl.1 rfl (Nat.le_of_ble_eq_true rfl) ⟨Nat.zero_le _, Nat.zero_le _⟩ dX12_addNames_64 [0, 1, 2, 3, 4, 5] rfl rfl wa_X12_labelsOf (sa_eq [(aM_tr, .inl (cI, 8, .inl e1))] [6] 7 rfl rfl rfl rfl rfl rfl rfl) (fun H locs hP hD hS => ?_)
      refine lv_istore (lv' := [(5, .int e9), (0, .ref aM), (1, .int x1), (2, .int st49.1), (3, .int st49.2.1), (4, .int st49.2.2.1)]) hx hb dX12_addNames_67 hl (by decide) rfl (fun ls hl => ?_)
      refine lv_iload hx hb dX12_addNames_69 (lv_at hl 0 rfl) ?_
      refine lv_iload_n hx hb dX12_addNames_71 rfl (lv_at hl 4 rfl) ?_
      refine lv_icmp_le (tgt := 80) hx hb dX12_addNames_72 (by decide) (fun c10 => ?_) (fun c10 => ?_)
      · replace hm := if_t c10 hm
        refine lv_iload_n hx hb dX12_addNames_80 rfl (lv_at hl 3 rfl) ?_
        exact J81 st49.2.1 st49.2.2.1 e9 st49.1 e8 hm H locs ls hP hD hS (lv_sub hl [1, 2, 4, 5, 0] rfl)
      · replace hm := if_f c10 hm
        refine lv_iload hx hb dX12_addNames_75 (lv_at hl 5 rfl) ?_
        refine lv_goto (tgt := 81) hx hb dX12_addNames_77 (by decide) ?_
        exact J81 st49.2.1 st49.2.2.1 e9 st49.2.2.1 e8 hm H locs ls hP hD hS (lv_sub hl [1, 2, 4, 5, 0] rfl)
  refine it_W (G := fun (st2 : Int32 × (Nat → Int32)) => ∀ (H : Heap) (locs : List Loc) (ls : Array Slot), va_P D vwCl (w_X12_addNames cI cZ aM aM_s aM_ke aM_te aM_re aM_bo aM_bn aM_sh aM_in aM_su aM_gr aM_tr aM_ou aM_ro M_s M_km M_n M_be M_ma M_so M_sh M_in M_su M_gr st2.2 M_om) H → va_D A (w_X12_addNames cI cZ aM aM_s aM_ke aM_te aM_re aM_bo aM_bn aM_sh aM_in aM_su aM_gr aM_tr aM_ou aM_ro M_s M_km M_n M_be M_ma M_so M_sh M_in M_su M_gr st2.2 M_om) → va_S A s.heap H locs → lv_has ls 6 [(0, .ref aM), (1, .int x1), (2, .int st2.1)] → W p l e rm_X12_addNames s m args below meth c H locs 0 0 Q (F0 m 2 ls [])) (e := e1) (fun st2 x hm hG hE => ?_) fu _ hc1 H locs ls hP hD hS (lv_sub hl [1, 2, 0] rfl)
  intro H locs ls hP hD hS hl
  refine lv_iload_n hx hb dX12_addNames_2 rfl (lv_at hl 2 rfl) ?_
  refine lv_aload_n hx hb dX12_addNames_3 rfl (lv_at hl 0 rfl) ?_
  refine va_get (D := D) (ci := 12) (v := .ref aM_s) (C := RX12) (T := TX12) (N := 19) hx hb hts k2 hown hKv hP 0 rfl rfl 0 (by decide) k1 (fun _ h9 => h9) rfl dX12_addNames_4 ?_
  refine lv_iconst (v := 0) hx hb dX12_addNames_7 (by decide) ?_
  replace hm := ck_some hm
  obtain ⟨h11, hm⟩ := hm
  refine va_iald hx hb hKv hP 1 0 rfl rfl h11 dX12_addNames_8 ?_
  refine lv_icmp_ge (tgt := 30) hx hb dX12_addNames_9 (by decide) (fun c12 => ?_) (fun c12 => ?_)
  · replace hm := if_t c12 hm
    have h9 := hE _ (Option.some.inj hm).symm
    subst h9
    exact X1_0 H locs ls hP hD hS (lv_sub hl [0, 1] rfl)
  · replace hm := if_f c12 hm
    refine lv_aload_n hx hb dX12_addNames_12 rfl (lv_at hl 0 rfl) ?_
    refine va_get (D := D) (ci := 12) (v := .ref aM_tr) (C := RX12) (T := TX12) (N := 19) hx hb hts k2 hown hKv hP 0 rfl rfl 15 (by decide) k5 (fun _ h9 => h9) rfl dX12_addNames_13 ?_
    refine lv_iload_n hx hb dX12_addNames_16 rfl (lv_at hl 2 rfl) ?_
    refine lv_aload_n hx hb dX12_addNames_17 rfl (lv_at hl 0 rfl) ?_
    refine va_get (D := D) (ci := 12) (v := .ref aM_sh) (C := RX12) (T := TX12) (N := 19) hx hb hts k2 hown hKv hP 0 rfl rfl 11 (by decide) k6 (fun _ h9 => h9) rfl dX12_addNames_18 ?_
    refine lv_iload_n hx hb dX12_addNames_21 rfl (lv_at hl 2 rfl) ?_
    replace hm := ck_some hm
    obtain ⟨h13, hm⟩ := hm
    refine va_iald hx hb hKv hP 2 0 rfl rfl h13 dX12_addNames_22 ?_
    replace hm := ck_some hm
    obtain ⟨h14, hm⟩ := hm
    refine va_iast hx hb hKv hP hD hS 6 0 rfl rfl h14 dX12_addNames_23 (fun H locs hP hD hS => ?_)
    replace hP : va_P D vwCl (w_X12_addNames cI cZ aM aM_s aM_ke aM_te aM_re aM_bo aM_bn aM_sh aM_in aM_su aM_gr aM_tr aM_ou aM_ro M_s M_km M_n M_be M_ma M_so M_sh M_in M_su M_gr (upd st2.2 (Int32.toNatClampNeg st2.1) (M_sh (Int32.toNatClampNeg st2.1))) M_om) H := hP
    replace hD : va_D A (w_X12_addNames cI cZ aM aM_s aM_ke aM_te aM_re aM_bo aM_bn aM_sh aM_in aM_su aM_gr aM_tr aM_ou aM_ro M_s M_km M_n M_be M_ma M_so M_sh M_in M_su M_gr (upd st2.2 (Int32.toNatClampNeg st2.1) (M_sh (Int32.toNatClampNeg st2.1))) M_om) := hD
    refine lv_iinc (v := (st2.1 + 1)) (lv' := [(2, .int (st2.1 + 1)), (0, .ref aM), (1, .int x1)]) hx hb dX12_addNames_24 hl (k := 2) rfl rfl (by decide) rfl (fun ls hl => ?_)
    refine lv_goto (tgt := 2) hx hb dX12_addNames_27 (by decide) ?_
    exact hG _ (Option.some.inj hm).symm H locs ls hP hD hS (lv_sub hl [1, 2, 0] rfl)
set_option maxHeartbeats 4000000 in
set_option maxRecDepth 100000 in
theorem c_X12_addSuffixes (l : Launch) (D : va_G) (cI cJ cZ cS : ClassId) (aM aM_s aM_ke aM_te aM_re aM_bo aM_bn aM_sh aM_in aM_su aM_gr aM_tr aM_ou aM_ro : Nat) (M_s : Nat → Int32) (M_km : Int32) (M_n : Int32) (M_be : Int32) (M_ma : Int32) (M_so : Int32) (M_bo : Nat → Int32) (M_su : Nat → Int32) (M_gr : Nat → Int32) (M_om : Int32) (x1 : Int32) (o : (Nat → Int32)) (hm : m_X12_addSuffixes M_s M_bo M_su M_gr x1 = some o) : MV l yX12_addSuffixes wsX12_addSuffixes rm_X12_addSuffixes D (TY cI cJ cZ cS) [.ref aM, .int x1] (w_X12_addSuffixes cI aM aM_s aM_ke aM_te aM_re aM_bo aM_bn aM_sh aM_in aM_su aM_gr aM_tr aM_ou aM_ro M_s M_km M_n M_be M_ma M_so M_bo M_su M_gr M_om) (w_X12_addSuffixes cI aM aM_s aM_ke aM_te aM_re aM_bo aM_bn aM_sh aM_in aM_su aM_gr aM_tr aM_ou aM_ro M_s M_km M_n M_be M_ma M_so M_bo o M_gr M_om) := by
  refine MV_of (cc := cX12_addSuffixes) (maxL := 4) (by decide) rfl (Nat.le_of_ble_eq_true rfl) ?_
  intro p e s m args below meth c A Q ls H locs hx hb hml hts hown hK hA hP hD hS hl hret
  have hown : s.vm.findClass RX12 = some m.cls := hown
  have hKv : va_K D vwCl (TY cI cJ cZ cS) s := hK.1
  have hl : lv_has ls 4 [(0, .ref aM), (1, .int x1)] := hl
  have S : CallFix p m c cX12_addSuffixes 4 s args wsX12_addSuffixes RX12 := ⟨hx, hb, hml, hown, hts⟩
  have k1 := hts (.fieldLink RX12 7 "CitationFormatterModel" "s" "[I") (by decide +kernel)
  have k2 : ∀ w ∈ wsX120, w ∈ wsX12_addSuffixes := by decide +kernel
  have k3 := hts (.fieldLink RX12 38 "CitationFormatterModel" "group" "[I") (by decide +kernel)
  have k4 := hts (.fieldLink RX12 22 "CitationFormatterModel" "byOrder" "[I") (by decide +kernel)
  have k5 := hts (.fieldLink RX12 35 "CitationFormatterModel" "suffix" "[I") (by decide +kernel)
  refine lv_iconst (v := 0) hx hb dX12_addSuffixes_0 (by decide) ?_
  refine lv_istore_n (lv' := [(2, .int 0), (0, .ref aM), (1, .int x1)]) hx hb dX12_addSuffixes_1 rfl hl (by decide) rfl (fun ls hl => ?_)
  refine lv_iconst (v := 0) hx hb dX12_addSuffixes_2 (by decide) ?_
  refine lv_istore_n (lv' := [(3, .int 0), (2, .int 0), (0, .ref aM), (1, .int x1)]) hx hb dX12_addSuffixes_3 rfl hl (by decide) rfl (fun ls hl => ?_)
  replace hm := bd_some hm
  obtain ⟨e1, hc1, hm⟩ := hm
  have X1_0 : ∀ (H : Heap) (locs : List Loc) (ls : Array Slot), va_P D vwCl (w_X12_addSuffixes cI aM aM_s aM_ke aM_te aM_re aM_bo aM_bn aM_sh aM_in aM_su aM_gr aM_tr aM_ou aM_ro M_s M_km M_n M_be M_ma M_so M_bo e1 M_gr M_om) H → va_D A (w_X12_addSuffixes cI aM aM_s aM_ke aM_te aM_re aM_bo aM_bn aM_sh aM_in aM_su aM_gr aM_tr aM_ou aM_ro M_s M_km M_n M_be M_ma M_so M_bo e1 M_gr M_om) → va_S A s.heap H locs → lv_has ls 4 [(0, .ref aM)] → W p l e rm_X12_addSuffixes s m args below meth c H locs 0 0 Q (F0 m 53 ls []) := by
    intro H locs ls hP hD hS hl
    have h9 := Option.some.inj hm
    subst h9
    exact hret H locs _ ls hP hD hS dX12_addSuffixes_53
  refine it_W (G := fun (st4 : Int32 × Int32 × (Nat → Int32)) => ∀ (H : Heap) (locs : List Loc) (ls : Array Slot), va_P D vwCl (w_X12_addSuffixes cI aM aM_s aM_ke aM_te aM_re aM_bo aM_bn aM_sh aM_in aM_su aM_gr aM_tr aM_ou aM_ro M_s M_km M_n M_be M_ma M_so M_bo st4.2.2 M_gr M_om) H → va_D A (w_X12_addSuffixes cI aM aM_s aM_ke aM_te aM_re aM_bo aM_bn aM_sh aM_in aM_su aM_gr aM_tr aM_ou aM_ro M_s M_km M_n M_be M_ma M_so M_bo st4.2.2 M_gr M_om) → va_S A s.heap H locs → lv_has ls 4 [(0, .ref aM), (1, .int x1), (2, .int st4.1), (3, .int st4.2.1)] → W p l e rm_X12_addSuffixes s m args below meth c H locs 0 0 Q (F0 m 4 ls [])) (e := e1) (fun st4 x hm hG hE => ?_) fu _ hc1 H locs ls hP hD hS (lv_sub hl [2, 3, 1, 0] rfl)
  intro H locs ls hP hD hS hl
  have J47 : ∀ (x2_j47 : Int32) (x3_j47 : Int32) (M_su_j47 : Nat → Int32), (m_X12_addSuffixes_J47 x1 x2_j47 x3_j47 M_su_j47 = some x) → ∀ (H : Heap) (locs : List Loc) (ls : Array Slot), va_P D vwCl (w_X12_addSuffixes cI aM aM_s aM_ke aM_te aM_re aM_bo aM_bn aM_sh aM_in aM_su aM_gr aM_tr aM_ou aM_ro M_s M_km M_n M_be M_ma M_so M_bo M_su_j47 M_gr M_om) H → va_D A (w_X12_addSuffixes cI aM aM_s aM_ke aM_te aM_re aM_bo aM_bn aM_sh aM_in aM_su aM_gr aM_tr aM_ou aM_ro M_s M_km M_n M_be M_ma M_so M_bo M_su_j47 M_gr M_om) → va_S A s.heap H locs → lv_has ls 4 [(0, .ref aM), (1, .int x1), (2, .int x2_j47), (3, .int x3_j47)] → W p l e rm_X12_addSuffixes s m args below meth c H locs 0 0 Q (F0 m 47 ls []) := by
    intro x2_j47 x3_j47 M_su_j47 hm H locs ls hP hD hS hl
    refine lv_iinc (v := (x3_j47 + 1)) (lv' := [(3, .int (x3_j47 + 1)), (0, .ref aM), (1, .int x1), (2, .int x2_j47)]) hx hb dX12_addSuffixes_47 hl (k := 3) rfl rfl (by decide) rfl (fun ls hl => ?_)
    refine lv_goto (tgt := 4) hx hb dX12_addSuffixes_50 (by decide) ?_
    exact hG _ (Option.some.inj hm).symm H locs ls hP hD hS (lv_sub hl [1, 2, 3, 0] rfl)
  refine lv_iload_n hx hb dX12_addSuffixes_4 rfl (lv_at hl 3 rfl) ?_
  refine lv_aload_n hx hb dX12_addSuffixes_5 rfl (lv_at hl 0 rfl) ?_
  refine va_get (D := D) (ci := 12) (v := .ref aM_s) (C := RX12) (T := TX12) (N := 19) hx hb hts k2 hown hKv hP 0 rfl rfl 0 (by decide) k1 (fun _ h9 => h9) rfl dX12_addSuffixes_6 ?_
  refine lv_iconst (v := 0) hx hb dX12_addSuffixes_9 (by decide) ?_
  replace hm := ck_some hm
  obtain ⟨h2, hm⟩ := hm
  refine va_iald hx hb hKv hP 1 0 rfl rfl h2 dX12_addSuffixes_10 ?_
  refine lv_icmp_ge (tgt := 53) hx hb dX12_addSuffixes_11 (by decide) (fun c3 => ?_) (fun c3 => ?_)
  · replace hm := if_t c3 hm
    have h9 := hE _ (Option.some.inj hm).symm
    subst h9
    exact X1_0 H locs ls hP hD hS (lv_sub hl [0] rfl)
  · replace hm := if_f c3 hm
    refine lv_aload_n hx hb dX12_addSuffixes_14 rfl (lv_at hl 0 rfl) ?_
    refine va_get (D := D) (ci := 12) (v := .ref aM_gr) (C := RX12) (T := TX12) (N := 19) hx hb hts k2 hown hKv hP 0 rfl rfl 14 (by decide) k3 (fun _ h9 => h9) rfl dX12_addSuffixes_15 ?_
    refine lv_aload_n hx hb dX12_addSuffixes_18 rfl (lv_at hl 0 rfl) ?_
    refine va_get (D := D) (ci := 12) (v := .ref aM_bo) (C := RX12) (T := TX12) (N := 19) hx hb hts k2 hown hKv hP 0 rfl rfl 9 (by decide) k4 (fun _ h9 => h9) rfl dX12_addSuffixes_19 ?_
    refine lv_iload_n hx hb dX12_addSuffixes_22 rfl (lv_at hl 3 rfl) ?_
    replace hm := ck_some hm
    obtain ⟨h4, hm⟩ := hm
    refine va_iald hx hb hKv hP 2 0 rfl rfl h4 dX12_addSuffixes_23 ?_
    replace hm := ck_some hm
    obtain ⟨h5, hm⟩ := hm
    refine va_iald hx hb hKv hP 4 0 rfl rfl h5 dX12_addSuffixes_24 ?_
    refine lv_iload_n hx hb dX12_addSuffixes_25 rfl (lv_at hl 1 rfl) ?_
    refine lv_icmp_ne (tgt := 47) hx hb dX12_addSuffixes_26 (by decide) (fun c6 => ?_) (fun c6 => ?_)
    · replace hm := if_f c6 hm
      exact J47 st4.1 st4.2.1 st4.2.2 hm H locs ls hP hD hS (lv_sub hl [0, 1, 2, 3] rfl)
    · replace hm := if_t c6 hm
      refine lv_aload_n hx hb dX12_addSuffixes_29 rfl (lv_at hl 0 rfl) ?_
      refine va_get (D := D) (ci := 12) (v := .ref aM_su) (C := RX12) (T := TX12) (N := 19) hx hb hts k2 hown hKv hP 0 rfl rfl 13 (by decide) k5 (fun _ h9 => h9) rfl dX12_addSuffixes_30 ?_
      refine lv_aload_n hx hb dX12_addSuffixes_33 rfl (lv_at hl 0 rfl) ?_
      refine va_get (D := D) (ci := 12) (v := .ref aM_bo) (C := RX12) (T := TX12) (N := 19) hx hb hts k2 hown hKv hP 0 rfl rfl 9 (by decide) k4 (fun _ h9 => h9) rfl dX12_addSuffixes_34 ?_
      refine lv_iload_n hx hb dX12_addSuffixes_37 rfl (lv_at hl 3 rfl) ?_
      replace hm := ck_some hm
      obtain ⟨h7, hm⟩ := hm
      refine va_iald hx hb hKv hP 2 0 rfl rfl h7 dX12_addSuffixes_38 ?_
      refine lv_bipush (v := 97) hx hb dX12_addSuffixes_39 (by decide) ?_
      refine lv_iload_n hx hb dX12_addSuffixes_41 rfl (lv_at hl 2 rfl) ?_
      refine lv_iadd hx hb dX12_addSuffixes_42 ?_
      replace hm := ck_some hm
      obtain ⟨h8, hm⟩ := hm
      refine va_iast hx hb hKv hP hD hS 3 0 rfl rfl h8 dX12_addSuffixes_43 (fun H locs hP hD hS => ?_)
      replace hP : va_P D vwCl (w_X12_addSuffixes cI aM aM_s aM_ke aM_te aM_re aM_bo aM_bn aM_sh aM_in aM_su aM_gr aM_tr aM_ou aM_ro M_s M_km M_n M_be M_ma M_so M_bo (upd st4.2.2 (Int32.toNatClampNeg (M_bo (Int32.toNatClampNeg st4.2.1))) (97 + st4.1)) M_gr M_om) H := hP
      replace hD : va_D A (w_X12_addSuffixes cI aM aM_s aM_ke aM_te aM_re aM_bo aM_bn aM_sh aM_in aM_su aM_gr aM_tr aM_ou aM_ro M_s M_km M_n M_be M_ma M_so M_bo (upd st4.2.2 (Int32.toNatClampNeg (M_bo (Int32.toNatClampNeg st4.2.1))) (97 + st4.1)) M_gr M_om) := hD
      refine lv_iinc (v := (st4.1 + 1)) (lv' := [(2, .int (st4.1 + 1)), (0, .ref aM), (1, .int x1), (3, .int st4.2.1)]) hx hb dX12_addSuffixes_44 hl (k := 2) rfl rfl (by decide) rfl (fun ls hl => ?_)
      exact J47 (st4.1 + 1) st4.2.1 (upd st4.2.2 (Int32.toNatClampNeg (M_bo (Int32.toNatClampNeg st4.2.1))) (97 + st4.1)) hm H locs ls hP hD hS (lv_sub hl [1, 2, 0, 3] rfl)
set_option maxHeartbeats 4000000 in
set_option maxRecDepth 100000 in
theorem c_X12_in (l : Launch) (D : va_G) (cI cJ cZ cS : ClassId) (x0 : Int64) (x2 : Int64) (x4 : Int64) (o : Int32) (hm : m_X12_in x0 x2 x4 = some o) : MI l yX12_in wsX12_in rm_X12_in D (TY cI cJ cZ cS) [.long x0, .long x2, .long x4] (w_X12_in ) (w_X12_in ) (o) := by
  refine MZ_of (cc := cX12_in) (maxL := 6) (by decide) rfl (Nat.le_of_ble_eq_true rfl) ?_
  intro p e s m args below meth c A Q ls H locs hx hb hml hts hown hK hA hP hD hS hl hret
  have hown : s.vm.findClass RX12 = some m.cls := hown
  have hKv : va_K D vwCl (TY cI cJ cZ cS) s := hK.1
  have hl : lv_has ls 6 [(0, .long x0), (2, .long x2), (4, .long x4)] := hl
  have S : CallFix p m c cX12_in 6 s args wsX12_in RX12 := ⟨hx, hb, hml, hown, hts⟩
  have J18 : ∀ (y0_j18 : Int32), (m_X12_in_J18 y0_j18 = some o) → ∀ (H : Heap) (locs : List Loc) (ls : Array Slot), va_P D vwCl (w_X12_in ) H → va_D A (w_X12_in ) → va_S A s.heap H locs → lv_has ls 6 [] → W p l e rm_X12_in s m args below meth c H locs 0 0 Q (F0 m 18 ls [.int y0_j18]) := by
    intro y0_j18 hm H locs ls hP hD hS hl
    replace hm := ckb_some hm
    obtain ⟨h1, hm⟩ := hm
    have h9 := Option.some.inj hm
    subst h9
    exact hret H locs _ ls _ h1 hP hD hS rfl dX12_in_18
  have J17 : (m_X12_in_J17 = some o) → ∀ (H : Heap) (locs : List Loc) (ls : Array Slot), va_P D vwCl (w_X12_in ) H → va_D A (w_X12_in ) → va_S A s.heap H locs → lv_has ls 6 [] → W p l e rm_X12_in s m args below meth c H locs 0 0 Q (F0 m 17 ls []) := by
    intro  hm H locs ls hP hD hS hl
    refine lv_iconst (v := 0) hx hb dX12_in_17 (by decide) ?_
    exact J18 0 hm H locs ls hP hD hS (lv_sub hl [] rfl)
  refine lv_lload_n hx hb dX12_in_0 rfl (lv_at hl 0 rfl) ?_
  refine lv_lload_n hx hb dX12_in_1 rfl (lv_at hl 1 rfl) ?_
  refine W.lcmp hx hb dX12_in_2 ?_
  refine lv_if_lt (tgt := 17) hx hb dX12_in_3 (by decide) (fun c2 => ?_) (fun c2 => ?_)
  · replace hm := if_t c2 hm
    exact J17  hm H locs ls hP hD hS (lv_sub hl [] rfl)
  · replace hm := if_f c2 hm
    refine lv_lload_n hx hb dX12_in_6 rfl (lv_at hl 0 rfl) ?_
    refine lv_lload hx hb dX12_in_7 (lv_at hl 2 rfl) ?_
    refine W.lcmp hx hb dX12_in_9 ?_
    refine lv_if_gt (tgt := 17) hx hb dX12_in_10 (by decide) (fun c3 => ?_) (fun c3 => ?_)
    · replace hm := if_t c3 hm
      exact J17  hm H locs ls hP hD hS (lv_sub hl [] rfl)
    · replace hm := if_f c3 hm
      refine lv_iconst (v := 1) hx hb dX12_in_13 (by decide) ?_
      refine lv_goto (tgt := 18) hx hb dX12_in_14 (by decide) ?_
      exact J18 1 hm H locs ls hP hD hS (lv_sub hl [] rfl)
set_option maxHeartbeats 4000000 in
set_option maxRecDepth 100000 in
theorem c_X12_isWork (l : Launch) (D : va_G) (cI cJ cZ cS : ClassId) (aM aM_s aM_ke aM_te aM_re aM_bo aM_bn aM_sh aM_in aM_su aM_gr aM_tr aM_ou aM_ro : Nat) (M_s : Nat → Int32) (M_km : Int32) (M_n : Int32) (M_be : Int32) (M_ma : Int32) (M_so : Int32) (M_om : Int32) (x1 : Int32) (o : Int32) (hm : m_X12_isWork M_s x1 = some o) : MI l yX12_isWork wsX12_isWork rm_X12_isWork D (TY cI cJ cZ cS) [.ref aM, .int x1] (w_X12_isWork cI aM aM_s aM_ke aM_te aM_re aM_bo aM_bn aM_sh aM_in aM_su aM_gr aM_tr aM_ou aM_ro M_s M_km M_n M_be M_ma M_so M_om) (w_X12_isWork cI aM aM_s aM_ke aM_te aM_re aM_bo aM_bn aM_sh aM_in aM_su aM_gr aM_tr aM_ou aM_ro M_s M_km M_n M_be M_ma M_so M_om) (o) := by
  refine MZ_of (cc := cX12_isWork) (maxL := 2) (by decide) rfl (Nat.le_of_ble_eq_true rfl) ?_
  intro p e s m args below meth c A Q ls H locs hx hb hml hts hown hK hA hP hD hS hl hret
  have hown : s.vm.findClass RX12 = some m.cls := hown
  have hKv : va_K D vwCl (TY cI cJ cZ cS) s := hK.1
  have hl : lv_has ls 2 [(0, .ref aM), (1, .int x1)] := hl
  have S : CallFix p m c cX12_isWork 2 s args wsX12_isWork RX12 := ⟨hx, hb, hml, hown, hts⟩
  have k1 := hts (.fieldLink RX12 7 "CitationFormatterModel" "s" "[I") (by decide +kernel)
  have k2 : ∀ w ∈ wsX120, w ∈ wsX12_isWork := by decide +kernel
  have k3 : CallB rm_X12_isWork s args RX12 50 yX12_in cX12_in 6 (some .boolean) wsX12_in rm_X12_in 0 0 3 ∧ (Cond.static yX12_in).before args s = true := va_cwS 3 hts gX12_isWork_X12_in rfl rfl rfl (by decide +kernel) ⟨Nat.le_of_ble_eq_true rfl, Nat.le_of_ble_eq_true rfl⟩
  refine lv_iload_n hx hb dX12_isWork_0 rfl (lv_at hl 1 rfl) ?_
  refine lv_i2l hx hb dX12_isWork_1 rfl ?_
  refine lv_lconst (v := 0) hx hb dX12_isWork_2 (by decide) ?_
  refine lv_aload_n hx hb dX12_isWork_3 rfl (lv_at hl 0 rfl) ?_
  refine va_get (D := D) (ci := 12) (v := .ref aM_s) (C := RX12) (T := TX12) (N := 19) hx hb hts k2 hown hKv hP 0 rfl rfl 0 (by decide) k1 (fun _ h9 => h9) rfl dX12_isWork_4 ?_
  refine lv_iconst (v := 0) hx hb dX12_isWork_7 (by decide) ?_
  replace hm := ck_some hm
  obtain ⟨h1, hm⟩ := hm
  refine va_iald hx hb hKv hP 1 0 rfl rfl h1 dX12_isWork_8 ?_
  refine lv_iconst (v := 1) hx hb dX12_isWork_9 (by decide) ?_
  refine lv_isub hx hb dX12_isWork_10 ?_
  refine lv_i2l hx hb dX12_isWork_11 rfl ?_
  replace hm := bd_some hm
  obtain ⟨e2, hc2, hm⟩ := hm
  refine kS_i (rest := []) S (c_X12_in l D cI cJ cZ cS (Int32.toInt64 x1) 0 (Int32.toInt64 ((M_s (Int32.toNatClampNeg 0)) - 1)) e2 hc2) k3 hK hP hD hS hA rfl hl.1 rfl (Nat.le_of_ble_eq_true rfl) ⟨Nat.zero_le _, Nat.zero_le _⟩ dX12_isWork_12 (fun H locs hP hD hS => ?_)
  replace hm := ckb_some hm
  obtain ⟨h3, hm⟩ := hm
  have h9 := Option.some.inj hm
  subst h9
  exact hret H locs _ ls _ h3 hP hD hS rfl dX12_isWork_15
set_option maxHeartbeats 4000000 in
set_option maxRecDepth 100000 in
theorem c_X12_cites (l : Launch) (D : va_G) (cI cJ cZ cS : ClassId) (aM aM_s aM_ke aM_te aM_re aM_bo aM_bn aM_sh aM_in aM_su aM_gr aM_tr aM_ou aM_ro : Nat) (M_s : Nat → Int32) (M_km : Int32) (M_n : Int32) (M_be : Int32) (M_ma : Int32) (M_so : Int32) (M_om : Int32) (x1 : Int32) (o : Int32) (hm : m_X12_cites M_s x1 = some o) : MI l yX12_cites wsX12_cites rm_X12_cites D (TY cI cJ cZ cS) [.ref aM, .int x1] (w_X12_cites cI aM aM_s aM_ke aM_te aM_re aM_bo aM_bn aM_sh aM_in aM_su aM_gr aM_tr aM_ou aM_ro M_s M_km M_n M_be M_ma M_so M_om) (w_X12_cites cI aM aM_s aM_ke aM_te aM_re aM_bo aM_bn aM_sh aM_in aM_su aM_gr aM_tr aM_ou aM_ro M_s M_km M_n M_be M_ma M_so M_om) (o) := by
  refine MI_of (cc := cX12_cites) (maxL := 2) (by decide) rfl (Nat.le_of_ble_eq_true rfl) ?_
  intro p e s m args below meth c A Q ls H locs hx hb hml hts hown hK hA hP hD hS hl hret
  have hown : s.vm.findClass RX12 = some m.cls := hown
  have hKv : va_K D vwCl (TY cI cJ cZ cS) s := hK.1
  have hl : lv_has ls 2 [(0, .ref aM), (1, .int x1)] := hl
  have S : CallFix p m c cX12_cites 2 s args wsX12_cites RX12 := ⟨hx, hb, hml, hown, hts⟩
  have k1 := hts (.fieldLink RX12 7 "CitationFormatterModel" "s" "[I") (by decide +kernel)
  have k2 : ∀ w ∈ wsX120, w ∈ wsX12_cites := by decide +kernel
  refine lv_aload_n hx hb dX12_cites_0 rfl (lv_at hl 0 rfl) ?_
  refine va_get (D := D) (ci := 12) (v := .ref aM_s) (C := RX12) (T := TX12) (N := 19) hx hb hts k2 hown hKv hP 0 rfl rfl 0 (by decide) k1 (fun _ h9 => h9) rfl dX12_cites_1 ?_
  refine lv_bipush (v := 71) hx hb dX12_cites_4 (by decide) ?_
  refine lv_bipush (v := 6) hx hb dX12_cites_6 (by decide) ?_
  refine lv_iload_n hx hb dX12_cites_8 rfl (lv_at hl 1 rfl) ?_
  refine lv_imul hx hb dX12_cites_9 ?_
  refine lv_iadd hx hb dX12_cites_10 ?_
  replace hm := ck_some hm
  obtain ⟨h1, hm⟩ := hm
  refine va_iald hx hb hKv hP 1 0 rfl rfl h1 dX12_cites_11 ?_
  have h9 := Option.some.inj hm
  subst h9
  exact hret H locs _ ls _ hP hD hS rfl dX12_cites_12
set_option maxHeartbeats 4000000 in
set_option maxRecDepth 100000 in
theorem c_X12_cited (l : Launch) (D : va_G) (cI cJ cZ cS : ClassId) (aM aM_s aM_ke aM_te aM_re aM_bo aM_bn aM_sh aM_in aM_su aM_gr aM_tr aM_ou aM_ro : Nat) (M_s : Nat → Int32) (M_km : Int32) (M_n : Int32) (M_be : Int32) (M_ma : Int32) (M_so : Int32) (M_om : Int32) (x1 : Int32) (x2 : Int32) (o : Int32) (hm : m_X12_cited M_s x1 x2 = some o) : MI l yX12_cited wsX12_cited rm_X12_cited D (TY cI cJ cZ cS) [.ref aM, .int x1, .int x2] (w_X12_cited cI aM aM_s aM_ke aM_te aM_re aM_bo aM_bn aM_sh aM_in aM_su aM_gr aM_tr aM_ou aM_ro M_s M_km M_n M_be M_ma M_so M_om) (w_X12_cited cI aM aM_s aM_ke aM_te aM_re aM_bo aM_bn aM_sh aM_in aM_su aM_gr aM_tr aM_ou aM_ro M_s M_km M_n M_be M_ma M_so M_om) (o) := by
  refine MI_of (cc := cX12_cited) (maxL := 3) (by decide) rfl (Nat.le_of_ble_eq_true rfl) ?_
  intro p e s m args below meth c A Q ls H locs hx hb hml hts hown hK hA hP hD hS hl hret
  have hown : s.vm.findClass RX12 = some m.cls := hown
  have hKv : va_K D vwCl (TY cI cJ cZ cS) s := hK.1
  have hl : lv_has ls 3 [(0, .ref aM), (1, .int x1), (2, .int x2)] := hl
  have S : CallFix p m c cX12_cited 3 s args wsX12_cited RX12 := ⟨hx, hb, hml, hown, hts⟩
  have k1 := hts (.fieldLink RX12 7 "CitationFormatterModel" "s" "[I") (by decide +kernel)
  have k2 : ∀ w ∈ wsX120, w ∈ wsX12_cited := by decide +kernel
  refine lv_aload_n hx hb dX12_cited_0 rfl (lv_at hl 0 rfl) ?_
  refine va_get (D := D) (ci := 12) (v := .ref aM_s) (C := RX12) (T := TX12) (N := 19) hx hb hts k2 hown hKv hP 0 rfl rfl 0 (by decide) k1 (fun _ h9 => h9) rfl dX12_cited_1 ?_
  refine lv_bipush (v := 71) hx hb dX12_cited_4 (by decide) ?_
  refine lv_bipush (v := 6) hx hb dX12_cited_6 (by decide) ?_
  refine lv_iload_n hx hb dX12_cited_8 rfl (lv_at hl 1 rfl) ?_
  refine lv_imul hx hb dX12_cited_9 ?_
  refine lv_iadd hx hb dX12_cited_10 ?_
  refine lv_iconst (v := 1) hx hb dX12_cited_11 (by decide) ?_
  refine lv_iadd hx hb dX12_cited_12 ?_
  refine lv_iload_n hx hb dX12_cited_13 rfl (lv_at hl 2 rfl) ?_
  refine lv_iadd hx hb dX12_cited_14 ?_
  replace hm := ck_some hm
  obtain ⟨h1, hm⟩ := hm
  refine va_iald hx hb hKv hP 1 0 rfl rfl h1 dX12_cited_15 ?_
  have h9 := Option.some.inj hm
  subst h9
  exact hret H locs _ ls _ hP hD hS rfl dX12_cited_16
set_option maxHeartbeats 4000000 in
set_option maxRecDepth 100000 in
theorem c_X12_doesCite (l : Launch) (D : va_G) (cI cJ cZ cS : ClassId) (aM aM_s aM_ke aM_te aM_re aM_bo aM_bn aM_sh aM_in aM_su aM_gr aM_tr aM_ou aM_ro : Nat) (M_s : Nat → Int32) (M_km : Int32) (M_n : Int32) (M_be : Int32) (M_ma : Int32) (M_so : Int32) (M_om : Int32) (x1 : Int32) (x2 : Int32) (o : Int32) (hm : m_X12_doesCite M_s x1 x2 = some o) : MI l yX12_doesCite wsX12_doesCite rm_X12_doesCite D (TY cI cJ cZ cS) [.ref aM, .int x1, .int x2] (w_X12_doesCite cI aM aM_s aM_ke aM_te aM_re aM_bo aM_bn aM_sh aM_in aM_su aM_gr aM_tr aM_ou aM_ro M_s M_km M_n M_be M_ma M_so M_om) (w_X12_doesCite cI aM aM_s aM_ke aM_te aM_re aM_bo aM_bn aM_sh aM_in aM_su aM_gr aM_tr aM_ou aM_ro M_s M_km M_n M_be M_ma M_so M_om) (o) := by
  refine MZ_of (cc := cX12_doesCite) (maxL := 5) (by decide) rfl (Nat.le_of_ble_eq_true rfl) ?_
  intro p e s m args below meth c A Q ls H locs hx hb hml hts hown hK hA hP hD hS hl hret
  have hown : s.vm.findClass RX12 = some m.cls := hown
  have hKv : va_K D vwCl (TY cI cJ cZ cS) s := hK.1
  have hl : lv_has ls 5 [(0, .ref aM), (1, .int x1), (2, .int x2)] := hl
  have S : CallFix p m c cX12_doesCite 5 s args wsX12_doesCite RX12 := ⟨hx, hb, hml, hown, hts⟩
  have k1 : CallW rm_X12_doesCite s args RX12 RX12 119 yX12_cites cX12_cites 2 (some .int) wsX12_cites rm_X12_cites 0 0 1 := cwV 1 hts gX12_doesCite_X12_cites rfl rfl rfl (by decide +kernel) ⟨Nat.le_of_ble_eq_true rfl, Nat.le_of_ble_eq_true rfl⟩
  have k2 : CallW rm_X12_doesCite s args RX12 RX12 122 yX12_cited cX12_cited 3 (some .int) wsX12_cited rm_X12_cited 0 0 2 := cwV 2 hts gX12_doesCite_X12_cited rfl rfl rfl (by decide +kernel) ⟨Nat.le_of_ble_eq_true rfl, Nat.le_of_ble_eq_true rfl⟩
  refine lv_iconst (v := 0) hx hb dX12_doesCite_0 (by decide) ?_
  refine lv_istore_n (lv' := [(3, .int 0), (0, .ref aM), (1, .int x1), (2, .int x2)]) hx hb dX12_doesCite_1 rfl hl (by decide) rfl (fun ls hl => ?_)
  refine lv_iconst (v := 0) hx hb dX12_doesCite_2 (by decide) ?_
  refine lv_istore (lv' := [(4, .int 0), (3, .int 0), (0, .ref aM), (1, .int x1), (2, .int x2)]) hx hb dX12_doesCite_3 hl (by decide) rfl (fun ls hl => ?_)
  replace hm := bd_some hm
  obtain ⟨e1, hc1, hm⟩ := hm
  have X1_0 : ∀ (H : Heap) (locs : List Loc) (ls : Array Slot), va_P D vwCl (w_X12_doesCite cI aM aM_s aM_ke aM_te aM_re aM_bo aM_bn aM_sh aM_in aM_su aM_gr aM_tr aM_ou aM_ro M_s M_km M_n M_be M_ma M_so M_om) H → va_D A (w_X12_doesCite cI aM aM_s aM_ke aM_te aM_re aM_bo aM_bn aM_sh aM_in aM_su aM_gr aM_tr aM_ou aM_ro M_s M_km M_n M_be M_ma M_so M_om) → va_S A s.heap H locs → lv_has ls 5 [(0, .ref aM), (3, .int e1)] → W p l e rm_X12_doesCite s m args below meth c H locs 0 0 Q (F0 m 42 ls []) := by
    intro H locs ls hP hD hS hl
    refine lv_iload_n hx hb dX12_doesCite_42 rfl (lv_at hl 1 rfl) ?_
    replace hm := ckb_some hm
    obtain ⟨h2, hm⟩ := hm
    have h9 := Option.some.inj hm
    subst h9
    exact hret H locs _ ls _ h2 hP hD hS rfl dX12_doesCite_43
  refine it_W (G := fun (st5 : Int32 × Int32) => ∀ (H : Heap) (locs : List Loc) (ls : Array Slot), va_P D vwCl (w_X12_doesCite cI aM aM_s aM_ke aM_te aM_re aM_bo aM_bn aM_sh aM_in aM_su aM_gr aM_tr aM_ou aM_ro M_s M_km M_n M_be M_ma M_so M_om) H → va_D A (w_X12_doesCite cI aM aM_s aM_ke aM_te aM_re aM_bo aM_bn aM_sh aM_in aM_su aM_gr aM_tr aM_ou aM_ro M_s M_km M_n M_be M_ma M_so M_om) → va_S A s.heap H locs → lv_has ls 5 [(0, .ref aM), (1, .int x1), (2, .int x2), (3, .int st5.1), (4, .int st5.2)] → W p l e rm_X12_doesCite s m args below meth c H locs 0 0 Q (F0 m 5 ls [])) (e := e1) (fun st5 x hm hG hE => ?_) fu _ hc1 H locs ls hP hD hS (lv_sub hl [2, 3, 4, 1, 0] rfl)
  intro H locs ls hP hD hS hl
  have J35 : ∀ (x4_j35 : Int32) (y0_j35 : Int32), (m_X12_doesCite_J35 x1 x2 x4_j35 y0_j35 = some x) → ∀ (H : Heap) (locs : List Loc) (ls : Array Slot), va_P D vwCl (w_X12_doesCite cI aM aM_s aM_ke aM_te aM_re aM_bo aM_bn aM_sh aM_in aM_su aM_gr aM_tr aM_ou aM_ro M_s M_km M_n M_be M_ma M_so M_om) H → va_D A (w_X12_doesCite cI aM aM_s aM_ke aM_te aM_re aM_bo aM_bn aM_sh aM_in aM_su aM_gr aM_tr aM_ou aM_ro M_s M_km M_n M_be M_ma M_so M_om) → va_S A s.heap H locs → lv_has ls 5 [(0, .ref aM), (1, .int x1), (2, .int x2), (4, .int x4_j35)] → W p l e rm_X12_doesCite s m args below meth c H locs 0 0 Q (F0 m 35 ls [.int y0_j35]) := by
    intro x4_j35 y0_j35 hm H locs ls hP hD hS hl
    refine lv_istore_n (lv' := [(3, .int y0_j35), (0, .ref aM), (1, .int x1), (2, .int x2), (4, .int x4_j35)]) hx hb dX12_doesCite_35 rfl hl (by decide) rfl (fun ls hl => ?_)
    refine lv_iinc (v := (x4_j35 + 1)) (lv' := [(4, .int (x4_j35 + 1)), (3, .int y0_j35), (0, .ref aM), (1, .int x1), (2, .int x2)]) hx hb dX12_doesCite_36 hl (k := 4) rfl rfl (by decide) rfl (fun ls hl => ?_)
    refine lv_goto (tgt := 5) hx hb dX12_doesCite_39 (by decide) ?_
    exact hG _ (Option.some.inj hm).symm H locs ls hP hD hS (lv_sub hl [2, 3, 4, 1, 0] rfl)
  have J30 : ∀ (x4_j30 : Int32), (m_X12_doesCite_J30 x1 x2 x4_j30 = some x) → ∀ (H : Heap) (locs : List Loc) (ls : Array Slot), va_P D vwCl (w_X12_doesCite cI aM aM_s aM_ke aM_te aM_re aM_bo aM_bn aM_sh aM_in aM_su aM_gr aM_tr aM_ou aM_ro M_s M_km M_n M_be M_ma M_so M_om) H → va_D A (w_X12_doesCite cI aM aM_s aM_ke aM_te aM_re aM_bo aM_bn aM_sh aM_in aM_su aM_gr aM_tr aM_ou aM_ro M_s M_km M_n M_be M_ma M_so M_om) → va_S A s.heap H locs → lv_has ls 5 [(0, .ref aM), (1, .int x1), (2, .int x2), (4, .int x4_j30)] → W p l e rm_X12_doesCite s m args below meth c H locs 0 0 Q (F0 m 30 ls []) := by
    intro x4_j30 hm H locs ls hP hD hS hl
    refine lv_iconst (v := 1) hx hb dX12_doesCite_30 (by decide) ?_
    refine lv_goto (tgt := 35) hx hb dX12_doesCite_31 (by decide) ?_
    exact J35 x4_j30 1 hm H locs ls hP hD hS (lv_sub hl [0, 1, 2, 3] rfl)
  refine lv_iload hx hb dX12_doesCite_5 (lv_at hl 4 rfl) ?_
  refine lv_aload_n hx hb dX12_doesCite_7 rfl (lv_at hl 0 rfl) ?_
  refine lv_iload_n hx hb dX12_doesCite_8 rfl (lv_at hl 1 rfl) ?_
  replace hm := bd_some hm
  obtain ⟨e3, hc3, hm⟩ := hm
  refine kV_i (rest := [.int st5.2]) (ws' := (w_X12_doesCite cI aM aM_s aM_ke aM_te aM_re aM_bo aM_bn aM_sh aM_in aM_su aM_gr aM_tr aM_ou aM_ro M_s M_km M_n M_be M_ma M_so M_om)) S (c_X12_cites l D cI cJ cZ cS aM aM_s aM_ke aM_te aM_re aM_bo aM_bn aM_sh aM_in aM_su aM_gr aM_tr aM_ou aM_ro M_s M_km M_n M_be M_ma M_so M_om x1 e3 hc3) k1 hK hP hD hS hA 0 rfl rfl rfl rfl hl.1 rfl (Nat.le_of_ble_eq_true rfl) ⟨Nat.zero_le _, Nat.zero_le _⟩ dX12_doesCite_9 [0, 1] rfl rfl wa_X12_cites (sa_eq [] [] 2 rfl rfl rfl rfl rfl rfl rfl) (fun H locs hP hD hS => ?_)
  refine lv_icmp_ge (tgt := 42) hx hb dX12_doesCite_12 (by decide) (fun c4 => ?_) (fun c4 => ?_)
  · replace hm := if_t c4 hm
    have h9 := hE _ (Option.some.inj hm).symm
    subst h9
    exact X1_0 H locs ls hP hD hS (lv_sub hl [0, 3] rfl)
  · replace hm := if_f c4 hm
    refine lv_iload_n hx hb dX12_doesCite_15 rfl (lv_at hl 3 rfl) ?_
    refine lv_if_ne (tgt := 30) hx hb dX12_doesCite_16 (by decide) (fun c5 => ?_) (fun c5 => ?_)
    · replace hm := if_f c5 hm
      exact J30 st5.2 hm H locs ls hP hD hS (lv_sub hl [0, 1, 2, 4] rfl)
    · replace hm := if_t c5 hm
      refine lv_aload_n hx hb dX12_doesCite_19 rfl (lv_at hl 0 rfl) ?_
      refine lv_iload_n hx hb dX12_doesCite_20 rfl (lv_at hl 1 rfl) ?_
      refine lv_iload hx hb dX12_doesCite_21 (lv_at hl 4 rfl) ?_
      replace hm := bd_some hm
      obtain ⟨e6, hc6, hm⟩ := hm
      refine kV_i (rest := []) (ws' := (w_X12_doesCite cI aM aM_s aM_ke aM_te aM_re aM_bo aM_bn aM_sh aM_in aM_su aM_gr aM_tr aM_ou aM_ro M_s M_km M_n M_be M_ma M_so M_om)) S (c_X12_cited l D cI cJ cZ cS aM aM_s aM_ke aM_te aM_re aM_bo aM_bn aM_sh aM_in aM_su aM_gr aM_tr aM_ou aM_ro M_s M_km M_n M_be M_ma M_so M_om x1 st5.2 e6 hc6) k2 hK hP hD hS hA 0 rfl rfl rfl rfl hl.1 rfl (Nat.le_of_ble_eq_true rfl) ⟨Nat.zero_le _, Nat.zero_le _⟩ dX12_doesCite_23 [0, 1] rfl rfl wa_X12_cited (sa_eq [] [] 2 rfl rfl rfl rfl rfl rfl rfl) (fun H locs hP hD hS => ?_)
      refine lv_iload_n hx hb dX12_doesCite_26 rfl (lv_at hl 2 rfl) ?_
      refine lv_icmp_ne (tgt := 34) hx hb dX12_doesCite_27 (by decide) (fun c7 => ?_) (fun c7 => ?_)
      · replace hm := if_f c7 hm
        refine lv_iconst (v := 0) hx hb dX12_doesCite_34 (by decide) ?_
        exact J35 st5.2 0 hm H locs ls hP hD hS (lv_sub hl [0, 1, 2, 4] rfl)
      · replace hm := if_t c7 hm
        exact J30 st5.2 hm H locs ls hP hD hS (lv_sub hl [0, 1, 2, 4] rfl)
set_option maxHeartbeats 4000000 in
set_option maxRecDepth 100000 in
theorem c_X12_keeps (l : Launch) (D : va_G) (cI cJ cZ cS : ClassId) (aM aM_s aM_ke aM_te aM_re aM_bo aM_bn aM_sh aM_in aM_su aM_gr aM_tr aM_ou aM_ro : Nat) (M_s : Nat → Int32) (M_ke : Nat → Int32) (M_km : Int32) (M_n : Int32) (M_be : Int32) (M_ma : Int32) (M_so : Int32) (M_om : Int32) (o : (Nat → Int32) × Int32) (hm : m_X12_keeps M_s M_ke M_km = some o) : MV l yX12_keeps wsX12_keeps rm_X12_keeps D (TY cI cJ cZ cS) [.ref aM] (w_X12_keeps cI aM aM_s aM_ke aM_te aM_re aM_bo aM_bn aM_sh aM_in aM_su aM_gr aM_tr aM_ou aM_ro M_s M_ke M_km M_n M_be M_ma M_so M_om) (w_X12_keeps cI aM aM_s aM_ke aM_te aM_re aM_bo aM_bn aM_sh aM_in aM_su aM_gr aM_tr aM_ou aM_ro M_s o.1 o.2 M_n M_be M_ma M_so M_om) := by
  refine MV_of (cc := cX12_keeps) (maxL := 2) (by decide) rfl (Nat.le_of_ble_eq_true rfl) ?_
  intro p e s m args below meth c A Q ls H locs hx hb hml hts hown hK hA hP hD hS hl hret
  have hown : s.vm.findClass RX12 = some m.cls := hown
  have hKv : va_K D vwCl (TY cI cJ cZ cS) s := hK.1
  have hl : lv_has ls 2 [(0, .ref aM)] := hl
  have S : CallFix p m c cX12_keeps 2 s args wsX12_keeps RX12 := ⟨hx, hb, hml, hown, hts⟩
  have k1 := hts (.fieldLink RX12 54 "CitationFormatterModel" "keptMany" "I") (by decide +kernel)
  have k2 : ∀ w ∈ wsX120, w ∈ wsX12_keeps := by decide +kernel
  have k3 := hts (.fieldLink RX12 13 "CitationFormatterModel" "kept" "[I") (by decide +kernel)
  have k4 := hts (.fieldLink RX12 7 "CitationFormatterModel" "s" "[I") (by decide +kernel)
  have J50 : ∀ (M_ke_j50 : Nat → Int32) (M_km_j50 : Int32), (m_X12_keeps_J50 M_s M_ke_j50 M_km_j50 = some o) → ∀ (H : Heap) (locs : List Loc) (ls : Array Slot), va_P D vwCl (w_X12_keeps cI aM aM_s aM_ke aM_te aM_re aM_bo aM_bn aM_sh aM_in aM_su aM_gr aM_tr aM_ou aM_ro M_s M_ke_j50 M_km_j50 M_n M_be M_ma M_so M_om) H → va_D A (w_X12_keeps cI aM aM_s aM_ke aM_te aM_re aM_bo aM_bn aM_sh aM_in aM_su aM_gr aM_tr aM_ou aM_ro M_s M_ke_j50 M_km_j50 M_n M_be M_ma M_so M_om) → va_S A s.heap H locs → lv_has ls 2 [(0, .ref aM)] → W p l e rm_X12_keeps s m args below meth c H locs 0 0 Q (F0 m 50 ls []) := by
    intro M_ke_j50 M_km_j50 hm H locs ls hP hD hS hl
    refine lv_iconst (v := 0) hx hb dX12_keeps_50 (by decide) ?_
    refine lv_istore_n (lv' := [(1, .int 0), (0, .ref aM)]) hx hb dX12_keeps_51 rfl hl (by decide) rfl (fun ls hl => ?_)
    replace hm := bd_some hm
    obtain ⟨e1, hc1, hm⟩ := hm
    have X1_0 : ∀ (H : Heap) (locs : List Loc) (ls : Array Slot), va_P D vwCl (w_X12_keeps cI aM aM_s aM_ke aM_te aM_re aM_bo aM_bn aM_sh aM_in aM_su aM_gr aM_tr aM_ou aM_ro M_s e1 M_km_j50 M_n M_be M_ma M_so M_om) H → va_D A (w_X12_keeps cI aM aM_s aM_ke aM_te aM_re aM_bo aM_bn aM_sh aM_in aM_su aM_gr aM_tr aM_ou aM_ro M_s e1 M_km_j50 M_n M_be M_ma M_so M_om) → va_S A s.heap H locs → lv_has ls 2 [(0, .ref aM)] → W p l e rm_X12_keeps s m args below meth c H locs 0 0 Q (F0 m 86 ls []) := by
      intro H locs ls hP hD hS hl
      refine lv_aload_n hx hb dX12_keeps_86 rfl (lv_at hl 0 rfl) ?_
      refine lv_dup hx hb dX12_keeps_87 rfl ?_
      refine va_get (D := D) (ci := 12) (v := .int M_km_j50) (C := RX12) (T := TX12) (N := 19) hx hb hts k2 hown hKv hP 0 rfl rfl 2 (by decide) k1 (fun _ h9 => h9) rfl dX12_keeps_88 ?_
      refine lv_iconst (v := 1) hx hb dX12_keeps_91 (by decide) ?_
      refine lv_iadd hx hb dX12_keeps_92 ?_
      refine va_put (D := D) (ci := 12) (v := .int (M_km_j50 + 1)) (ty := .int) (C := RX12) (T := TX12) (N := 19) hx hb hts k2 tyX12 tyX12_ok nmX12 hown hKv hP hD hS 0 rfl rfl 2 (by decide) k1 (fun _ h9 => h9) rfl (by decide +kernel) rfl rfl (Nat.le_of_ble_eq_true rfl) dX12_keeps_93 (fun H locs hP hD hS => ?_)
      replace hP : va_P D vwCl (w_X12_keeps cI aM aM_s aM_ke aM_te aM_re aM_bo aM_bn aM_sh aM_in aM_su aM_gr aM_tr aM_ou aM_ro M_s e1 (M_km_j50 + 1) M_n M_be M_ma M_so M_om) H := hP
      replace hD : va_D A (w_X12_keeps cI aM aM_s aM_ke aM_te aM_re aM_bo aM_bn aM_sh aM_in aM_su aM_gr aM_tr aM_ou aM_ro M_s e1 (M_km_j50 + 1) M_n M_be M_ma M_so M_om) := hD
      have h9 := Option.some.inj hm
      subst h9
      exact hret H locs _ ls hP hD hS dX12_keeps_96
    refine it_W (G := fun (st52 : Int32 × (Nat → Int32)) => ∀ (H : Heap) (locs : List Loc) (ls : Array Slot), va_P D vwCl (w_X12_keeps cI aM aM_s aM_ke aM_te aM_re aM_bo aM_bn aM_sh aM_in aM_su aM_gr aM_tr aM_ou aM_ro M_s st52.2 M_km_j50 M_n M_be M_ma M_so M_om) H → va_D A (w_X12_keeps cI aM aM_s aM_ke aM_te aM_re aM_bo aM_bn aM_sh aM_in aM_su aM_gr aM_tr aM_ou aM_ro M_s st52.2 M_km_j50 M_n M_be M_ma M_so M_om) → va_S A s.heap H locs → lv_has ls 2 [(0, .ref aM), (1, .int st52.1)] → W p l e rm_X12_keeps s m args below meth c H locs 0 0 Q (F0 m 52 ls [])) (e := e1) (fun st52 x hm hG hE => ?_) fu _ hc1 H locs ls hP hD hS (lv_sub hl [1, 0] rfl)
    intro H locs ls hP hD hS hl
    refine lv_iload_n hx hb dX12_keeps_52 rfl (lv_at hl 1 rfl) ?_
    refine lv_sipush (v := 131) hx hb dX12_keeps_53 (by decide) ?_
    refine lv_icmp_ge (tgt := 86) hx hb dX12_keeps_56 (by decide) (fun c2 => ?_) (fun c2 => ?_)
    · replace hm := if_t c2 hm
      have h9 := hE _ (Option.some.inj hm).symm
      subst h9
      exact X1_0 H locs ls hP hD hS (lv_sub hl [0] rfl)
    · replace hm := if_f c2 hm
      refine lv_aload_n hx hb dX12_keeps_59 rfl (lv_at hl 0 rfl) ?_
      refine va_get (D := D) (ci := 12) (v := .ref aM_ke) (C := RX12) (T := TX12) (N := 19) hx hb hts k2 hown hKv hP 0 rfl rfl 1 (by decide) k3 (fun _ h9 => h9) rfl dX12_keeps_60 ?_
      refine lv_sipush (v := 131) hx hb dX12_keeps_63 (by decide) ?_
      refine lv_aload_n hx hb dX12_keeps_66 rfl (lv_at hl 0 rfl) ?_
      refine va_get (D := D) (ci := 12) (v := .int M_km_j50) (C := RX12) (T := TX12) (N := 19) hx hb hts k2 hown hKv hP 0 rfl rfl 2 (by decide) k1 (fun _ h9 => h9) rfl dX12_keeps_67 ?_
      refine lv_imul hx hb dX12_keeps_70 ?_
      refine lv_iload_n hx hb dX12_keeps_71 rfl (lv_at hl 1 rfl) ?_
      refine lv_iadd hx hb dX12_keeps_72 ?_
      refine lv_aload_n hx hb dX12_keeps_73 rfl (lv_at hl 0 rfl) ?_
      refine va_get (D := D) (ci := 12) (v := .ref aM_s) (C := RX12) (T := TX12) (N := 19) hx hb hts k2 hown hKv hP 0 rfl rfl 0 (by decide) k4 (fun _ h9 => h9) rfl dX12_keeps_74 ?_
      refine lv_iload_n hx hb dX12_keeps_77 rfl (lv_at hl 1 rfl) ?_
      replace hm := ck_some hm
      obtain ⟨h3, hm⟩ := hm
      refine va_iald hx hb hKv hP 1 0 rfl rfl h3 dX12_keeps_78 ?_
      replace hm := ck_some hm
      obtain ⟨h4, hm⟩ := hm
      refine va_iast hx hb hKv hP hD hS 2 0 rfl rfl h4 dX12_keeps_79 (fun H locs hP hD hS => ?_)
      replace hP : va_P D vwCl (w_X12_keeps cI aM aM_s aM_ke aM_te aM_re aM_bo aM_bn aM_sh aM_in aM_su aM_gr aM_tr aM_ou aM_ro M_s (upd st52.2 (Int32.toNatClampNeg ((131 * M_km_j50) + st52.1)) (M_s (Int32.toNatClampNeg st52.1))) M_km_j50 M_n M_be M_ma M_so M_om) H := hP
      replace hD : va_D A (w_X12_keeps cI aM aM_s aM_ke aM_te aM_re aM_bo aM_bn aM_sh aM_in aM_su aM_gr aM_tr aM_ou aM_ro M_s (upd st52.2 (Int32.toNatClampNeg ((131 * M_km_j50) + st52.1)) (M_s (Int32.toNatClampNeg st52.1))) M_km_j50 M_n M_be M_ma M_so M_om) := hD
      refine lv_iinc (v := (st52.1 + 1)) (lv' := [(1, .int (st52.1 + 1)), (0, .ref aM)]) hx hb dX12_keeps_80 hl (k := 1) rfl rfl (by decide) rfl (fun ls hl => ?_)
      refine lv_goto (tgt := 52) hx hb dX12_keeps_83 (by decide) ?_
      exact hG _ (Option.some.inj hm).symm H locs ls hP hD hS (lv_sub hl [1, 0] rfl)
  refine lv_aload_n hx hb dX12_keeps_0 rfl (lv_at hl 0 rfl) ?_
  refine va_get (D := D) (ci := 12) (v := .int M_km) (C := RX12) (T := TX12) (N := 19) hx hb hts k2 hown hKv hP 0 rfl rfl 2 (by decide) k1 (fun _ h9 => h9) rfl dX12_keeps_1 ?_
  refine lv_bipush (v := 8) hx hb dX12_keeps_4 (by decide) ?_
  refine lv_icmp_ne (tgt := 50) hx hb dX12_keeps_6 (by decide) (fun c5 => ?_) (fun c5 => ?_)
  · replace hm := if_f c5 hm
    exact J50 M_ke M_km hm H locs ls hP hD hS (lv_sub hl [0] rfl)
  · replace hm := if_t c5 hm
    refine lv_iconst (v := 0) hx hb dX12_keeps_9 (by decide) ?_
    refine lv_istore_n (lv' := [(1, .int 0), (0, .ref aM)]) hx hb dX12_keeps_10 rfl hl (by decide) rfl (fun ls hl => ?_)
    replace hm := bd_some hm
    obtain ⟨e6, hc6, hm⟩ := hm
    have X6_0 : ∀ (H : Heap) (locs : List Loc) (ls : Array Slot), va_P D vwCl (w_X12_keeps cI aM aM_s aM_ke aM_te aM_re aM_bo aM_bn aM_sh aM_in aM_su aM_gr aM_tr aM_ou aM_ro M_s e6 M_km M_n M_be M_ma M_so M_om) H → va_D A (w_X12_keeps cI aM aM_s aM_ke aM_te aM_re aM_bo aM_bn aM_sh aM_in aM_su aM_gr aM_tr aM_ou aM_ro M_s e6 M_km M_n M_be M_ma M_so M_om) → va_S A s.heap H locs → lv_has ls 2 [(0, .ref aM)] → W p l e rm_X12_keeps s m args below meth c H locs 0 0 Q (F0 m 40 ls []) := by
      intro H locs ls hP hD hS hl
      refine lv_aload_n hx hb dX12_keeps_40 rfl (lv_at hl 0 rfl) ?_
      refine lv_dup hx hb dX12_keeps_41 rfl ?_
      refine va_get (D := D) (ci := 12) (v := .int M_km) (C := RX12) (T := TX12) (N := 19) hx hb hts k2 hown hKv hP 0 rfl rfl 2 (by decide) k1 (fun _ h9 => h9) rfl dX12_keeps_42 ?_
      refine lv_iconst (v := 1) hx hb dX12_keeps_45 (by decide) ?_
      refine lv_isub hx hb dX12_keeps_46 ?_
      refine va_put (D := D) (ci := 12) (v := .int (M_km - 1)) (ty := .int) (C := RX12) (T := TX12) (N := 19) hx hb hts k2 tyX12 tyX12_ok nmX12 hown hKv hP hD hS 0 rfl rfl 2 (by decide) k1 (fun _ h9 => h9) rfl (by decide +kernel) rfl rfl (Nat.le_of_ble_eq_true rfl) dX12_keeps_47 (fun H locs hP hD hS => ?_)
      replace hP : va_P D vwCl (w_X12_keeps cI aM aM_s aM_ke aM_te aM_re aM_bo aM_bn aM_sh aM_in aM_su aM_gr aM_tr aM_ou aM_ro M_s e6 (M_km - 1) M_n M_be M_ma M_so M_om) H := hP
      replace hD : va_D A (w_X12_keeps cI aM aM_s aM_ke aM_te aM_re aM_bo aM_bn aM_sh aM_in aM_su aM_gr aM_tr aM_ou aM_ro M_s e6 (M_km - 1) M_n M_be M_ma M_so M_om) := hD
      exact J50 e6 (M_km - 1) hm H locs ls hP hD hS (lv_sub hl [0] rfl)
    refine it_W (G := fun (st11 : Int32 × (Nat → Int32)) => ∀ (H : Heap) (locs : List Loc) (ls : Array Slot), va_P D vwCl (w_X12_keeps cI aM aM_s aM_ke aM_te aM_re aM_bo aM_bn aM_sh aM_in aM_su aM_gr aM_tr aM_ou aM_ro M_s st11.2 M_km M_n M_be M_ma M_so M_om) H → va_D A (w_X12_keeps cI aM aM_s aM_ke aM_te aM_re aM_bo aM_bn aM_sh aM_in aM_su aM_gr aM_tr aM_ou aM_ro M_s st11.2 M_km M_n M_be M_ma M_so M_om) → va_S A s.heap H locs → lv_has ls 2 [(0, .ref aM), (1, .int st11.1)] → W p l e rm_X12_keeps s m args below meth c H locs 0 0 Q (F0 m 11 ls [])) (e := e6) (fun st11 x hm hG hE => ?_) fu _ hc6 H locs ls hP hD hS (lv_sub hl [1, 0] rfl)
    intro H locs ls hP hD hS hl
    refine lv_iload_n hx hb dX12_keeps_11 rfl (lv_at hl 1 rfl) ?_
    refine lv_sipush (v := 917) hx hb dX12_keeps_12 (by decide) ?_
    refine lv_icmp_ge (tgt := 40) hx hb dX12_keeps_15 (by decide) (fun c7 => ?_) (fun c7 => ?_)
    · replace hm := if_t c7 hm
      have h9 := hE _ (Option.some.inj hm).symm
      subst h9
      exact X6_0 H locs ls hP hD hS (lv_sub hl [0] rfl)
    · replace hm := if_f c7 hm
      refine lv_aload_n hx hb dX12_keeps_18 rfl (lv_at hl 0 rfl) ?_
      refine va_get (D := D) (ci := 12) (v := .ref aM_ke) (C := RX12) (T := TX12) (N := 19) hx hb hts k2 hown hKv hP 0 rfl rfl 1 (by decide) k3 (fun _ h9 => h9) rfl dX12_keeps_19 ?_
      refine lv_iload_n hx hb dX12_keeps_22 rfl (lv_at hl 1 rfl) ?_
      refine lv_aload_n hx hb dX12_keeps_23 rfl (lv_at hl 0 rfl) ?_
      refine va_get (D := D) (ci := 12) (v := .ref aM_ke) (C := RX12) (T := TX12) (N := 19) hx hb hts k2 hown hKv hP 0 rfl rfl 1 (by decide) k3 (fun _ h9 => h9) rfl dX12_keeps_24 ?_
      refine lv_sipush (v := 131) hx hb dX12_keeps_27 (by decide) ?_
      refine lv_iload_n hx hb dX12_keeps_30 rfl (lv_at hl 1 rfl) ?_
      refine lv_iadd hx hb dX12_keeps_31 ?_
      replace hm := ck_some hm
      obtain ⟨h8, hm⟩ := hm
      refine va_iald hx hb hKv hP 2 0 rfl rfl h8 dX12_keeps_32 ?_
      replace hm := ck_some hm
      obtain ⟨h9, hm⟩ := hm
      refine va_iast hx hb hKv hP hD hS 2 0 rfl rfl h9 dX12_keeps_33 (fun H locs hP hD hS => ?_)
      replace hP : va_P D vwCl (w_X12_keeps cI aM aM_s aM_ke aM_te aM_re aM_bo aM_bn aM_sh aM_in aM_su aM_gr aM_tr aM_ou aM_ro M_s (upd st11.2 (Int32.toNatClampNeg st11.1) (st11.2 (Int32.toNatClampNeg (131 + st11.1)))) M_km M_n M_be M_ma M_so M_om) H := hP
      replace hD : va_D A (w_X12_keeps cI aM aM_s aM_ke aM_te aM_re aM_bo aM_bn aM_sh aM_in aM_su aM_gr aM_tr aM_ou aM_ro M_s (upd st11.2 (Int32.toNatClampNeg st11.1) (st11.2 (Int32.toNatClampNeg (131 + st11.1)))) M_km M_n M_be M_ma M_so M_om) := hD
      refine lv_iinc (v := (st11.1 + 1)) (lv' := [(1, .int (st11.1 + 1)), (0, .ref aM)]) hx hb dX12_keeps_34 hl (k := 1) rfl rfl (by decide) rfl (fun ls hl => ?_)
      refine lv_goto (tgt := 11) hx hb dX12_keeps_37 (by decide) ?_
      exact hG _ (Option.some.inj hm).symm H locs ls hP hD hS (lv_sub hl [1, 0] rfl)
set_option maxHeartbeats 4000000 in
set_option maxRecDepth 100000 in
theorem c_X12_addToCitation (l : Launch) (D : va_G) (cI cJ cZ cS : ClassId) (aM aM_s aM_ke aM_te aM_re aM_bo aM_bn aM_sh aM_in aM_su aM_gr aM_tr aM_ou aM_ro : Nat) (M_s : Nat → Int32) (M_ke : Nat → Int32) (M_km : Int32) (M_n : Int32) (M_be : Int32) (M_ma : Int32) (M_so : Int32) (M_om : Int32) (x1 : Int32) (o : Int32 × (Nat → Int32) × (Nat → Int32) × Int32) (hm : m_X12_addToCitation M_s M_ke M_km x1 = some o) : MI l yX12_addToCitation wsX12_addToCitation rm_X12_addToCitation D (TY cI cJ cZ cS) [.ref aM, .int x1] (w_X12_addToCitation cI aM aM_s aM_ke aM_te aM_re aM_bo aM_bn aM_sh aM_in aM_su aM_gr aM_tr aM_ou aM_ro M_s M_ke M_km M_n M_be M_ma M_so M_om) (w_X12_addToCitation cI aM aM_s aM_ke aM_te aM_re aM_bo aM_bn aM_sh aM_in aM_su aM_gr aM_tr aM_ou aM_ro o.2.1 o.2.2.1 o.2.2.2 M_n M_be M_ma M_so M_om) (o.1) := by
  refine MI_of (cc := cX12_addToCitation) (maxL := 3) (by decide) rfl (Nat.le_of_ble_eq_true rfl) ?_
  intro p e s m args below meth c A Q ls H locs hx hb hml hts hown hK hA hP hD hS hl hret
  have hown : s.vm.findClass RX12 = some m.cls := hown
  have hKv : va_K D vwCl (TY cI cJ cZ cS) s := hK.1
  have hl : lv_has ls 3 [(0, .ref aM), (1, .int x1)] := hl
  have S : CallFix p m c cX12_addToCitation 3 s args wsX12_addToCitation RX12 := ⟨hx, hb, hml, hown, hts⟩
  have k1 : CallW rm_X12_addToCitation s args RX12 RX12 116 yX12_isWork cX12_isWork 2 (some .boolean) wsX12_isWork rm_X12_isWork 0 0 1 := cwV 1 hts gX12_addToCitation_X12_isWork rfl rfl rfl (by decide +kernel) ⟨Nat.le_of_ble_eq_true rfl, Nat.le_of_ble_eq_true rfl⟩
  have k2 := hts (.fieldLink RX12 7 "CitationFormatterModel" "s" "[I") (by decide +kernel)
  have k3 : ∀ w ∈ wsX120, w ∈ wsX12_addToCitation := by decide +kernel
  have k4 : CallW rm_X12_addToCitation s args RX12 RX12 139 yX12_doesCite cX12_doesCite 5 (some .boolean) wsX12_doesCite rm_X12_doesCite 0 0 2 := cwV 2 hts gX12_addToCitation_X12_doesCite rfl rfl rfl (by decide +kernel) ⟨Nat.le_of_ble_eq_true rfl, Nat.le_of_ble_eq_true rfl⟩
  have k5 : CallW rm_X12_addToCitation s args RX12 RX12 119 yX12_cites cX12_cites 2 (some .int) wsX12_cites rm_X12_cites 0 0 1 := cwV 1 hts gX12_addToCitation_X12_cites rfl rfl rfl (by decide +kernel) ⟨Nat.le_of_ble_eq_true rfl, Nat.le_of_ble_eq_true rfl⟩
  have k6 : CallW rm_X12_addToCitation s args RX12 RX12 105 yX12_keeps cX12_keeps 2 none wsX12_keeps rm_X12_keeps 0 0 0 := cwV 0 hts gX12_addToCitation_X12_keeps rfl rfl rfl (by decide +kernel) ⟨Nat.le_of_ble_eq_true rfl, Nat.le_of_ble_eq_true rfl⟩
  have J33 : ∀ (M_s_j33 : Nat → Int32) (M_ke_j33 : Nat → Int32) (M_km_j33 : Int32), (m_X12_addToCitation_J33 M_s_j33 M_ke_j33 M_km_j33 = some o) → ∀ (H : Heap) (locs : List Loc) (ls : Array Slot), va_P D vwCl (w_X12_addToCitation cI aM aM_s aM_ke aM_te aM_re aM_bo aM_bn aM_sh aM_in aM_su aM_gr aM_tr aM_ou aM_ro M_s_j33 M_ke_j33 M_km_j33 M_n M_be M_ma M_so M_om) H → va_D A (w_X12_addToCitation cI aM aM_s aM_ke aM_te aM_re aM_bo aM_bn aM_sh aM_in aM_su aM_gr aM_tr aM_ou aM_ro M_s_j33 M_ke_j33 M_km_j33 M_n M_be M_ma M_so M_om) → va_S A s.heap H locs → lv_has ls 3 [(0, .ref aM)] → W p l e rm_X12_addToCitation s m args below meth c H locs 0 0 Q (F0 m 33 ls []) := by
    intro M_s_j33 M_ke_j33 M_km_j33 hm H locs ls hP hD hS hl
    refine lv_bipush (v := (-2)) hx hb dX12_addToCitation_33 (by decide) ?_
    have h9 := Option.some.inj hm
    subst h9
    exact hret H locs _ ls _ hP hD hS rfl dX12_addToCitation_35
  refine lv_aload_n hx hb dX12_addToCitation_0 rfl (lv_at hl 0 rfl) ?_
  refine lv_iload_n hx hb dX12_addToCitation_1 rfl (lv_at hl 1 rfl) ?_
  replace hm := bd_some hm
  obtain ⟨e1, hc1, hm⟩ := hm
  refine kV_i (rest := []) (ws' := (w_X12_addToCitation cI aM aM_s aM_ke aM_te aM_re aM_bo aM_bn aM_sh aM_in aM_su aM_gr aM_tr aM_ou aM_ro M_s M_ke M_km M_n M_be M_ma M_so M_om)) S (c_X12_isWork l D cI cJ cZ cS aM aM_s aM_ke aM_te aM_re aM_bo aM_bn aM_sh aM_in aM_su aM_gr aM_tr aM_ou aM_ro M_s M_km M_n M_be M_ma M_so M_om x1 e1 hc1) k1 hK hP hD hS hA 0 rfl rfl rfl rfl hl.1 rfl (Nat.le_of_ble_eq_true rfl) ⟨Nat.zero_le _, Nat.zero_le _⟩ dX12_addToCitation_2 [0, 1] rfl rfl wa_X12_isWork (sa_eq [(aM_ke, .inl (cI, 1048, .inl M_ke))] [2] 3 rfl rfl rfl rfl rfl rfl rfl) (fun H locs hP hD hS => ?_)
  refine lv_if_ne (tgt := 10) hx hb dX12_addToCitation_5 (by decide) (fun c2 => ?_) (fun c2 => ?_)
  · replace hm := if_f c2 hm
    refine lv_aload_n hx hb dX12_addToCitation_10 rfl (lv_at hl 0 rfl) ?_
    refine va_get (D := D) (ci := 12) (v := .ref aM_s) (C := RX12) (T := TX12) (N := 19) hx hb hts k3 hown hKv hP 0 rfl rfl 0 (by decide) k2 (fun _ h9 => h9) rfl dX12_addToCitation_11 ?_
    refine lv_bipush (v := 70) hx hb dX12_addToCitation_14 (by decide) ?_
    replace hm := ck_some hm
    obtain ⟨h3, hm⟩ := hm
    refine va_iald hx hb hKv hP 1 0 rfl rfl h3 dX12_addToCitation_16 ?_
    refine lv_iconst (v := 1) hx hb dX12_addToCitation_17 (by decide) ?_
    refine lv_isub hx hb dX12_addToCitation_18 ?_
    refine lv_istore_n (lv' := [(2, .int ((M_s (Int32.toNatClampNeg 70)) - 1)), (0, .ref aM), (1, .int x1)]) hx hb dX12_addToCitation_19 rfl hl (by decide) rfl (fun ls hl => ?_)
    refine lv_iload_n hx hb dX12_addToCitation_20 rfl (lv_at hl 0 rfl) ?_
    refine lv_if_lt (tgt := 33) hx hb dX12_addToCitation_21 (by decide) (fun c4 => ?_) (fun c4 => ?_)
    · replace hm := if_t c4 hm
      exact J33 M_s M_ke M_km hm H locs ls hP hD hS (lv_sub hl [1] rfl)
    · replace hm := if_f c4 hm
      refine lv_aload_n hx hb dX12_addToCitation_24 rfl (lv_at hl 1 rfl) ?_
      refine lv_iload_n hx hb dX12_addToCitation_25 rfl (lv_at hl 0 rfl) ?_
      refine lv_iload_n hx hb dX12_addToCitation_26 rfl (lv_at hl 2 rfl) ?_
      replace hm := bd_some hm
      obtain ⟨e5, hc5, hm⟩ := hm
      refine kV_i (rest := []) (ws' := (w_X12_addToCitation cI aM aM_s aM_ke aM_te aM_re aM_bo aM_bn aM_sh aM_in aM_su aM_gr aM_tr aM_ou aM_ro M_s M_ke M_km M_n M_be M_ma M_so M_om)) S (c_X12_doesCite l D cI cJ cZ cS aM aM_s aM_ke aM_te aM_re aM_bo aM_bn aM_sh aM_in aM_su aM_gr aM_tr aM_ou aM_ro M_s M_km M_n M_be M_ma M_so M_om ((M_s (Int32.toNatClampNeg 70)) - 1) x1 e5 hc5) k4 hK hP hD hS hA 0 rfl rfl rfl rfl hl.1 rfl (Nat.le_of_ble_eq_true rfl) ⟨Nat.zero_le _, Nat.zero_le _⟩ dX12_addToCitation_27 [0, 1] rfl rfl wa_X12_doesCite (sa_eq [(aM_ke, .inl (cI, 1048, .inl M_ke))] [2] 3 rfl rfl rfl rfl rfl rfl rfl) (fun H locs hP hD hS => ?_)
      refine lv_if_eq (tgt := 36) hx hb dX12_addToCitation_30 (by decide) (fun c6 => ?_) (fun c6 => ?_)
      · replace hm := if_t c6 hm
        refine lv_aload_n hx hb dX12_addToCitation_36 rfl (lv_at hl 1 rfl) ?_
        refine lv_iload_n hx hb dX12_addToCitation_37 rfl (lv_at hl 0 rfl) ?_
        replace hm := bd_some hm
        obtain ⟨e7, hc7, hm⟩ := hm
        refine kV_i (rest := []) (ws' := (w_X12_addToCitation cI aM aM_s aM_ke aM_te aM_re aM_bo aM_bn aM_sh aM_in aM_su aM_gr aM_tr aM_ou aM_ro M_s M_ke M_km M_n M_be M_ma M_so M_om)) S (c_X12_cites l D cI cJ cZ cS aM aM_s aM_ke aM_te aM_re aM_bo aM_bn aM_sh aM_in aM_su aM_gr aM_tr aM_ou aM_ro M_s M_km M_n M_be M_ma M_so M_om ((M_s (Int32.toNatClampNeg 70)) - 1) e7 hc7) k5 hK hP hD hS hA 0 rfl rfl rfl rfl hl.1 rfl (Nat.le_of_ble_eq_true rfl) ⟨Nat.zero_le _, Nat.zero_le _⟩ dX12_addToCitation_38 [0, 1] rfl rfl wa_X12_cites (sa_eq [(aM_ke, .inl (cI, 1048, .inl M_ke))] [2] 3 rfl rfl rfl rfl rfl rfl rfl) (fun H locs hP hD hS => ?_)
        refine lv_iconst (v := 5) hx hb dX12_addToCitation_41 (by decide) ?_
        refine lv_icmp_ne (tgt := 48) hx hb dX12_addToCitation_42 (by decide) (fun c8 => ?_) (fun c8 => ?_)
        · replace hm := if_f c8 hm
          refine lv_aload_n hx hb dX12_addToCitation_48 rfl (lv_at hl 1 rfl) ?_
          replace hm := bd_some hm
          obtain ⟨e9, hc9, hm⟩ := hm
          refine kV_v (rest := []) (ws' := (w_X12_addToCitation cI aM aM_s aM_ke aM_te aM_re aM_bo aM_bn aM_sh aM_in aM_su aM_gr aM_tr aM_ou aM_ro M_s e9.1 e9.2 M_n M_be M_ma M_so M_om)) S (c_X12_keeps l D cI cJ cZ cS aM aM_s aM_ke aM_te aM_re aM_bo aM_bn aM_sh aM_in aM_su aM_gr aM_tr aM_ou aM_ro M_s M_ke M_km M_n M_be M_ma M_so M_om e9 hc9) k6 hK hP hD hS hA 0 rfl rfl rfl rfl hl.1 rfl (Nat.le_of_ble_eq_true rfl) ⟨Nat.zero_le _, Nat.zero_le _⟩ dX12_addToCitation_49 [0, 1, 2] rfl rfl wa_X12_keeps (sa_eq [] [] 3 rfl rfl rfl rfl rfl rfl rfl) (fun H locs hP hD hS => ?_)
          refine lv_aload_n hx hb dX12_addToCitation_52 rfl (lv_at hl 1 rfl) ?_
          refine va_get (D := D) (ci := 12) (v := .ref aM_s) (C := RX12) (T := TX12) (N := 19) hx hb hts k3 hown hKv hP 0 rfl rfl 0 (by decide) k2 (fun _ h9 => h9) rfl dX12_addToCitation_53 ?_
          refine lv_bipush (v := 71) hx hb dX12_addToCitation_56 (by decide) ?_
          refine lv_bipush (v := 6) hx hb dX12_addToCitation_58 (by decide) ?_
          refine lv_iload_n hx hb dX12_addToCitation_60 rfl (lv_at hl 0 rfl) ?_
          refine lv_imul hx hb dX12_addToCitation_61 ?_
          refine lv_iadd hx hb dX12_addToCitation_62 ?_
          refine lv_iconst (v := 1) hx hb dX12_addToCitation_63 (by decide) ?_
          refine lv_iadd hx hb dX12_addToCitation_64 ?_
          refine lv_aload_n hx hb dX12_addToCitation_65 rfl (lv_at hl 1 rfl) ?_
          refine lv_iload_n hx hb dX12_addToCitation_66 rfl (lv_at hl 0 rfl) ?_
          replace hm := bd_some hm
          obtain ⟨e10, hc10, hm⟩ := hm
          refine kV_i (rest := [.int ((71 + (6 * ((M_s (Int32.toNatClampNeg 70)) - 1))) + 1), .ref aM_s]) (ws' := (w_X12_addToCitation cI aM aM_s aM_ke aM_te aM_re aM_bo aM_bn aM_sh aM_in aM_su aM_gr aM_tr aM_ou aM_ro M_s e9.1 e9.2 M_n M_be M_ma M_so M_om)) S (c_X12_cites l D cI cJ cZ cS aM aM_s aM_ke aM_te aM_re aM_bo aM_bn aM_sh aM_in aM_su aM_gr aM_tr aM_ou aM_ro M_s e9.2 M_n M_be M_ma M_so M_om ((M_s (Int32.toNatClampNeg 70)) - 1) e10 hc10) k5 hK hP hD hS hA 0 rfl rfl rfl rfl hl.1 rfl (Nat.le_of_ble_eq_true rfl) ⟨Nat.zero_le _, Nat.zero_le _⟩ dX12_addToCitation_67 [0, 1] rfl rfl wa_X12_cites (sa_eq [(aM_ke, .inl (cI, 1048, .inl e9.1))] [2] 3 rfl rfl rfl rfl rfl rfl rfl) (fun H locs hP hD hS => ?_)
          refine lv_iadd hx hb dX12_addToCitation_70 ?_
          refine lv_iload_n hx hb dX12_addToCitation_71 rfl (lv_at hl 2 rfl) ?_
          replace hm := ck_some hm
          obtain ⟨h11, hm⟩ := hm
          refine va_iast hx hb hKv hP hD hS 1 0 rfl rfl h11 dX12_addToCitation_72 (fun H locs hP hD hS => ?_)
          replace hP : va_P D vwCl (w_X12_addToCitation cI aM aM_s aM_ke aM_te aM_re aM_bo aM_bn aM_sh aM_in aM_su aM_gr aM_tr aM_ou aM_ro (upd M_s (Int32.toNatClampNeg (((71 + (6 * ((M_s (Int32.toNatClampNeg 70)) - 1))) + 1) + e10)) x1) e9.1 e9.2 M_n M_be M_ma M_so M_om) H := hP
          replace hD : va_D A (w_X12_addToCitation cI aM aM_s aM_ke aM_te aM_re aM_bo aM_bn aM_sh aM_in aM_su aM_gr aM_tr aM_ou aM_ro (upd M_s (Int32.toNatClampNeg (((71 + (6 * ((M_s (Int32.toNatClampNeg 70)) - 1))) + 1) + e10)) x1) e9.1 e9.2 M_n M_be M_ma M_so M_om) := hD
          refine lv_aload_n hx hb dX12_addToCitation_73 rfl (lv_at hl 1 rfl) ?_
          refine va_get (D := D) (ci := 12) (v := .ref aM_s) (C := RX12) (T := TX12) (N := 19) hx hb hts k3 hown hKv hP 0 rfl rfl 0 (by decide) k2 (fun _ h9 => h9) rfl dX12_addToCitation_74 ?_
          refine lv_bipush (v := 71) hx hb dX12_addToCitation_77 (by decide) ?_
          refine lv_bipush (v := 6) hx hb dX12_addToCitation_79 (by decide) ?_
          refine lv_iload_n hx hb dX12_addToCitation_81 rfl (lv_at hl 0 rfl) ?_
          refine lv_imul hx hb dX12_addToCitation_82 ?_
          refine lv_iadd hx hb dX12_addToCitation_83 ?_
          refine lv_dup2_11 hx hb dX12_addToCitation_84 rfl rfl ?_
          replace hm := ck_some hm
          obtain ⟨h12, hm⟩ := hm
          refine va_iald hx hb hKv hP 1 0 rfl rfl h12 dX12_addToCitation_85 ?_
          refine lv_iconst (v := 1) hx hb dX12_addToCitation_86 (by decide) ?_
          refine lv_iadd hx hb dX12_addToCitation_87 ?_
          replace hm := ck_some hm
          obtain ⟨h13, hm⟩ := hm
          refine va_iast hx hb hKv hP hD hS 1 0 rfl rfl h13 dX12_addToCitation_88 (fun H locs hP hD hS => ?_)
          replace hP : va_P D vwCl (w_X12_addToCitation cI aM aM_s aM_ke aM_te aM_re aM_bo aM_bn aM_sh aM_in aM_su aM_gr aM_tr aM_ou aM_ro (upd (upd M_s (Int32.toNatClampNeg (((71 + (6 * ((M_s (Int32.toNatClampNeg 70)) - 1))) + 1) + e10)) x1) (Int32.toNatClampNeg (71 + (6 * ((M_s (Int32.toNatClampNeg 70)) - 1)))) (((upd M_s (Int32.toNatClampNeg (((71 + (6 * ((M_s (Int32.toNatClampNeg 70)) - 1))) + 1) + e10)) x1) (Int32.toNatClampNeg (71 + (6 * ((M_s (Int32.toNatClampNeg 70)) - 1))))) + 1)) e9.1 e9.2 M_n M_be M_ma M_so M_om) H := hP
          replace hD : va_D A (w_X12_addToCitation cI aM aM_s aM_ke aM_te aM_re aM_bo aM_bn aM_sh aM_in aM_su aM_gr aM_tr aM_ou aM_ro (upd (upd M_s (Int32.toNatClampNeg (((71 + (6 * ((M_s (Int32.toNatClampNeg 70)) - 1))) + 1) + e10)) x1) (Int32.toNatClampNeg (71 + (6 * ((M_s (Int32.toNatClampNeg 70)) - 1)))) (((upd M_s (Int32.toNatClampNeg (((71 + (6 * ((M_s (Int32.toNatClampNeg 70)) - 1))) + 1) + e10)) x1) (Int32.toNatClampNeg (71 + (6 * ((M_s (Int32.toNatClampNeg 70)) - 1))))) + 1)) e9.1 e9.2 M_n M_be M_ma M_so M_om) := hD
          refine lv_aload_n hx hb dX12_addToCitation_89 rfl (lv_at hl 1 rfl) ?_
          refine lv_iload_n hx hb dX12_addToCitation_90 rfl (lv_at hl 0 rfl) ?_
          replace hm := bd_some hm
          obtain ⟨e14, hc14, hm⟩ := hm
          refine kV_i (rest := []) (ws' := (w_X12_addToCitation cI aM aM_s aM_ke aM_te aM_re aM_bo aM_bn aM_sh aM_in aM_su aM_gr aM_tr aM_ou aM_ro (upd (upd M_s (Int32.toNatClampNeg (((71 + (6 * ((M_s (Int32.toNatClampNeg 70)) - 1))) + 1) + e10)) x1) (Int32.toNatClampNeg (71 + (6 * ((M_s (Int32.toNatClampNeg 70)) - 1)))) (((upd M_s (Int32.toNatClampNeg (((71 + (6 * ((M_s (Int32.toNatClampNeg 70)) - 1))) + 1) + e10)) x1) (Int32.toNatClampNeg (71 + (6 * ((M_s (Int32.toNatClampNeg 70)) - 1))))) + 1)) e9.1 e9.2 M_n M_be M_ma M_so M_om)) S (c_X12_cites l D cI cJ cZ cS aM aM_s aM_ke aM_te aM_re aM_bo aM_bn aM_sh aM_in aM_su aM_gr aM_tr aM_ou aM_ro (upd (upd M_s (Int32.toNatClampNeg (((71 + (6 * ((M_s (Int32.toNatClampNeg 70)) - 1))) + 1) + e10)) x1) (Int32.toNatClampNeg (71 + (6 * ((M_s (Int32.toNatClampNeg 70)) - 1)))) (((upd M_s (Int32.toNatClampNeg (((71 + (6 * ((M_s (Int32.toNatClampNeg 70)) - 1))) + 1) + e10)) x1) (Int32.toNatClampNeg (71 + (6 * ((M_s (Int32.toNatClampNeg 70)) - 1))))) + 1)) e9.2 M_n M_be M_ma M_so M_om ((M_s (Int32.toNatClampNeg 70)) - 1) e14 hc14) k5 hK hP hD hS hA 0 rfl rfl rfl rfl hl.1 rfl (Nat.le_of_ble_eq_true rfl) ⟨Nat.zero_le _, Nat.zero_le _⟩ dX12_addToCitation_91 [0, 1] rfl rfl wa_X12_cites (sa_eq [(aM_ke, .inl (cI, 1048, .inl e9.1))] [2] 3 rfl rfl rfl rfl rfl rfl rfl) (fun H locs hP hD hS => ?_)
          have h9 := Option.some.inj hm
          subst h9
          exact hret H locs _ ls _ hP hD hS rfl dX12_addToCitation_94
        · replace hm := if_t c8 hm
          refine lv_bipush (v := (-3)) hx hb dX12_addToCitation_45 (by decide) ?_
          have h9 := Option.some.inj hm
          subst h9
          exact hret H locs _ ls _ hP hD hS rfl dX12_addToCitation_47
      · replace hm := if_f c6 hm
        exact J33 M_s M_ke M_km hm H locs ls hP hD hS (lv_sub hl [1] rfl)
  · replace hm := if_t c2 hm
    refine lv_iconst (v := (-1)) hx hb dX12_addToCitation_8 (by decide) ?_
    have h9 := Option.some.inj hm
    subst h9
    exact hret H locs _ ls _ hP hD hS rfl dX12_addToCitation_9
set_option maxHeartbeats 4000000 in
set_option maxRecDepth 100000 in
theorem c_X12_againstAuthors (l : Launch) (D : va_G) (cI cJ cZ cS : ClassId) (aM aM_s aM_ke aM_te aM_re aM_bo aM_bn aM_sh aM_in aM_su aM_gr aM_tr aM_ou aM_ro : Nat) (M_s : Nat → Int32) (M_km : Int32) (M_n : Int32) (M_be : Int32) (M_ma : Int32) (M_so : Int32) (M_om : Int32) (x1 : Int32) (x2 : Int32) (o : Int32) (hm : m_X12_againstAuthors M_s x1 x2 = some o) : MI l yX12_againstAuthors wsX12_againstAuthors rm_X12_againstAuthors D (TY cI cJ cZ cS) [.ref aM, .int x1, .int x2] (w_X12_againstAuthors cI aM aM_s aM_ke aM_te aM_re aM_bo aM_bn aM_sh aM_in aM_su aM_gr aM_tr aM_ou aM_ro M_s M_km M_n M_be M_ma M_so M_om) (w_X12_againstAuthors cI aM aM_s aM_ke aM_te aM_re aM_bo aM_bn aM_sh aM_in aM_su aM_gr aM_tr aM_ou aM_ro M_s M_km M_n M_be M_ma M_so M_om) (o) := by
  refine MI_of (cc := cX12_againstAuthors) (maxL := 5) (by decide) rfl (Nat.le_of_ble_eq_true rfl) ?_
  intro p e s m args below meth c A Q ls H locs hx hb hml hts hown hK hA hP hD hS hl hret
  have hown : s.vm.findClass RX12 = some m.cls := hown
  have hKv : va_K D vwCl (TY cI cJ cZ cS) s := hK.1
  have hl : lv_has ls 5 [(0, .ref aM), (1, .int x1), (2, .int x2)] := hl
  have S : CallFix p m c cX12_againstAuthors 5 s args wsX12_againstAuthors RX12 := ⟨hx, hb, hml, hown, hts⟩
  have k1 : CallW rm_X12_againstAuthors s args RX12 RX12 149 yX12_author cX12_author 3 (some .int) wsX12_author rm_X12_author 0 0 2 := cwV 2 hts gX12_againstAuthors_X12_author rfl rfl rfl (by decide +kernel) ⟨Nat.le_of_ble_eq_true rfl, Nat.le_of_ble_eq_true rfl⟩
  have k2 : CallW rm_X12_againstAuthors s args RX12 RX12 146 yX12_authors cX12_authors 2 (some .int) wsX12_authors rm_X12_authors 0 0 1 := cwV 1 hts gX12_againstAuthors_X12_authors rfl rfl rfl (by decide +kernel) ⟨Nat.le_of_ble_eq_true rfl, Nat.le_of_ble_eq_true rfl⟩
  have J26 : ∀ (y0_j26 : Int32), (m_X12_againstAuthors_J26 x1 x2 y0_j26 M_s = some o) → ∀ (H : Heap) (locs : List Loc) (ls : Array Slot), va_P D vwCl (w_X12_againstAuthors cI aM aM_s aM_ke aM_te aM_re aM_bo aM_bn aM_sh aM_in aM_su aM_gr aM_tr aM_ou aM_ro M_s M_km M_n M_be M_ma M_so M_om) H → va_D A (w_X12_againstAuthors cI aM aM_s aM_ke aM_te aM_re aM_bo aM_bn aM_sh aM_in aM_su aM_gr aM_tr aM_ou aM_ro M_s M_km M_n M_be M_ma M_so M_om) → va_S A s.heap H locs → lv_has ls 5 [(0, .ref aM), (1, .int x1), (2, .int x2)] → W p l e rm_X12_againstAuthors s m args below meth c H locs 0 0 Q (F0 m 26 ls [.int y0_j26]) := by
    intro y0_j26 hm H locs ls hP hD hS hl
    refine lv_istore_n (lv' := [(3, .int y0_j26), (0, .ref aM), (1, .int x1), (2, .int x2)]) hx hb dX12_againstAuthors_26 rfl hl (by decide) rfl (fun ls hl => ?_)
    refine lv_iconst (v := 0) hx hb dX12_againstAuthors_27 (by decide) ?_
    refine lv_istore (lv' := [(4, .int 0), (3, .int y0_j26), (0, .ref aM), (1, .int x1), (2, .int x2)]) hx hb dX12_againstAuthors_28 hl (by decide) rfl (fun ls hl => ?_)
    replace hm := bd_some hm
    obtain ⟨e1, hc1, hm⟩ := hm
    have X1_0 : ∀ v1_0, e1 = Sum.inl v1_0 → ∀ (H : Heap) (locs : List Loc) (ls : Array Slot), va_P D vwCl (w_X12_againstAuthors cI aM aM_s aM_ke aM_te aM_re aM_bo aM_bn aM_sh aM_in aM_su aM_gr aM_tr aM_ou aM_ro M_s M_km M_n M_be M_ma M_so M_om) H → va_D A (w_X12_againstAuthors cI aM aM_s aM_ke aM_te aM_re aM_bo aM_bn aM_sh aM_in aM_su aM_gr aM_tr aM_ou aM_ro M_s M_km M_n M_be M_ma M_so M_om) → va_S A s.heap H locs → lv_has ls 5 [(0, .ref aM), (1, .int x1), (2, .int x2), (4, .int v1_0)] → W p l e rm_X12_againstAuthors s m args below meth c H locs 0 0 Q (F0 m 53 ls []) := by
      intro v1_0 h9 H locs ls hP hD hS hl
      subst h9
      replace hm := el_l hm
      refine lv_aload_n hx hb dX12_againstAuthors_53 rfl (lv_at hl 0 rfl) ?_
      refine lv_iload_n hx hb dX12_againstAuthors_54 rfl (lv_at hl 1 rfl) ?_
      refine lv_iload hx hb dX12_againstAuthors_55 (lv_at hl 3 rfl) ?_
      replace hm := bd_some hm
      obtain ⟨e2, hc2, hm⟩ := hm
      refine kV_i (rest := []) (ws' := (w_X12_againstAuthors cI aM aM_s aM_ke aM_te aM_re aM_bo aM_bn aM_sh aM_in aM_su aM_gr aM_tr aM_ou aM_ro M_s M_km M_n M_be M_ma M_so M_om)) S (c_X12_author l D cI cJ cZ cS aM aM_s aM_ke aM_te aM_re aM_bo aM_bn aM_sh aM_in aM_su aM_gr aM_tr aM_ou aM_ro M_s M_km M_n M_be M_ma M_so M_om x1 v1_0 e2 hc2) k1 hK hP hD hS hA 0 rfl rfl rfl rfl hl.1 rfl (Nat.le_of_ble_eq_true rfl) ⟨Nat.zero_le _, Nat.zero_le _⟩ dX12_againstAuthors_57 [0, 1] rfl rfl wa_X12_author (sa_eq [] [] 2 rfl rfl rfl rfl rfl rfl rfl) (fun H locs hP hD hS => ?_)
      refine lv_aload_n hx hb dX12_againstAuthors_60 rfl (lv_at hl 0 rfl) ?_
      refine lv_iload_n hx hb dX12_againstAuthors_61 rfl (lv_at hl 2 rfl) ?_
      refine lv_iload hx hb dX12_againstAuthors_62 (lv_at hl 3 rfl) ?_
      replace hm := bd_some hm
      obtain ⟨e3, hc3, hm⟩ := hm
      refine kV_i (rest := [.int e2]) (ws' := (w_X12_againstAuthors cI aM aM_s aM_ke aM_te aM_re aM_bo aM_bn aM_sh aM_in aM_su aM_gr aM_tr aM_ou aM_ro M_s M_km M_n M_be M_ma M_so M_om)) S (c_X12_author l D cI cJ cZ cS aM aM_s aM_ke aM_te aM_re aM_bo aM_bn aM_sh aM_in aM_su aM_gr aM_tr aM_ou aM_ro M_s M_km M_n M_be M_ma M_so M_om x2 v1_0 e3 hc3) k1 hK hP hD hS hA 0 rfl rfl rfl rfl hl.1 rfl (Nat.le_of_ble_eq_true rfl) ⟨Nat.zero_le _, Nat.zero_le _⟩ dX12_againstAuthors_64 [0, 1] rfl rfl wa_X12_author (sa_eq [] [] 2 rfl rfl rfl rfl rfl rfl rfl) (fun H locs hP hD hS => ?_)
      refine lv_isub hx hb dX12_againstAuthors_67 ?_
      have h9 := Option.some.inj hm
      subst h9
      exact hret H locs _ ls _ hP hD hS rfl dX12_againstAuthors_68
    have X1_1 : ∀ v1_1, e1 = Sum.inr (v1_1) → ∀ (H : Heap) (locs : List Loc) (ls : Array Slot), va_P D vwCl (w_X12_againstAuthors cI aM aM_s aM_ke aM_te aM_re aM_bo aM_bn aM_sh aM_in aM_su aM_gr aM_tr aM_ou aM_ro M_s M_km M_n M_be M_ma M_so M_om) H → va_D A (w_X12_againstAuthors cI aM aM_s aM_ke aM_te aM_re aM_bo aM_bn aM_sh aM_in aM_su aM_gr aM_tr aM_ou aM_ro M_s M_km M_n M_be M_ma M_so M_om) → va_S A s.heap H locs → lv_has ls 5 [(0, .ref aM), (1, .int x1), (2, .int x2)] → W p l e rm_X12_againstAuthors s m args below meth c H locs 0 0 Q (F0 m 75 ls []) := by
      intro v1_1 h9 H locs ls hP hD hS hl
      subst h9
      replace hm := el_r hm
      refine lv_aload_n hx hb dX12_againstAuthors_75 rfl (lv_at hl 0 rfl) ?_
      refine lv_iload_n hx hb dX12_againstAuthors_76 rfl (lv_at hl 1 rfl) ?_
      replace hm := bd_some hm
      obtain ⟨e4, hc4, hm⟩ := hm
      refine kV_i (rest := []) (ws' := (w_X12_againstAuthors cI aM aM_s aM_ke aM_te aM_re aM_bo aM_bn aM_sh aM_in aM_su aM_gr aM_tr aM_ou aM_ro M_s M_km M_n M_be M_ma M_so M_om)) S (c_X12_authors l D cI cJ cZ cS aM aM_s aM_ke aM_te aM_re aM_bo aM_bn aM_sh aM_in aM_su aM_gr aM_tr aM_ou aM_ro M_s M_km M_n M_be M_ma M_so M_om x1 e4 hc4) k2 hK hP hD hS hA 0 rfl rfl rfl rfl hl.1 rfl (Nat.le_of_ble_eq_true rfl) ⟨Nat.zero_le _, Nat.zero_le _⟩ dX12_againstAuthors_77 [0, 1] rfl rfl wa_X12_authors (sa_eq [] [] 2 rfl rfl rfl rfl rfl rfl rfl) (fun H locs hP hD hS => ?_)
      refine lv_aload_n hx hb dX12_againstAuthors_80 rfl (lv_at hl 0 rfl) ?_
      refine lv_iload_n hx hb dX12_againstAuthors_81 rfl (lv_at hl 2 rfl) ?_
      replace hm := bd_some hm
      obtain ⟨e5, hc5, hm⟩ := hm
      refine kV_i (rest := [.int e4]) (ws' := (w_X12_againstAuthors cI aM aM_s aM_ke aM_te aM_re aM_bo aM_bn aM_sh aM_in aM_su aM_gr aM_tr aM_ou aM_ro M_s M_km M_n M_be M_ma M_so M_om)) S (c_X12_authors l D cI cJ cZ cS aM aM_s aM_ke aM_te aM_re aM_bo aM_bn aM_sh aM_in aM_su aM_gr aM_tr aM_ou aM_ro M_s M_km M_n M_be M_ma M_so M_om x2 e5 hc5) k2 hK hP hD hS hA 0 rfl rfl rfl rfl hl.1 rfl (Nat.le_of_ble_eq_true rfl) ⟨Nat.zero_le _, Nat.zero_le _⟩ dX12_againstAuthors_82 [0, 1] rfl rfl wa_X12_authors (sa_eq [] [] 2 rfl rfl rfl rfl rfl rfl rfl) (fun H locs hP hD hS => ?_)
      refine lv_isub hx hb dX12_againstAuthors_85 ?_
      have h9 := Option.some.inj hm
      subst h9
      exact hret H locs _ ls _ hP hD hS rfl dX12_againstAuthors_86
    refine it_W (G := fun (st30 : Int32) => ∀ (H : Heap) (locs : List Loc) (ls : Array Slot), va_P D vwCl (w_X12_againstAuthors cI aM aM_s aM_ke aM_te aM_re aM_bo aM_bn aM_sh aM_in aM_su aM_gr aM_tr aM_ou aM_ro M_s M_km M_n M_be M_ma M_so M_om) H → va_D A (w_X12_againstAuthors cI aM aM_s aM_ke aM_te aM_re aM_bo aM_bn aM_sh aM_in aM_su aM_gr aM_tr aM_ou aM_ro M_s M_km M_n M_be M_ma M_so M_om) → va_S A s.heap H locs → lv_has ls 5 [(0, .ref aM), (1, .int x1), (2, .int x2), (3, .int y0_j26), (4, .int st30)] → W p l e rm_X12_againstAuthors s m args below meth c H locs 0 0 Q (F0 m 30 ls [])) (e := e1) (fun st30 x hm hG hE => ?_) fu _ hc1 H locs ls hP hD hS (lv_sub hl [2, 3, 4, 1, 0] rfl)
    intro H locs ls hP hD hS hl
    refine lv_iload hx hb dX12_againstAuthors_30 (lv_at hl 4 rfl) ?_
    refine lv_iload_n hx hb dX12_againstAuthors_32 rfl (lv_at hl 3 rfl) ?_
    refine lv_icmp_ge (tgt := 75) hx hb dX12_againstAuthors_33 (by decide) (fun c6 => ?_) (fun c6 => ?_)
    · replace hm := if_t c6 hm
      exact X1_1 _ (hE _ (Option.some.inj hm).symm).symm H locs ls hP hD hS (lv_sub hl [0, 1, 2] rfl)
    · replace hm := if_f c6 hm
      refine lv_aload_n hx hb dX12_againstAuthors_36 rfl (lv_at hl 0 rfl) ?_
      refine lv_iload_n hx hb dX12_againstAuthors_37 rfl (lv_at hl 1 rfl) ?_
      refine lv_iload hx hb dX12_againstAuthors_38 (lv_at hl 4 rfl) ?_
      replace hm := bd_some hm
      obtain ⟨e7, hc7, hm⟩ := hm
      refine kV_i (rest := []) (ws' := (w_X12_againstAuthors cI aM aM_s aM_ke aM_te aM_re aM_bo aM_bn aM_sh aM_in aM_su aM_gr aM_tr aM_ou aM_ro M_s M_km M_n M_be M_ma M_so M_om)) S (c_X12_author l D cI cJ cZ cS aM aM_s aM_ke aM_te aM_re aM_bo aM_bn aM_sh aM_in aM_su aM_gr aM_tr aM_ou aM_ro M_s M_km M_n M_be M_ma M_so M_om x1 st30 e7 hc7) k1 hK hP hD hS hA 0 rfl rfl rfl rfl hl.1 rfl (Nat.le_of_ble_eq_true rfl) ⟨Nat.zero_le _, Nat.zero_le _⟩ dX12_againstAuthors_40 [0, 1] rfl rfl wa_X12_author (sa_eq [] [] 2 rfl rfl rfl rfl rfl rfl rfl) (fun H locs hP hD hS => ?_)
      refine lv_aload_n hx hb dX12_againstAuthors_43 rfl (lv_at hl 0 rfl) ?_
      refine lv_iload_n hx hb dX12_againstAuthors_44 rfl (lv_at hl 2 rfl) ?_
      refine lv_iload hx hb dX12_againstAuthors_45 (lv_at hl 4 rfl) ?_
      replace hm := bd_some hm
      obtain ⟨e8, hc8, hm⟩ := hm
      refine kV_i (rest := [.int e7]) (ws' := (w_X12_againstAuthors cI aM aM_s aM_ke aM_te aM_re aM_bo aM_bn aM_sh aM_in aM_su aM_gr aM_tr aM_ou aM_ro M_s M_km M_n M_be M_ma M_so M_om)) S (c_X12_author l D cI cJ cZ cS aM aM_s aM_ke aM_te aM_re aM_bo aM_bn aM_sh aM_in aM_su aM_gr aM_tr aM_ou aM_ro M_s M_km M_n M_be M_ma M_so M_om x2 st30 e8 hc8) k1 hK hP hD hS hA 0 rfl rfl rfl rfl hl.1 rfl (Nat.le_of_ble_eq_true rfl) ⟨Nat.zero_le _, Nat.zero_le _⟩ dX12_againstAuthors_47 [0, 1] rfl rfl wa_X12_author (sa_eq [] [] 2 rfl rfl rfl rfl rfl rfl rfl) (fun H locs hP hD hS => ?_)
      refine lv_icmp_eq (tgt := 69) hx hb dX12_againstAuthors_50 (by decide) (fun c9 => ?_) (fun c9 => ?_)
      · replace hm := if_t c9 hm
        refine lv_iinc (v := (st30 + 1)) (lv' := [(4, .int (st30 + 1)), (0, .ref aM), (1, .int x1), (2, .int x2), (3, .int y0_j26)]) hx hb dX12_againstAuthors_69 hl (k := 4) rfl rfl (by decide) rfl (fun ls hl => ?_)
        refine lv_goto (tgt := 30) hx hb dX12_againstAuthors_72 (by decide) ?_
        exact hG _ (Option.some.inj hm).symm H locs ls hP hD hS (lv_sub hl [1, 2, 3, 4, 0] rfl)
      · replace hm := if_f c9 hm
        exact X1_0 _ (hE _ (Option.some.inj hm).symm).symm H locs ls hP hD hS (lv_sub hl [0, 1, 2, 4] rfl)
  refine lv_aload_n hx hb dX12_againstAuthors_0 rfl (lv_at hl 0 rfl) ?_
  refine lv_iload_n hx hb dX12_againstAuthors_1 rfl (lv_at hl 1 rfl) ?_
  replace hm := bd_some hm
  obtain ⟨e10, hc10, hm⟩ := hm
  refine kV_i (rest := []) (ws' := (w_X12_againstAuthors cI aM aM_s aM_ke aM_te aM_re aM_bo aM_bn aM_sh aM_in aM_su aM_gr aM_tr aM_ou aM_ro M_s M_km M_n M_be M_ma M_so M_om)) S (c_X12_authors l D cI cJ cZ cS aM aM_s aM_ke aM_te aM_re aM_bo aM_bn aM_sh aM_in aM_su aM_gr aM_tr aM_ou aM_ro M_s M_km M_n M_be M_ma M_so M_om x1 e10 hc10) k2 hK hP hD hS hA 0 rfl rfl rfl rfl hl.1 rfl (Nat.le_of_ble_eq_true rfl) ⟨Nat.zero_le _, Nat.zero_le _⟩ dX12_againstAuthors_2 [0, 1] rfl rfl wa_X12_authors (sa_eq [] [] 2 rfl rfl rfl rfl rfl rfl rfl) (fun H locs hP hD hS => ?_)
  refine lv_aload_n hx hb dX12_againstAuthors_5 rfl (lv_at hl 0 rfl) ?_
  refine lv_iload_n hx hb dX12_againstAuthors_6 rfl (lv_at hl 2 rfl) ?_
  replace hm := bd_some hm
  obtain ⟨e11, hc11, hm⟩ := hm
  refine kV_i (rest := [.int e10]) (ws' := (w_X12_againstAuthors cI aM aM_s aM_ke aM_te aM_re aM_bo aM_bn aM_sh aM_in aM_su aM_gr aM_tr aM_ou aM_ro M_s M_km M_n M_be M_ma M_so M_om)) S (c_X12_authors l D cI cJ cZ cS aM aM_s aM_ke aM_te aM_re aM_bo aM_bn aM_sh aM_in aM_su aM_gr aM_tr aM_ou aM_ro M_s M_km M_n M_be M_ma M_so M_om x2 e11 hc11) k2 hK hP hD hS hA 0 rfl rfl rfl rfl hl.1 rfl (Nat.le_of_ble_eq_true rfl) ⟨Nat.zero_le _, Nat.zero_le _⟩ dX12_againstAuthors_7 [0, 1] rfl rfl wa_X12_authors (sa_eq [] [] 2 rfl rfl rfl rfl rfl rfl rfl) (fun H locs hP hD hS => ?_)
  refine lv_icmp_ge (tgt := 21) hx hb dX12_againstAuthors_10 (by decide) (fun c12 => ?_) (fun c12 => ?_)
  · replace hm := if_t c12 hm
    refine lv_aload_n hx hb dX12_againstAuthors_21 rfl (lv_at hl 0 rfl) ?_
    refine lv_iload_n hx hb dX12_againstAuthors_22 rfl (lv_at hl 2 rfl) ?_
    replace hm := bd_some hm
    obtain ⟨e13, hc13, hm⟩ := hm
    refine kV_i (rest := []) (ws' := (w_X12_againstAuthors cI aM aM_s aM_ke aM_te aM_re aM_bo aM_bn aM_sh aM_in aM_su aM_gr aM_tr aM_ou aM_ro M_s M_km M_n M_be M_ma M_so M_om)) S (c_X12_authors l D cI cJ cZ cS aM aM_s aM_ke aM_te aM_re aM_bo aM_bn aM_sh aM_in aM_su aM_gr aM_tr aM_ou aM_ro M_s M_km M_n M_be M_ma M_so M_om x2 e13 hc13) k2 hK hP hD hS hA 0 rfl rfl rfl rfl hl.1 rfl (Nat.le_of_ble_eq_true rfl) ⟨Nat.zero_le _, Nat.zero_le _⟩ dX12_againstAuthors_23 [0, 1] rfl rfl wa_X12_authors (sa_eq [] [] 2 rfl rfl rfl rfl rfl rfl rfl) (fun H locs hP hD hS => ?_)
    exact J26 e13 hm H locs ls hP hD hS (lv_sub hl [0, 1, 2] rfl)
  · replace hm := if_f c12 hm
    refine lv_aload_n hx hb dX12_againstAuthors_13 rfl (lv_at hl 0 rfl) ?_
    refine lv_iload_n hx hb dX12_againstAuthors_14 rfl (lv_at hl 1 rfl) ?_
    replace hm := bd_some hm
    obtain ⟨e14, hc14, hm⟩ := hm
    refine kV_i (rest := []) (ws' := (w_X12_againstAuthors cI aM aM_s aM_ke aM_te aM_re aM_bo aM_bn aM_sh aM_in aM_su aM_gr aM_tr aM_ou aM_ro M_s M_km M_n M_be M_ma M_so M_om)) S (c_X12_authors l D cI cJ cZ cS aM aM_s aM_ke aM_te aM_re aM_bo aM_bn aM_sh aM_in aM_su aM_gr aM_tr aM_ou aM_ro M_s M_km M_n M_be M_ma M_so M_om x1 e14 hc14) k2 hK hP hD hS hA 0 rfl rfl rfl rfl hl.1 rfl (Nat.le_of_ble_eq_true rfl) ⟨Nat.zero_le _, Nat.zero_le _⟩ dX12_againstAuthors_15 [0, 1] rfl rfl wa_X12_authors (sa_eq [] [] 2 rfl rfl rfl rfl rfl rfl rfl) (fun H locs hP hD hS => ?_)
    refine lv_goto (tgt := 26) hx hb dX12_againstAuthors_18 (by decide) ?_
    exact J26 e14 hm H locs ls hP hD hS (lv_sub hl [0, 1, 2] rfl)
set_option maxHeartbeats 4000000 in
set_option maxRecDepth 100000 in
theorem c_X12_title (l : Launch) (D : va_G) (cI cJ cZ cS : ClassId) (aM aM_s aM_ke aM_te aM_re aM_bo aM_bn aM_sh aM_in aM_su aM_gr aM_tr aM_ou aM_ro : Nat) (M_s : Nat → Int32) (M_km : Int32) (M_n : Int32) (M_be : Int32) (M_ma : Int32) (M_so : Int32) (M_om : Int32) (x1 : Int32) (o : Int32) (hm : m_X12_title M_s x1 = some o) : MI l yX12_title wsX12_title rm_X12_title D (TY cI cJ cZ cS) [.ref aM, .int x1] (w_X12_title cI aM aM_s aM_ke aM_te aM_re aM_bo aM_bn aM_sh aM_in aM_su aM_gr aM_tr aM_ou aM_ro M_s M_km M_n M_be M_ma M_so M_om) (w_X12_title cI aM aM_s aM_ke aM_te aM_re aM_bo aM_bn aM_sh aM_in aM_su aM_gr aM_tr aM_ou aM_ro M_s M_km M_n M_be M_ma M_so M_om) (o) := by
  refine MI_of (cc := cX12_title) (maxL := 2) (by decide) rfl (Nat.le_of_ble_eq_true rfl) ?_
  intro p e s m args below meth c A Q ls H locs hx hb hml hts hown hK hA hP hD hS hl hret
  have hown : s.vm.findClass RX12 = some m.cls := hown
  have hKv : va_K D vwCl (TY cI cJ cZ cS) s := hK.1
  have hl : lv_has ls 2 [(0, .ref aM), (1, .int x1)] := hl
  have S : CallFix p m c cX12_title 2 s args wsX12_title RX12 := ⟨hx, hb, hml, hown, hts⟩
  have k1 := hts (.fieldLink RX12 7 "CitationFormatterModel" "s" "[I") (by decide +kernel)
  have k2 : ∀ w ∈ wsX120, w ∈ wsX12_title := by decide +kernel
  refine lv_aload_n hx hb dX12_title_0 rfl (lv_at hl 0 rfl) ?_
  refine va_get (D := D) (ci := 12) (v := .ref aM_s) (C := RX12) (T := TX12) (N := 19) hx hb hts k2 hown hKv hP 0 rfl rfl 0 (by decide) k1 (fun _ h9 => h9) rfl dX12_title_1 ?_
  refine lv_iconst (v := 1) hx hb dX12_title_4 (by decide) ?_
  refine lv_bipush (v := 7) hx hb dX12_title_5 (by decide) ?_
  refine lv_iload_n hx hb dX12_title_7 rfl (lv_at hl 1 rfl) ?_
  refine lv_imul hx hb dX12_title_8 ?_
  refine lv_iadd hx hb dX12_title_9 ?_
  refine lv_bipush (v := 6) hx hb dX12_title_10 (by decide) ?_
  refine lv_iadd hx hb dX12_title_12 ?_
  replace hm := ck_some hm
  obtain ⟨h1, hm⟩ := hm
  refine va_iald hx hb hKv hP 1 0 rfl rfl h1 dX12_title_13 ?_
  have h9 := Option.some.inj hm
  subst h9
  exact hret H locs _ ls _ hP hD hS rfl dX12_title_14
set_option maxHeartbeats 4000000 in
set_option maxRecDepth 100000 in
theorem c_X12_against (l : Launch) (D : va_G) (cI cJ cZ cS : ClassId) (aM aM_s aM_ke aM_te aM_re aM_bo aM_bn aM_sh aM_in aM_su aM_gr aM_tr aM_ou aM_ro : Nat) (M_s : Nat → Int32) (M_km : Int32) (M_n : Int32) (M_be : Int32) (M_ma : Int32) (M_so : Int32) (M_om : Int32) (x1 : Int32) (x2 : Int32) (o : Int32) (hm : m_X12_against M_s x1 x2 = some o) : MI l yX12_against wsX12_against rm_X12_against D (TY cI cJ cZ cS) [.ref aM, .int x1, .int x2] (w_X12_against cI aM aM_s aM_ke aM_te aM_re aM_bo aM_bn aM_sh aM_in aM_su aM_gr aM_tr aM_ou aM_ro M_s M_km M_n M_be M_ma M_so M_om) (w_X12_against cI aM aM_s aM_ke aM_te aM_re aM_bo aM_bn aM_sh aM_in aM_su aM_gr aM_tr aM_ou aM_ro M_s M_km M_n M_be M_ma M_so M_om) (o) := by
  refine MI_of (cc := cX12_against) (maxL := 6) (by decide) rfl (Nat.le_of_ble_eq_true rfl) ?_
  intro p e s m args below meth c A Q ls H locs hx hb hml hts hown hK hA hP hD hS hl hret
  have hown : s.vm.findClass RX12 = some m.cls := hown
  have hKv : va_K D vwCl (TY cI cJ cZ cS) s := hK.1
  have hl : lv_has ls 6 [(0, .ref aM), (1, .int x1), (2, .int x2)] := hl
  have S : CallFix p m c cX12_against 6 s args wsX12_against RX12 := ⟨hx, hb, hml, hown, hts⟩
  have k1 := hts (.fieldLink RX12 7 "CitationFormatterModel" "s" "[I") (by decide +kernel)
  have k2 : ∀ w ∈ wsX120, w ∈ wsX12_against := by decide +kernel
  have k3 : CallW rm_X12_against s args RX12 RX12 158 yX12_title cX12_title 2 (some .int) wsX12_title rm_X12_title 0 0 1 := cwV 1 hts gX12_against_X12_title rfl rfl rfl (by decide +kernel) ⟨Nat.le_of_ble_eq_true rfl, Nat.le_of_ble_eq_true rfl⟩
  have k4 : CallW rm_X12_against s args RX12 RX12 155 yX12_year cX12_year 2 (some .int) wsX12_year rm_X12_year 0 0 1 := cwV 1 hts gX12_against_X12_year rfl rfl rfl (by decide +kernel) ⟨Nat.le_of_ble_eq_true rfl, Nat.le_of_ble_eq_true rfl⟩
  have k5 : CallW rm_X12_against s args RX12 RX12 152 yX12_againstAuthors cX12_againstAuthors 5 (some .int) wsX12_againstAuthors rm_X12_againstAuthors 0 0 2 := cwV 2 hts gX12_against_X12_againstAuthors rfl rfl rfl (by decide +kernel) ⟨Nat.le_of_ble_eq_true rfl, Nat.le_of_ble_eq_true rfl⟩
  have J108 : ∀ (y0_j108 : Int32), (m_X12_against_J108 y0_j108 = some o) → ∀ (H : Heap) (locs : List Loc) (ls : Array Slot), va_P D vwCl (w_X12_against cI aM aM_s aM_ke aM_te aM_re aM_bo aM_bn aM_sh aM_in aM_su aM_gr aM_tr aM_ou aM_ro M_s M_km M_n M_be M_ma M_so M_om) H → va_D A (w_X12_against cI aM aM_s aM_ke aM_te aM_re aM_bo aM_bn aM_sh aM_in aM_su aM_gr aM_tr aM_ou aM_ro M_s M_km M_n M_be M_ma M_so M_om) → va_S A s.heap H locs → lv_has ls 6 [(0, .ref aM)] → W p l e rm_X12_against s m args below meth c H locs 0 0 Q (F0 m 108 ls [.int y0_j108]) := by
    intro y0_j108 hm H locs ls hP hD hS hl
    have h9 := Option.some.inj hm
    subst h9
    exact hret H locs _ ls _ hP hD hS rfl dX12_against_108
  refine lv_iconst (v := 0) hx hb dX12_against_0 (by decide) ?_
  refine lv_istore_n (lv' := [(3, .int 0), (0, .ref aM), (1, .int x1), (2, .int x2)]) hx hb dX12_against_1 rfl hl (by decide) rfl (fun ls hl => ?_)
  replace hm := bd_some hm
  obtain ⟨e1, hc1, hm⟩ := hm
  have X1_0 : ∀ v1_0, e1 = Sum.inl v1_0 → ∀ (H : Heap) (locs : List Loc) (ls : Array Slot), va_P D vwCl (w_X12_against cI aM aM_s aM_ke aM_te aM_re aM_bo aM_bn aM_sh aM_in aM_su aM_gr aM_tr aM_ou aM_ro M_s M_km M_n M_be M_ma M_so M_om) H → va_D A (w_X12_against cI aM aM_s aM_ke aM_te aM_re aM_bo aM_bn aM_sh aM_in aM_su aM_gr aM_tr aM_ou aM_ro M_s M_km M_n M_be M_ma M_so M_om) → va_S A s.heap H locs → lv_has ls 6 [(0, .ref aM), (3, .int v1_0.1), (5, .int v1_0.2)] → W p l e rm_X12_against s m args below meth c H locs 0 0 Q (F0 m 83 ls []) := by
    intro v1_0 h9 H locs ls hP hD hS hl
    subst h9
    replace hm := el_l hm
    refine lv_aload_n hx hb dX12_against_83 rfl (lv_at hl 0 rfl) ?_
    refine va_get (D := D) (ci := 12) (v := .ref aM_s) (C := RX12) (T := TX12) (N := 19) hx hb hts k2 hown hKv hP 0 rfl rfl 0 (by decide) k1 (fun _ h9 => h9) rfl dX12_against_84 ?_
    refine lv_bipush (v := 64) hx hb dX12_against_87 (by decide) ?_
    refine lv_iconst (v := 2) hx hb dX12_against_89 (by decide) ?_
    refine lv_iload_n hx hb dX12_against_90 rfl (lv_at hl 1 rfl) ?_
    refine lv_imul hx hb dX12_against_91 ?_
    refine lv_iadd hx hb dX12_against_92 ?_
    refine lv_iconst (v := 1) hx hb dX12_against_93 (by decide) ?_
    refine lv_iadd hx hb dX12_against_94 ?_
    replace hm := ck_some hm
    obtain ⟨h2, hm⟩ := hm
    refine va_iald hx hb hKv hP 1 0 rfl rfl h2 dX12_against_95 ?_
    refine lv_iconst (v := 1) hx hb dX12_against_96 (by decide) ?_
    refine lv_icmp_ne (tgt := 106) hx hb dX12_against_97 (by decide) (fun c3 => ?_) (fun c3 => ?_)
    · replace hm := if_f c3 hm
      refine lv_iload hx hb dX12_against_106 (lv_at hl 2 rfl) ?_
      exact J108 v1_0.2 hm H locs ls hP hD hS (lv_sub hl [0] rfl)
    · replace hm := if_t c3 hm
      refine lv_iload hx hb dX12_against_100 (lv_at hl 2 rfl) ?_
      refine lv_ineg hx hb dX12_against_102 ?_
      refine lv_goto (tgt := 108) hx hb dX12_against_103 (by decide) ?_
      exact J108 (-v1_0.2) hm H locs ls hP hD hS (lv_sub hl [0] rfl)
  have X1_1 : ∀ v1_1, e1 = Sum.inr (v1_1) → ∀ (H : Heap) (locs : List Loc) (ls : Array Slot), va_P D vwCl (w_X12_against cI aM aM_s aM_ke aM_te aM_re aM_bo aM_bn aM_sh aM_in aM_su aM_gr aM_tr aM_ou aM_ro M_s M_km M_n M_be M_ma M_so M_om) H → va_D A (w_X12_against cI aM aM_s aM_ke aM_te aM_re aM_bo aM_bn aM_sh aM_in aM_su aM_gr aM_tr aM_ou aM_ro M_s M_km M_n M_be M_ma M_so M_om) → va_S A s.heap H locs → lv_has ls 6 [(0, .ref aM), (1, .int x1), (2, .int x2)] → W p l e rm_X12_against s m args below meth c H locs 0 0 Q (F0 m 115 ls []) := by
    intro v1_1 h9 H locs ls hP hD hS hl
    subst h9
    replace hm := el_r hm
    refine lv_iload_n hx hb dX12_against_115 rfl (lv_at hl 1 rfl) ?_
    refine lv_iload_n hx hb dX12_against_116 rfl (lv_at hl 2 rfl) ?_
    refine lv_isub hx hb dX12_against_117 ?_
    have h9 := Option.some.inj hm
    subst h9
    exact hret H locs _ ls _ hP hD hS rfl dX12_against_118
  refine it_W (G := fun (st2 : Int32) => ∀ (H : Heap) (locs : List Loc) (ls : Array Slot), va_P D vwCl (w_X12_against cI aM aM_s aM_ke aM_te aM_re aM_bo aM_bn aM_sh aM_in aM_su aM_gr aM_tr aM_ou aM_ro M_s M_km M_n M_be M_ma M_so M_om) H → va_D A (w_X12_against cI aM aM_s aM_ke aM_te aM_re aM_bo aM_bn aM_sh aM_in aM_su aM_gr aM_tr aM_ou aM_ro M_s M_km M_n M_be M_ma M_so M_om) → va_S A s.heap H locs → lv_has ls 6 [(0, .ref aM), (1, .int x1), (2, .int x2), (3, .int st2)] → W p l e rm_X12_against s m args below meth c H locs 0 0 Q (F0 m 2 ls [])) (e := e1) (fun st2 x hm hG hE => ?_) fu _ hc1 H locs ls hP hD hS (lv_sub hl [1, 2, 3, 0] rfl)
  intro H locs ls hP hD hS hl
  have J76 : ∀ (x3_j76 : Int32) (y0_j76 : Int32), (m_X12_against_J76 x1 x2 x3_j76 y0_j76 = some x) → ∀ (H : Heap) (locs : List Loc) (ls : Array Slot), va_P D vwCl (w_X12_against cI aM aM_s aM_ke aM_te aM_re aM_bo aM_bn aM_sh aM_in aM_su aM_gr aM_tr aM_ou aM_ro M_s M_km M_n M_be M_ma M_so M_om) H → va_D A (w_X12_against cI aM aM_s aM_ke aM_te aM_re aM_bo aM_bn aM_sh aM_in aM_su aM_gr aM_tr aM_ou aM_ro M_s M_km M_n M_be M_ma M_so M_om) → va_S A s.heap H locs → lv_has ls 6 [(0, .ref aM), (1, .int x1), (2, .int x2), (3, .int x3_j76)] → W p l e rm_X12_against s m args below meth c H locs 0 0 Q (F0 m 76 ls [.int y0_j76]) := by
    intro x3_j76 y0_j76 hm H locs ls hP hD hS hl
    refine lv_istore (lv' := [(5, .int y0_j76), (0, .ref aM), (1, .int x1), (2, .int x2), (3, .int x3_j76)]) hx hb dX12_against_76 hl (by decide) rfl (fun ls hl => ?_)
    refine lv_iload hx hb dX12_against_78 (lv_at hl 0 rfl) ?_
    refine lv_if_eq (tgt := 109) hx hb dX12_against_80 (by decide) (fun c4 => ?_) (fun c4 => ?_)
    · replace hm := if_t c4 hm
      refine lv_iinc (v := (x3_j76 + 1)) (lv' := [(3, .int (x3_j76 + 1)), (5, .int y0_j76), (0, .ref aM), (1, .int x1), (2, .int x2)]) hx hb dX12_against_109 hl (k := 4) rfl rfl (by decide) rfl (fun ls hl => ?_)
      refine lv_goto (tgt := 2) hx hb dX12_against_112 (by decide) ?_
      exact hG _ (Option.some.inj hm).symm H locs ls hP hD hS (lv_sub hl [2, 3, 4, 0] rfl)
    · replace hm := if_f c4 hm
      exact X1_0 _ (hE _ (Option.some.inj hm).symm).symm H locs ls hP hD hS (lv_sub hl [1, 4, 0] rfl)
  refine lv_iload_n hx hb dX12_against_2 rfl (lv_at hl 3 rfl) ?_
  refine lv_iconst (v := 3) hx hb dX12_against_3 (by decide) ?_
  refine lv_icmp_ge (tgt := 115) hx hb dX12_against_4 (by decide) (fun c5 => ?_) (fun c5 => ?_)
  · replace hm := if_t c5 hm
    exact X1_1 _ (hE _ (Option.some.inj hm).symm).symm H locs ls hP hD hS (lv_sub hl [0, 1, 2] rfl)
  · replace hm := if_f c5 hm
    refine lv_aload_n hx hb dX12_against_7 rfl (lv_at hl 0 rfl) ?_
    refine va_get (D := D) (ci := 12) (v := .ref aM_s) (C := RX12) (T := TX12) (N := 19) hx hb hts k2 hown hKv hP 0 rfl rfl 0 (by decide) k1 (fun _ h9 => h9) rfl dX12_against_8 ?_
    refine lv_bipush (v := 64) hx hb dX12_against_11 (by decide) ?_
    refine lv_iconst (v := 2) hx hb dX12_against_13 (by decide) ?_
    refine lv_iload_n hx hb dX12_against_14 rfl (lv_at hl 3 rfl) ?_
    refine lv_imul hx hb dX12_against_15 ?_
    refine lv_iadd hx hb dX12_against_16 ?_
    replace hm := ck_some hm
    obtain ⟨h6, hm⟩ := hm
    refine va_iald hx hb hKv hP 1 0 rfl rfl h6 dX12_against_17 ?_
    refine lv_istore (lv' := [(4, .int (M_s (Int32.toNatClampNeg (64 + (2 * st2))))), (0, .ref aM), (1, .int x1), (2, .int x2), (3, .int st2)]) hx hb dX12_against_18 hl (by decide) rfl (fun ls hl => ?_)
    refine lv_iload hx hb dX12_against_20 (lv_at hl 0 rfl) ?_
    refine lv_iconst (v := 1) hx hb dX12_against_22 (by decide) ?_
    refine lv_icmp_ne (tgt := 35) hx hb dX12_against_23 (by decide) (fun c7 => ?_) (fun c7 => ?_)
    · replace hm := if_f c7 hm
      refine lv_iload hx hb dX12_against_35 (lv_at hl 0 rfl) ?_
      refine lv_iconst (v := 2) hx hb dX12_against_37 (by decide) ?_
      refine lv_icmp_ne (tgt := 55) hx hb dX12_against_38 (by decide) (fun c8 => ?_) (fun c8 => ?_)
      · replace hm := if_f c8 hm
        refine lv_iload hx hb dX12_against_55 (lv_at hl 0 rfl) ?_
        refine lv_iconst (v := 3) hx hb dX12_against_57 (by decide) ?_
        refine lv_icmp_ne (tgt := 75) hx hb dX12_against_58 (by decide) (fun c9 => ?_) (fun c9 => ?_)
        · replace hm := if_f c9 hm
          refine lv_iconst (v := 0) hx hb dX12_against_75 (by decide) ?_
          exact J76 st2 0 hm H locs ls hP hD hS (lv_sub hl [1, 2, 3, 4] rfl)
        · replace hm := if_t c9 hm
          refine lv_aload_n hx hb dX12_against_61 rfl (lv_at hl 1 rfl) ?_
          refine lv_iload_n hx hb dX12_against_62 rfl (lv_at hl 2 rfl) ?_
          replace hm := bd_some hm
          obtain ⟨e10, hc10, hm⟩ := hm
          refine kV_i (rest := []) (ws' := (w_X12_against cI aM aM_s aM_ke aM_te aM_re aM_bo aM_bn aM_sh aM_in aM_su aM_gr aM_tr aM_ou aM_ro M_s M_km M_n M_be M_ma M_so M_om)) S (c_X12_title l D cI cJ cZ cS aM aM_s aM_ke aM_te aM_re aM_bo aM_bn aM_sh aM_in aM_su aM_gr aM_tr aM_ou aM_ro M_s M_km M_n M_be M_ma M_so M_om x1 e10 hc10) k3 hK hP hD hS hA 0 rfl rfl rfl rfl hl.1 rfl (Nat.le_of_ble_eq_true rfl) ⟨Nat.zero_le _, Nat.zero_le _⟩ dX12_against_63 [0, 1] rfl rfl wa_X12_title (sa_eq [] [] 2 rfl rfl rfl rfl rfl rfl rfl) (fun H locs hP hD hS => ?_)
          refine lv_aload_n hx hb dX12_against_66 rfl (lv_at hl 1 rfl) ?_
          refine lv_iload_n hx hb dX12_against_67 rfl (lv_at hl 3 rfl) ?_
          replace hm := bd_some hm
          obtain ⟨e11, hc11, hm⟩ := hm
          refine kV_i (rest := [.int e10]) (ws' := (w_X12_against cI aM aM_s aM_ke aM_te aM_re aM_bo aM_bn aM_sh aM_in aM_su aM_gr aM_tr aM_ou aM_ro M_s M_km M_n M_be M_ma M_so M_om)) S (c_X12_title l D cI cJ cZ cS aM aM_s aM_ke aM_te aM_re aM_bo aM_bn aM_sh aM_in aM_su aM_gr aM_tr aM_ou aM_ro M_s M_km M_n M_be M_ma M_so M_om x2 e11 hc11) k3 hK hP hD hS hA 0 rfl rfl rfl rfl hl.1 rfl (Nat.le_of_ble_eq_true rfl) ⟨Nat.zero_le _, Nat.zero_le _⟩ dX12_against_68 [0, 1] rfl rfl wa_X12_title (sa_eq [] [] 2 rfl rfl rfl rfl rfl rfl rfl) (fun H locs hP hD hS => ?_)
          refine lv_isub hx hb dX12_against_71 ?_
          refine lv_goto (tgt := 76) hx hb dX12_against_72 (by decide) ?_
          exact J76 st2 (e10 - e11) hm H locs ls hP hD hS (lv_sub hl [1, 2, 3, 4] rfl)
      · replace hm := if_t c8 hm
        refine lv_aload_n hx hb dX12_against_41 rfl (lv_at hl 1 rfl) ?_
        refine lv_iload_n hx hb dX12_against_42 rfl (lv_at hl 2 rfl) ?_
        replace hm := bd_some hm
        obtain ⟨e12, hc12, hm⟩ := hm
        refine kV_i (rest := []) (ws' := (w_X12_against cI aM aM_s aM_ke aM_te aM_re aM_bo aM_bn aM_sh aM_in aM_su aM_gr aM_tr aM_ou aM_ro M_s M_km M_n M_be M_ma M_so M_om)) S (c_X12_year l D cI cJ cZ cS aM aM_s aM_ke aM_te aM_re aM_bo aM_bn aM_sh aM_in aM_su aM_gr aM_tr aM_ou aM_ro M_s M_km M_n M_be M_ma M_so M_om x1 e12 hc12) k4 hK hP hD hS hA 0 rfl rfl rfl rfl hl.1 rfl (Nat.le_of_ble_eq_true rfl) ⟨Nat.zero_le _, Nat.zero_le _⟩ dX12_against_43 [0, 1] rfl rfl wa_X12_year (sa_eq [] [] 2 rfl rfl rfl rfl rfl rfl rfl) (fun H locs hP hD hS => ?_)
        refine lv_aload_n hx hb dX12_against_46 rfl (lv_at hl 1 rfl) ?_
        refine lv_iload_n hx hb dX12_against_47 rfl (lv_at hl 3 rfl) ?_
        replace hm := bd_some hm
        obtain ⟨e13, hc13, hm⟩ := hm
        refine kV_i (rest := [.int e12]) (ws' := (w_X12_against cI aM aM_s aM_ke aM_te aM_re aM_bo aM_bn aM_sh aM_in aM_su aM_gr aM_tr aM_ou aM_ro M_s M_km M_n M_be M_ma M_so M_om)) S (c_X12_year l D cI cJ cZ cS aM aM_s aM_ke aM_te aM_re aM_bo aM_bn aM_sh aM_in aM_su aM_gr aM_tr aM_ou aM_ro M_s M_km M_n M_be M_ma M_so M_om x2 e13 hc13) k4 hK hP hD hS hA 0 rfl rfl rfl rfl hl.1 rfl (Nat.le_of_ble_eq_true rfl) ⟨Nat.zero_le _, Nat.zero_le _⟩ dX12_against_48 [0, 1] rfl rfl wa_X12_year (sa_eq [] [] 2 rfl rfl rfl rfl rfl rfl rfl) (fun H locs hP hD hS => ?_)
        refine lv_isub hx hb dX12_against_51 ?_
        refine lv_goto (tgt := 76) hx hb dX12_against_52 (by decide) ?_
        exact J76 st2 (e12 - e13) hm H locs ls hP hD hS (lv_sub hl [1, 2, 3, 4] rfl)
    · replace hm := if_t c7 hm
      refine lv_aload_n hx hb dX12_against_26 rfl (lv_at hl 1 rfl) ?_
      refine lv_iload_n hx hb dX12_against_27 rfl (lv_at hl 2 rfl) ?_
      refine lv_iload_n hx hb dX12_against_28 rfl (lv_at hl 3 rfl) ?_
      replace hm := bd_some hm
      obtain ⟨e14, hc14, hm⟩ := hm
      refine kV_i (rest := []) (ws' := (w_X12_against cI aM aM_s aM_ke aM_te aM_re aM_bo aM_bn aM_sh aM_in aM_su aM_gr aM_tr aM_ou aM_ro M_s M_km M_n M_be M_ma M_so M_om)) S (c_X12_againstAuthors l D cI cJ cZ cS aM aM_s aM_ke aM_te aM_re aM_bo aM_bn aM_sh aM_in aM_su aM_gr aM_tr aM_ou aM_ro M_s M_km M_n M_be M_ma M_so M_om x1 x2 e14 hc14) k5 hK hP hD hS hA 0 rfl rfl rfl rfl hl.1 rfl (Nat.le_of_ble_eq_true rfl) ⟨Nat.zero_le _, Nat.zero_le _⟩ dX12_against_29 [0, 1] rfl rfl wa_X12_againstAuthors (sa_eq [] [] 2 rfl rfl rfl rfl rfl rfl rfl) (fun H locs hP hD hS => ?_)
      refine lv_goto (tgt := 76) hx hb dX12_against_32 (by decide) ?_
      exact J76 st2 e14 hm H locs ls hP hD hS (lv_sub hl [1, 2, 3, 4] rfl)
set_option maxHeartbeats 4000000 in
set_option maxRecDepth 100000 in
theorem c_X12_layOrder (l : Launch) (D : va_G) (cI cJ cZ cS : ClassId) (aM aM_s aM_ke aM_te aM_re aM_bo aM_bn aM_sh aM_in aM_su aM_gr aM_tr aM_ou aM_ro : Nat) (M_s : Nat → Int32) (M_km : Int32) (M_n : Int32) (M_be : Int32) (M_ma : Int32) (M_so : Int32) (M_bo : Nat → Int32) (M_om : Int32) (o : (Nat → Int32)) (hm : m_X12_layOrder M_s M_bo = some o) : MV l yX12_layOrder wsX12_layOrder rm_X12_layOrder D (TY cI cJ cZ cS) [.ref aM] (w_X12_layOrder cI aM aM_s aM_ke aM_te aM_re aM_bo aM_bn aM_sh aM_in aM_su aM_gr aM_tr aM_ou aM_ro M_s M_km M_n M_be M_ma M_so M_bo M_om) (w_X12_layOrder cI aM aM_s aM_ke aM_te aM_re aM_bo aM_bn aM_sh aM_in aM_su aM_gr aM_tr aM_ou aM_ro M_s M_km M_n M_be M_ma M_so o M_om) := by
  refine MV_of (cc := cX12_layOrder) (maxL := 4) (by decide) rfl (Nat.le_of_ble_eq_true rfl) ?_
  intro p e s m args below meth c A Q ls H locs hx hb hml hts hown hK hA hP hD hS hl hret
  have hown : s.vm.findClass RX12 = some m.cls := hown
  have hKv : va_K D vwCl (TY cI cJ cZ cS) s := hK.1
  have hl : lv_has ls 4 [(0, .ref aM)] := hl
  have S : CallFix p m c cX12_layOrder 4 s args wsX12_layOrder RX12 := ⟨hx, hb, hml, hown, hts⟩
  have k1 := hts (.fieldLink RX12 7 "CitationFormatterModel" "s" "[I") (by decide +kernel)
  have k2 : ∀ w ∈ wsX120, w ∈ wsX12_layOrder := by decide +kernel
  have k3 := hts (.fieldLink RX12 22 "CitationFormatterModel" "byOrder" "[I") (by decide +kernel)
  have k4 : CallW rm_X12_layOrder s args RX12 RX12 161 yX12_against cX12_against 6 (some .int) wsX12_against rm_X12_against 0 0 2 := cwV 2 hts gX12_layOrder_X12_against rfl rfl rfl (by decide +kernel) ⟨Nat.le_of_ble_eq_true rfl, Nat.le_of_ble_eq_true rfl⟩
  refine lv_iconst (v := 0) hx hb dX12_layOrder_0 (by decide) ?_
  refine lv_istore_n (lv' := [(1, .int 0), (0, .ref aM)]) hx hb dX12_layOrder_1 rfl hl (by decide) rfl (fun ls hl => ?_)
  replace hm := bd_some hm
  obtain ⟨e1, hc1, hm⟩ := hm
  have X1_0 : ∀ (H : Heap) (locs : List Loc) (ls : Array Slot), va_P D vwCl (w_X12_layOrder cI aM aM_s aM_ke aM_te aM_re aM_bo aM_bn aM_sh aM_in aM_su aM_gr aM_tr aM_ou aM_ro M_s M_km M_n M_be M_ma M_so e1 M_om) H → va_D A (w_X12_layOrder cI aM aM_s aM_ke aM_te aM_re aM_bo aM_bn aM_sh aM_in aM_su aM_gr aM_tr aM_ou aM_ro M_s M_km M_n M_be M_ma M_so e1 M_om) → va_S A s.heap H locs → lv_has ls 4 [(0, .ref aM)] → W p l e rm_X12_layOrder s m args below meth c H locs 0 0 Q (F0 m 67 ls []) := by
    intro H locs ls hP hD hS hl
    have h9 := Option.some.inj hm
    subst h9
    exact hret H locs _ ls hP hD hS dX12_layOrder_67
  refine it_W (G := fun (st2 : Int32 × (Nat → Int32)) => ∀ (H : Heap) (locs : List Loc) (ls : Array Slot), va_P D vwCl (w_X12_layOrder cI aM aM_s aM_ke aM_te aM_re aM_bo aM_bn aM_sh aM_in aM_su aM_gr aM_tr aM_ou aM_ro M_s M_km M_n M_be M_ma M_so st2.2 M_om) H → va_D A (w_X12_layOrder cI aM aM_s aM_ke aM_te aM_re aM_bo aM_bn aM_sh aM_in aM_su aM_gr aM_tr aM_ou aM_ro M_s M_km M_n M_be M_ma M_so st2.2 M_om) → va_S A s.heap H locs → lv_has ls 4 [(0, .ref aM), (1, .int st2.1)] → W p l e rm_X12_layOrder s m args below meth c H locs 0 0 Q (F0 m 2 ls [])) (e := e1) (fun st2 x hm hG hE => ?_) fu _ hc1 H locs ls hP hD hS (lv_sub hl [1, 0] rfl)
  intro H locs ls hP hD hS hl
  refine lv_iload_n hx hb dX12_layOrder_2 rfl (lv_at hl 1 rfl) ?_
  refine lv_aload_n hx hb dX12_layOrder_3 rfl (lv_at hl 0 rfl) ?_
  refine va_get (D := D) (ci := 12) (v := .ref aM_s) (C := RX12) (T := TX12) (N := 19) hx hb hts k2 hown hKv hP 0 rfl rfl 0 (by decide) k1 (fun _ h9 => h9) rfl dX12_layOrder_4 ?_
  refine lv_iconst (v := 0) hx hb dX12_layOrder_7 (by decide) ?_
  replace hm := ck_some hm
  obtain ⟨h2, hm⟩ := hm
  refine va_iald hx hb hKv hP 1 0 rfl rfl h2 dX12_layOrder_8 ?_
  refine lv_icmp_ge (tgt := 67) hx hb dX12_layOrder_9 (by decide) (fun c3 => ?_) (fun c3 => ?_)
  · replace hm := if_t c3 hm
    have h9 := hE _ (Option.some.inj hm).symm
    subst h9
    exact X1_0 H locs ls hP hD hS (lv_sub hl [0] rfl)
  · replace hm := if_f c3 hm
    refine lv_iconst (v := 0) hx hb dX12_layOrder_12 (by decide) ?_
    refine lv_istore_n (lv' := [(2, .int 0), (0, .ref aM), (1, .int st2.1)]) hx hb dX12_layOrder_13 rfl hl (by decide) rfl (fun ls hl => ?_)
    refine lv_iconst (v := 0) hx hb dX12_layOrder_14 (by decide) ?_
    refine lv_istore_n (lv' := [(3, .int 0), (2, .int 0), (0, .ref aM), (1, .int st2.1)]) hx hb dX12_layOrder_15 rfl hl (by decide) rfl (fun ls hl => ?_)
    replace hm := bd_some hm
    obtain ⟨e4, hc4, hm⟩ := hm
    have X4_0 : ∀ (H : Heap) (locs : List Loc) (ls : Array Slot), va_P D vwCl (w_X12_layOrder cI aM aM_s aM_ke aM_te aM_re aM_bo aM_bn aM_sh aM_in aM_su aM_gr aM_tr aM_ou aM_ro M_s M_km M_n M_be M_ma M_so st2.2 M_om) H → va_D A (w_X12_layOrder cI aM aM_s aM_ke aM_te aM_re aM_bo aM_bn aM_sh aM_in aM_su aM_gr aM_tr aM_ou aM_ro M_s M_km M_n M_be M_ma M_so st2.2 M_om) → va_S A s.heap H locs → lv_has ls 4 [(0, .ref aM), (1, .int st2.1), (2, .int e4)] → W p l e rm_X12_layOrder s m args below meth c H locs 0 0 Q (F0 m 54 ls []) := by
      intro H locs ls hP hD hS hl
      refine lv_aload_n hx hb dX12_layOrder_54 rfl (lv_at hl 0 rfl) ?_
      refine va_get (D := D) (ci := 12) (v := .ref aM_bo) (C := RX12) (T := TX12) (N := 19) hx hb hts k2 hown hKv hP 0 rfl rfl 9 (by decide) k3 (fun _ h9 => h9) rfl dX12_layOrder_55 ?_
      refine lv_iload_n hx hb dX12_layOrder_58 rfl (lv_at hl 2 rfl) ?_
      refine lv_iload_n hx hb dX12_layOrder_59 rfl (lv_at hl 1 rfl) ?_
      replace hm := ck_some hm
      obtain ⟨h5, hm⟩ := hm
      refine va_iast hx hb hKv hP hD hS 2 0 rfl rfl h5 dX12_layOrder_60 (fun H locs hP hD hS => ?_)
      replace hP : va_P D vwCl (w_X12_layOrder cI aM aM_s aM_ke aM_te aM_re aM_bo aM_bn aM_sh aM_in aM_su aM_gr aM_tr aM_ou aM_ro M_s M_km M_n M_be M_ma M_so (upd st2.2 (Int32.toNatClampNeg e4) st2.1) M_om) H := hP
      replace hD : va_D A (w_X12_layOrder cI aM aM_s aM_ke aM_te aM_re aM_bo aM_bn aM_sh aM_in aM_su aM_gr aM_tr aM_ou aM_ro M_s M_km M_n M_be M_ma M_so (upd st2.2 (Int32.toNatClampNeg e4) st2.1) M_om) := hD
      refine lv_iinc (v := (st2.1 + 1)) (lv' := [(1, .int (st2.1 + 1)), (0, .ref aM), (2, .int e4)]) hx hb dX12_layOrder_61 hl (k := 1) rfl rfl (by decide) rfl (fun ls hl => ?_)
      refine lv_goto (tgt := 2) hx hb dX12_layOrder_64 (by decide) ?_
      exact hG _ (Option.some.inj hm).symm H locs ls hP hD hS (lv_sub hl [1, 0] rfl)
    refine it_W (G := fun (st16 : Int32 × Int32) => ∀ (H : Heap) (locs : List Loc) (ls : Array Slot), va_P D vwCl (w_X12_layOrder cI aM aM_s aM_ke aM_te aM_re aM_bo aM_bn aM_sh aM_in aM_su aM_gr aM_tr aM_ou aM_ro M_s M_km M_n M_be M_ma M_so st2.2 M_om) H → va_D A (w_X12_layOrder cI aM aM_s aM_ke aM_te aM_re aM_bo aM_bn aM_sh aM_in aM_su aM_gr aM_tr aM_ou aM_ro M_s M_km M_n M_be M_ma M_so st2.2 M_om) → va_S A s.heap H locs → lv_has ls 4 [(0, .ref aM), (1, .int st2.1), (2, .int st16.1), (3, .int st16.2)] → W p l e rm_X12_layOrder s m args below meth c H locs 0 0 Q (F0 m 16 ls [])) (e := e4) (fun st16 x hm hG hE => ?_) fu _ hc4 H locs ls hP hD hS (lv_sub hl [2, 3, 1, 0] rfl)
    intro H locs ls hP hD hS hl
    have J46 : ∀ (x3_j46 : Int32) (y0_j46 : Int32) (y1_j46 : Int32), (m_X12_layOrder_J46 st2.1 x3_j46 y0_j46 y1_j46 = some x) → ∀ (H : Heap) (locs : List Loc) (ls : Array Slot), va_P D vwCl (w_X12_layOrder cI aM aM_s aM_ke aM_te aM_re aM_bo aM_bn aM_sh aM_in aM_su aM_gr aM_tr aM_ou aM_ro M_s M_km M_n M_be M_ma M_so st2.2 M_om) H → va_D A (w_X12_layOrder cI aM aM_s aM_ke aM_te aM_re aM_bo aM_bn aM_sh aM_in aM_su aM_gr aM_tr aM_ou aM_ro M_s M_km M_n M_be M_ma M_so st2.2 M_om) → va_S A s.heap H locs → lv_has ls 4 [(0, .ref aM), (1, .int st2.1), (3, .int x3_j46)] → W p l e rm_X12_layOrder s m args below meth c H locs 0 0 Q (F0 m 46 ls [.int y0_j46, .int y1_j46]) := by
      intro x3_j46 y0_j46 y1_j46 hm H locs ls hP hD hS hl
      refine lv_iadd hx hb dX12_layOrder_46 ?_
      refine lv_istore_n (lv' := [(2, .int (y1_j46 + y0_j46)), (0, .ref aM), (1, .int st2.1), (3, .int x3_j46)]) hx hb dX12_layOrder_47 rfl hl (by decide) rfl (fun ls hl => ?_)
      refine lv_iinc (v := (x3_j46 + 1)) (lv' := [(3, .int (x3_j46 + 1)), (2, .int (y1_j46 + y0_j46)), (0, .ref aM), (1, .int st2.1)]) hx hb dX12_layOrder_48 hl (k := 3) rfl rfl (by decide) rfl (fun ls hl => ?_)
      refine lv_goto (tgt := 16) hx hb dX12_layOrder_51 (by decide) ?_
      exact hG _ (Option.some.inj hm).symm H locs ls hP hD hS (lv_sub hl [2, 3, 1, 0] rfl)
    have J45 : ∀ (x3_j45 : Int32) (y0_j45 : Int32), (m_X12_layOrder_J45 st2.1 x3_j45 y0_j45 = some x) → ∀ (H : Heap) (locs : List Loc) (ls : Array Slot), va_P D vwCl (w_X12_layOrder cI aM aM_s aM_ke aM_te aM_re aM_bo aM_bn aM_sh aM_in aM_su aM_gr aM_tr aM_ou aM_ro M_s M_km M_n M_be M_ma M_so st2.2 M_om) H → va_D A (w_X12_layOrder cI aM aM_s aM_ke aM_te aM_re aM_bo aM_bn aM_sh aM_in aM_su aM_gr aM_tr aM_ou aM_ro M_s M_km M_n M_be M_ma M_so st2.2 M_om) → va_S A s.heap H locs → lv_has ls 4 [(0, .ref aM), (1, .int st2.1), (3, .int x3_j45)] → W p l e rm_X12_layOrder s m args below meth c H locs 0 0 Q (F0 m 45 ls [.int y0_j45]) := by
      intro x3_j45 y0_j45 hm H locs ls hP hD hS hl
      refine lv_iconst (v := 0) hx hb dX12_layOrder_45 (by decide) ?_
      exact J46 x3_j45 0 y0_j45 hm H locs ls hP hD hS (lv_sub hl [0, 1, 2] rfl)
    refine lv_iload_n hx hb dX12_layOrder_16 rfl (lv_at hl 3 rfl) ?_
    refine lv_aload_n hx hb dX12_layOrder_17 rfl (lv_at hl 0 rfl) ?_
    refine va_get (D := D) (ci := 12) (v := .ref aM_s) (C := RX12) (T := TX12) (N := 19) hx hb hts k2 hown hKv hP 0 rfl rfl 0 (by decide) k1 (fun _ h9 => h9) rfl dX12_layOrder_18 ?_
    refine lv_iconst (v := 0) hx hb dX12_layOrder_21 (by decide) ?_
    replace hm := ck_some hm
    obtain ⟨h6, hm⟩ := hm
    refine va_iald hx hb hKv hP 1 0 rfl rfl h6 dX12_layOrder_22 ?_
    refine lv_icmp_ge (tgt := 54) hx hb dX12_layOrder_23 (by decide) (fun c7 => ?_) (fun c7 => ?_)
    · replace hm := if_t c7 hm
      have h9 := hE _ (Option.some.inj hm).symm
      subst h9
      exact X4_0 H locs ls hP hD hS (lv_sub hl [0, 1, 2] rfl)
    · replace hm := if_f c7 hm
      refine lv_iload_n hx hb dX12_layOrder_26 rfl (lv_at hl 2 rfl) ?_
      refine lv_iload_n hx hb dX12_layOrder_27 rfl (lv_at hl 3 rfl) ?_
      refine lv_iload_n hx hb dX12_layOrder_28 rfl (lv_at hl 1 rfl) ?_
      refine lv_icmp_eq (tgt := 45) hx hb dX12_layOrder_29 (by decide) (fun c8 => ?_) (fun c8 => ?_)
      · replace hm := if_t c8 hm
        exact J45 st16.2 st16.1 hm H locs ls hP hD hS (lv_sub hl [0, 1, 3] rfl)
      · replace hm := if_f c8 hm
        refine lv_aload_n hx hb dX12_layOrder_32 rfl (lv_at hl 0 rfl) ?_
        refine lv_iload_n hx hb dX12_layOrder_33 rfl (lv_at hl 3 rfl) ?_
        refine lv_iload_n hx hb dX12_layOrder_34 rfl (lv_at hl 1 rfl) ?_
        replace hm := bd_some hm
        obtain ⟨e9, hc9, hm⟩ := hm
        refine kV_i (rest := [.int st16.1]) (ws' := (w_X12_layOrder cI aM aM_s aM_ke aM_te aM_re aM_bo aM_bn aM_sh aM_in aM_su aM_gr aM_tr aM_ou aM_ro M_s M_km M_n M_be M_ma M_so st2.2 M_om)) S (c_X12_against l D cI cJ cZ cS aM aM_s aM_ke aM_te aM_re aM_bo aM_bn aM_sh aM_in aM_su aM_gr aM_tr aM_ou aM_ro M_s M_km M_n M_be M_ma M_so M_om st16.2 st2.1 e9 hc9) k4 hK hP hD hS hA 0 rfl rfl rfl rfl hl.1 rfl (Nat.le_of_ble_eq_true rfl) ⟨Nat.zero_le _, Nat.zero_le _⟩ dX12_layOrder_35 [0, 1] rfl rfl wa_X12_against (sa_eq [(aM_bo, .inl (cI, 8, .inl st2.2))] [2] 3 rfl rfl rfl rfl rfl rfl rfl) (fun H locs hP hD hS => ?_)
        refine lv_if_ge (tgt := 45) hx hb dX12_layOrder_38 (by decide) (fun c10 => ?_) (fun c10 => ?_)
        · replace hm := if_t c10 hm
          exact J45 st16.2 st16.1 hm H locs ls hP hD hS (lv_sub hl [0, 1, 3] rfl)
        · replace hm := if_f c10 hm
          refine lv_iconst (v := 1) hx hb dX12_layOrder_41 (by decide) ?_
          refine lv_goto (tgt := 46) hx hb dX12_layOrder_42 (by decide) ?_
          exact J46 st16.2 1 st16.1 hm H locs ls hP hD hS (lv_sub hl [0, 1, 3] rfl)
set_option maxHeartbeats 4000000 in
set_option maxRecDepth 100000 in
theorem c_X12_layNumbers (l : Launch) (D : va_G) (cI cJ cZ cS : ClassId) (aM aM_s aM_ke aM_te aM_re aM_bo aM_bn aM_sh aM_in aM_su aM_gr aM_tr aM_ou aM_ro : Nat) (M_s : Nat → Int32) (M_km : Int32) (M_n : Int32) (M_be : Int32) (M_ma : Int32) (M_so : Int32) (M_bo : Nat → Int32) (M_bn : Nat → Int32) (M_om : Int32) (o : (Nat → Int32) × (Nat → Int32)) (hm : m_X12_layNumbers M_s M_bo M_bn = some o) : MV l yX12_layNumbers wsX12_layNumbers rm_X12_layNumbers D (TY cI cJ cZ cS) [.ref aM] (w_X12_layNumbers cI aM aM_s aM_ke aM_te aM_re aM_bo aM_bn aM_sh aM_in aM_su aM_gr aM_tr aM_ou aM_ro M_s M_km M_n M_be M_ma M_so M_bo M_bn M_om) (w_X12_layNumbers cI aM aM_s aM_ke aM_te aM_re aM_bo aM_bn aM_sh aM_in aM_su aM_gr aM_tr aM_ou aM_ro M_s M_km M_n M_be M_ma M_so o.1 o.2 M_om) := by
  refine MV_of (cc := cX12_layNumbers) (maxL := 6) (by decide) rfl (Nat.le_of_ble_eq_true rfl) ?_
  intro p e s m args below meth c A Q ls H locs hx hb hml hts hown hK hA hP hD hS hl hret
  have hown : s.vm.findClass RX12 = some m.cls := hown
  have hKv : va_K D vwCl (TY cI cJ cZ cS) s := hK.1
  have hl : lv_has ls 6 [(0, .ref aM)] := hl
  have S : CallFix p m c cX12_layNumbers 6 s args wsX12_layNumbers RX12 := ⟨hx, hb, hml, hown, hts⟩
  have k1 : CallW rm_X12_layNumbers s args RX12 RX12 164 yX12_layOrder cX12_layOrder 4 none wsX12_layOrder rm_X12_layOrder 0 0 0 := cwV 0 hts gX12_layNumbers_X12_layOrder rfl rfl rfl (by decide +kernel) ⟨Nat.le_of_ble_eq_true rfl, Nat.le_of_ble_eq_true rfl⟩
  have k2 := hts (.fieldLink RX12 7 "CitationFormatterModel" "s" "[I") (by decide +kernel)
  have k3 : ∀ w ∈ wsX120, w ∈ wsX12_layNumbers := by decide +kernel
  have k4 := hts (.fieldLink RX12 22 "CitationFormatterModel" "byOrder" "[I") (by decide +kernel)
  have k5 := hts (.fieldLink RX12 25 "CitationFormatterModel" "byNumber" "[I") (by decide +kernel)
  have k6 : CallW rm_X12_layNumbers s args RX12 RX12 119 yX12_cites cX12_cites 2 (some .int) wsX12_cites rm_X12_cites 0 0 1 := cwV 1 hts gX12_layNumbers_X12_cites rfl rfl rfl (by decide +kernel) ⟨Nat.le_of_ble_eq_true rfl, Nat.le_of_ble_eq_true rfl⟩
  have k7 : CallW rm_X12_layNumbers s args RX12 RX12 122 yX12_cited cX12_cited 3 (some .int) wsX12_cited rm_X12_cited 0 0 2 := cwV 2 hts gX12_layNumbers_X12_cited rfl rfl rfl (by decide +kernel) ⟨Nat.le_of_ble_eq_true rfl, Nat.le_of_ble_eq_true rfl⟩
  refine lv_aload_n hx hb dX12_layNumbers_0 rfl (lv_at hl 0 rfl) ?_
  replace hm := bd_some hm
  obtain ⟨e1, hc1, hm⟩ := hm
  refine kV_v (rest := []) (ws' := (w_X12_layNumbers cI aM aM_s aM_ke aM_te aM_re aM_bo aM_bn aM_sh aM_in aM_su aM_gr aM_tr aM_ou aM_ro M_s M_km M_n M_be M_ma M_so e1 M_bn M_om)) S (c_X12_layOrder l D cI cJ cZ cS aM aM_s aM_ke aM_te aM_re aM_bo aM_bn aM_sh aM_in aM_su aM_gr aM_tr aM_ou aM_ro M_s M_km M_n M_be M_ma M_so M_bo M_om e1 hc1) k1 hK hP hD hS hA 0 rfl rfl rfl rfl hl.1 rfl (Nat.le_of_ble_eq_true rfl) ⟨Nat.zero_le _, Nat.zero_le _⟩ dX12_layNumbers_1 [0, 1, 2] rfl rfl wa_X12_layOrder (sa_eq [(aM_bn, .inl (cI, 8, .inl M_bn))] [3] 4 rfl rfl rfl rfl rfl rfl rfl) (fun H locs hP hD hS => ?_)
  refine lv_iconst (v := 0) hx hb dX12_layNumbers_4 (by decide) ?_
  refine lv_istore_n (lv' := [(1, .int 0), (0, .ref aM)]) hx hb dX12_layNumbers_5 rfl hl (by decide) rfl (fun ls hl => ?_)
  refine lv_iconst (v := 0) hx hb dX12_layNumbers_6 (by decide) ?_
  refine lv_istore_n (lv' := [(2, .int 0), (1, .int 0), (0, .ref aM)]) hx hb dX12_layNumbers_7 rfl hl (by decide) rfl (fun ls hl => ?_)
  refine lv_iconst (v := 0) hx hb dX12_layNumbers_8 (by decide) ?_
  refine lv_istore_n (lv' := [(3, .int 0), (2, .int 0), (1, .int 0), (0, .ref aM)]) hx hb dX12_layNumbers_9 rfl hl (by decide) rfl (fun ls hl => ?_)
  replace hm := bd_some hm
  obtain ⟨e2, hc2, hm⟩ := hm
  have X2_0 : ∀ (H : Heap) (locs : List Loc) (ls : Array Slot), va_P D vwCl (w_X12_layNumbers cI aM aM_s aM_ke aM_te aM_re aM_bo aM_bn aM_sh aM_in aM_su aM_gr aM_tr aM_ou aM_ro M_s M_km M_n M_be M_ma M_so e1 e2.2.2 M_om) H → va_D A (w_X12_layNumbers cI aM aM_s aM_ke aM_te aM_re aM_bo aM_bn aM_sh aM_in aM_su aM_gr aM_tr aM_ou aM_ro M_s M_km M_n M_be M_ma M_so e1 e2.2.2 M_om) → va_S A s.heap H locs → lv_has ls 6 [(0, .ref aM), (1, .int e2.1), (2, .int e2.2.1)] → W p l e rm_X12_layNumbers s m args below meth c H locs 0 0 Q (F0 m 93 ls []) := by
    intro H locs ls hP hD hS hl
    refine lv_iconst (v := 0) hx hb dX12_layNumbers_93 (by decide) ?_
    refine lv_istore_n (lv' := [(3, .int 0), (0, .ref aM), (1, .int e2.1), (2, .int e2.2.1)]) hx hb dX12_layNumbers_94 rfl hl (by decide) rfl (fun ls hl => ?_)
    replace hm := bd_some hm
    obtain ⟨e3, hc3, hm⟩ := hm
    have X3_0 : ∀ (H : Heap) (locs : List Loc) (ls : Array Slot), va_P D vwCl (w_X12_layNumbers cI aM aM_s aM_ke aM_te aM_re aM_bo aM_bn aM_sh aM_in aM_su aM_gr aM_tr aM_ou aM_ro M_s M_km M_n M_be M_ma M_so e1 e3 M_om) H → va_D A (w_X12_layNumbers cI aM aM_s aM_ke aM_te aM_re aM_bo aM_bn aM_sh aM_in aM_su aM_gr aM_tr aM_ou aM_ro M_s M_km M_n M_be M_ma M_so e1 e3 M_om) → va_S A s.heap H locs → lv_has ls 6 [(0, .ref aM)] → W p l e rm_X12_layNumbers s m args below meth c H locs 0 0 Q (F0 m 139 ls []) := by
      intro H locs ls hP hD hS hl
      have h9 := Option.some.inj hm
      subst h9
      exact hret H locs _ ls hP hD hS dX12_layNumbers_139
    refine it_W (G := fun (st95 : Int32 × Int32 × (Nat → Int32)) => ∀ (H : Heap) (locs : List Loc) (ls : Array Slot), va_P D vwCl (w_X12_layNumbers cI aM aM_s aM_ke aM_te aM_re aM_bo aM_bn aM_sh aM_in aM_su aM_gr aM_tr aM_ou aM_ro M_s M_km M_n M_be M_ma M_so e1 st95.2.2 M_om) H → va_D A (w_X12_layNumbers cI aM aM_s aM_ke aM_te aM_re aM_bo aM_bn aM_sh aM_in aM_su aM_gr aM_tr aM_ou aM_ro M_s M_km M_n M_be M_ma M_so e1 st95.2.2 M_om) → va_S A s.heap H locs → lv_has ls 6 [(0, .ref aM), (1, .int st95.1), (2, .int e2.2.1), (3, .int st95.2.1)] → W p l e rm_X12_layNumbers s m args below meth c H locs 0 0 Q (F0 m 95 ls [])) (e := e3) (fun st95 x hm hG hE => ?_) fu _ hc3 H locs ls hP hD hS (lv_sub hl [1, 2, 3, 0] rfl)
    intro H locs ls hP hD hS hl
    have J133 : ∀ (x1_j133 : Int32) (x3_j133 : Int32) (M_bn_j133 : Nat → Int32), (m_X12_layNumbers_J133 x1_j133 e2.2.1 x3_j133 M_bn_j133 = some x) → ∀ (H : Heap) (locs : List Loc) (ls : Array Slot), va_P D vwCl (w_X12_layNumbers cI aM aM_s aM_ke aM_te aM_re aM_bo aM_bn aM_sh aM_in aM_su aM_gr aM_tr aM_ou aM_ro M_s M_km M_n M_be M_ma M_so e1 M_bn_j133 M_om) H → va_D A (w_X12_layNumbers cI aM aM_s aM_ke aM_te aM_re aM_bo aM_bn aM_sh aM_in aM_su aM_gr aM_tr aM_ou aM_ro M_s M_km M_n M_be M_ma M_so e1 M_bn_j133 M_om) → va_S A s.heap H locs → lv_has ls 6 [(0, .ref aM), (1, .int x1_j133), (2, .int e2.2.1), (3, .int x3_j133)] → W p l e rm_X12_layNumbers s m args below meth c H locs 0 0 Q (F0 m 133 ls []) := by
      intro x1_j133 x3_j133 M_bn_j133 hm H locs ls hP hD hS hl
      refine lv_iinc (v := (x3_j133 + 1)) (lv' := [(3, .int (x3_j133 + 1)), (0, .ref aM), (1, .int x1_j133), (2, .int e2.2.1)]) hx hb dX12_layNumbers_133 hl (k := 3) rfl rfl (by decide) rfl (fun ls hl => ?_)
      refine lv_goto (tgt := 95) hx hb dX12_layNumbers_136 (by decide) ?_
      exact hG _ (Option.some.inj hm).symm H locs ls hP hD hS (lv_sub hl [1, 2, 3, 0] rfl)
    refine lv_iload_n hx hb dX12_layNumbers_95 rfl (lv_at hl 3 rfl) ?_
    refine lv_aload_n hx hb dX12_layNumbers_96 rfl (lv_at hl 0 rfl) ?_
    refine va_get (D := D) (ci := 12) (v := .ref aM_s) (C := RX12) (T := TX12) (N := 19) hx hb hts k3 hown hKv hP 0 rfl rfl 0 (by decide) k2 (fun _ h9 => h9) rfl dX12_layNumbers_97 ?_
    refine lv_iconst (v := 0) hx hb dX12_layNumbers_100 (by decide) ?_
    replace hm := ck_some hm
    obtain ⟨h4, hm⟩ := hm
    refine va_iald hx hb hKv hP 1 0 rfl rfl h4 dX12_layNumbers_101 ?_
    refine lv_icmp_ge (tgt := 139) hx hb dX12_layNumbers_102 (by decide) (fun c5 => ?_) (fun c5 => ?_)
    · replace hm := if_t c5 hm
      have h9 := hE _ (Option.some.inj hm).symm
      subst h9
      exact X3_0 H locs ls hP hD hS (lv_sub hl [0] rfl)
    · replace hm := if_f c5 hm
      refine lv_iload_n hx hb dX12_layNumbers_105 rfl (lv_at hl 2 rfl) ?_
      refine lv_aload_n hx hb dX12_layNumbers_106 rfl (lv_at hl 0 rfl) ?_
      refine va_get (D := D) (ci := 12) (v := .ref aM_bo) (C := RX12) (T := TX12) (N := 19) hx hb hts k3 hown hKv hP 0 rfl rfl 9 (by decide) k4 (fun _ h9 => h9) rfl dX12_layNumbers_107 ?_
      refine lv_iload_n hx hb dX12_layNumbers_110 rfl (lv_at hl 3 rfl) ?_
      replace hm := ck_some hm
      obtain ⟨h6, hm⟩ := hm
      refine va_iald hx hb hKv hP 2 0 rfl rfl h6 dX12_layNumbers_111 ?_
      refine lv_ishr hx hb dX12_layNumbers_112 ?_
      refine lv_iconst (v := 1) hx hb dX12_layNumbers_113 (by decide) ?_
      refine lv_iand hx hb dX12_layNumbers_114 ?_
      refine lv_if_ne (tgt := 133) hx hb dX12_layNumbers_115 (by decide) (fun c7 => ?_) (fun c7 => ?_)
      · replace hm := if_f c7 hm
        exact J133 st95.1 st95.2.1 st95.2.2 hm H locs ls hP hD hS (lv_sub hl [0, 1, 2, 3] rfl)
      · replace hm := if_t c7 hm
        refine lv_aload_n hx hb dX12_layNumbers_118 rfl (lv_at hl 0 rfl) ?_
        refine va_get (D := D) (ci := 12) (v := .ref aM_bn) (C := RX12) (T := TX12) (N := 19) hx hb hts k3 hown hKv hP 0 rfl rfl 10 (by decide) k5 (fun _ h9 => h9) rfl dX12_layNumbers_119 ?_
        refine lv_iload_n hx hb dX12_layNumbers_122 rfl (lv_at hl 1 rfl) ?_
        refine lv_aload_n hx hb dX12_layNumbers_123 rfl (lv_at hl 0 rfl) ?_
        refine va_get (D := D) (ci := 12) (v := .ref aM_bo) (C := RX12) (T := TX12) (N := 19) hx hb hts k3 hown hKv hP 0 rfl rfl 9 (by decide) k4 (fun _ h9 => h9) rfl dX12_layNumbers_124 ?_
        refine lv_iload_n hx hb dX12_layNumbers_127 rfl (lv_at hl 3 rfl) ?_
        replace hm := ck_some hm
        obtain ⟨h8, hm⟩ := hm
        refine va_iald hx hb hKv hP 2 0 rfl rfl h8 dX12_layNumbers_128 ?_
        replace hm := ck_some hm
        obtain ⟨h9, hm⟩ := hm
        refine va_iast hx hb hKv hP hD hS 3 0 rfl rfl h9 dX12_layNumbers_129 (fun H locs hP hD hS => ?_)
        replace hP : va_P D vwCl (w_X12_layNumbers cI aM aM_s aM_ke aM_te aM_re aM_bo aM_bn aM_sh aM_in aM_su aM_gr aM_tr aM_ou aM_ro M_s M_km M_n M_be M_ma M_so e1 (upd st95.2.2 (Int32.toNatClampNeg st95.1) (e1 (Int32.toNatClampNeg st95.2.1))) M_om) H := hP
        replace hD : va_D A (w_X12_layNumbers cI aM aM_s aM_ke aM_te aM_re aM_bo aM_bn aM_sh aM_in aM_su aM_gr aM_tr aM_ou aM_ro M_s M_km M_n M_be M_ma M_so e1 (upd st95.2.2 (Int32.toNatClampNeg st95.1) (e1 (Int32.toNatClampNeg st95.2.1))) M_om) := hD
        refine lv_iinc (v := (st95.1 + 1)) (lv' := [(1, .int (st95.1 + 1)), (0, .ref aM), (2, .int e2.2.1), (3, .int st95.2.1)]) hx hb dX12_layNumbers_130 hl (k := 1) rfl rfl (by decide) rfl (fun ls hl => ?_)
        exact J133 (st95.1 + 1) st95.2.1 (upd st95.2.2 (Int32.toNatClampNeg st95.1) (e1 (Int32.toNatClampNeg st95.2.1))) hm H locs ls hP hD hS (lv_sub hl [1, 0, 2, 3] rfl)
  refine it_W (G := fun (st10 : Int32 × Int32 × Int32 × (Nat → Int32)) => ∀ (H : Heap) (locs : List Loc) (ls : Array Slot), va_P D vwCl (w_X12_layNumbers cI aM aM_s aM_ke aM_te aM_re aM_bo aM_bn aM_sh aM_in aM_su aM_gr aM_tr aM_ou aM_ro M_s M_km M_n M_be M_ma M_so e1 st10.2.2.2 M_om) H → va_D A (w_X12_layNumbers cI aM aM_s aM_ke aM_te aM_re aM_bo aM_bn aM_sh aM_in aM_su aM_gr aM_tr aM_ou aM_ro M_s M_km M_n M_be M_ma M_so e1 st10.2.2.2 M_om) → va_S A s.heap H locs → lv_has ls 6 [(0, .ref aM), (1, .int st10.1), (2, .int st10.2.1), (3, .int st10.2.2.1)] → W p l e rm_X12_layNumbers s m args below meth c H locs 0 0 Q (F0 m 10 ls [])) (e := e2) (fun st10 x hm hG hE => ?_) fu _ hc2 H locs ls hP hD hS (lv_sub hl [3, 2, 1, 0] rfl)
  intro H locs ls hP hD hS hl
  refine lv_iload_n hx hb dX12_layNumbers_10 rfl (lv_at hl 3 rfl) ?_
  refine lv_aload_n hx hb dX12_layNumbers_11 rfl (lv_at hl 0 rfl) ?_
  refine va_get (D := D) (ci := 12) (v := .ref aM_s) (C := RX12) (T := TX12) (N := 19) hx hb hts k3 hown hKv hP 0 rfl rfl 0 (by decide) k2 (fun _ h9 => h9) rfl dX12_layNumbers_12 ?_
  refine lv_bipush (v := 70) hx hb dX12_layNumbers_15 (by decide) ?_
  replace hm := ck_some hm
  obtain ⟨h10, hm⟩ := hm
  refine va_iald hx hb hKv hP 1 0 rfl rfl h10 dX12_layNumbers_17 ?_
  refine lv_icmp_ge (tgt := 93) hx hb dX12_layNumbers_18 (by decide) (fun c11 => ?_) (fun c11 => ?_)
  · replace hm := if_t c11 hm
    have h9 := hE _ (Option.some.inj hm).symm
    subst h9
    exact X2_0 H locs ls hP hD hS (lv_sub hl [0, 1, 2] rfl)
  · replace hm := if_f c11 hm
    refine lv_aload_n hx hb dX12_layNumbers_21 rfl (lv_at hl 0 rfl) ?_
    refine va_get (D := D) (ci := 12) (v := .ref aM_s) (C := RX12) (T := TX12) (N := 19) hx hb hts k3 hown hKv hP 0 rfl rfl 0 (by decide) k2 (fun _ h9 => h9) rfl dX12_layNumbers_22 ?_
    refine lv_bipush (v := 62) hx hb dX12_layNumbers_25 (by decide) ?_
    replace hm := ck_some hm
    obtain ⟨h12, hm⟩ := hm
    refine va_iald hx hb hKv hP 1 0 rfl rfl h12 dX12_layNumbers_27 ?_
    refine lv_iconst (v := 1) hx hb dX12_layNumbers_28 (by decide) ?_
    refine lv_icmp_ne (tgt := 93) hx hb dX12_layNumbers_29 (by decide) (fun c13 => ?_) (fun c13 => ?_)
    · replace hm := if_f c13 hm
      have h9 := hE _ (Option.some.inj hm).symm
      subst h9
      exact X2_0 H locs ls hP hD hS (lv_sub hl [0, 1, 2] rfl)
    · replace hm := if_t c13 hm
      refine lv_iconst (v := 0) hx hb dX12_layNumbers_32 (by decide) ?_
      refine lv_istore (lv' := [(4, .int 0), (0, .ref aM), (1, .int st10.1), (2, .int st10.2.1), (3, .int st10.2.2.1)]) hx hb dX12_layNumbers_33 hl (by decide) rfl (fun ls hl => ?_)
      replace hm := bd_some hm
      obtain ⟨e14, hc14, hm⟩ := hm
      have X14_0 : ∀ (H : Heap) (locs : List Loc) (ls : Array Slot), va_P D vwCl (w_X12_layNumbers cI aM aM_s aM_ke aM_te aM_re aM_bo aM_bn aM_sh aM_in aM_su aM_gr aM_tr aM_ou aM_ro M_s M_km M_n M_be M_ma M_so e1 e14.2.2 M_om) H → va_D A (w_X12_layNumbers cI aM aM_s aM_ke aM_te aM_re aM_bo aM_bn aM_sh aM_in aM_su aM_gr aM_tr aM_ou aM_ro M_s M_km M_n M_be M_ma M_so e1 e14.2.2 M_om) → va_S A s.heap H locs → lv_has ls 6 [(0, .ref aM), (1, .int e14.1), (2, .int e14.2.1), (3, .int st10.2.2.1)] → W p l e rm_X12_layNumbers s m args below meth c H locs 0 0 Q (F0 m 87 ls []) := by
        intro H locs ls hP hD hS hl
        refine lv_iinc (v := (st10.2.2.1 + 1)) (lv' := [(3, .int (st10.2.2.1 + 1)), (0, .ref aM), (1, .int e14.1), (2, .int e14.2.1)]) hx hb dX12_layNumbers_87 hl (k := 3) rfl rfl (by decide) rfl (fun ls hl => ?_)
        refine lv_goto (tgt := 10) hx hb dX12_layNumbers_90 (by decide) ?_
        exact hG _ (Option.some.inj hm).symm H locs ls hP hD hS (lv_sub hl [1, 2, 3, 0] rfl)
      refine it_W (G := fun (st35 : Int32 × Int32 × Int32 × (Nat → Int32)) => ∀ (H : Heap) (locs : List Loc) (ls : Array Slot), va_P D vwCl (w_X12_layNumbers cI aM aM_s aM_ke aM_te aM_re aM_bo aM_bn aM_sh aM_in aM_su aM_gr aM_tr aM_ou aM_ro M_s M_km M_n M_be M_ma M_so e1 st35.2.2.2 M_om) H → va_D A (w_X12_layNumbers cI aM aM_s aM_ke aM_te aM_re aM_bo aM_bn aM_sh aM_in aM_su aM_gr aM_tr aM_ou aM_ro M_s M_km M_n M_be M_ma M_so e1 st35.2.2.2 M_om) → va_S A s.heap H locs → lv_has ls 6 [(0, .ref aM), (1, .int st35.1), (2, .int st35.2.1), (3, .int st10.2.2.1), (4, .int st35.2.2.1)] → W p l e rm_X12_layNumbers s m args below meth c H locs 0 0 Q (F0 m 35 ls [])) (e := e14) (fun st35 x hm hG hE => ?_) fu _ hc14 H locs ls hP hD hS (lv_sub hl [1, 2, 3, 4, 0] rfl)
      intro H locs ls hP hD hS hl
      have J81 : ∀ (x1_j81 : Int32) (x2_j81 : Int32) (x4_j81 : Int32) (M_bn_j81 : Nat → Int32), (m_X12_layNumbers_J81 x1_j81 x2_j81 st10.2.2.1 x4_j81 M_bn_j81 = some x) → ∀ (H : Heap) (locs : List Loc) (ls : Array Slot), va_P D vwCl (w_X12_layNumbers cI aM aM_s aM_ke aM_te aM_re aM_bo aM_bn aM_sh aM_in aM_su aM_gr aM_tr aM_ou aM_ro M_s M_km M_n M_be M_ma M_so e1 M_bn_j81 M_om) H → va_D A (w_X12_layNumbers cI aM aM_s aM_ke aM_te aM_re aM_bo aM_bn aM_sh aM_in aM_su aM_gr aM_tr aM_ou aM_ro M_s M_km M_n M_be M_ma M_so e1 M_bn_j81 M_om) → va_S A s.heap H locs → lv_has ls 6 [(0, .ref aM), (1, .int x1_j81), (2, .int x2_j81), (3, .int st10.2.2.1), (4, .int x4_j81)] → W p l e rm_X12_layNumbers s m args below meth c H locs 0 0 Q (F0 m 81 ls []) := by
        intro x1_j81 x2_j81 x4_j81 M_bn_j81 hm H locs ls hP hD hS hl
        refine lv_iinc (v := (x4_j81 + 1)) (lv' := [(4, .int (x4_j81 + 1)), (0, .ref aM), (1, .int x1_j81), (2, .int x2_j81), (3, .int st10.2.2.1)]) hx hb dX12_layNumbers_81 hl (k := 4) rfl rfl (by decide) rfl (fun ls hl => ?_)
        refine lv_goto (tgt := 35) hx hb dX12_layNumbers_84 (by decide) ?_
        exact hG _ (Option.some.inj hm).symm H locs ls hP hD hS (lv_sub hl [1, 2, 3, 4, 0] rfl)
      refine lv_iload hx hb dX12_layNumbers_35 (lv_at hl 4 rfl) ?_
      refine lv_aload_n hx hb dX12_layNumbers_37 rfl (lv_at hl 0 rfl) ?_
      refine lv_iload_n hx hb dX12_layNumbers_38 rfl (lv_at hl 3 rfl) ?_
      replace hm := bd_some hm
      obtain ⟨e15, hc15, hm⟩ := hm
      refine kV_i (rest := [.int st35.2.2.1]) (ws' := (w_X12_layNumbers cI aM aM_s aM_ke aM_te aM_re aM_bo aM_bn aM_sh aM_in aM_su aM_gr aM_tr aM_ou aM_ro M_s M_km M_n M_be M_ma M_so e1 st35.2.2.2 M_om)) S (c_X12_cites l D cI cJ cZ cS aM aM_s aM_ke aM_te aM_re aM_bo aM_bn aM_sh aM_in aM_su aM_gr aM_tr aM_ou aM_ro M_s M_km M_n M_be M_ma M_so M_om st10.2.2.1 e15 hc15) k6 hK hP hD hS hA 0 rfl rfl rfl rfl hl.1 rfl (Nat.le_of_ble_eq_true rfl) ⟨Nat.zero_le _, Nat.zero_le _⟩ dX12_layNumbers_39 [0, 1] rfl rfl wa_X12_cites (sa_eq [(aM_bo, .inl (cI, 8, .inl e1)), (aM_bn, .inl (cI, 8, .inl st35.2.2.2))] [2, 3] 4 rfl rfl rfl rfl rfl rfl rfl) (fun H locs hP hD hS => ?_)
      refine lv_icmp_ge (tgt := 87) hx hb dX12_layNumbers_42 (by decide) (fun c16 => ?_) (fun c16 => ?_)
      · replace hm := if_t c16 hm
        have h9 := hE _ (Option.some.inj hm).symm
        subst h9
        exact X14_0 H locs ls hP hD hS (lv_sub hl [0, 1, 2, 3] rfl)
      · replace hm := if_f c16 hm
        refine lv_aload_n hx hb dX12_layNumbers_45 rfl (lv_at hl 0 rfl) ?_
        refine lv_iload_n hx hb dX12_layNumbers_46 rfl (lv_at hl 3 rfl) ?_
        refine lv_iload hx hb dX12_layNumbers_47 (lv_at hl 4 rfl) ?_
        replace hm := bd_some hm
        obtain ⟨e17, hc17, hm⟩ := hm
        refine kV_i (rest := []) (ws' := (w_X12_layNumbers cI aM aM_s aM_ke aM_te aM_re aM_bo aM_bn aM_sh aM_in aM_su aM_gr aM_tr aM_ou aM_ro M_s M_km M_n M_be M_ma M_so e1 st35.2.2.2 M_om)) S (c_X12_cited l D cI cJ cZ cS aM aM_s aM_ke aM_te aM_re aM_bo aM_bn aM_sh aM_in aM_su aM_gr aM_tr aM_ou aM_ro M_s M_km M_n M_be M_ma M_so M_om st10.2.2.1 st35.2.2.1 e17 hc17) k7 hK hP hD hS hA 0 rfl rfl rfl rfl hl.1 rfl (Nat.le_of_ble_eq_true rfl) ⟨Nat.zero_le _, Nat.zero_le _⟩ dX12_layNumbers_49 [0, 1] rfl rfl wa_X12_cited (sa_eq [(aM_bo, .inl (cI, 8, .inl e1)), (aM_bn, .inl (cI, 8, .inl st35.2.2.2))] [2, 3] 4 rfl rfl rfl rfl rfl rfl rfl) (fun H locs hP hD hS => ?_)
        refine lv_istore (lv' := [(5, .int e17), (0, .ref aM), (1, .int st35.1), (2, .int st35.2.1), (3, .int st10.2.2.1), (4, .int st35.2.2.1)]) hx hb dX12_layNumbers_52 hl (by decide) rfl (fun ls hl => ?_)
        refine lv_iload_n hx hb dX12_layNumbers_54 rfl (lv_at hl 3 rfl) ?_
        refine lv_iload hx hb dX12_layNumbers_55 (lv_at hl 0 rfl) ?_
        refine lv_ishr hx hb dX12_layNumbers_57 ?_
        refine lv_iconst (v := 1) hx hb dX12_layNumbers_58 (by decide) ?_
        refine lv_iand hx hb dX12_layNumbers_59 ?_
        refine lv_if_ne (tgt := 81) hx hb dX12_layNumbers_60 (by decide) (fun c18 => ?_) (fun c18 => ?_)
        · replace hm := if_f c18 hm
          exact J81 st35.1 st35.2.1 st35.2.2.1 st35.2.2.2 hm H locs ls hP hD hS (lv_sub hl [1, 2, 3, 4, 5] rfl)
        · replace hm := if_t c18 hm
          refine lv_iload_n hx hb dX12_layNumbers_63 rfl (lv_at hl 3 rfl) ?_
          refine lv_iconst (v := 1) hx hb dX12_layNumbers_64 (by decide) ?_
          refine lv_iload hx hb dX12_layNumbers_65 (lv_at hl 0 rfl) ?_
          refine lv_ishl hx hb dX12_layNumbers_67 ?_
          refine lv_ior hx hb dX12_layNumbers_68 ?_
          refine lv_istore_n (lv' := [(2, .int (st35.2.1 ||| (1 <<< (e17 &&& 31)))), (5, .int e17), (0, .ref aM), (1, .int st35.1), (3, .int st10.2.2.1), (4, .int st35.2.2.1)]) hx hb dX12_layNumbers_69 rfl hl (by decide) rfl (fun ls hl => ?_)
          refine lv_aload_n hx hb dX12_layNumbers_70 rfl (lv_at hl 2 rfl) ?_
          refine va_get (D := D) (ci := 12) (v := .ref aM_bn) (C := RX12) (T := TX12) (N := 19) hx hb hts k3 hown hKv hP 0 rfl rfl 10 (by decide) k5 (fun _ h9 => h9) rfl dX12_layNumbers_71 ?_
          refine lv_iload_n hx hb dX12_layNumbers_74 rfl (lv_at hl 3 rfl) ?_
          refine lv_iload hx hb dX12_layNumbers_75 (lv_at hl 1 rfl) ?_
          replace hm := ck_some hm
          obtain ⟨h19, hm⟩ := hm
          refine va_iast hx hb hKv hP hD hS 3 0 rfl rfl h19 dX12_layNumbers_77 (fun H locs hP hD hS => ?_)
          replace hP : va_P D vwCl (w_X12_layNumbers cI aM aM_s aM_ke aM_te aM_re aM_bo aM_bn aM_sh aM_in aM_su aM_gr aM_tr aM_ou aM_ro M_s M_km M_n M_be M_ma M_so e1 (upd st35.2.2.2 (Int32.toNatClampNeg st35.1) e17) M_om) H := hP
          replace hD : va_D A (w_X12_layNumbers cI aM aM_s aM_ke aM_te aM_re aM_bo aM_bn aM_sh aM_in aM_su aM_gr aM_tr aM_ou aM_ro M_s M_km M_n M_be M_ma M_so e1 (upd st35.2.2.2 (Int32.toNatClampNeg st35.1) e17) M_om) := hD
          refine lv_iinc (v := (st35.1 + 1)) (lv' := [(1, .int (st35.1 + 1)), (2, .int (st35.2.1 ||| (1 <<< (e17 &&& 31)))), (5, .int e17), (0, .ref aM), (3, .int st10.2.2.1), (4, .int st35.2.2.1)]) hx hb dX12_layNumbers_78 hl (k := 3) rfl rfl (by decide) rfl (fun ls hl => ?_)
          exact J81 (st35.1 + 1) (st35.2.1 ||| (1 <<< (e17 &&& 31))) st35.2.2.1 (upd st35.2.2.2 (Int32.toNatClampNeg st35.1) e17) hm H locs ls hP hD hS (lv_sub hl [3, 0, 1, 4, 5] rfl)
set_option maxHeartbeats 4000000 in
set_option maxRecDepth 100000 in
theorem c_X12_layGroups (l : Launch) (D : va_G) (cI cJ cZ cS : ClassId) (aM aM_s aM_ke aM_te aM_re aM_bo aM_bn aM_sh aM_in aM_su aM_gr aM_tr aM_ou aM_ro : Nat) (M_s : Nat → Int32) (M_km : Int32) (M_n : Int32) (M_be : Int32) (M_ma : Int32) (M_so : Int32) (M_sh : Nat → Int32) (M_in : Nat → Int32) (M_su : Nat → Int32) (M_gr : Nat → Int32) (M_om : Int32) (o : (Nat → Int32)) (hm : m_X12_layGroups M_s M_sh M_in M_su M_gr = some o) : MV l yX12_layGroups wsX12_layGroups rm_X12_layGroups D (TY cI cJ cZ cS) [.ref aM] (w_X12_layGroups cI cZ aM aM_s aM_ke aM_te aM_re aM_bo aM_bn aM_sh aM_in aM_su aM_gr aM_tr aM_ou aM_ro M_s M_km M_n M_be M_ma M_so M_sh M_in M_su M_gr M_om) (w_X12_layGroups cI cZ aM aM_s aM_ke aM_te aM_re aM_bo aM_bn aM_sh aM_in aM_su aM_gr aM_tr aM_ou aM_ro M_s M_km M_n M_be M_ma M_so M_sh M_in M_su o M_om) := by
  refine MV_of (cc := cX12_layGroups) (maxL := 3) (by decide) rfl (Nat.le_of_ble_eq_true rfl) ?_
  intro p e s m args below meth c A Q ls H locs hx hb hml hts hown hK hA hP hD hS hl hret
  have hown : s.vm.findClass RX12 = some m.cls := hown
  have hKv : va_K D vwCl (TY cI cJ cZ cS) s := hK.1
  have hl : lv_has ls 3 [(0, .ref aM)] := hl
  have S : CallFix p m c cX12_layGroups 3 s args wsX12_layGroups RX12 := ⟨hx, hb, hml, hown, hts⟩
  have k1 := hts (.fieldLink RX12 7 "CitationFormatterModel" "s" "[I") (by decide +kernel)
  have k2 : ∀ w ∈ wsX120, w ∈ wsX12_layGroups := by decide +kernel
  have k3 := hts (.fieldLink RX12 38 "CitationFormatterModel" "group" "[I") (by decide +kernel)
  have k4 : CallW rm_X12_layGroups s args RX12 RX12 177 yX12_haveOneLabel cX12_haveOneLabel 3 (some .boolean) wsX12_haveOneLabel rm_X12_haveOneLabel 0 0 2 := cwV 2 hts gX12_layGroups_X12_haveOneLabel rfl rfl rfl (by decide +kernel) ⟨Nat.le_of_ble_eq_true rfl, Nat.le_of_ble_eq_true rfl⟩
  refine lv_iconst (v := 0) hx hb dX12_layGroups_0 (by decide) ?_
  refine lv_istore_n (lv' := [(1, .int 0), (0, .ref aM)]) hx hb dX12_layGroups_1 rfl hl (by decide) rfl (fun ls hl => ?_)
  replace hm := bd_some hm
  obtain ⟨e1, hc1, hm⟩ := hm
  have X1_0 : ∀ (H : Heap) (locs : List Loc) (ls : Array Slot), va_P D vwCl (w_X12_layGroups cI cZ aM aM_s aM_ke aM_te aM_re aM_bo aM_bn aM_sh aM_in aM_su aM_gr aM_tr aM_ou aM_ro M_s M_km M_n M_be M_ma M_so M_sh M_in M_su e1 M_om) H → va_D A (w_X12_layGroups cI cZ aM aM_s aM_ke aM_te aM_re aM_bo aM_bn aM_sh aM_in aM_su aM_gr aM_tr aM_ou aM_ro M_s M_km M_n M_be M_ma M_so M_sh M_in M_su e1 M_om) → va_S A s.heap H locs → lv_has ls 3 [(0, .ref aM)] → W p l e rm_X12_layGroups s m args below meth c H locs 0 0 Q (F0 m 64 ls []) := by
    intro H locs ls hP hD hS hl
    have h9 := Option.some.inj hm
    subst h9
    exact hret H locs _ ls hP hD hS dX12_layGroups_64
  refine it_W (G := fun (st2 : Int32 × (Nat → Int32)) => ∀ (H : Heap) (locs : List Loc) (ls : Array Slot), va_P D vwCl (w_X12_layGroups cI cZ aM aM_s aM_ke aM_te aM_re aM_bo aM_bn aM_sh aM_in aM_su aM_gr aM_tr aM_ou aM_ro M_s M_km M_n M_be M_ma M_so M_sh M_in M_su st2.2 M_om) H → va_D A (w_X12_layGroups cI cZ aM aM_s aM_ke aM_te aM_re aM_bo aM_bn aM_sh aM_in aM_su aM_gr aM_tr aM_ou aM_ro M_s M_km M_n M_be M_ma M_so M_sh M_in M_su st2.2 M_om) → va_S A s.heap H locs → lv_has ls 3 [(0, .ref aM), (1, .int st2.1)] → W p l e rm_X12_layGroups s m args below meth c H locs 0 0 Q (F0 m 2 ls [])) (e := e1) (fun st2 x hm hG hE => ?_) fu _ hc1 H locs ls hP hD hS (lv_sub hl [1, 0] rfl)
  intro H locs ls hP hD hS hl
  refine lv_iload_n hx hb dX12_layGroups_2 rfl (lv_at hl 1 rfl) ?_
  refine lv_aload_n hx hb dX12_layGroups_3 rfl (lv_at hl 0 rfl) ?_
  refine va_get (D := D) (ci := 12) (v := .ref aM_s) (C := RX12) (T := TX12) (N := 19) hx hb hts k2 hown hKv hP 0 rfl rfl 0 (by decide) k1 (fun _ h9 => h9) rfl dX12_layGroups_4 ?_
  refine lv_iconst (v := 0) hx hb dX12_layGroups_7 (by decide) ?_
  replace hm := ck_some hm
  obtain ⟨h2, hm⟩ := hm
  refine va_iald hx hb hKv hP 1 0 rfl rfl h2 dX12_layGroups_8 ?_
  refine lv_icmp_ge (tgt := 64) hx hb dX12_layGroups_9 (by decide) (fun c3 => ?_) (fun c3 => ?_)
  · replace hm := if_t c3 hm
    have h9 := hE _ (Option.some.inj hm).symm
    subst h9
    exact X1_0 H locs ls hP hD hS (lv_sub hl [0] rfl)
  · replace hm := if_f c3 hm
    refine lv_aload_n hx hb dX12_layGroups_12 rfl (lv_at hl 0 rfl) ?_
    refine va_get (D := D) (ci := 12) (v := .ref aM_gr) (C := RX12) (T := TX12) (N := 19) hx hb hts k2 hown hKv hP 0 rfl rfl 14 (by decide) k3 (fun _ h9 => h9) rfl dX12_layGroups_13 ?_
    refine lv_iload_n hx hb dX12_layGroups_16 rfl (lv_at hl 1 rfl) ?_
    refine lv_iload_n hx hb dX12_layGroups_17 rfl (lv_at hl 1 rfl) ?_
    replace hm := ck_some hm
    obtain ⟨h4, hm⟩ := hm
    refine va_iast hx hb hKv hP hD hS 5 0 rfl rfl h4 dX12_layGroups_18 (fun H locs hP hD hS => ?_)
    replace hP : va_P D vwCl (w_X12_layGroups cI cZ aM aM_s aM_ke aM_te aM_re aM_bo aM_bn aM_sh aM_in aM_su aM_gr aM_tr aM_ou aM_ro M_s M_km M_n M_be M_ma M_so M_sh M_in M_su (upd st2.2 (Int32.toNatClampNeg st2.1) st2.1) M_om) H := hP
    replace hD : va_D A (w_X12_layGroups cI cZ aM aM_s aM_ke aM_te aM_re aM_bo aM_bn aM_sh aM_in aM_su aM_gr aM_tr aM_ou aM_ro M_s M_km M_n M_be M_ma M_so M_sh M_in M_su (upd st2.2 (Int32.toNatClampNeg st2.1) st2.1) M_om) := hD
    refine lv_iload_n hx hb dX12_layGroups_19 rfl (lv_at hl 1 rfl) ?_
    refine lv_iconst (v := 1) hx hb dX12_layGroups_20 (by decide) ?_
    refine lv_isub hx hb dX12_layGroups_21 ?_
    refine lv_istore_n (lv' := [(2, .int (st2.1 - 1)), (0, .ref aM), (1, .int st2.1)]) hx hb dX12_layGroups_22 rfl hl (by decide) rfl (fun ls hl => ?_)
    replace hm := bd_some hm
    obtain ⟨e5, hc5, hm⟩ := hm
    have X5_0 : ∀ (H : Heap) (locs : List Loc) (ls : Array Slot), va_P D vwCl (w_X12_layGroups cI cZ aM aM_s aM_ke aM_te aM_re aM_bo aM_bn aM_sh aM_in aM_su aM_gr aM_tr aM_ou aM_ro M_s M_km M_n M_be M_ma M_so M_sh M_in M_su e5 M_om) H → va_D A (w_X12_layGroups cI cZ aM aM_s aM_ke aM_te aM_re aM_bo aM_bn aM_sh aM_in aM_su aM_gr aM_tr aM_ou aM_ro M_s M_km M_n M_be M_ma M_so M_sh M_in M_su e5 M_om) → va_S A s.heap H locs → lv_has ls 3 [(0, .ref aM), (1, .int st2.1)] → W p l e rm_X12_layGroups s m args below meth c H locs 0 0 Q (F0 m 58 ls []) := by
      intro H locs ls hP hD hS hl
      refine lv_iinc (v := (st2.1 + 1)) (lv' := [(1, .int (st2.1 + 1)), (0, .ref aM)]) hx hb dX12_layGroups_58 hl (k := 1) rfl rfl (by decide) rfl (fun ls hl => ?_)
      refine lv_goto (tgt := 2) hx hb dX12_layGroups_61 (by decide) ?_
      exact hG _ (Option.some.inj hm).symm H locs ls hP hD hS (lv_sub hl [1, 0] rfl)
    refine it_W (G := fun (st23 : Int32 × (Nat → Int32)) => ∀ (H : Heap) (locs : List Loc) (ls : Array Slot), va_P D vwCl (w_X12_layGroups cI cZ aM aM_s aM_ke aM_te aM_re aM_bo aM_bn aM_sh aM_in aM_su aM_gr aM_tr aM_ou aM_ro M_s M_km M_n M_be M_ma M_so M_sh M_in M_su st23.2 M_om) H → va_D A (w_X12_layGroups cI cZ aM aM_s aM_ke aM_te aM_re aM_bo aM_bn aM_sh aM_in aM_su aM_gr aM_tr aM_ou aM_ro M_s M_km M_n M_be M_ma M_so M_sh M_in M_su st23.2 M_om) → va_S A s.heap H locs → lv_has ls 3 [(0, .ref aM), (1, .int st2.1), (2, .int st23.1)] → W p l e rm_X12_layGroups s m args below meth c H locs 0 0 Q (F0 m 23 ls [])) (e := e5) (fun st23 x hm hG hE => ?_) fu _ hc5 H locs ls hP hD hS (lv_sub hl [1, 2, 0] rfl)
    intro H locs ls hP hD hS hl
    have J51 : ∀ (x2_j51 : Int32) (y0_j51 : Int32) (y1_j51 : Int32) (M_gr_j51 : Nat → Int32), (m_X12_layGroups_J51 st2.1 x2_j51 y0_j51 y1_j51 M_gr_j51 = some x) → ∀ (H : Heap) (locs : List Loc) (ls : Array Slot), va_P D vwCl (w_X12_layGroups cI cZ aM aM_s aM_ke aM_te aM_re aM_bo aM_bn aM_sh aM_in aM_su aM_gr aM_tr aM_ou aM_ro M_s M_km M_n M_be M_ma M_so M_sh M_in M_su M_gr_j51 M_om) H → va_D A (w_X12_layGroups cI cZ aM aM_s aM_ke aM_te aM_re aM_bo aM_bn aM_sh aM_in aM_su aM_gr aM_tr aM_ou aM_ro M_s M_km M_n M_be M_ma M_so M_sh M_in M_su M_gr_j51 M_om) → va_S A s.heap H locs → lv_has ls 3 [(0, .ref aM), (1, .int st2.1), (2, .int x2_j51)] → W p l e rm_X12_layGroups s m args below meth c H locs 0 0 Q (F0 m 51 ls [.int y0_j51, .int y1_j51, .ref aM_gr]) := by
      intro x2_j51 y0_j51 y1_j51 M_gr_j51 hm H locs ls hP hD hS hl
      replace hm := ck_some hm
      obtain ⟨h6, hm⟩ := hm
      refine va_iast hx hb hKv hP hD hS 5 0 rfl rfl h6 dX12_layGroups_51 (fun H locs hP hD hS => ?_)
      replace hP : va_P D vwCl (w_X12_layGroups cI cZ aM aM_s aM_ke aM_te aM_re aM_bo aM_bn aM_sh aM_in aM_su aM_gr aM_tr aM_ou aM_ro M_s M_km M_n M_be M_ma M_so M_sh M_in M_su (upd M_gr_j51 (Int32.toNatClampNeg y1_j51) y0_j51) M_om) H := hP
      replace hD : va_D A (w_X12_layGroups cI cZ aM aM_s aM_ke aM_te aM_re aM_bo aM_bn aM_sh aM_in aM_su aM_gr aM_tr aM_ou aM_ro M_s M_km M_n M_be M_ma M_so M_sh M_in M_su (upd M_gr_j51 (Int32.toNatClampNeg y1_j51) y0_j51) M_om) := hD
      refine lv_iinc (v := (x2_j51 + (-1))) (lv' := [(2, .int (x2_j51 + (-1))), (0, .ref aM), (1, .int st2.1)]) hx hb dX12_layGroups_52 hl (k := 2) rfl rfl (by decide) rfl (fun ls hl => ?_)
      refine lv_goto (tgt := 23) hx hb dX12_layGroups_55 (by decide) ?_
      exact hG _ (Option.some.inj hm).symm H locs ls hP hD hS (lv_sub hl [1, 2, 0] rfl)
    refine lv_iload_n hx hb dX12_layGroups_23 rfl (lv_at hl 2 rfl) ?_
    refine lv_if_lt (tgt := 58) hx hb dX12_layGroups_24 (by decide) (fun c7 => ?_) (fun c7 => ?_)
    · replace hm := if_t c7 hm
      have h9 := hE _ (Option.some.inj hm).symm
      subst h9
      exact X5_0 H locs ls hP hD hS (lv_sub hl [0, 1] rfl)
    · replace hm := if_f c7 hm
      refine lv_aload_n hx hb dX12_layGroups_27 rfl (lv_at hl 0 rfl) ?_
      refine va_get (D := D) (ci := 12) (v := .ref aM_gr) (C := RX12) (T := TX12) (N := 19) hx hb hts k2 hown hKv hP 0 rfl rfl 14 (by decide) k3 (fun _ h9 => h9) rfl dX12_layGroups_28 ?_
      refine lv_iload_n hx hb dX12_layGroups_31 rfl (lv_at hl 1 rfl) ?_
      refine lv_aload_n hx hb dX12_layGroups_32 rfl (lv_at hl 0 rfl) ?_
      refine lv_iload_n hx hb dX12_layGroups_33 rfl (lv_at hl 2 rfl) ?_
      refine lv_iload_n hx hb dX12_layGroups_34 rfl (lv_at hl 1 rfl) ?_
      replace hm := bd_some hm
      obtain ⟨e8, hc8, hm⟩ := hm
      refine kV_i (rest := [.int st2.1, .ref aM_gr]) (ws' := (w_X12_layGroups cI cZ aM aM_s aM_ke aM_te aM_re aM_bo aM_bn aM_sh aM_in aM_su aM_gr aM_tr aM_ou aM_ro M_s M_km M_n M_be M_ma M_so M_sh M_in M_su st23.2 M_om)) S (c_X12_haveOneLabel l D cI cJ cZ cS aM aM_s aM_ke aM_te aM_re aM_bo aM_bn aM_sh aM_in aM_su aM_gr aM_tr aM_ou aM_ro M_s M_km M_n M_be M_ma M_so M_sh M_in M_su M_om st23.1 st2.1 e8 hc8) k4 hK hP hD hS hA 0 rfl rfl rfl rfl hl.1 rfl (Nat.le_of_ble_eq_true rfl) ⟨Nat.zero_le _, Nat.zero_le _⟩ dX12_layGroups_35 [0, 1, 2, 3, 4] rfl rfl wa_X12_haveOneLabel (sa_eq [(aM_gr, .inl (cI, 8, .inl st23.2))] [5] 6 rfl rfl rfl rfl rfl rfl rfl) (fun H locs hP hD hS => ?_)
      refine lv_if_eq (tgt := 45) hx hb dX12_layGroups_38 (by decide) (fun c9 => ?_) (fun c9 => ?_)
      · replace hm := if_t c9 hm
        refine lv_aload_n hx hb dX12_layGroups_45 rfl (lv_at hl 0 rfl) ?_
        refine va_get (D := D) (ci := 12) (v := .ref aM_gr) (C := RX12) (T := TX12) (N := 19) hx hb hts k2 hown hKv hP 0 rfl rfl 14 (by decide) k3 (fun _ h9 => h9) rfl dX12_layGroups_46 ?_
        refine lv_iload_n hx hb dX12_layGroups_49 rfl (lv_at hl 1 rfl) ?_
        replace hm := ck_some hm
        obtain ⟨h10, hm⟩ := hm
        refine va_iald hx hb hKv hP 5 0 rfl rfl h10 dX12_layGroups_50 ?_
        exact J51 st23.1 (st23.2 (Int32.toNatClampNeg st2.1)) st2.1 st23.2 hm H locs ls hP hD hS (lv_sub hl [0, 1, 2] rfl)
      · replace hm := if_f c9 hm
        refine lv_iload_n hx hb dX12_layGroups_41 rfl (lv_at hl 2 rfl) ?_
        refine lv_goto (tgt := 51) hx hb dX12_layGroups_42 (by decide) ?_
        exact J51 st23.1 st23.1 st2.1 st23.2 hm H locs ls hP hD hS (lv_sub hl [0, 1, 2] rfl)
set_option maxHeartbeats 4000000 in
set_option maxRecDepth 100000 in
theorem c_X12_sizeOf (l : Launch) (D : va_G) (cI cJ cZ cS : ClassId) (aM aM_s aM_ke aM_te aM_re aM_bo aM_bn aM_sh aM_in aM_su aM_gr aM_tr aM_ou aM_ro : Nat) (M_s : Nat → Int32) (M_km : Int32) (M_n : Int32) (M_be : Int32) (M_ma : Int32) (M_so : Int32) (M_gr : Nat → Int32) (M_om : Int32) (x1 : Int32) (o : Int32) (hm : m_X12_sizeOf M_s M_gr x1 = some o) : MI l yX12_sizeOf wsX12_sizeOf rm_X12_sizeOf D (TY cI cJ cZ cS) [.ref aM, .int x1] (w_X12_sizeOf cI aM aM_s aM_ke aM_te aM_re aM_bo aM_bn aM_sh aM_in aM_su aM_gr aM_tr aM_ou aM_ro M_s M_km M_n M_be M_ma M_so M_gr M_om) (w_X12_sizeOf cI aM aM_s aM_ke aM_te aM_re aM_bo aM_bn aM_sh aM_in aM_su aM_gr aM_tr aM_ou aM_ro M_s M_km M_n M_be M_ma M_so M_gr M_om) (o) := by
  refine MI_of (cc := cX12_sizeOf) (maxL := 4) (by decide) rfl (Nat.le_of_ble_eq_true rfl) ?_
  intro p e s m args below meth c A Q ls H locs hx hb hml hts hown hK hA hP hD hS hl hret
  have hown : s.vm.findClass RX12 = some m.cls := hown
  have hKv : va_K D vwCl (TY cI cJ cZ cS) s := hK.1
  have hl : lv_has ls 4 [(0, .ref aM), (1, .int x1)] := hl
  have S : CallFix p m c cX12_sizeOf 4 s args wsX12_sizeOf RX12 := ⟨hx, hb, hml, hown, hts⟩
  have k1 := hts (.fieldLink RX12 7 "CitationFormatterModel" "s" "[I") (by decide +kernel)
  have k2 : ∀ w ∈ wsX120, w ∈ wsX12_sizeOf := by decide +kernel
  have k3 := hts (.fieldLink RX12 38 "CitationFormatterModel" "group" "[I") (by decide +kernel)
  refine lv_iconst (v := 0) hx hb dX12_sizeOf_0 (by decide) ?_
  refine lv_istore_n (lv' := [(2, .int 0), (0, .ref aM), (1, .int x1)]) hx hb dX12_sizeOf_1 rfl hl (by decide) rfl (fun ls hl => ?_)
  refine lv_iconst (v := 0) hx hb dX12_sizeOf_2 (by decide) ?_
  refine lv_istore_n (lv' := [(3, .int 0), (2, .int 0), (0, .ref aM), (1, .int x1)]) hx hb dX12_sizeOf_3 rfl hl (by decide) rfl (fun ls hl => ?_)
  replace hm := bd_some hm
  obtain ⟨e1, hc1, hm⟩ := hm
  have X1_0 : ∀ (H : Heap) (locs : List Loc) (ls : Array Slot), va_P D vwCl (w_X12_sizeOf cI aM aM_s aM_ke aM_te aM_re aM_bo aM_bn aM_sh aM_in aM_su aM_gr aM_tr aM_ou aM_ro M_s M_km M_n M_be M_ma M_so M_gr M_om) H → va_D A (w_X12_sizeOf cI aM aM_s aM_ke aM_te aM_re aM_bo aM_bn aM_sh aM_in aM_su aM_gr aM_tr aM_ou aM_ro M_s M_km M_n M_be M_ma M_so M_gr M_om) → va_S A s.heap H locs → lv_has ls 4 [(0, .ref aM), (2, .int e1)] → W p l e rm_X12_sizeOf s m args below meth c H locs 0 0 Q (F0 m 38 ls []) := by
    intro H locs ls hP hD hS hl
    refine lv_iload_n hx hb dX12_sizeOf_38 rfl (lv_at hl 1 rfl) ?_
    have h9 := Option.some.inj hm
    subst h9
    exact hret H locs _ ls _ hP hD hS rfl dX12_sizeOf_39
  refine it_W (G := fun (st4 : Int32 × Int32) => ∀ (H : Heap) (locs : List Loc) (ls : Array Slot), va_P D vwCl (w_X12_sizeOf cI aM aM_s aM_ke aM_te aM_re aM_bo aM_bn aM_sh aM_in aM_su aM_gr aM_tr aM_ou aM_ro M_s M_km M_n M_be M_ma M_so M_gr M_om) H → va_D A (w_X12_sizeOf cI aM aM_s aM_ke aM_te aM_re aM_bo aM_bn aM_sh aM_in aM_su aM_gr aM_tr aM_ou aM_ro M_s M_km M_n M_be M_ma M_so M_gr M_om) → va_S A s.heap H locs → lv_has ls 4 [(0, .ref aM), (1, .int x1), (2, .int st4.1), (3, .int st4.2)] → W p l e rm_X12_sizeOf s m args below meth c H locs 0 0 Q (F0 m 4 ls [])) (e := e1) (fun st4 x hm hG hE => ?_) fu _ hc1 H locs ls hP hD hS (lv_sub hl [2, 3, 1, 0] rfl)
  intro H locs ls hP hD hS hl
  have J30 : ∀ (x3_j30 : Int32) (y0_j30 : Int32) (y1_j30 : Int32), (m_X12_sizeOf_J30 x1 x3_j30 y0_j30 y1_j30 = some x) → ∀ (H : Heap) (locs : List Loc) (ls : Array Slot), va_P D vwCl (w_X12_sizeOf cI aM aM_s aM_ke aM_te aM_re aM_bo aM_bn aM_sh aM_in aM_su aM_gr aM_tr aM_ou aM_ro M_s M_km M_n M_be M_ma M_so M_gr M_om) H → va_D A (w_X12_sizeOf cI aM aM_s aM_ke aM_te aM_re aM_bo aM_bn aM_sh aM_in aM_su aM_gr aM_tr aM_ou aM_ro M_s M_km M_n M_be M_ma M_so M_gr M_om) → va_S A s.heap H locs → lv_has ls 4 [(0, .ref aM), (1, .int x1), (3, .int x3_j30)] → W p l e rm_X12_sizeOf s m args below meth c H locs 0 0 Q (F0 m 30 ls [.int y0_j30, .int y1_j30]) := by
    intro x3_j30 y0_j30 y1_j30 hm H locs ls hP hD hS hl
    refine lv_iadd hx hb dX12_sizeOf_30 ?_
    refine lv_istore_n (lv' := [(2, .int (y1_j30 + y0_j30)), (0, .ref aM), (1, .int x1), (3, .int x3_j30)]) hx hb dX12_sizeOf_31 rfl hl (by decide) rfl (fun ls hl => ?_)
    refine lv_iinc (v := (x3_j30 + 1)) (lv' := [(3, .int (x3_j30 + 1)), (2, .int (y1_j30 + y0_j30)), (0, .ref aM), (1, .int x1)]) hx hb dX12_sizeOf_32 hl (k := 3) rfl rfl (by decide) rfl (fun ls hl => ?_)
    refine lv_goto (tgt := 4) hx hb dX12_sizeOf_35 (by decide) ?_
    exact hG _ (Option.some.inj hm).symm H locs ls hP hD hS (lv_sub hl [2, 3, 1, 0] rfl)
  refine lv_iload_n hx hb dX12_sizeOf_4 rfl (lv_at hl 3 rfl) ?_
  refine lv_aload_n hx hb dX12_sizeOf_5 rfl (lv_at hl 0 rfl) ?_
  refine va_get (D := D) (ci := 12) (v := .ref aM_s) (C := RX12) (T := TX12) (N := 19) hx hb hts k2 hown hKv hP 0 rfl rfl 0 (by decide) k1 (fun _ h9 => h9) rfl dX12_sizeOf_6 ?_
  refine lv_iconst (v := 0) hx hb dX12_sizeOf_9 (by decide) ?_
  replace hm := ck_some hm
  obtain ⟨h2, hm⟩ := hm
  refine va_iald hx hb hKv hP 1 0 rfl rfl h2 dX12_sizeOf_10 ?_
  refine lv_icmp_ge (tgt := 38) hx hb dX12_sizeOf_11 (by decide) (fun c3 => ?_) (fun c3 => ?_)
  · replace hm := if_t c3 hm
    have h9 := hE _ (Option.some.inj hm).symm
    subst h9
    exact X1_0 H locs ls hP hD hS (lv_sub hl [0, 2] rfl)
  · replace hm := if_f c3 hm
    refine lv_iload_n hx hb dX12_sizeOf_14 rfl (lv_at hl 2 rfl) ?_
    refine lv_aload_n hx hb dX12_sizeOf_15 rfl (lv_at hl 0 rfl) ?_
    refine va_get (D := D) (ci := 12) (v := .ref aM_gr) (C := RX12) (T := TX12) (N := 19) hx hb hts k2 hown hKv hP 0 rfl rfl 14 (by decide) k3 (fun _ h9 => h9) rfl dX12_sizeOf_16 ?_
    refine lv_iload_n hx hb dX12_sizeOf_19 rfl (lv_at hl 3 rfl) ?_
    replace hm := ck_some hm
    obtain ⟨h4, hm⟩ := hm
    refine va_iald hx hb hKv hP 2 0 rfl rfl h4 dX12_sizeOf_20 ?_
    refine lv_iload_n hx hb dX12_sizeOf_21 rfl (lv_at hl 1 rfl) ?_
    refine lv_icmp_ne (tgt := 29) hx hb dX12_sizeOf_22 (by decide) (fun c5 => ?_) (fun c5 => ?_)
    · replace hm := if_f c5 hm
      refine lv_iconst (v := 0) hx hb dX12_sizeOf_29 (by decide) ?_
      exact J30 st4.2 0 st4.1 hm H locs ls hP hD hS (lv_sub hl [0, 1, 3] rfl)
    · replace hm := if_t c5 hm
      refine lv_iconst (v := 1) hx hb dX12_sizeOf_25 (by decide) ?_
      refine lv_goto (tgt := 30) hx hb dX12_sizeOf_26 (by decide) ?_
      exact J30 st4.2 1 st4.1 hm H locs ls hP hD hS (lv_sub hl [0, 1, 3] rfl)
set_option maxHeartbeats 4000000 in
set_option maxRecDepth 100000 in
theorem c_X12_layLabels (l : Launch) (D : va_G) (cI cJ cZ cS : ClassId) (aM aM_s aM_ke aM_te aM_re aM_bo aM_bn aM_sh aM_in aM_su aM_gr aM_tr aM_ou aM_ro : Nat) (M_s : Nat → Int32) (M_km : Int32) (M_n : Int32) (M_be : Int32) (M_ma : Int32) (M_so : Int32) (M_bo : Nat → Int32) (M_bn : Nat → Int32) (M_sh : Nat → Int32) (M_in : Nat → Int32) (M_su : Nat → Int32) (M_gr : Nat → Int32) (M_tr : Nat → Int32) (M_om : Int32) (o : (Nat → Int32) × (Nat → Int32) × (Nat → Int32) × (Nat → Int32) × (Nat → Int32) × (Nat → Int32) × (Nat → Int32)) (hm : m_X12_layLabels M_s M_bo M_bn M_sh M_in M_su M_gr M_tr = some o) : MV l yX12_layLabels wsX12_layLabels rm_X12_layLabels D (TY cI cJ cZ cS) [.ref aM] (w_X12_layLabels cI cZ aM aM_s aM_ke aM_te aM_re aM_bo aM_bn aM_sh aM_in aM_su aM_gr aM_tr aM_ou aM_ro M_s M_km M_n M_be M_ma M_so M_bo M_bn M_sh M_in M_su M_gr M_tr M_om) (w_X12_layLabels cI cZ aM aM_s aM_ke aM_te aM_re aM_bo aM_bn aM_sh aM_in aM_su aM_gr aM_tr aM_ou aM_ro M_s M_km M_n M_be M_ma M_so o.1 o.2.1 o.2.2.1 o.2.2.2.1 o.2.2.2.2.1 o.2.2.2.2.2.1 o.2.2.2.2.2.2 M_om) := by
  refine MV_of (cc := cX12_layLabels) (maxL := 3) (by decide) rfl (Nat.le_of_ble_eq_true rfl) ?_
  intro p e s m args below meth c A Q ls H locs hx hb hml hts hown hK hA hP hD hS hl hret
  have hown : s.vm.findClass RX12 = some m.cls := hown
  have hKv : va_K D vwCl (TY cI cJ cZ cS) s := hK.1
  have hl : lv_has ls 3 [(0, .ref aM)] := hl
  have S : CallFix p m c cX12_layLabels 3 s args wsX12_layLabels RX12 := ⟨hx, hb, hml, hown, hts⟩
  have k1 : CallW rm_X12_layLabels s args RX12 RX12 108 yX12_layNumbers cX12_layNumbers 6 none wsX12_layNumbers rm_X12_layNumbers 0 0 0 := cwV 0 hts gX12_layLabels_X12_layNumbers rfl rfl rfl (by decide +kernel) ⟨Nat.le_of_ble_eq_true rfl, Nat.le_of_ble_eq_true rfl⟩
  have k2 : CallW rm_X12_layLabels s args RX12 RX12 187 yX12_layGroups cX12_layGroups 3 none wsX12_layGroups rm_X12_layGroups 0 0 0 := cwV 0 hts gX12_layLabels_X12_layGroups rfl rfl rfl (by decide +kernel) ⟨Nat.le_of_ble_eq_true rfl, Nat.le_of_ble_eq_true rfl⟩
  have k3 := hts (.fieldLink RX12 7 "CitationFormatterModel" "s" "[I") (by decide +kernel)
  have k4 : ∀ w ∈ wsX120, w ∈ wsX12_layLabels := by decide +kernel
  have k5 : CallW rm_X12_layLabels s args RX12 RX12 190 yX12_sizeOf cX12_sizeOf 4 (some .int) wsX12_sizeOf rm_X12_sizeOf 0 0 1 := cwV 1 hts gX12_layLabels_X12_sizeOf rfl rfl rfl (by decide +kernel) ⟨Nat.le_of_ble_eq_true rfl, Nat.le_of_ble_eq_true rfl⟩
  have k6 : CallW rm_X12_layLabels s args RX12 RX12 200 yX12_addSuffixes cX12_addSuffixes 4 none wsX12_addSuffixes rm_X12_addSuffixes 0 0 1 := cwV 1 hts gX12_layLabels_X12_addSuffixes rfl rfl rfl (by decide +kernel) ⟨Nat.le_of_ble_eq_true rfl, Nat.le_of_ble_eq_true rfl⟩
  have k7 : CallW rm_X12_layLabels s args RX12 RX12 197 yX12_addInitials cX12_addInitials 4 none wsX12_addInitials rm_X12_addInitials 0 0 1 := cwV 1 hts gX12_layLabels_X12_addInitials rfl rfl rfl (by decide +kernel) ⟨Nat.le_of_ble_eq_true rfl, Nat.le_of_ble_eq_true rfl⟩
  have k8 : CallW rm_X12_layLabels s args RX12 RX12 193 yX12_addNames cX12_addNames 6 none wsX12_addNames rm_X12_addNames 0 0 1 := cwV 1 hts gX12_layLabels_X12_addNames rfl rfl rfl (by decide +kernel) ⟨Nat.le_of_ble_eq_true rfl, Nat.le_of_ble_eq_true rfl⟩
  have k9 := hts (.fieldLink RX12 31 "CitationFormatterModel" "initials" "[Z") (by decide +kernel)
  have k10 := hts (.fieldLink RX12 35 "CitationFormatterModel" "suffix" "[I") (by decide +kernel)
  have k11 : CallW rm_X12_layLabels s args RX12 RX12 146 yX12_authors cX12_authors 2 (some .int) wsX12_authors rm_X12_authors 0 0 1 := cwV 1 hts gX12_layLabels_X12_authors rfl rfl rfl (by decide +kernel) ⟨Nat.le_of_ble_eq_true rfl, Nat.le_of_ble_eq_true rfl⟩
  have k12 := hts (.fieldLink RX12 28 "CitationFormatterModel" "shown" "[I") (by decide +kernel)
  refine lv_aload_n hx hb dX12_layLabels_0 rfl (lv_at hl 0 rfl) ?_
  replace hm := bd_some hm
  obtain ⟨e1, hc1, hm⟩ := hm
  refine kV_v (rest := []) (ws' := (w_X12_layLabels cI cZ aM aM_s aM_ke aM_te aM_re aM_bo aM_bn aM_sh aM_in aM_su aM_gr aM_tr aM_ou aM_ro M_s M_km M_n M_be M_ma M_so e1.1 e1.2 M_sh M_in M_su M_gr M_tr M_om)) S (c_X12_layNumbers l D cI cJ cZ cS aM aM_s aM_ke aM_te aM_re aM_bo aM_bn aM_sh aM_in aM_su aM_gr aM_tr aM_ou aM_ro M_s M_km M_n M_be M_ma M_so M_bo M_bn M_om e1 hc1) k1 hK hP hD hS hA 0 rfl rfl rfl rfl hl.1 rfl (Nat.le_of_ble_eq_true rfl) ⟨Nat.zero_le _, Nat.zero_le _⟩ dX12_layLabels_1 [0, 1, 2, 3] rfl rfl wa_X12_layNumbers (sa_eq [(aM_sh, .inl (cI, 8, .inl M_sh)), (aM_in, .inl (cZ, 8, .inl M_in)), (aM_su, .inl (cI, 8, .inl M_su)), (aM_gr, .inl (cI, 8, .inl M_gr)), (aM_tr, .inl (cI, 8, .inl M_tr))] [4, 5, 6, 7, 8] 9 rfl rfl rfl rfl rfl rfl rfl) (fun H locs hP hD hS => ?_)
  refine lv_iconst (v := 0) hx hb dX12_layLabels_4 (by decide) ?_
  refine lv_istore_n (lv' := [(1, .int 0), (0, .ref aM)]) hx hb dX12_layLabels_5 rfl hl (by decide) rfl (fun ls hl => ?_)
  replace hm := bd_some hm
  obtain ⟨e2, hc2, hm⟩ := hm
  have X2_0 : ∀ (H : Heap) (locs : List Loc) (ls : Array Slot), va_P D vwCl (w_X12_layLabels cI cZ aM aM_s aM_ke aM_te aM_re aM_bo aM_bn aM_sh aM_in aM_su aM_gr aM_tr aM_ou aM_ro M_s M_km M_n M_be M_ma M_so e1.1 e1.2 e2.1 e2.2.1 e2.2.2 M_gr M_tr M_om) H → va_D A (w_X12_layLabels cI cZ aM aM_s aM_ke aM_te aM_re aM_bo aM_bn aM_sh aM_in aM_su aM_gr aM_tr aM_ou aM_ro M_s M_km M_n M_be M_ma M_so e1.1 e1.2 e2.1 e2.2.1 e2.2.2 M_gr M_tr M_om) → va_S A s.heap H locs → lv_has ls 3 [(0, .ref aM)] → W p l e rm_X12_layLabels s m args below meth c H locs 0 0 Q (F0 m 108 ls []) := by
    intro H locs ls hP hD hS hl
    refine lv_iconst (v := 0) hx hb dX12_layLabels_108 (by decide) ?_
    refine lv_istore_n (lv' := [(1, .int 0), (0, .ref aM)]) hx hb dX12_layLabels_109 rfl hl (by decide) rfl (fun ls hl => ?_)
    replace hm := bd_some hm
    obtain ⟨e3, hc3, hm⟩ := hm
    have X3_0 : ∀ (H : Heap) (locs : List Loc) (ls : Array Slot), va_P D vwCl (w_X12_layLabels cI cZ aM aM_s aM_ke aM_te aM_re aM_bo aM_bn aM_sh aM_in aM_su aM_gr aM_tr aM_ou aM_ro M_s M_km M_n M_be M_ma M_so e1.1 e1.2 e3.1 e3.2.1 e3.2.2.1 e3.2.2.2.1 e3.2.2.2.2 M_om) H → va_D A (w_X12_layLabels cI cZ aM aM_s aM_ke aM_te aM_re aM_bo aM_bn aM_sh aM_in aM_su aM_gr aM_tr aM_ou aM_ro M_s M_km M_n M_be M_ma M_so e1.1 e1.2 e3.1 e3.2.1 e3.2.2.1 e3.2.2.2.1 e3.2.2.2.2 M_om) → va_S A s.heap H locs → lv_has ls 3 [(0, .ref aM)] → W p l e rm_X12_layLabels s m args below meth c H locs 0 0 Q (F0 m 197 ls []) := by
      intro H locs ls hP hD hS hl
      have h9 := Option.some.inj hm
      subst h9
      exact hret H locs _ ls hP hD hS dX12_layLabels_197
    refine it_W (G := fun (st110 : Int32 × (Nat → Int32) × (Nat → Int32) × (Nat → Int32) × (Nat → Int32) × (Nat → Int32)) => ∀ (H : Heap) (locs : List Loc) (ls : Array Slot), va_P D vwCl (w_X12_layLabels cI cZ aM aM_s aM_ke aM_te aM_re aM_bo aM_bn aM_sh aM_in aM_su aM_gr aM_tr aM_ou aM_ro M_s M_km M_n M_be M_ma M_so e1.1 e1.2 st110.2.1 st110.2.2.1 st110.2.2.2.1 st110.2.2.2.2.1 st110.2.2.2.2.2 M_om) H → va_D A (w_X12_layLabels cI cZ aM aM_s aM_ke aM_te aM_re aM_bo aM_bn aM_sh aM_in aM_su aM_gr aM_tr aM_ou aM_ro M_s M_km M_n M_be M_ma M_so e1.1 e1.2 st110.2.1 st110.2.2.1 st110.2.2.2.1 st110.2.2.2.2.1 st110.2.2.2.2.2 M_om) → va_S A s.heap H locs → lv_has ls 3 [(0, .ref aM), (1, .int st110.1)] → W p l e rm_X12_layLabels s m args below meth c H locs 0 0 Q (F0 m 110 ls [])) (e := e3) (fun st110 x hm hG hE => ?_) fu _ hc3 H locs ls hP hD hS (lv_sub hl [1, 0] rfl)
    intro H locs ls hP hD hS hl
    refine lv_iload_n hx hb dX12_layLabels_110 rfl (lv_at hl 1 rfl) ?_
    refine lv_iconst (v := 3) hx hb dX12_layLabels_111 (by decide) ?_
    refine lv_icmp_ge (tgt := 197) hx hb dX12_layLabels_112 (by decide) (fun c4 => ?_) (fun c4 => ?_)
    · replace hm := if_t c4 hm
      have h9 := hE _ (Option.some.inj hm).symm
      subst h9
      exact X3_0 H locs ls hP hD hS (lv_sub hl [0] rfl)
    · replace hm := if_f c4 hm
      refine lv_aload_n hx hb dX12_layLabels_115 rfl (lv_at hl 0 rfl) ?_
      replace hm := bd_some hm
      obtain ⟨e5, hc5, hm⟩ := hm
      refine kV_v (rest := []) (ws' := (w_X12_layLabels cI cZ aM aM_s aM_ke aM_te aM_re aM_bo aM_bn aM_sh aM_in aM_su aM_gr aM_tr aM_ou aM_ro M_s M_km M_n M_be M_ma M_so e1.1 e1.2 st110.2.1 st110.2.2.1 st110.2.2.2.1 e5 st110.2.2.2.2.2 M_om)) S (c_X12_layGroups l D cI cJ cZ cS aM aM_s aM_ke aM_te aM_re aM_bo aM_bn aM_sh aM_in aM_su aM_gr aM_tr aM_ou aM_ro M_s M_km M_n M_be M_ma M_so st110.2.1 st110.2.2.1 st110.2.2.2.1 st110.2.2.2.2.1 M_om e5 hc5) k2 hK hP hD hS hA 0 rfl rfl rfl rfl hl.1 rfl (Nat.le_of_ble_eq_true rfl) ⟨Nat.zero_le _, Nat.zero_le _⟩ dX12_layLabels_116 [0, 1, 4, 5, 6, 7] rfl rfl wa_X12_layGroups (sa_eq [(aM_bo, .inl (cI, 8, .inl e1.1)), (aM_bn, .inl (cI, 8, .inl e1.2)), (aM_tr, .inl (cI, 8, .inl st110.2.2.2.2.2))] [2, 3, 8] 9 rfl rfl rfl rfl rfl rfl rfl) (fun H locs hP hD hS => ?_)
      refine lv_iconst (v := 0) hx hb dX12_layLabels_119 (by decide) ?_
      refine lv_istore_n (lv' := [(2, .int 0), (0, .ref aM), (1, .int st110.1)]) hx hb dX12_layLabels_120 rfl hl (by decide) rfl (fun ls hl => ?_)
      replace hm := bd_some hm
      obtain ⟨e6, hc6, hm⟩ := hm
      have X6_0 : ∀ (H : Heap) (locs : List Loc) (ls : Array Slot), va_P D vwCl (w_X12_layLabels cI cZ aM aM_s aM_ke aM_te aM_re aM_bo aM_bn aM_sh aM_in aM_su aM_gr aM_tr aM_ou aM_ro M_s M_km M_n M_be M_ma M_so e1.1 e1.2 e6.1 e6.2.1 e6.2.2.1 e5 e6.2.2.2 M_om) H → va_D A (w_X12_layLabels cI cZ aM aM_s aM_ke aM_te aM_re aM_bo aM_bn aM_sh aM_in aM_su aM_gr aM_tr aM_ou aM_ro M_s M_km M_n M_be M_ma M_so e1.1 e1.2 e6.1 e6.2.1 e6.2.2.1 e5 e6.2.2.2 M_om) → va_S A s.heap H locs → lv_has ls 3 [(0, .ref aM), (1, .int st110.1)] → W p l e rm_X12_layLabels s m args below meth c H locs 0 0 Q (F0 m 191 ls []) := by
        intro H locs ls hP hD hS hl
        refine lv_iinc (v := (st110.1 + 1)) (lv' := [(1, .int (st110.1 + 1)), (0, .ref aM)]) hx hb dX12_layLabels_191 hl (k := 1) rfl rfl (by decide) rfl (fun ls hl => ?_)
        refine lv_goto (tgt := 110) hx hb dX12_layLabels_194 (by decide) ?_
        exact hG _ (Option.some.inj hm).symm H locs ls hP hD hS (lv_sub hl [1, 0] rfl)
      refine it_W (G := fun (st121 : Int32 × (Nat → Int32) × (Nat → Int32) × (Nat → Int32) × (Nat → Int32)) => ∀ (H : Heap) (locs : List Loc) (ls : Array Slot), va_P D vwCl (w_X12_layLabels cI cZ aM aM_s aM_ke aM_te aM_re aM_bo aM_bn aM_sh aM_in aM_su aM_gr aM_tr aM_ou aM_ro M_s M_km M_n M_be M_ma M_so e1.1 e1.2 st121.2.1 st121.2.2.1 st121.2.2.2.1 e5 st121.2.2.2.2 M_om) H → va_D A (w_X12_layLabels cI cZ aM aM_s aM_ke aM_te aM_re aM_bo aM_bn aM_sh aM_in aM_su aM_gr aM_tr aM_ou aM_ro M_s M_km M_n M_be M_ma M_so e1.1 e1.2 st121.2.1 st121.2.2.1 st121.2.2.2.1 e5 st121.2.2.2.2 M_om) → va_S A s.heap H locs → lv_has ls 3 [(0, .ref aM), (1, .int st110.1), (2, .int st121.1)] → W p l e rm_X12_layLabels s m args below meth c H locs 0 0 Q (F0 m 121 ls [])) (e := e6) (fun st121 x hm hG hE => ?_) fu _ hc6 H locs ls hP hD hS (lv_sub hl [1, 2, 0] rfl)
      intro H locs ls hP hD hS hl
      have J185 : ∀ (x2_j185 : Int32) (M_sh_j185 : Nat → Int32) (M_in_j185 : Nat → Int32) (M_su_j185 : Nat → Int32) (M_tr_j185 : Nat → Int32), (m_X12_layLabels_J185 st110.1 x2_j185 M_sh_j185 M_in_j185 M_su_j185 M_tr_j185 = some x) → ∀ (H : Heap) (locs : List Loc) (ls : Array Slot), va_P D vwCl (w_X12_layLabels cI cZ aM aM_s aM_ke aM_te aM_re aM_bo aM_bn aM_sh aM_in aM_su aM_gr aM_tr aM_ou aM_ro M_s M_km M_n M_be M_ma M_so e1.1 e1.2 M_sh_j185 M_in_j185 M_su_j185 e5 M_tr_j185 M_om) H → va_D A (w_X12_layLabels cI cZ aM aM_s aM_ke aM_te aM_re aM_bo aM_bn aM_sh aM_in aM_su aM_gr aM_tr aM_ou aM_ro M_s M_km M_n M_be M_ma M_so e1.1 e1.2 M_sh_j185 M_in_j185 M_su_j185 e5 M_tr_j185 M_om) → va_S A s.heap H locs → lv_has ls 3 [(0, .ref aM), (1, .int st110.1), (2, .int x2_j185)] → W p l e rm_X12_layLabels s m args below meth c H locs 0 0 Q (F0 m 185 ls []) := by
        intro x2_j185 M_sh_j185 M_in_j185 M_su_j185 M_tr_j185 hm H locs ls hP hD hS hl
        refine lv_iinc (v := (x2_j185 + 1)) (lv' := [(2, .int (x2_j185 + 1)), (0, .ref aM), (1, .int st110.1)]) hx hb dX12_layLabels_185 hl (k := 2) rfl rfl (by decide) rfl (fun ls hl => ?_)
        refine lv_goto (tgt := 121) hx hb dX12_layLabels_188 (by decide) ?_
        exact hG _ (Option.some.inj hm).symm H locs ls hP hD hS (lv_sub hl [1, 2, 0] rfl)
      refine lv_iload_n hx hb dX12_layLabels_121 rfl (lv_at hl 2 rfl) ?_
      refine lv_aload_n hx hb dX12_layLabels_122 rfl (lv_at hl 0 rfl) ?_
      refine va_get (D := D) (ci := 12) (v := .ref aM_s) (C := RX12) (T := TX12) (N := 19) hx hb hts k4 hown hKv hP 0 rfl rfl 0 (by decide) k3 (fun _ h9 => h9) rfl dX12_layLabels_123 ?_
      refine lv_iconst (v := 0) hx hb dX12_layLabels_126 (by decide) ?_
      replace hm := ck_some hm
      obtain ⟨h7, hm⟩ := hm
      refine va_iald hx hb hKv hP 1 0 rfl rfl h7 dX12_layLabels_127 ?_
      refine lv_icmp_ge (tgt := 191) hx hb dX12_layLabels_128 (by decide) (fun c8 => ?_) (fun c8 => ?_)
      · replace hm := if_t c8 hm
        have h9 := hE _ (Option.some.inj hm).symm
        subst h9
        exact X6_0 H locs ls hP hD hS (lv_sub hl [0, 1] rfl)
      · replace hm := if_f c8 hm
        refine lv_aload_n hx hb dX12_layLabels_131 rfl (lv_at hl 0 rfl) ?_
        refine va_get (D := D) (ci := 12) (v := .ref aM_s) (C := RX12) (T := TX12) (N := 19) hx hb hts k4 hown hKv hP 0 rfl rfl 0 (by decide) k3 (fun _ h9 => h9) rfl dX12_layLabels_132 ?_
        refine lv_bipush (v := 60) hx hb dX12_layLabels_135 (by decide) ?_
        replace hm := ck_some hm
        obtain ⟨h9, hm⟩ := hm
        refine va_iald hx hb hKv hP 1 0 rfl rfl h9 dX12_layLabels_137 ?_
        refine lv_iload_n hx hb dX12_layLabels_138 rfl (lv_at hl 1 rfl) ?_
        refine lv_ishr hx hb dX12_layLabels_139 ?_
        refine lv_iconst (v := 1) hx hb dX12_layLabels_140 (by decide) ?_
        refine lv_iand hx hb dX12_layLabels_141 ?_
        refine lv_iconst (v := 1) hx hb dX12_layLabels_142 (by decide) ?_
        refine lv_icmp_ne (tgt := 191) hx hb dX12_layLabels_143 (by decide) (fun c10 => ?_) (fun c10 => ?_)
        · replace hm := if_f c10 hm
          have h9 := hE _ (Option.some.inj hm).symm
          subst h9
          exact X6_0 H locs ls hP hD hS (lv_sub hl [0, 1] rfl)
        · replace hm := if_t c10 hm
          refine lv_aload_n hx hb dX12_layLabels_146 rfl (lv_at hl 0 rfl) ?_
          refine lv_iload_n hx hb dX12_layLabels_147 rfl (lv_at hl 2 rfl) ?_
          replace hm := bd_some hm
          obtain ⟨e11, hc11, hm⟩ := hm
          refine kV_i (rest := []) (ws' := (w_X12_layLabels cI cZ aM aM_s aM_ke aM_te aM_re aM_bo aM_bn aM_sh aM_in aM_su aM_gr aM_tr aM_ou aM_ro M_s M_km M_n M_be M_ma M_so e1.1 e1.2 st121.2.1 st121.2.2.1 st121.2.2.2.1 e5 st121.2.2.2.2 M_om)) S (c_X12_sizeOf l D cI cJ cZ cS aM aM_s aM_ke aM_te aM_re aM_bo aM_bn aM_sh aM_in aM_su aM_gr aM_tr aM_ou aM_ro M_s M_km M_n M_be M_ma M_so e5 M_om st121.1 e11 hc11) k5 hK hP hD hS hA 0 rfl rfl rfl rfl hl.1 rfl (Nat.le_of_ble_eq_true rfl) ⟨Nat.zero_le _, Nat.zero_le _⟩ dX12_layLabels_148 [0, 1, 7] rfl rfl wa_X12_sizeOf (sa_eq [(aM_bo, .inl (cI, 8, .inl e1.1)), (aM_bn, .inl (cI, 8, .inl e1.2)), (aM_sh, .inl (cI, 8, .inl st121.2.1)), (aM_in, .inl (cZ, 8, .inl st121.2.2.1)), (aM_su, .inl (cI, 8, .inl st121.2.2.2.1)), (aM_tr, .inl (cI, 8, .inl st121.2.2.2.2))] [2, 3, 4, 5, 6, 8] 9 rfl rfl rfl rfl rfl rfl rfl) (fun H locs hP hD hS => ?_)
          refine lv_iconst (v := 1) hx hb dX12_layLabels_151 (by decide) ?_
          refine lv_icmp_le (tgt := 185) hx hb dX12_layLabels_152 (by decide) (fun c12 => ?_) (fun c12 => ?_)
          · replace hm := if_t c12 hm
            exact J185 st121.1 st121.2.1 st121.2.2.1 st121.2.2.2.1 st121.2.2.2.2 hm H locs ls hP hD hS (lv_sub hl [0, 1, 2] rfl)
          · replace hm := if_f c12 hm
            refine lv_iload_n hx hb dX12_layLabels_155 rfl (lv_at hl 1 rfl) ?_
            refine lv_if_ne (tgt := 167) hx hb dX12_layLabels_156 (by decide) (fun c13 => ?_) (fun c13 => ?_)
            · replace hm := if_f c13 hm
              refine lv_iload_n hx hb dX12_layLabels_167 rfl (lv_at hl 1 rfl) ?_
              refine lv_iconst (v := 1) hx hb dX12_layLabels_168 (by decide) ?_
              refine lv_icmp_ne (tgt := 180) hx hb dX12_layLabels_169 (by decide) (fun c14 => ?_) (fun c14 => ?_)
              · replace hm := if_f c14 hm
                refine lv_aload_n hx hb dX12_layLabels_180 rfl (lv_at hl 0 rfl) ?_
                refine lv_iload_n hx hb dX12_layLabels_181 rfl (lv_at hl 2 rfl) ?_
                replace hm := bd_some hm
                obtain ⟨e15, hc15, hm⟩ := hm
                refine kV_v (rest := []) (ws' := (w_X12_layLabels cI cZ aM aM_s aM_ke aM_te aM_re aM_bo aM_bn aM_sh aM_in aM_su aM_gr aM_tr aM_ou aM_ro M_s M_km M_n M_be M_ma M_so e1.1 e1.2 st121.2.1 st121.2.2.1 e15 e5 st121.2.2.2.2 M_om)) S (c_X12_addSuffixes l D cI cJ cZ cS aM aM_s aM_ke aM_te aM_re aM_bo aM_bn aM_sh aM_in aM_su aM_gr aM_tr aM_ou aM_ro M_s M_km M_n M_be M_ma M_so e1.1 st121.2.2.2.1 e5 M_om st121.1 e15 hc15) k6 hK hP hD hS hA 0 rfl rfl rfl rfl hl.1 rfl (Nat.le_of_ble_eq_true rfl) ⟨Nat.zero_le _, Nat.zero_le _⟩ dX12_layLabels_182 [0, 1, 2, 6, 7] rfl rfl wa_X12_addSuffixes (sa_eq [(aM_bn, .inl (cI, 8, .inl e1.2)), (aM_sh, .inl (cI, 8, .inl st121.2.1)), (aM_in, .inl (cZ, 8, .inl st121.2.2.1)), (aM_tr, .inl (cI, 8, .inl st121.2.2.2.2))] [3, 4, 5, 8] 9 rfl rfl rfl rfl rfl rfl rfl) (fun H locs hP hD hS => ?_)
                exact J185 st121.1 st121.2.1 st121.2.2.1 e15 st121.2.2.2.2 hm H locs ls hP hD hS (lv_sub hl [0, 1, 2] rfl)
              · replace hm := if_t c14 hm
                refine lv_aload_n hx hb dX12_layLabels_172 rfl (lv_at hl 0 rfl) ?_
                refine lv_iload_n hx hb dX12_layLabels_173 rfl (lv_at hl 2 rfl) ?_
                replace hm := bd_some hm
                obtain ⟨e16, hc16, hm⟩ := hm
                refine kV_v (rest := []) (ws' := (w_X12_layLabels cI cZ aM aM_s aM_ke aM_te aM_re aM_bo aM_bn aM_sh aM_in aM_su aM_gr aM_tr aM_ou aM_ro M_s M_km M_n M_be M_ma M_so e1.1 e1.2 st121.2.1 e16 st121.2.2.2.1 e5 st121.2.2.2.2 M_om)) S (c_X12_addInitials l D cI cJ cZ cS aM aM_s aM_ke aM_te aM_re aM_bo aM_bn aM_sh aM_in aM_su aM_gr aM_tr aM_ou aM_ro M_s M_km M_n M_be M_ma M_so st121.2.1 st121.2.2.1 st121.2.2.2.1 e5 M_om st121.1 e16 hc16) k7 hK hP hD hS hA 0 rfl rfl rfl rfl hl.1 rfl (Nat.le_of_ble_eq_true rfl) ⟨Nat.zero_le _, Nat.zero_le _⟩ dX12_layLabels_174 [0, 1, 4, 5, 6, 7] rfl rfl wa_X12_addInitials (sa_eq [(aM_bo, .inl (cI, 8, .inl e1.1)), (aM_bn, .inl (cI, 8, .inl e1.2)), (aM_tr, .inl (cI, 8, .inl st121.2.2.2.2))] [2, 3, 8] 9 rfl rfl rfl rfl rfl rfl rfl) (fun H locs hP hD hS => ?_)
                refine lv_goto (tgt := 185) hx hb dX12_layLabels_177 (by decide) ?_
                exact J185 st121.1 st121.2.1 e16 st121.2.2.2.1 st121.2.2.2.2 hm H locs ls hP hD hS (lv_sub hl [0, 1, 2] rfl)
            · replace hm := if_t c13 hm
              refine lv_aload_n hx hb dX12_layLabels_159 rfl (lv_at hl 0 rfl) ?_
              refine lv_iload_n hx hb dX12_layLabels_160 rfl (lv_at hl 2 rfl) ?_
              replace hm := bd_some hm
              obtain ⟨e17, hc17, hm⟩ := hm
              refine kV_v (rest := []) (ws' := (w_X12_layLabels cI cZ aM aM_s aM_ke aM_te aM_re aM_bo aM_bn aM_sh aM_in aM_su aM_gr aM_tr aM_ou aM_ro M_s M_km M_n M_be M_ma M_so e1.1 e1.2 e17.1 st121.2.2.1 st121.2.2.2.1 e5 e17.2 M_om)) S (c_X12_addNames l D cI cJ cZ cS aM aM_s aM_ke aM_te aM_re aM_bo aM_bn aM_sh aM_in aM_su aM_gr aM_tr aM_ou aM_ro M_s M_km M_n M_be M_ma M_so st121.2.1 st121.2.2.1 st121.2.2.2.1 e5 st121.2.2.2.2 M_om st121.1 e17 hc17) k8 hK hP hD hS hA 0 rfl rfl rfl rfl hl.1 rfl (Nat.le_of_ble_eq_true rfl) ⟨Nat.zero_le _, Nat.zero_le _⟩ dX12_layLabels_161 [0, 1, 4, 5, 6, 7, 8] rfl rfl wa_X12_addNames (sa_eq [(aM_bo, .inl (cI, 8, .inl e1.1)), (aM_bn, .inl (cI, 8, .inl e1.2))] [2, 3] 9 rfl rfl rfl rfl rfl rfl rfl) (fun H locs hP hD hS => ?_)
              refine lv_goto (tgt := 185) hx hb dX12_layLabels_164 (by decide) ?_
              exact J185 st121.1 e17.1 st121.2.2.1 st121.2.2.2.1 e17.2 hm H locs ls hP hD hS (lv_sub hl [0, 1, 2] rfl)
  refine it_W (G := fun (st6 : Int32 × (Nat → Int32) × (Nat → Int32) × (Nat → Int32)) => ∀ (H : Heap) (locs : List Loc) (ls : Array Slot), va_P D vwCl (w_X12_layLabels cI cZ aM aM_s aM_ke aM_te aM_re aM_bo aM_bn aM_sh aM_in aM_su aM_gr aM_tr aM_ou aM_ro M_s M_km M_n M_be M_ma M_so e1.1 e1.2 st6.2.1 st6.2.2.1 st6.2.2.2 M_gr M_tr M_om) H → va_D A (w_X12_layLabels cI cZ aM aM_s aM_ke aM_te aM_re aM_bo aM_bn aM_sh aM_in aM_su aM_gr aM_tr aM_ou aM_ro M_s M_km M_n M_be M_ma M_so e1.1 e1.2 st6.2.1 st6.2.2.1 st6.2.2.2 M_gr M_tr M_om) → va_S A s.heap H locs → lv_has ls 3 [(0, .ref aM), (1, .int st6.1)] → W p l e rm_X12_layLabels s m args below meth c H locs 0 0 Q (F0 m 6 ls [])) (e := e2) (fun st6 x hm hG hE => ?_) fu _ hc2 H locs ls hP hD hS (lv_sub hl [1, 0] rfl)
  intro H locs ls hP hD hS hl
  have J86 : ∀ (x1_j86 : Int32) (y0_j86 : Int32) (y1_j86 : Int32) (M_sh_j86 : Nat → Int32) (M_in_j86 : Nat → Int32) (M_su_j86 : Nat → Int32), (m_X12_layLabels_J86 x1_j86 y0_j86 y1_j86 M_sh_j86 M_in_j86 M_su_j86 = some x) → ∀ (H : Heap) (locs : List Loc) (ls : Array Slot), va_P D vwCl (w_X12_layLabels cI cZ aM aM_s aM_ke aM_te aM_re aM_bo aM_bn aM_sh aM_in aM_su aM_gr aM_tr aM_ou aM_ro M_s M_km M_n M_be M_ma M_so e1.1 e1.2 M_sh_j86 M_in_j86 M_su_j86 M_gr M_tr M_om) H → va_D A (w_X12_layLabels cI cZ aM aM_s aM_ke aM_te aM_re aM_bo aM_bn aM_sh aM_in aM_su aM_gr aM_tr aM_ou aM_ro M_s M_km M_n M_be M_ma M_so e1.1 e1.2 M_sh_j86 M_in_j86 M_su_j86 M_gr M_tr M_om) → va_S A s.heap H locs → lv_has ls 3 [(0, .ref aM), (1, .int x1_j86)] → W p l e rm_X12_layLabels s m args below meth c H locs 0 0 Q (F0 m 86 ls [.int y0_j86, .int y1_j86, .ref aM_sh]) := by
    intro x1_j86 y0_j86 y1_j86 M_sh_j86 M_in_j86 M_su_j86 hm H locs ls hP hD hS hl
    replace hm := ck_some hm
    obtain ⟨h18, hm⟩ := hm
    refine va_iast hx hb hKv hP hD hS 4 0 rfl rfl h18 dX12_layLabels_86 (fun H locs hP hD hS => ?_)
    replace hP : va_P D vwCl (w_X12_layLabels cI cZ aM aM_s aM_ke aM_te aM_re aM_bo aM_bn aM_sh aM_in aM_su aM_gr aM_tr aM_ou aM_ro M_s M_km M_n M_be M_ma M_so e1.1 e1.2 (upd M_sh_j86 (Int32.toNatClampNeg y1_j86) y0_j86) M_in_j86 M_su_j86 M_gr M_tr M_om) H := hP
    replace hD : va_D A (w_X12_layLabels cI cZ aM aM_s aM_ke aM_te aM_re aM_bo aM_bn aM_sh aM_in aM_su aM_gr aM_tr aM_ou aM_ro M_s M_km M_n M_be M_ma M_so e1.1 e1.2 (upd M_sh_j86 (Int32.toNatClampNeg y1_j86) y0_j86) M_in_j86 M_su_j86 M_gr M_tr M_om) := hD
    refine lv_aload_n hx hb dX12_layLabels_87 rfl (lv_at hl 0 rfl) ?_
    refine va_get (D := D) (ci := 12) (v := .ref aM_in) (C := RX12) (T := TX12) (N := 19) hx hb hts k4 hown hKv hP 0 rfl rfl 12 (by decide) k9 (fun _ h9 => h9) rfl dX12_layLabels_88 ?_
    refine lv_iload_n hx hb dX12_layLabels_91 rfl (lv_at hl 1 rfl) ?_
    refine lv_iconst (v := 0) hx hb dX12_layLabels_92 (by decide) ?_
    replace hm := ck_some hm
    obtain ⟨h19, hm⟩ := hm
    replace hm := ckb_some hm
    obtain ⟨h20, hm⟩ := hm
    refine va_zast hx hb hKv hP hD hS 5 2 rfl rfl h19 dX12_layLabels_93 (fun H locs hP hD hS => ?_)
    rw [vnar_b h20] at hP hD
    replace hP : va_P D vwCl (w_X12_layLabels cI cZ aM aM_s aM_ke aM_te aM_re aM_bo aM_bn aM_sh aM_in aM_su aM_gr aM_tr aM_ou aM_ro M_s M_km M_n M_be M_ma M_so e1.1 e1.2 (upd M_sh_j86 (Int32.toNatClampNeg y1_j86) y0_j86) (upd M_in_j86 (Int32.toNatClampNeg x1_j86) 0) M_su_j86 M_gr M_tr M_om) H := hP
    replace hD : va_D A (w_X12_layLabels cI cZ aM aM_s aM_ke aM_te aM_re aM_bo aM_bn aM_sh aM_in aM_su aM_gr aM_tr aM_ou aM_ro M_s M_km M_n M_be M_ma M_so e1.1 e1.2 (upd M_sh_j86 (Int32.toNatClampNeg y1_j86) y0_j86) (upd M_in_j86 (Int32.toNatClampNeg x1_j86) 0) M_su_j86 M_gr M_tr M_om) := hD
    refine lv_aload_n hx hb dX12_layLabels_94 rfl (lv_at hl 0 rfl) ?_
    refine va_get (D := D) (ci := 12) (v := .ref aM_su) (C := RX12) (T := TX12) (N := 19) hx hb hts k4 hown hKv hP 0 rfl rfl 13 (by decide) k10 (fun _ h9 => h9) rfl dX12_layLabels_95 ?_
    refine lv_iload_n hx hb dX12_layLabels_98 rfl (lv_at hl 1 rfl) ?_
    refine lv_bipush (v := (-9)) hx hb dX12_layLabels_99 (by decide) ?_
    replace hm := ck_some hm
    obtain ⟨h21, hm⟩ := hm
    refine va_iast hx hb hKv hP hD hS 6 0 rfl rfl h21 dX12_layLabels_101 (fun H locs hP hD hS => ?_)
    replace hP : va_P D vwCl (w_X12_layLabels cI cZ aM aM_s aM_ke aM_te aM_re aM_bo aM_bn aM_sh aM_in aM_su aM_gr aM_tr aM_ou aM_ro M_s M_km M_n M_be M_ma M_so e1.1 e1.2 (upd M_sh_j86 (Int32.toNatClampNeg y1_j86) y0_j86) (upd M_in_j86 (Int32.toNatClampNeg x1_j86) 0) (upd M_su_j86 (Int32.toNatClampNeg x1_j86) (-9)) M_gr M_tr M_om) H := hP
    replace hD : va_D A (w_X12_layLabels cI cZ aM aM_s aM_ke aM_te aM_re aM_bo aM_bn aM_sh aM_in aM_su aM_gr aM_tr aM_ou aM_ro M_s M_km M_n M_be M_ma M_so e1.1 e1.2 (upd M_sh_j86 (Int32.toNatClampNeg y1_j86) y0_j86) (upd M_in_j86 (Int32.toNatClampNeg x1_j86) 0) (upd M_su_j86 (Int32.toNatClampNeg x1_j86) (-9)) M_gr M_tr M_om) := hD
    refine lv_iinc (v := (x1_j86 + 1)) (lv' := [(1, .int (x1_j86 + 1)), (0, .ref aM)]) hx hb dX12_layLabels_102 hl (k := 1) rfl rfl (by decide) rfl (fun ls hl => ?_)
    refine lv_goto (tgt := 6) hx hb dX12_layLabels_105 (by decide) ?_
    exact hG _ (Option.some.inj hm).symm H locs ls hP hD hS (lv_sub hl [1, 0] rfl)
  have J81 : ∀ (x1_j81 : Int32) (y0_j81 : Int32) (M_sh_j81 : Nat → Int32) (M_in_j81 : Nat → Int32) (M_su_j81 : Nat → Int32), (m_X12_layLabels_J81 x1_j81 y0_j81 M_s M_sh_j81 M_in_j81 M_su_j81 = some x) → ∀ (H : Heap) (locs : List Loc) (ls : Array Slot), va_P D vwCl (w_X12_layLabels cI cZ aM aM_s aM_ke aM_te aM_re aM_bo aM_bn aM_sh aM_in aM_su aM_gr aM_tr aM_ou aM_ro M_s M_km M_n M_be M_ma M_so e1.1 e1.2 M_sh_j81 M_in_j81 M_su_j81 M_gr M_tr M_om) H → va_D A (w_X12_layLabels cI cZ aM aM_s aM_ke aM_te aM_re aM_bo aM_bn aM_sh aM_in aM_su aM_gr aM_tr aM_ou aM_ro M_s M_km M_n M_be M_ma M_so e1.1 e1.2 M_sh_j81 M_in_j81 M_su_j81 M_gr M_tr M_om) → va_S A s.heap H locs → lv_has ls 3 [(0, .ref aM), (1, .int x1_j81)] → W p l e rm_X12_layLabels s m args below meth c H locs 0 0 Q (F0 m 81 ls [.int y0_j81, .ref aM_sh]) := by
    intro x1_j81 y0_j81 M_sh_j81 M_in_j81 M_su_j81 hm H locs ls hP hD hS hl
    refine lv_aload_n hx hb dX12_layLabels_81 rfl (lv_at hl 0 rfl) ?_
    refine lv_iload_n hx hb dX12_layLabels_82 rfl (lv_at hl 1 rfl) ?_
    replace hm := bd_some hm
    obtain ⟨e22, hc22, hm⟩ := hm
    refine kV_i (rest := [.int y0_j81, .ref aM_sh]) (ws' := (w_X12_layLabels cI cZ aM aM_s aM_ke aM_te aM_re aM_bo aM_bn aM_sh aM_in aM_su aM_gr aM_tr aM_ou aM_ro M_s M_km M_n M_be M_ma M_so e1.1 e1.2 M_sh_j81 M_in_j81 M_su_j81 M_gr M_tr M_om)) S (c_X12_authors l D cI cJ cZ cS aM aM_s aM_ke aM_te aM_re aM_bo aM_bn aM_sh aM_in aM_su aM_gr aM_tr aM_ou aM_ro M_s M_km M_n M_be M_ma M_so M_om x1_j81 e22 hc22) k11 hK hP hD hS hA 0 rfl rfl rfl rfl hl.1 rfl (Nat.le_of_ble_eq_true rfl) ⟨Nat.zero_le _, Nat.zero_le _⟩ dX12_layLabels_83 [0, 1] rfl rfl wa_X12_authors (sa_eq [(aM_bo, .inl (cI, 8, .inl e1.1)), (aM_bn, .inl (cI, 8, .inl e1.2)), (aM_sh, .inl (cI, 8, .inl M_sh_j81)), (aM_in, .inl (cZ, 8, .inl M_in_j81)), (aM_su, .inl (cI, 8, .inl M_su_j81)), (aM_gr, .inl (cI, 8, .inl M_gr)), (aM_tr, .inl (cI, 8, .inl M_tr))] [2, 3, 4, 5, 6, 7, 8] 9 rfl rfl rfl rfl rfl rfl rfl) (fun H locs hP hD hS => ?_)
    exact J86 x1_j81 e22 y0_j81 M_sh_j81 M_in_j81 M_su_j81 hm H locs ls hP hD hS (lv_sub hl [0, 1] rfl)
  have J46 : ∀ (x1_j46 : Int32) (y0_j46 : Int32) (M_sh_j46 : Nat → Int32) (M_in_j46 : Nat → Int32) (M_su_j46 : Nat → Int32), (m_X12_layLabels_J46 x1_j46 y0_j46 M_s M_sh_j46 M_in_j46 M_su_j46 = some x) → ∀ (H : Heap) (locs : List Loc) (ls : Array Slot), va_P D vwCl (w_X12_layLabels cI cZ aM aM_s aM_ke aM_te aM_re aM_bo aM_bn aM_sh aM_in aM_su aM_gr aM_tr aM_ou aM_ro M_s M_km M_n M_be M_ma M_so e1.1 e1.2 M_sh_j46 M_in_j46 M_su_j46 M_gr M_tr M_om) H → va_D A (w_X12_layLabels cI cZ aM aM_s aM_ke aM_te aM_re aM_bo aM_bn aM_sh aM_in aM_su aM_gr aM_tr aM_ou aM_ro M_s M_km M_n M_be M_ma M_so e1.1 e1.2 M_sh_j46 M_in_j46 M_su_j46 M_gr M_tr M_om) → va_S A s.heap H locs → lv_has ls 3 [(0, .ref aM), (1, .int x1_j46)] → W p l e rm_X12_layLabels s m args below meth c H locs 0 0 Q (F0 m 46 ls [.int y0_j46]) := by
    intro x1_j46 y0_j46 M_sh_j46 M_in_j46 M_su_j46 hm H locs ls hP hD hS hl
    refine lv_istore_n (lv' := [(2, .int y0_j46), (0, .ref aM), (1, .int x1_j46)]) hx hb dX12_layLabels_46 rfl hl (by decide) rfl (fun ls hl => ?_)
    refine lv_aload_n hx hb dX12_layLabels_47 rfl (lv_at hl 1 rfl) ?_
    refine va_get (D := D) (ci := 12) (v := .ref aM_sh) (C := RX12) (T := TX12) (N := 19) hx hb hts k4 hown hKv hP 0 rfl rfl 11 (by decide) k12 (fun _ h9 => h9) rfl dX12_layLabels_48 ?_
    refine lv_iload_n hx hb dX12_layLabels_51 rfl (lv_at hl 2 rfl) ?_
    refine lv_iload_n hx hb dX12_layLabels_52 rfl (lv_at hl 0 rfl) ?_
    refine lv_if_eq (tgt := 81) hx hb dX12_layLabels_53 (by decide) (fun c23 => ?_) (fun c23 => ?_)
    · replace hm := if_t c23 hm
      exact J81 x1_j46 x1_j46 M_sh_j46 M_in_j46 M_su_j46 hm H locs ls hP hD hS (lv_sub hl [1, 2] rfl)
    · replace hm := if_f c23 hm
      refine lv_aload_n hx hb dX12_layLabels_56 rfl (lv_at hl 1 rfl) ?_
      refine va_get (D := D) (ci := 12) (v := .ref aM_s) (C := RX12) (T := TX12) (N := 19) hx hb hts k4 hown hKv hP 0 rfl rfl 0 (by decide) k3 (fun _ h9 => h9) rfl dX12_layLabels_57 ?_
      refine lv_bipush (v := 59) hx hb dX12_layLabels_60 (by decide) ?_
      replace hm := ck_some hm
      obtain ⟨h24, hm⟩ := hm
      refine va_iald hx hb hKv hP 1 0 rfl rfl h24 dX12_layLabels_62 ?_
      refine lv_aload_n hx hb dX12_layLabels_63 rfl (lv_at hl 1 rfl) ?_
      refine lv_iload_n hx hb dX12_layLabels_64 rfl (lv_at hl 2 rfl) ?_
      replace hm := bd_some hm
      obtain ⟨e25, hc25, hm⟩ := hm
      refine kV_i (rest := [.int (M_s (Int32.toNatClampNeg 59)), .int x1_j46, .ref aM_sh]) (ws' := (w_X12_layLabels cI cZ aM aM_s aM_ke aM_te aM_re aM_bo aM_bn aM_sh aM_in aM_su aM_gr aM_tr aM_ou aM_ro M_s M_km M_n M_be M_ma M_so e1.1 e1.2 M_sh_j46 M_in_j46 M_su_j46 M_gr M_tr M_om)) S (c_X12_authors l D cI cJ cZ cS aM aM_s aM_ke aM_te aM_re aM_bo aM_bn aM_sh aM_in aM_su aM_gr aM_tr aM_ou aM_ro M_s M_km M_n M_be M_ma M_so M_om x1_j46 e25 hc25) k11 hK hP hD hS hA 0 rfl rfl rfl rfl hl.1 rfl (Nat.le_of_ble_eq_true rfl) ⟨Nat.zero_le _, Nat.zero_le _⟩ dX12_layLabels_65 [0, 1] rfl rfl wa_X12_authors (sa_eq [(aM_bo, .inl (cI, 8, .inl e1.1)), (aM_bn, .inl (cI, 8, .inl e1.2)), (aM_sh, .inl (cI, 8, .inl M_sh_j46)), (aM_in, .inl (cZ, 8, .inl M_in_j46)), (aM_su, .inl (cI, 8, .inl M_su_j46)), (aM_gr, .inl (cI, 8, .inl M_gr)), (aM_tr, .inl (cI, 8, .inl M_tr))] [2, 3, 4, 5, 6, 7, 8] 9 rfl rfl rfl rfl rfl rfl rfl) (fun H locs hP hD hS => ?_)
      refine lv_icmp_ge (tgt := 81) hx hb dX12_layLabels_68 (by decide) (fun c26 => ?_) (fun c26 => ?_)
      · replace hm := if_t c26 hm
        exact J81 x1_j46 x1_j46 M_sh_j46 M_in_j46 M_su_j46 hm H locs ls hP hD hS (lv_sub hl [1, 2] rfl)
      · replace hm := if_f c26 hm
        refine lv_aload_n hx hb dX12_layLabels_71 rfl (lv_at hl 1 rfl) ?_
        refine va_get (D := D) (ci := 12) (v := .ref aM_s) (C := RX12) (T := TX12) (N := 19) hx hb hts k4 hown hKv hP 0 rfl rfl 0 (by decide) k3 (fun _ h9 => h9) rfl dX12_layLabels_72 ?_
        refine lv_bipush (v := 59) hx hb dX12_layLabels_75 (by decide) ?_
        replace hm := ck_some hm
        obtain ⟨h27, hm⟩ := hm
        refine va_iald hx hb hKv hP 1 0 rfl rfl h27 dX12_layLabels_77 ?_
        refine lv_goto (tgt := 86) hx hb dX12_layLabels_78 (by decide) ?_
        exact J86 x1_j46 (M_s (Int32.toNatClampNeg 59)) x1_j46 M_sh_j46 M_in_j46 M_su_j46 hm H locs ls hP hD hS (lv_sub hl [1, 2] rfl)
  have J45 : ∀ (x1_j45 : Int32) (M_sh_j45 : Nat → Int32) (M_in_j45 : Nat → Int32) (M_su_j45 : Nat → Int32), (m_X12_layLabels_J45 x1_j45 M_s M_sh_j45 M_in_j45 M_su_j45 = some x) → ∀ (H : Heap) (locs : List Loc) (ls : Array Slot), va_P D vwCl (w_X12_layLabels cI cZ aM aM_s aM_ke aM_te aM_re aM_bo aM_bn aM_sh aM_in aM_su aM_gr aM_tr aM_ou aM_ro M_s M_km M_n M_be M_ma M_so e1.1 e1.2 M_sh_j45 M_in_j45 M_su_j45 M_gr M_tr M_om) H → va_D A (w_X12_layLabels cI cZ aM aM_s aM_ke aM_te aM_re aM_bo aM_bn aM_sh aM_in aM_su aM_gr aM_tr aM_ou aM_ro M_s M_km M_n M_be M_ma M_so e1.1 e1.2 M_sh_j45 M_in_j45 M_su_j45 M_gr M_tr M_om) → va_S A s.heap H locs → lv_has ls 3 [(0, .ref aM), (1, .int x1_j45)] → W p l e rm_X12_layLabels s m args below meth c H locs 0 0 Q (F0 m 45 ls []) := by
    intro x1_j45 M_sh_j45 M_in_j45 M_su_j45 hm H locs ls hP hD hS hl
    refine lv_iconst (v := 0) hx hb dX12_layLabels_45 (by decide) ?_
    exact J46 x1_j45 0 M_sh_j45 M_in_j45 M_su_j45 hm H locs ls hP hD hS (lv_sub hl [0, 1] rfl)
  refine lv_iload_n hx hb dX12_layLabels_6 rfl (lv_at hl 1 rfl) ?_
  refine lv_aload_n hx hb dX12_layLabels_7 rfl (lv_at hl 0 rfl) ?_
  refine va_get (D := D) (ci := 12) (v := .ref aM_s) (C := RX12) (T := TX12) (N := 19) hx hb hts k4 hown hKv hP 0 rfl rfl 0 (by decide) k3 (fun _ h9 => h9) rfl dX12_layLabels_8 ?_
  refine lv_iconst (v := 0) hx hb dX12_layLabels_11 (by decide) ?_
  replace hm := ck_some hm
  obtain ⟨h28, hm⟩ := hm
  refine va_iald hx hb hKv hP 1 0 rfl rfl h28 dX12_layLabels_12 ?_
  refine lv_icmp_ge (tgt := 108) hx hb dX12_layLabels_13 (by decide) (fun c29 => ?_) (fun c29 => ?_)
  · replace hm := if_t c29 hm
    have h9 := hE _ (Option.some.inj hm).symm
    subst h9
    exact X2_0 H locs ls hP hD hS (lv_sub hl [0] rfl)
  · replace hm := if_f c29 hm
    refine lv_aload_n hx hb dX12_layLabels_16 rfl (lv_at hl 0 rfl) ?_
    refine va_get (D := D) (ci := 12) (v := .ref aM_s) (C := RX12) (T := TX12) (N := 19) hx hb hts k4 hown hKv hP 0 rfl rfl 0 (by decide) k3 (fun _ h9 => h9) rfl dX12_layLabels_17 ?_
    refine lv_bipush (v := 58) hx hb dX12_layLabels_20 (by decide) ?_
    replace hm := ck_some hm
    obtain ⟨h30, hm⟩ := hm
    refine va_iald hx hb hKv hP 1 0 rfl rfl h30 dX12_layLabels_22 ?_
    refine lv_if_le (tgt := 45) hx hb dX12_layLabels_23 (by decide) (fun c31 => ?_) (fun c31 => ?_)
    · replace hm := if_t c31 hm
      exact J45 st6.1 st6.2.1 st6.2.2.1 st6.2.2.2 hm H locs ls hP hD hS (lv_sub hl [0, 1] rfl)
    · replace hm := if_f c31 hm
      refine lv_aload_n hx hb dX12_layLabels_26 rfl (lv_at hl 0 rfl) ?_
      refine lv_iload_n hx hb dX12_layLabels_27 rfl (lv_at hl 1 rfl) ?_
      replace hm := bd_some hm
      obtain ⟨e32, hc32, hm⟩ := hm
      refine kV_i (rest := []) (ws' := (w_X12_layLabels cI cZ aM aM_s aM_ke aM_te aM_re aM_bo aM_bn aM_sh aM_in aM_su aM_gr aM_tr aM_ou aM_ro M_s M_km M_n M_be M_ma M_so e1.1 e1.2 st6.2.1 st6.2.2.1 st6.2.2.2 M_gr M_tr M_om)) S (c_X12_authors l D cI cJ cZ cS aM aM_s aM_ke aM_te aM_re aM_bo aM_bn aM_sh aM_in aM_su aM_gr aM_tr aM_ou aM_ro M_s M_km M_n M_be M_ma M_so M_om st6.1 e32 hc32) k11 hK hP hD hS hA 0 rfl rfl rfl rfl hl.1 rfl (Nat.le_of_ble_eq_true rfl) ⟨Nat.zero_le _, Nat.zero_le _⟩ dX12_layLabels_28 [0, 1] rfl rfl wa_X12_authors (sa_eq [(aM_bo, .inl (cI, 8, .inl e1.1)), (aM_bn, .inl (cI, 8, .inl e1.2)), (aM_sh, .inl (cI, 8, .inl st6.2.1)), (aM_in, .inl (cZ, 8, .inl st6.2.2.1)), (aM_su, .inl (cI, 8, .inl st6.2.2.2)), (aM_gr, .inl (cI, 8, .inl M_gr)), (aM_tr, .inl (cI, 8, .inl M_tr))] [2, 3, 4, 5, 6, 7, 8] 9 rfl rfl rfl rfl rfl rfl rfl) (fun H locs hP hD hS => ?_)
      refine lv_aload_n hx hb dX12_layLabels_31 rfl (lv_at hl 0 rfl) ?_
      refine va_get (D := D) (ci := 12) (v := .ref aM_s) (C := RX12) (T := TX12) (N := 19) hx hb hts k4 hown hKv hP 0 rfl rfl 0 (by decide) k3 (fun _ h9 => h9) rfl dX12_layLabels_32 ?_
      refine lv_bipush (v := 58) hx hb dX12_layLabels_35 (by decide) ?_
      replace hm := ck_some hm
      obtain ⟨h33, hm⟩ := hm
      refine va_iald hx hb hKv hP 1 0 rfl rfl h33 dX12_layLabels_37 ?_
      refine lv_icmp_lt (tgt := 45) hx hb dX12_layLabels_38 (by decide) (fun c34 => ?_) (fun c34 => ?_)
      · replace hm := if_t c34 hm
        exact J45 st6.1 st6.2.1 st6.2.2.1 st6.2.2.2 hm H locs ls hP hD hS (lv_sub hl [0, 1] rfl)
      · replace hm := if_f c34 hm
        refine lv_iconst (v := 1) hx hb dX12_layLabels_41 (by decide) ?_
        refine lv_goto (tgt := 46) hx hb dX12_layLabels_42 (by decide) ?_
        exact J46 st6.1 1 st6.2.1 st6.2.2.1 st6.2.2.2 hm H locs ls hP hD hS (lv_sub hl [0, 1] rfl)
set_option maxHeartbeats 4000000 in
set_option maxRecDepth 100000 in
theorem c_X12_ambiguousWith (l : Launch) (D : va_G) (cI cJ cZ cS : ClassId) (aM aM_s aM_ke aM_te aM_re aM_bo aM_bn aM_sh aM_in aM_su aM_gr aM_tr aM_ou aM_ro : Nat) (M_s : Nat → Int32) (M_km : Int32) (M_n : Int32) (M_be : Int32) (M_ma : Int32) (M_so : Int32) (M_bo : Nat → Int32) (M_bn : Nat → Int32) (M_sh : Nat → Int32) (M_in : Nat → Int32) (M_su : Nat → Int32) (M_gr : Nat → Int32) (M_tr : Nat → Int32) (M_om : Int32) (x1 : Int32) (o : Int32 × (Nat → Int32) × (Nat → Int32) × (Nat → Int32) × (Nat → Int32) × (Nat → Int32) × (Nat → Int32) × (Nat → Int32)) (hm : m_X12_ambiguousWith M_s M_bo M_bn M_sh M_in M_su M_gr M_tr x1 = some o) : MI l yX12_ambiguousWith wsX12_ambiguousWith rm_X12_ambiguousWith D (TY cI cJ cZ cS) [.ref aM, .int x1] (w_X12_ambiguousWith cI cZ aM aM_s aM_ke aM_te aM_re aM_bo aM_bn aM_sh aM_in aM_su aM_gr aM_tr aM_ou aM_ro M_s M_km M_n M_be M_ma M_so M_bo M_bn M_sh M_in M_su M_gr M_tr M_om) (w_X12_ambiguousWith cI cZ aM aM_s aM_ke aM_te aM_re aM_bo aM_bn aM_sh aM_in aM_su aM_gr aM_tr aM_ou aM_ro M_s M_km M_n M_be M_ma M_so o.2.1 o.2.2.1 o.2.2.2.1 o.2.2.2.2.1 o.2.2.2.2.2.1 o.2.2.2.2.2.2.1 o.2.2.2.2.2.2.2 M_om) (o.1) := by
  refine MI_of (cc := cX12_ambiguousWith) (maxL := 4) (by decide) rfl (Nat.le_of_ble_eq_true rfl) ?_
  intro p e s m args below meth c A Q ls H locs hx hb hml hts hown hK hA hP hD hS hl hret
  have hown : s.vm.findClass RX12 = some m.cls := hown
  have hKv : va_K D vwCl (TY cI cJ cZ cS) s := hK.1
  have hl : lv_has ls 4 [(0, .ref aM), (1, .int x1)] := hl
  have S : CallFix p m c cX12_ambiguousWith 4 s args wsX12_ambiguousWith RX12 := ⟨hx, hb, hml, hown, hts⟩
  have k1 : CallW rm_X12_ambiguousWith s args RX12 RX12 116 yX12_isWork cX12_isWork 2 (some .boolean) wsX12_isWork rm_X12_isWork 0 0 1 := cwV 1 hts gX12_ambiguousWith_X12_isWork rfl rfl rfl (by decide +kernel) ⟨Nat.le_of_ble_eq_true rfl, Nat.le_of_ble_eq_true rfl⟩
  have k2 : CallW rm_X12_ambiguousWith s args RX12 RX12 203 yX12_layLabels cX12_layLabels 3 none wsX12_layLabels rm_X12_layLabels 0 0 0 := cwV 0 hts gX12_ambiguousWith_X12_layLabels rfl rfl rfl (by decide +kernel) ⟨Nat.le_of_ble_eq_true rfl, Nat.le_of_ble_eq_true rfl⟩
  have k3 := hts (.fieldLink RX12 7 "CitationFormatterModel" "s" "[I") (by decide +kernel)
  have k4 : ∀ w ∈ wsX120, w ∈ wsX12_ambiguousWith := by decide +kernel
  have k5 : CallW rm_X12_ambiguousWith s args RX12 RX12 177 yX12_haveOneLabel cX12_haveOneLabel 3 (some .boolean) wsX12_haveOneLabel rm_X12_haveOneLabel 0 0 2 := cwV 2 hts gX12_ambiguousWith_X12_haveOneLabel rfl rfl rfl (by decide +kernel) ⟨Nat.le_of_ble_eq_true rfl, Nat.le_of_ble_eq_true rfl⟩
  refine lv_aload_n hx hb dX12_ambiguousWith_0 rfl (lv_at hl 0 rfl) ?_
  refine lv_iload_n hx hb dX12_ambiguousWith_1 rfl (lv_at hl 1 rfl) ?_
  replace hm := bd_some hm
  obtain ⟨e1, hc1, hm⟩ := hm
  refine kV_i (rest := []) (ws' := (w_X12_ambiguousWith cI cZ aM aM_s aM_ke aM_te aM_re aM_bo aM_bn aM_sh aM_in aM_su aM_gr aM_tr aM_ou aM_ro M_s M_km M_n M_be M_ma M_so M_bo M_bn M_sh M_in M_su M_gr M_tr M_om)) S (c_X12_isWork l D cI cJ cZ cS aM aM_s aM_ke aM_te aM_re aM_bo aM_bn aM_sh aM_in aM_su aM_gr aM_tr aM_ou aM_ro M_s M_km M_n M_be M_ma M_so M_om x1 e1 hc1) k1 hK hP hD hS hA 0 rfl rfl rfl rfl hl.1 rfl (Nat.le_of_ble_eq_true rfl) ⟨Nat.zero_le _, Nat.zero_le _⟩ dX12_ambiguousWith_2 [0, 1] rfl rfl wa_X12_isWork (sa_eq [(aM_bo, .inl (cI, 8, .inl M_bo)), (aM_bn, .inl (cI, 8, .inl M_bn)), (aM_sh, .inl (cI, 8, .inl M_sh)), (aM_in, .inl (cZ, 8, .inl M_in)), (aM_su, .inl (cI, 8, .inl M_su)), (aM_gr, .inl (cI, 8, .inl M_gr)), (aM_tr, .inl (cI, 8, .inl M_tr))] [2, 3, 4, 5, 6, 7, 8] 9 rfl rfl rfl rfl rfl rfl rfl) (fun H locs hP hD hS => ?_)
  refine lv_if_ne (tgt := 10) hx hb dX12_ambiguousWith_5 (by decide) (fun c2 => ?_) (fun c2 => ?_)
  · replace hm := if_f c2 hm
    refine lv_aload_n hx hb dX12_ambiguousWith_10 rfl (lv_at hl 0 rfl) ?_
    replace hm := bd_some hm
    obtain ⟨e3, hc3, hm⟩ := hm
    obtain ⟨e3_0, e3_1, e3_2, e3_3, e3_4, e3_5, e3_6⟩ := e3
    refine kV_v (rest := []) (ws' := (w_X12_ambiguousWith cI cZ aM aM_s aM_ke aM_te aM_re aM_bo aM_bn aM_sh aM_in aM_su aM_gr aM_tr aM_ou aM_ro M_s M_km M_n M_be M_ma M_so e3_0 e3_1 e3_2 e3_3 e3_4 e3_5 e3_6 M_om)) S (c_X12_layLabels l D cI cJ cZ cS aM aM_s aM_ke aM_te aM_re aM_bo aM_bn aM_sh aM_in aM_su aM_gr aM_tr aM_ou aM_ro M_s M_km M_n M_be M_ma M_so M_bo M_bn M_sh M_in M_su M_gr M_tr M_om (e3_0, e3_1, e3_2, e3_3, e3_4, e3_5, e3_6) hc3) k2 hK hP hD hS hA 0 rfl rfl rfl rfl hl.1 rfl (Nat.le_of_ble_eq_true rfl) ⟨Nat.zero_le _, Nat.zero_le _⟩ dX12_ambiguousWith_11 [0, 1, 2, 3, 4, 5, 6, 7, 8] rfl rfl wa_X12_layLabels (sa_eq [] [] 9 rfl rfl rfl rfl rfl rfl rfl) (fun H locs hP hD hS => ?_)
    refine lv_iconst (v := 0) hx hb dX12_ambiguousWith_14 (by decide) ?_
    refine lv_istore_n (lv' := [(2, .int 0), (0, .ref aM), (1, .int x1)]) hx hb dX12_ambiguousWith_15 rfl hl (by decide) rfl (fun ls hl => ?_)
    refine lv_iconst (v := 0) hx hb dX12_ambiguousWith_16 (by decide) ?_
    refine lv_istore_n (lv' := [(3, .int 0), (2, .int 0), (0, .ref aM), (1, .int x1)]) hx hb dX12_ambiguousWith_17 rfl hl (by decide) rfl (fun ls hl => ?_)
    replace hm := bd_some hm
    obtain ⟨e4, hc4, hm⟩ := hm
    have X4_0 : ∀ (H : Heap) (locs : List Loc) (ls : Array Slot), va_P D vwCl (w_X12_ambiguousWith cI cZ aM aM_s aM_ke aM_te aM_re aM_bo aM_bn aM_sh aM_in aM_su aM_gr aM_tr aM_ou aM_ro M_s M_km M_n M_be M_ma M_so e3_0 e3_1 e3_2 e3_3 e3_4 e3_5 e3_6 M_om) H → va_D A (w_X12_ambiguousWith cI cZ aM aM_s aM_ke aM_te aM_re aM_bo aM_bn aM_sh aM_in aM_su aM_gr aM_tr aM_ou aM_ro M_s M_km M_n M_be M_ma M_so e3_0 e3_1 e3_2 e3_3 e3_4 e3_5 e3_6 M_om) → va_S A s.heap H locs → lv_has ls 4 [(0, .ref aM), (2, .int e4)] → W p l e rm_X12_ambiguousWith s m args below meth c H locs 0 0 Q (F0 m 58 ls []) := by
      intro H locs ls hP hD hS hl
      refine lv_iload_n hx hb dX12_ambiguousWith_58 rfl (lv_at hl 1 rfl) ?_
      have h9 := Option.some.inj hm
      subst h9
      exact hret H locs _ ls _ hP hD hS rfl dX12_ambiguousWith_59
    refine it_W (G := fun (st18 : Int32 × Int32) => ∀ (H : Heap) (locs : List Loc) (ls : Array Slot), va_P D vwCl (w_X12_ambiguousWith cI cZ aM aM_s aM_ke aM_te aM_re aM_bo aM_bn aM_sh aM_in aM_su aM_gr aM_tr aM_ou aM_ro M_s M_km M_n M_be M_ma M_so e3_0 e3_1 e3_2 e3_3 e3_4 e3_5 e3_6 M_om) H → va_D A (w_X12_ambiguousWith cI cZ aM aM_s aM_ke aM_te aM_re aM_bo aM_bn aM_sh aM_in aM_su aM_gr aM_tr aM_ou aM_ro M_s M_km M_n M_be M_ma M_so e3_0 e3_1 e3_2 e3_3 e3_4 e3_5 e3_6 M_om) → va_S A s.heap H locs → lv_has ls 4 [(0, .ref aM), (1, .int x1), (2, .int st18.1), (3, .int st18.2)] → W p l e rm_X12_ambiguousWith s m args below meth c H locs 0 0 Q (F0 m 18 ls [])) (e := e4) (fun st18 x hm hG hE => ?_) fu _ hc4 H locs ls hP hD hS (lv_sub hl [2, 3, 1, 0] rfl)
    intro H locs ls hP hD hS hl
    have J50 : ∀ (x3_j50 : Int32) (y0_j50 : Int32) (y1_j50 : Int32), (m_X12_ambiguousWith_J50 x1 x3_j50 y0_j50 y1_j50 = some x) → ∀ (H : Heap) (locs : List Loc) (ls : Array Slot), va_P D vwCl (w_X12_ambiguousWith cI cZ aM aM_s aM_ke aM_te aM_re aM_bo aM_bn aM_sh aM_in aM_su aM_gr aM_tr aM_ou aM_ro M_s M_km M_n M_be M_ma M_so e3_0 e3_1 e3_2 e3_3 e3_4 e3_5 e3_6 M_om) H → va_D A (w_X12_ambiguousWith cI cZ aM aM_s aM_ke aM_te aM_re aM_bo aM_bn aM_sh aM_in aM_su aM_gr aM_tr aM_ou aM_ro M_s M_km M_n M_be M_ma M_so e3_0 e3_1 e3_2 e3_3 e3_4 e3_5 e3_6 M_om) → va_S A s.heap H locs → lv_has ls 4 [(0, .ref aM), (1, .int x1), (3, .int x3_j50)] → W p l e rm_X12_ambiguousWith s m args below meth c H locs 0 0 Q (F0 m 50 ls [.int y0_j50, .int y1_j50]) := by
      intro x3_j50 y0_j50 y1_j50 hm H locs ls hP hD hS hl
      refine lv_ior hx hb dX12_ambiguousWith_50 ?_
      refine lv_istore_n (lv' := [(2, .int (y1_j50 ||| y0_j50)), (0, .ref aM), (1, .int x1), (3, .int x3_j50)]) hx hb dX12_ambiguousWith_51 rfl hl (by decide) rfl (fun ls hl => ?_)
      refine lv_iinc (v := (x3_j50 + 1)) (lv' := [(3, .int (x3_j50 + 1)), (2, .int (y1_j50 ||| y0_j50)), (0, .ref aM), (1, .int x1)]) hx hb dX12_ambiguousWith_52 hl (k := 3) rfl rfl (by decide) rfl (fun ls hl => ?_)
      refine lv_goto (tgt := 18) hx hb dX12_ambiguousWith_55 (by decide) ?_
      exact hG _ (Option.some.inj hm).symm H locs ls hP hD hS (lv_sub hl [2, 3, 1, 0] rfl)
    have J49 : ∀ (x3_j49 : Int32) (y0_j49 : Int32), (m_X12_ambiguousWith_J49 x1 x3_j49 y0_j49 = some x) → ∀ (H : Heap) (locs : List Loc) (ls : Array Slot), va_P D vwCl (w_X12_ambiguousWith cI cZ aM aM_s aM_ke aM_te aM_re aM_bo aM_bn aM_sh aM_in aM_su aM_gr aM_tr aM_ou aM_ro M_s M_km M_n M_be M_ma M_so e3_0 e3_1 e3_2 e3_3 e3_4 e3_5 e3_6 M_om) H → va_D A (w_X12_ambiguousWith cI cZ aM aM_s aM_ke aM_te aM_re aM_bo aM_bn aM_sh aM_in aM_su aM_gr aM_tr aM_ou aM_ro M_s M_km M_n M_be M_ma M_so e3_0 e3_1 e3_2 e3_3 e3_4 e3_5 e3_6 M_om) → va_S A s.heap H locs → lv_has ls 4 [(0, .ref aM), (1, .int x1), (3, .int x3_j49)] → W p l e rm_X12_ambiguousWith s m args below meth c H locs 0 0 Q (F0 m 49 ls [.int y0_j49]) := by
      intro x3_j49 y0_j49 hm H locs ls hP hD hS hl
      refine lv_iconst (v := 0) hx hb dX12_ambiguousWith_49 (by decide) ?_
      exact J50 x3_j49 0 y0_j49 hm H locs ls hP hD hS (lv_sub hl [0, 1, 2] rfl)
    refine lv_iload_n hx hb dX12_ambiguousWith_18 rfl (lv_at hl 3 rfl) ?_
    refine lv_aload_n hx hb dX12_ambiguousWith_19 rfl (lv_at hl 0 rfl) ?_
    refine va_get (D := D) (ci := 12) (v := .ref aM_s) (C := RX12) (T := TX12) (N := 19) hx hb hts k4 hown hKv hP 0 rfl rfl 0 (by decide) k3 (fun _ h9 => h9) rfl dX12_ambiguousWith_20 ?_
    refine lv_iconst (v := 0) hx hb dX12_ambiguousWith_23 (by decide) ?_
    replace hm := ck_some hm
    obtain ⟨h5, hm⟩ := hm
    refine va_iald hx hb hKv hP 1 0 rfl rfl h5 dX12_ambiguousWith_24 ?_
    refine lv_icmp_ge (tgt := 58) hx hb dX12_ambiguousWith_25 (by decide) (fun c6 => ?_) (fun c6 => ?_)
    · replace hm := if_t c6 hm
      have h9 := hE _ (Option.some.inj hm).symm
      subst h9
      exact X4_0 H locs ls hP hD hS (lv_sub hl [0, 2] rfl)
    · replace hm := if_f c6 hm
      refine lv_iload_n hx hb dX12_ambiguousWith_28 rfl (lv_at hl 2 rfl) ?_
      refine lv_iload_n hx hb dX12_ambiguousWith_29 rfl (lv_at hl 3 rfl) ?_
      refine lv_iload_n hx hb dX12_ambiguousWith_30 rfl (lv_at hl 1 rfl) ?_
      refine lv_icmp_eq (tgt := 49) hx hb dX12_ambiguousWith_31 (by decide) (fun c7 => ?_) (fun c7 => ?_)
      · replace hm := if_t c7 hm
        exact J49 st18.2 st18.1 hm H locs ls hP hD hS (lv_sub hl [0, 1, 3] rfl)
      · replace hm := if_f c7 hm
        refine lv_aload_n hx hb dX12_ambiguousWith_34 rfl (lv_at hl 0 rfl) ?_
        refine lv_iload_n hx hb dX12_ambiguousWith_35 rfl (lv_at hl 3 rfl) ?_
        refine lv_iload_n hx hb dX12_ambiguousWith_36 rfl (lv_at hl 1 rfl) ?_
        replace hm := bd_some hm
        obtain ⟨e8, hc8, hm⟩ := hm
        refine kV_i (rest := [.int st18.1]) (ws' := (w_X12_ambiguousWith cI cZ aM aM_s aM_ke aM_te aM_re aM_bo aM_bn aM_sh aM_in aM_su aM_gr aM_tr aM_ou aM_ro M_s M_km M_n M_be M_ma M_so e3_0 e3_1 e3_2 e3_3 e3_4 e3_5 e3_6 M_om)) S (c_X12_haveOneLabel l D cI cJ cZ cS aM aM_s aM_ke aM_te aM_re aM_bo aM_bn aM_sh aM_in aM_su aM_gr aM_tr aM_ou aM_ro M_s M_km M_n M_be M_ma M_so e3_2 e3_3 e3_4 M_om st18.2 x1 e8 hc8) k5 hK hP hD hS hA 0 rfl rfl rfl rfl hl.1 rfl (Nat.le_of_ble_eq_true rfl) ⟨Nat.zero_le _, Nat.zero_le _⟩ dX12_ambiguousWith_37 [0, 1, 4, 5, 6] rfl rfl wa_X12_haveOneLabel (sa_eq [(aM_bo, .inl (cI, 8, .inl e3_0)), (aM_bn, .inl (cI, 8, .inl e3_1)), (aM_gr, .inl (cI, 8, .inl e3_5)), (aM_tr, .inl (cI, 8, .inl e3_6))] [2, 3, 7, 8] 9 rfl rfl rfl rfl rfl rfl rfl) (fun H locs hP hD hS => ?_)
        refine lv_if_eq (tgt := 49) hx hb dX12_ambiguousWith_40 (by decide) (fun c9 => ?_) (fun c9 => ?_)
        · replace hm := if_t c9 hm
          exact J49 st18.2 st18.1 hm H locs ls hP hD hS (lv_sub hl [0, 1, 3] rfl)
        · replace hm := if_f c9 hm
          refine lv_iconst (v := 1) hx hb dX12_ambiguousWith_43 (by decide) ?_
          refine lv_iload_n hx hb dX12_ambiguousWith_44 rfl (lv_at hl 3 rfl) ?_
          refine lv_ishl hx hb dX12_ambiguousWith_45 ?_
          refine lv_goto (tgt := 50) hx hb dX12_ambiguousWith_46 (by decide) ?_
          exact J50 st18.2 (1 <<< (st18.2 &&& 31)) st18.1 hm H locs ls hP hD hS (lv_sub hl [0, 1, 3] rfl)
  · replace hm := if_t c2 hm
    refine lv_iconst (v := (-1)) hx hb dX12_ambiguousWith_8 (by decide) ?_
    have h9 := Option.some.inj hm
    subst h9
    exact hret H locs _ ls _ hP hD hS rfl dX12_ambiguousWith_9
set_option maxHeartbeats 4000000 in
set_option maxRecDepth 100000 in
theorem c_X12_appendCharacter (l : Launch) (D : va_G) (cI cJ cZ cS : ClassId) (aM aM_s aM_ke aM_te aM_re aM_bo aM_bn aM_sh aM_in aM_su aM_gr aM_tr aM_ou aM_ro : Nat) (M_km : Int32) (M_te : Nat → Int32) (M_n : Int32) (M_be : Int32) (M_ma : Int32) (M_so : Int32) (M_om : Int32) (x1 : Int32) (o : Int32 × (Nat → Int32) × Int32) (hm : m_X12_appendCharacter M_te M_n x1 = some o) : MI l yX12_appendCharacter wsX12_appendCharacter rm_X12_appendCharacter D (TY cI cJ cZ cS) [.ref aM, .int x1] (w_X12_appendCharacter cI aM aM_s aM_ke aM_te aM_re aM_bo aM_bn aM_sh aM_in aM_su aM_gr aM_tr aM_ou aM_ro M_km M_te M_n M_be M_ma M_so M_om) (w_X12_appendCharacter cI aM aM_s aM_ke aM_te aM_re aM_bo aM_bn aM_sh aM_in aM_su aM_gr aM_tr aM_ou aM_ro M_km o.2.1 o.2.2 M_be M_ma M_so M_om) (o.1) := by
  refine MI_of (cc := cX12_appendCharacter) (maxL := 2) (by decide) rfl (Nat.le_of_ble_eq_true rfl) ?_
  intro p e s m args below meth c A Q ls H locs hx hb hml hts hown hK hA hP hD hS hl hret
  have hown : s.vm.findClass RX12 = some m.cls := hown
  have hKv : va_K D vwCl (TY cI cJ cZ cS) s := hK.1
  have hl : lv_has ls 2 [(0, .ref aM), (1, .int x1)] := hl
  have S : CallFix p m c cX12_appendCharacter 2 s args wsX12_appendCharacter RX12 := ⟨hx, hb, hml, hown, hts⟩
  have k1 := hts (.constantLong RX12 58 255) (by decide +kernel)
  have k2 : CallB rm_X12_appendCharacter s args RX12 50 yX12_in cX12_in 6 (some .boolean) wsX12_in rm_X12_in 0 0 3 ∧ (Cond.static yX12_in).before args s = true := va_cwS 3 hts gX12_appendCharacter_X12_in rfl rfl rfl (by decide +kernel) ⟨Nat.le_of_ble_eq_true rfl, Nat.le_of_ble_eq_true rfl⟩
  have k3 := hts (.fieldLink RX12 60 "CitationFormatterModel" "length" "I") (by decide +kernel)
  have k4 : ∀ w ∈ wsX120, w ∈ wsX12_appendCharacter := by decide +kernel
  have k5 := hts (.fieldLink RX12 16 "CitationFormatterModel" "text" "[I") (by decide +kernel)
  refine lv_iload_n hx hb dX12_appendCharacter_0 rfl (lv_at hl 1 rfl) ?_
  refine lv_i2l hx hb dX12_appendCharacter_1 rfl ?_
  refine lv_lconst (v := 0) hx hb dX12_appendCharacter_2 (by decide) ?_
  refine lv_ldc2 hx hb hown k1 dX12_appendCharacter_3 ?_
  replace hm := bd_some hm
  obtain ⟨e1, hc1, hm⟩ := hm
  refine kS_i (rest := []) S (c_X12_in l D cI cJ cZ cS (Int32.toInt64 x1) 0 255 e1 hc1) k2 hK hP hD hS hA rfl hl.1 rfl (Nat.le_of_ble_eq_true rfl) ⟨Nat.zero_le _, Nat.zero_le _⟩ dX12_appendCharacter_6 (fun H locs hP hD hS => ?_)
  refine lv_if_ne (tgt := 14) hx hb dX12_appendCharacter_9 (by decide) (fun c2 => ?_) (fun c2 => ?_)
  · replace hm := if_f c2 hm
    refine lv_aload_n hx hb dX12_appendCharacter_14 rfl (lv_at hl 0 rfl) ?_
    refine va_get (D := D) (ci := 12) (v := .int M_n) (C := RX12) (T := TX12) (N := 19) hx hb hts k4 hown hKv hP 0 rfl rfl 4 (by decide) k3 (fun _ h9 => h9) rfl dX12_appendCharacter_15 ?_
    refine lv_sipush (v := 150) hx hb dX12_appendCharacter_18 (by decide) ?_
    refine lv_icmp_ne (tgt := 27) hx hb dX12_appendCharacter_21 (by decide) (fun c3 => ?_) (fun c3 => ?_)
    · replace hm := if_f c3 hm
      refine lv_aload_n hx hb dX12_appendCharacter_27 rfl (lv_at hl 0 rfl) ?_
      refine va_get (D := D) (ci := 12) (v := .ref aM_te) (C := RX12) (T := TX12) (N := 19) hx hb hts k4 hown hKv hP 0 rfl rfl 3 (by decide) k5 (fun _ h9 => h9) rfl dX12_appendCharacter_28 ?_
      refine lv_aload_n hx hb dX12_appendCharacter_31 rfl (lv_at hl 0 rfl) ?_
      refine va_get (D := D) (ci := 12) (v := .int M_n) (C := RX12) (T := TX12) (N := 19) hx hb hts k4 hown hKv hP 0 rfl rfl 4 (by decide) k3 (fun _ h9 => h9) rfl dX12_appendCharacter_32 ?_
      refine lv_iload_n hx hb dX12_appendCharacter_35 rfl (lv_at hl 1 rfl) ?_
      replace hm := ck_some hm
      obtain ⟨h4, hm⟩ := hm
      refine va_iast hx hb hKv hP hD hS 1 0 rfl rfl h4 dX12_appendCharacter_36 (fun H locs hP hD hS => ?_)
      replace hP : va_P D vwCl (w_X12_appendCharacter cI aM aM_s aM_ke aM_te aM_re aM_bo aM_bn aM_sh aM_in aM_su aM_gr aM_tr aM_ou aM_ro M_km (upd M_te (Int32.toNatClampNeg M_n) x1) M_n M_be M_ma M_so M_om) H := hP
      replace hD : va_D A (w_X12_appendCharacter cI aM aM_s aM_ke aM_te aM_re aM_bo aM_bn aM_sh aM_in aM_su aM_gr aM_tr aM_ou aM_ro M_km (upd M_te (Int32.toNatClampNeg M_n) x1) M_n M_be M_ma M_so M_om) := hD
      refine lv_aload_n hx hb dX12_appendCharacter_37 rfl (lv_at hl 0 rfl) ?_
      refine lv_dup hx hb dX12_appendCharacter_38 rfl ?_
      refine va_get (D := D) (ci := 12) (v := .int M_n) (C := RX12) (T := TX12) (N := 19) hx hb hts k4 hown hKv hP 0 rfl rfl 4 (by decide) k3 (fun _ h9 => h9) rfl dX12_appendCharacter_39 ?_
      refine lv_iconst (v := 1) hx hb dX12_appendCharacter_42 (by decide) ?_
      refine lv_iadd hx hb dX12_appendCharacter_43 ?_
      refine va_put (D := D) (ci := 12) (v := .int (M_n + 1)) (ty := .int) (C := RX12) (T := TX12) (N := 19) hx hb hts k4 tyX12 tyX12_ok nmX12 hown hKv hP hD hS 0 rfl rfl 4 (by decide) k3 (fun _ h9 => h9) rfl (by decide +kernel) rfl rfl (Nat.le_of_ble_eq_true rfl) dX12_appendCharacter_44 (fun H locs hP hD hS => ?_)
      replace hP : va_P D vwCl (w_X12_appendCharacter cI aM aM_s aM_ke aM_te aM_re aM_bo aM_bn aM_sh aM_in aM_su aM_gr aM_tr aM_ou aM_ro M_km (upd M_te (Int32.toNatClampNeg M_n) x1) (M_n + 1) M_be M_ma M_so M_om) H := hP
      replace hD : va_D A (w_X12_appendCharacter cI aM aM_s aM_ke aM_te aM_re aM_bo aM_bn aM_sh aM_in aM_su aM_gr aM_tr aM_ou aM_ro M_km (upd M_te (Int32.toNatClampNeg M_n) x1) (M_n + 1) M_be M_ma M_so M_om) := hD
      refine lv_aload_n hx hb dX12_appendCharacter_47 rfl (lv_at hl 0 rfl) ?_
      refine va_get (D := D) (ci := 12) (v := .int (M_n + 1)) (C := RX12) (T := TX12) (N := 19) hx hb hts k4 hown hKv hP 0 rfl rfl 4 (by decide) k3 (fun _ h9 => h9) rfl dX12_appendCharacter_48 ?_
      have h9 := Option.some.inj hm
      subst h9
      exact hret H locs _ ls _ hP hD hS rfl dX12_appendCharacter_51
    · replace hm := if_t c3 hm
      refine lv_bipush (v := (-3)) hx hb dX12_appendCharacter_24 (by decide) ?_
      have h9 := Option.some.inj hm
      subst h9
      exact hret H locs _ ls _ hP hD hS rfl dX12_appendCharacter_26
  · replace hm := if_t c2 hm
    refine lv_iconst (v := (-1)) hx hb dX12_appendCharacter_12 (by decide) ?_
    have h9 := Option.some.inj hm
    subst h9
    exact hret H locs _ ls _ hP hD hS rfl dX12_appendCharacter_13
set_option maxHeartbeats 4000000 in
set_option maxRecDepth 100000 in
theorem c_X12_authorCount (l : Launch) (D : va_G) (cI cJ cZ cS : ClassId) (aM aM_s aM_ke aM_te aM_re aM_bo aM_bn aM_sh aM_in aM_su aM_gr aM_tr aM_ou aM_ro : Nat) (M_s : Nat → Int32) (M_km : Int32) (M_n : Int32) (M_be : Int32) (M_ma : Int32) (M_so : Int32) (M_om : Int32) (x1 : Int32) (o : Int32) (hm : m_X12_authorCount M_s x1 = some o) : MI l yX12_authorCount wsX12_authorCount rm_X12_authorCount D (TY cI cJ cZ cS) [.ref aM, .int x1] (w_X12_authorCount cI aM aM_s aM_ke aM_te aM_re aM_bo aM_bn aM_sh aM_in aM_su aM_gr aM_tr aM_ou aM_ro M_s M_km M_n M_be M_ma M_so M_om) (w_X12_authorCount cI aM aM_s aM_ke aM_te aM_re aM_bo aM_bn aM_sh aM_in aM_su aM_gr aM_tr aM_ou aM_ro M_s M_km M_n M_be M_ma M_so M_om) (o) := by
  refine MI_of (cc := cX12_authorCount) (maxL := 2) (by decide) rfl (Nat.le_of_ble_eq_true rfl) ?_
  intro p e s m args below meth c A Q ls H locs hx hb hml hts hown hK hA hP hD hS hl hret
  have hown : s.vm.findClass RX12 = some m.cls := hown
  have hKv : va_K D vwCl (TY cI cJ cZ cS) s := hK.1
  have hl : lv_has ls 2 [(0, .ref aM), (1, .int x1)] := hl
  have S : CallFix p m c cX12_authorCount 2 s args wsX12_authorCount RX12 := ⟨hx, hb, hml, hown, hts⟩
  have k1 : CallW rm_X12_authorCount s args RX12 RX12 116 yX12_isWork cX12_isWork 2 (some .boolean) wsX12_isWork rm_X12_isWork 0 0 1 := cwV 1 hts gX12_authorCount_X12_isWork rfl rfl rfl (by decide +kernel) ⟨Nat.le_of_ble_eq_true rfl, Nat.le_of_ble_eq_true rfl⟩
  have k2 : CallW rm_X12_authorCount s args RX12 RX12 146 yX12_authors cX12_authors 2 (some .int) wsX12_authors rm_X12_authors 0 0 1 := cwV 1 hts gX12_authorCount_X12_authors rfl rfl rfl (by decide +kernel) ⟨Nat.le_of_ble_eq_true rfl, Nat.le_of_ble_eq_true rfl⟩
  have J17 : ∀ (y0_j17 : Int32), (m_X12_authorCount_J17 y0_j17 = some o) → ∀ (H : Heap) (locs : List Loc) (ls : Array Slot), va_P D vwCl (w_X12_authorCount cI aM aM_s aM_ke aM_te aM_re aM_bo aM_bn aM_sh aM_in aM_su aM_gr aM_tr aM_ou aM_ro M_s M_km M_n M_be M_ma M_so M_om) H → va_D A (w_X12_authorCount cI aM aM_s aM_ke aM_te aM_re aM_bo aM_bn aM_sh aM_in aM_su aM_gr aM_tr aM_ou aM_ro M_s M_km M_n M_be M_ma M_so M_om) → va_S A s.heap H locs → lv_has ls 2 [(0, .ref aM)] → W p l e rm_X12_authorCount s m args below meth c H locs 0 0 Q (F0 m 17 ls [.int y0_j17]) := by
    intro y0_j17 hm H locs ls hP hD hS hl
    have h9 := Option.some.inj hm
    subst h9
    exact hret H locs _ ls _ hP hD hS rfl dX12_authorCount_17
  refine lv_aload_n hx hb dX12_authorCount_0 rfl (lv_at hl 0 rfl) ?_
  refine lv_iload_n hx hb dX12_authorCount_1 rfl (lv_at hl 1 rfl) ?_
  replace hm := bd_some hm
  obtain ⟨e1, hc1, hm⟩ := hm
  refine kV_i (rest := []) (ws' := (w_X12_authorCount cI aM aM_s aM_ke aM_te aM_re aM_bo aM_bn aM_sh aM_in aM_su aM_gr aM_tr aM_ou aM_ro M_s M_km M_n M_be M_ma M_so M_om)) S (c_X12_isWork l D cI cJ cZ cS aM aM_s aM_ke aM_te aM_re aM_bo aM_bn aM_sh aM_in aM_su aM_gr aM_tr aM_ou aM_ro M_s M_km M_n M_be M_ma M_so M_om x1 e1 hc1) k1 hK hP hD hS hA 0 rfl rfl rfl rfl hl.1 rfl (Nat.le_of_ble_eq_true rfl) ⟨Nat.zero_le _, Nat.zero_le _⟩ dX12_authorCount_2 [0, 1] rfl rfl wa_X12_isWork (sa_eq [] [] 2 rfl rfl rfl rfl rfl rfl rfl) (fun H locs hP hD hS => ?_)
  refine lv_if_eq (tgt := 16) hx hb dX12_authorCount_5 (by decide) (fun c2 => ?_) (fun c2 => ?_)
  · replace hm := if_t c2 hm
    refine lv_iconst (v := (-1)) hx hb dX12_authorCount_16 (by decide) ?_
    exact J17 (-1) hm H locs ls hP hD hS (lv_sub hl [0] rfl)
  · replace hm := if_f c2 hm
    refine lv_aload_n hx hb dX12_authorCount_8 rfl (lv_at hl 0 rfl) ?_
    refine lv_iload_n hx hb dX12_authorCount_9 rfl (lv_at hl 1 rfl) ?_
    replace hm := bd_some hm
    obtain ⟨e3, hc3, hm⟩ := hm
    refine kV_i (rest := []) (ws' := (w_X12_authorCount cI aM aM_s aM_ke aM_te aM_re aM_bo aM_bn aM_sh aM_in aM_su aM_gr aM_tr aM_ou aM_ro M_s M_km M_n M_be M_ma M_so M_om)) S (c_X12_authors l D cI cJ cZ cS aM aM_s aM_ke aM_te aM_re aM_bo aM_bn aM_sh aM_in aM_su aM_gr aM_tr aM_ou aM_ro M_s M_km M_n M_be M_ma M_so M_om x1 e3 hc3) k2 hK hP hD hS hA 0 rfl rfl rfl rfl hl.1 rfl (Nat.le_of_ble_eq_true rfl) ⟨Nat.zero_le _, Nat.zero_le _⟩ dX12_authorCount_10 [0, 1] rfl rfl wa_X12_authors (sa_eq [] [] 2 rfl rfl rfl rfl rfl rfl rfl) (fun H locs hP hD hS => ?_)
    refine lv_goto (tgt := 17) hx hb dX12_authorCount_13 (by decide) ?_
    exact J17 e3 hm H locs ls hP hD hS (lv_sub hl [0] rfl)
set_option maxHeartbeats 4000000 in
set_option maxRecDepth 100000 in
theorem c_X12_beginCitation (l : Launch) (D : va_G) (cI cJ cZ cS : ClassId) (aM aM_s aM_ke aM_te aM_re aM_bo aM_bn aM_sh aM_in aM_su aM_gr aM_tr aM_ou aM_ro : Nat) (M_s : Nat → Int32) (M_ke : Nat → Int32) (M_km : Int32) (M_n : Int32) (M_be : Int32) (M_ma : Int32) (M_so : Int32) (M_om : Int32) (x1 : Int32) (o : Int32 × (Nat → Int32) × (Nat → Int32) × Int32) (hm : m_X12_beginCitation M_s M_ke M_km x1 = some o) : MI l yX12_beginCitation wsX12_beginCitation rm_X12_beginCitation D (TY cI cJ cZ cS) [.ref aM, .int x1] (w_X12_beginCitation cI aM aM_s aM_ke aM_te aM_re aM_bo aM_bn aM_sh aM_in aM_su aM_gr aM_tr aM_ou aM_ro M_s M_ke M_km M_n M_be M_ma M_so M_om) (w_X12_beginCitation cI aM aM_s aM_ke aM_te aM_re aM_bo aM_bn aM_sh aM_in aM_su aM_gr aM_tr aM_ou aM_ro o.2.1 o.2.2.1 o.2.2.2 M_n M_be M_ma M_so M_om) (o.1) := by
  refine MI_of (cc := cX12_beginCitation) (maxL := 2) (by decide) rfl (Nat.le_of_ble_eq_true rfl) ?_
  intro p e s m args below meth c A Q ls H locs hx hb hml hts hown hK hA hP hD hS hl hret
  have hown : s.vm.findClass RX12 = some m.cls := hown
  have hKv : va_K D vwCl (TY cI cJ cZ cS) s := hK.1
  have hl : lv_has ls 2 [(0, .ref aM), (1, .int x1)] := hl
  have S : CallFix p m c cX12_beginCitation 2 s args wsX12_beginCitation RX12 := ⟨hx, hb, hml, hown, hts⟩
  have k1 : CallW rm_X12_beginCitation s args RX12 RX12 116 yX12_isWork cX12_isWork 2 (some .boolean) wsX12_isWork rm_X12_isWork 0 0 1 := cwV 1 hts gX12_beginCitation_X12_isWork rfl rfl rfl (by decide +kernel) ⟨Nat.le_of_ble_eq_true rfl, Nat.le_of_ble_eq_true rfl⟩
  have k2 := hts (.fieldLink RX12 7 "CitationFormatterModel" "s" "[I") (by decide +kernel)
  have k3 : ∀ w ∈ wsX120, w ∈ wsX12_beginCitation := by decide +kernel
  have k4 : CallW rm_X12_beginCitation s args RX12 RX12 105 yX12_keeps cX12_keeps 2 none wsX12_keeps rm_X12_keeps 0 0 0 := cwV 0 hts gX12_beginCitation_X12_keeps rfl rfl rfl (by decide +kernel) ⟨Nat.le_of_ble_eq_true rfl, Nat.le_of_ble_eq_true rfl⟩
  refine lv_aload_n hx hb dX12_beginCitation_0 rfl (lv_at hl 0 rfl) ?_
  refine lv_iload_n hx hb dX12_beginCitation_1 rfl (lv_at hl 1 rfl) ?_
  replace hm := bd_some hm
  obtain ⟨e1, hc1, hm⟩ := hm
  refine kV_i (rest := []) (ws' := (w_X12_beginCitation cI aM aM_s aM_ke aM_te aM_re aM_bo aM_bn aM_sh aM_in aM_su aM_gr aM_tr aM_ou aM_ro M_s M_ke M_km M_n M_be M_ma M_so M_om)) S (c_X12_isWork l D cI cJ cZ cS aM aM_s aM_ke aM_te aM_re aM_bo aM_bn aM_sh aM_in aM_su aM_gr aM_tr aM_ou aM_ro M_s M_km M_n M_be M_ma M_so M_om x1 e1 hc1) k1 hK hP hD hS hA 0 rfl rfl rfl rfl hl.1 rfl (Nat.le_of_ble_eq_true rfl) ⟨Nat.zero_le _, Nat.zero_le _⟩ dX12_beginCitation_2 [0, 1] rfl rfl wa_X12_isWork (sa_eq [(aM_ke, .inl (cI, 1048, .inl M_ke))] [2] 3 rfl rfl rfl rfl rfl rfl rfl) (fun H locs hP hD hS => ?_)
  refine lv_if_ne (tgt := 10) hx hb dX12_beginCitation_5 (by decide) (fun c2 => ?_) (fun c2 => ?_)
  · replace hm := if_f c2 hm
    refine lv_aload_n hx hb dX12_beginCitation_10 rfl (lv_at hl 0 rfl) ?_
    refine va_get (D := D) (ci := 12) (v := .ref aM_s) (C := RX12) (T := TX12) (N := 19) hx hb hts k3 hown hKv hP 0 rfl rfl 0 (by decide) k2 (fun _ h9 => h9) rfl dX12_beginCitation_11 ?_
    refine lv_bipush (v := 70) hx hb dX12_beginCitation_14 (by decide) ?_
    replace hm := ck_some hm
    obtain ⟨h3, hm⟩ := hm
    refine va_iald hx hb hKv hP 1 0 rfl rfl h3 dX12_beginCitation_16 ?_
    refine lv_bipush (v := 10) hx hb dX12_beginCitation_17 (by decide) ?_
    refine lv_icmp_ne (tgt := 25) hx hb dX12_beginCitation_19 (by decide) (fun c4 => ?_) (fun c4 => ?_)
    · replace hm := if_f c4 hm
      refine lv_aload_n hx hb dX12_beginCitation_25 rfl (lv_at hl 0 rfl) ?_
      replace hm := bd_some hm
      obtain ⟨e5, hc5, hm⟩ := hm
      refine kV_v (rest := []) (ws' := (w_X12_beginCitation cI aM aM_s aM_ke aM_te aM_re aM_bo aM_bn aM_sh aM_in aM_su aM_gr aM_tr aM_ou aM_ro M_s e5.1 e5.2 M_n M_be M_ma M_so M_om)) S (c_X12_keeps l D cI cJ cZ cS aM aM_s aM_ke aM_te aM_re aM_bo aM_bn aM_sh aM_in aM_su aM_gr aM_tr aM_ou aM_ro M_s M_ke M_km M_n M_be M_ma M_so M_om e5 hc5) k4 hK hP hD hS hA 0 rfl rfl rfl rfl hl.1 rfl (Nat.le_of_ble_eq_true rfl) ⟨Nat.zero_le _, Nat.zero_le _⟩ dX12_beginCitation_26 [0, 1, 2] rfl rfl wa_X12_keeps (sa_eq [] [] 3 rfl rfl rfl rfl rfl rfl rfl) (fun H locs hP hD hS => ?_)
      refine lv_aload_n hx hb dX12_beginCitation_29 rfl (lv_at hl 0 rfl) ?_
      refine va_get (D := D) (ci := 12) (v := .ref aM_s) (C := RX12) (T := TX12) (N := 19) hx hb hts k3 hown hKv hP 0 rfl rfl 0 (by decide) k2 (fun _ h9 => h9) rfl dX12_beginCitation_30 ?_
      refine lv_bipush (v := 71) hx hb dX12_beginCitation_33 (by decide) ?_
      refine lv_bipush (v := 6) hx hb dX12_beginCitation_35 (by decide) ?_
      refine lv_aload_n hx hb dX12_beginCitation_37 rfl (lv_at hl 0 rfl) ?_
      refine va_get (D := D) (ci := 12) (v := .ref aM_s) (C := RX12) (T := TX12) (N := 19) hx hb hts k3 hown hKv hP 0 rfl rfl 0 (by decide) k2 (fun _ h9 => h9) rfl dX12_beginCitation_38 ?_
      refine lv_bipush (v := 70) hx hb dX12_beginCitation_41 (by decide) ?_
      replace hm := ck_some hm
      obtain ⟨h6, hm⟩ := hm
      refine va_iald hx hb hKv hP 1 0 rfl rfl h6 dX12_beginCitation_43 ?_
      refine lv_imul hx hb dX12_beginCitation_44 ?_
      refine lv_iadd hx hb dX12_beginCitation_45 ?_
      refine lv_iconst (v := 1) hx hb dX12_beginCitation_46 (by decide) ?_
      replace hm := ck_some hm
      obtain ⟨h7, hm⟩ := hm
      refine va_iast hx hb hKv hP hD hS 1 0 rfl rfl h7 dX12_beginCitation_47 (fun H locs hP hD hS => ?_)
      replace hP : va_P D vwCl (w_X12_beginCitation cI aM aM_s aM_ke aM_te aM_re aM_bo aM_bn aM_sh aM_in aM_su aM_gr aM_tr aM_ou aM_ro (upd M_s (Int32.toNatClampNeg (71 + (6 * (M_s (Int32.toNatClampNeg 70))))) 1) e5.1 e5.2 M_n M_be M_ma M_so M_om) H := hP
      replace hD : va_D A (w_X12_beginCitation cI aM aM_s aM_ke aM_te aM_re aM_bo aM_bn aM_sh aM_in aM_su aM_gr aM_tr aM_ou aM_ro (upd M_s (Int32.toNatClampNeg (71 + (6 * (M_s (Int32.toNatClampNeg 70))))) 1) e5.1 e5.2 M_n M_be M_ma M_so M_om) := hD
      refine lv_aload_n hx hb dX12_beginCitation_48 rfl (lv_at hl 0 rfl) ?_
      refine va_get (D := D) (ci := 12) (v := .ref aM_s) (C := RX12) (T := TX12) (N := 19) hx hb hts k3 hown hKv hP 0 rfl rfl 0 (by decide) k2 (fun _ h9 => h9) rfl dX12_beginCitation_49 ?_
      refine lv_bipush (v := 71) hx hb dX12_beginCitation_52 (by decide) ?_
      refine lv_bipush (v := 6) hx hb dX12_beginCitation_54 (by decide) ?_
      refine lv_aload_n hx hb dX12_beginCitation_56 rfl (lv_at hl 0 rfl) ?_
      refine va_get (D := D) (ci := 12) (v := .ref aM_s) (C := RX12) (T := TX12) (N := 19) hx hb hts k3 hown hKv hP 0 rfl rfl 0 (by decide) k2 (fun _ h9 => h9) rfl dX12_beginCitation_57 ?_
      refine lv_bipush (v := 70) hx hb dX12_beginCitation_60 (by decide) ?_
      replace hm := ck_some hm
      obtain ⟨h8, hm⟩ := hm
      refine va_iald hx hb hKv hP 1 0 rfl rfl h8 dX12_beginCitation_62 ?_
      refine lv_imul hx hb dX12_beginCitation_63 ?_
      refine lv_iadd hx hb dX12_beginCitation_64 ?_
      refine lv_iconst (v := 1) hx hb dX12_beginCitation_65 (by decide) ?_
      refine lv_iadd hx hb dX12_beginCitation_66 ?_
      refine lv_iload_n hx hb dX12_beginCitation_67 rfl (lv_at hl 1 rfl) ?_
      replace hm := ck_some hm
      obtain ⟨h9, hm⟩ := hm
      refine va_iast hx hb hKv hP hD hS 1 0 rfl rfl h9 dX12_beginCitation_68 (fun H locs hP hD hS => ?_)
      replace hP : va_P D vwCl (w_X12_beginCitation cI aM aM_s aM_ke aM_te aM_re aM_bo aM_bn aM_sh aM_in aM_su aM_gr aM_tr aM_ou aM_ro (upd (upd M_s (Int32.toNatClampNeg (71 + (6 * (M_s (Int32.toNatClampNeg 70))))) 1) (Int32.toNatClampNeg ((71 + (6 * ((upd M_s (Int32.toNatClampNeg (71 + (6 * (M_s (Int32.toNatClampNeg 70))))) 1) (Int32.toNatClampNeg 70)))) + 1)) x1) e5.1 e5.2 M_n M_be M_ma M_so M_om) H := hP
      replace hD : va_D A (w_X12_beginCitation cI aM aM_s aM_ke aM_te aM_re aM_bo aM_bn aM_sh aM_in aM_su aM_gr aM_tr aM_ou aM_ro (upd (upd M_s (Int32.toNatClampNeg (71 + (6 * (M_s (Int32.toNatClampNeg 70))))) 1) (Int32.toNatClampNeg ((71 + (6 * ((upd M_s (Int32.toNatClampNeg (71 + (6 * (M_s (Int32.toNatClampNeg 70))))) 1) (Int32.toNatClampNeg 70)))) + 1)) x1) e5.1 e5.2 M_n M_be M_ma M_so M_om) := hD
      refine lv_aload_n hx hb dX12_beginCitation_69 rfl (lv_at hl 0 rfl) ?_
      refine va_get (D := D) (ci := 12) (v := .ref aM_s) (C := RX12) (T := TX12) (N := 19) hx hb hts k3 hown hKv hP 0 rfl rfl 0 (by decide) k2 (fun _ h9 => h9) rfl dX12_beginCitation_70 ?_
      refine lv_bipush (v := 70) hx hb dX12_beginCitation_73 (by decide) ?_
      refine lv_dup2_11 hx hb dX12_beginCitation_75 rfl rfl ?_
      replace hm := ck_some hm
      obtain ⟨h10, hm⟩ := hm
      refine va_iald hx hb hKv hP 1 0 rfl rfl h10 dX12_beginCitation_76 ?_
      refine lv_iconst (v := 1) hx hb dX12_beginCitation_77 (by decide) ?_
      refine lv_iadd hx hb dX12_beginCitation_78 ?_
      replace hm := ck_some hm
      obtain ⟨h11, hm⟩ := hm
      refine va_iast hx hb hKv hP hD hS 1 0 rfl rfl h11 dX12_beginCitation_79 (fun H locs hP hD hS => ?_)
      replace hP : va_P D vwCl (w_X12_beginCitation cI aM aM_s aM_ke aM_te aM_re aM_bo aM_bn aM_sh aM_in aM_su aM_gr aM_tr aM_ou aM_ro (upd (upd (upd M_s (Int32.toNatClampNeg (71 + (6 * (M_s (Int32.toNatClampNeg 70))))) 1) (Int32.toNatClampNeg ((71 + (6 * ((upd M_s (Int32.toNatClampNeg (71 + (6 * (M_s (Int32.toNatClampNeg 70))))) 1) (Int32.toNatClampNeg 70)))) + 1)) x1) (Int32.toNatClampNeg 70) (((upd (upd M_s (Int32.toNatClampNeg (71 + (6 * (M_s (Int32.toNatClampNeg 70))))) 1) (Int32.toNatClampNeg ((71 + (6 * ((upd M_s (Int32.toNatClampNeg (71 + (6 * (M_s (Int32.toNatClampNeg 70))))) 1) (Int32.toNatClampNeg 70)))) + 1)) x1) (Int32.toNatClampNeg 70)) + 1)) e5.1 e5.2 M_n M_be M_ma M_so M_om) H := hP
      replace hD : va_D A (w_X12_beginCitation cI aM aM_s aM_ke aM_te aM_re aM_bo aM_bn aM_sh aM_in aM_su aM_gr aM_tr aM_ou aM_ro (upd (upd (upd M_s (Int32.toNatClampNeg (71 + (6 * (M_s (Int32.toNatClampNeg 70))))) 1) (Int32.toNatClampNeg ((71 + (6 * ((upd M_s (Int32.toNatClampNeg (71 + (6 * (M_s (Int32.toNatClampNeg 70))))) 1) (Int32.toNatClampNeg 70)))) + 1)) x1) (Int32.toNatClampNeg 70) (((upd (upd M_s (Int32.toNatClampNeg (71 + (6 * (M_s (Int32.toNatClampNeg 70))))) 1) (Int32.toNatClampNeg ((71 + (6 * ((upd M_s (Int32.toNatClampNeg (71 + (6 * (M_s (Int32.toNatClampNeg 70))))) 1) (Int32.toNatClampNeg 70)))) + 1)) x1) (Int32.toNatClampNeg 70)) + 1)) e5.1 e5.2 M_n M_be M_ma M_so M_om) := hD
      refine lv_aload_n hx hb dX12_beginCitation_80 rfl (lv_at hl 0 rfl) ?_
      refine va_get (D := D) (ci := 12) (v := .ref aM_s) (C := RX12) (T := TX12) (N := 19) hx hb hts k3 hown hKv hP 0 rfl rfl 0 (by decide) k2 (fun _ h9 => h9) rfl dX12_beginCitation_81 ?_
      refine lv_bipush (v := 70) hx hb dX12_beginCitation_84 (by decide) ?_
      replace hm := ck_some hm
      obtain ⟨h12, hm⟩ := hm
      refine va_iald hx hb hKv hP 1 0 rfl rfl h12 dX12_beginCitation_86 ?_
      refine lv_iconst (v := 1) hx hb dX12_beginCitation_87 (by decide) ?_
      refine lv_isub hx hb dX12_beginCitation_88 ?_
      have h9 := Option.some.inj hm
      subst h9
      exact hret H locs _ ls _ hP hD hS rfl dX12_beginCitation_89
    · replace hm := if_t c4 hm
      refine lv_bipush (v := (-3)) hx hb dX12_beginCitation_22 (by decide) ?_
      have h9 := Option.some.inj hm
      subst h9
      exact hret H locs _ ls _ hP hD hS rfl dX12_beginCitation_24
  · replace hm := if_t c2 hm
    refine lv_iconst (v := (-1)) hx hb dX12_beginCitation_8 (by decide) ?_
    have h9 := Option.some.inj hm
    subst h9
    exact hret H locs _ ls _ hP hD hS rfl dX12_beginCitation_9
set_option maxHeartbeats 4000000 in
set_option maxRecDepth 100000 in
theorem c_X12_listed (l : Launch) (D : va_G) (cI cJ cZ cS : ClassId) (aM aM_s aM_ke aM_te aM_re aM_bo aM_bn aM_sh aM_in aM_su aM_gr aM_tr aM_ou aM_ro : Nat) (M_s : Nat → Int32) (M_km : Int32) (M_n : Int32) (M_be : Int32) (M_ma : Int32) (M_so : Int32) (M_bo : Nat → Int32) (M_bn : Nat → Int32) (M_om : Int32) (x1 : Int32) (o : Int32) (hm : m_X12_listed M_s M_bo M_bn x1 = some o) : MI l yX12_listed wsX12_listed rm_X12_listed D (TY cI cJ cZ cS) [.ref aM, .int x1] (w_X12_listed cI aM aM_s aM_ke aM_te aM_re aM_bo aM_bn aM_sh aM_in aM_su aM_gr aM_tr aM_ou aM_ro M_s M_km M_n M_be M_ma M_so M_bo M_bn M_om) (w_X12_listed cI aM aM_s aM_ke aM_te aM_re aM_bo aM_bn aM_sh aM_in aM_su aM_gr aM_tr aM_ou aM_ro M_s M_km M_n M_be M_ma M_so M_bo M_bn M_om) (o) := by
  refine MI_of (cc := cX12_listed) (maxL := 2) (by decide) rfl (Nat.le_of_ble_eq_true rfl) ?_
  intro p e s m args below meth c A Q ls H locs hx hb hml hts hown hK hA hP hD hS hl hret
  have hown : s.vm.findClass RX12 = some m.cls := hown
  have hKv : va_K D vwCl (TY cI cJ cZ cS) s := hK.1
  have hl : lv_has ls 2 [(0, .ref aM), (1, .int x1)] := hl
  have S : CallFix p m c cX12_listed 2 s args wsX12_listed RX12 := ⟨hx, hb, hml, hown, hts⟩
  have k1 := hts (.fieldLink RX12 7 "CitationFormatterModel" "s" "[I") (by decide +kernel)
  have k2 : ∀ w ∈ wsX120, w ∈ wsX12_listed := by decide +kernel
  have k3 := hts (.fieldLink RX12 22 "CitationFormatterModel" "byOrder" "[I") (by decide +kernel)
  have k4 := hts (.fieldLink RX12 25 "CitationFormatterModel" "byNumber" "[I") (by decide +kernel)
  have J26 : ∀ (y0_j26 : Int32), (m_X12_listed_J26 y0_j26 = some o) → ∀ (H : Heap) (locs : List Loc) (ls : Array Slot), va_P D vwCl (w_X12_listed cI aM aM_s aM_ke aM_te aM_re aM_bo aM_bn aM_sh aM_in aM_su aM_gr aM_tr aM_ou aM_ro M_s M_km M_n M_be M_ma M_so M_bo M_bn M_om) H → va_D A (w_X12_listed cI aM aM_s aM_ke aM_te aM_re aM_bo aM_bn aM_sh aM_in aM_su aM_gr aM_tr aM_ou aM_ro M_s M_km M_n M_be M_ma M_so M_bo M_bn M_om) → va_S A s.heap H locs → lv_has ls 2 [(0, .ref aM)] → W p l e rm_X12_listed s m args below meth c H locs 0 0 Q (F0 m 26 ls [.int y0_j26]) := by
    intro y0_j26 hm H locs ls hP hD hS hl
    have h9 := Option.some.inj hm
    subst h9
    exact hret H locs _ ls _ hP hD hS rfl dX12_listed_26
  refine lv_aload_n hx hb dX12_listed_0 rfl (lv_at hl 0 rfl) ?_
  refine va_get (D := D) (ci := 12) (v := .ref aM_s) (C := RX12) (T := TX12) (N := 19) hx hb hts k2 hown hKv hP 0 rfl rfl 0 (by decide) k1 (fun _ h9 => h9) rfl dX12_listed_1 ?_
  refine lv_bipush (v := 57) hx hb dX12_listed_4 (by decide) ?_
  replace hm := ck_some hm
  obtain ⟨h1, hm⟩ := hm
  refine va_iald hx hb hKv hP 1 0 rfl rfl h1 dX12_listed_6 ?_
  refine lv_iconst (v := 1) hx hb dX12_listed_7 (by decide) ?_
  refine lv_icmp_ne (tgt := 20) hx hb dX12_listed_8 (by decide) (fun c2 => ?_) (fun c2 => ?_)
  · replace hm := if_f c2 hm
    refine lv_aload_n hx hb dX12_listed_20 rfl (lv_at hl 0 rfl) ?_
    refine va_get (D := D) (ci := 12) (v := .ref aM_bo) (C := RX12) (T := TX12) (N := 19) hx hb hts k2 hown hKv hP 0 rfl rfl 9 (by decide) k3 (fun _ h9 => h9) rfl dX12_listed_21 ?_
    refine lv_iload_n hx hb dX12_listed_24 rfl (lv_at hl 1 rfl) ?_
    replace hm := ck_some hm
    obtain ⟨h3, hm⟩ := hm
    refine va_iald hx hb hKv hP 2 0 rfl rfl h3 dX12_listed_25 ?_
    exact J26 (M_bo (Int32.toNatClampNeg x1)) hm H locs ls hP hD hS (lv_sub hl [0] rfl)
  · replace hm := if_t c2 hm
    refine lv_aload_n hx hb dX12_listed_11 rfl (lv_at hl 0 rfl) ?_
    refine va_get (D := D) (ci := 12) (v := .ref aM_bn) (C := RX12) (T := TX12) (N := 19) hx hb hts k2 hown hKv hP 0 rfl rfl 10 (by decide) k4 (fun _ h9 => h9) rfl dX12_listed_12 ?_
    refine lv_iload_n hx hb dX12_listed_15 rfl (lv_at hl 1 rfl) ?_
    replace hm := ck_some hm
    obtain ⟨h4, hm⟩ := hm
    refine va_iald hx hb hKv hP 3 0 rfl rfl h4 dX12_listed_16 ?_
    refine lv_goto (tgt := 26) hx hb dX12_listed_17 (by decide) ?_
    exact J26 (M_bn (Int32.toNatClampNeg x1)) hm H locs ls hP hD hS (lv_sub hl [0] rfl)
set_option maxHeartbeats 4000000 in
set_option maxRecDepth 100000 in
theorem c_X12_bibliographyAt (l : Launch) (D : va_G) (cI cJ cZ cS : ClassId) (aM aM_s aM_ke aM_te aM_re aM_bo aM_bn aM_sh aM_in aM_su aM_gr aM_tr aM_ou aM_ro : Nat) (M_s : Nat → Int32) (M_km : Int32) (M_n : Int32) (M_be : Int32) (M_ma : Int32) (M_so : Int32) (M_bo : Nat → Int32) (M_bn : Nat → Int32) (M_om : Int32) (x1 : Int32) (o : Int32 × (Nat → Int32) × (Nat → Int32)) (hm : m_X12_bibliographyAt M_s M_bo M_bn x1 = some o) : MI l yX12_bibliographyAt wsX12_bibliographyAt rm_X12_bibliographyAt D (TY cI cJ cZ cS) [.ref aM, .int x1] (w_X12_bibliographyAt cI aM aM_s aM_ke aM_te aM_re aM_bo aM_bn aM_sh aM_in aM_su aM_gr aM_tr aM_ou aM_ro M_s M_km M_n M_be M_ma M_so M_bo M_bn M_om) (w_X12_bibliographyAt cI aM aM_s aM_ke aM_te aM_re aM_bo aM_bn aM_sh aM_in aM_su aM_gr aM_tr aM_ou aM_ro M_s M_km M_n M_be M_ma M_so o.2.1 o.2.2 M_om) (o.1) := by
  refine MI_of (cc := cX12_bibliographyAt) (maxL := 2) (by decide) rfl (Nat.le_of_ble_eq_true rfl) ?_
  intro p e s m args below meth c A Q ls H locs hx hb hml hts hown hK hA hP hD hS hl hret
  have hown : s.vm.findClass RX12 = some m.cls := hown
  have hKv : va_K D vwCl (TY cI cJ cZ cS) s := hK.1
  have hl : lv_has ls 2 [(0, .ref aM), (1, .int x1)] := hl
  have S : CallFix p m c cX12_bibliographyAt 2 s args wsX12_bibliographyAt RX12 := ⟨hx, hb, hml, hown, hts⟩
  have k1 := hts (.fieldLink RX12 7 "CitationFormatterModel" "s" "[I") (by decide +kernel)
  have k2 : ∀ w ∈ wsX120, w ∈ wsX12_bibliographyAt := by decide +kernel
  have k3 : CallB rm_X12_bibliographyAt s args RX12 50 yX12_in cX12_in 6 (some .boolean) wsX12_in rm_X12_in 0 0 3 ∧ (Cond.static yX12_in).before args s = true := va_cwS 3 hts gX12_bibliographyAt_X12_in rfl rfl rfl (by decide +kernel) ⟨Nat.le_of_ble_eq_true rfl, Nat.le_of_ble_eq_true rfl⟩
  have k4 : CallW rm_X12_bibliographyAt s args RX12 RX12 108 yX12_layNumbers cX12_layNumbers 6 none wsX12_layNumbers rm_X12_layNumbers 0 0 0 := cwV 0 hts gX12_bibliographyAt_X12_layNumbers rfl rfl rfl (by decide +kernel) ⟨Nat.le_of_ble_eq_true rfl, Nat.le_of_ble_eq_true rfl⟩
  have k5 : CallW rm_X12_bibliographyAt s args RX12 RX12 167 yX12_listed cX12_listed 2 (some .int) wsX12_listed rm_X12_listed 0 0 1 := cwV 1 hts gX12_bibliographyAt_X12_listed rfl rfl rfl (by decide +kernel) ⟨Nat.le_of_ble_eq_true rfl, Nat.le_of_ble_eq_true rfl⟩
  refine lv_iload_n hx hb dX12_bibliographyAt_0 rfl (lv_at hl 1 rfl) ?_
  refine lv_i2l hx hb dX12_bibliographyAt_1 rfl ?_
  refine lv_lconst (v := 0) hx hb dX12_bibliographyAt_2 (by decide) ?_
  refine lv_aload_n hx hb dX12_bibliographyAt_3 rfl (lv_at hl 0 rfl) ?_
  refine va_get (D := D) (ci := 12) (v := .ref aM_s) (C := RX12) (T := TX12) (N := 19) hx hb hts k2 hown hKv hP 0 rfl rfl 0 (by decide) k1 (fun _ h9 => h9) rfl dX12_bibliographyAt_4 ?_
  refine lv_iconst (v := 0) hx hb dX12_bibliographyAt_7 (by decide) ?_
  replace hm := ck_some hm
  obtain ⟨h1, hm⟩ := hm
  refine va_iald hx hb hKv hP 1 0 rfl rfl h1 dX12_bibliographyAt_8 ?_
  refine lv_iconst (v := 1) hx hb dX12_bibliographyAt_9 (by decide) ?_
  refine lv_isub hx hb dX12_bibliographyAt_10 ?_
  refine lv_i2l hx hb dX12_bibliographyAt_11 rfl ?_
  replace hm := bd_some hm
  obtain ⟨e2, hc2, hm⟩ := hm
  refine kS_i (rest := []) S (c_X12_in l D cI cJ cZ cS (Int32.toInt64 x1) 0 (Int32.toInt64 ((M_s (Int32.toNatClampNeg 0)) - 1)) e2 hc2) k3 hK hP hD hS hA rfl hl.1 rfl (Nat.le_of_ble_eq_true rfl) ⟨Nat.zero_le _, Nat.zero_le _⟩ dX12_bibliographyAt_12 (fun H locs hP hD hS => ?_)
  refine lv_if_ne (tgt := 20) hx hb dX12_bibliographyAt_15 (by decide) (fun c3 => ?_) (fun c3 => ?_)
  · replace hm := if_f c3 hm
    refine lv_aload_n hx hb dX12_bibliographyAt_20 rfl (lv_at hl 0 rfl) ?_
    replace hm := bd_some hm
    obtain ⟨e4, hc4, hm⟩ := hm
    refine kV_v (rest := []) (ws' := (w_X12_bibliographyAt cI aM aM_s aM_ke aM_te aM_re aM_bo aM_bn aM_sh aM_in aM_su aM_gr aM_tr aM_ou aM_ro M_s M_km M_n M_be M_ma M_so e4.1 e4.2 M_om)) S (c_X12_layNumbers l D cI cJ cZ cS aM aM_s aM_ke aM_te aM_re aM_bo aM_bn aM_sh aM_in aM_su aM_gr aM_tr aM_ou aM_ro M_s M_km M_n M_be M_ma M_so M_bo M_bn M_om e4 hc4) k4 hK hP hD hS hA 0 rfl rfl rfl rfl hl.1 rfl (Nat.le_of_ble_eq_true rfl) ⟨Nat.zero_le _, Nat.zero_le _⟩ dX12_bibliographyAt_21 [0, 1, 2, 3] rfl rfl wa_X12_layNumbers (sa_eq [] [] 4 rfl rfl rfl rfl rfl rfl rfl) (fun H locs hP hD hS => ?_)
    refine lv_aload_n hx hb dX12_bibliographyAt_24 rfl (lv_at hl 0 rfl) ?_
    refine lv_iload_n hx hb dX12_bibliographyAt_25 rfl (lv_at hl 1 rfl) ?_
    replace hm := bd_some hm
    obtain ⟨e5, hc5, hm⟩ := hm
    refine kV_i (rest := []) (ws' := (w_X12_bibliographyAt cI aM aM_s aM_ke aM_te aM_re aM_bo aM_bn aM_sh aM_in aM_su aM_gr aM_tr aM_ou aM_ro M_s M_km M_n M_be M_ma M_so e4.1 e4.2 M_om)) S (c_X12_listed l D cI cJ cZ cS aM aM_s aM_ke aM_te aM_re aM_bo aM_bn aM_sh aM_in aM_su aM_gr aM_tr aM_ou aM_ro M_s M_km M_n M_be M_ma M_so e4.1 e4.2 M_om x1 e5 hc5) k5 hK hP hD hS hA 0 rfl rfl rfl rfl hl.1 rfl (Nat.le_of_ble_eq_true rfl) ⟨Nat.zero_le _, Nat.zero_le _⟩ dX12_bibliographyAt_26 [0, 1, 2, 3] rfl rfl wa_X12_listed (sa_eq [] [] 4 rfl rfl rfl rfl rfl rfl rfl) (fun H locs hP hD hS => ?_)
    have h9 := Option.some.inj hm
    subst h9
    exact hret H locs _ ls _ hP hD hS rfl dX12_bibliographyAt_29
  · replace hm := if_t c3 hm
    refine lv_iconst (v := (-1)) hx hb dX12_bibliographyAt_18 (by decide) ?_
    have h9 := Option.some.inj hm
    subst h9
    exact hret H locs _ ls _ hP hD hS rfl dX12_bibliographyAt_19
set_option maxHeartbeats 4000000 in
set_option maxRecDepth 100000 in
theorem c_X12_citationCount (l : Launch) (D : va_G) (cI cJ cZ cS : ClassId) (aM aM_s aM_ke aM_te aM_re aM_bo aM_bn aM_sh aM_in aM_su aM_gr aM_tr aM_ou aM_ro : Nat) (M_s : Nat → Int32) (M_km : Int32) (M_n : Int32) (M_be : Int32) (M_ma : Int32) (M_so : Int32) (M_om : Int32) (o : Int32) (hm : m_X12_citationCount M_s = some o) : MI l yX12_citationCount wsX12_citationCount rm_X12_citationCount D (TY cI cJ cZ cS) [.ref aM] (w_X12_citationCount cI aM aM_s aM_ke aM_te aM_re aM_bo aM_bn aM_sh aM_in aM_su aM_gr aM_tr aM_ou aM_ro M_s M_km M_n M_be M_ma M_so M_om) (w_X12_citationCount cI aM aM_s aM_ke aM_te aM_re aM_bo aM_bn aM_sh aM_in aM_su aM_gr aM_tr aM_ou aM_ro M_s M_km M_n M_be M_ma M_so M_om) (o) := by
  refine MI_of (cc := cX12_citationCount) (maxL := 1) (by decide) rfl (Nat.le_of_ble_eq_true rfl) ?_
  intro p e s m args below meth c A Q ls H locs hx hb hml hts hown hK hA hP hD hS hl hret
  have hown : s.vm.findClass RX12 = some m.cls := hown
  have hKv : va_K D vwCl (TY cI cJ cZ cS) s := hK.1
  have hl : lv_has ls 1 [(0, .ref aM)] := hl
  have S : CallFix p m c cX12_citationCount 1 s args wsX12_citationCount RX12 := ⟨hx, hb, hml, hown, hts⟩
  have k1 := hts (.fieldLink RX12 7 "CitationFormatterModel" "s" "[I") (by decide +kernel)
  have k2 : ∀ w ∈ wsX120, w ∈ wsX12_citationCount := by decide +kernel
  refine lv_aload_n hx hb dX12_citationCount_0 rfl (lv_at hl 0 rfl) ?_
  refine va_get (D := D) (ci := 12) (v := .ref aM_s) (C := RX12) (T := TX12) (N := 19) hx hb hts k2 hown hKv hP 0 rfl rfl 0 (by decide) k1 (fun _ h9 => h9) rfl dX12_citationCount_1 ?_
  refine lv_bipush (v := 70) hx hb dX12_citationCount_4 (by decide) ?_
  replace hm := ck_some hm
  obtain ⟨h1, hm⟩ := hm
  refine va_iald hx hb hKv hP 1 0 rfl rfl h1 dX12_citationCount_6 ?_
  have h9 := Option.some.inj hm
  subst h9
  exact hret H locs _ ls _ hP hD hS rfl dX12_citationCount_7
set_option maxHeartbeats 4000000 in
set_option maxRecDepth 100000 in
theorem c_X12_isCitation (l : Launch) (D : va_G) (cI cJ cZ cS : ClassId) (aM aM_s aM_ke aM_te aM_re aM_bo aM_bn aM_sh aM_in aM_su aM_gr aM_tr aM_ou aM_ro : Nat) (M_s : Nat → Int32) (M_km : Int32) (M_n : Int32) (M_be : Int32) (M_ma : Int32) (M_so : Int32) (M_om : Int32) (x1 : Int32) (o : Int32) (hm : m_X12_isCitation M_s x1 = some o) : MI l yX12_isCitation wsX12_isCitation rm_X12_isCitation D (TY cI cJ cZ cS) [.ref aM, .int x1] (w_X12_isCitation cI aM aM_s aM_ke aM_te aM_re aM_bo aM_bn aM_sh aM_in aM_su aM_gr aM_tr aM_ou aM_ro M_s M_km M_n M_be M_ma M_so M_om) (w_X12_isCitation cI aM aM_s aM_ke aM_te aM_re aM_bo aM_bn aM_sh aM_in aM_su aM_gr aM_tr aM_ou aM_ro M_s M_km M_n M_be M_ma M_so M_om) (o) := by
  refine MZ_of (cc := cX12_isCitation) (maxL := 2) (by decide) rfl (Nat.le_of_ble_eq_true rfl) ?_
  intro p e s m args below meth c A Q ls H locs hx hb hml hts hown hK hA hP hD hS hl hret
  have hown : s.vm.findClass RX12 = some m.cls := hown
  have hKv : va_K D vwCl (TY cI cJ cZ cS) s := hK.1
  have hl : lv_has ls 2 [(0, .ref aM), (1, .int x1)] := hl
  have S : CallFix p m c cX12_isCitation 2 s args wsX12_isCitation RX12 := ⟨hx, hb, hml, hown, hts⟩
  have k1 := hts (.fieldLink RX12 7 "CitationFormatterModel" "s" "[I") (by decide +kernel)
  have k2 : ∀ w ∈ wsX120, w ∈ wsX12_isCitation := by decide +kernel
  have k3 : CallB rm_X12_isCitation s args RX12 50 yX12_in cX12_in 6 (some .boolean) wsX12_in rm_X12_in 0 0 3 ∧ (Cond.static yX12_in).before args s = true := va_cwS 3 hts gX12_isCitation_X12_in rfl rfl rfl (by decide +kernel) ⟨Nat.le_of_ble_eq_true rfl, Nat.le_of_ble_eq_true rfl⟩
  refine lv_iload_n hx hb dX12_isCitation_0 rfl (lv_at hl 1 rfl) ?_
  refine lv_i2l hx hb dX12_isCitation_1 rfl ?_
  refine lv_lconst (v := 0) hx hb dX12_isCitation_2 (by decide) ?_
  refine lv_aload_n hx hb dX12_isCitation_3 rfl (lv_at hl 0 rfl) ?_
  refine va_get (D := D) (ci := 12) (v := .ref aM_s) (C := RX12) (T := TX12) (N := 19) hx hb hts k2 hown hKv hP 0 rfl rfl 0 (by decide) k1 (fun _ h9 => h9) rfl dX12_isCitation_4 ?_
  refine lv_bipush (v := 70) hx hb dX12_isCitation_7 (by decide) ?_
  replace hm := ck_some hm
  obtain ⟨h1, hm⟩ := hm
  refine va_iald hx hb hKv hP 1 0 rfl rfl h1 dX12_isCitation_9 ?_
  refine lv_iconst (v := 1) hx hb dX12_isCitation_10 (by decide) ?_
  refine lv_isub hx hb dX12_isCitation_11 ?_
  refine lv_i2l hx hb dX12_isCitation_12 rfl ?_
  replace hm := bd_some hm
  obtain ⟨e2, hc2, hm⟩ := hm
  refine kS_i (rest := []) S (c_X12_in l D cI cJ cZ cS (Int32.toInt64 x1) 0 (Int32.toInt64 ((M_s (Int32.toNatClampNeg 70)) - 1)) e2 hc2) k3 hK hP hD hS hA rfl hl.1 rfl (Nat.le_of_ble_eq_true rfl) ⟨Nat.zero_le _, Nat.zero_le _⟩ dX12_isCitation_13 (fun H locs hP hD hS => ?_)
  replace hm := ckb_some hm
  obtain ⟨h3, hm⟩ := hm
  have h9 := Option.some.inj hm
  subst h9
  exact hret H locs _ ls _ h3 hP hD hS rfl dX12_isCitation_16
set_option maxHeartbeats 4000000 in
set_option maxRecDepth 100000 in
theorem c_X12_citationSize (l : Launch) (D : va_G) (cI cJ cZ cS : ClassId) (aM aM_s aM_ke aM_te aM_re aM_bo aM_bn aM_sh aM_in aM_su aM_gr aM_tr aM_ou aM_ro : Nat) (M_s : Nat → Int32) (M_km : Int32) (M_n : Int32) (M_be : Int32) (M_ma : Int32) (M_so : Int32) (M_om : Int32) (x1 : Int32) (o : Int32) (hm : m_X12_citationSize M_s x1 = some o) : MI l yX12_citationSize wsX12_citationSize rm_X12_citationSize D (TY cI cJ cZ cS) [.ref aM, .int x1] (w_X12_citationSize cI aM aM_s aM_ke aM_te aM_re aM_bo aM_bn aM_sh aM_in aM_su aM_gr aM_tr aM_ou aM_ro M_s M_km M_n M_be M_ma M_so M_om) (w_X12_citationSize cI aM aM_s aM_ke aM_te aM_re aM_bo aM_bn aM_sh aM_in aM_su aM_gr aM_tr aM_ou aM_ro M_s M_km M_n M_be M_ma M_so M_om) (o) := by
  refine MI_of (cc := cX12_citationSize) (maxL := 2) (by decide) rfl (Nat.le_of_ble_eq_true rfl) ?_
  intro p e s m args below meth c A Q ls H locs hx hb hml hts hown hK hA hP hD hS hl hret
  have hown : s.vm.findClass RX12 = some m.cls := hown
  have hKv : va_K D vwCl (TY cI cJ cZ cS) s := hK.1
  have hl : lv_has ls 2 [(0, .ref aM), (1, .int x1)] := hl
  have S : CallFix p m c cX12_citationSize 2 s args wsX12_citationSize RX12 := ⟨hx, hb, hml, hown, hts⟩
  have k1 : CallW rm_X12_citationSize s args RX12 RX12 143 yX12_isCitation cX12_isCitation 2 (some .boolean) wsX12_isCitation rm_X12_isCitation 0 0 1 := cwV 1 hts gX12_citationSize_X12_isCitation rfl rfl rfl (by decide +kernel) ⟨Nat.le_of_ble_eq_true rfl, Nat.le_of_ble_eq_true rfl⟩
  have k2 : CallW rm_X12_citationSize s args RX12 RX12 119 yX12_cites cX12_cites 2 (some .int) wsX12_cites rm_X12_cites 0 0 1 := cwV 1 hts gX12_citationSize_X12_cites rfl rfl rfl (by decide +kernel) ⟨Nat.le_of_ble_eq_true rfl, Nat.le_of_ble_eq_true rfl⟩
  have J17 : ∀ (y0_j17 : Int32), (m_X12_citationSize_J17 y0_j17 = some o) → ∀ (H : Heap) (locs : List Loc) (ls : Array Slot), va_P D vwCl (w_X12_citationSize cI aM aM_s aM_ke aM_te aM_re aM_bo aM_bn aM_sh aM_in aM_su aM_gr aM_tr aM_ou aM_ro M_s M_km M_n M_be M_ma M_so M_om) H → va_D A (w_X12_citationSize cI aM aM_s aM_ke aM_te aM_re aM_bo aM_bn aM_sh aM_in aM_su aM_gr aM_tr aM_ou aM_ro M_s M_km M_n M_be M_ma M_so M_om) → va_S A s.heap H locs → lv_has ls 2 [(0, .ref aM)] → W p l e rm_X12_citationSize s m args below meth c H locs 0 0 Q (F0 m 17 ls [.int y0_j17]) := by
    intro y0_j17 hm H locs ls hP hD hS hl
    have h9 := Option.some.inj hm
    subst h9
    exact hret H locs _ ls _ hP hD hS rfl dX12_citationSize_17
  refine lv_aload_n hx hb dX12_citationSize_0 rfl (lv_at hl 0 rfl) ?_
  refine lv_iload_n hx hb dX12_citationSize_1 rfl (lv_at hl 1 rfl) ?_
  replace hm := bd_some hm
  obtain ⟨e1, hc1, hm⟩ := hm
  refine kV_i (rest := []) (ws' := (w_X12_citationSize cI aM aM_s aM_ke aM_te aM_re aM_bo aM_bn aM_sh aM_in aM_su aM_gr aM_tr aM_ou aM_ro M_s M_km M_n M_be M_ma M_so M_om)) S (c_X12_isCitation l D cI cJ cZ cS aM aM_s aM_ke aM_te aM_re aM_bo aM_bn aM_sh aM_in aM_su aM_gr aM_tr aM_ou aM_ro M_s M_km M_n M_be M_ma M_so M_om x1 e1 hc1) k1 hK hP hD hS hA 0 rfl rfl rfl rfl hl.1 rfl (Nat.le_of_ble_eq_true rfl) ⟨Nat.zero_le _, Nat.zero_le _⟩ dX12_citationSize_2 [0, 1] rfl rfl wa_X12_isCitation (sa_eq [] [] 2 rfl rfl rfl rfl rfl rfl rfl) (fun H locs hP hD hS => ?_)
  refine lv_if_eq (tgt := 16) hx hb dX12_citationSize_5 (by decide) (fun c2 => ?_) (fun c2 => ?_)
  · replace hm := if_t c2 hm
    refine lv_iconst (v := (-1)) hx hb dX12_citationSize_16 (by decide) ?_
    exact J17 (-1) hm H locs ls hP hD hS (lv_sub hl [0] rfl)
  · replace hm := if_f c2 hm
    refine lv_aload_n hx hb dX12_citationSize_8 rfl (lv_at hl 0 rfl) ?_
    refine lv_iload_n hx hb dX12_citationSize_9 rfl (lv_at hl 1 rfl) ?_
    replace hm := bd_some hm
    obtain ⟨e3, hc3, hm⟩ := hm
    refine kV_i (rest := []) (ws' := (w_X12_citationSize cI aM aM_s aM_ke aM_te aM_re aM_bo aM_bn aM_sh aM_in aM_su aM_gr aM_tr aM_ou aM_ro M_s M_km M_n M_be M_ma M_so M_om)) S (c_X12_cites l D cI cJ cZ cS aM aM_s aM_ke aM_te aM_re aM_bo aM_bn aM_sh aM_in aM_su aM_gr aM_tr aM_ou aM_ro M_s M_km M_n M_be M_ma M_so M_om x1 e3 hc3) k2 hK hP hD hS hA 0 rfl rfl rfl rfl hl.1 rfl (Nat.le_of_ble_eq_true rfl) ⟨Nat.zero_le _, Nat.zero_le _⟩ dX12_citationSize_10 [0, 1] rfl rfl wa_X12_cites (sa_eq [] [] 2 rfl rfl rfl rfl rfl rfl rfl) (fun H locs hP hD hS => ?_)
    refine lv_goto (tgt := 17) hx hb dX12_citationSize_13 (by decide) ?_
    exact J17 e3 hm H locs ls hP hD hS (lv_sub hl [0] rfl)
set_option maxHeartbeats 4000000 in
set_option maxRecDepth 100000 in
theorem c_X12_clearText (l : Launch) (D : va_G) (cI cJ cZ cS : ClassId) (aM aM_s aM_ke aM_te aM_re aM_bo aM_bn aM_sh aM_in aM_su aM_gr aM_tr aM_ou aM_ro : Nat) (M_km : Int32) (M_n : Int32) (M_be : Int32) (M_ma : Int32) (M_so : Int32) (M_om : Int32) (o : Int32 × Int32) (hm : m_X12_clearText M_n = some o) : MI l yX12_clearText wsX12_clearText rm_X12_clearText D (TY cI cJ cZ cS) [.ref aM] (w_X12_clearText aM aM_s aM_ke aM_te aM_re aM_bo aM_bn aM_sh aM_in aM_su aM_gr aM_tr aM_ou aM_ro M_km M_n M_be M_ma M_so M_om) (w_X12_clearText aM aM_s aM_ke aM_te aM_re aM_bo aM_bn aM_sh aM_in aM_su aM_gr aM_tr aM_ou aM_ro M_km o.2 M_be M_ma M_so M_om) (o.1) := by
  refine MI_of (cc := cX12_clearText) (maxL := 2) (by decide) rfl (Nat.le_of_ble_eq_true rfl) ?_
  intro p e s m args below meth c A Q ls H locs hx hb hml hts hown hK hA hP hD hS hl hret
  have hown : s.vm.findClass RX12 = some m.cls := hown
  have hKv : va_K D vwCl (TY cI cJ cZ cS) s := hK.1
  have hl : lv_has ls 2 [(0, .ref aM)] := hl
  have S : CallFix p m c cX12_clearText 2 s args wsX12_clearText RX12 := ⟨hx, hb, hml, hown, hts⟩
  have k1 := hts (.fieldLink RX12 60 "CitationFormatterModel" "length" "I") (by decide +kernel)
  have k2 : ∀ w ∈ wsX120, w ∈ wsX12_clearText := by decide +kernel
  refine lv_aload_n hx hb dX12_clearText_0 rfl (lv_at hl 0 rfl) ?_
  refine va_get (D := D) (ci := 12) (v := .int M_n) (C := RX12) (T := TX12) (N := 19) hx hb hts k2 hown hKv hP 0 rfl rfl 4 (by decide) k1 (fun _ h9 => h9) rfl dX12_clearText_1 ?_
  refine lv_istore_n (lv' := [(1, .int M_n), (0, .ref aM)]) hx hb dX12_clearText_4 rfl hl (by decide) rfl (fun ls hl => ?_)
  refine lv_aload_n hx hb dX12_clearText_5 rfl (lv_at hl 1 rfl) ?_
  refine lv_iconst (v := 0) hx hb dX12_clearText_6 (by decide) ?_
  refine va_put (D := D) (ci := 12) (v := .int 0) (ty := .int) (C := RX12) (T := TX12) (N := 19) hx hb hts k2 tyX12 tyX12_ok nmX12 hown hKv hP hD hS 0 rfl rfl 4 (by decide) k1 (fun _ h9 => h9) rfl (by decide +kernel) rfl rfl (Nat.le_of_ble_eq_true rfl) dX12_clearText_7 (fun H locs hP hD hS => ?_)
  replace hP : va_P D vwCl (w_X12_clearText aM aM_s aM_ke aM_te aM_re aM_bo aM_bn aM_sh aM_in aM_su aM_gr aM_tr aM_ou aM_ro M_km 0 M_be M_ma M_so M_om) H := hP
  replace hD : va_D A (w_X12_clearText aM aM_s aM_ke aM_te aM_re aM_bo aM_bn aM_sh aM_in aM_su aM_gr aM_tr aM_ou aM_ro M_km 0 M_be M_ma M_so M_om) := hD
  refine lv_iload_n hx hb dX12_clearText_10 rfl (lv_at hl 0 rfl) ?_
  have h9 := Option.some.inj hm
  subst h9
  exact hret H locs _ ls _ hP hD hS rfl dX12_clearText_11
set_option maxHeartbeats 4000000 in
set_option maxRecDepth 100000 in
theorem c_X12_earliest (l : Launch) (D : va_G) (cI cJ cZ cS : ClassId) (aM aM_s aM_ke aM_te aM_re aM_bo aM_bn aM_sh aM_in aM_su aM_gr aM_tr aM_ou aM_ro : Nat) (M_s : Nat → Int32) (M_km : Int32) (M_n : Int32) (M_be : Int32) (M_ma : Int32) (M_so : Int32) (M_om : Int32) (x1 : Int32) (x2 : Int32) (o : Int32) (hm : m_X12_earliest M_s x1 x2 = some o) : MI l yX12_earliest wsX12_earliest rm_X12_earliest D (TY cI cJ cZ cS) [.ref aM, .int x1, .int x2] (w_X12_earliest cI aM aM_s aM_ke aM_te aM_re aM_bo aM_bn aM_sh aM_in aM_su aM_gr aM_tr aM_ou aM_ro M_s M_km M_n M_be M_ma M_so M_om) (w_X12_earliest cI aM aM_s aM_ke aM_te aM_re aM_bo aM_bn aM_sh aM_in aM_su aM_gr aM_tr aM_ou aM_ro M_s M_km M_n M_be M_ma M_so M_om) (o) := by
  refine MI_of (cc := cX12_earliest) (maxL := 4) (by decide) rfl (Nat.le_of_ble_eq_true rfl) ?_
  intro p e s m args below meth c A Q ls H locs hx hb hml hts hown hK hA hP hD hS hl hret
  have hown : s.vm.findClass RX12 = some m.cls := hown
  have hKv : va_K D vwCl (TY cI cJ cZ cS) s := hK.1
  have hl : lv_has ls 4 [(0, .ref aM), (1, .int x1), (2, .int x2)] := hl
  have S : CallFix p m c cX12_earliest 4 s args wsX12_earliest RX12 := ⟨hx, hb, hml, hown, hts⟩
  have k1 : CallW rm_X12_earliest s args RX12 RX12 139 yX12_doesCite cX12_doesCite 5 (some .boolean) wsX12_doesCite rm_X12_doesCite 0 0 2 := cwV 2 hts gX12_earliest_X12_doesCite rfl rfl rfl (by decide +kernel) ⟨Nat.le_of_ble_eq_true rfl, Nat.le_of_ble_eq_true rfl⟩
  refine lv_iconst (v := 0) hx hb dX12_earliest_0 (by decide) ?_
  refine lv_istore_n (lv' := [(3, .int 0), (0, .ref aM), (1, .int x1), (2, .int x2)]) hx hb dX12_earliest_1 rfl hl (by decide) rfl (fun ls hl => ?_)
  replace hm := bd_some hm
  obtain ⟨e1, hc1, hm⟩ := hm
  have X1_0 : ∀ v1_0, e1 = Sum.inl v1_0 → ∀ (H : Heap) (locs : List Loc) (ls : Array Slot), va_P D vwCl (w_X12_earliest cI aM aM_s aM_ke aM_te aM_re aM_bo aM_bn aM_sh aM_in aM_su aM_gr aM_tr aM_ou aM_ro M_s M_km M_n M_be M_ma M_so M_om) H → va_D A (w_X12_earliest cI aM aM_s aM_ke aM_te aM_re aM_bo aM_bn aM_sh aM_in aM_su aM_gr aM_tr aM_ou aM_ro M_s M_km M_n M_be M_ma M_so M_om) → va_S A s.heap H locs → lv_has ls 4 [(0, .ref aM), (3, .int v1_0)] → W p l e rm_X12_earliest s m args below meth c H locs 0 0 Q (F0 m 16 ls []) := by
    intro v1_0 h9 H locs ls hP hD hS hl
    subst h9
    replace hm := el_l hm
    refine lv_iload_n hx hb dX12_earliest_16 rfl (lv_at hl 1 rfl) ?_
    have h9 := Option.some.inj hm
    subst h9
    exact hret H locs _ ls _ hP hD hS rfl dX12_earliest_17
  have X1_1 : ∀ v1_1, e1 = Sum.inr (v1_1) → ∀ (H : Heap) (locs : List Loc) (ls : Array Slot), va_P D vwCl (w_X12_earliest cI aM aM_s aM_ke aM_te aM_re aM_bo aM_bn aM_sh aM_in aM_su aM_gr aM_tr aM_ou aM_ro M_s M_km M_n M_be M_ma M_so M_om) H → va_D A (w_X12_earliest cI aM aM_s aM_ke aM_te aM_re aM_bo aM_bn aM_sh aM_in aM_su aM_gr aM_tr aM_ou aM_ro M_s M_km M_n M_be M_ma M_so M_om) → va_S A s.heap H locs → lv_has ls 4 [(0, .ref aM)] → W p l e rm_X12_earliest s m args below meth c H locs 0 0 Q (F0 m 24 ls []) := by
    intro v1_1 h9 H locs ls hP hD hS hl
    subst h9
    replace hm := el_r hm
    refine lv_bipush (v := (-9)) hx hb dX12_earliest_24 (by decide) ?_
    have h9 := Option.some.inj hm
    subst h9
    exact hret H locs _ ls _ hP hD hS rfl dX12_earliest_26
  refine it_W (G := fun (st2 : Int32) => ∀ (H : Heap) (locs : List Loc) (ls : Array Slot), va_P D vwCl (w_X12_earliest cI aM aM_s aM_ke aM_te aM_re aM_bo aM_bn aM_sh aM_in aM_su aM_gr aM_tr aM_ou aM_ro M_s M_km M_n M_be M_ma M_so M_om) H → va_D A (w_X12_earliest cI aM aM_s aM_ke aM_te aM_re aM_bo aM_bn aM_sh aM_in aM_su aM_gr aM_tr aM_ou aM_ro M_s M_km M_n M_be M_ma M_so M_om) → va_S A s.heap H locs → lv_has ls 4 [(0, .ref aM), (1, .int x1), (2, .int x2), (3, .int st2)] → W p l e rm_X12_earliest s m args below meth c H locs 0 0 Q (F0 m 2 ls [])) (e := e1) (fun st2 x hm hG hE => ?_) fu _ hc1 H locs ls hP hD hS (lv_sub hl [1, 2, 3, 0] rfl)
  intro H locs ls hP hD hS hl
  refine lv_iload_n hx hb dX12_earliest_2 rfl (lv_at hl 3 rfl) ?_
  refine lv_iload_n hx hb dX12_earliest_3 rfl (lv_at hl 2 rfl) ?_
  refine lv_icmp_ge (tgt := 24) hx hb dX12_earliest_4 (by decide) (fun c2 => ?_) (fun c2 => ?_)
  · replace hm := if_t c2 hm
    exact X1_1 _ (hE _ (Option.some.inj hm).symm).symm H locs ls hP hD hS (lv_sub hl [0] rfl)
  · replace hm := if_f c2 hm
    refine lv_aload_n hx hb dX12_earliest_7 rfl (lv_at hl 0 rfl) ?_
    refine lv_iload_n hx hb dX12_earliest_8 rfl (lv_at hl 3 rfl) ?_
    refine lv_iload_n hx hb dX12_earliest_9 rfl (lv_at hl 1 rfl) ?_
    replace hm := bd_some hm
    obtain ⟨e3, hc3, hm⟩ := hm
    refine kV_i (rest := []) (ws' := (w_X12_earliest cI aM aM_s aM_ke aM_te aM_re aM_bo aM_bn aM_sh aM_in aM_su aM_gr aM_tr aM_ou aM_ro M_s M_km M_n M_be M_ma M_so M_om)) S (c_X12_doesCite l D cI cJ cZ cS aM aM_s aM_ke aM_te aM_re aM_bo aM_bn aM_sh aM_in aM_su aM_gr aM_tr aM_ou aM_ro M_s M_km M_n M_be M_ma M_so M_om st2 x1 e3 hc3) k1 hK hP hD hS hA 0 rfl rfl rfl rfl hl.1 rfl (Nat.le_of_ble_eq_true rfl) ⟨Nat.zero_le _, Nat.zero_le _⟩ dX12_earliest_10 [0, 1] rfl rfl wa_X12_doesCite (sa_eq [] [] 2 rfl rfl rfl rfl rfl rfl rfl) (fun H locs hP hD hS => ?_)
    refine lv_if_eq (tgt := 18) hx hb dX12_earliest_13 (by decide) (fun c4 => ?_) (fun c4 => ?_)
    · replace hm := if_t c4 hm
      refine lv_iinc (v := (st2 + 1)) (lv' := [(3, .int (st2 + 1)), (0, .ref aM), (1, .int x1), (2, .int x2)]) hx hb dX12_earliest_18 hl (k := 3) rfl rfl (by decide) rfl (fun ls hl => ?_)
      refine lv_goto (tgt := 2) hx hb dX12_earliest_21 (by decide) ?_
      exact hG _ (Option.some.inj hm).symm H locs ls hP hD hS (lv_sub hl [1, 2, 3, 0] rfl)
    · replace hm := if_f c4 hm
      exact X1_0 _ (hE _ (Option.some.inj hm).symm).symm H locs ls hP hD hS (lv_sub hl [0, 3] rfl)
set_option maxHeartbeats 4000000 in
set_option maxRecDepth 100000 in
theorem c_X12_put (l : Launch) (D : va_G) (cI cJ cZ cS : ClassId) (aM aM_s aM_ke aM_te aM_re aM_bo aM_bn aM_sh aM_in aM_su aM_gr aM_tr aM_ou aM_ro : Nat) (M_km : Int32) (M_n : Int32) (M_be : Int32) (M_ma : Int32) (M_so : Int32) (M_ou : Nat → Int32) (M_om : Int32) (x1 : Int32) (o : (Nat → Int32) × Int32) (hm : m_X12_put M_ou M_om x1 = some o) : MV l yX12_put wsX12_put rm_X12_put D (TY cI cJ cZ cS) [.ref aM, .int x1] (w_X12_put cI aM aM_s aM_ke aM_te aM_re aM_bo aM_bn aM_sh aM_in aM_su aM_gr aM_tr aM_ou aM_ro M_km M_n M_be M_ma M_so M_ou M_om) (w_X12_put cI aM aM_s aM_ke aM_te aM_re aM_bo aM_bn aM_sh aM_in aM_su aM_gr aM_tr aM_ou aM_ro M_km M_n M_be M_ma M_so o.1 o.2) := by
  refine MV_of (cc := cX12_put) (maxL := 2) (by decide) rfl (Nat.le_of_ble_eq_true rfl) ?_
  intro p e s m args below meth c A Q ls H locs hx hb hml hts hown hK hA hP hD hS hl hret
  have hown : s.vm.findClass RX12 = some m.cls := hown
  have hKv : va_K D vwCl (TY cI cJ cZ cS) s := hK.1
  have hl : lv_has ls 2 [(0, .ref aM), (1, .int x1)] := hl
  have S : CallFix p m c cX12_put 2 s args wsX12_put RX12 := ⟨hx, hb, hml, hown, hts⟩
  have k1 := hts (.fieldLink RX12 44 "CitationFormatterModel" "out" "[I") (by decide +kernel)
  have k2 : ∀ w ∈ wsX120, w ∈ wsX12_put := by decide +kernel
  have k3 := hts (.fieldLink RX12 206 "CitationFormatterModel" "outMany" "I") (by decide +kernel)
  refine lv_aload_n hx hb dX12_put_0 rfl (lv_at hl 0 rfl) ?_
  refine va_get (D := D) (ci := 12) (v := .ref aM_ou) (C := RX12) (T := TX12) (N := 19) hx hb hts k2 hown hKv hP 0 rfl rfl 16 (by decide) k1 (fun _ h9 => h9) rfl dX12_put_1 ?_
  refine lv_aload_n hx hb dX12_put_4 rfl (lv_at hl 0 rfl) ?_
  refine va_get (D := D) (ci := 12) (v := .int M_om) (C := RX12) (T := TX12) (N := 19) hx hb hts k2 hown hKv hP 0 rfl rfl 17 (by decide) k3 (fun _ h9 => h9) rfl dX12_put_5 ?_
  refine lv_iload_n hx hb dX12_put_8 rfl (lv_at hl 1 rfl) ?_
  replace hm := ck_some hm
  obtain ⟨h1, hm⟩ := hm
  refine va_iast hx hb hKv hP hD hS 1 0 rfl rfl h1 dX12_put_9 (fun H locs hP hD hS => ?_)
  replace hP : va_P D vwCl (w_X12_put cI aM aM_s aM_ke aM_te aM_re aM_bo aM_bn aM_sh aM_in aM_su aM_gr aM_tr aM_ou aM_ro M_km M_n M_be M_ma M_so (upd M_ou (Int32.toNatClampNeg M_om) x1) M_om) H := hP
  replace hD : va_D A (w_X12_put cI aM aM_s aM_ke aM_te aM_re aM_bo aM_bn aM_sh aM_in aM_su aM_gr aM_tr aM_ou aM_ro M_km M_n M_be M_ma M_so (upd M_ou (Int32.toNatClampNeg M_om) x1) M_om) := hD
  refine lv_aload_n hx hb dX12_put_10 rfl (lv_at hl 0 rfl) ?_
  refine lv_dup hx hb dX12_put_11 rfl ?_
  refine va_get (D := D) (ci := 12) (v := .int M_om) (C := RX12) (T := TX12) (N := 19) hx hb hts k2 hown hKv hP 0 rfl rfl 17 (by decide) k3 (fun _ h9 => h9) rfl dX12_put_12 ?_
  refine lv_iconst (v := 1) hx hb dX12_put_15 (by decide) ?_
  refine lv_iadd hx hb dX12_put_16 ?_
  refine va_put (D := D) (ci := 12) (v := .int (M_om + 1)) (ty := .int) (C := RX12) (T := TX12) (N := 19) hx hb hts k2 tyX12 tyX12_ok nmX12 hown hKv hP hD hS 0 rfl rfl 17 (by decide) k3 (fun _ h9 => h9) rfl (by decide +kernel) rfl rfl (Nat.le_of_ble_eq_true rfl) dX12_put_17 (fun H locs hP hD hS => ?_)
  replace hP : va_P D vwCl (w_X12_put cI aM aM_s aM_ke aM_te aM_re aM_bo aM_bn aM_sh aM_in aM_su aM_gr aM_tr aM_ou aM_ro M_km M_n M_be M_ma M_so (upd M_ou (Int32.toNatClampNeg M_om) x1) (M_om + 1)) H := hP
  replace hD : va_D A (w_X12_put cI aM aM_s aM_ke aM_te aM_re aM_bo aM_bn aM_sh aM_in aM_su aM_gr aM_tr aM_ou aM_ro M_km M_n M_be M_ma M_so (upd M_ou (Int32.toNatClampNeg M_om) x1) (M_om + 1)) := hD
  have h9 := Option.some.inj hm
  subst h9
  exact hret H locs _ ls hP hD hS dX12_put_20
set_option maxHeartbeats 4000000 in
set_option maxRecDepth 100000 in
theorem c_X12_placeIn_bn (l : Launch) (D : va_G) (cI cJ cZ cS : ClassId) (aM aM_s aM_ke aM_te aM_re aM_bo aM_bn aM_sh aM_in aM_su aM_gr aM_tr aM_ou aM_ro : Nat) (M_km : Int32) (M_n : Int32) (M_be : Int32) (M_ma : Int32) (M_so : Int32) (M_bn : Nat → Int32) (M_om : Int32) (x2 : Int32) (o : Int32) (hm : m_X12_placeIn_bn M_bn x2 = some o) : MI l yX12_placeIn wsX12_placeIn rm_X12_placeIn_bn D (TY cI cJ cZ cS) [.ref aM, .ref aM_bn, .int x2] (w_X12_placeIn_bn cI aM aM_s aM_ke aM_te aM_re aM_bo aM_bn aM_sh aM_in aM_su aM_gr aM_tr aM_ou aM_ro M_km M_n M_be M_ma M_so M_bn M_om) (w_X12_placeIn_bn cI aM aM_s aM_ke aM_te aM_re aM_bo aM_bn aM_sh aM_in aM_su aM_gr aM_tr aM_ou aM_ro M_km M_n M_be M_ma M_so M_bn M_om) (o) := by
  refine MI_of (cc := cX12_placeIn) (maxL := 4) (by decide) rfl (Nat.le_of_ble_eq_true rfl) ?_
  intro p e s m args below meth c A Q ls H locs hx hb hml hts hown hK hA hP hD hS hl hret
  have hown : s.vm.findClass RX12 = some m.cls := hown
  have hKv : va_K D vwCl (TY cI cJ cZ cS) s := hK.1
  have hl : lv_has ls 4 [(0, .ref aM), (1, .ref aM_bn), (2, .int x2)] := hl
  have S : CallFix p m c cX12_placeIn 4 s args wsX12_placeIn RX12 := ⟨hx, hb, hml, hown, hts⟩
  refine lv_iconst (v := 0) hx hb dX12_placeIn_0 (by decide) ?_
  refine lv_istore_n (lv' := [(3, .int 0), (0, .ref aM), (1, .ref aM_bn), (2, .int x2)]) hx hb dX12_placeIn_1 rfl hl (by decide) rfl (fun ls hl => ?_)
  replace hm := bd_some hm
  obtain ⟨e1, hc1, hm⟩ := hm
  have X1_0 : ∀ (H : Heap) (locs : List Loc) (ls : Array Slot), va_P D vwCl (w_X12_placeIn_bn cI aM aM_s aM_ke aM_te aM_re aM_bo aM_bn aM_sh aM_in aM_su aM_gr aM_tr aM_ou aM_ro M_km M_n M_be M_ma M_so M_bn M_om) H → va_D A (w_X12_placeIn_bn cI aM aM_s aM_ke aM_te aM_re aM_bo aM_bn aM_sh aM_in aM_su aM_gr aM_tr aM_ou aM_ro M_km M_n M_be M_ma M_so M_bn M_om) → va_S A s.heap H locs → lv_has ls 4 [(0, .ref aM), (3, .int e1)] → W p l e rm_X12_placeIn_bn s m args below meth c H locs 0 0 Q (F0 m 15 ls []) := by
    intro H locs ls hP hD hS hl
    refine lv_iload_n hx hb dX12_placeIn_15 rfl (lv_at hl 1 rfl) ?_
    have h9 := Option.some.inj hm
    subst h9
    exact hret H locs _ ls _ hP hD hS rfl dX12_placeIn_16
  refine it_W (G := fun (st2 : Int32) => ∀ (H : Heap) (locs : List Loc) (ls : Array Slot), va_P D vwCl (w_X12_placeIn_bn cI aM aM_s aM_ke aM_te aM_re aM_bo aM_bn aM_sh aM_in aM_su aM_gr aM_tr aM_ou aM_ro M_km M_n M_be M_ma M_so M_bn M_om) H → va_D A (w_X12_placeIn_bn cI aM aM_s aM_ke aM_te aM_re aM_bo aM_bn aM_sh aM_in aM_su aM_gr aM_tr aM_ou aM_ro M_km M_n M_be M_ma M_so M_bn M_om) → va_S A s.heap H locs → lv_has ls 4 [(0, .ref aM), (1, .ref aM_bn), (2, .int x2), (3, .int st2)] → W p l e rm_X12_placeIn_bn s m args below meth c H locs 0 0 Q (F0 m 2 ls [])) (e := e1) (fun st2 x hm hG hE => ?_) fu _ hc1 H locs ls hP hD hS (lv_sub hl [1, 2, 3, 0] rfl)
  intro H locs ls hP hD hS hl
  refine lv_aload_n hx hb dX12_placeIn_2 rfl (lv_at hl 1 rfl) ?_
  refine lv_iload_n hx hb dX12_placeIn_3 rfl (lv_at hl 3 rfl) ?_
  replace hm := ck_some hm
  obtain ⟨h2, hm⟩ := hm
  refine va_iald hx hb hKv hP 1 0 rfl rfl h2 dX12_placeIn_4 ?_
  refine lv_iload_n hx hb dX12_placeIn_5 rfl (lv_at hl 2 rfl) ?_
  refine lv_icmp_eq (tgt := 15) hx hb dX12_placeIn_6 (by decide) (fun c3 => ?_) (fun c3 => ?_)
  · replace hm := if_t c3 hm
    have h9 := hE _ (Option.some.inj hm).symm
    subst h9
    exact X1_0 H locs ls hP hD hS (lv_sub hl [0, 3] rfl)
  · replace hm := if_f c3 hm
    refine lv_iinc (v := (st2 + 1)) (lv' := [(3, .int (st2 + 1)), (0, .ref aM), (1, .ref aM_bn), (2, .int x2)]) hx hb dX12_placeIn_9 hl (k := 3) rfl rfl (by decide) rfl (fun ls hl => ?_)
    refine lv_goto (tgt := 2) hx hb dX12_placeIn_12 (by decide) ?_
    exact hG _ (Option.some.inj hm).symm H locs ls hP hD hS (lv_sub hl [1, 2, 3, 0] rfl)
set_option maxHeartbeats 4000000 in
set_option maxRecDepth 100000 in
theorem c_X12_putAuthors (l : Launch) (D : va_G) (cI cJ cZ cS : ClassId) (aM aM_s aM_ke aM_te aM_re aM_bo aM_bn aM_sh aM_in aM_su aM_gr aM_tr aM_ou aM_ro : Nat) (M_s : Nat → Int32) (M_km : Int32) (M_n : Int32) (M_be : Int32) (M_ma : Int32) (M_so : Int32) (M_ou : Nat → Int32) (M_om : Int32) (x1 : Int32) (x2 : Int32) (x3 : Int32) (o : (Nat → Int32) × Int32) (hm : m_X12_putAuthors M_s M_ou M_om x1 x2 x3 = some o) : MV l yX12_putAuthors wsX12_putAuthors rm_X12_putAuthors D (TY cI cJ cZ cS) [.ref aM, .int x1, .int x2, .int x3] (w_X12_putAuthors cI aM aM_s aM_ke aM_te aM_re aM_bo aM_bn aM_sh aM_in aM_su aM_gr aM_tr aM_ou aM_ro M_s M_km M_n M_be M_ma M_so M_ou M_om) (w_X12_putAuthors cI aM aM_s aM_ke aM_te aM_re aM_bo aM_bn aM_sh aM_in aM_su aM_gr aM_tr aM_ou aM_ro M_s M_km M_n M_be M_ma M_so o.1 o.2) := by
  refine MV_of (cc := cX12_putAuthors) (maxL := 5) (by decide) rfl (Nat.le_of_ble_eq_true rfl) ?_
  intro p e s m args below meth c A Q ls H locs hx hb hml hts hown hK hA hP hD hS hl hret
  have hown : s.vm.findClass RX12 = some m.cls := hown
  have hKv : va_K D vwCl (TY cI cJ cZ cS) s := hK.1
  have hl : lv_has ls 5 [(0, .ref aM), (1, .int x1), (2, .int x2), (3, .int x3)] := hl
  have S : CallFix p m c cX12_putAuthors 5 s args wsX12_putAuthors RX12 := ⟨hx, hb, hml, hown, hts⟩
  have k1 : CallW rm_X12_putAuthors s args RX12 RX12 149 yX12_author cX12_author 3 (some .int) wsX12_author rm_X12_author 0 0 2 := cwV 2 hts gX12_putAuthors_X12_author rfl rfl rfl (by decide +kernel) ⟨Nat.le_of_ble_eq_true rfl, Nat.le_of_ble_eq_true rfl⟩
  have k2 : CallW rm_X12_putAuthors s args RX12 RX12 209 yX12_put cX12_put 2 none wsX12_put rm_X12_put 0 0 1 := cwV 1 hts gX12_putAuthors_X12_put rfl rfl rfl (by decide +kernel) ⟨Nat.le_of_ble_eq_true rfl, Nat.le_of_ble_eq_true rfl⟩
  refine lv_iconst (v := 0) hx hb dX12_putAuthors_0 (by decide) ?_
  refine lv_istore (lv' := [(4, .int 0), (0, .ref aM), (1, .int x1), (2, .int x2), (3, .int x3)]) hx hb dX12_putAuthors_1 hl (by decide) rfl (fun ls hl => ?_)
  replace hm := bd_some hm
  obtain ⟨e1, hc1, hm⟩ := hm
  have X1_0 : ∀ (H : Heap) (locs : List Loc) (ls : Array Slot), va_P D vwCl (w_X12_putAuthors cI aM aM_s aM_ke aM_te aM_re aM_bo aM_bn aM_sh aM_in aM_su aM_gr aM_tr aM_ou aM_ro M_s M_km M_n M_be M_ma M_so e1.1 e1.2) H → va_D A (w_X12_putAuthors cI aM aM_s aM_ke aM_te aM_re aM_bo aM_bn aM_sh aM_in aM_su aM_gr aM_tr aM_ou aM_ro M_s M_km M_n M_be M_ma M_so e1.1 e1.2) → va_S A s.heap H locs → lv_has ls 5 [(0, .ref aM)] → W p l e rm_X12_putAuthors s m args below meth c H locs 0 0 Q (F0 m 64 ls []) := by
    intro H locs ls hP hD hS hl
    have h9 := Option.some.inj hm
    subst h9
    exact hret H locs _ ls hP hD hS dX12_putAuthors_64
  refine it_W (G := fun (st3 : Int32 × (Nat → Int32) × Int32) => ∀ (H : Heap) (locs : List Loc) (ls : Array Slot), va_P D vwCl (w_X12_putAuthors cI aM aM_s aM_ke aM_te aM_re aM_bo aM_bn aM_sh aM_in aM_su aM_gr aM_tr aM_ou aM_ro M_s M_km M_n M_be M_ma M_so st3.2.1 st3.2.2) H → va_D A (w_X12_putAuthors cI aM aM_s aM_ke aM_te aM_re aM_bo aM_bn aM_sh aM_in aM_su aM_gr aM_tr aM_ou aM_ro M_s M_km M_n M_be M_ma M_so st3.2.1 st3.2.2) → va_S A s.heap H locs → lv_has ls 5 [(0, .ref aM), (1, .int x1), (2, .int x2), (3, .int x3), (4, .int st3.1)] → W p l e rm_X12_putAuthors s m args below meth c H locs 0 0 Q (F0 m 3 ls [])) (e := e1) (fun st3 x hm hG hE => ?_) fu _ hc1 H locs ls hP hD hS (lv_sub hl [1, 2, 3, 4, 0] rfl)
  intro H locs ls hP hD hS hl
  have J58 : ∀ (x4_j58 : Int32) (M_ou_j58 : Nat → Int32) (M_om_j58 : Int32), (m_X12_putAuthors_J58 x1 x2 x3 x4_j58 M_ou_j58 M_om_j58 = some x) → ∀ (H : Heap) (locs : List Loc) (ls : Array Slot), va_P D vwCl (w_X12_putAuthors cI aM aM_s aM_ke aM_te aM_re aM_bo aM_bn aM_sh aM_in aM_su aM_gr aM_tr aM_ou aM_ro M_s M_km M_n M_be M_ma M_so M_ou_j58 M_om_j58) H → va_D A (w_X12_putAuthors cI aM aM_s aM_ke aM_te aM_re aM_bo aM_bn aM_sh aM_in aM_su aM_gr aM_tr aM_ou aM_ro M_s M_km M_n M_be M_ma M_so M_ou_j58 M_om_j58) → va_S A s.heap H locs → lv_has ls 5 [(0, .ref aM), (1, .int x1), (2, .int x2), (3, .int x3), (4, .int x4_j58)] → W p l e rm_X12_putAuthors s m args below meth c H locs 0 0 Q (F0 m 58 ls []) := by
    intro x4_j58 M_ou_j58 M_om_j58 hm H locs ls hP hD hS hl
    refine lv_iinc (v := (x4_j58 + 1)) (lv' := [(4, .int (x4_j58 + 1)), (0, .ref aM), (1, .int x1), (2, .int x2), (3, .int x3)]) hx hb dX12_putAuthors_58 hl (k := 4) rfl rfl (by decide) rfl (fun ls hl => ?_)
    refine lv_goto (tgt := 3) hx hb dX12_putAuthors_61 (by decide) ?_
    exact hG _ (Option.some.inj hm).symm H locs ls hP hD hS (lv_sub hl [1, 2, 3, 4, 0] rfl)
  have J20 : ∀ (x4_j20 : Int32) (M_ou_j20 : Nat → Int32) (M_om_j20 : Int32), (m_X12_putAuthors_J20 x1 x2 x3 x4_j20 M_s M_ou_j20 M_om_j20 = some x) → ∀ (H : Heap) (locs : List Loc) (ls : Array Slot), va_P D vwCl (w_X12_putAuthors cI aM aM_s aM_ke aM_te aM_re aM_bo aM_bn aM_sh aM_in aM_su aM_gr aM_tr aM_ou aM_ro M_s M_km M_n M_be M_ma M_so M_ou_j20 M_om_j20) H → va_D A (w_X12_putAuthors cI aM aM_s aM_ke aM_te aM_re aM_bo aM_bn aM_sh aM_in aM_su aM_gr aM_tr aM_ou aM_ro M_s M_km M_n M_be M_ma M_so M_ou_j20 M_om_j20) → va_S A s.heap H locs → lv_has ls 5 [(0, .ref aM), (1, .int x1), (2, .int x2), (3, .int x3), (4, .int x4_j20)] → W p l e rm_X12_putAuthors s m args below meth c H locs 0 0 Q (F0 m 20 ls []) := by
    intro x4_j20 M_ou_j20 M_om_j20 hm H locs ls hP hD hS hl
    refine lv_aload_n hx hb dX12_putAuthors_20 rfl (lv_at hl 0 rfl) ?_
    refine lv_bipush (v := 65) hx hb dX12_putAuthors_21 (by decide) ?_
    refine lv_aload_n hx hb dX12_putAuthors_23 rfl (lv_at hl 0 rfl) ?_
    refine lv_iload_n hx hb dX12_putAuthors_24 rfl (lv_at hl 1 rfl) ?_
    refine lv_iload hx hb dX12_putAuthors_25 (lv_at hl 4 rfl) ?_
    replace hm := bd_some hm
    obtain ⟨e2, hc2, hm⟩ := hm
    refine kV_i (rest := [.int 65, .ref aM]) (ws' := (w_X12_putAuthors cI aM aM_s aM_ke aM_te aM_re aM_bo aM_bn aM_sh aM_in aM_su aM_gr aM_tr aM_ou aM_ro M_s M_km M_n M_be M_ma M_so M_ou_j20 M_om_j20)) S (c_X12_author l D cI cJ cZ cS aM aM_s aM_ke aM_te aM_re aM_bo aM_bn aM_sh aM_in aM_su aM_gr aM_tr aM_ou aM_ro M_s M_km M_n M_be M_ma M_so M_om_j20 x1 x4_j20 e2 hc2) k1 hK hP hD hS hA 0 rfl rfl rfl rfl hl.1 rfl (Nat.le_of_ble_eq_true rfl) ⟨Nat.zero_le _, Nat.zero_le _⟩ dX12_putAuthors_27 [0, 1] rfl rfl wa_X12_author (sa_eq [(aM_ou, .inl (cI, 300, .inl M_ou_j20))] [2] 3 rfl rfl rfl rfl rfl rfl rfl) (fun H locs hP hD hS => ?_)
    refine lv_bipush (v := 26) hx hb dX12_putAuthors_30 (by decide) ?_
    refine lv_idiv hx hb dX12_putAuthors_32 (by decide) ?_
    refine lv_iadd hx hb dX12_putAuthors_33 ?_
    replace hm := bd_some hm
    obtain ⟨e3, hc3, hm⟩ := hm
    refine kV_v (rest := []) (ws' := (w_X12_putAuthors cI aM aM_s aM_ke aM_te aM_re aM_bo aM_bn aM_sh aM_in aM_su aM_gr aM_tr aM_ou aM_ro M_s M_km M_n M_be M_ma M_so e3.1 e3.2)) S (c_X12_put l D cI cJ cZ cS aM aM_s aM_ke aM_te aM_re aM_bo aM_bn aM_sh aM_in aM_su aM_gr aM_tr aM_ou aM_ro M_km M_n M_be M_ma M_so M_ou_j20 M_om_j20 (65 + (e2 / 26)) e3 hc3) k2 hK hP hD hS hA 0 rfl rfl rfl rfl hl.1 rfl (Nat.le_of_ble_eq_true rfl) ⟨Nat.zero_le _, Nat.zero_le _⟩ dX12_putAuthors_34 [0, 2] rfl rfl wa_X12_put (sa_eq [(aM_s, .inl (cI, 131, .inl M_s))] [1] 3 rfl rfl rfl rfl rfl rfl rfl) (fun H locs hP hD hS => ?_)
    refine lv_iload_n hx hb dX12_putAuthors_37 rfl (lv_at hl 3 rfl) ?_
    refine lv_if_eq (tgt := 58) hx hb dX12_putAuthors_38 (by decide) (fun c4 => ?_) (fun c4 => ?_)
    · replace hm := if_t c4 hm
      exact J58 x4_j20 e3.1 e3.2 hm H locs ls hP hD hS (lv_sub hl [0, 1, 2, 3, 4] rfl)
    · replace hm := if_f c4 hm
      refine lv_aload_n hx hb dX12_putAuthors_41 rfl (lv_at hl 0 rfl) ?_
      refine lv_bipush (v := 97) hx hb dX12_putAuthors_42 (by decide) ?_
      refine lv_aload_n hx hb dX12_putAuthors_44 rfl (lv_at hl 0 rfl) ?_
      refine lv_iload_n hx hb dX12_putAuthors_45 rfl (lv_at hl 1 rfl) ?_
      refine lv_iload hx hb dX12_putAuthors_46 (lv_at hl 4 rfl) ?_
      replace hm := bd_some hm
      obtain ⟨e5, hc5, hm⟩ := hm
      refine kV_i (rest := [.int 97, .ref aM]) (ws' := (w_X12_putAuthors cI aM aM_s aM_ke aM_te aM_re aM_bo aM_bn aM_sh aM_in aM_su aM_gr aM_tr aM_ou aM_ro M_s M_km M_n M_be M_ma M_so e3.1 e3.2)) S (c_X12_author l D cI cJ cZ cS aM aM_s aM_ke aM_te aM_re aM_bo aM_bn aM_sh aM_in aM_su aM_gr aM_tr aM_ou aM_ro M_s M_km M_n M_be M_ma M_so e3.2 x1 x4_j20 e5 hc5) k1 hK hP hD hS hA 0 rfl rfl rfl rfl hl.1 rfl (Nat.le_of_ble_eq_true rfl) ⟨Nat.zero_le _, Nat.zero_le _⟩ dX12_putAuthors_48 [0, 1] rfl rfl wa_X12_author (sa_eq [(aM_ou, .inl (cI, 300, .inl e3.1))] [2] 3 rfl rfl rfl rfl rfl rfl rfl) (fun H locs hP hD hS => ?_)
      refine lv_bipush (v := 26) hx hb dX12_putAuthors_51 (by decide) ?_
      refine lv_irem hx hb dX12_putAuthors_53 (by decide) ?_
      refine lv_iadd hx hb dX12_putAuthors_54 ?_
      replace hm := bd_some hm
      obtain ⟨e6, hc6, hm⟩ := hm
      refine kV_v (rest := []) (ws' := (w_X12_putAuthors cI aM aM_s aM_ke aM_te aM_re aM_bo aM_bn aM_sh aM_in aM_su aM_gr aM_tr aM_ou aM_ro M_s M_km M_n M_be M_ma M_so e6.1 e6.2)) S (c_X12_put l D cI cJ cZ cS aM aM_s aM_ke aM_te aM_re aM_bo aM_bn aM_sh aM_in aM_su aM_gr aM_tr aM_ou aM_ro M_km M_n M_be M_ma M_so e3.1 e3.2 (97 + (e5 - e5 / 26 * 26)) e6 hc6) k2 hK hP hD hS hA 0 rfl rfl rfl rfl hl.1 rfl (Nat.le_of_ble_eq_true rfl) ⟨Nat.zero_le _, Nat.zero_le _⟩ dX12_putAuthors_55 [0, 2] rfl rfl wa_X12_put (sa_eq [(aM_s, .inl (cI, 131, .inl M_s))] [1] 3 rfl rfl rfl rfl rfl rfl rfl) (fun H locs hP hD hS => ?_)
      exact J58 x4_j20 e6.1 e6.2 hm H locs ls hP hD hS (lv_sub hl [0, 1, 2, 3, 4] rfl)
  refine lv_iload hx hb dX12_putAuthors_3 (lv_at hl 4 rfl) ?_
  refine lv_iload_n hx hb dX12_putAuthors_5 rfl (lv_at hl 2 rfl) ?_
  refine lv_icmp_ge (tgt := 64) hx hb dX12_putAuthors_6 (by decide) (fun c7 => ?_) (fun c7 => ?_)
  · replace hm := if_t c7 hm
    have h9 := hE _ (Option.some.inj hm).symm
    subst h9
    exact X1_0 H locs ls hP hD hS (lv_sub hl [0] rfl)
  · replace hm := if_f c7 hm
    refine lv_iload hx hb dX12_putAuthors_9 (lv_at hl 4 rfl) ?_
    refine lv_if_le (tgt := 20) hx hb dX12_putAuthors_11 (by decide) (fun c8 => ?_) (fun c8 => ?_)
    · replace hm := if_t c8 hm
      exact J20 st3.1 st3.2.1 st3.2.2 hm H locs ls hP hD hS (lv_sub hl [0, 1, 2, 3, 4] rfl)
    · replace hm := if_f c8 hm
      refine lv_aload_n hx hb dX12_putAuthors_14 rfl (lv_at hl 0 rfl) ?_
      refine lv_bipush (v := 38) hx hb dX12_putAuthors_15 (by decide) ?_
      replace hm := bd_some hm
      obtain ⟨e9, hc9, hm⟩ := hm
      refine kV_v (rest := []) (ws' := (w_X12_putAuthors cI aM aM_s aM_ke aM_te aM_re aM_bo aM_bn aM_sh aM_in aM_su aM_gr aM_tr aM_ou aM_ro M_s M_km M_n M_be M_ma M_so e9.1 e9.2)) S (c_X12_put l D cI cJ cZ cS aM aM_s aM_ke aM_te aM_re aM_bo aM_bn aM_sh aM_in aM_su aM_gr aM_tr aM_ou aM_ro M_km M_n M_be M_ma M_so st3.2.1 st3.2.2 38 e9 hc9) k2 hK hP hD hS hA 0 rfl rfl rfl rfl hl.1 rfl (Nat.le_of_ble_eq_true rfl) ⟨Nat.zero_le _, Nat.zero_le _⟩ dX12_putAuthors_17 [0, 2] rfl rfl wa_X12_put (sa_eq [(aM_s, .inl (cI, 131, .inl M_s))] [1] 3 rfl rfl rfl rfl rfl rfl rfl) (fun H locs hP hD hS => ?_)
      exact J20 st3.1 e9.1 e9.2 hm H locs ls hP hD hS (lv_sub hl [0, 1, 2, 3, 4] rfl)
