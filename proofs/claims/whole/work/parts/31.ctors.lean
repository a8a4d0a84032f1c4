abbrev rm_X9_init : Room := { frames := 1, cells := 5, slots := 88, locals := 12 }
abbrev rm_X6_init : Room := { frames := 1, cells := 2, slots := 6, locals := 12 }
abbrev rm_X1_init : Room := { frames := 1, cells := 2, slots := 60, locals := 12 }
abbrev rm_X7_init : Room := { frames := 2, cells := 12, slots := 172, locals := 32 }
abbrev rm_X8_init : Room := { frames := 1, cells := 1, slots := 150, locals := 12 }
abbrev rm_X10_init : Room := { frames := 2, cells := 6, slots := 94, locals := 32 }
abbrev rm_X4_init : Room := { frames := 1, cells := 0, slots := 0, locals := 12 }
abbrev rm_X0_init : Room := { frames := 1, cells := 3, slots := 24, locals := 12 }
abbrev rm_X3_init : Room := { frames := 1, cells := 5, slots := 40, locals := 12 }
abbrev rm_X5_init : Room := { frames := 1, cells := 2, slots := 105, locals := 12 }
abbrev rm_X12_init : Room := { frames := 1, cells := 13, slots := 1747, locals := 12 }
set_option maxHeartbeats 4000000 in
set_option maxRecDepth 100000 in
theorem c_X4_init (l : Launch) (D : va_G) (cI cJ cZ cS : ClassId) (a p1 : Nat) : MN l yX4_init wsX4_init rm_X4_init D (TY cI cJ cZ cS) [.ref a, .ref p1] [(a, .inr (4, [.int 0, .null, .int 0, .int 0, .int 0]))] (fun u : Nat → Nat => [(a, .inr (4, [.int 0, .ref p1, .int 0, .int 0, .int 0]))]) 0 0 := by
  refine MN_of (cc := cX4_init) (maxL := 2) (by decide) rfl rfl (Nat.le_of_ble_eq_true rfl) ?_
  intro p e s m args below meth c A Q ls H locs hx hb hml hin hts hown hK hA hP hD hS hl hret
  have hown : s.vm.findClass RX4 = some m.cls := hown
  have hKv : va_K D vwCl (TY cI cJ cZ cS) s := hK.1.1
  have hl : lv_has ls 2 [(0, .ref a), (1, .ref p1)] := hl
  have S : CallFix p m c cX4_init 2 s args wsX4_init RX4 := ⟨hx, hb, hml, hown, hts⟩
  have k1 := hts (.fieldLink RX4 9 "CitationFormatter$NumbersReader" "found" "I") (by decide +kernel)
  have k2 : ∀ w ∈ wsX40, w ∈ wsX4_init := by decide +kernel
  have k3 := hts (.fieldLink RX4 15 "CitationFormatter$NumbersReader" "stage" "I") (by decide +kernel)
  have k4 := hts (.fieldLink RX4 18 "CitationFormatter$NumbersReader" "greatest" "I") (by decide +kernel)
  have k5 := hts (.fieldLink RX4 21 "CitationFormatter$NumbersReader" "first" "I") (by decide +kernel)
  have k6 := hts (.fieldLink RX4 24 "CitationFormatter$NumbersReader" "text" "LCitationFormatter$Text;") (by decide +kernel)
  refine lv_aload_n hx hb dX4_init_0 rfl (lv_at hl 0 rfl) ?_
  refine W.objInit hx hb hown (hts (.methodLink RX4 3 objectInit) (by decide +kernel)) (hts (.instanceMethod objectInit) (by decide +kernel)) (hts (.code objectInit ⟨#[0xb1]⟩ 1 none) (by decide +kernel)) rfl (by rw [hml]; exact hl.1) rfl dX4_init_1 (Nat.le_of_ble_eq_true rfl) (Nat.le_of_ble_eq_true rfl) ?_
  refine W.eq (g2 := F0 m 4 ls []) rfl ?_
  refine lv_aload_n hx hb dX4_init_4 rfl (lv_at hl 0 rfl) ?_
  refine lv_iconst (v := 0) hx hb dX4_init_5 (by decide) ?_
  refine va_put (D := D) (ci := 4) (v := .int 0) (ty := .int) (C := RX4) (T := TX4) (N := 5) hx hb hts k2 tyX4 tyX4_ok nmX4 hown hKv hP hD hS 0 rfl rfl 0 (by decide) k1 (fun _ h9 => h9) rfl (by decide +kernel) rfl rfl (Nat.le_of_ble_eq_true rfl) dX4_init_6 (fun H locs hP hD hS => ?_)
  replace hP : va_P D vwCl ([(a, .inr (4, [.int 0, .null, .int 0, .int 0, .int 0]))]) H := hP
  replace hD : va_D A ([(a, .inr (4, [.int 0, .null, .int 0, .int 0, .int 0]))]) := hD
  refine lv_aload_n hx hb dX4_init_9 rfl (lv_at hl 0 rfl) ?_
  refine lv_iconst (v := 0) hx hb dX4_init_10 (by decide) ?_
  refine va_put (D := D) (ci := 4) (v := .int 0) (ty := .int) (C := RX4) (T := TX4) (N := 5) hx hb hts k2 tyX4 tyX4_ok nmX4 hown hKv hP hD hS 0 rfl rfl 2 (by decide) k3 (fun _ h9 => h9) rfl (by decide +kernel) rfl rfl (Nat.le_of_ble_eq_true rfl) dX4_init_11 (fun H locs hP hD hS => ?_)
  replace hP : va_P D vwCl ([(a, .inr (4, [.int 0, .null, .int 0, .int 0, .int 0]))]) H := hP
  replace hD : va_D A ([(a, .inr (4, [.int 0, .null, .int 0, .int 0, .int 0]))]) := hD
  refine lv_aload_n hx hb dX4_init_14 rfl (lv_at hl 0 rfl) ?_
  refine lv_iconst (v := 0) hx hb dX4_init_15 (by decide) ?_
  refine va_put (D := D) (ci := 4) (v := .int 0) (ty := .int) (C := RX4) (T := TX4) (N := 5) hx hb hts k2 tyX4 tyX4_ok nmX4 hown hKv hP hD hS 0 rfl rfl 3 (by decide) k4 (fun _ h9 => h9) rfl (by decide +kernel) rfl rfl (Nat.le_of_ble_eq_true rfl) dX4_init_16 (fun H locs hP hD hS => ?_)
  replace hP : va_P D vwCl ([(a, .inr (4, [.int 0, .null, .int 0, .int 0, .int 0]))]) H := hP
  replace hD : va_D A ([(a, .inr (4, [.int 0, .null, .int 0, .int 0, .int 0]))]) := hD
  refine lv_aload_n hx hb dX4_init_19 rfl (lv_at hl 0 rfl) ?_
  refine lv_iconst (v := 0) hx hb dX4_init_20 (by decide) ?_
  refine va_put (D := D) (ci := 4) (v := .int 0) (ty := .int) (C := RX4) (T := TX4) (N := 5) hx hb hts k2 tyX4 tyX4_ok nmX4 hown hKv hP hD hS 0 rfl rfl 4 (by decide) k5 (fun _ h9 => h9) rfl (by decide +kernel) rfl rfl (Nat.le_of_ble_eq_true rfl) dX4_init_21 (fun H locs hP hD hS => ?_)
  replace hP : va_P D vwCl ([(a, .inr (4, [.int 0, .null, .int 0, .int 0, .int 0]))]) H := hP
  replace hD : va_D A ([(a, .inr (4, [.int 0, .null, .int 0, .int 0, .int 0]))]) := hD
  refine lv_aload_n hx hb dX4_init_24 rfl (lv_at hl 0 rfl) ?_
  refine lv_aload_n hx hb dX4_init_25 rfl (lv_at hl 1 rfl) ?_
  refine va_putF (D := D) (ci := 4) (v := .ref p1) (ty := .object "CitationFormatter$Text") (C := RX4) (T := TX4) (N := 5) hx hb hts k2 tyX4 tyX4_ok nmX4 hown hKv hP hD hS 0 rfl rfl 1 (by decide) k6 (fun _ h9 => h9) rfl hin rfl (by decide +kernel) rfl rfl (Nat.le_of_ble_eq_true rfl) dX4_init_26 (fun H locs hP hD hS => ?_)
  replace hP : va_P D vwCl ([(a, .inr (4, [.int 0, .ref p1, .int 0, .int 0, .int 0]))]) H := hP
  replace hD : va_D A ([(a, .inr (4, [.int 0, .ref p1, .int 0, .int 0, .int 0]))]) := hD
  exact hret H locs _ ls (fun j => ([] : List Nat).getD j 0) hP hD hS dX4_init_29
set_option maxHeartbeats 4000000 in
set_option maxRecDepth 100000 in
theorem c_X8_init (l : Launch) (D : va_G) (cI cJ cZ cS : ClassId) (a : Nat) : MN l yX8_init wsX8_init rm_X8_init D (TY cI cJ cZ cS) [.ref a] [(a, .inr (8, [.null, .int 0]))] (fun u : Nat → Nat => [(a, .inr (8, [.ref (u 0), .int 0])), ((u 0), .inl (cI, 150, .inl (fun _ => 0)))]) 1 150 := by
  refine MN_of (cc := cX8_init) (maxL := 1) (by decide) rfl rfl (Nat.le_of_ble_eq_true rfl) ?_
  intro p e s m args below meth c A Q ls H locs hx hb hml hin hts hown hK hA hP hD hS hl hret
  have hown : s.vm.findClass RX8 = some m.cls := hown
  have hKv : va_K D vwCl (TY cI cJ cZ cS) s := hK.1.1
  have hl : lv_has ls 1 [(0, .ref a)] := hl
  have S : CallFix p m c cX8_init 1 s args wsX8_init RX8 := ⟨hx, hb, hml, hown, hts⟩
  have k1 := hts (.arrayClass .int) (by decide +kernel)
  have k2 := hts (.fieldLink RX8 9 "CitationFormatter$Text" "codes" "[I") (by decide +kernel)
  have k3 : ∀ w ∈ wsX80, w ∈ wsX8_init := by decide +kernel
  have k4 := hts (.fieldLink RX8 15 "CitationFormatter$Text" "length" "I") (by decide +kernel)
  refine lv_aload_n hx hb dX8_init_0 rfl (lv_at hl 0 rfl) ?_
  refine W.objInit hx hb hown (hts (.methodLink RX8 3 objectInit) (by decide +kernel)) (hts (.instanceMethod objectInit) (by decide +kernel)) (hts (.code objectInit ⟨#[0xb1]⟩ 1 none) (by decide +kernel)) rfl (by rw [hml]; exact hl.1) rfl dX8_init_1 (Nat.le_of_ble_eq_true rfl) (Nat.le_of_ble_eq_true rfl) ?_
  refine W.eq (g2 := F0 m 4 ls []) rfl ?_
  refine lv_aload_n hx hb dX8_init_4 rfl (lv_at hl 0 rfl) ?_
  refine lv_sipush (v := 150) hx hb dX8_init_5 (by decide) ?_
  refine va_newa (atype := .int) (ty := .int) (a0 := (150, .inl (fun _ => 0))) (N' := 150) hx hb k1 rfl hKv hP hD hS hA (fun _ => rfl) (by decide) (by decide) (by decide) (Nat.le_of_ble_eq_true rfl) (Nat.le_of_ble_eq_true rfl) dX8_init_8 (fun q1 cA H hKn hP hD hS => ?_)
  obtain rfl := (newI hKn).symm
  replace hP : va_P D vwCl ([(a, .inr (8, [.null, .int 0])), (q1, .inl (cI, 150, .inl (fun _ => 0)))]) H := hP
  replace hD : va_D A ([(a, .inr (8, [.null, .int 0])), (q1, .inl (cI, 150, .inl (fun _ => 0)))]) := hD
  refine W.widen (k := 1) (n := 150) (Nat.le_of_ble_eq_true rfl) (Nat.le_of_ble_eq_true rfl) ?_
  refine va_putF (D := D) (ci := 8) (v := .ref q1) (ty := .array .int) (C := RX8) (T := TX8) (N := 2) hx hb hts k3 tyX8 tyX8_ok nmX8 hown hKv hP hD hS 0 rfl rfl 0 (by decide) k2 (fun _ h9 => h9) rfl hin rfl (by decide +kernel) rfl rfl (Nat.le_of_ble_eq_true rfl) dX8_init_10 (fun H locs hP hD hS => ?_)
  replace hP : va_P D vwCl ([(a, .inr (8, [.ref q1, .int 0])), (q1, .inl (cI, 150, .inl (fun _ => 0)))]) H := hP
  replace hD : va_D A ([(a, .inr (8, [.ref q1, .int 0])), (q1, .inl (cI, 150, .inl (fun _ => 0)))]) := hD
  refine lv_aload_n hx hb dX8_init_13 rfl (lv_at hl 0 rfl) ?_
  refine lv_iconst (v := 0) hx hb dX8_init_14 (by decide) ?_
  refine va_put (D := D) (ci := 8) (v := .int 0) (ty := .int) (C := RX8) (T := TX8) (N := 2) hx hb hts k3 tyX8 tyX8_ok nmX8 hown hKv hP hD hS 0 rfl rfl 1 (by decide) k4 (fun _ h9 => h9) rfl (by decide +kernel) rfl rfl (Nat.le_of_ble_eq_true rfl) dX8_init_15 (fun H locs hP hD hS => ?_)
  replace hP : va_P D vwCl ([(a, .inr (8, [.ref q1, .int 0])), (q1, .inl (cI, 150, .inl (fun _ => 0)))]) H := hP
  replace hD : va_D A ([(a, .inr (8, [.ref q1, .int 0])), (q1, .inl (cI, 150, .inl (fun _ => 0)))]) := hD
  exact hret H locs _ ls (fun j => ([q1] : List Nat).getD j 0) hP hD hS dX8_init_18
set_option maxHeartbeats 4000000 in
set_option maxRecDepth 100000 in
theorem c_X6_init (l : Launch) (D : va_G) (cI cJ cZ cS : ClassId) (a : Nat) : MN l yX6_init wsX6_init rm_X6_init D (TY cI cJ cZ cS) [.ref a] [(a, .inr (6, [.int 0, .int 0, .int 0, .int 0, .int 0, .int 0, .int 0, .null, .null]))] (fun u : Nat → Nat => [(a, .inr (6, [.int 0, .int 3, .int 1, .int 7, .int 0, .int 0, .int 0, .ref (u 0), .ref (u 1)])), ((u 0), .inl (cI, 3, .inl (upd (upd (upd (fun _ => 0) 0 1) 1 2) 2 0))), ((u 1), .inl (cI, 3, .inl (fun _ => 0)))]) 2 6 := by
  refine MN_of (cc := cX6_init) (maxL := 1) (by decide) rfl rfl (Nat.le_of_ble_eq_true rfl) ?_
  intro p e s m args below meth c A Q ls H locs hx hb hml hin hts hown hK hA hP hD hS hl hret
  have hown : s.vm.findClass RX6 = some m.cls := hown
  have hKv : va_K D vwCl (TY cI cJ cZ cS) s := hK.1.1
  have hl : lv_has ls 1 [(0, .ref a)] := hl
  have S : CallFix p m c cX6_init 1 s args wsX6_init RX6 := ⟨hx, hb, hml, hown, hts⟩
  have k1 := hts (.fieldLink RX6 9 "CitationFormatter$Settings" "style" "I") (by decide +kernel)
  have k2 : ∀ w ∈ wsX60, w ∈ wsX6_init := by decide +kernel
  have k3 := hts (.fieldLink RX6 15 "CitationFormatter$Settings" "etAlMinimum" "I") (by decide +kernel)
  have k4 := hts (.fieldLink RX6 18 "CitationFormatter$Settings" "etAlFirst" "I") (by decide +kernel)
  have k5 := hts (.fieldLink RX6 21 "CitationFormatter$Settings" "steps" "I") (by decide +kernel)
  have k6 := hts (.fieldLink RX6 24 "CitationFormatter$Settings" "collapseLevel" "I") (by decide +kernel)
  have k7 := hts (.fieldLink RX6 27 "CitationFormatter$Settings" "numbering" "I") (by decide +kernel)
  have k8 := hts (.fieldLink RX6 30 "CitationFormatter$Settings" "citeOrder" "I") (by decide +kernel)
  have k9 := hts (.arrayClass .int) (by decide +kernel)
  have k10 := hts (.fieldLink RX6 33 "CitationFormatter$Settings" "sortKeys" "[I") (by decide +kernel)
  have k11 := hts (.fieldLink RX6 37 "CitationFormatter$Settings" "sortDirections" "[I") (by decide +kernel)
  refine lv_aload_n hx hb dX6_init_0 rfl (lv_at hl 0 rfl) ?_
  refine W.objInit hx hb hown (hts (.methodLink RX6 3 objectInit) (by decide +kernel)) (hts (.instanceMethod objectInit) (by decide +kernel)) (hts (.code objectInit ⟨#[0xb1]⟩ 1 none) (by decide +kernel)) rfl (by rw [hml]; exact hl.1) rfl dX6_init_1 (Nat.le_of_ble_eq_true rfl) (Nat.le_of_ble_eq_true rfl) ?_
  refine W.eq (g2 := F0 m 4 ls []) rfl ?_
  refine lv_aload_n hx hb dX6_init_4 rfl (lv_at hl 0 rfl) ?_
  refine lv_iconst (v := 0) hx hb dX6_init_5 (by decide) ?_
  refine va_put (D := D) (ci := 6) (v := .int 0) (ty := .int) (C := RX6) (T := TX6) (N := 9) hx hb hts k2 tyX6 tyX6_ok nmX6 hown hKv hP hD hS 0 rfl rfl 0 (by decide) k1 (fun _ h9 => h9) rfl (by decide +kernel) rfl rfl (Nat.le_of_ble_eq_true rfl) dX6_init_6 (fun H locs hP hD hS => ?_)
  replace hP : va_P D vwCl ([(a, .inr (6, [.int 0, .int 0, .int 0, .int 0, .int 0, .int 0, .int 0, .null, .null]))]) H := hP
  replace hD : va_D A ([(a, .inr (6, [.int 0, .int 0, .int 0, .int 0, .int 0, .int 0, .int 0, .null, .null]))]) := hD
  refine lv_aload_n hx hb dX6_init_9 rfl (lv_at hl 0 rfl) ?_
  refine lv_iconst (v := 3) hx hb dX6_init_10 (by decide) ?_
  refine va_put (D := D) (ci := 6) (v := .int 3) (ty := .int) (C := RX6) (T := TX6) (N := 9) hx hb hts k2 tyX6 tyX6_ok nmX6 hown hKv hP hD hS 0 rfl rfl 1 (by decide) k3 (fun _ h9 => h9) rfl (by decide +kernel) rfl rfl (Nat.le_of_ble_eq_true rfl) dX6_init_11 (fun H locs hP hD hS => ?_)
  replace hP : va_P D vwCl ([(a, .inr (6, [.int 0, .int 3, .int 0, .int 0, .int 0, .int 0, .int 0, .null, .null]))]) H := hP
  replace hD : va_D A ([(a, .inr (6, [.int 0, .int 3, .int 0, .int 0, .int 0, .int 0, .int 0, .null, .null]))]) := hD
  refine lv_aload_n hx hb dX6_init_14 rfl (lv_at hl 0 rfl) ?_
  refine lv_iconst (v := 1) hx hb dX6_init_15 (by decide) ?_
  refine va_put (D := D) (ci := 6) (v := .int 1) (ty := .int) (C := RX6) (T := TX6) (N := 9) hx hb hts k2 tyX6 tyX6_ok nmX6 hown hKv hP hD hS 0 rfl rfl 2 (by decide) k4 (fun _ h9 => h9) rfl (by decide +kernel) rfl rfl (Nat.le_of_ble_eq_true rfl) dX6_init_16 (fun H locs hP hD hS => ?_)
  replace hP : va_P D vwCl ([(a, .inr (6, [.int 0, .int 3, .int 1, .int 0, .int 0, .int 0, .int 0, .null, .null]))]) H := hP
  replace hD : va_D A ([(a, .inr (6, [.int 0, .int 3, .int 1, .int 0, .int 0, .int 0, .int 0, .null, .null]))]) := hD
  refine lv_aload_n hx hb dX6_init_19 rfl (lv_at hl 0 rfl) ?_
  refine lv_bipush (v := 7) hx hb dX6_init_20 (by decide) ?_
  refine va_put (D := D) (ci := 6) (v := .int 7) (ty := .int) (C := RX6) (T := TX6) (N := 9) hx hb hts k2 tyX6 tyX6_ok nmX6 hown hKv hP hD hS 0 rfl rfl 3 (by decide) k5 (fun _ h9 => h9) rfl (by decide +kernel) rfl rfl (Nat.le_of_ble_eq_true rfl) dX6_init_22 (fun H locs hP hD hS => ?_)
  replace hP : va_P D vwCl ([(a, .inr (6, [.int 0, .int 3, .int 1, .int 7, .int 0, .int 0, .int 0, .null, .null]))]) H := hP
  replace hD : va_D A ([(a, .inr (6, [.int 0, .int 3, .int 1, .int 7, .int 0, .int 0, .int 0, .null, .null]))]) := hD
  refine lv_aload_n hx hb dX6_init_25 rfl (lv_at hl 0 rfl) ?_
  refine lv_iconst (v := 0) hx hb dX6_init_26 (by decide) ?_
  refine va_put (D := D) (ci := 6) (v := .int 0) (ty := .int) (C := RX6) (T := TX6) (N := 9) hx hb hts k2 tyX6 tyX6_ok nmX6 hown hKv hP hD hS 0 rfl rfl 4 (by decide) k6 (fun _ h9 => h9) rfl (by decide +kernel) rfl rfl (Nat.le_of_ble_eq_true rfl) dX6_init_27 (fun H locs hP hD hS => ?_)
  replace hP : va_P D vwCl ([(a, .inr (6, [.int 0, .int 3, .int 1, .int 7, .int 0, .int 0, .int 0, .null, .null]))]) H := hP
  replace hD : va_D A ([(a, .inr (6, [.int 0, .int 3, .int 1, .int 7, .int 0, .int 0, .int 0, .null, .null]))]) := hD
  refine lv_aload_n hx hb dX6_init_30 rfl (lv_at hl 0 rfl) ?_
  refine lv_iconst (v := 0) hx hb dX6_init_31 (by decide) ?_
  refine va_put (D := D) (ci := 6) (v := .int 0) (ty := .int) (C := RX6) (T := TX6) (N := 9) hx hb hts k2 tyX6 tyX6_ok nmX6 hown hKv hP hD hS 0 rfl rfl 5 (by decide) k7 (fun _ h9 => h9) rfl (by decide +kernel) rfl rfl (Nat.le_of_ble_eq_true rfl) dX6_init_32 (fun H locs hP hD hS => ?_)
  replace hP : va_P D vwCl ([(a, .inr (6, [.int 0, .int 3, .int 1, .int 7, .int 0, .int 0, .int 0, .null, .null]))]) H := hP
  replace hD : va_D A ([(a, .inr (6, [.int 0, .int 3, .int 1, .int 7, .int 0, .int 0, .int 0, .null, .null]))]) := hD
  refine lv_aload_n hx hb dX6_init_35 rfl (lv_at hl 0 rfl) ?_
  refine lv_iconst (v := 0) hx hb dX6_init_36 (by decide) ?_
  refine va_put (D := D) (ci := 6) (v := .int 0) (ty := .int) (C := RX6) (T := TX6) (N := 9) hx hb hts k2 tyX6 tyX6_ok nmX6 hown hKv hP hD hS 0 rfl rfl 6 (by decide) k8 (fun _ h9 => h9) rfl (by decide +kernel) rfl rfl (Nat.le_of_ble_eq_true rfl) dX6_init_37 (fun H locs hP hD hS => ?_)
  replace hP : va_P D vwCl ([(a, .inr (6, [.int 0, .int 3, .int 1, .int 7, .int 0, .int 0, .int 0, .null, .null]))]) H := hP
  replace hD : va_D A ([(a, .inr (6, [.int 0, .int 3, .int 1, .int 7, .int 0, .int 0, .int 0, .null, .null]))]) := hD
  refine lv_aload_n hx hb dX6_init_40 rfl (lv_at hl 0 rfl) ?_
  refine lv_iconst (v := 3) hx hb dX6_init_41 (by decide) ?_
  refine va_newa (atype := .int) (ty := .int) (a0 := (3, .inl (fun _ => 0))) (N' := 3) hx hb k9 rfl hKv hP hD hS hA (fun _ => rfl) (by decide) (by decide) (by decide) (Nat.le_of_ble_eq_true rfl) (Nat.le_of_ble_eq_true rfl) dX6_init_42 (fun q1 cA H hKn hP hD hS => ?_)
  obtain rfl := (newI hKn).symm
  replace hP : va_P D vwCl ([(a, .inr (6, [.int 0, .int 3, .int 1, .int 7, .int 0, .int 0, .int 0, .null, .null])), (q1, .inl (cI, 3, .inl (fun _ => 0)))]) H := hP
  replace hD : va_D A ([(a, .inr (6, [.int 0, .int 3, .int 1, .int 7, .int 0, .int 0, .int 0, .null, .null])), (q1, .inl (cI, 3, .inl (fun _ => 0)))]) := hD
  refine W.widen (k := 1) (n := 3) (Nat.le_of_ble_eq_true rfl) (Nat.le_of_ble_eq_true rfl) ?_
  refine lv_dup hx hb dX6_init_44 rfl ?_
  refine lv_iconst (v := 0) hx hb dX6_init_45 (by decide) ?_
  refine lv_iconst (v := 1) hx hb dX6_init_46 (by decide) ?_
  refine va_iast hx hb hKv hP hD hS 1 0 rfl rfl (show vp_in 0 3 by unfold vp_in; decide) dX6_init_47 (fun H locs hP hD hS => ?_)
  replace hP : va_P D vwCl ([(a, .inr (6, [.int 0, .int 3, .int 1, .int 7, .int 0, .int 0, .int 0, .null, .null])), (q1, .inl (cI, 3, .inl (upd (fun _ => 0) 0 1)))]) H := hP
  replace hD : va_D A ([(a, .inr (6, [.int 0, .int 3, .int 1, .int 7, .int 0, .int 0, .int 0, .null, .null])), (q1, .inl (cI, 3, .inl (upd (fun _ => 0) 0 1)))]) := hD
  refine lv_dup hx hb dX6_init_48 rfl ?_
  refine lv_iconst (v := 1) hx hb dX6_init_49 (by decide) ?_
  refine lv_iconst (v := 2) hx hb dX6_init_50 (by decide) ?_
  refine va_iast hx hb hKv hP hD hS 1 0 rfl rfl (show vp_in 1 3 by unfold vp_in; decide) dX6_init_51 (fun H locs hP hD hS => ?_)
  replace hP : va_P D vwCl ([(a, .inr (6, [.int 0, .int 3, .int 1, .int 7, .int 0, .int 0, .int 0, .null, .null])), (q1, .inl (cI, 3, .inl (upd (upd (fun _ => 0) 0 1) 1 2)))]) H := hP
  replace hD : va_D A ([(a, .inr (6, [.int 0, .int 3, .int 1, .int 7, .int 0, .int 0, .int 0, .null, .null])), (q1, .inl (cI, 3, .inl (upd (upd (fun _ => 0) 0 1) 1 2)))]) := hD
  refine lv_dup hx hb dX6_init_52 rfl ?_
  refine lv_iconst (v := 2) hx hb dX6_init_53 (by decide) ?_
  refine lv_iconst (v := 0) hx hb dX6_init_54 (by decide) ?_
  refine va_iast hx hb hKv hP hD hS 1 0 rfl rfl (show vp_in 2 3 by unfold vp_in; decide) dX6_init_55 (fun H locs hP hD hS => ?_)
  replace hP : va_P D vwCl ([(a, .inr (6, [.int 0, .int 3, .int 1, .int 7, .int 0, .int 0, .int 0, .null, .null])), (q1, .inl (cI, 3, .inl (upd (upd (upd (fun _ => 0) 0 1) 1 2) 2 0)))]) H := hP
  replace hD : va_D A ([(a, .inr (6, [.int 0, .int 3, .int 1, .int 7, .int 0, .int 0, .int 0, .null, .null])), (q1, .inl (cI, 3, .inl (upd (upd (upd (fun _ => 0) 0 1) 1 2) 2 0)))]) := hD
  refine va_putF (D := D) (ci := 6) (v := .ref q1) (ty := .array .int) (C := RX6) (T := TX6) (N := 9) hx hb hts k2 tyX6 tyX6_ok nmX6 hown hKv hP hD hS 0 rfl rfl 7 (by decide) k10 (fun _ h9 => h9) rfl hin rfl (by decide +kernel) rfl rfl (Nat.le_of_ble_eq_true rfl) dX6_init_56 (fun H locs hP hD hS => ?_)
  replace hP : va_P D vwCl ([(a, .inr (6, [.int 0, .int 3, .int 1, .int 7, .int 0, .int 0, .int 0, .ref q1, .null])), (q1, .inl (cI, 3, .inl (upd (upd (upd (fun _ => 0) 0 1) 1 2) 2 0)))]) H := hP
  replace hD : va_D A ([(a, .inr (6, [.int 0, .int 3, .int 1, .int 7, .int 0, .int 0, .int 0, .ref q1, .null])), (q1, .inl (cI, 3, .inl (upd (upd (upd (fun _ => 0) 0 1) 1 2) 2 0)))]) := hD
  refine lv_aload_n hx hb dX6_init_59 rfl (lv_at hl 0 rfl) ?_
  refine lv_iconst (v := 3) hx hb dX6_init_60 (by decide) ?_
  refine va_newa (atype := .int) (ty := .int) (a0 := (3, .inl (fun _ => 0))) (N' := 3) hx hb k9 rfl hKv hP hD hS hA (fun _ => rfl) (by decide) (by decide) (by decide) (Nat.le_of_ble_eq_true rfl) (Nat.le_of_ble_eq_true rfl) dX6_init_61 (fun q2 cA H hKn hP hD hS => ?_)
  obtain rfl := (newI hKn).symm
  replace hP : va_P D vwCl ([(a, .inr (6, [.int 0, .int 3, .int 1, .int 7, .int 0, .int 0, .int 0, .ref q1, .null])), (q1, .inl (cI, 3, .inl (upd (upd (upd (fun _ => 0) 0 1) 1 2) 2 0))), (q2, .inl (cI, 3, .inl (fun _ => 0)))]) H := hP
  replace hD : va_D A ([(a, .inr (6, [.int 0, .int 3, .int 1, .int 7, .int 0, .int 0, .int 0, .ref q1, .null])), (q1, .inl (cI, 3, .inl (upd (upd (upd (fun _ => 0) 0 1) 1 2) 2 0))), (q2, .inl (cI, 3, .inl (fun _ => 0)))]) := hD
  refine W.widen (k := 2) (n := 6) (Nat.le_of_ble_eq_true rfl) (Nat.le_of_ble_eq_true rfl) ?_
  refine va_putF (D := D) (ci := 6) (v := .ref q2) (ty := .array .int) (C := RX6) (T := TX6) (N := 9) hx hb hts k2 tyX6 tyX6_ok nmX6 hown hKv hP hD hS 0 rfl rfl 8 (by decide) k11 (fun _ h9 => h9) rfl hin rfl (by decide +kernel) rfl rfl (Nat.le_of_ble_eq_true rfl) dX6_init_63 (fun H locs hP hD hS => ?_)
  replace hP : va_P D vwCl ([(a, .inr (6, [.int 0, .int 3, .int 1, .int 7, .int 0, .int 0, .int 0, .ref q1, .ref q2])), (q1, .inl (cI, 3, .inl (upd (upd (upd (fun _ => 0) 0 1) 1 2) 2 0))), (q2, .inl (cI, 3, .inl (fun _ => 0)))]) H := hP
  replace hD : va_D A ([(a, .inr (6, [.int 0, .int 3, .int 1, .int 7, .int 0, .int 0, .int 0, .ref q1, .ref q2])), (q1, .inl (cI, 3, .inl (upd (upd (upd (fun _ => 0) 0 1) 1 2) 2 0))), (q2, .inl (cI, 3, .inl (fun _ => 0)))]) := hD
  exact hret H locs _ ls (fun j => ([q1, q2] : List Nat).getD j 0) hP hD hS dX6_init_66
set_option maxHeartbeats 4000000 in
set_option maxRecDepth 100000 in
theorem c_X1_init (l : Launch) (D : va_G) (cI cJ cZ cS : ClassId) (a : Nat) : MN l yX1_init wsX1_init rm_X1_init D (TY cI cJ cZ cS) [.ref a] [(a, .inr (1, [.int 0, .null, .null]))] (fun u : Nat → Nat => [(a, .inr (1, [.int 0, .ref (u 0), .ref (u 1)])), ((u 0), .inl (cI, 10, .inl (fun _ => 0))), ((u 1), .inl (cI, 50, .inl (fun _ => 0)))]) 2 60 := by
  refine MN_of (cc := cX1_init) (maxL := 1) (by decide) rfl rfl (Nat.le_of_ble_eq_true rfl) ?_
  intro p e s m args below meth c A Q ls H locs hx hb hml hin hts hown hK hA hP hD hS hl hret
  have hown : s.vm.findClass RX1 = some m.cls := hown
  have hKv : va_K D vwCl (TY cI cJ cZ cS) s := hK.1.1
  have hl : lv_has ls 1 [(0, .ref a)] := hl
  have S : CallFix p m c cX1_init 1 s args wsX1_init RX1 := ⟨hx, hb, hml, hown, hts⟩
  have k1 := hts (.fieldLink RX1 9 "CitationFormatter$Citations" "count" "I") (by decide +kernel)
  have k2 : ∀ w ∈ wsX10, w ∈ wsX1_init := by decide +kernel
  have k3 := hts (.arrayClass .int) (by decide +kernel)
  have k4 := hts (.fieldLink RX1 15 "CitationFormatter$Citations" "sizes" "[I") (by decide +kernel)
  have k5 := hts (.fieldLink RX1 19 "CitationFormatter$Citations" "cited" "[I") (by decide +kernel)
  refine lv_aload_n hx hb dX1_init_0 rfl (lv_at hl 0 rfl) ?_
  refine W.objInit hx hb hown (hts (.methodLink RX1 3 objectInit) (by decide +kernel)) (hts (.instanceMethod objectInit) (by decide +kernel)) (hts (.code objectInit ⟨#[0xb1]⟩ 1 none) (by decide +kernel)) rfl (by rw [hml]; exact hl.1) rfl dX1_init_1 (Nat.le_of_ble_eq_true rfl) (Nat.le_of_ble_eq_true rfl) ?_
  refine W.eq (g2 := F0 m 4 ls []) rfl ?_
  refine lv_aload_n hx hb dX1_init_4 rfl (lv_at hl 0 rfl) ?_
  refine lv_iconst (v := 0) hx hb dX1_init_5 (by decide) ?_
  refine va_put (D := D) (ci := 1) (v := .int 0) (ty := .int) (C := RX1) (T := TX1) (N := 3) hx hb hts k2 tyX1 tyX1_ok nmX1 hown hKv hP hD hS 0 rfl rfl 0 (by decide) k1 (fun _ h9 => h9) rfl (by decide +kernel) rfl rfl (Nat.le_of_ble_eq_true rfl) dX1_init_6 (fun H locs hP hD hS => ?_)
  replace hP : va_P D vwCl ([(a, .inr (1, [.int 0, .null, .null]))]) H := hP
  replace hD : va_D A ([(a, .inr (1, [.int 0, .null, .null]))]) := hD
  refine lv_aload_n hx hb dX1_init_9 rfl (lv_at hl 0 rfl) ?_
  refine lv_bipush (v := 10) hx hb dX1_init_10 (by decide) ?_
  refine va_newa (atype := .int) (ty := .int) (a0 := (10, .inl (fun _ => 0))) (N' := 10) hx hb k3 rfl hKv hP hD hS hA (fun _ => rfl) (by decide) (by decide) (by decide) (Nat.le_of_ble_eq_true rfl) (Nat.le_of_ble_eq_true rfl) dX1_init_12 (fun q1 cA H hKn hP hD hS => ?_)
  obtain rfl := (newI hKn).symm
  replace hP : va_P D vwCl ([(a, .inr (1, [.int 0, .null, .null])), (q1, .inl (cI, 10, .inl (fun _ => 0)))]) H := hP
  replace hD : va_D A ([(a, .inr (1, [.int 0, .null, .null])), (q1, .inl (cI, 10, .inl (fun _ => 0)))]) := hD
  refine W.widen (k := 1) (n := 10) (Nat.le_of_ble_eq_true rfl) (Nat.le_of_ble_eq_true rfl) ?_
  refine va_putF (D := D) (ci := 1) (v := .ref q1) (ty := .array .int) (C := RX1) (T := TX1) (N := 3) hx hb hts k2 tyX1 tyX1_ok nmX1 hown hKv hP hD hS 0 rfl rfl 1 (by decide) k4 (fun _ h9 => h9) rfl hin rfl (by decide +kernel) rfl rfl (Nat.le_of_ble_eq_true rfl) dX1_init_14 (fun H locs hP hD hS => ?_)
  replace hP : va_P D vwCl ([(a, .inr (1, [.int 0, .ref q1, .null])), (q1, .inl (cI, 10, .inl (fun _ => 0)))]) H := hP
  replace hD : va_D A ([(a, .inr (1, [.int 0, .ref q1, .null])), (q1, .inl (cI, 10, .inl (fun _ => 0)))]) := hD
  refine lv_aload_n hx hb dX1_init_17 rfl (lv_at hl 0 rfl) ?_
  refine lv_bipush (v := 50) hx hb dX1_init_18 (by decide) ?_
  refine va_newa (atype := .int) (ty := .int) (a0 := (50, .inl (fun _ => 0))) (N' := 50) hx hb k3 rfl hKv hP hD hS hA (fun _ => rfl) (by decide) (by decide) (by decide) (Nat.le_of_ble_eq_true rfl) (Nat.le_of_ble_eq_true rfl) dX1_init_20 (fun q2 cA H hKn hP hD hS => ?_)
  obtain rfl := (newI hKn).symm
  replace hP : va_P D vwCl ([(a, .inr (1, [.int 0, .ref q1, .null])), (q1, .inl (cI, 10, .inl (fun _ => 0))), (q2, .inl (cI, 50, .inl (fun _ => 0)))]) H := hP
  replace hD : va_D A ([(a, .inr (1, [.int 0, .ref q1, .null])), (q1, .inl (cI, 10, .inl (fun _ => 0))), (q2, .inl (cI, 50, .inl (fun _ => 0)))]) := hD
  refine W.widen (k := 2) (n := 60) (Nat.le_of_ble_eq_true rfl) (Nat.le_of_ble_eq_true rfl) ?_
  refine va_putF (D := D) (ci := 1) (v := .ref q2) (ty := .array .int) (C := RX1) (T := TX1) (N := 3) hx hb hts k2 tyX1 tyX1_ok nmX1 hown hKv hP hD hS 0 rfl rfl 2 (by decide) k5 (fun _ h9 => h9) rfl hin rfl (by decide +kernel) rfl rfl (Nat.le_of_ble_eq_true rfl) dX1_init_22 (fun H locs hP hD hS => ?_)
  replace hP : va_P D vwCl ([(a, .inr (1, [.int 0, .ref q1, .ref q2])), (q1, .inl (cI, 10, .inl (fun _ => 0))), (q2, .inl (cI, 50, .inl (fun _ => 0)))]) H := hP
  replace hD : va_D A ([(a, .inr (1, [.int 0, .ref q1, .ref q2])), (q1, .inl (cI, 10, .inl (fun _ => 0))), (q2, .inl (cI, 50, .inl (fun _ => 0)))]) := hD
  exact hret H locs _ ls (fun j => ([q1, q2] : List Nat).getD j 0) hP hD hS dX1_init_25
set_option maxHeartbeats 4000000 in
set_option maxRecDepth 100000 in
theorem c_X5_init (l : Launch) (D : va_G) (cI cJ cZ cS : ClassId) (a p1 p2 p3 sW sS sC : Nat) : MN l yX5_init wsX5_init rm_X5_init D (TY cI cJ cZ cS) [.ref a, .ref p1, .ref p2, .ref p3] [(a, .inr (5, [.int 0, .null, .null, .null, .null, .null, .null, .null, .int 0])), (p1, .inr (7, [.ref sW, .ref sS, .ref sC]))] (fun u : Nat → Nat => [(a, .inr (5, [.int 0, .ref (u 0), .ref sW, .ref sS, .ref sC, .ref p2, .ref p3, .ref (u 1), .int 0])), (p1, .inr (7, [.ref sW, .ref sS, .ref sC])), ((u 0), .inl (cI, 100, .inl (fun _ => 0))), ((u 1), .inl (cI, 5, .inl (fun _ => 0)))]) 2 105 := by
  refine MN_of (cc := cX5_init) (maxL := 4) (by decide) rfl rfl (Nat.le_of_ble_eq_true rfl) ?_
  intro p e s m args below meth c A Q ls H locs hx hb hml hin hts hown hK hA hP hD hS hl hret
  have hown : s.vm.findClass RX5 = some m.cls := hown
  have hKv : va_K D vwCl (TY cI cJ cZ cS) s := hK.1.1
  have hl : lv_has ls 4 [(0, .ref a), (1, .ref p1), (2, .ref p2), (3, .ref p3)] := hl
  have S : CallFix p m c cX5_init 4 s args wsX5_init RX5 := ⟨hx, hb, hml, hown, hts⟩
  have k1 := hts (.fieldLink RX5 9 "CitationFormatter$Renderer" "length" "I") (by decide +kernel)
  have k2 : ∀ w ∈ wsX50, w ∈ wsX5_init := by decide +kernel
  have k3 := hts (.arrayClass .int) (by decide +kernel)
  have k4 := hts (.fieldLink RX5 15 "CitationFormatter$Renderer" "line" "[I") (by decide +kernel)
  have k5 := hts (.fieldLink RX5 19 "CitationFormatter$Renderer" "sequence" "[I") (by decide +kernel)
  have k6 := hts (.fieldLink RX5 22 "CitationFormatter$Renderer" "sequenceSize" "I") (by decide +kernel)
  have k7 := hts (.fieldLink RX5 25 "CitationFormatter$State" "works" "LCitationFormatter$Works;") (by decide +kernel)
  have k8 : ∀ w ∈ wsX70, w ∈ wsX5_init := by decide +kernel
  have k9 := hts (.fieldLink RX5 31 "CitationFormatter$Renderer" "works" "LCitationFormatter$Works;") (by decide +kernel)
  have k10 := hts (.fieldLink RX5 32 "CitationFormatter$State" "settings" "LCitationFormatter$Settings;") (by decide +kernel)
  have k11 := hts (.fieldLink RX5 36 "CitationFormatter$Renderer" "settings" "LCitationFormatter$Settings;") (by decide +kernel)
  have k12 := hts (.fieldLink RX5 37 "CitationFormatter$State" "citations" "LCitationFormatter$Citations;") (by decide +kernel)
  have k13 := hts (.fieldLink RX5 41 "CitationFormatter$Renderer" "citations" "LCitationFormatter$Citations;") (by decide +kernel)
  have k14 := hts (.fieldLink RX5 42 "CitationFormatter$Renderer" "arrangement" "LCitationFormatter$Arrangement;") (by decide +kernel)
  have k15 := hts (.fieldLink RX5 46 "CitationFormatter$Renderer" "labels" "LCitationFormatter$Labels;") (by decide +kernel)
  refine lv_aload_n hx hb dX5_init_0 rfl (lv_at hl 0 rfl) ?_
  refine W.objInit hx hb hown (hts (.methodLink RX5 3 objectInit) (by decide +kernel)) (hts (.instanceMethod objectInit) (by decide +kernel)) (hts (.code objectInit ⟨#[0xb1]⟩ 1 none) (by decide +kernel)) rfl (by rw [hml]; exact hl.1) rfl dX5_init_1 (Nat.le_of_ble_eq_true rfl) (Nat.le_of_ble_eq_true rfl) ?_
  refine W.eq (g2 := F0 m 4 ls []) rfl ?_
  refine lv_aload_n hx hb dX5_init_4 rfl (lv_at hl 0 rfl) ?_
  refine lv_iconst (v := 0) hx hb dX5_init_5 (by decide) ?_
  refine va_put (D := D) (ci := 5) (v := .int 0) (ty := .int) (C := RX5) (T := TX5) (N := 9) hx hb hts k2 tyX5 tyX5_ok nmX5 hown hKv hP hD hS 0 rfl rfl 0 (by decide) k1 (fun _ h9 => h9) rfl (by decide +kernel) rfl rfl (Nat.le_of_ble_eq_true rfl) dX5_init_6 (fun H locs hP hD hS => ?_)
  replace hP : va_P D vwCl ([(a, .inr (5, [.int 0, .null, .null, .null, .null, .null, .null, .null, .int 0])), (p1, .inr (7, [.ref sW, .ref sS, .ref sC]))]) H := hP
  replace hD : va_D A ([(a, .inr (5, [.int 0, .null, .null, .null, .null, .null, .null, .null, .int 0])), (p1, .inr (7, [.ref sW, .ref sS, .ref sC]))]) := hD
  refine lv_aload_n hx hb dX5_init_9 rfl (lv_at hl 0 rfl) ?_
  refine lv_bipush (v := 100) hx hb dX5_init_10 (by decide) ?_
  refine va_newa (atype := .int) (ty := .int) (a0 := (100, .inl (fun _ => 0))) (N' := 100) hx hb k3 rfl hKv hP hD hS hA (fun _ => rfl) (by decide) (by decide) (by decide) (Nat.le_of_ble_eq_true rfl) (Nat.le_of_ble_eq_true rfl) dX5_init_12 (fun q1 cA H hKn hP hD hS => ?_)
  obtain rfl := (newI hKn).symm
  replace hP : va_P D vwCl ([(a, .inr (5, [.int 0, .null, .null, .null, .null, .null, .null, .null, .int 0])), (p1, .inr (7, [.ref sW, .ref sS, .ref sC])), (q1, .inl (cI, 100, .inl (fun _ => 0)))]) H := hP
  replace hD : va_D A ([(a, .inr (5, [.int 0, .null, .null, .null, .null, .null, .null, .null, .int 0])), (p1, .inr (7, [.ref sW, .ref sS, .ref sC])), (q1, .inl (cI, 100, .inl (fun _ => 0)))]) := hD
  refine W.widen (k := 1) (n := 100) (Nat.le_of_ble_eq_true rfl) (Nat.le_of_ble_eq_true rfl) ?_
  refine va_putF (D := D) (ci := 5) (v := .ref q1) (ty := .array .int) (C := RX5) (T := TX5) (N := 9) hx hb hts k2 tyX5 tyX5_ok nmX5 hown hKv hP hD hS 0 rfl rfl 1 (by decide) k4 (fun _ h9 => h9) rfl hin rfl (by decide +kernel) rfl rfl (Nat.le_of_ble_eq_true rfl) dX5_init_14 (fun H locs hP hD hS => ?_)
  replace hP : va_P D vwCl ([(a, .inr (5, [.int 0, .ref q1, .null, .null, .null, .null, .null, .null, .int 0])), (p1, .inr (7, [.ref sW, .ref sS, .ref sC])), (q1, .inl (cI, 100, .inl (fun _ => 0)))]) H := hP
  replace hD : va_D A ([(a, .inr (5, [.int 0, .ref q1, .null, .null, .null, .null, .null, .null, .int 0])), (p1, .inr (7, [.ref sW, .ref sS, .ref sC])), (q1, .inl (cI, 100, .inl (fun _ => 0)))]) := hD
  refine lv_aload_n hx hb dX5_init_17 rfl (lv_at hl 0 rfl) ?_
  refine lv_iconst (v := 5) hx hb dX5_init_18 (by decide) ?_
  refine va_newa (atype := .int) (ty := .int) (a0 := (5, .inl (fun _ => 0))) (N' := 5) hx hb k3 rfl hKv hP hD hS hA (fun _ => rfl) (by decide) (by decide) (by decide) (Nat.le_of_ble_eq_true rfl) (Nat.le_of_ble_eq_true rfl) dX5_init_19 (fun q2 cA H hKn hP hD hS => ?_)
  obtain rfl := (newI hKn).symm
  replace hP : va_P D vwCl ([(a, .inr (5, [.int 0, .ref q1, .null, .null, .null, .null, .null, .null, .int 0])), (p1, .inr (7, [.ref sW, .ref sS, .ref sC])), (q1, .inl (cI, 100, .inl (fun _ => 0))), (q2, .inl (cI, 5, .inl (fun _ => 0)))]) H := hP
  replace hD : va_D A ([(a, .inr (5, [.int 0, .ref q1, .null, .null, .null, .null, .null, .null, .int 0])), (p1, .inr (7, [.ref sW, .ref sS, .ref sC])), (q1, .inl (cI, 100, .inl (fun _ => 0))), (q2, .inl (cI, 5, .inl (fun _ => 0)))]) := hD
  refine W.widen (k := 2) (n := 105) (Nat.le_of_ble_eq_true rfl) (Nat.le_of_ble_eq_true rfl) ?_
  refine va_putF (D := D) (ci := 5) (v := .ref q2) (ty := .array .int) (C := RX5) (T := TX5) (N := 9) hx hb hts k2 tyX5 tyX5_ok nmX5 hown hKv hP hD hS 0 rfl rfl 7 (by decide) k5 (fun _ h9 => h9) rfl hin rfl (by decide +kernel) rfl rfl (Nat.le_of_ble_eq_true rfl) dX5_init_21 (fun H locs hP hD hS => ?_)
  replace hP : va_P D vwCl ([(a, .inr (5, [.int 0, .ref q1, .null, .null, .null, .null, .null, .ref q2, .int 0])), (p1, .inr (7, [.ref sW, .ref sS, .ref sC])), (q1, .inl (cI, 100, .inl (fun _ => 0))), (q2, .inl (cI, 5, .inl (fun _ => 0)))]) H := hP
  replace hD : va_D A ([(a, .inr (5, [.int 0, .ref q1, .null, .null, .null, .null, .null, .ref q2, .int 0])), (p1, .inr (7, [.ref sW, .ref sS, .ref sC])), (q1, .inl (cI, 100, .inl (fun _ => 0))), (q2, .inl (cI, 5, .inl (fun _ => 0)))]) := hD
  refine lv_aload_n hx hb dX5_init_24 rfl (lv_at hl 0 rfl) ?_
  refine lv_iconst (v := 0) hx hb dX5_init_25 (by decide) ?_
  refine va_put (D := D) (ci := 5) (v := .int 0) (ty := .int) (C := RX5) (T := TX5) (N := 9) hx hb hts k2 tyX5 tyX5_ok nmX5 hown hKv hP hD hS 0 rfl rfl 8 (by decide) k6 (fun _ h9 => h9) rfl (by decide +kernel) rfl rfl (Nat.le_of_ble_eq_true rfl) dX5_init_26 (fun H locs hP hD hS => ?_)
  replace hP : va_P D vwCl ([(a, .inr (5, [.int 0, .ref q1, .null, .null, .null, .null, .null, .ref q2, .int 0])), (p1, .inr (7, [.ref sW, .ref sS, .ref sC])), (q1, .inl (cI, 100, .inl (fun _ => 0))), (q2, .inl (cI, 5, .inl (fun _ => 0)))]) H := hP
  replace hD : va_D A ([(a, .inr (5, [.int 0, .ref q1, .null, .null, .null, .null, .null, .ref q2, .int 0])), (p1, .inr (7, [.ref sW, .ref sS, .ref sC])), (q1, .inl (cI, 100, .inl (fun _ => 0))), (q2, .inl (cI, 5, .inl (fun _ => 0)))]) := hD
  refine lv_aload_n hx hb dX5_init_29 rfl (lv_at hl 0 rfl) ?_
  refine lv_aload_n hx hb dX5_init_30 rfl (lv_at hl 1 rfl) ?_
  refine va_get (D := D) (ci := 7) (v := .ref sW) (C := RX7) (T := TX7) (N := 3) hx hb hts k8 hown hKv hP 1 rfl rfl 0 (by decide) k7 (fun _ h9 => h9) rfl dX5_init_31 ?_
  refine va_putF (D := D) (ci := 5) (v := .ref sW) (ty := .object "CitationFormatter$Works") (C := RX5) (T := TX5) (N := 9) hx hb hts k2 tyX5 tyX5_ok nmX5 hown hKv hP hD hS 0 rfl rfl 2 (by decide) k9 (fun _ h9 => h9) rfl hin rfl (by decide +kernel) rfl rfl (Nat.le_of_ble_eq_true rfl) dX5_init_34 (fun H locs hP hD hS => ?_)
  replace hP : va_P D vwCl ([(a, .inr (5, [.int 0, .ref q1, .ref sW, .null, .null, .null, .null, .ref q2, .int 0])), (p1, .inr (7, [.ref sW, .ref sS, .ref sC])), (q1, .inl (cI, 100, .inl (fun _ => 0))), (q2, .inl (cI, 5, .inl (fun _ => 0)))]) H := hP
  replace hD : va_D A ([(a, .inr (5, [.int 0, .ref q1, .ref sW, .null, .null, .null, .null, .ref q2, .int 0])), (p1, .inr (7, [.ref sW, .ref sS, .ref sC])), (q1, .inl (cI, 100, .inl (fun _ => 0))), (q2, .inl (cI, 5, .inl (fun _ => 0)))]) := hD
  refine lv_aload_n hx hb dX5_init_37 rfl (lv_at hl 0 rfl) ?_
  refine lv_aload_n hx hb dX5_init_38 rfl (lv_at hl 1 rfl) ?_
  refine va_get (D := D) (ci := 7) (v := .ref sS) (C := RX7) (T := TX7) (N := 3) hx hb hts k8 hown hKv hP 1 rfl rfl 1 (by decide) k10 (fun _ h9 => h9) rfl dX5_init_39 ?_
  refine va_putF (D := D) (ci := 5) (v := .ref sS) (ty := .object "CitationFormatter$Settings") (C := RX5) (T := TX5) (N := 9) hx hb hts k2 tyX5 tyX5_ok nmX5 hown hKv hP hD hS 0 rfl rfl 3 (by decide) k11 (fun _ h9 => h9) rfl hin rfl (by decide +kernel) rfl rfl (Nat.le_of_ble_eq_true rfl) dX5_init_42 (fun H locs hP hD hS => ?_)
  replace hP : va_P D vwCl ([(a, .inr (5, [.int 0, .ref q1, .ref sW, .ref sS, .null, .null, .null, .ref q2, .int 0])), (p1, .inr (7, [.ref sW, .ref sS, .ref sC])), (q1, .inl (cI, 100, .inl (fun _ => 0))), (q2, .inl (cI, 5, .inl (fun _ => 0)))]) H := hP
  replace hD : va_D A ([(a, .inr (5, [.int 0, .ref q1, .ref sW, .ref sS, .null, .null, .null, .ref q2, .int 0])), (p1, .inr (7, [.ref sW, .ref sS, .ref sC])), (q1, .inl (cI, 100, .inl (fun _ => 0))), (q2, .inl (cI, 5, .inl (fun _ => 0)))]) := hD
  refine lv_aload_n hx hb dX5_init_45 rfl (lv_at hl 0 rfl) ?_
  refine lv_aload_n hx hb dX5_init_46 rfl (lv_at hl 1 rfl) ?_
  refine va_get (D := D) (ci := 7) (v := .ref sC) (C := RX7) (T := TX7) (N := 3) hx hb hts k8 hown hKv hP 1 rfl rfl 2 (by decide) k12 (fun _ h9 => h9) rfl dX5_init_47 ?_
  refine va_putF (D := D) (ci := 5) (v := .ref sC) (ty := .object "CitationFormatter$Citations") (C := RX5) (T := TX5) (N := 9) hx hb hts k2 tyX5 tyX5_ok nmX5 hown hKv hP hD hS 0 rfl rfl 4 (by decide) k13 (fun _ h9 => h9) rfl hin rfl (by decide +kernel) rfl rfl (Nat.le_of_ble_eq_true rfl) dX5_init_50 (fun H locs hP hD hS => ?_)
  replace hP : va_P D vwCl ([(a, .inr (5, [.int 0, .ref q1, .ref sW, .ref sS, .ref sC, .null, .null, .ref q2, .int 0])), (p1, .inr (7, [.ref sW, .ref sS, .ref sC])), (q1, .inl (cI, 100, .inl (fun _ => 0))), (q2, .inl (cI, 5, .inl (fun _ => 0)))]) H := hP
  replace hD : va_D A ([(a, .inr (5, [.int 0, .ref q1, .ref sW, .ref sS, .ref sC, .null, .null, .ref q2, .int 0])), (p1, .inr (7, [.ref sW, .ref sS, .ref sC])), (q1, .inl (cI, 100, .inl (fun _ => 0))), (q2, .inl (cI, 5, .inl (fun _ => 0)))]) := hD
  refine lv_aload_n hx hb dX5_init_53 rfl (lv_at hl 0 rfl) ?_
  refine lv_aload_n hx hb dX5_init_54 rfl (lv_at hl 2 rfl) ?_
  refine va_putF (D := D) (ci := 5) (v := .ref p2) (ty := .object "CitationFormatter$Arrangement") (C := RX5) (T := TX5) (N := 9) hx hb hts k2 tyX5 tyX5_ok nmX5 hown hKv hP hD hS 0 rfl rfl 5 (by decide) k14 (fun _ h9 => h9) rfl hin rfl (by decide +kernel) rfl rfl (Nat.le_of_ble_eq_true rfl) dX5_init_55 (fun H locs hP hD hS => ?_)
  replace hP : va_P D vwCl ([(a, .inr (5, [.int 0, .ref q1, .ref sW, .ref sS, .ref sC, .ref p2, .null, .ref q2, .int 0])), (p1, .inr (7, [.ref sW, .ref sS, .ref sC])), (q1, .inl (cI, 100, .inl (fun _ => 0))), (q2, .inl (cI, 5, .inl (fun _ => 0)))]) H := hP
  replace hD : va_D A ([(a, .inr (5, [.int 0, .ref q1, .ref sW, .ref sS, .ref sC, .ref p2, .null, .ref q2, .int 0])), (p1, .inr (7, [.ref sW, .ref sS, .ref sC])), (q1, .inl (cI, 100, .inl (fun _ => 0))), (q2, .inl (cI, 5, .inl (fun _ => 0)))]) := hD
  refine lv_aload_n hx hb dX5_init_58 rfl (lv_at hl 0 rfl) ?_
  refine lv_aload_n hx hb dX5_init_59 rfl (lv_at hl 3 rfl) ?_
  refine va_putF (D := D) (ci := 5) (v := .ref p3) (ty := .object "CitationFormatter$Labels") (C := RX5) (T := TX5) (N := 9) hx hb hts k2 tyX5 tyX5_ok nmX5 hown hKv hP hD hS 0 rfl rfl 6 (by decide) k15 (fun _ h9 => h9) rfl hin rfl (by decide +kernel) rfl rfl (Nat.le_of_ble_eq_true rfl) dX5_init_60 (fun H locs hP hD hS => ?_)
  replace hP : va_P D vwCl ([(a, .inr (5, [.int 0, .ref q1, .ref sW, .ref sS, .ref sC, .ref p2, .ref p3, .ref q2, .int 0])), (p1, .inr (7, [.ref sW, .ref sS, .ref sC])), (q1, .inl (cI, 100, .inl (fun _ => 0))), (q2, .inl (cI, 5, .inl (fun _ => 0)))]) H := hP
  replace hD : va_D A ([(a, .inr (5, [.int 0, .ref q1, .ref sW, .ref sS, .ref sC, .ref p2, .ref p3, .ref q2, .int 0])), (p1, .inr (7, [.ref sW, .ref sS, .ref sC])), (q1, .inl (cI, 100, .inl (fun _ => 0))), (q2, .inl (cI, 5, .inl (fun _ => 0)))]) := hD
  exact hret H locs _ ls (fun j => ([q1, q2] : List Nat).getD j 0) hP hD hS dX5_init_63
set_option maxHeartbeats 4000000 in
set_option maxRecDepth 100000 in
theorem c_X0_init (l : Launch) (D : va_G) (cI cJ cZ cS : ClassId) (a p1 sW sS sC : Nat) : MN l yX0_init wsX0_init rm_X0_init D (TY cI cJ cZ cS) [.ref a, .ref p1] [(a, .inr (0, [.null, .null, .null, .null, .null, .null])), (p1, .inr (7, [.ref sW, .ref sS, .ref sC]))] (fun u : Nat → Nat => [(a, .inr (0, [.ref (u 0), .ref (u 1), .ref (u 2), .ref sW, .ref sS, .ref sC])), (p1, .inr (7, [.ref sW, .ref sS, .ref sC])), ((u 0), .inl (cI, 8, .inl (fun _ => 0))), ((u 1), .inl (cI, 8, .inl (fun _ => 0))), ((u 2), .inl (cI, 8, .inl (fun _ => 0)))]) 3 24 := by
  refine MN_of (cc := cX0_init) (maxL := 2) (by decide) rfl rfl (Nat.le_of_ble_eq_true rfl) ?_
  intro p e s m args below meth c A Q ls H locs hx hb hml hin hts hown hK hA hP hD hS hl hret
  have hown : s.vm.findClass RX0 = some m.cls := hown
  have hKv : va_K D vwCl (TY cI cJ cZ cS) s := hK.1.1
  have hl : lv_has ls 2 [(0, .ref a), (1, .ref p1)] := hl
  have S : CallFix p m c cX0_init 2 s args wsX0_init RX0 := ⟨hx, hb, hml, hown, hts⟩
  have k1 := hts (.arrayClass .int) (by decide +kernel)
  have k2 := hts (.fieldLink RX0 9 "CitationFormatter$Arrangement" "order" "[I") (by decide +kernel)
  have k3 : ∀ w ∈ wsX00, w ∈ wsX0_init := by decide +kernel
  have k4 := hts (.fieldLink RX0 15 "CitationFormatter$Arrangement" "numbers" "[I") (by decide +kernel)
  have k5 := hts (.fieldLink RX0 18 "CitationFormatter$Arrangement" "listing" "[I") (by decide +kernel)
  have k6 := hts (.fieldLink RX0 21 "CitationFormatter$State" "works" "LCitationFormatter$Works;") (by decide +kernel)
  have k7 : ∀ w ∈ wsX70, w ∈ wsX0_init := by decide +kernel
  have k8 := hts (.fieldLink RX0 27 "CitationFormatter$Arrangement" "works" "LCitationFormatter$Works;") (by decide +kernel)
  have k9 := hts (.fieldLink RX0 28 "CitationFormatter$State" "settings" "LCitationFormatter$Settings;") (by decide +kernel)
  have k10 := hts (.fieldLink RX0 32 "CitationFormatter$Arrangement" "settings" "LCitationFormatter$Settings;") (by decide +kernel)
  have k11 := hts (.fieldLink RX0 33 "CitationFormatter$State" "citations" "LCitationFormatter$Citations;") (by decide +kernel)
  have k12 := hts (.fieldLink RX0 37 "CitationFormatter$Arrangement" "citations" "LCitationFormatter$Citations;") (by decide +kernel)
  refine lv_aload_n hx hb dX0_init_0 rfl (lv_at hl 0 rfl) ?_
  refine W.objInit hx hb hown (hts (.methodLink RX0 3 objectInit) (by decide +kernel)) (hts (.instanceMethod objectInit) (by decide +kernel)) (hts (.code objectInit ⟨#[0xb1]⟩ 1 none) (by decide +kernel)) rfl (by rw [hml]; exact hl.1) rfl dX0_init_1 (Nat.le_of_ble_eq_true rfl) (Nat.le_of_ble_eq_true rfl) ?_
  refine W.eq (g2 := F0 m 4 ls []) rfl ?_
  refine lv_aload_n hx hb dX0_init_4 rfl (lv_at hl 0 rfl) ?_
  refine lv_bipush (v := 8) hx hb dX0_init_5 (by decide) ?_
  refine va_newa (atype := .int) (ty := .int) (a0 := (8, .inl (fun _ => 0))) (N' := 8) hx hb k1 rfl hKv hP hD hS hA (fun _ => rfl) (by decide) (by decide) (by decide) (Nat.le_of_ble_eq_true rfl) (Nat.le_of_ble_eq_true rfl) dX0_init_7 (fun q1 cA H hKn hP hD hS => ?_)
  obtain rfl := (newI hKn).symm
  replace hP : va_P D vwCl ([(a, .inr (0, [.null, .null, .null, .null, .null, .null])), (p1, .inr (7, [.ref sW, .ref sS, .ref sC])), (q1, .inl (cI, 8, .inl (fun _ => 0)))]) H := hP
  replace hD : va_D A ([(a, .inr (0, [.null, .null, .null, .null, .null, .null])), (p1, .inr (7, [.ref sW, .ref sS, .ref sC])), (q1, .inl (cI, 8, .inl (fun _ => 0)))]) := hD
  refine W.widen (k := 1) (n := 8) (Nat.le_of_ble_eq_true rfl) (Nat.le_of_ble_eq_true rfl) ?_
  refine va_putF (D := D) (ci := 0) (v := .ref q1) (ty := .array .int) (C := RX0) (T := TX0) (N := 6) hx hb hts k3 tyX0 tyX0_ok nmX0 hown hKv hP hD hS 0 rfl rfl 0 (by decide) k2 (fun _ h9 => h9) rfl hin rfl (by decide +kernel) rfl rfl (Nat.le_of_ble_eq_true rfl) dX0_init_9 (fun H locs hP hD hS => ?_)
  replace hP : va_P D vwCl ([(a, .inr (0, [.ref q1, .null, .null, .null, .null, .null])), (p1, .inr (7, [.ref sW, .ref sS, .ref sC])), (q1, .inl (cI, 8, .inl (fun _ => 0)))]) H := hP
  replace hD : va_D A ([(a, .inr (0, [.ref q1, .null, .null, .null, .null, .null])), (p1, .inr (7, [.ref sW, .ref sS, .ref sC])), (q1, .inl (cI, 8, .inl (fun _ => 0)))]) := hD
  refine lv_aload_n hx hb dX0_init_12 rfl (lv_at hl 0 rfl) ?_
  refine lv_bipush (v := 8) hx hb dX0_init_13 (by decide) ?_
  refine va_newa (atype := .int) (ty := .int) (a0 := (8, .inl (fun _ => 0))) (N' := 8) hx hb k1 rfl hKv hP hD hS hA (fun _ => rfl) (by decide) (by decide) (by decide) (Nat.le_of_ble_eq_true rfl) (Nat.le_of_ble_eq_true rfl) dX0_init_15 (fun q2 cA H hKn hP hD hS => ?_)
  obtain rfl := (newI hKn).symm
  replace hP : va_P D vwCl ([(a, .inr (0, [.ref q1, .null, .null, .null, .null, .null])), (p1, .inr (7, [.ref sW, .ref sS, .ref sC])), (q1, .inl (cI, 8, .inl (fun _ => 0))), (q2, .inl (cI, 8, .inl (fun _ => 0)))]) H := hP
  replace hD : va_D A ([(a, .inr (0, [.ref q1, .null, .null, .null, .null, .null])), (p1, .inr (7, [.ref sW, .ref sS, .ref sC])), (q1, .inl (cI, 8, .inl (fun _ => 0))), (q2, .inl (cI, 8, .inl (fun _ => 0)))]) := hD
  refine W.widen (k := 2) (n := 16) (Nat.le_of_ble_eq_true rfl) (Nat.le_of_ble_eq_true rfl) ?_
  refine va_putF (D := D) (ci := 0) (v := .ref q2) (ty := .array .int) (C := RX0) (T := TX0) (N := 6) hx hb hts k3 tyX0 tyX0_ok nmX0 hown hKv hP hD hS 0 rfl rfl 1 (by decide) k4 (fun _ h9 => h9) rfl hin rfl (by decide +kernel) rfl rfl (Nat.le_of_ble_eq_true rfl) dX0_init_17 (fun H locs hP hD hS => ?_)
  replace hP : va_P D vwCl ([(a, .inr (0, [.ref q1, .ref q2, .null, .null, .null, .null])), (p1, .inr (7, [.ref sW, .ref sS, .ref sC])), (q1, .inl (cI, 8, .inl (fun _ => 0))), (q2, .inl (cI, 8, .inl (fun _ => 0)))]) H := hP
  replace hD : va_D A ([(a, .inr (0, [.ref q1, .ref q2, .null, .null, .null, .null])), (p1, .inr (7, [.ref sW, .ref sS, .ref sC])), (q1, .inl (cI, 8, .inl (fun _ => 0))), (q2, .inl (cI, 8, .inl (fun _ => 0)))]) := hD
  refine lv_aload_n hx hb dX0_init_20 rfl (lv_at hl 0 rfl) ?_
  refine lv_bipush (v := 8) hx hb dX0_init_21 (by decide) ?_
  refine va_newa (atype := .int) (ty := .int) (a0 := (8, .inl (fun _ => 0))) (N' := 8) hx hb k1 rfl hKv hP hD hS hA (fun _ => rfl) (by decide) (by decide) (by decide) (Nat.le_of_ble_eq_true rfl) (Nat.le_of_ble_eq_true rfl) dX0_init_23 (fun q3 cA H hKn hP hD hS => ?_)
  obtain rfl := (newI hKn).symm
  replace hP : va_P D vwCl ([(a, .inr (0, [.ref q1, .ref q2, .null, .null, .null, .null])), (p1, .inr (7, [.ref sW, .ref sS, .ref sC])), (q1, .inl (cI, 8, .inl (fun _ => 0))), (q2, .inl (cI, 8, .inl (fun _ => 0))), (q3, .inl (cI, 8, .inl (fun _ => 0)))]) H := hP
  replace hD : va_D A ([(a, .inr (0, [.ref q1, .ref q2, .null, .null, .null, .null])), (p1, .inr (7, [.ref sW, .ref sS, .ref sC])), (q1, .inl (cI, 8, .inl (fun _ => 0))), (q2, .inl (cI, 8, .inl (fun _ => 0))), (q3, .inl (cI, 8, .inl (fun _ => 0)))]) := hD
  refine W.widen (k := 3) (n := 24) (Nat.le_of_ble_eq_true rfl) (Nat.le_of_ble_eq_true rfl) ?_
  refine va_putF (D := D) (ci := 0) (v := .ref q3) (ty := .array .int) (C := RX0) (T := TX0) (N := 6) hx hb hts k3 tyX0 tyX0_ok nmX0 hown hKv hP hD hS 0 rfl rfl 2 (by decide) k5 (fun _ h9 => h9) rfl hin rfl (by decide +kernel) rfl rfl (Nat.le_of_ble_eq_true rfl) dX0_init_25 (fun H locs hP hD hS => ?_)
  replace hP : va_P D vwCl ([(a, .inr (0, [.ref q1, .ref q2, .ref q3, .null, .null, .null])), (p1, .inr (7, [.ref sW, .ref sS, .ref sC])), (q1, .inl (cI, 8, .inl (fun _ => 0))), (q2, .inl (cI, 8, .inl (fun _ => 0))), (q3, .inl (cI, 8, .inl (fun _ => 0)))]) H := hP
  replace hD : va_D A ([(a, .inr (0, [.ref q1, .ref q2, .ref q3, .null, .null, .null])), (p1, .inr (7, [.ref sW, .ref sS, .ref sC])), (q1, .inl (cI, 8, .inl (fun _ => 0))), (q2, .inl (cI, 8, .inl (fun _ => 0))), (q3, .inl (cI, 8, .inl (fun _ => 0)))]) := hD
  refine lv_aload_n hx hb dX0_init_28 rfl (lv_at hl 0 rfl) ?_
  refine lv_aload_n hx hb dX0_init_29 rfl (lv_at hl 1 rfl) ?_
  refine va_get (D := D) (ci := 7) (v := .ref sW) (C := RX7) (T := TX7) (N := 3) hx hb hts k7 hown hKv hP 1 rfl rfl 0 (by decide) k6 (fun _ h9 => h9) rfl dX0_init_30 ?_
  refine va_putF (D := D) (ci := 0) (v := .ref sW) (ty := .object "CitationFormatter$Works") (C := RX0) (T := TX0) (N := 6) hx hb hts k3 tyX0 tyX0_ok nmX0 hown hKv hP hD hS 0 rfl rfl 3 (by decide) k8 (fun _ h9 => h9) rfl hin rfl (by decide +kernel) rfl rfl (Nat.le_of_ble_eq_true rfl) dX0_init_33 (fun H locs hP hD hS => ?_)
  replace hP : va_P D vwCl ([(a, .inr (0, [.ref q1, .ref q2, .ref q3, .ref sW, .null, .null])), (p1, .inr (7, [.ref sW, .ref sS, .ref sC])), (q1, .inl (cI, 8, .inl (fun _ => 0))), (q2, .inl (cI, 8, .inl (fun _ => 0))), (q3, .inl (cI, 8, .inl (fun _ => 0)))]) H := hP
  replace hD : va_D A ([(a, .inr (0, [.ref q1, .ref q2, .ref q3, .ref sW, .null, .null])), (p1, .inr (7, [.ref sW, .ref sS, .ref sC])), (q1, .inl (cI, 8, .inl (fun _ => 0))), (q2, .inl (cI, 8, .inl (fun _ => 0))), (q3, .inl (cI, 8, .inl (fun _ => 0)))]) := hD
  refine lv_aload_n hx hb dX0_init_36 rfl (lv_at hl 0 rfl) ?_
  refine lv_aload_n hx hb dX0_init_37 rfl (lv_at hl 1 rfl) ?_
  refine va_get (D := D) (ci := 7) (v := .ref sS) (C := RX7) (T := TX7) (N := 3) hx hb hts k7 hown hKv hP 1 rfl rfl 1 (by decide) k9 (fun _ h9 => h9) rfl dX0_init_38 ?_
  refine va_putF (D := D) (ci := 0) (v := .ref sS) (ty := .object "CitationFormatter$Settings") (C := RX0) (T := TX0) (N := 6) hx hb hts k3 tyX0 tyX0_ok nmX0 hown hKv hP hD hS 0 rfl rfl 4 (by decide) k10 (fun _ h9 => h9) rfl hin rfl (by decide +kernel) rfl rfl (Nat.le_of_ble_eq_true rfl) dX0_init_41 (fun H locs hP hD hS => ?_)
  replace hP : va_P D vwCl ([(a, .inr (0, [.ref q1, .ref q2, .ref q3, .ref sW, .ref sS, .null])), (p1, .inr (7, [.ref sW, .ref sS, .ref sC])), (q1, .inl (cI, 8, .inl (fun _ => 0))), (q2, .inl (cI, 8, .inl (fun _ => 0))), (q3, .inl (cI, 8, .inl (fun _ => 0)))]) H := hP
  replace hD : va_D A ([(a, .inr (0, [.ref q1, .ref q2, .ref q3, .ref sW, .ref sS, .null])), (p1, .inr (7, [.ref sW, .ref sS, .ref sC])), (q1, .inl (cI, 8, .inl (fun _ => 0))), (q2, .inl (cI, 8, .inl (fun _ => 0))), (q3, .inl (cI, 8, .inl (fun _ => 0)))]) := hD
  refine lv_aload_n hx hb dX0_init_44 rfl (lv_at hl 0 rfl) ?_
  refine lv_aload_n hx hb dX0_init_45 rfl (lv_at hl 1 rfl) ?_
  refine va_get (D := D) (ci := 7) (v := .ref sC) (C := RX7) (T := TX7) (N := 3) hx hb hts k7 hown hKv hP 1 rfl rfl 2 (by decide) k11 (fun _ h9 => h9) rfl dX0_init_46 ?_
  refine va_putF (D := D) (ci := 0) (v := .ref sC) (ty := .object "CitationFormatter$Citations") (C := RX0) (T := TX0) (N := 6) hx hb hts k3 tyX0 tyX0_ok nmX0 hown hKv hP hD hS 0 rfl rfl 5 (by decide) k12 (fun _ h9 => h9) rfl hin rfl (by decide +kernel) rfl rfl (Nat.le_of_ble_eq_true rfl) dX0_init_49 (fun H locs hP hD hS => ?_)
  replace hP : va_P D vwCl ([(a, .inr (0, [.ref q1, .ref q2, .ref q3, .ref sW, .ref sS, .ref sC])), (p1, .inr (7, [.ref sW, .ref sS, .ref sC])), (q1, .inl (cI, 8, .inl (fun _ => 0))), (q2, .inl (cI, 8, .inl (fun _ => 0))), (q3, .inl (cI, 8, .inl (fun _ => 0)))]) H := hP
  replace hD : va_D A ([(a, .inr (0, [.ref q1, .ref q2, .ref q3, .ref sW, .ref sS, .ref sC])), (p1, .inr (7, [.ref sW, .ref sS, .ref sC])), (q1, .inl (cI, 8, .inl (fun _ => 0))), (q2, .inl (cI, 8, .inl (fun _ => 0))), (q3, .inl (cI, 8, .inl (fun _ => 0)))]) := hD
  exact hret H locs _ ls (fun j => ([q1, q2, q3] : List Nat).getD j 0) hP hD hS dX0_init_52
set_option maxHeartbeats 4000000 in
set_option maxRecDepth 100000 in
theorem c_X9_init (l : Launch) (D : va_G) (cI cJ cZ cS : ClassId) (a : Nat) : MN l yX9_init wsX9_init rm_X9_init D (TY cI cJ cZ cS) [.ref a] [(a, .inr (9, [.int 0, .null, .null, .null, .null, .null]))] (fun u : Nat → Nat => [(a, .inr (9, [.int 0, .ref (u 0), .ref (u 1), .ref (u 2), .ref (u 3), .ref (u 4)])), ((u 0), .inl (cI, 8, .inl (fun _ => 0))), ((u 1), .inl (cI, 32, .inl (fun _ => 0))), ((u 2), .inl (cI, 32, .inl (fun _ => 0))), ((u 3), .inl (cI, 8, .inl (fun _ => 0))), ((u 4), .inl (cI, 8, .inl (fun _ => 0)))]) 5 88 := by
  refine MN_of (cc := cX9_init) (maxL := 1) (by decide) rfl rfl (Nat.le_of_ble_eq_true rfl) ?_
  intro p e s m args below meth c A Q ls H locs hx hb hml hin hts hown hK hA hP hD hS hl hret
  have hown : s.vm.findClass RX9 = some m.cls := hown
  have hKv : va_K D vwCl (TY cI cJ cZ cS) s := hK.1.1
  have hl : lv_has ls 1 [(0, .ref a)] := hl
  have S : CallFix p m c cX9_init 1 s args wsX9_init RX9 := ⟨hx, hb, hml, hown, hts⟩
  have k1 := hts (.fieldLink RX9 9 "CitationFormatter$Works" "count" "I") (by decide +kernel)
  have k2 : ∀ w ∈ wsX90, w ∈ wsX9_init := by decide +kernel
  have k3 := hts (.arrayClass .int) (by decide +kernel)
  have k4 := hts (.fieldLink RX9 15 "CitationFormatter$Works" "authorCounts" "[I") (by decide +kernel)
  have k5 := hts (.fieldLink RX9 19 "CitationFormatter$Works" "families" "[I") (by decide +kernel)
  have k6 := hts (.fieldLink RX9 22 "CitationFormatter$Works" "initials" "[I") (by decide +kernel)
  have k7 := hts (.fieldLink RX9 25 "CitationFormatter$Works" "years" "[I") (by decide +kernel)
  have k8 := hts (.fieldLink RX9 28 "CitationFormatter$Works" "titles" "[I") (by decide +kernel)
  refine lv_aload_n hx hb dX9_init_0 rfl (lv_at hl 0 rfl) ?_
  refine W.objInit hx hb hown (hts (.methodLink RX9 3 objectInit) (by decide +kernel)) (hts (.instanceMethod objectInit) (by decide +kernel)) (hts (.code objectInit ⟨#[0xb1]⟩ 1 none) (by decide +kernel)) rfl (by rw [hml]; exact hl.1) rfl dX9_init_1 (Nat.le_of_ble_eq_true rfl) (Nat.le_of_ble_eq_true rfl) ?_
  refine W.eq (g2 := F0 m 4 ls []) rfl ?_
  refine lv_aload_n hx hb dX9_init_4 rfl (lv_at hl 0 rfl) ?_
  refine lv_iconst (v := 0) hx hb dX9_init_5 (by decide) ?_
  refine va_put (D := D) (ci := 9) (v := .int 0) (ty := .int) (C := RX9) (T := TX9) (N := 6) hx hb hts k2 tyX9 tyX9_ok nmX9 hown hKv hP hD hS 0 rfl rfl 0 (by decide) k1 (fun _ h9 => h9) rfl (by decide +kernel) rfl rfl (Nat.le_of_ble_eq_true rfl) dX9_init_6 (fun H locs hP hD hS => ?_)
  replace hP : va_P D vwCl ([(a, .inr (9, [.int 0, .null, .null, .null, .null, .null]))]) H := hP
  replace hD : va_D A ([(a, .inr (9, [.int 0, .null, .null, .null, .null, .null]))]) := hD
  refine lv_aload_n hx hb dX9_init_9 rfl (lv_at hl 0 rfl) ?_
  refine lv_bipush (v := 8) hx hb dX9_init_10 (by decide) ?_
  refine va_newa (atype := .int) (ty := .int) (a0 := (8, .inl (fun _ => 0))) (N' := 8) hx hb k3 rfl hKv hP hD hS hA (fun _ => rfl) (by decide) (by decide) (by decide) (Nat.le_of_ble_eq_true rfl) (Nat.le_of_ble_eq_true rfl) dX9_init_12 (fun q1 cA H hKn hP hD hS => ?_)
  obtain rfl := (newI hKn).symm
  replace hP : va_P D vwCl ([(a, .inr (9, [.int 0, .null, .null, .null, .null, .null])), (q1, .inl (cI, 8, .inl (fun _ => 0)))]) H := hP
  replace hD : va_D A ([(a, .inr (9, [.int 0, .null, .null, .null, .null, .null])), (q1, .inl (cI, 8, .inl (fun _ => 0)))]) := hD
  refine W.widen (k := 1) (n := 8) (Nat.le_of_ble_eq_true rfl) (Nat.le_of_ble_eq_true rfl) ?_
  refine va_putF (D := D) (ci := 9) (v := .ref q1) (ty := .array .int) (C := RX9) (T := TX9) (N := 6) hx hb hts k2 tyX9 tyX9_ok nmX9 hown hKv hP hD hS 0 rfl rfl 1 (by decide) k4 (fun _ h9 => h9) rfl hin rfl (by decide +kernel) rfl rfl (Nat.le_of_ble_eq_true rfl) dX9_init_14 (fun H locs hP hD hS => ?_)
  replace hP : va_P D vwCl ([(a, .inr (9, [.int 0, .ref q1, .null, .null, .null, .null])), (q1, .inl (cI, 8, .inl (fun _ => 0)))]) H := hP
  replace hD : va_D A ([(a, .inr (9, [.int 0, .ref q1, .null, .null, .null, .null])), (q1, .inl (cI, 8, .inl (fun _ => 0)))]) := hD
  refine lv_aload_n hx hb dX9_init_17 rfl (lv_at hl 0 rfl) ?_
  refine lv_bipush (v := 32) hx hb dX9_init_18 (by decide) ?_
  refine va_newa (atype := .int) (ty := .int) (a0 := (32, .inl (fun _ => 0))) (N' := 32) hx hb k3 rfl hKv hP hD hS hA (fun _ => rfl) (by decide) (by decide) (by decide) (Nat.le_of_ble_eq_true rfl) (Nat.le_of_ble_eq_true rfl) dX9_init_20 (fun q2 cA H hKn hP hD hS => ?_)
  obtain rfl := (newI hKn).symm
  replace hP : va_P D vwCl ([(a, .inr (9, [.int 0, .ref q1, .null, .null, .null, .null])), (q1, .inl (cI, 8, .inl (fun _ => 0))), (q2, .inl (cI, 32, .inl (fun _ => 0)))]) H := hP
  replace hD : va_D A ([(a, .inr (9, [.int 0, .ref q1, .null, .null, .null, .null])), (q1, .inl (cI, 8, .inl (fun _ => 0))), (q2, .inl (cI, 32, .inl (fun _ => 0)))]) := hD
  refine W.widen (k := 2) (n := 40) (Nat.le_of_ble_eq_true rfl) (Nat.le_of_ble_eq_true rfl) ?_
  refine va_putF (D := D) (ci := 9) (v := .ref q2) (ty := .array .int) (C := RX9) (T := TX9) (N := 6) hx hb hts k2 tyX9 tyX9_ok nmX9 hown hKv hP hD hS 0 rfl rfl 2 (by decide) k5 (fun _ h9 => h9) rfl hin rfl (by decide +kernel) rfl rfl (Nat.le_of_ble_eq_true rfl) dX9_init_22 (fun H locs hP hD hS => ?_)
  replace hP : va_P D vwCl ([(a, .inr (9, [.int 0, .ref q1, .ref q2, .null, .null, .null])), (q1, .inl (cI, 8, .inl (fun _ => 0))), (q2, .inl (cI, 32, .inl (fun _ => 0)))]) H := hP
  replace hD : va_D A ([(a, .inr (9, [.int 0, .ref q1, .ref q2, .null, .null, .null])), (q1, .inl (cI, 8, .inl (fun _ => 0))), (q2, .inl (cI, 32, .inl (fun _ => 0)))]) := hD
  refine lv_aload_n hx hb dX9_init_25 rfl (lv_at hl 0 rfl) ?_
  refine lv_bipush (v := 32) hx hb dX9_init_26 (by decide) ?_
  refine va_newa (atype := .int) (ty := .int) (a0 := (32, .inl (fun _ => 0))) (N' := 32) hx hb k3 rfl hKv hP hD hS hA (fun _ => rfl) (by decide) (by decide) (by decide) (Nat.le_of_ble_eq_true rfl) (Nat.le_of_ble_eq_true rfl) dX9_init_28 (fun q3 cA H hKn hP hD hS => ?_)
  obtain rfl := (newI hKn).symm
  replace hP : va_P D vwCl ([(a, .inr (9, [.int 0, .ref q1, .ref q2, .null, .null, .null])), (q1, .inl (cI, 8, .inl (fun _ => 0))), (q2, .inl (cI, 32, .inl (fun _ => 0))), (q3, .inl (cI, 32, .inl (fun _ => 0)))]) H := hP
  replace hD : va_D A ([(a, .inr (9, [.int 0, .ref q1, .ref q2, .null, .null, .null])), (q1, .inl (cI, 8, .inl (fun _ => 0))), (q2, .inl (cI, 32, .inl (fun _ => 0))), (q3, .inl (cI, 32, .inl (fun _ => 0)))]) := hD
  refine W.widen (k := 3) (n := 72) (Nat.le_of_ble_eq_true rfl) (Nat.le_of_ble_eq_true rfl) ?_
  refine va_putF (D := D) (ci := 9) (v := .ref q3) (ty := .array .int) (C := RX9) (T := TX9) (N := 6) hx hb hts k2 tyX9 tyX9_ok nmX9 hown hKv hP hD hS 0 rfl rfl 3 (by decide) k6 (fun _ h9 => h9) rfl hin rfl (by decide +kernel) rfl rfl (Nat.le_of_ble_eq_true rfl) dX9_init_30 (fun H locs hP hD hS => ?_)
  replace hP : va_P D vwCl ([(a, .inr (9, [.int 0, .ref q1, .ref q2, .ref q3, .null, .null])), (q1, .inl (cI, 8, .inl (fun _ => 0))), (q2, .inl (cI, 32, .inl (fun _ => 0))), (q3, .inl (cI, 32, .inl (fun _ => 0)))]) H := hP
  replace hD : va_D A ([(a, .inr (9, [.int 0, .ref q1, .ref q2, .ref q3, .null, .null])), (q1, .inl (cI, 8, .inl (fun _ => 0))), (q2, .inl (cI, 32, .inl (fun _ => 0))), (q3, .inl (cI, 32, .inl (fun _ => 0)))]) := hD
  refine lv_aload_n hx hb dX9_init_33 rfl (lv_at hl 0 rfl) ?_
  refine lv_bipush (v := 8) hx hb dX9_init_34 (by decide) ?_
  refine va_newa (atype := .int) (ty := .int) (a0 := (8, .inl (fun _ => 0))) (N' := 8) hx hb k3 rfl hKv hP hD hS hA (fun _ => rfl) (by decide) (by decide) (by decide) (Nat.le_of_ble_eq_true rfl) (Nat.le_of_ble_eq_true rfl) dX9_init_36 (fun q4 cA H hKn hP hD hS => ?_)
  obtain rfl := (newI hKn).symm
  replace hP : va_P D vwCl ([(a, .inr (9, [.int 0, .ref q1, .ref q2, .ref q3, .null, .null])), (q1, .inl (cI, 8, .inl (fun _ => 0))), (q2, .inl (cI, 32, .inl (fun _ => 0))), (q3, .inl (cI, 32, .inl (fun _ => 0))), (q4, .inl (cI, 8, .inl (fun _ => 0)))]) H := hP
  replace hD : va_D A ([(a, .inr (9, [.int 0, .ref q1, .ref q2, .ref q3, .null, .null])), (q1, .inl (cI, 8, .inl (fun _ => 0))), (q2, .inl (cI, 32, .inl (fun _ => 0))), (q3, .inl (cI, 32, .inl (fun _ => 0))), (q4, .inl (cI, 8, .inl (fun _ => 0)))]) := hD
  refine W.widen (k := 4) (n := 80) (Nat.le_of_ble_eq_true rfl) (Nat.le_of_ble_eq_true rfl) ?_
  refine va_putF (D := D) (ci := 9) (v := .ref q4) (ty := .array .int) (C := RX9) (T := TX9) (N := 6) hx hb hts k2 tyX9 tyX9_ok nmX9 hown hKv hP hD hS 0 rfl rfl 4 (by decide) k7 (fun _ h9 => h9) rfl hin rfl (by decide +kernel) rfl rfl (Nat.le_of_ble_eq_true rfl) dX9_init_38 (fun H locs hP hD hS => ?_)
  replace hP : va_P D vwCl ([(a, .inr (9, [.int 0, .ref q1, .ref q2, .ref q3, .ref q4, .null])), (q1, .inl (cI, 8, .inl (fun _ => 0))), (q2, .inl (cI, 32, .inl (fun _ => 0))), (q3, .inl (cI, 32, .inl (fun _ => 0))), (q4, .inl (cI, 8, .inl (fun _ => 0)))]) H := hP
  replace hD : va_D A ([(a, .inr (9, [.int 0, .ref q1, .ref q2, .ref q3, .ref q4, .null])), (q1, .inl (cI, 8, .inl (fun _ => 0))), (q2, .inl (cI, 32, .inl (fun _ => 0))), (q3, .inl (cI, 32, .inl (fun _ => 0))), (q4, .inl (cI, 8, .inl (fun _ => 0)))]) := hD
  refine lv_aload_n hx hb dX9_init_41 rfl (lv_at hl 0 rfl) ?_
  refine lv_bipush (v := 8) hx hb dX9_init_42 (by decide) ?_
  refine va_newa (atype := .int) (ty := .int) (a0 := (8, .inl (fun _ => 0))) (N' := 8) hx hb k3 rfl hKv hP hD hS hA (fun _ => rfl) (by decide) (by decide) (by decide) (Nat.le_of_ble_eq_true rfl) (Nat.le_of_ble_eq_true rfl) dX9_init_44 (fun q5 cA H hKn hP hD hS => ?_)
  obtain rfl := (newI hKn).symm
  replace hP : va_P D vwCl ([(a, .inr (9, [.int 0, .ref q1, .ref q2, .ref q3, .ref q4, .null])), (q1, .inl (cI, 8, .inl (fun _ => 0))), (q2, .inl (cI, 32, .inl (fun _ => 0))), (q3, .inl (cI, 32, .inl (fun _ => 0))), (q4, .inl (cI, 8, .inl (fun _ => 0))), (q5, .inl (cI, 8, .inl (fun _ => 0)))]) H := hP
  replace hD : va_D A ([(a, .inr (9, [.int 0, .ref q1, .ref q2, .ref q3, .ref q4, .null])), (q1, .inl (cI, 8, .inl (fun _ => 0))), (q2, .inl (cI, 32, .inl (fun _ => 0))), (q3, .inl (cI, 32, .inl (fun _ => 0))), (q4, .inl (cI, 8, .inl (fun _ => 0))), (q5, .inl (cI, 8, .inl (fun _ => 0)))]) := hD
  refine W.widen (k := 5) (n := 88) (Nat.le_of_ble_eq_true rfl) (Nat.le_of_ble_eq_true rfl) ?_
  refine va_putF (D := D) (ci := 9) (v := .ref q5) (ty := .array .int) (C := RX9) (T := TX9) (N := 6) hx hb hts k2 tyX9 tyX9_ok nmX9 hown hKv hP hD hS 0 rfl rfl 5 (by decide) k8 (fun _ h9 => h9) rfl hin rfl (by decide +kernel) rfl rfl (Nat.le_of_ble_eq_true rfl) dX9_init_46 (fun H locs hP hD hS => ?_)
  replace hP : va_P D vwCl ([(a, .inr (9, [.int 0, .ref q1, .ref q2, .ref q3, .ref q4, .ref q5])), (q1, .inl (cI, 8, .inl (fun _ => 0))), (q2, .inl (cI, 32, .inl (fun _ => 0))), (q3, .inl (cI, 32, .inl (fun _ => 0))), (q4, .inl (cI, 8, .inl (fun _ => 0))), (q5, .inl (cI, 8, .inl (fun _ => 0)))]) H := hP
  replace hD : va_D A ([(a, .inr (9, [.int 0, .ref q1, .ref q2, .ref q3, .ref q4, .ref q5])), (q1, .inl (cI, 8, .inl (fun _ => 0))), (q2, .inl (cI, 32, .inl (fun _ => 0))), (q3, .inl (cI, 32, .inl (fun _ => 0))), (q4, .inl (cI, 8, .inl (fun _ => 0))), (q5, .inl (cI, 8, .inl (fun _ => 0)))]) := hD
  exact hret H locs _ ls (fun j => ([q1, q2, q3, q4, q5] : List Nat).getD j 0) hP hD hS dX9_init_49
set_option maxHeartbeats 4000000 in
set_option maxRecDepth 100000 in
theorem c_X3_init (l : Launch) (D : va_G) (cI cJ cZ cS : ClassId) (a p1 p2 sW sS sC : Nat) : MN l yX3_init wsX3_init rm_X3_init D (TY cI cJ cZ cS) [.ref a, .ref p1, .ref p2] [(a, .inr (3, [.null, .null, .null, .null, .null, .null, .null, .null])), (p1, .inr (7, [.ref sW, .ref sS, .ref sC]))] (fun u : Nat → Nat => [(a, .inr (3, [.ref (u 0), .ref (u 1), .ref (u 2), .ref sW, .ref sS, .ref p2, .ref (u 3), .ref (u 4)])), (p1, .inr (7, [.ref sW, .ref sS, .ref sC])), ((u 0), .inl (cI, 8, .inl (fun _ => 0))), ((u 1), .inl (cZ, 8, .inl (fun _ => 0))), ((u 2), .inl (cI, 8, .inl (fun _ => 0))), ((u 3), .inl (cJ, 8, .inr (.inl (fun _ => 0)))), ((u 4), .inl (cI, 8, .inl (fun _ => 0)))]) 5 40 := by
  refine MN_of (cc := cX3_init) (maxL := 3) (by decide) rfl rfl (Nat.le_of_ble_eq_true rfl) ?_
  intro p e s m args below meth c A Q ls H locs hx hb hml hin hts hown hK hA hP hD hS hl hret
  have hown : s.vm.findClass RX3 = some m.cls := hown
  have hKv : va_K D vwCl (TY cI cJ cZ cS) s := hK.1.1
  have hl : lv_has ls 3 [(0, .ref a), (1, .ref p1), (2, .ref p2)] := hl
  have S : CallFix p m c cX3_init 3 s args wsX3_init RX3 := ⟨hx, hb, hml, hown, hts⟩
  have k1 := hts (.arrayClass .int) (by decide +kernel)
  have k2 := hts (.fieldLink RX3 9 "CitationFormatter$Labels" "shown" "[I") (by decide +kernel)
  have k3 : ∀ w ∈ wsX30, w ∈ wsX3_init := by decide +kernel
  have k4 := hts (.arrayClass .boolean) (by decide +kernel)
  have k5 := hts (.fieldLink RX3 15 "CitationFormatter$Labels" "withInitials" "[Z") (by decide +kernel)
  have k6 := hts (.fieldLink RX3 19 "CitationFormatter$Labels" "suffixes" "[I") (by decide +kernel)
  have k7 := hts (.arrayClass .long) (by decide +kernel)
  have k8 := hts (.fieldLink RX3 22 "CitationFormatter$Labels" "namesKeys" "[J") (by decide +kernel)
  have k9 := hts (.fieldLink RX3 26 "CitationFormatter$Labels" "groups" "[I") (by decide +kernel)
  have k10 := hts (.fieldLink RX3 29 "CitationFormatter$State" "works" "LCitationFormatter$Works;") (by decide +kernel)
  have k11 : ∀ w ∈ wsX70, w ∈ wsX3_init := by decide +kernel
  have k12 := hts (.fieldLink RX3 35 "CitationFormatter$Labels" "works" "LCitationFormatter$Works;") (by decide +kernel)
  have k13 := hts (.fieldLink RX3 36 "CitationFormatter$State" "settings" "LCitationFormatter$Settings;") (by decide +kernel)
  have k14 := hts (.fieldLink RX3 40 "CitationFormatter$Labels" "settings" "LCitationFormatter$Settings;") (by decide +kernel)
  have k15 := hts (.fieldLink RX3 41 "CitationFormatter$Labels" "arrangement" "LCitationFormatter$Arrangement;") (by decide +kernel)
  refine lv_aload_n hx hb dX3_init_0 rfl (lv_at hl 0 rfl) ?_
  refine W.objInit hx hb hown (hts (.methodLink RX3 3 objectInit) (by decide +kernel)) (hts (.instanceMethod objectInit) (by decide +kernel)) (hts (.code objectInit ⟨#[0xb1]⟩ 1 none) (by decide +kernel)) rfl (by rw [hml]; exact hl.1) rfl dX3_init_1 (Nat.le_of_ble_eq_true rfl) (Nat.le_of_ble_eq_true rfl) ?_
  refine W.eq (g2 := F0 m 4 ls []) rfl ?_
  refine lv_aload_n hx hb dX3_init_4 rfl (lv_at hl 0 rfl) ?_
  refine lv_bipush (v := 8) hx hb dX3_init_5 (by decide) ?_
  refine va_newa (atype := .int) (ty := .int) (a0 := (8, .inl (fun _ => 0))) (N' := 8) hx hb k1 rfl hKv hP hD hS hA (fun _ => rfl) (by decide) (by decide) (by decide) (Nat.le_of_ble_eq_true rfl) (Nat.le_of_ble_eq_true rfl) dX3_init_7 (fun q1 cA H hKn hP hD hS => ?_)
  obtain rfl := (newI hKn).symm
  replace hP : va_P D vwCl ([(a, .inr (3, [.null, .null, .null, .null, .null, .null, .null, .null])), (p1, .inr (7, [.ref sW, .ref sS, .ref sC])), (q1, .inl (cI, 8, .inl (fun _ => 0)))]) H := hP
  replace hD : va_D A ([(a, .inr (3, [.null, .null, .null, .null, .null, .null, .null, .null])), (p1, .inr (7, [.ref sW, .ref sS, .ref sC])), (q1, .inl (cI, 8, .inl (fun _ => 0)))]) := hD
  refine W.widen (k := 1) (n := 8) (Nat.le_of_ble_eq_true rfl) (Nat.le_of_ble_eq_true rfl) ?_
  refine va_putF (D := D) (ci := 3) (v := .ref q1) (ty := .array .int) (C := RX3) (T := TX3) (N := 8) hx hb hts k3 tyX3 tyX3_ok nmX3 hown hKv hP hD hS 0 rfl rfl 0 (by decide) k2 (fun _ h9 => h9) rfl hin rfl (by decide +kernel) rfl rfl (Nat.le_of_ble_eq_true rfl) dX3_init_9 (fun H locs hP hD hS => ?_)
  replace hP : va_P D vwCl ([(a, .inr (3, [.ref q1, .null, .null, .null, .null, .null, .null, .null])), (p1, .inr (7, [.ref sW, .ref sS, .ref sC])), (q1, .inl (cI, 8, .inl (fun _ => 0)))]) H := hP
  replace hD : va_D A ([(a, .inr (3, [.ref q1, .null, .null, .null, .null, .null, .null, .null])), (p1, .inr (7, [.ref sW, .ref sS, .ref sC])), (q1, .inl (cI, 8, .inl (fun _ => 0)))]) := hD
  refine lv_aload_n hx hb dX3_init_12 rfl (lv_at hl 0 rfl) ?_
  refine lv_bipush (v := 8) hx hb dX3_init_13 (by decide) ?_
  refine va_newa (atype := .boolean) (ty := .boolean) (a0 := (8, .inl (fun _ => 0))) (N' := 8) hx hb k4 rfl hKv hP hD hS hA (fun _ => rfl) (by decide) (by decide) (by decide) (Nat.le_of_ble_eq_true rfl) (Nat.le_of_ble_eq_true rfl) dX3_init_15 (fun q2 cA H hKn hP hD hS => ?_)
  obtain rfl := (newZ hKn).symm
  replace hP : va_P D vwCl ([(a, .inr (3, [.ref q1, .null, .null, .null, .null, .null, .null, .null])), (p1, .inr (7, [.ref sW, .ref sS, .ref sC])), (q1, .inl (cI, 8, .inl (fun _ => 0))), (q2, .inl (cZ, 8, .inl (fun _ => 0)))]) H := hP
  replace hD : va_D A ([(a, .inr (3, [.ref q1, .null, .null, .null, .null, .null, .null, .null])), (p1, .inr (7, [.ref sW, .ref sS, .ref sC])), (q1, .inl (cI, 8, .inl (fun _ => 0))), (q2, .inl (cZ, 8, .inl (fun _ => 0)))]) := hD
  refine W.widen (k := 2) (n := 16) (Nat.le_of_ble_eq_true rfl) (Nat.le_of_ble_eq_true rfl) ?_
  refine va_putF (D := D) (ci := 3) (v := .ref q2) (ty := .array .boolean) (C := RX3) (T := TX3) (N := 8) hx hb hts k3 tyX3 tyX3_ok nmX3 hown hKv hP hD hS 0 rfl rfl 1 (by decide) k5 (fun _ h9 => h9) rfl hin rfl (by decide +kernel) rfl rfl (Nat.le_of_ble_eq_true rfl) dX3_init_17 (fun H locs hP hD hS => ?_)
  replace hP : va_P D vwCl ([(a, .inr (3, [.ref q1, .ref q2, .null, .null, .null, .null, .null, .null])), (p1, .inr (7, [.ref sW, .ref sS, .ref sC])), (q1, .inl (cI, 8, .inl (fun _ => 0))), (q2, .inl (cZ, 8, .inl (fun _ => 0)))]) H := hP
  replace hD : va_D A ([(a, .inr (3, [.ref q1, .ref q2, .null, .null, .null, .null, .null, .null])), (p1, .inr (7, [.ref sW, .ref sS, .ref sC])), (q1, .inl (cI, 8, .inl (fun _ => 0))), (q2, .inl (cZ, 8, .inl (fun _ => 0)))]) := hD
  refine lv_aload_n hx hb dX3_init_20 rfl (lv_at hl 0 rfl) ?_
  refine lv_bipush (v := 8) hx hb dX3_init_21 (by decide) ?_
  refine va_newa (atype := .int) (ty := .int) (a0 := (8, .inl (fun _ => 0))) (N' := 8) hx hb k1 rfl hKv hP hD hS hA (fun _ => rfl) (by decide) (by decide) (by decide) (Nat.le_of_ble_eq_true rfl) (Nat.le_of_ble_eq_true rfl) dX3_init_23 (fun q3 cA H hKn hP hD hS => ?_)
  obtain rfl := (newI hKn).symm
  replace hP : va_P D vwCl ([(a, .inr (3, [.ref q1, .ref q2, .null, .null, .null, .null, .null, .null])), (p1, .inr (7, [.ref sW, .ref sS, .ref sC])), (q1, .inl (cI, 8, .inl (fun _ => 0))), (q2, .inl (cZ, 8, .inl (fun _ => 0))), (q3, .inl (cI, 8, .inl (fun _ => 0)))]) H := hP
  replace hD : va_D A ([(a, .inr (3, [.ref q1, .ref q2, .null, .null, .null, .null, .null, .null])), (p1, .inr (7, [.ref sW, .ref sS, .ref sC])), (q1, .inl (cI, 8, .inl (fun _ => 0))), (q2, .inl (cZ, 8, .inl (fun _ => 0))), (q3, .inl (cI, 8, .inl (fun _ => 0)))]) := hD
  refine W.widen (k := 3) (n := 24) (Nat.le_of_ble_eq_true rfl) (Nat.le_of_ble_eq_true rfl) ?_
  refine va_putF (D := D) (ci := 3) (v := .ref q3) (ty := .array .int) (C := RX3) (T := TX3) (N := 8) hx hb hts k3 tyX3 tyX3_ok nmX3 hown hKv hP hD hS 0 rfl rfl 2 (by decide) k6 (fun _ h9 => h9) rfl hin rfl (by decide +kernel) rfl rfl (Nat.le_of_ble_eq_true rfl) dX3_init_25 (fun H locs hP hD hS => ?_)
  replace hP : va_P D vwCl ([(a, .inr (3, [.ref q1, .ref q2, .ref q3, .null, .null, .null, .null, .null])), (p1, .inr (7, [.ref sW, .ref sS, .ref sC])), (q1, .inl (cI, 8, .inl (fun _ => 0))), (q2, .inl (cZ, 8, .inl (fun _ => 0))), (q3, .inl (cI, 8, .inl (fun _ => 0)))]) H := hP
  replace hD : va_D A ([(a, .inr (3, [.ref q1, .ref q2, .ref q3, .null, .null, .null, .null, .null])), (p1, .inr (7, [.ref sW, .ref sS, .ref sC])), (q1, .inl (cI, 8, .inl (fun _ => 0))), (q2, .inl (cZ, 8, .inl (fun _ => 0))), (q3, .inl (cI, 8, .inl (fun _ => 0)))]) := hD
  refine lv_aload_n hx hb dX3_init_28 rfl (lv_at hl 0 rfl) ?_
  refine lv_bipush (v := 8) hx hb dX3_init_29 (by decide) ?_
  refine va_newa (atype := .long) (ty := .long) (a0 := (8, .inr (.inl (fun _ => 0)))) (N' := 8) hx hb k7 rfl hKv hP hD hS hA (fun _ => rfl) (by decide) (by decide) (by decide) (Nat.le_of_ble_eq_true rfl) (Nat.le_of_ble_eq_true rfl) dX3_init_31 (fun q4 cA H hKn hP hD hS => ?_)
  obtain rfl := (newJ hKn).symm
  replace hP : va_P D vwCl ([(a, .inr (3, [.ref q1, .ref q2, .ref q3, .null, .null, .null, .null, .null])), (p1, .inr (7, [.ref sW, .ref sS, .ref sC])), (q1, .inl (cI, 8, .inl (fun _ => 0))), (q2, .inl (cZ, 8, .inl (fun _ => 0))), (q3, .inl (cI, 8, .inl (fun _ => 0))), (q4, .inl (cJ, 8, .inr (.inl (fun _ => 0))))]) H := hP
  replace hD : va_D A ([(a, .inr (3, [.ref q1, .ref q2, .ref q3, .null, .null, .null, .null, .null])), (p1, .inr (7, [.ref sW, .ref sS, .ref sC])), (q1, .inl (cI, 8, .inl (fun _ => 0))), (q2, .inl (cZ, 8, .inl (fun _ => 0))), (q3, .inl (cI, 8, .inl (fun _ => 0))), (q4, .inl (cJ, 8, .inr (.inl (fun _ => 0))))]) := hD
  refine W.widen (k := 4) (n := 32) (Nat.le_of_ble_eq_true rfl) (Nat.le_of_ble_eq_true rfl) ?_
  refine va_putF (D := D) (ci := 3) (v := .ref q4) (ty := .array .long) (C := RX3) (T := TX3) (N := 8) hx hb hts k3 tyX3 tyX3_ok nmX3 hown hKv hP hD hS 0 rfl rfl 6 (by decide) k8 (fun _ h9 => h9) rfl hin rfl (by decide +kernel) rfl rfl (Nat.le_of_ble_eq_true rfl) dX3_init_33 (fun H locs hP hD hS => ?_)
  replace hP : va_P D vwCl ([(a, .inr (3, [.ref q1, .ref q2, .ref q3, .null, .null, .null, .ref q4, .null])), (p1, .inr (7, [.ref sW, .ref sS, .ref sC])), (q1, .inl (cI, 8, .inl (fun _ => 0))), (q2, .inl (cZ, 8, .inl (fun _ => 0))), (q3, .inl (cI, 8, .inl (fun _ => 0))), (q4, .inl (cJ, 8, .inr (.inl (fun _ => 0))))]) H := hP
  replace hD : va_D A ([(a, .inr (3, [.ref q1, .ref q2, .ref q3, .null, .null, .null, .ref q4, .null])), (p1, .inr (7, [.ref sW, .ref sS, .ref sC])), (q1, .inl (cI, 8, .inl (fun _ => 0))), (q2, .inl (cZ, 8, .inl (fun _ => 0))), (q3, .inl (cI, 8, .inl (fun _ => 0))), (q4, .inl (cJ, 8, .inr (.inl (fun _ => 0))))]) := hD
  refine lv_aload_n hx hb dX3_init_36 rfl (lv_at hl 0 rfl) ?_
  refine lv_bipush (v := 8) hx hb dX3_init_37 (by decide) ?_
  refine va_newa (atype := .int) (ty := .int) (a0 := (8, .inl (fun _ => 0))) (N' := 8) hx hb k1 rfl hKv hP hD hS hA (fun _ => rfl) (by decide) (by decide) (by decide) (Nat.le_of_ble_eq_true rfl) (Nat.le_of_ble_eq_true rfl) dX3_init_39 (fun q5 cA H hKn hP hD hS => ?_)
  obtain rfl := (newI hKn).symm
  replace hP : va_P D vwCl ([(a, .inr (3, [.ref q1, .ref q2, .ref q3, .null, .null, .null, .ref q4, .null])), (p1, .inr (7, [.ref sW, .ref sS, .ref sC])), (q1, .inl (cI, 8, .inl (fun _ => 0))), (q2, .inl (cZ, 8, .inl (fun _ => 0))), (q3, .inl (cI, 8, .inl (fun _ => 0))), (q4, .inl (cJ, 8, .inr (.inl (fun _ => 0)))), (q5, .inl (cI, 8, .inl (fun _ => 0)))]) H := hP
  replace hD : va_D A ([(a, .inr (3, [.ref q1, .ref q2, .ref q3, .null, .null, .null, .ref q4, .null])), (p1, .inr (7, [.ref sW, .ref sS, .ref sC])), (q1, .inl (cI, 8, .inl (fun _ => 0))), (q2, .inl (cZ, 8, .inl (fun _ => 0))), (q3, .inl (cI, 8, .inl (fun _ => 0))), (q4, .inl (cJ, 8, .inr (.inl (fun _ => 0)))), (q5, .inl (cI, 8, .inl (fun _ => 0)))]) := hD
  refine W.widen (k := 5) (n := 40) (Nat.le_of_ble_eq_true rfl) (Nat.le_of_ble_eq_true rfl) ?_
  refine va_putF (D := D) (ci := 3) (v := .ref q5) (ty := .array .int) (C := RX3) (T := TX3) (N := 8) hx hb hts k3 tyX3 tyX3_ok nmX3 hown hKv hP hD hS 0 rfl rfl 7 (by decide) k9 (fun _ h9 => h9) rfl hin rfl (by decide +kernel) rfl rfl (Nat.le_of_ble_eq_true rfl) dX3_init_41 (fun H locs hP hD hS => ?_)
  replace hP : va_P D vwCl ([(a, .inr (3, [.ref q1, .ref q2, .ref q3, .null, .null, .null, .ref q4, .ref q5])), (p1, .inr (7, [.ref sW, .ref sS, .ref sC])), (q1, .inl (cI, 8, .inl (fun _ => 0))), (q2, .inl (cZ, 8, .inl (fun _ => 0))), (q3, .inl (cI, 8, .inl (fun _ => 0))), (q4, .inl (cJ, 8, .inr (.inl (fun _ => 0)))), (q5, .inl (cI, 8, .inl (fun _ => 0)))]) H := hP
  replace hD : va_D A ([(a, .inr (3, [.ref q1, .ref q2, .ref q3, .null, .null, .null, .ref q4, .ref q5])), (p1, .inr (7, [.ref sW, .ref sS, .ref sC])), (q1, .inl (cI, 8, .inl (fun _ => 0))), (q2, .inl (cZ, 8, .inl (fun _ => 0))), (q3, .inl (cI, 8, .inl (fun _ => 0))), (q4, .inl (cJ, 8, .inr (.inl (fun _ => 0)))), (q5, .inl (cI, 8, .inl (fun _ => 0)))]) := hD
  refine lv_aload_n hx hb dX3_init_44 rfl (lv_at hl 0 rfl) ?_
  refine lv_aload_n hx hb dX3_init_45 rfl (lv_at hl 1 rfl) ?_
  refine va_get (D := D) (ci := 7) (v := .ref sW) (C := RX7) (T := TX7) (N := 3) hx hb hts k11 hown hKv hP 1 rfl rfl 0 (by decide) k10 (fun _ h9 => h9) rfl dX3_init_46 ?_
  refine va_putF (D := D) (ci := 3) (v := .ref sW) (ty := .object "CitationFormatter$Works") (C := RX3) (T := TX3) (N := 8) hx hb hts k3 tyX3 tyX3_ok nmX3 hown hKv hP hD hS 0 rfl rfl 3 (by decide) k12 (fun _ h9 => h9) rfl hin rfl (by decide +kernel) rfl rfl (Nat.le_of_ble_eq_true rfl) dX3_init_49 (fun H locs hP hD hS => ?_)
  replace hP : va_P D vwCl ([(a, .inr (3, [.ref q1, .ref q2, .ref q3, .ref sW, .null, .null, .ref q4, .ref q5])), (p1, .inr (7, [.ref sW, .ref sS, .ref sC])), (q1, .inl (cI, 8, .inl (fun _ => 0))), (q2, .inl (cZ, 8, .inl (fun _ => 0))), (q3, .inl (cI, 8, .inl (fun _ => 0))), (q4, .inl (cJ, 8, .inr (.inl (fun _ => 0)))), (q5, .inl (cI, 8, .inl (fun _ => 0)))]) H := hP
  replace hD : va_D A ([(a, .inr (3, [.ref q1, .ref q2, .ref q3, .ref sW, .null, .null, .ref q4, .ref q5])), (p1, .inr (7, [.ref sW, .ref sS, .ref sC])), (q1, .inl (cI, 8, .inl (fun _ => 0))), (q2, .inl (cZ, 8, .inl (fun _ => 0))), (q3, .inl (cI, 8, .inl (fun _ => 0))), (q4, .inl (cJ, 8, .inr (.inl (fun _ => 0)))), (q5, .inl (cI, 8, .inl (fun _ => 0)))]) := hD
  refine lv_aload_n hx hb dX3_init_52 rfl (lv_at hl 0 rfl) ?_
  refine lv_aload_n hx hb dX3_init_53 rfl (lv_at hl 1 rfl) ?_
  refine va_get (D := D) (ci := 7) (v := .ref sS) (C := RX7) (T := TX7) (N := 3) hx hb hts k11 hown hKv hP 1 rfl rfl 1 (by decide) k13 (fun _ h9 => h9) rfl dX3_init_54 ?_
  refine va_putF (D := D) (ci := 3) (v := .ref sS) (ty := .object "CitationFormatter$Settings") (C := RX3) (T := TX3) (N := 8) hx hb hts k3 tyX3 tyX3_ok nmX3 hown hKv hP hD hS 0 rfl rfl 4 (by decide) k14 (fun _ h9 => h9) rfl hin rfl (by decide +kernel) rfl rfl (Nat.le_of_ble_eq_true rfl) dX3_init_57 (fun H locs hP hD hS => ?_)
  replace hP : va_P D vwCl ([(a, .inr (3, [.ref q1, .ref q2, .ref q3, .ref sW, .ref sS, .null, .ref q4, .ref q5])), (p1, .inr (7, [.ref sW, .ref sS, .ref sC])), (q1, .inl (cI, 8, .inl (fun _ => 0))), (q2, .inl (cZ, 8, .inl (fun _ => 0))), (q3, .inl (cI, 8, .inl (fun _ => 0))), (q4, .inl (cJ, 8, .inr (.inl (fun _ => 0)))), (q5, .inl (cI, 8, .inl (fun _ => 0)))]) H := hP
  replace hD : va_D A ([(a, .inr (3, [.ref q1, .ref q2, .ref q3, .ref sW, .ref sS, .null, .ref q4, .ref q5])), (p1, .inr (7, [.ref sW, .ref sS, .ref sC])), (q1, .inl (cI, 8, .inl (fun _ => 0))), (q2, .inl (cZ, 8, .inl (fun _ => 0))), (q3, .inl (cI, 8, .inl (fun _ => 0))), (q4, .inl (cJ, 8, .inr (.inl (fun _ => 0)))), (q5, .inl (cI, 8, .inl (fun _ => 0)))]) := hD
  refine lv_aload_n hx hb dX3_init_60 rfl (lv_at hl 0 rfl) ?_
  refine lv_aload_n hx hb dX3_init_61 rfl (lv_at hl 2 rfl) ?_
  refine va_putF (D := D) (ci := 3) (v := .ref p2) (ty := .object "CitationFormatter$Arrangement") (C := RX3) (T := TX3) (N := 8) hx hb hts k3 tyX3 tyX3_ok nmX3 hown hKv hP hD hS 0 rfl rfl 5 (by decide) k15 (fun _ h9 => h9) rfl hin rfl (by decide +kernel) rfl rfl (Nat.le_of_ble_eq_true rfl) dX3_init_62 (fun H locs hP hD hS => ?_)
  replace hP : va_P D vwCl ([(a, .inr (3, [.ref q1, .ref q2, .ref q3, .ref sW, .ref sS, .ref p2, .ref q4, .ref q5])), (p1, .inr (7, [.ref sW, .ref sS, .ref sC])), (q1, .inl (cI, 8, .inl (fun _ => 0))), (q2, .inl (cZ, 8, .inl (fun _ => 0))), (q3, .inl (cI, 8, .inl (fun _ => 0))), (q4, .inl (cJ, 8, .inr (.inl (fun _ => 0)))), (q5, .inl (cI, 8, .inl (fun _ => 0)))]) H := hP
  replace hD : va_D A ([(a, .inr (3, [.ref q1, .ref q2, .ref q3, .ref sW, .ref sS, .ref p2, .ref q4, .ref q5])), (p1, .inr (7, [.ref sW, .ref sS, .ref sC])), (q1, .inl (cI, 8, .inl (fun _ => 0))), (q2, .inl (cZ, 8, .inl (fun _ => 0))), (q3, .inl (cI, 8, .inl (fun _ => 0))), (q4, .inl (cJ, 8, .inr (.inl (fun _ => 0)))), (q5, .inl (cI, 8, .inl (fun _ => 0)))]) := hD
  exact hret H locs _ ls (fun j => ([q1, q2, q3, q4, q5] : List Nat).getD j 0) hP hD hS dX3_init_65
set_option maxHeartbeats 4000000 in
set_option maxRecDepth 100000 in
theorem c_X10_init (l : Launch) (D : va_G) (cI cJ cZ cS : ClassId) (a p1 : Nat) : MN l yX10_init wsX10_init rm_X10_init D (TY cI cJ cZ cS) [.ref a, .ref p1] [(a, .inr (10, [.null, .null, .int 0]))] (fun u : Nat → Nat => [(a, .inr (10, [.ref (u 0), .ref p1, .int 0])), ((u 0), .inr (9, [.int 0, .ref (u 1), .ref (u 2), .ref (u 3), .ref (u 4), .ref (u 5)])), ((u 1), .inl (cI, 8, .inl (fun _ => 0))), ((u 2), .inl (cI, 32, .inl (fun _ => 0))), ((u 3), .inl (cI, 32, .inl (fun _ => 0))), ((u 4), .inl (cI, 8, .inl (fun _ => 0))), ((u 5), .inl (cI, 8, .inl (fun _ => 0)))]) 6 94 := by
  refine MN_of (cc := cX10_init) (maxL := 2) (by decide) rfl rfl (Nat.le_of_ble_eq_true rfl) ?_
  intro p e s m args below meth c A Q ls H locs hx hb hml hin hts hown hK hA hP hD hS hl hret
  have hown : s.vm.findClass RX10 = some m.cls := hown
  have hKv : va_K D vwCl (TY cI cJ cZ cS) s := hK.1.1
  have hl : lv_has ls 2 [(0, .ref a), (1, .ref p1)] := hl
  have S : CallFix p m c cX10_init 2 s args wsX10_init RX10 := ⟨hx, hb, hml, hown, hts⟩
  have k1 : ∀ w ∈ wsX90, w ∈ wsX10_init := by decide +kernel
  have k2 := hts (.classLink RX10 9 RX9) (by decide +kernel)
  have k3 := hts (.instantiable RX9 6) (by decide +kernel)
  have k4 := hts (.initialized RX9) (by decide +kernel)
  have k5 : va_CN rm_X10_init s args RX10 11 yX9_init "CitationFormatter" cX9_init 1 none wsX9_init rm_X9_init 5 88 0 ∧ yX9_init.name = "<init>" ∧ (Cond.instanceMethod yX9_init).before args s = true := ⟨va_cnB 0 hts gX10_init_X9_init_n11 rfl rfl rfl (hK.1.2 (RX10, 11, yX9_init) (by decide +kernel)) (hts (.initialized RX9) (by decide +kernel)) (by decide +kernel) ⟨Nat.le_of_ble_eq_true rfl, Nat.le_of_ble_eq_true rfl⟩, rfl, hts (.instanceMethod yX9_init) (by decide +kernel)⟩
  have k6 := hts (.fieldLink RX10 12 "CitationFormatter$WorksReader" "found" "LCitationFormatter$Works;") (by decide +kernel)
  have k7 : ∀ w ∈ wsX100, w ∈ wsX10_init := by decide +kernel
  have k8 := hts (.fieldLink RX10 18 "CitationFormatter$WorksReader" "stage" "I") (by decide +kernel)
  have k9 := hts (.fieldLink RX10 22 "CitationFormatter$WorksReader" "text" "LCitationFormatter$Text;") (by decide +kernel)
  refine lv_aload_n hx hb dX10_init_0 rfl (lv_at hl 0 rfl) ?_
  refine W.objInit hx hb hown (hts (.methodLink RX10 3 objectInit) (by decide +kernel)) (hts (.instanceMethod objectInit) (by decide +kernel)) (hts (.code objectInit ⟨#[0xb1]⟩ 1 none) (by decide +kernel)) rfl (by rw [hml]; exact hl.1) rfl dX10_init_1 (Nat.le_of_ble_eq_true rfl) (Nat.le_of_ble_eq_true rfl) ?_
  refine W.eq (g2 := F0 m 4 ls []) rfl ?_
  refine lv_aload_n hx hb dX10_init_4 rfl (lv_at hl 0 rfl) ?_
  refine va_new (ci := 9) (fs := [.int 0, .null, .null, .null, .null, .null]) (C := RX9) (T := TX9) (N := 6) hx hb hts k1 tyX9 tyX9_ok hown k2 k3 k4 hKv hP hD hS hA rfl (fun j hj => by rcases (show j = 0 ∨ j = 1 ∨ j = 2 ∨ j = 3 ∨ j = 4 ∨ j = 5 by omega) with rfl | rfl | rfl | rfl | rfl | rfl <;> rfl) (Nat.le_of_ble_eq_true rfl) (Nat.le_of_ble_eq_true rfl) dX10_init_5 (fun q1 H hP hD hS => ?_)
  replace hP : va_P D vwCl ([(a, .inr (10, [.null, .null, .int 0])), (q1, .inr (9, [.int 0, .null, .null, .null, .null, .null]))]) H := hP
  replace hD : va_D A ([(a, .inr (10, [.null, .null, .int 0])), (q1, .inr (9, [.int 0, .null, .null, .null, .null, .null]))]) := hD
  refine W.widen (k := 1) (n := 6) (Nat.le_of_ble_eq_true rfl) (Nat.le_of_ble_eq_true rfl) ?_
  refine lv_dup hx hb dX10_init_8 rfl ?_
  refine kIN_n (rest := [.ref q1, .ref a]) (ws := [(a, .inr (10, [.null, .null, .int 0])), (q1, .inr (9, [.int 0, .null, .null, .null, .null, .null]))]) (wr := [(a, .inr (10, [.null, .null, .int 0]))]) (F := []) S (c_X9_init l D cI cJ cZ cS q1) k5 hK (by rw [List.append_nil]; exact hP) (by rw [List.append_nil]; exact hD) hS hA rfl hl.1 rfl (Nat.le_of_ble_eq_true rfl) ⟨Nat.le_of_ble_eq_true rfl, Nat.le_of_ble_eq_true rfl⟩ dX10_init_9 [1] [0] rfl rfl rfl rfl rfl (fun u2 H locs hP hD hS => ?_)
  rw [List.append_nil] at hP hD
  replace hP : va_P D vwCl ([(a, .inr (10, [.null, .null, .int 0])), (q1, .inr (9, [.int 0, .ref (u2 0), .ref (u2 1), .ref (u2 2), .ref (u2 3), .ref (u2 4)])), ((u2 0), .inl (cI, 8, .inl (fun _ => 0))), ((u2 1), .inl (cI, 32, .inl (fun _ => 0))), ((u2 2), .inl (cI, 32, .inl (fun _ => 0))), ((u2 3), .inl (cI, 8, .inl (fun _ => 0))), ((u2 4), .inl (cI, 8, .inl (fun _ => 0)))]) H := hP
  replace hD : va_D A ([(a, .inr (10, [.null, .null, .int 0])), (q1, .inr (9, [.int 0, .ref (u2 0), .ref (u2 1), .ref (u2 2), .ref (u2 3), .ref (u2 4)])), ((u2 0), .inl (cI, 8, .inl (fun _ => 0))), ((u2 1), .inl (cI, 32, .inl (fun _ => 0))), ((u2 2), .inl (cI, 32, .inl (fun _ => 0))), ((u2 3), .inl (cI, 8, .inl (fun _ => 0))), ((u2 4), .inl (cI, 8, .inl (fun _ => 0)))]) := hD
  refine W.widen (k := 6) (n := 94) (Nat.le_of_ble_eq_true rfl) (Nat.le_of_ble_eq_true rfl) ?_
  refine va_putF (D := D) (ci := 10) (v := .ref q1) (ty := .object "CitationFormatter$Works") (C := RX10) (T := TX10) (N := 3) hx hb hts k7 tyX10 tyX10_ok nmX10 hown hKv hP hD hS 0 rfl rfl 0 (by decide) k6 (fun _ h9 => h9) rfl hin rfl (by decide +kernel) rfl rfl (Nat.le_of_ble_eq_true rfl) dX10_init_12 (fun H locs hP hD hS => ?_)
  replace hP : va_P D vwCl ([(a, .inr (10, [.ref q1, .null, .int 0])), (q1, .inr (9, [.int 0, .ref (u2 0), .ref (u2 1), .ref (u2 2), .ref (u2 3), .ref (u2 4)])), ((u2 0), .inl (cI, 8, .inl (fun _ => 0))), ((u2 1), .inl (cI, 32, .inl (fun _ => 0))), ((u2 2), .inl (cI, 32, .inl (fun _ => 0))), ((u2 3), .inl (cI, 8, .inl (fun _ => 0))), ((u2 4), .inl (cI, 8, .inl (fun _ => 0)))]) H := hP
  replace hD : va_D A ([(a, .inr (10, [.ref q1, .null, .int 0])), (q1, .inr (9, [.int 0, .ref (u2 0), .ref (u2 1), .ref (u2 2), .ref (u2 3), .ref (u2 4)])), ((u2 0), .inl (cI, 8, .inl (fun _ => 0))), ((u2 1), .inl (cI, 32, .inl (fun _ => 0))), ((u2 2), .inl (cI, 32, .inl (fun _ => 0))), ((u2 3), .inl (cI, 8, .inl (fun _ => 0))), ((u2 4), .inl (cI, 8, .inl (fun _ => 0)))]) := hD
  refine lv_aload_n hx hb dX10_init_15 rfl (lv_at hl 0 rfl) ?_
  refine lv_iconst (v := 0) hx hb dX10_init_16 (by decide) ?_
  refine va_put (D := D) (ci := 10) (v := .int 0) (ty := .int) (C := RX10) (T := TX10) (N := 3) hx hb hts k7 tyX10 tyX10_ok nmX10 hown hKv hP hD hS 0 rfl rfl 2 (by decide) k8 (fun _ h9 => h9) rfl (by decide +kernel) rfl rfl (Nat.le_of_ble_eq_true rfl) dX10_init_17 (fun H locs hP hD hS => ?_)
  replace hP : va_P D vwCl ([(a, .inr (10, [.ref q1, .null, .int 0])), (q1, .inr (9, [.int 0, .ref (u2 0), .ref (u2 1), .ref (u2 2), .ref (u2 3), .ref (u2 4)])), ((u2 0), .inl (cI, 8, .inl (fun _ => 0))), ((u2 1), .inl (cI, 32, .inl (fun _ => 0))), ((u2 2), .inl (cI, 32, .inl (fun _ => 0))), ((u2 3), .inl (cI, 8, .inl (fun _ => 0))), ((u2 4), .inl (cI, 8, .inl (fun _ => 0)))]) H := hP
  replace hD : va_D A ([(a, .inr (10, [.ref q1, .null, .int 0])), (q1, .inr (9, [.int 0, .ref (u2 0), .ref (u2 1), .ref (u2 2), .ref (u2 3), .ref (u2 4)])), ((u2 0), .inl (cI, 8, .inl (fun _ => 0))), ((u2 1), .inl (cI, 32, .inl (fun _ => 0))), ((u2 2), .inl (cI, 32, .inl (fun _ => 0))), ((u2 3), .inl (cI, 8, .inl (fun _ => 0))), ((u2 4), .inl (cI, 8, .inl (fun _ => 0)))]) := hD
  refine lv_aload_n hx hb dX10_init_20 rfl (lv_at hl 0 rfl) ?_
  refine lv_aload_n hx hb dX10_init_21 rfl (lv_at hl 1 rfl) ?_
  refine va_putF (D := D) (ci := 10) (v := .ref p1) (ty := .object "CitationFormatter$Text") (C := RX10) (T := TX10) (N := 3) hx hb hts k7 tyX10 tyX10_ok nmX10 hown hKv hP hD hS 0 rfl rfl 1 (by decide) k9 (fun _ h9 => h9) rfl hin rfl (by decide +kernel) rfl rfl (Nat.le_of_ble_eq_true rfl) dX10_init_22 (fun H locs hP hD hS => ?_)
  replace hP : va_P D vwCl ([(a, .inr (10, [.ref q1, .ref p1, .int 0])), (q1, .inr (9, [.int 0, .ref (u2 0), .ref (u2 1), .ref (u2 2), .ref (u2 3), .ref (u2 4)])), ((u2 0), .inl (cI, 8, .inl (fun _ => 0))), ((u2 1), .inl (cI, 32, .inl (fun _ => 0))), ((u2 2), .inl (cI, 32, .inl (fun _ => 0))), ((u2 3), .inl (cI, 8, .inl (fun _ => 0))), ((u2 4), .inl (cI, 8, .inl (fun _ => 0)))]) H := hP
  replace hD : va_D A ([(a, .inr (10, [.ref q1, .ref p1, .int 0])), (q1, .inr (9, [.int 0, .ref (u2 0), .ref (u2 1), .ref (u2 2), .ref (u2 3), .ref (u2 4)])), ((u2 0), .inl (cI, 8, .inl (fun _ => 0))), ((u2 1), .inl (cI, 32, .inl (fun _ => 0))), ((u2 2), .inl (cI, 32, .inl (fun _ => 0))), ((u2 3), .inl (cI, 8, .inl (fun _ => 0))), ((u2 4), .inl (cI, 8, .inl (fun _ => 0)))]) := hD
  exact hret H locs _ ls (fun j => ([q1, (u2 0), (u2 1), (u2 2), (u2 3), (u2 4)] : List Nat).getD j 0) hP hD hS dX10_init_25
set_option maxHeartbeats 4000000 in
set_option maxRecDepth 100000 in
theorem c_X7_init (l : Launch) (D : va_G) (cI cJ cZ cS : ClassId) (a : Nat) : MN l yX7_init wsX7_init rm_X7_init D (TY cI cJ cZ cS) [.ref a] [(a, .inr (7, [.null, .null, .null]))] (fun u : Nat → Nat => [(a, .inr (7, [.ref (u 0), .ref (u 6), .ref (u 9)])), ((u 0), .inr (9, [.int 0, .ref (u 1), .ref (u 2), .ref (u 3), .ref (u 4), .ref (u 5)])), ((u 1), .inl (cI, 8, .inl (fun _ => 0))), ((u 2), .inl (cI, 32, .inl (fun _ => 0))), ((u 3), .inl (cI, 32, .inl (fun _ => 0))), ((u 4), .inl (cI, 8, .inl (fun _ => 0))), ((u 5), .inl (cI, 8, .inl (fun _ => 0))), ((u 6), .inr (6, [.int 0, .int 3, .int 1, .int 7, .int 0, .int 0, .int 0, .ref (u 7), .ref (u 8)])), ((u 7), .inl (cI, 3, .inl (upd (upd (upd (fun _ => 0) 0 1) 1 2) 2 0))), ((u 8), .inl (cI, 3, .inl (fun _ => 0))), ((u 9), .inr (1, [.int 0, .ref (u 10), .ref (u 11)])), ((u 10), .inl (cI, 10, .inl (fun _ => 0))), ((u 11), .inl (cI, 50, .inl (fun _ => 0)))]) 12 172 := by
  refine MN_of (cc := cX7_init) (maxL := 1) (by decide) rfl rfl (Nat.le_of_ble_eq_true rfl) ?_
  intro p e s m args below meth c A Q ls H locs hx hb hml hin hts hown hK hA hP hD hS hl hret
  have hown : s.vm.findClass RX7 = some m.cls := hown
  have hKv : va_K D vwCl (TY cI cJ cZ cS) s := hK.1.1
  have hl : lv_has ls 1 [(0, .ref a)] := hl
  have S : CallFix p m c cX7_init 1 s args wsX7_init RX7 := ⟨hx, hb, hml, hown, hts⟩
  have k1 : ∀ w ∈ wsX90, w ∈ wsX7_init := by decide +kernel
  have k2 := hts (.classLink RX7 7 RX9) (by decide +kernel)
  have k3 := hts (.instantiable RX9 6) (by decide +kernel)
  have k4 := hts (.initialized RX9) (by decide +kernel)
  have k5 : va_CN rm_X7_init s args RX7 9 yX9_init "CitationFormatter" cX9_init 1 none wsX9_init rm_X9_init 5 88 0 ∧ yX9_init.name = "<init>" ∧ (Cond.instanceMethod yX9_init).before args s = true := ⟨va_cnB 0 hts gX7_init_X9_init_n9 rfl rfl rfl (hK.1.2 (RX7, 9, yX9_init) (by decide +kernel)) (hts (.initialized RX9) (by decide +kernel)) (by decide +kernel) ⟨Nat.le_of_ble_eq_true rfl, Nat.le_of_ble_eq_true rfl⟩, rfl, hts (.instanceMethod yX9_init) (by decide +kernel)⟩
  have k6 := hts (.fieldLink RX7 10 "CitationFormatter$State" "works" "LCitationFormatter$Works;") (by decide +kernel)
  have k7 : ∀ w ∈ wsX70, w ∈ wsX7_init := by decide +kernel
  have k8 : ∀ w ∈ wsX60, w ∈ wsX7_init := by decide +kernel
  have k9 := hts (.classLink RX7 16 RX6) (by decide +kernel)
  have k10 := hts (.instantiable RX6 9) (by decide +kernel)
  have k11 := hts (.initialized RX6) (by decide +kernel)
  have k12 : va_CN rm_X7_init s args RX7 18 yX6_init "CitationFormatter" cX6_init 1 none wsX6_init rm_X6_init 2 6 0 ∧ yX6_init.name = "<init>" ∧ (Cond.instanceMethod yX6_init).before args s = true := ⟨va_cnB 0 hts gX7_init_X6_init_n18 rfl rfl rfl (hK.1.2 (RX7, 18, yX6_init) (by decide +kernel)) (hts (.initialized RX6) (by decide +kernel)) (by decide +kernel) ⟨Nat.le_of_ble_eq_true rfl, Nat.le_of_ble_eq_true rfl⟩, rfl, hts (.instanceMethod yX6_init) (by decide +kernel)⟩
  have k13 := hts (.fieldLink RX7 19 "CitationFormatter$State" "settings" "LCitationFormatter$Settings;") (by decide +kernel)
  have k14 : ∀ w ∈ wsX10, w ∈ wsX7_init := by decide +kernel
  have k15 := hts (.classLink RX7 23 RX1) (by decide +kernel)
  have k16 := hts (.instantiable RX1 3) (by decide +kernel)
  have k17 := hts (.initialized RX1) (by decide +kernel)
  have k18 : va_CN rm_X7_init s args RX7 25 yX1_init "CitationFormatter" cX1_init 1 none wsX1_init rm_X1_init 2 60 0 ∧ yX1_init.name = "<init>" ∧ (Cond.instanceMethod yX1_init).before args s = true := ⟨va_cnB 0 hts gX7_init_X1_init_n25 rfl rfl rfl (hK.1.2 (RX7, 25, yX1_init) (by decide +kernel)) (hts (.initialized RX1) (by decide +kernel)) (by decide +kernel) ⟨Nat.le_of_ble_eq_true rfl, Nat.le_of_ble_eq_true rfl⟩, rfl, hts (.instanceMethod yX1_init) (by decide +kernel)⟩
  have k19 := hts (.fieldLink RX7 26 "CitationFormatter$State" "citations" "LCitationFormatter$Citations;") (by decide +kernel)
  refine lv_aload_n hx hb dX7_init_0 rfl (lv_at hl 0 rfl) ?_
  refine W.objInit hx hb hown (hts (.methodLink RX7 1 objectInit) (by decide +kernel)) (hts (.instanceMethod objectInit) (by decide +kernel)) (hts (.code objectInit ⟨#[0xb1]⟩ 1 none) (by decide +kernel)) rfl (by rw [hml]; exact hl.1) rfl dX7_init_1 (Nat.le_of_ble_eq_true rfl) (Nat.le_of_ble_eq_true rfl) ?_
  refine W.eq (g2 := F0 m 4 ls []) rfl ?_
  refine lv_aload_n hx hb dX7_init_4 rfl (lv_at hl 0 rfl) ?_
  refine va_new (ci := 9) (fs := [.int 0, .null, .null, .null, .null, .null]) (C := RX9) (T := TX9) (N := 6) hx hb hts k1 tyX9 tyX9_ok hown k2 k3 k4 hKv hP hD hS hA rfl (fun j hj => by rcases (show j = 0 ∨ j = 1 ∨ j = 2 ∨ j = 3 ∨ j = 4 ∨ j = 5 by omega) with rfl | rfl | rfl | rfl | rfl | rfl <;> rfl) (Nat.le_of_ble_eq_true rfl) (Nat.le_of_ble_eq_true rfl) dX7_init_5 (fun q1 H hP hD hS => ?_)
  replace hP : va_P D vwCl ([(a, .inr (7, [.null, .null, .null])), (q1, .inr (9, [.int 0, .null, .null, .null, .null, .null]))]) H := hP
  replace hD : va_D A ([(a, .inr (7, [.null, .null, .null])), (q1, .inr (9, [.int 0, .null, .null, .null, .null, .null]))]) := hD
  refine W.widen (k := 1) (n := 6) (Nat.le_of_ble_eq_true rfl) (Nat.le_of_ble_eq_true rfl) ?_
  refine lv_dup hx hb dX7_init_8 rfl ?_
  refine kIN_n (rest := [.ref q1, .ref a]) (ws := [(a, .inr (7, [.null, .null, .null])), (q1, .inr (9, [.int 0, .null, .null, .null, .null, .null]))]) (wr := [(a, .inr (7, [.null, .null, .null]))]) (F := []) S (c_X9_init l D cI cJ cZ cS q1) k5 hK (by rw [List.append_nil]; exact hP) (by rw [List.append_nil]; exact hD) hS hA rfl hl.1 rfl (Nat.le_of_ble_eq_true rfl) ⟨Nat.le_of_ble_eq_true rfl, Nat.le_of_ble_eq_true rfl⟩ dX7_init_9 [1] [0] rfl rfl rfl rfl rfl (fun u2 H locs hP hD hS => ?_)
  rw [List.append_nil] at hP hD
  replace hP : va_P D vwCl ([(a, .inr (7, [.null, .null, .null])), (q1, .inr (9, [.int 0, .ref (u2 0), .ref (u2 1), .ref (u2 2), .ref (u2 3), .ref (u2 4)])), ((u2 0), .inl (cI, 8, .inl (fun _ => 0))), ((u2 1), .inl (cI, 32, .inl (fun _ => 0))), ((u2 2), .inl (cI, 32, .inl (fun _ => 0))), ((u2 3), .inl (cI, 8, .inl (fun _ => 0))), ((u2 4), .inl (cI, 8, .inl (fun _ => 0)))]) H := hP
  replace hD : va_D A ([(a, .inr (7, [.null, .null, .null])), (q1, .inr (9, [.int 0, .ref (u2 0), .ref (u2 1), .ref (u2 2), .ref (u2 3), .ref (u2 4)])), ((u2 0), .inl (cI, 8, .inl (fun _ => 0))), ((u2 1), .inl (cI, 32, .inl (fun _ => 0))), ((u2 2), .inl (cI, 32, .inl (fun _ => 0))), ((u2 3), .inl (cI, 8, .inl (fun _ => 0))), ((u2 4), .inl (cI, 8, .inl (fun _ => 0)))]) := hD
  refine W.widen (k := 6) (n := 94) (Nat.le_of_ble_eq_true rfl) (Nat.le_of_ble_eq_true rfl) ?_
  refine va_putF (D := D) (ci := 7) (v := .ref q1) (ty := .object "CitationFormatter$Works") (C := RX7) (T := TX7) (N := 3) hx hb hts k7 tyX7 tyX7_ok nmX7 hown hKv hP hD hS 0 rfl rfl 0 (by decide) k6 (fun _ h9 => h9) rfl hin rfl (by decide +kernel) rfl rfl (Nat.le_of_ble_eq_true rfl) dX7_init_12 (fun H locs hP hD hS => ?_)
  replace hP : va_P D vwCl ([(a, .inr (7, [.ref q1, .null, .null])), (q1, .inr (9, [.int 0, .ref (u2 0), .ref (u2 1), .ref (u2 2), .ref (u2 3), .ref (u2 4)])), ((u2 0), .inl (cI, 8, .inl (fun _ => 0))), ((u2 1), .inl (cI, 32, .inl (fun _ => 0))), ((u2 2), .inl (cI, 32, .inl (fun _ => 0))), ((u2 3), .inl (cI, 8, .inl (fun _ => 0))), ((u2 4), .inl (cI, 8, .inl (fun _ => 0)))]) H := hP
  replace hD : va_D A ([(a, .inr (7, [.ref q1, .null, .null])), (q1, .inr (9, [.int 0, .ref (u2 0), .ref (u2 1), .ref (u2 2), .ref (u2 3), .ref (u2 4)])), ((u2 0), .inl (cI, 8, .inl (fun _ => 0))), ((u2 1), .inl (cI, 32, .inl (fun _ => 0))), ((u2 2), .inl (cI, 32, .inl (fun _ => 0))), ((u2 3), .inl (cI, 8, .inl (fun _ => 0))), ((u2 4), .inl (cI, 8, .inl (fun _ => 0)))]) := hD
  refine lv_aload_n hx hb dX7_init_15 rfl (lv_at hl 0 rfl) ?_
  refine va_new (ci := 6) (fs := [.int 0, .int 0, .int 0, .int 0, .int 0, .int 0, .int 0, .null, .null]) (C := RX6) (T := TX6) (N := 9) hx hb hts k8 tyX6 tyX6_ok hown k9 k10 k11 hKv hP hD hS hA rfl (fun j hj => by rcases (show j = 0 ∨ j = 1 ∨ j = 2 ∨ j = 3 ∨ j = 4 ∨ j = 5 ∨ j = 6 ∨ j = 7 ∨ j = 8 by omega) with rfl | rfl | rfl | rfl | rfl | rfl | rfl | rfl | rfl <;> rfl) (Nat.le_of_ble_eq_true rfl) (Nat.le_of_ble_eq_true rfl) dX7_init_16 (fun q3 H hP hD hS => ?_)
  replace hP : va_P D vwCl ([(a, .inr (7, [.ref q1, .null, .null])), (q1, .inr (9, [.int 0, .ref (u2 0), .ref (u2 1), .ref (u2 2), .ref (u2 3), .ref (u2 4)])), ((u2 0), .inl (cI, 8, .inl (fun _ => 0))), ((u2 1), .inl (cI, 32, .inl (fun _ => 0))), ((u2 2), .inl (cI, 32, .inl (fun _ => 0))), ((u2 3), .inl (cI, 8, .inl (fun _ => 0))), ((u2 4), .inl (cI, 8, .inl (fun _ => 0))), (q3, .inr (6, [.int 0, .int 0, .int 0, .int 0, .int 0, .int 0, .int 0, .null, .null]))]) H := hP
  replace hD : va_D A ([(a, .inr (7, [.ref q1, .null, .null])), (q1, .inr (9, [.int 0, .ref (u2 0), .ref (u2 1), .ref (u2 2), .ref (u2 3), .ref (u2 4)])), ((u2 0), .inl (cI, 8, .inl (fun _ => 0))), ((u2 1), .inl (cI, 32, .inl (fun _ => 0))), ((u2 2), .inl (cI, 32, .inl (fun _ => 0))), ((u2 3), .inl (cI, 8, .inl (fun _ => 0))), ((u2 4), .inl (cI, 8, .inl (fun _ => 0))), (q3, .inr (6, [.int 0, .int 0, .int 0, .int 0, .int 0, .int 0, .int 0, .null, .null]))]) := hD
  refine W.widen (k := 7) (n := 103) (Nat.le_of_ble_eq_true rfl) (Nat.le_of_ble_eq_true rfl) ?_
  refine lv_dup hx hb dX7_init_19 rfl ?_
  refine kIN_n (rest := [.ref q3, .ref a]) (ws := [(a, .inr (7, [.ref q1, .null, .null])), (q1, .inr (9, [.int 0, .ref (u2 0), .ref (u2 1), .ref (u2 2), .ref (u2 3), .ref (u2 4)])), ((u2 0), .inl (cI, 8, .inl (fun _ => 0))), ((u2 1), .inl (cI, 32, .inl (fun _ => 0))), ((u2 2), .inl (cI, 32, .inl (fun _ => 0))), ((u2 3), .inl (cI, 8, .inl (fun _ => 0))), ((u2 4), .inl (cI, 8, .inl (fun _ => 0))), (q3, .inr (6, [.int 0, .int 0, .int 0, .int 0, .int 0, .int 0, .int 0, .null, .null]))]) (wr := [(a, .inr (7, [.ref q1, .null, .null])), (q1, .inr (9, [.int 0, .ref (u2 0), .ref (u2 1), .ref (u2 2), .ref (u2 3), .ref (u2 4)])), ((u2 0), .inl (cI, 8, .inl (fun _ => 0))), ((u2 1), .inl (cI, 32, .inl (fun _ => 0))), ((u2 2), .inl (cI, 32, .inl (fun _ => 0))), ((u2 3), .inl (cI, 8, .inl (fun _ => 0))), ((u2 4), .inl (cI, 8, .inl (fun _ => 0)))]) (F := []) S (c_X6_init l D cI cJ cZ cS q3) k12 hK (by rw [List.append_nil]; exact hP) (by rw [List.append_nil]; exact hD) hS hA rfl hl.1 rfl (Nat.le_of_ble_eq_true rfl) ⟨Nat.le_of_ble_eq_true rfl, Nat.le_of_ble_eq_true rfl⟩ dX7_init_20 [7] [0, 1, 2, 3, 4, 5, 6] rfl rfl rfl rfl rfl (fun u4 H locs hP hD hS => ?_)
  rw [List.append_nil] at hP hD
  replace hP : va_P D vwCl ([(a, .inr (7, [.ref q1, .null, .null])), (q1, .inr (9, [.int 0, .ref (u2 0), .ref (u2 1), .ref (u2 2), .ref (u2 3), .ref (u2 4)])), ((u2 0), .inl (cI, 8, .inl (fun _ => 0))), ((u2 1), .inl (cI, 32, .inl (fun _ => 0))), ((u2 2), .inl (cI, 32, .inl (fun _ => 0))), ((u2 3), .inl (cI, 8, .inl (fun _ => 0))), ((u2 4), .inl (cI, 8, .inl (fun _ => 0))), (q3, .inr (6, [.int 0, .int 3, .int 1, .int 7, .int 0, .int 0, .int 0, .ref (u4 0), .ref (u4 1)])), ((u4 0), .inl (cI, 3, .inl (upd (upd (upd (fun _ => 0) 0 1) 1 2) 2 0))), ((u4 1), .inl (cI, 3, .inl (fun _ => 0)))]) H := hP
  replace hD : va_D A ([(a, .inr (7, [.ref q1, .null, .null])), (q1, .inr (9, [.int 0, .ref (u2 0), .ref (u2 1), .ref (u2 2), .ref (u2 3), .ref (u2 4)])), ((u2 0), .inl (cI, 8, .inl (fun _ => 0))), ((u2 1), .inl (cI, 32, .inl (fun _ => 0))), ((u2 2), .inl (cI, 32, .inl (fun _ => 0))), ((u2 3), .inl (cI, 8, .inl (fun _ => 0))), ((u2 4), .inl (cI, 8, .inl (fun _ => 0))), (q3, .inr (6, [.int 0, .int 3, .int 1, .int 7, .int 0, .int 0, .int 0, .ref (u4 0), .ref (u4 1)])), ((u4 0), .inl (cI, 3, .inl (upd (upd (upd (fun _ => 0) 0 1) 1 2) 2 0))), ((u4 1), .inl (cI, 3, .inl (fun _ => 0)))]) := hD
  refine W.widen (k := 9) (n := 109) (Nat.le_of_ble_eq_true rfl) (Nat.le_of_ble_eq_true rfl) ?_
  refine va_putF (D := D) (ci := 7) (v := .ref q3) (ty := .object "CitationFormatter$Settings") (C := RX7) (T := TX7) (N := 3) hx hb hts k7 tyX7 tyX7_ok nmX7 hown hKv hP hD hS 0 rfl rfl 1 (by decide) k13 (fun _ h9 => h9) rfl hin rfl (by decide +kernel) rfl rfl (Nat.le_of_ble_eq_true rfl) dX7_init_23 (fun H locs hP hD hS => ?_)
  replace hP : va_P D vwCl ([(a, .inr (7, [.ref q1, .ref q3, .null])), (q1, .inr (9, [.int 0, .ref (u2 0), .ref (u2 1), .ref (u2 2), .ref (u2 3), .ref (u2 4)])), ((u2 0), .inl (cI, 8, .inl (fun _ => 0))), ((u2 1), .inl (cI, 32, .inl (fun _ => 0))), ((u2 2), .inl (cI, 32, .inl (fun _ => 0))), ((u2 3), .inl (cI, 8, .inl (fun _ => 0))), ((u2 4), .inl (cI, 8, .inl (fun _ => 0))), (q3, .inr (6, [.int 0, .int 3, .int 1, .int 7, .int 0, .int 0, .int 0, .ref (u4 0), .ref (u4 1)])), ((u4 0), .inl (cI, 3, .inl (upd (upd (upd (fun _ => 0) 0 1) 1 2) 2 0))), ((u4 1), .inl (cI, 3, .inl (fun _ => 0)))]) H := hP
  replace hD : va_D A ([(a, .inr (7, [.ref q1, .ref q3, .null])), (q1, .inr (9, [.int 0, .ref (u2 0), .ref (u2 1), .ref (u2 2), .ref (u2 3), .ref (u2 4)])), ((u2 0), .inl (cI, 8, .inl (fun _ => 0))), ((u2 1), .inl (cI, 32, .inl (fun _ => 0))), ((u2 2), .inl (cI, 32, .inl (fun _ => 0))), ((u2 3), .inl (cI, 8, .inl (fun _ => 0))), ((u2 4), .inl (cI, 8, .inl (fun _ => 0))), (q3, .inr (6, [.int 0, .int 3, .int 1, .int 7, .int 0, .int 0, .int 0, .ref (u4 0), .ref (u4 1)])), ((u4 0), .inl (cI, 3, .inl (upd (upd (upd (fun _ => 0) 0 1) 1 2) 2 0))), ((u4 1), .inl (cI, 3, .inl (fun _ => 0)))]) := hD
  refine lv_aload_n hx hb dX7_init_26 rfl (lv_at hl 0 rfl) ?_
  refine va_new (ci := 1) (fs := [.int 0, .null, .null]) (C := RX1) (T := TX1) (N := 3) hx hb hts k14 tyX1 tyX1_ok hown k15 k16 k17 hKv hP hD hS hA rfl (fun j hj => by rcases (show j = 0 ∨ j = 1 ∨ j = 2 by omega) with rfl | rfl | rfl <;> rfl) (Nat.le_of_ble_eq_true rfl) (Nat.le_of_ble_eq_true rfl) dX7_init_27 (fun q5 H hP hD hS => ?_)
  replace hP : va_P D vwCl ([(a, .inr (7, [.ref q1, .ref q3, .null])), (q1, .inr (9, [.int 0, .ref (u2 0), .ref (u2 1), .ref (u2 2), .ref (u2 3), .ref (u2 4)])), ((u2 0), .inl (cI, 8, .inl (fun _ => 0))), ((u2 1), .inl (cI, 32, .inl (fun _ => 0))), ((u2 2), .inl (cI, 32, .inl (fun _ => 0))), ((u2 3), .inl (cI, 8, .inl (fun _ => 0))), ((u2 4), .inl (cI, 8, .inl (fun _ => 0))), (q3, .inr (6, [.int 0, .int 3, .int 1, .int 7, .int 0, .int 0, .int 0, .ref (u4 0), .ref (u4 1)])), ((u4 0), .inl (cI, 3, .inl (upd (upd (upd (fun _ => 0) 0 1) 1 2) 2 0))), ((u4 1), .inl (cI, 3, .inl (fun _ => 0))), (q5, .inr (1, [.int 0, .null, .null]))]) H := hP
  replace hD : va_D A ([(a, .inr (7, [.ref q1, .ref q3, .null])), (q1, .inr (9, [.int 0, .ref (u2 0), .ref (u2 1), .ref (u2 2), .ref (u2 3), .ref (u2 4)])), ((u2 0), .inl (cI, 8, .inl (fun _ => 0))), ((u2 1), .inl (cI, 32, .inl (fun _ => 0))), ((u2 2), .inl (cI, 32, .inl (fun _ => 0))), ((u2 3), .inl (cI, 8, .inl (fun _ => 0))), ((u2 4), .inl (cI, 8, .inl (fun _ => 0))), (q3, .inr (6, [.int 0, .int 3, .int 1, .int 7, .int 0, .int 0, .int 0, .ref (u4 0), .ref (u4 1)])), ((u4 0), .inl (cI, 3, .inl (upd (upd (upd (fun _ => 0) 0 1) 1 2) 2 0))), ((u4 1), .inl (cI, 3, .inl (fun _ => 0))), (q5, .inr (1, [.int 0, .null, .null]))]) := hD
  refine W.widen (k := 10) (n := 112) (Nat.le_of_ble_eq_true rfl) (Nat.le_of_ble_eq_true rfl) ?_
  refine lv_dup hx hb dX7_init_30 rfl ?_
  refine kIN_n (rest := [.ref q5, .ref a]) (ws := [(a, .inr (7, [.ref q1, .ref q3, .null])), (q1, .inr (9, [.int 0, .ref (u2 0), .ref (u2 1), .ref (u2 2), .ref (u2 3), .ref (u2 4)])), ((u2 0), .inl (cI, 8, .inl (fun _ => 0))), ((u2 1), .inl (cI, 32, .inl (fun _ => 0))), ((u2 2), .inl (cI, 32, .inl (fun _ => 0))), ((u2 3), .inl (cI, 8, .inl (fun _ => 0))), ((u2 4), .inl (cI, 8, .inl (fun _ => 0))), (q3, .inr (6, [.int 0, .int 3, .int 1, .int 7, .int 0, .int 0, .int 0, .ref (u4 0), .ref (u4 1)])), ((u4 0), .inl (cI, 3, .inl (upd (upd (upd (fun _ => 0) 0 1) 1 2) 2 0))), ((u4 1), .inl (cI, 3, .inl (fun _ => 0))), (q5, .inr (1, [.int 0, .null, .null]))]) (wr := [(a, .inr (7, [.ref q1, .ref q3, .null])), (q1, .inr (9, [.int 0, .ref (u2 0), .ref (u2 1), .ref (u2 2), .ref (u2 3), .ref (u2 4)])), ((u2 0), .inl (cI, 8, .inl (fun _ => 0))), ((u2 1), .inl (cI, 32, .inl (fun _ => 0))), ((u2 2), .inl (cI, 32, .inl (fun _ => 0))), ((u2 3), .inl (cI, 8, .inl (fun _ => 0))), ((u2 4), .inl (cI, 8, .inl (fun _ => 0))), (q3, .inr (6, [.int 0, .int 3, .int 1, .int 7, .int 0, .int 0, .int 0, .ref (u4 0), .ref (u4 1)])), ((u4 0), .inl (cI, 3, .inl (upd (upd (upd (fun _ => 0) 0 1) 1 2) 2 0))), ((u4 1), .inl (cI, 3, .inl (fun _ => 0)))]) (F := []) S (c_X1_init l D cI cJ cZ cS q5) k18 hK (by rw [List.append_nil]; exact hP) (by rw [List.append_nil]; exact hD) hS hA rfl hl.1 rfl (Nat.le_of_ble_eq_true rfl) ⟨Nat.le_of_ble_eq_true rfl, Nat.le_of_ble_eq_true rfl⟩ dX7_init_31 [10] [0, 1, 2, 3, 4, 5, 6, 7, 8, 9] rfl rfl rfl rfl rfl (fun u6 H locs hP hD hS => ?_)
  rw [List.append_nil] at hP hD
  replace hP : va_P D vwCl ([(a, .inr (7, [.ref q1, .ref q3, .null])), (q1, .inr (9, [.int 0, .ref (u2 0), .ref (u2 1), .ref (u2 2), .ref (u2 3), .ref (u2 4)])), ((u2 0), .inl (cI, 8, .inl (fun _ => 0))), ((u2 1), .inl (cI, 32, .inl (fun _ => 0))), ((u2 2), .inl (cI, 32, .inl (fun _ => 0))), ((u2 3), .inl (cI, 8, .inl (fun _ => 0))), ((u2 4), .inl (cI, 8, .inl (fun _ => 0))), (q3, .inr (6, [.int 0, .int 3, .int 1, .int 7, .int 0, .int 0, .int 0, .ref (u4 0), .ref (u4 1)])), ((u4 0), .inl (cI, 3, .inl (upd (upd (upd (fun _ => 0) 0 1) 1 2) 2 0))), ((u4 1), .inl (cI, 3, .inl (fun _ => 0))), (q5, .inr (1, [.int 0, .ref (u6 0), .ref (u6 1)])), ((u6 0), .inl (cI, 10, .inl (fun _ => 0))), ((u6 1), .inl (cI, 50, .inl (fun _ => 0)))]) H := hP
  replace hD : va_D A ([(a, .inr (7, [.ref q1, .ref q3, .null])), (q1, .inr (9, [.int 0, .ref (u2 0), .ref (u2 1), .ref (u2 2), .ref (u2 3), .ref (u2 4)])), ((u2 0), .inl (cI, 8, .inl (fun _ => 0))), ((u2 1), .inl (cI, 32, .inl (fun _ => 0))), ((u2 2), .inl (cI, 32, .inl (fun _ => 0))), ((u2 3), .inl (cI, 8, .inl (fun _ => 0))), ((u2 4), .inl (cI, 8, .inl (fun _ => 0))), (q3, .inr (6, [.int 0, .int 3, .int 1, .int 7, .int 0, .int 0, .int 0, .ref (u4 0), .ref (u4 1)])), ((u4 0), .inl (cI, 3, .inl (upd (upd (upd (fun _ => 0) 0 1) 1 2) 2 0))), ((u4 1), .inl (cI, 3, .inl (fun _ => 0))), (q5, .inr (1, [.int 0, .ref (u6 0), .ref (u6 1)])), ((u6 0), .inl (cI, 10, .inl (fun _ => 0))), ((u6 1), .inl (cI, 50, .inl (fun _ => 0)))]) := hD
  refine W.widen (k := 12) (n := 172) (Nat.le_of_ble_eq_true rfl) (Nat.le_of_ble_eq_true rfl) ?_
  refine va_putF (D := D) (ci := 7) (v := .ref q5) (ty := .object "CitationFormatter$Citations") (C := RX7) (T := TX7) (N := 3) hx hb hts k7 tyX7 tyX7_ok nmX7 hown hKv hP hD hS 0 rfl rfl 2 (by decide) k19 (fun _ h9 => h9) rfl hin rfl (by decide +kernel) rfl rfl (Nat.le_of_ble_eq_true rfl) dX7_init_34 (fun H locs hP hD hS => ?_)
  replace hP : va_P D vwCl ([(a, .inr (7, [.ref q1, .ref q3, .ref q5])), (q1, .inr (9, [.int 0, .ref (u2 0), .ref (u2 1), .ref (u2 2), .ref (u2 3), .ref (u2 4)])), ((u2 0), .inl (cI, 8, .inl (fun _ => 0))), ((u2 1), .inl (cI, 32, .inl (fun _ => 0))), ((u2 2), .inl (cI, 32, .inl (fun _ => 0))), ((u2 3), .inl (cI, 8, .inl (fun _ => 0))), ((u2 4), .inl (cI, 8, .inl (fun _ => 0))), (q3, .inr (6, [.int 0, .int 3, .int 1, .int 7, .int 0, .int 0, .int 0, .ref (u4 0), .ref (u4 1)])), ((u4 0), .inl (cI, 3, .inl (upd (upd (upd (fun _ => 0) 0 1) 1 2) 2 0))), ((u4 1), .inl (cI, 3, .inl (fun _ => 0))), (q5, .inr (1, [.int 0, .ref (u6 0), .ref (u6 1)])), ((u6 0), .inl (cI, 10, .inl (fun _ => 0))), ((u6 1), .inl (cI, 50, .inl (fun _ => 0)))]) H := hP
  replace hD : va_D A ([(a, .inr (7, [.ref q1, .ref q3, .ref q5])), (q1, .inr (9, [.int 0, .ref (u2 0), .ref (u2 1), .ref (u2 2), .ref (u2 3), .ref (u2 4)])), ((u2 0), .inl (cI, 8, .inl (fun _ => 0))), ((u2 1), .inl (cI, 32, .inl (fun _ => 0))), ((u2 2), .inl (cI, 32, .inl (fun _ => 0))), ((u2 3), .inl (cI, 8, .inl (fun _ => 0))), ((u2 4), .inl (cI, 8, .inl (fun _ => 0))), (q3, .inr (6, [.int 0, .int 3, .int 1, .int 7, .int 0, .int 0, .int 0, .ref (u4 0), .ref (u4 1)])), ((u4 0), .inl (cI, 3, .inl (upd (upd (upd (fun _ => 0) 0 1) 1 2) 2 0))), ((u4 1), .inl (cI, 3, .inl (fun _ => 0))), (q5, .inr (1, [.int 0, .ref (u6 0), .ref (u6 1)])), ((u6 0), .inl (cI, 10, .inl (fun _ => 0))), ((u6 1), .inl (cI, 50, .inl (fun _ => 0)))]) := hD
  exact hret H locs _ ls (fun j => ([q1, (u2 0), (u2 1), (u2 2), (u2 3), (u2 4), q3, (u4 0), (u4 1), q5, (u6 0), (u6 1)] : List Nat).getD j 0) hP hD hS dX7_init_37
set_option maxHeartbeats 4000000 in
set_option maxRecDepth 100000 in
theorem c_X12_init (l : Launch) (D : va_G) (cI cJ cZ cS : ClassId) (a : Nat) : MN l yX12_init wsX12_init rm_X12_init D (TY cI cJ cZ cS) [.ref a] [(a, .inr (12, [.null, .null, .int 0, .null, .int 0, .null, .int 0, .int 0, .int 0, .null, .null, .null, .null, .null, .null, .null, .null, .int 0, .null]))] (fun u : Nat → Nat => [(a, .inr (12, [.ref (u 0), .ref (u 1), .int 0, .ref (u 2), .int 0, .ref (u 3), .int 0, .int 0, .int 0, .ref (u 4), .ref (u 5), .ref (u 6), .ref (u 7), .ref (u 8), .ref (u 9), .ref (u 10), .ref (u 11), .int 0, .ref (u 12)])), ((u 0), .inl (cI, 131, .inl (upd (upd (upd (upd (upd (fun _ => 0) 58 3) 59 1) 60 7) 64 1) 66 2))), ((u 1), .inl (cI, 1048, .inl (fun _ => 0))), ((u 2), .inl (cI, 150, .inl (fun _ => 0))), ((u 3), .inl (cI, 57, .inl (fun _ => 0))), ((u 4), .inl (cI, 8, .inl (fun _ => 0))), ((u 5), .inl (cI, 8, .inl (fun _ => 0))), ((u 6), .inl (cI, 8, .inl (fun _ => 0))), ((u 7), .inl (cZ, 8, .inl (fun _ => 0))), ((u 8), .inl (cI, 8, .inl (fun _ => 0))), ((u 9), .inl (cI, 8, .inl (fun _ => 0))), ((u 10), .inl (cI, 8, .inl (fun _ => 0))), ((u 11), .inl (cI, 300, .inl (fun _ => 0))), ((u 12), .inl (cI, 5, .inl (fun _ => 0)))]) 13 1747 := by
  refine MN_of (cc := cX12_init) (maxL := 1) (by decide) rfl rfl (Nat.le_of_ble_eq_true rfl) ?_
  intro p e s m args below meth c A Q ls H locs hx hb hml hin hts hown hK hA hP hD hS hl hret
  have hown : s.vm.findClass RX12 = some m.cls := hown
  have hKv : va_K D vwCl (TY cI cJ cZ cS) s := hK.1.1
  have hl : lv_has ls 1 [(0, .ref a)] := hl
  have S : CallFix p m c cX12_init 1 s args wsX12_init RX12 := ⟨hx, hb, hml, hown, hts⟩
  have k1 := hts (.arrayClass .int) (by decide +kernel)
  have k2 := hts (.fieldLink RX12 7 "CitationFormatterModel" "s" "[I") (by decide +kernel)
  have k3 : ∀ w ∈ wsX120, w ∈ wsX12_init := by decide +kernel
  have k4 := hts (.fieldLink RX12 13 "CitationFormatterModel" "kept" "[I") (by decide +kernel)
  have k5 := hts (.fieldLink RX12 16 "CitationFormatterModel" "text" "[I") (by decide +kernel)
  have k6 := hts (.fieldLink RX12 19 "CitationFormatterModel" "read" "[I") (by decide +kernel)
  have k7 := hts (.fieldLink RX12 22 "CitationFormatterModel" "byOrder" "[I") (by decide +kernel)
  have k8 := hts (.fieldLink RX12 25 "CitationFormatterModel" "byNumber" "[I") (by decide +kernel)
  have k9 := hts (.fieldLink RX12 28 "CitationFormatterModel" "shown" "[I") (by decide +kernel)
  have k10 := hts (.arrayClass .boolean) (by decide +kernel)
  have k11 := hts (.fieldLink RX12 31 "CitationFormatterModel" "initials" "[Z") (by decide +kernel)
  have k12 := hts (.fieldLink RX12 35 "CitationFormatterModel" "suffix" "[I") (by decide +kernel)
  have k13 := hts (.fieldLink RX12 38 "CitationFormatterModel" "group" "[I") (by decide +kernel)
  have k14 := hts (.fieldLink RX12 41 "CitationFormatterModel" "tried" "[I") (by decide +kernel)
  have k15 := hts (.fieldLink RX12 44 "CitationFormatterModel" "out" "[I") (by decide +kernel)
  have k16 := hts (.fieldLink RX12 47 "CitationFormatterModel" "row" "[I") (by decide +kernel)
  refine lv_aload_n hx hb dX12_init_0 rfl (lv_at hl 0 rfl) ?_
  refine W.objInit hx hb hown (hts (.methodLink RX12 1 objectInit) (by decide +kernel)) (hts (.instanceMethod objectInit) (by decide +kernel)) (hts (.code objectInit ⟨#[0xb1]⟩ 1 none) (by decide +kernel)) rfl (by rw [hml]; exact hl.1) rfl dX12_init_1 (Nat.le_of_ble_eq_true rfl) (Nat.le_of_ble_eq_true rfl) ?_
  refine W.eq (g2 := F0 m 4 ls []) rfl ?_
  refine lv_aload_n hx hb dX12_init_4 rfl (lv_at hl 0 rfl) ?_
  refine lv_sipush (v := 131) hx hb dX12_init_5 (by decide) ?_
  refine va_newa (atype := .int) (ty := .int) (a0 := (131, .inl (fun _ => 0))) (N' := 131) hx hb k1 rfl hKv hP hD hS hA (fun _ => rfl) (by decide) (by decide) (by decide) (Nat.le_of_ble_eq_true rfl) (Nat.le_of_ble_eq_true rfl) dX12_init_8 (fun q1 cA H hKn hP hD hS => ?_)
  obtain rfl := (newI hKn).symm
  replace hP : va_P D vwCl ([(a, .inr (12, [.null, .null, .int 0, .null, .int 0, .null, .int 0, .int 0, .int 0, .null, .null, .null, .null, .null, .null, .null, .null, .int 0, .null])), (q1, .inl (cI, 131, .inl (fun _ => 0)))]) H := hP
  replace hD : va_D A ([(a, .inr (12, [.null, .null, .int 0, .null, .int 0, .null, .int 0, .int 0, .int 0, .null, .null, .null, .null, .null, .null, .null, .null, .int 0, .null])), (q1, .inl (cI, 131, .inl (fun _ => 0)))]) := hD
  refine W.widen (k := 1) (n := 131) (Nat.le_of_ble_eq_true rfl) (Nat.le_of_ble_eq_true rfl) ?_
  refine va_putF (D := D) (ci := 12) (v := .ref q1) (ty := .array .int) (C := RX12) (T := TX12) (N := 19) hx hb hts k3 tyX12 tyX12_ok nmX12 hown hKv hP hD hS 0 rfl rfl 0 (by decide) k2 (fun _ h9 => h9) rfl hin rfl (by decide +kernel) rfl rfl (Nat.le_of_ble_eq_true rfl) dX12_init_10 (fun H locs hP hD hS => ?_)
  replace hP : va_P D vwCl ([(a, .inr (12, [.ref q1, .null, .int 0, .null, .int 0, .null, .int 0, .int 0, .int 0, .null, .null, .null, .null, .null, .null, .null, .null, .int 0, .null])), (q1, .inl (cI, 131, .inl (fun _ => 0)))]) H := hP
  replace hD : va_D A ([(a, .inr (12, [.ref q1, .null, .int 0, .null, .int 0, .null, .int 0, .int 0, .int 0, .null, .null, .null, .null, .null, .null, .null, .null, .int 0, .null])), (q1, .inl (cI, 131, .inl (fun _ => 0)))]) := hD
  refine lv_aload_n hx hb dX12_init_13 rfl (lv_at hl 0 rfl) ?_
  refine lv_sipush (v := 1048) hx hb dX12_init_14 (by decide) ?_
  refine va_newa (atype := .int) (ty := .int) (a0 := (1048, .inl (fun _ => 0))) (N' := 1048) hx hb k1 rfl hKv hP hD hS hA (fun _ => rfl) (by decide) (by decide) (by decide) (Nat.le_of_ble_eq_true rfl) (Nat.le_of_ble_eq_true rfl) dX12_init_17 (fun q2 cA H hKn hP hD hS => ?_)
  obtain rfl := (newI hKn).symm
  replace hP : va_P D vwCl ([(a, .inr (12, [.ref q1, .null, .int 0, .null, .int 0, .null, .int 0, .int 0, .int 0, .null, .null, .null, .null, .null, .null, .null, .null, .int 0, .null])), (q1, .inl (cI, 131, .inl (fun _ => 0))), (q2, .inl (cI, 1048, .inl (fun _ => 0)))]) H := hP
  replace hD : va_D A ([(a, .inr (12, [.ref q1, .null, .int 0, .null, .int 0, .null, .int 0, .int 0, .int 0, .null, .null, .null, .null, .null, .null, .null, .null, .int 0, .null])), (q1, .inl (cI, 131, .inl (fun _ => 0))), (q2, .inl (cI, 1048, .inl (fun _ => 0)))]) := hD
  refine W.widen (k := 2) (n := 1179) (Nat.le_of_ble_eq_true rfl) (Nat.le_of_ble_eq_true rfl) ?_
  refine va_putF (D := D) (ci := 12) (v := .ref q2) (ty := .array .int) (C := RX12) (T := TX12) (N := 19) hx hb hts k3 tyX12 tyX12_ok nmX12 hown hKv hP hD hS 0 rfl rfl 1 (by decide) k4 (fun _ h9 => h9) rfl hin rfl (by decide +kernel) rfl rfl (Nat.le_of_ble_eq_true rfl) dX12_init_19 (fun H locs hP hD hS => ?_)
  replace hP : va_P D vwCl ([(a, .inr (12, [.ref q1, .ref q2, .int 0, .null, .int 0, .null, .int 0, .int 0, .int 0, .null, .null, .null, .null, .null, .null, .null, .null, .int 0, .null])), (q1, .inl (cI, 131, .inl (fun _ => 0))), (q2, .inl (cI, 1048, .inl (fun _ => 0)))]) H := hP
  replace hD : va_D A ([(a, .inr (12, [.ref q1, .ref q2, .int 0, .null, .int 0, .null, .int 0, .int 0, .int 0, .null, .null, .null, .null, .null, .null, .null, .null, .int 0, .null])), (q1, .inl (cI, 131, .inl (fun _ => 0))), (q2, .inl (cI, 1048, .inl (fun _ => 0)))]) := hD
  refine lv_aload_n hx hb dX12_init_22 rfl (lv_at hl 0 rfl) ?_
  refine lv_sipush (v := 150) hx hb dX12_init_23 (by decide) ?_
  refine va_newa (atype := .int) (ty := .int) (a0 := (150, .inl (fun _ => 0))) (N' := 150) hx hb k1 rfl hKv hP hD hS hA (fun _ => rfl) (by decide) (by decide) (by decide) (Nat.le_of_ble_eq_true rfl) (Nat.le_of_ble_eq_true rfl) dX12_init_26 (fun q3 cA H hKn hP hD hS => ?_)
  obtain rfl := (newI hKn).symm
  replace hP : va_P D vwCl ([(a, .inr (12, [.ref q1, .ref q2, .int 0, .null, .int 0, .null, .int 0, .int 0, .int 0, .null, .null, .null, .null, .null, .null, .null, .null, .int 0, .null])), (q1, .inl (cI, 131, .inl (fun _ => 0))), (q2, .inl (cI, 1048, .inl (fun _ => 0))), (q3, .inl (cI, 150, .inl (fun _ => 0)))]) H := hP
  replace hD : va_D A ([(a, .inr (12, [.ref q1, .ref q2, .int 0, .null, .int 0, .null, .int 0, .int 0, .int 0, .null, .null, .null, .null, .null, .null, .null, .null, .int 0, .null])), (q1, .inl (cI, 131, .inl (fun _ => 0))), (q2, .inl (cI, 1048, .inl (fun _ => 0))), (q3, .inl (cI, 150, .inl (fun _ => 0)))]) := hD
  refine W.widen (k := 3) (n := 1329) (Nat.le_of_ble_eq_true rfl) (Nat.le_of_ble_eq_true rfl) ?_
  refine va_putF (D := D) (ci := 12) (v := .ref q3) (ty := .array .int) (C := RX12) (T := TX12) (N := 19) hx hb hts k3 tyX12 tyX12_ok nmX12 hown hKv hP hD hS 0 rfl rfl 3 (by decide) k5 (fun _ h9 => h9) rfl hin rfl (by decide +kernel) rfl rfl (Nat.le_of_ble_eq_true rfl) dX12_init_28 (fun H locs hP hD hS => ?_)
  replace hP : va_P D vwCl ([(a, .inr (12, [.ref q1, .ref q2, .int 0, .ref q3, .int 0, .null, .int 0, .int 0, .int 0, .null, .null, .null, .null, .null, .null, .null, .null, .int 0, .null])), (q1, .inl (cI, 131, .inl (fun _ => 0))), (q2, .inl (cI, 1048, .inl (fun _ => 0))), (q3, .inl (cI, 150, .inl (fun _ => 0)))]) H := hP
  replace hD : va_D A ([(a, .inr (12, [.ref q1, .ref q2, .int 0, .ref q3, .int 0, .null, .int 0, .int 0, .int 0, .null, .null, .null, .null, .null, .null, .null, .null, .int 0, .null])), (q1, .inl (cI, 131, .inl (fun _ => 0))), (q2, .inl (cI, 1048, .inl (fun _ => 0))), (q3, .inl (cI, 150, .inl (fun _ => 0)))]) := hD
  refine lv_aload_n hx hb dX12_init_31 rfl (lv_at hl 0 rfl) ?_
  refine lv_bipush (v := 57) hx hb dX12_init_32 (by decide) ?_
  refine va_newa (atype := .int) (ty := .int) (a0 := (57, .inl (fun _ => 0))) (N' := 57) hx hb k1 rfl hKv hP hD hS hA (fun _ => rfl) (by decide) (by decide) (by decide) (Nat.le_of_ble_eq_true rfl) (Nat.le_of_ble_eq_true rfl) dX12_init_34 (fun q4 cA H hKn hP hD hS => ?_)
  obtain rfl := (newI hKn).symm
  replace hP : va_P D vwCl ([(a, .inr (12, [.ref q1, .ref q2, .int 0, .ref q3, .int 0, .null, .int 0, .int 0, .int 0, .null, .null, .null, .null, .null, .null, .null, .null, .int 0, .null])), (q1, .inl (cI, 131, .inl (fun _ => 0))), (q2, .inl (cI, 1048, .inl (fun _ => 0))), (q3, .inl (cI, 150, .inl (fun _ => 0))), (q4, .inl (cI, 57, .inl (fun _ => 0)))]) H := hP
  replace hD : va_D A ([(a, .inr (12, [.ref q1, .ref q2, .int 0, .ref q3, .int 0, .null, .int 0, .int 0, .int 0, .null, .null, .null, .null, .null, .null, .null, .null, .int 0, .null])), (q1, .inl (cI, 131, .inl (fun _ => 0))), (q2, .inl (cI, 1048, .inl (fun _ => 0))), (q3, .inl (cI, 150, .inl (fun _ => 0))), (q4, .inl (cI, 57, .inl (fun _ => 0)))]) := hD
  refine W.widen (k := 4) (n := 1386) (Nat.le_of_ble_eq_true rfl) (Nat.le_of_ble_eq_true rfl) ?_
  refine va_putF (D := D) (ci := 12) (v := .ref q4) (ty := .array .int) (C := RX12) (T := TX12) (N := 19) hx hb hts k3 tyX12 tyX12_ok nmX12 hown hKv hP hD hS 0 rfl rfl 5 (by decide) k6 (fun _ h9 => h9) rfl hin rfl (by decide +kernel) rfl rfl (Nat.le_of_ble_eq_true rfl) dX12_init_36 (fun H locs hP hD hS => ?_)
  replace hP : va_P D vwCl ([(a, .inr (12, [.ref q1, .ref q2, .int 0, .ref q3, .int 0, .ref q4, .int 0, .int 0, .int 0, .null, .null, .null, .null, .null, .null, .null, .null, .int 0, .null])), (q1, .inl (cI, 131, .inl (fun _ => 0))), (q2, .inl (cI, 1048, .inl (fun _ => 0))), (q3, .inl (cI, 150, .inl (fun _ => 0))), (q4, .inl (cI, 57, .inl (fun _ => 0)))]) H := hP
  replace hD : va_D A ([(a, .inr (12, [.ref q1, .ref q2, .int 0, .ref q3, .int 0, .ref q4, .int 0, .int 0, .int 0, .null, .null, .null, .null, .null, .null, .null, .null, .int 0, .null])), (q1, .inl (cI, 131, .inl (fun _ => 0))), (q2, .inl (cI, 1048, .inl (fun _ => 0))), (q3, .inl (cI, 150, .inl (fun _ => 0))), (q4, .inl (cI, 57, .inl (fun _ => 0)))]) := hD
  refine lv_aload_n hx hb dX12_init_39 rfl (lv_at hl 0 rfl) ?_
  refine lv_bipush (v := 8) hx hb dX12_init_40 (by decide) ?_
  refine va_newa (atype := .int) (ty := .int) (a0 := (8, .inl (fun _ => 0))) (N' := 8) hx hb k1 rfl hKv hP hD hS hA (fun _ => rfl) (by decide) (by decide) (by decide) (Nat.le_of_ble_eq_true rfl) (Nat.le_of_ble_eq_true rfl) dX12_init_42 (fun q5 cA H hKn hP hD hS => ?_)
  obtain rfl := (newI hKn).symm
  replace hP : va_P D vwCl ([(a, .inr (12, [.ref q1, .ref q2, .int 0, .ref q3, .int 0, .ref q4, .int 0, .int 0, .int 0, .null, .null, .null, .null, .null, .null, .null, .null, .int 0, .null])), (q1, .inl (cI, 131, .inl (fun _ => 0))), (q2, .inl (cI, 1048, .inl (fun _ => 0))), (q3, .inl (cI, 150, .inl (fun _ => 0))), (q4, .inl (cI, 57, .inl (fun _ => 0))), (q5, .inl (cI, 8, .inl (fun _ => 0)))]) H := hP
  replace hD : va_D A ([(a, .inr (12, [.ref q1, .ref q2, .int 0, .ref q3, .int 0, .ref q4, .int 0, .int 0, .int 0, .null, .null, .null, .null, .null, .null, .null, .null, .int 0, .null])), (q1, .inl (cI, 131, .inl (fun _ => 0))), (q2, .inl (cI, 1048, .inl (fun _ => 0))), (q3, .inl (cI, 150, .inl (fun _ => 0))), (q4, .inl (cI, 57, .inl (fun _ => 0))), (q5, .inl (cI, 8, .inl (fun _ => 0)))]) := hD
  refine W.widen (k := 5) (n := 1394) (Nat.le_of_ble_eq_true rfl) (Nat.le_of_ble_eq_true rfl) ?_
  refine va_putF (D := D) (ci := 12) (v := .ref q5) (ty := .array .int) (C := RX12) (T := TX12) (N := 19) hx hb hts k3 tyX12 tyX12_ok nmX12 hown hKv hP hD hS 0 rfl rfl 9 (by decide) k7 (fun _ h9 => h9) rfl hin rfl (by decide +kernel) rfl rfl (Nat.le_of_ble_eq_true rfl) dX12_init_44 (fun H locs hP hD hS => ?_)
  replace hP : va_P D vwCl ([(a, .inr (12, [.ref q1, .ref q2, .int 0, .ref q3, .int 0, .ref q4, .int 0, .int 0, .int 0, .ref q5, .null, .null, .null, .null, .null, .null, .null, .int 0, .null])), (q1, .inl (cI, 131, .inl (fun _ => 0))), (q2, .inl (cI, 1048, .inl (fun _ => 0))), (q3, .inl (cI, 150, .inl (fun _ => 0))), (q4, .inl (cI, 57, .inl (fun _ => 0))), (q5, .inl (cI, 8, .inl (fun _ => 0)))]) H := hP
  replace hD : va_D A ([(a, .inr (12, [.ref q1, .ref q2, .int 0, .ref q3, .int 0, .ref q4, .int 0, .int 0, .int 0, .ref q5, .null, .null, .null, .null, .null, .null, .null, .int 0, .null])), (q1, .inl (cI, 131, .inl (fun _ => 0))), (q2, .inl (cI, 1048, .inl (fun _ => 0))), (q3, .inl (cI, 150, .inl (fun _ => 0))), (q4, .inl (cI, 57, .inl (fun _ => 0))), (q5, .inl (cI, 8, .inl (fun _ => 0)))]) := hD
  refine lv_aload_n hx hb dX12_init_47 rfl (lv_at hl 0 rfl) ?_
  refine lv_bipush (v := 8) hx hb dX12_init_48 (by decide) ?_
  refine va_newa (atype := .int) (ty := .int) (a0 := (8, .inl (fun _ => 0))) (N' := 8) hx hb k1 rfl hKv hP hD hS hA (fun _ => rfl) (by decide) (by decide) (by decide) (Nat.le_of_ble_eq_true rfl) (Nat.le_of_ble_eq_true rfl) dX12_init_50 (fun q6 cA H hKn hP hD hS => ?_)
  obtain rfl := (newI hKn).symm
  replace hP : va_P D vwCl ([(a, .inr (12, [.ref q1, .ref q2, .int 0, .ref q3, .int 0, .ref q4, .int 0, .int 0, .int 0, .ref q5, .null, .null, .null, .null, .null, .null, .null, .int 0, .null])), (q1, .inl (cI, 131, .inl (fun _ => 0))), (q2, .inl (cI, 1048, .inl (fun _ => 0))), (q3, .inl (cI, 150, .inl (fun _ => 0))), (q4, .inl (cI, 57, .inl (fun _ => 0))), (q5, .inl (cI, 8, .inl (fun _ => 0))), (q6, .inl (cI, 8, .inl (fun _ => 0)))]) H := hP
  replace hD : va_D A ([(a, .inr (12, [.ref q1, .ref q2, .int 0, .ref q3, .int 0, .ref q4, .int 0, .int 0, .int 0, .ref q5, .null, .null, .null, .null, .null, .null, .null, .int 0, .null])), (q1, .inl (cI, 131, .inl (fun _ => 0))), (q2, .inl (cI, 1048, .inl (fun _ => 0))), (q3, .inl (cI, 150, .inl (fun _ => 0))), (q4, .inl (cI, 57, .inl (fun _ => 0))), (q5, .inl (cI, 8, .inl (fun _ => 0))), (q6, .inl (cI, 8, .inl (fun _ => 0)))]) := hD
  refine W.widen (k := 6) (n := 1402) (Nat.le_of_ble_eq_true rfl) (Nat.le_of_ble_eq_true rfl) ?_
  refine va_putF (D := D) (ci := 12) (v := .ref q6) (ty := .array .int) (C := RX12) (T := TX12) (N := 19) hx hb hts k3 tyX12 tyX12_ok nmX12 hown hKv hP hD hS 0 rfl rfl 10 (by decide) k8 (fun _ h9 => h9) rfl hin rfl (by decide +kernel) rfl rfl (Nat.le_of_ble_eq_true rfl) dX12_init_52 (fun H locs hP hD hS => ?_)
  replace hP : va_P D vwCl ([(a, .inr (12, [.ref q1, .ref q2, .int 0, .ref q3, .int 0, .ref q4, .int 0, .int 0, .int 0, .ref q5, .ref q6, .null, .null, .null, .null, .null, .null, .int 0, .null])), (q1, .inl (cI, 131, .inl (fun _ => 0))), (q2, .inl (cI, 1048, .inl (fun _ => 0))), (q3, .inl (cI, 150, .inl (fun _ => 0))), (q4, .inl (cI, 57, .inl (fun _ => 0))), (q5, .inl (cI, 8, .inl (fun _ => 0))), (q6, .inl (cI, 8, .inl (fun _ => 0)))]) H := hP
  replace hD : va_D A ([(a, .inr (12, [.ref q1, .ref q2, .int 0, .ref q3, .int 0, .ref q4, .int 0, .int 0, .int 0, .ref q5, .ref q6, .null, .null, .null, .null, .null, .null, .int 0, .null])), (q1, .inl (cI, 131, .inl (fun _ => 0))), (q2, .inl (cI, 1048, .inl (fun _ => 0))), (q3, .inl (cI, 150, .inl (fun _ => 0))), (q4, .inl (cI, 57, .inl (fun _ => 0))), (q5, .inl (cI, 8, .inl (fun _ => 0))), (q6, .inl (cI, 8, .inl (fun _ => 0)))]) := hD
  refine lv_aload_n hx hb dX12_init_55 rfl (lv_at hl 0 rfl) ?_
  refine lv_bipush (v := 8) hx hb dX12_init_56 (by decide) ?_
  refine va_newa (atype := .int) (ty := .int) (a0 := (8, .inl (fun _ => 0))) (N' := 8) hx hb k1 rfl hKv hP hD hS hA (fun _ => rfl) (by decide) (by decide) (by decide) (Nat.le_of_ble_eq_true rfl) (Nat.le_of_ble_eq_true rfl) dX12_init_58 (fun q7 cA H hKn hP hD hS => ?_)
  obtain rfl := (newI hKn).symm
  replace hP : va_P D vwCl ([(a, .inr (12, [.ref q1, .ref q2, .int 0, .ref q3, .int 0, .ref q4, .int 0, .int 0, .int 0, .ref q5, .ref q6, .null, .null, .null, .null, .null, .null, .int 0, .null])), (q1, .inl (cI, 131, .inl (fun _ => 0))), (q2, .inl (cI, 1048, .inl (fun _ => 0))), (q3, .inl (cI, 150, .inl (fun _ => 0))), (q4, .inl (cI, 57, .inl (fun _ => 0))), (q5, .inl (cI, 8, .inl (fun _ => 0))), (q6, .inl (cI, 8, .inl (fun _ => 0))), (q7, .inl (cI, 8, .inl (fun _ => 0)))]) H := hP
  replace hD : va_D A ([(a, .inr (12, [.ref q1, .ref q2, .int 0, .ref q3, .int 0, .ref q4, .int 0, .int 0, .int 0, .ref q5, .ref q6, .null, .null, .null, .null, .null, .null, .int 0, .null])), (q1, .inl (cI, 131, .inl (fun _ => 0))), (q2, .inl (cI, 1048, .inl (fun _ => 0))), (q3, .inl (cI, 150, .inl (fun _ => 0))), (q4, .inl (cI, 57, .inl (fun _ => 0))), (q5, .inl (cI, 8, .inl (fun _ => 0))), (q6, .inl (cI, 8, .inl (fun _ => 0))), (q7, .inl (cI, 8, .inl (fun _ => 0)))]) := hD
  refine W.widen (k := 7) (n := 1410) (Nat.le_of_ble_eq_true rfl) (Nat.le_of_ble_eq_true rfl) ?_
  refine va_putF (D := D) (ci := 12) (v := .ref q7) (ty := .array .int) (C := RX12) (T := TX12) (N := 19) hx hb hts k3 tyX12 tyX12_ok nmX12 hown hKv hP hD hS 0 rfl rfl 11 (by decide) k9 (fun _ h9 => h9) rfl hin rfl (by decide +kernel) rfl rfl (Nat.le_of_ble_eq_true rfl) dX12_init_60 (fun H locs hP hD hS => ?_)
  replace hP : va_P D vwCl ([(a, .inr (12, [.ref q1, .ref q2, .int 0, .ref q3, .int 0, .ref q4, .int 0, .int 0, .int 0, .ref q5, .ref q6, .ref q7, .null, .null, .null, .null, .null, .int 0, .null])), (q1, .inl (cI, 131, .inl (fun _ => 0))), (q2, .inl (cI, 1048, .inl (fun _ => 0))), (q3, .inl (cI, 150, .inl (fun _ => 0))), (q4, .inl (cI, 57, .inl (fun _ => 0))), (q5, .inl (cI, 8, .inl (fun _ => 0))), (q6, .inl (cI, 8, .inl (fun _ => 0))), (q7, .inl (cI, 8, .inl (fun _ => 0)))]) H := hP
  replace hD : va_D A ([(a, .inr (12, [.ref q1, .ref q2, .int 0, .ref q3, .int 0, .ref q4, .int 0, .int 0, .int 0, .ref q5, .ref q6, .ref q7, .null, .null, .null, .null, .null, .int 0, .null])), (q1, .inl (cI, 131, .inl (fun _ => 0))), (q2, .inl (cI, 1048, .inl (fun _ => 0))), (q3, .inl (cI, 150, .inl (fun _ => 0))), (q4, .inl (cI, 57, .inl (fun _ => 0))), (q5, .inl (cI, 8, .inl (fun _ => 0))), (q6, .inl (cI, 8, .inl (fun _ => 0))), (q7, .inl (cI, 8, .inl (fun _ => 0)))]) := hD
  refine lv_aload_n hx hb dX12_init_63 rfl (lv_at hl 0 rfl) ?_
  refine lv_bipush (v := 8) hx hb dX12_init_64 (by decide) ?_
  refine va_newa (atype := .boolean) (ty := .boolean) (a0 := (8, .inl (fun _ => 0))) (N' := 8) hx hb k10 rfl hKv hP hD hS hA (fun _ => rfl) (by decide) (by decide) (by decide) (Nat.le_of_ble_eq_true rfl) (Nat.le_of_ble_eq_true rfl) dX12_init_66 (fun q8 cA H hKn hP hD hS => ?_)
  obtain rfl := (newZ hKn).symm
  replace hP : va_P D vwCl ([(a, .inr (12, [.ref q1, .ref q2, .int 0, .ref q3, .int 0, .ref q4, .int 0, .int 0, .int 0, .ref q5, .ref q6, .ref q7, .null, .null, .null, .null, .null, .int 0, .null])), (q1, .inl (cI, 131, .inl (fun _ => 0))), (q2, .inl (cI, 1048, .inl (fun _ => 0))), (q3, .inl (cI, 150, .inl (fun _ => 0))), (q4, .inl (cI, 57, .inl (fun _ => 0))), (q5, .inl (cI, 8, .inl (fun _ => 0))), (q6, .inl (cI, 8, .inl (fun _ => 0))), (q7, .inl (cI, 8, .inl (fun _ => 0))), (q8, .inl (cZ, 8, .inl (fun _ => 0)))]) H := hP
  replace hD : va_D A ([(a, .inr (12, [.ref q1, .ref q2, .int 0, .ref q3, .int 0, .ref q4, .int 0, .int 0, .int 0, .ref q5, .ref q6, .ref q7, .null, .null, .null, .null, .null, .int 0, .null])), (q1, .inl (cI, 131, .inl (fun _ => 0))), (q2, .inl (cI, 1048, .inl (fun _ => 0))), (q3, .inl (cI, 150, .inl (fun _ => 0))), (q4, .inl (cI, 57, .inl (fun _ => 0))), (q5, .inl (cI, 8, .inl (fun _ => 0))), (q6, .inl (cI, 8, .inl (fun _ => 0))), (q7, .inl (cI, 8, .inl (fun _ => 0))), (q8, .inl (cZ, 8, .inl (fun _ => 0)))]) := hD
  refine W.widen (k := 8) (n := 1418) (Nat.le_of_ble_eq_true rfl) (Nat.le_of_ble_eq_true rfl) ?_
  refine va_putF (D := D) (ci := 12) (v := .ref q8) (ty := .array .boolean) (C := RX12) (T := TX12) (N := 19) hx hb hts k3 tyX12 tyX12_ok nmX12 hown hKv hP hD hS 0 rfl rfl 12 (by decide) k11 (fun _ h9 => h9) rfl hin rfl (by decide +kernel) rfl rfl (Nat.le_of_ble_eq_true rfl) dX12_init_68 (fun H locs hP hD hS => ?_)
  replace hP : va_P D vwCl ([(a, .inr (12, [.ref q1, .ref q2, .int 0, .ref q3, .int 0, .ref q4, .int 0, .int 0, .int 0, .ref q5, .ref q6, .ref q7, .ref q8, .null, .null, .null, .null, .int 0, .null])), (q1, .inl (cI, 131, .inl (fun _ => 0))), (q2, .inl (cI, 1048, .inl (fun _ => 0))), (q3, .inl (cI, 150, .inl (fun _ => 0))), (q4, .inl (cI, 57, .inl (fun _ => 0))), (q5, .inl (cI, 8, .inl (fun _ => 0))), (q6, .inl (cI, 8, .inl (fun _ => 0))), (q7, .inl (cI, 8, .inl (fun _ => 0))), (q8, .inl (cZ, 8, .inl (fun _ => 0)))]) H := hP
  replace hD : va_D A ([(a, .inr (12, [.ref q1, .ref q2, .int 0, .ref q3, .int 0, .ref q4, .int 0, .int 0, .int 0, .ref q5, .ref q6, .ref q7, .ref q8, .null, .null, .null, .null, .int 0, .null])), (q1, .inl (cI, 131, .inl (fun _ => 0))), (q2, .inl (cI, 1048, .inl (fun _ => 0))), (q3, .inl (cI, 150, .inl (fun _ => 0))), (q4, .inl (cI, 57, .inl (fun _ => 0))), (q5, .inl (cI, 8, .inl (fun _ => 0))), (q6, .inl (cI, 8, .inl (fun _ => 0))), (q7, .inl (cI, 8, .inl (fun _ => 0))), (q8, .inl (cZ, 8, .inl (fun _ => 0)))]) := hD
  refine lv_aload_n hx hb dX12_init_71 rfl (lv_at hl 0 rfl) ?_
  refine lv_bipush (v := 8) hx hb dX12_init_72 (by decide) ?_
  refine va_newa (atype := .int) (ty := .int) (a0 := (8, .inl (fun _ => 0))) (N' := 8) hx hb k1 rfl hKv hP hD hS hA (fun _ => rfl) (by decide) (by decide) (by decide) (Nat.le_of_ble_eq_true rfl) (Nat.le_of_ble_eq_true rfl) dX12_init_74 (fun q9 cA H hKn hP hD hS => ?_)
  obtain rfl := (newI hKn).symm
  replace hP : va_P D vwCl ([(a, .inr (12, [.ref q1, .ref q2, .int 0, .ref q3, .int 0, .ref q4, .int 0, .int 0, .int 0, .ref q5, .ref q6, .ref q7, .ref q8, .null, .null, .null, .null, .int 0, .null])), (q1, .inl (cI, 131, .inl (fun _ => 0))), (q2, .inl (cI, 1048, .inl (fun _ => 0))), (q3, .inl (cI, 150, .inl (fun _ => 0))), (q4, .inl (cI, 57, .inl (fun _ => 0))), (q5, .inl (cI, 8, .inl (fun _ => 0))), (q6, .inl (cI, 8, .inl (fun _ => 0))), (q7, .inl (cI, 8, .inl (fun _ => 0))), (q8, .inl (cZ, 8, .inl (fun _ => 0))), (q9, .inl (cI, 8, .inl (fun _ => 0)))]) H := hP
  replace hD : va_D A ([(a, .inr (12, [.ref q1, .ref q2, .int 0, .ref q3, .int 0, .ref q4, .int 0, .int 0, .int 0, .ref q5, .ref q6, .ref q7, .ref q8, .null, .null, .null, .null, .int 0, .null])), (q1, .inl (cI, 131, .inl (fun _ => 0))), (q2, .inl (cI, 1048, .inl (fun _ => 0))), (q3, .inl (cI, 150, .inl (fun _ => 0))), (q4, .inl (cI, 57, .inl (fun _ => 0))), (q5, .inl (cI, 8, .inl (fun _ => 0))), (q6, .inl (cI, 8, .inl (fun _ => 0))), (q7, .inl (cI, 8, .inl (fun _ => 0))), (q8, .inl (cZ, 8, .inl (fun _ => 0))), (q9, .inl (cI, 8, .inl (fun _ => 0)))]) := hD
  refine W.widen (k := 9) (n := 1426) (Nat.le_of_ble_eq_true rfl) (Nat.le_of_ble_eq_true rfl) ?_
  refine va_putF (D := D) (ci := 12) (v := .ref q9) (ty := .array .int) (C := RX12) (T := TX12) (N := 19) hx hb hts k3 tyX12 tyX12_ok nmX12 hown hKv hP hD hS 0 rfl rfl 13 (by decide) k12 (fun _ h9 => h9) rfl hin rfl (by decide +kernel) rfl rfl (Nat.le_of_ble_eq_true rfl) dX12_init_76 (fun H locs hP hD hS => ?_)
  replace hP : va_P D vwCl ([(a, .inr (12, [.ref q1, .ref q2, .int 0, .ref q3, .int 0, .ref q4, .int 0, .int 0, .int 0, .ref q5, .ref q6, .ref q7, .ref q8, .ref q9, .null, .null, .null, .int 0, .null])), (q1, .inl (cI, 131, .inl (fun _ => 0))), (q2, .inl (cI, 1048, .inl (fun _ => 0))), (q3, .inl (cI, 150, .inl (fun _ => 0))), (q4, .inl (cI, 57, .inl (fun _ => 0))), (q5, .inl (cI, 8, .inl (fun _ => 0))), (q6, .inl (cI, 8, .inl (fun _ => 0))), (q7, .inl (cI, 8, .inl (fun _ => 0))), (q8, .inl (cZ, 8, .inl (fun _ => 0))), (q9, .inl (cI, 8, .inl (fun _ => 0)))]) H := hP
  replace hD : va_D A ([(a, .inr (12, [.ref q1, .ref q2, .int 0, .ref q3, .int 0, .ref q4, .int 0, .int 0, .int 0, .ref q5, .ref q6, .ref q7, .ref q8, .ref q9, .null, .null, .null, .int 0, .null])), (q1, .inl (cI, 131, .inl (fun _ => 0))), (q2, .inl (cI, 1048, .inl (fun _ => 0))), (q3, .inl (cI, 150, .inl (fun _ => 0))), (q4, .inl (cI, 57, .inl (fun _ => 0))), (q5, .inl (cI, 8, .inl (fun _ => 0))), (q6, .inl (cI, 8, .inl (fun _ => 0))), (q7, .inl (cI, 8, .inl (fun _ => 0))), (q8, .inl (cZ, 8, .inl (fun _ => 0))), (q9, .inl (cI, 8, .inl (fun _ => 0)))]) := hD
  refine lv_aload_n hx hb dX12_init_79 rfl (lv_at hl 0 rfl) ?_
  refine lv_bipush (v := 8) hx hb dX12_init_80 (by decide) ?_
  refine va_newa (atype := .int) (ty := .int) (a0 := (8, .inl (fun _ => 0))) (N' := 8) hx hb k1 rfl hKv hP hD hS hA (fun _ => rfl) (by decide) (by decide) (by decide) (Nat.le_of_ble_eq_true rfl) (Nat.le_of_ble_eq_true rfl) dX12_init_82 (fun q10 cA H hKn hP hD hS => ?_)
  obtain rfl := (newI hKn).symm
  replace hP : va_P D vwCl ([(a, .inr (12, [.ref q1, .ref q2, .int 0, .ref q3, .int 0, .ref q4, .int 0, .int 0, .int 0, .ref q5, .ref q6, .ref q7, .ref q8, .ref q9, .null, .null, .null, .int 0, .null])), (q1, .inl (cI, 131, .inl (fun _ => 0))), (q2, .inl (cI, 1048, .inl (fun _ => 0))), (q3, .inl (cI, 150, .inl (fun _ => 0))), (q4, .inl (cI, 57, .inl (fun _ => 0))), (q5, .inl (cI, 8, .inl (fun _ => 0))), (q6, .inl (cI, 8, .inl (fun _ => 0))), (q7, .inl (cI, 8, .inl (fun _ => 0))), (q8, .inl (cZ, 8, .inl (fun _ => 0))), (q9, .inl (cI, 8, .inl (fun _ => 0))), (q10, .inl (cI, 8, .inl (fun _ => 0)))]) H := hP
  replace hD : va_D A ([(a, .inr (12, [.ref q1, .ref q2, .int 0, .ref q3, .int 0, .ref q4, .int 0, .int 0, .int 0, .ref q5, .ref q6, .ref q7, .ref q8, .ref q9, .null, .null, .null, .int 0, .null])), (q1, .inl (cI, 131, .inl (fun _ => 0))), (q2, .inl (cI, 1048, .inl (fun _ => 0))), (q3, .inl (cI, 150, .inl (fun _ => 0))), (q4, .inl (cI, 57, .inl (fun _ => 0))), (q5, .inl (cI, 8, .inl (fun _ => 0))), (q6, .inl (cI, 8, .inl (fun _ => 0))), (q7, .inl (cI, 8, .inl (fun _ => 0))), (q8, .inl (cZ, 8, .inl (fun _ => 0))), (q9, .inl (cI, 8, .inl (fun _ => 0))), (q10, .inl (cI, 8, .inl (fun _ => 0)))]) := hD
  refine W.widen (k := 10) (n := 1434) (Nat.le_of_ble_eq_true rfl) (Nat.le_of_ble_eq_true rfl) ?_
  refine va_putF (D := D) (ci := 12) (v := .ref q10) (ty := .array .int) (C := RX12) (T := TX12) (N := 19) hx hb hts k3 tyX12 tyX12_ok nmX12 hown hKv hP hD hS 0 rfl rfl 14 (by decide) k13 (fun _ h9 => h9) rfl hin rfl (by decide +kernel) rfl rfl (Nat.le_of_ble_eq_true rfl) dX12_init_84 (fun H locs hP hD hS => ?_)
  replace hP : va_P D vwCl ([(a, .inr (12, [.ref q1, .ref q2, .int 0, .ref q3, .int 0, .ref q4, .int 0, .int 0, .int 0, .ref q5, .ref q6, .ref q7, .ref q8, .ref q9, .ref q10, .null, .null, .int 0, .null])), (q1, .inl (cI, 131, .inl (fun _ => 0))), (q2, .inl (cI, 1048, .inl (fun _ => 0))), (q3, .inl (cI, 150, .inl (fun _ => 0))), (q4, .inl (cI, 57, .inl (fun _ => 0))), (q5, .inl (cI, 8, .inl (fun _ => 0))), (q6, .inl (cI, 8, .inl (fun _ => 0))), (q7, .inl (cI, 8, .inl (fun _ => 0))), (q8, .inl (cZ, 8, .inl (fun _ => 0))), (q9, .inl (cI, 8, .inl (fun _ => 0))), (q10, .inl (cI, 8, .inl (fun _ => 0)))]) H := hP
  replace hD : va_D A ([(a, .inr (12, [.ref q1, .ref q2, .int 0, .ref q3, .int 0, .ref q4, .int 0, .int 0, .int 0, .ref q5, .ref q6, .ref q7, .ref q8, .ref q9, .ref q10, .null, .null, .int 0, .null])), (q1, .inl (cI, 131, .inl (fun _ => 0))), (q2, .inl (cI, 1048, .inl (fun _ => 0))), (q3, .inl (cI, 150, .inl (fun _ => 0))), (q4, .inl (cI, 57, .inl (fun _ => 0))), (q5, .inl (cI, 8, .inl (fun _ => 0))), (q6, .inl (cI, 8, .inl (fun _ => 0))), (q7, .inl (cI, 8, .inl (fun _ => 0))), (q8, .inl (cZ, 8, .inl (fun _ => 0))), (q9, .inl (cI, 8, .inl (fun _ => 0))), (q10, .inl (cI, 8, .inl (fun _ => 0)))]) := hD
  refine lv_aload_n hx hb dX12_init_87 rfl (lv_at hl 0 rfl) ?_
  refine lv_bipush (v := 8) hx hb dX12_init_88 (by decide) ?_
  refine va_newa (atype := .int) (ty := .int) (a0 := (8, .inl (fun _ => 0))) (N' := 8) hx hb k1 rfl hKv hP hD hS hA (fun _ => rfl) (by decide) (by decide) (by decide) (Nat.le_of_ble_eq_true rfl) (Nat.le_of_ble_eq_true rfl) dX12_init_90 (fun q11 cA H hKn hP hD hS => ?_)
  obtain rfl := (newI hKn).symm
  replace hP : va_P D vwCl ([(a, .inr (12, [.ref q1, .ref q2, .int 0, .ref q3, .int 0, .ref q4, .int 0, .int 0, .int 0, .ref q5, .ref q6, .ref q7, .ref q8, .ref q9, .ref q10, .null, .null, .int 0, .null])), (q1, .inl (cI, 131, .inl (fun _ => 0))), (q2, .inl (cI, 1048, .inl (fun _ => 0))), (q3, .inl (cI, 150, .inl (fun _ => 0))), (q4, .inl (cI, 57, .inl (fun _ => 0))), (q5, .inl (cI, 8, .inl (fun _ => 0))), (q6, .inl (cI, 8, .inl (fun _ => 0))), (q7, .inl (cI, 8, .inl (fun _ => 0))), (q8, .inl (cZ, 8, .inl (fun _ => 0))), (q9, .inl (cI, 8, .inl (fun _ => 0))), (q10, .inl (cI, 8, .inl (fun _ => 0))), (q11, .inl (cI, 8, .inl (fun _ => 0)))]) H := hP
  replace hD : va_D A ([(a, .inr (12, [.ref q1, .ref q2, .int 0, .ref q3, .int 0, .ref q4, .int 0, .int 0, .int 0, .ref q5, .ref q6, .ref q7, .ref q8, .ref q9, .ref q10, .null, .null, .int 0, .null])), (q1, .inl (cI, 131, .inl (fun _ => 0))), (q2, .inl (cI, 1048, .inl (fun _ => 0))), (q3, .inl (cI, 150, .inl (fun _ => 0))), (q4, .inl (cI, 57, .inl (fun _ => 0))), (q5, .inl (cI, 8, .inl (fun _ => 0))), (q6, .inl (cI, 8, .inl (fun _ => 0))), (q7, .inl (cI, 8, .inl (fun _ => 0))), (q8, .inl (cZ, 8, .inl (fun _ => 0))), (q9, .inl (cI, 8, .inl (fun _ => 0))), (q10, .inl (cI, 8, .inl (fun _ => 0))), (q11, .inl (cI, 8, .inl (fun _ => 0)))]) := hD
  refine W.widen (k := 11) (n := 1442) (Nat.le_of_ble_eq_true rfl) (Nat.le_of_ble_eq_true rfl) ?_
  refine va_putF (D := D) (ci := 12) (v := .ref q11) (ty := .array .int) (C := RX12) (T := TX12) (N := 19) hx hb hts k3 tyX12 tyX12_ok nmX12 hown hKv hP hD hS 0 rfl rfl 15 (by decide) k14 (fun _ h9 => h9) rfl hin rfl (by decide +kernel) rfl rfl (Nat.le_of_ble_eq_true rfl) dX12_init_92 (fun H locs hP hD hS => ?_)
  replace hP : va_P D vwCl ([(a, .inr (12, [.ref q1, .ref q2, .int 0, .ref q3, .int 0, .ref q4, .int 0, .int 0, .int 0, .ref q5, .ref q6, .ref q7, .ref q8, .ref q9, .ref q10, .ref q11, .null, .int 0, .null])), (q1, .inl (cI, 131, .inl (fun _ => 0))), (q2, .inl (cI, 1048, .inl (fun _ => 0))), (q3, .inl (cI, 150, .inl (fun _ => 0))), (q4, .inl (cI, 57, .inl (fun _ => 0))), (q5, .inl (cI, 8, .inl (fun _ => 0))), (q6, .inl (cI, 8, .inl (fun _ => 0))), (q7, .inl (cI, 8, .inl (fun _ => 0))), (q8, .inl (cZ, 8, .inl (fun _ => 0))), (q9, .inl (cI, 8, .inl (fun _ => 0))), (q10, .inl (cI, 8, .inl (fun _ => 0))), (q11, .inl (cI, 8, .inl (fun _ => 0)))]) H := hP
  replace hD : va_D A ([(a, .inr (12, [.ref q1, .ref q2, .int 0, .ref q3, .int 0, .ref q4, .int 0, .int 0, .int 0, .ref q5, .ref q6, .ref q7, .ref q8, .ref q9, .ref q10, .ref q11, .null, .int 0, .null])), (q1, .inl (cI, 131, .inl (fun _ => 0))), (q2, .inl (cI, 1048, .inl (fun _ => 0))), (q3, .inl (cI, 150, .inl (fun _ => 0))), (q4, .inl (cI, 57, .inl (fun _ => 0))), (q5, .inl (cI, 8, .inl (fun _ => 0))), (q6, .inl (cI, 8, .inl (fun _ => 0))), (q7, .inl (cI, 8, .inl (fun _ => 0))), (q8, .inl (cZ, 8, .inl (fun _ => 0))), (q9, .inl (cI, 8, .inl (fun _ => 0))), (q10, .inl (cI, 8, .inl (fun _ => 0))), (q11, .inl (cI, 8, .inl (fun _ => 0)))]) := hD
  refine lv_aload_n hx hb dX12_init_95 rfl (lv_at hl 0 rfl) ?_
  refine lv_sipush (v := 300) hx hb dX12_init_96 (by decide) ?_
  refine va_newa (atype := .int) (ty := .int) (a0 := (300, .inl (fun _ => 0))) (N' := 300) hx hb k1 rfl hKv hP hD hS hA (fun _ => rfl) (by decide) (by decide) (by decide) (Nat.le_of_ble_eq_true rfl) (Nat.le_of_ble_eq_true rfl) dX12_init_99 (fun q12 cA H hKn hP hD hS => ?_)
  obtain rfl := (newI hKn).symm
  replace hP : va_P D vwCl ([(a, .inr (12, [.ref q1, .ref q2, .int 0, .ref q3, .int 0, .ref q4, .int 0, .int 0, .int 0, .ref q5, .ref q6, .ref q7, .ref q8, .ref q9, .ref q10, .ref q11, .null, .int 0, .null])), (q1, .inl (cI, 131, .inl (fun _ => 0))), (q2, .inl (cI, 1048, .inl (fun _ => 0))), (q3, .inl (cI, 150, .inl (fun _ => 0))), (q4, .inl (cI, 57, .inl (fun _ => 0))), (q5, .inl (cI, 8, .inl (fun _ => 0))), (q6, .inl (cI, 8, .inl (fun _ => 0))), (q7, .inl (cI, 8, .inl (fun _ => 0))), (q8, .inl (cZ, 8, .inl (fun _ => 0))), (q9, .inl (cI, 8, .inl (fun _ => 0))), (q10, .inl (cI, 8, .inl (fun _ => 0))), (q11, .inl (cI, 8, .inl (fun _ => 0))), (q12, .inl (cI, 300, .inl (fun _ => 0)))]) H := hP
  replace hD : va_D A ([(a, .inr (12, [.ref q1, .ref q2, .int 0, .ref q3, .int 0, .ref q4, .int 0, .int 0, .int 0, .ref q5, .ref q6, .ref q7, .ref q8, .ref q9, .ref q10, .ref q11, .null, .int 0, .null])), (q1, .inl (cI, 131, .inl (fun _ => 0))), (q2, .inl (cI, 1048, .inl (fun _ => 0))), (q3, .inl (cI, 150, .inl (fun _ => 0))), (q4, .inl (cI, 57, .inl (fun _ => 0))), (q5, .inl (cI, 8, .inl (fun _ => 0))), (q6, .inl (cI, 8, .inl (fun _ => 0))), (q7, .inl (cI, 8, .inl (fun _ => 0))), (q8, .inl (cZ, 8, .inl (fun _ => 0))), (q9, .inl (cI, 8, .inl (fun _ => 0))), (q10, .inl (cI, 8, .inl (fun _ => 0))), (q11, .inl (cI, 8, .inl (fun _ => 0))), (q12, .inl (cI, 300, .inl (fun _ => 0)))]) := hD
  refine W.widen (k := 12) (n := 1742) (Nat.le_of_ble_eq_true rfl) (Nat.le_of_ble_eq_true rfl) ?_
  refine va_putF (D := D) (ci := 12) (v := .ref q12) (ty := .array .int) (C := RX12) (T := TX12) (N := 19) hx hb hts k3 tyX12 tyX12_ok nmX12 hown hKv hP hD hS 0 rfl rfl 16 (by decide) k15 (fun _ h9 => h9) rfl hin rfl (by decide +kernel) rfl rfl (Nat.le_of_ble_eq_true rfl) dX12_init_101 (fun H locs hP hD hS => ?_)
  replace hP : va_P D vwCl ([(a, .inr (12, [.ref q1, .ref q2, .int 0, .ref q3, .int 0, .ref q4, .int 0, .int 0, .int 0, .ref q5, .ref q6, .ref q7, .ref q8, .ref q9, .ref q10, .ref q11, .ref q12, .int 0, .null])), (q1, .inl (cI, 131, .inl (fun _ => 0))), (q2, .inl (cI, 1048, .inl (fun _ => 0))), (q3, .inl (cI, 150, .inl (fun _ => 0))), (q4, .inl (cI, 57, .inl (fun _ => 0))), (q5, .inl (cI, 8, .inl (fun _ => 0))), (q6, .inl (cI, 8, .inl (fun _ => 0))), (q7, .inl (cI, 8, .inl (fun _ => 0))), (q8, .inl (cZ, 8, .inl (fun _ => 0))), (q9, .inl (cI, 8, .inl (fun _ => 0))), (q10, .inl (cI, 8, .inl (fun _ => 0))), (q11, .inl (cI, 8, .inl (fun _ => 0))), (q12, .inl (cI, 300, .inl (fun _ => 0)))]) H := hP
  replace hD : va_D A ([(a, .inr (12, [.ref q1, .ref q2, .int 0, .ref q3, .int 0, .ref q4, .int 0, .int 0, .int 0, .ref q5, .ref q6, .ref q7, .ref q8, .ref q9, .ref q10, .ref q11, .ref q12, .int 0, .null])), (q1, .inl (cI, 131, .inl (fun _ => 0))), (q2, .inl (cI, 1048, .inl (fun _ => 0))), (q3, .inl (cI, 150, .inl (fun _ => 0))), (q4, .inl (cI, 57, .inl (fun _ => 0))), (q5, .inl (cI, 8, .inl (fun _ => 0))), (q6, .inl (cI, 8, .inl (fun _ => 0))), (q7, .inl (cI, 8, .inl (fun _ => 0))), (q8, .inl (cZ, 8, .inl (fun _ => 0))), (q9, .inl (cI, 8, .inl (fun _ => 0))), (q10, .inl (cI, 8, .inl (fun _ => 0))), (q11, .inl (cI, 8, .inl (fun _ => 0))), (q12, .inl (cI, 300, .inl (fun _ => 0)))]) := hD
  refine lv_aload_n hx hb dX12_init_104 rfl (lv_at hl 0 rfl) ?_
  refine lv_iconst (v := 5) hx hb dX12_init_105 (by decide) ?_
  refine va_newa (atype := .int) (ty := .int) (a0 := (5, .inl (fun _ => 0))) (N' := 5) hx hb k1 rfl hKv hP hD hS hA (fun _ => rfl) (by decide) (by decide) (by decide) (Nat.le_of_ble_eq_true rfl) (Nat.le_of_ble_eq_true rfl) dX12_init_106 (fun q13 cA H hKn hP hD hS => ?_)
  obtain rfl := (newI hKn).symm
  replace hP : va_P D vwCl ([(a, .inr (12, [.ref q1, .ref q2, .int 0, .ref q3, .int 0, .ref q4, .int 0, .int 0, .int 0, .ref q5, .ref q6, .ref q7, .ref q8, .ref q9, .ref q10, .ref q11, .ref q12, .int 0, .null])), (q1, .inl (cI, 131, .inl (fun _ => 0))), (q2, .inl (cI, 1048, .inl (fun _ => 0))), (q3, .inl (cI, 150, .inl (fun _ => 0))), (q4, .inl (cI, 57, .inl (fun _ => 0))), (q5, .inl (cI, 8, .inl (fun _ => 0))), (q6, .inl (cI, 8, .inl (fun _ => 0))), (q7, .inl (cI, 8, .inl (fun _ => 0))), (q8, .inl (cZ, 8, .inl (fun _ => 0))), (q9, .inl (cI, 8, .inl (fun _ => 0))), (q10, .inl (cI, 8, .inl (fun _ => 0))), (q11, .inl (cI, 8, .inl (fun _ => 0))), (q12, .inl (cI, 300, .inl (fun _ => 0))), (q13, .inl (cI, 5, .inl (fun _ => 0)))]) H := hP
  replace hD : va_D A ([(a, .inr (12, [.ref q1, .ref q2, .int 0, .ref q3, .int 0, .ref q4, .int 0, .int 0, .int 0, .ref q5, .ref q6, .ref q7, .ref q8, .ref q9, .ref q10, .ref q11, .ref q12, .int 0, .null])), (q1, .inl (cI, 131, .inl (fun _ => 0))), (q2, .inl (cI, 1048, .inl (fun _ => 0))), (q3, .inl (cI, 150, .inl (fun _ => 0))), (q4, .inl (cI, 57, .inl (fun _ => 0))), (q5, .inl (cI, 8, .inl (fun _ => 0))), (q6, .inl (cI, 8, .inl (fun _ => 0))), (q7, .inl (cI, 8, .inl (fun _ => 0))), (q8, .inl (cZ, 8, .inl (fun _ => 0))), (q9, .inl (cI, 8, .inl (fun _ => 0))), (q10, .inl (cI, 8, .inl (fun _ => 0))), (q11, .inl (cI, 8, .inl (fun _ => 0))), (q12, .inl (cI, 300, .inl (fun _ => 0))), (q13, .inl (cI, 5, .inl (fun _ => 0)))]) := hD
  refine W.widen (k := 13) (n := 1747) (Nat.le_of_ble_eq_true rfl) (Nat.le_of_ble_eq_true rfl) ?_
  refine va_putF (D := D) (ci := 12) (v := .ref q13) (ty := .array .int) (C := RX12) (T := TX12) (N := 19) hx hb hts k3 tyX12 tyX12_ok nmX12 hown hKv hP hD hS 0 rfl rfl 18 (by decide) k16 (fun _ h9 => h9) rfl hin rfl (by decide +kernel) rfl rfl (Nat.le_of_ble_eq_true rfl) dX12_init_108 (fun H locs hP hD hS => ?_)
  replace hP : va_P D vwCl ([(a, .inr (12, [.ref q1, .ref q2, .int 0, .ref q3, .int 0, .ref q4, .int 0, .int 0, .int 0, .ref q5, .ref q6, .ref q7, .ref q8, .ref q9, .ref q10, .ref q11, .ref q12, .int 0, .ref q13])), (q1, .inl (cI, 131, .inl (fun _ => 0))), (q2, .inl (cI, 1048, .inl (fun _ => 0))), (q3, .inl (cI, 150, .inl (fun _ => 0))), (q4, .inl (cI, 57, .inl (fun _ => 0))), (q5, .inl (cI, 8, .inl (fun _ => 0))), (q6, .inl (cI, 8, .inl (fun _ => 0))), (q7, .inl (cI, 8, .inl (fun _ => 0))), (q8, .inl (cZ, 8, .inl (fun _ => 0))), (q9, .inl (cI, 8, .inl (fun _ => 0))), (q10, .inl (cI, 8, .inl (fun _ => 0))), (q11, .inl (cI, 8, .inl (fun _ => 0))), (q12, .inl (cI, 300, .inl (fun _ => 0))), (q13, .inl (cI, 5, .inl (fun _ => 0)))]) H := hP
  replace hD : va_D A ([(a, .inr (12, [.ref q1, .ref q2, .int 0, .ref q3, .int 0, .ref q4, .int 0, .int 0, .int 0, .ref q5, .ref q6, .ref q7, .ref q8, .ref q9, .ref q10, .ref q11, .ref q12, .int 0, .ref q13])), (q1, .inl (cI, 131, .inl (fun _ => 0))), (q2, .inl (cI, 1048, .inl (fun _ => 0))), (q3, .inl (cI, 150, .inl (fun _ => 0))), (q4, .inl (cI, 57, .inl (fun _ => 0))), (q5, .inl (cI, 8, .inl (fun _ => 0))), (q6, .inl (cI, 8, .inl (fun _ => 0))), (q7, .inl (cI, 8, .inl (fun _ => 0))), (q8, .inl (cZ, 8, .inl (fun _ => 0))), (q9, .inl (cI, 8, .inl (fun _ => 0))), (q10, .inl (cI, 8, .inl (fun _ => 0))), (q11, .inl (cI, 8, .inl (fun _ => 0))), (q12, .inl (cI, 300, .inl (fun _ => 0))), (q13, .inl (cI, 5, .inl (fun _ => 0)))]) := hD
  refine lv_aload_n hx hb dX12_init_111 rfl (lv_at hl 0 rfl) ?_
  refine va_get (D := D) (ci := 12) (v := .ref q1) (C := RX12) (T := TX12) (N := 19) hx hb hts k3 hown hKv hP 0 rfl rfl 0 (by decide) k2 (fun _ h9 => h9) rfl dX12_init_112 ?_
  refine lv_bipush (v := 58) hx hb dX12_init_115 (by decide) ?_
  refine lv_iconst (v := 3) hx hb dX12_init_117 (by decide) ?_
  refine va_iast hx hb hKv hP hD hS 1 0 rfl rfl (show vp_in 58 131 by unfold vp_in; decide) dX12_init_118 (fun H locs hP hD hS => ?_)
  replace hP : va_P D vwCl ([(a, .inr (12, [.ref q1, .ref q2, .int 0, .ref q3, .int 0, .ref q4, .int 0, .int 0, .int 0, .ref q5, .ref q6, .ref q7, .ref q8, .ref q9, .ref q10, .ref q11, .ref q12, .int 0, .ref q13])), (q1, .inl (cI, 131, .inl (upd (fun _ => 0) 58 3))), (q2, .inl (cI, 1048, .inl (fun _ => 0))), (q3, .inl (cI, 150, .inl (fun _ => 0))), (q4, .inl (cI, 57, .inl (fun _ => 0))), (q5, .inl (cI, 8, .inl (fun _ => 0))), (q6, .inl (cI, 8, .inl (fun _ => 0))), (q7, .inl (cI, 8, .inl (fun _ => 0))), (q8, .inl (cZ, 8, .inl (fun _ => 0))), (q9, .inl (cI, 8, .inl (fun _ => 0))), (q10, .inl (cI, 8, .inl (fun _ => 0))), (q11, .inl (cI, 8, .inl (fun _ => 0))), (q12, .inl (cI, 300, .inl (fun _ => 0))), (q13, .inl (cI, 5, .inl (fun _ => 0)))]) H := hP
  replace hD : va_D A ([(a, .inr (12, [.ref q1, .ref q2, .int 0, .ref q3, .int 0, .ref q4, .int 0, .int 0, .int 0, .ref q5, .ref q6, .ref q7, .ref q8, .ref q9, .ref q10, .ref q11, .ref q12, .int 0, .ref q13])), (q1, .inl (cI, 131, .inl (upd (fun _ => 0) 58 3))), (q2, .inl (cI, 1048, .inl (fun _ => 0))), (q3, .inl (cI, 150, .inl (fun _ => 0))), (q4, .inl (cI, 57, .inl (fun _ => 0))), (q5, .inl (cI, 8, .inl (fun _ => 0))), (q6, .inl (cI, 8, .inl (fun _ => 0))), (q7, .inl (cI, 8, .inl (fun _ => 0))), (q8, .inl (cZ, 8, .inl (fun _ => 0))), (q9, .inl (cI, 8, .inl (fun _ => 0))), (q10, .inl (cI, 8, .inl (fun _ => 0))), (q11, .inl (cI, 8, .inl (fun _ => 0))), (q12, .inl (cI, 300, .inl (fun _ => 0))), (q13, .inl (cI, 5, .inl (fun _ => 0)))]) := hD
  refine lv_aload_n hx hb dX12_init_119 rfl (lv_at hl 0 rfl) ?_
  refine va_get (D := D) (ci := 12) (v := .ref q1) (C := RX12) (T := TX12) (N := 19) hx hb hts k3 hown hKv hP 0 rfl rfl 0 (by decide) k2 (fun _ h9 => h9) rfl dX12_init_120 ?_
  refine lv_bipush (v := 59) hx hb dX12_init_123 (by decide) ?_
  refine lv_iconst (v := 1) hx hb dX12_init_125 (by decide) ?_
  refine va_iast hx hb hKv hP hD hS 1 0 rfl rfl (show vp_in 59 131 by unfold vp_in; decide) dX12_init_126 (fun H locs hP hD hS => ?_)
  replace hP : va_P D vwCl ([(a, .inr (12, [.ref q1, .ref q2, .int 0, .ref q3, .int 0, .ref q4, .int 0, .int 0, .int 0, .ref q5, .ref q6, .ref q7, .ref q8, .ref q9, .ref q10, .ref q11, .ref q12, .int 0, .ref q13])), (q1, .inl (cI, 131, .inl (upd (upd (fun _ => 0) 58 3) 59 1))), (q2, .inl (cI, 1048, .inl (fun _ => 0))), (q3, .inl (cI, 150, .inl (fun _ => 0))), (q4, .inl (cI, 57, .inl (fun _ => 0))), (q5, .inl (cI, 8, .inl (fun _ => 0))), (q6, .inl (cI, 8, .inl (fun _ => 0))), (q7, .inl (cI, 8, .inl (fun _ => 0))), (q8, .inl (cZ, 8, .inl (fun _ => 0))), (q9, .inl (cI, 8, .inl (fun _ => 0))), (q10, .inl (cI, 8, .inl (fun _ => 0))), (q11, .inl (cI, 8, .inl (fun _ => 0))), (q12, .inl (cI, 300, .inl (fun _ => 0))), (q13, .inl (cI, 5, .inl (fun _ => 0)))]) H := hP
  replace hD : va_D A ([(a, .inr (12, [.ref q1, .ref q2, .int 0, .ref q3, .int 0, .ref q4, .int 0, .int 0, .int 0, .ref q5, .ref q6, .ref q7, .ref q8, .ref q9, .ref q10, .ref q11, .ref q12, .int 0, .ref q13])), (q1, .inl (cI, 131, .inl (upd (upd (fun _ => 0) 58 3) 59 1))), (q2, .inl (cI, 1048, .inl (fun _ => 0))), (q3, .inl (cI, 150, .inl (fun _ => 0))), (q4, .inl (cI, 57, .inl (fun _ => 0))), (q5, .inl (cI, 8, .inl (fun _ => 0))), (q6, .inl (cI, 8, .inl (fun _ => 0))), (q7, .inl (cI, 8, .inl (fun _ => 0))), (q8, .inl (cZ, 8, .inl (fun _ => 0))), (q9, .inl (cI, 8, .inl (fun _ => 0))), (q10, .inl (cI, 8, .inl (fun _ => 0))), (q11, .inl (cI, 8, .inl (fun _ => 0))), (q12, .inl (cI, 300, .inl (fun _ => 0))), (q13, .inl (cI, 5, .inl (fun _ => 0)))]) := hD
  refine lv_aload_n hx hb dX12_init_127 rfl (lv_at hl 0 rfl) ?_
  refine va_get (D := D) (ci := 12) (v := .ref q1) (C := RX12) (T := TX12) (N := 19) hx hb hts k3 hown hKv hP 0 rfl rfl 0 (by decide) k2 (fun _ h9 => h9) rfl dX12_init_128 ?_
  refine lv_bipush (v := 60) hx hb dX12_init_131 (by decide) ?_
  refine lv_bipush (v := 7) hx hb dX12_init_133 (by decide) ?_
  refine va_iast hx hb hKv hP hD hS 1 0 rfl rfl (show vp_in 60 131 by unfold vp_in; decide) dX12_init_135 (fun H locs hP hD hS => ?_)
  replace hP : va_P D vwCl ([(a, .inr (12, [.ref q1, .ref q2, .int 0, .ref q3, .int 0, .ref q4, .int 0, .int 0, .int 0, .ref q5, .ref q6, .ref q7, .ref q8, .ref q9, .ref q10, .ref q11, .ref q12, .int 0, .ref q13])), (q1, .inl (cI, 131, .inl (upd (upd (upd (fun _ => 0) 58 3) 59 1) 60 7))), (q2, .inl (cI, 1048, .inl (fun _ => 0))), (q3, .inl (cI, 150, .inl (fun _ => 0))), (q4, .inl (cI, 57, .inl (fun _ => 0))), (q5, .inl (cI, 8, .inl (fun _ => 0))), (q6, .inl (cI, 8, .inl (fun _ => 0))), (q7, .inl (cI, 8, .inl (fun _ => 0))), (q8, .inl (cZ, 8, .inl (fun _ => 0))), (q9, .inl (cI, 8, .inl (fun _ => 0))), (q10, .inl (cI, 8, .inl (fun _ => 0))), (q11, .inl (cI, 8, .inl (fun _ => 0))), (q12, .inl (cI, 300, .inl (fun _ => 0))), (q13, .inl (cI, 5, .inl (fun _ => 0)))]) H := hP
  replace hD : va_D A ([(a, .inr (12, [.ref q1, .ref q2, .int 0, .ref q3, .int 0, .ref q4, .int 0, .int 0, .int 0, .ref q5, .ref q6, .ref q7, .ref q8, .ref q9, .ref q10, .ref q11, .ref q12, .int 0, .ref q13])), (q1, .inl (cI, 131, .inl (upd (upd (upd (fun _ => 0) 58 3) 59 1) 60 7))), (q2, .inl (cI, 1048, .inl (fun _ => 0))), (q3, .inl (cI, 150, .inl (fun _ => 0))), (q4, .inl (cI, 57, .inl (fun _ => 0))), (q5, .inl (cI, 8, .inl (fun _ => 0))), (q6, .inl (cI, 8, .inl (fun _ => 0))), (q7, .inl (cI, 8, .inl (fun _ => 0))), (q8, .inl (cZ, 8, .inl (fun _ => 0))), (q9, .inl (cI, 8, .inl (fun _ => 0))), (q10, .inl (cI, 8, .inl (fun _ => 0))), (q11, .inl (cI, 8, .inl (fun _ => 0))), (q12, .inl (cI, 300, .inl (fun _ => 0))), (q13, .inl (cI, 5, .inl (fun _ => 0)))]) := hD
  refine lv_aload_n hx hb dX12_init_136 rfl (lv_at hl 0 rfl) ?_
  refine va_get (D := D) (ci := 12) (v := .ref q1) (C := RX12) (T := TX12) (N := 19) hx hb hts k3 hown hKv hP 0 rfl rfl 0 (by decide) k2 (fun _ h9 => h9) rfl dX12_init_137 ?_
  refine lv_bipush (v := 64) hx hb dX12_init_140 (by decide) ?_
  refine lv_iconst (v := 1) hx hb dX12_init_142 (by decide) ?_
  refine va_iast hx hb hKv hP hD hS 1 0 rfl rfl (show vp_in 64 131 by unfold vp_in; decide) dX12_init_143 (fun H locs hP hD hS => ?_)
  replace hP : va_P D vwCl ([(a, .inr (12, [.ref q1, .ref q2, .int 0, .ref q3, .int 0, .ref q4, .int 0, .int 0, .int 0, .ref q5, .ref q6, .ref q7, .ref q8, .ref q9, .ref q10, .ref q11, .ref q12, .int 0, .ref q13])), (q1, .inl (cI, 131, .inl (upd (upd (upd (upd (fun _ => 0) 58 3) 59 1) 60 7) 64 1))), (q2, .inl (cI, 1048, .inl (fun _ => 0))), (q3, .inl (cI, 150, .inl (fun _ => 0))), (q4, .inl (cI, 57, .inl (fun _ => 0))), (q5, .inl (cI, 8, .inl (fun _ => 0))), (q6, .inl (cI, 8, .inl (fun _ => 0))), (q7, .inl (cI, 8, .inl (fun _ => 0))), (q8, .inl (cZ, 8, .inl (fun _ => 0))), (q9, .inl (cI, 8, .inl (fun _ => 0))), (q10, .inl (cI, 8, .inl (fun _ => 0))), (q11, .inl (cI, 8, .inl (fun _ => 0))), (q12, .inl (cI, 300, .inl (fun _ => 0))), (q13, .inl (cI, 5, .inl (fun _ => 0)))]) H := hP
  replace hD : va_D A ([(a, .inr (12, [.ref q1, .ref q2, .int 0, .ref q3, .int 0, .ref q4, .int 0, .int 0, .int 0, .ref q5, .ref q6, .ref q7, .ref q8, .ref q9, .ref q10, .ref q11, .ref q12, .int 0, .ref q13])), (q1, .inl (cI, 131, .inl (upd (upd (upd (upd (fun _ => 0) 58 3) 59 1) 60 7) 64 1))), (q2, .inl (cI, 1048, .inl (fun _ => 0))), (q3, .inl (cI, 150, .inl (fun _ => 0))), (q4, .inl (cI, 57, .inl (fun _ => 0))), (q5, .inl (cI, 8, .inl (fun _ => 0))), (q6, .inl (cI, 8, .inl (fun _ => 0))), (q7, .inl (cI, 8, .inl (fun _ => 0))), (q8, .inl (cZ, 8, .inl (fun _ => 0))), (q9, .inl (cI, 8, .inl (fun _ => 0))), (q10, .inl (cI, 8, .inl (fun _ => 0))), (q11, .inl (cI, 8, .inl (fun _ => 0))), (q12, .inl (cI, 300, .inl (fun _ => 0))), (q13, .inl (cI, 5, .inl (fun _ => 0)))]) := hD
  refine lv_aload_n hx hb dX12_init_144 rfl (lv_at hl 0 rfl) ?_
  refine va_get (D := D) (ci := 12) (v := .ref q1) (C := RX12) (T := TX12) (N := 19) hx hb hts k3 hown hKv hP 0 rfl rfl 0 (by decide) k2 (fun _ h9 => h9) rfl dX12_init_145 ?_
  refine lv_bipush (v := 66) hx hb dX12_init_148 (by decide) ?_
  refine lv_iconst (v := 2) hx hb dX12_init_150 (by decide) ?_
  refine va_iast hx hb hKv hP hD hS 1 0 rfl rfl (show vp_in 66 131 by unfold vp_in; decide) dX12_init_151 (fun H locs hP hD hS => ?_)
  replace hP : va_P D vwCl ([(a, .inr (12, [.ref q1, .ref q2, .int 0, .ref q3, .int 0, .ref q4, .int 0, .int 0, .int 0, .ref q5, .ref q6, .ref q7, .ref q8, .ref q9, .ref q10, .ref q11, .ref q12, .int 0, .ref q13])), (q1, .inl (cI, 131, .inl (upd (upd (upd (upd (upd (fun _ => 0) 58 3) 59 1) 60 7) 64 1) 66 2))), (q2, .inl (cI, 1048, .inl (fun _ => 0))), (q3, .inl (cI, 150, .inl (fun _ => 0))), (q4, .inl (cI, 57, .inl (fun _ => 0))), (q5, .inl (cI, 8, .inl (fun _ => 0))), (q6, .inl (cI, 8, .inl (fun _ => 0))), (q7, .inl (cI, 8, .inl (fun _ => 0))), (q8, .inl (cZ, 8, .inl (fun _ => 0))), (q9, .inl (cI, 8, .inl (fun _ => 0))), (q10, .inl (cI, 8, .inl (fun _ => 0))), (q11, .inl (cI, 8, .inl (fun _ => 0))), (q12, .inl (cI, 300, .inl (fun _ => 0))), (q13, .inl (cI, 5, .inl (fun _ => 0)))]) H := hP
  replace hD : va_D A ([(a, .inr (12, [.ref q1, .ref q2, .int 0, .ref q3, .int 0, .ref q4, .int 0, .int 0, .int 0, .ref q5, .ref q6, .ref q7, .ref q8, .ref q9, .ref q10, .ref q11, .ref q12, .int 0, .ref q13])), (q1, .inl (cI, 131, .inl (upd (upd (upd (upd (upd (fun _ => 0) 58 3) 59 1) 60 7) 64 1) 66 2))), (q2, .inl (cI, 1048, .inl (fun _ => 0))), (q3, .inl (cI, 150, .inl (fun _ => 0))), (q4, .inl (cI, 57, .inl (fun _ => 0))), (q5, .inl (cI, 8, .inl (fun _ => 0))), (q6, .inl (cI, 8, .inl (fun _ => 0))), (q7, .inl (cI, 8, .inl (fun _ => 0))), (q8, .inl (cZ, 8, .inl (fun _ => 0))), (q9, .inl (cI, 8, .inl (fun _ => 0))), (q10, .inl (cI, 8, .inl (fun _ => 0))), (q11, .inl (cI, 8, .inl (fun _ => 0))), (q12, .inl (cI, 300, .inl (fun _ => 0))), (q13, .inl (cI, 5, .inl (fun _ => 0)))]) := hD
  exact hret H locs _ ls (fun j => ([q1, q2, q3, q4, q5, q6, q7, q8, q9, q10, q11, q12, q13] : List Nat).getD j 0) hP hD hS dX12_init_152
