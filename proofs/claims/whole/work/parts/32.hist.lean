/-! the undo ring is made: eight states -/
def stV0 : StV := (0, (fun _ => 0), (fun _ => 0), (fun _ => 0), (fun _ => 0), (fun _ => 0), 0, 3, 1, 7, 0, 0, 0, (upd (upd (upd (fun _ => 0) 0 1) 1 2) 2 0), (fun _ => 0), 0, (fun _ => 0), (fun _ => 0))
def ringP (cI : ClassId) (qa : Nat → Nat → Nat) (i : Nat) : va_W := (List.range i).flatMap (fun j => stW cI (qa j) stV0)
theorem ringP_succ {cI : ClassId} {qa : Nat → Nat → Nat} {i : Nat} {q : Nat → Nat} : ringP cI (va_up qa i q) (i + 1) = ringP cI qa i ++ stW cI q stV0 := by
  unfold ringP
  rw [List.range_succ, List.flatMap_append]
  have h : ∀ j ∈ List.range i, (fun j => stW cI (va_up qa i q j) stV0) j = (fun j => stW cI (qa j) stV0) j := fun j hj => by
    have := List.mem_range.mp hj
    simp [va_up, Nat.ne_of_lt this]
  rw [List.flatMap_def, List.map_congr_left h, ← List.flatMap_def]
  congr 1
  simp [va_up]
def cons0 (a : Nat) (u : Nat → Nat) : Nat → Nat := fun j => match j with
  | 0 => a
  | k + 1 => u k
theorem arrV_ext {cA : ClassId} {n : Nat} {f g : Nat → Value} (h : ∀ j, j < n → f j = g j) : arrV cA n f = arrV cA n g := by
  unfold arrV
  congr 1
  apply Array.ext
  · simp
  · intro i h1 h2
    simp only [Array.getElem_ofFn]
    exact h i (by simpa using h1)
/-- the row of the ring, by what it holds below 8 -/
theorem ri_ext {D : va_G} {cl : List vw_C} {q : Nat} {cS : ClassId} {f : Nat → Option Nat} {qa : Nat → Nat → Nat} {c0 : Nat × va_E} {F : va_W} {H : Heap} (hf : ∀ j, j < 8 → f j = some (qa j 0)) (h : va_P D cl ([c0, (q, .inl (cS, 8, .inr (.inr (.inr (.inr f)))))] ++ F) H) : va_P D cl ([c0, (q, .inl (cS, 8, .inr (.inr (.inr (.inr (fun i => some (qa i 0)))))))] ++ F) H := by
  have e : vp_cell cS (8, .inr (.inr (.inr (.inr f)))) = vp_cell cS (8, .inr (.inr (.inr (.inr (fun i => some (qa i 0)))))) := by
    rw [vp_cell_q, vp_cell_q]
    exact arrV_ext fun j hj => by rw [hf j hj]
  rw [va_P_iff] at h ⊢
  intro z hz
  simp only [List.cons_append, List.nil_append, List.mem_cons] at hz h
  rcases hz with hz | hz | hz
  · exact h z (Or.inl hz)
  · subst hz
    have h1 : H[q]? = some (vp_cell cS (8, .inr (.inr (.inr (.inr f))))) := h (q, .inl (cS, 8, .inr (.inr (.inr (.inr f))))) (Or.inr (Or.inl rfl))
    show H[q]? = some (vp_cell cS (8, .inr (.inr (.inr (.inr (fun i => some (qa i 0)))))))
    rw [h1, e]
  · exact h z (Or.inr (Or.inr hz))
theorem ri_extD {A : Nat → Prop} {q : Nat} {e e' : va_E} {c0 : Nat × va_E} {F : va_W} (h : va_D A ([c0, (q, e)] ++ F)) : va_D A ([c0, (q, e')] ++ F) := by
  rw [va_D_iff] at h ⊢
  refine ⟨h.1, fun z hz => ?_⟩
  simp only [List.cons_append, List.nil_append, List.mem_cons] at hz
  rcases hz with hz | hz | hz
  · exact h.2 z (by simp [hz])
  · subst hz
    exact h.2 (q, e) (by simp)
  · exact h.2 z (by simp [hz])
abbrev rm_X2_init : Room := { frames := 3, cells := 105, slots := 1408, locals := 52 }
set_option maxHeartbeats 4000000 in
set_option maxRecDepth 100000 in
theorem c_X2_init (l : Launch) (D : va_G) (cI cJ cZ cS : ClassId) (a p1 : Nat) : MN l yX2_init wsX2_init rm_X2_init D (TY cI cJ cZ cS) [.ref a, .ref p1] [(a, .inr (2, [.int 0, .null, .null, .int 0]))] (fun u : (Nat → Nat) × (Nat → Nat → Nat) => [(a, .inr (2, [.int 0, .ref p1, .ref (u.1 0), .int 0])), (u.1 0, .inl (cS, 8, .inr (.inr (.inr (.inr (fun i => some (u.2 i 0)))))))] ++ ringW cI u.2 (fun _ => stV0)) 105 1408 := by
  refine MN_of (cc := cX2_init) (maxL := 3) (by decide) rfl rfl (Nat.le_of_ble_eq_true rfl) ?_
  intro p e s m args below meth c A Q ls H locs hx hb hml hin hts hown hK hA hP hD hS hl hret
  have hown : s.vm.findClass RX2 = some m.cls := hown
  have hKv : va_K D vwCl (TY cI cJ cZ cS) s := hK.1.1
  have hl : lv_has ls 3 [(0, .ref a), (1, .ref p1)] := hl
  have S : CallFix p m c cX2_init 3 s args wsX2_init RX2 := ⟨hx, hb, hml, hown, hts⟩
  have k1 := hts (.fieldLink RX2 9 "CitationFormatter$History" "count" "I") (by decide +kernel)
  have k2 : ∀ w ∈ wsX20, w ∈ wsX2_init := by decide +kernel
  have k3 := hts (.fieldLink RX2 17 "CitationFormatter$History" "ring" "[LCitationFormatter$State;") (by decide +kernel)
  have k4 := hts (.fieldLink RX2 21 "CitationFormatter$History" "next" "I") (by decide +kernel)
  have k5 := hts (.fieldLink RX2 24 "CitationFormatter$History" "current" "LCitationFormatter$State;") (by decide +kernel)
  have k6 : ∀ w ∈ wsX70, w ∈ wsX2_init := by decide +kernel
  have k7 := hts (.classLink RX2 15 RX7) (by decide +kernel)
  have k8 := hts (.instantiable RX7 3) (by decide +kernel)
  have k9 := hts (.initialized RX7) (by decide +kernel)
  have k10 : va_CN rm_X2_init s args RX2 28 yX7_init "CitationFormatter" cX7_init 1 none wsX7_init rm_X7_init 12 172 0 ∧ yX7_init.name = "<init>" ∧ (Cond.instanceMethod yX7_init).before args s = true := ⟨va_cnB 0 hts gX2_init_X7_init_n28 rfl rfl rfl (hK.1.2 (RX2, 28, yX7_init) (by decide +kernel)) (hts (.initialized RX7) (by decide +kernel)) (by decide +kernel) ⟨Nat.le_of_ble_eq_true rfl, Nat.le_of_ble_eq_true rfl⟩, rfl, hts (.instanceMethod yX7_init) (by decide +kernel)⟩
  refine lv_aload_n hx hb dX2_init_0 rfl (lv_at hl 0 rfl) ?_
  refine W.objInit hx hb hown (hts (.methodLink RX2 3 objectInit) (by decide +kernel)) (hts (.instanceMethod objectInit) (by decide +kernel)) (hts (.code objectInit ⟨#[0xb1]⟩ 1 none) (by decide +kernel)) rfl (by rw [hml]; exact hl.1) rfl dX2_init_1 (Nat.le_of_ble_eq_true rfl) (Nat.le_of_ble_eq_true rfl) ?_
  refine W.eq (g2 := F0 m 4 ls []) rfl ?_
  refine lv_aload_n hx hb dX2_init_4 rfl (lv_at hl 0 rfl) ?_
  refine lv_iconst (v := 0) hx hb dX2_init_5 (by decide) ?_
  refine va_put (D := D) (ci := 2) (v := .int 0) (ty := .int) (C := RX2) (T := TX2) (N := 4) hx hb hts k2 tyX2 tyX2_ok nmX2 hown hKv hP hD hS 0 rfl rfl 0 (by decide) k1 (fun _ h9 => h9) rfl (by decide +kernel) rfl rfl (Nat.le_of_ble_eq_true rfl) dX2_init_6 (fun H locs hP hD hS => ?_)
  replace hP : va_P D vwCl [(a, .inr (2, [.int 0, .null, .null, .int 0]))] H := hP
  replace hD : va_D A [(a, .inr (2, [.int 0, .null, .null, .int 0]))] := hD
  refine lv_aload_n hx hb dX2_init_9 rfl (lv_at hl 0 rfl) ?_
  refine lv_bipush (v := 8) hx hb dX2_init_10 (by decide) ?_
  refine va_newq (N' := 8) hx hb hown k7 hK.2 hKv hP hD hS hA (by decide) (by decide) (by decide) (Nat.le_of_ble_eq_true rfl) (Nat.le_of_ble_eq_true rfl) dX2_init_12 (fun q1 cA H hKn hP hD hS => ?_)
  obtain rfl := (newS hKn).symm
  replace hP : va_P D vwCl [(a, .inr (2, [.int 0, .null, .null, .int 0])), (q1, .inl (cS, 8, .inr (.inr (.inr (.inr (fun _ => none))))))] H := hP
  replace hD : va_D A [(a, .inr (2, [.int 0, .null, .null, .int 0])), (q1, .inl (cS, 8, .inr (.inr (.inr (.inr (fun _ => none))))))] := hD
  refine va_putF (D := D) (ci := 2) (v := .ref q1) (ty := .array (.object "CitationFormatter$State")) (C := RX2) (T := TX2) (N := 4) hx hb hts k2 tyX2 tyX2_ok nmX2 hown hKv hP hD hS 0 rfl rfl 2 (by decide) k3 (fun _ h9 => h9) rfl hin rfl (by decide +kernel) rfl rfl (Nat.le_of_ble_eq_true rfl) dX2_init_15 (fun H locs hP hD hS => ?_)
  refine lv_aload_n hx hb dX2_init_18 rfl (lv_at hl 0 rfl) ?_
  refine lv_iconst (v := 0) hx hb dX2_init_19 (by decide) ?_
  replace hP : va_P D vwCl [(a, .inr (2, [.int 0, .null, .ref q1, .int 0])), (q1, .inl (cS, 8, .inr (.inr (.inr (.inr (fun _ => none))))))] H := hP
  replace hD : va_D A [(a, .inr (2, [.int 0, .null, .ref q1, .int 0])), (q1, .inl (cS, 8, .inr (.inr (.inr (.inr (fun _ => none))))))] := hD
  refine va_put (D := D) (ci := 2) (v := .int 0) (ty := .int) (C := RX2) (T := TX2) (N := 4) hx hb hts k2 tyX2 tyX2_ok nmX2 hown hKv hP hD hS 0 rfl rfl 3 (by decide) k4 (fun _ h9 => h9) rfl (by decide +kernel) rfl rfl (Nat.le_of_ble_eq_true rfl) dX2_init_20 (fun H locs hP hD hS => ?_)
  refine lv_aload_n hx hb dX2_init_23 rfl (lv_at hl 0 rfl) ?_
  refine lv_aload_n hx hb dX2_init_24 rfl (lv_at hl 1 rfl) ?_
  replace hP : va_P D vwCl [(a, .inr (2, [.int 0, .null, .ref q1, .int 0])), (q1, .inl (cS, 8, .inr (.inr (.inr (.inr (fun _ => none))))))] H := hP
  replace hD : va_D A [(a, .inr (2, [.int 0, .null, .ref q1, .int 0])), (q1, .inl (cS, 8, .inr (.inr (.inr (.inr (fun _ => none))))))] := hD
  refine va_putF (D := D) (ci := 2) (v := .ref p1) (ty := .object "CitationFormatter$State") (C := RX2) (T := TX2) (N := 4) hx hb hts k2 tyX2 tyX2_ok nmX2 hown hKv hP hD hS 0 rfl rfl 1 (by decide) k5 (fun _ h9 => h9) rfl hin rfl (by decide +kernel) rfl rfl (Nat.le_of_ble_eq_true rfl) dX2_init_25 (fun H locs hP hD hS => ?_)
  replace hP : va_P D vwCl ([(a, .inr (2, [.int 0, .ref p1, .ref q1, .int 0])), (q1, .inl (cS, 8, .inr (.inr (.inr (.inr (fun _ => none))))))] ++ ringP cI (fun _ _ => 0) 0) H := hP
  replace hD : va_D A ([(a, .inr (2, [.int 0, .ref p1, .ref q1, .int 0])), (q1, .inl (cS, 8, .inr (.inr (.inr (.inr (fun _ => none))))))] ++ ringP cI (fun _ _ => 0) 0) := hD
  refine lv_iconst (v := 0) hx hb dX2_init_28 (by decide) ?_
  refine lv_istore_n (lv' := [(2, .int 0), (0, .ref a), (1, .ref p1)]) hx hb dX2_init_29 rfl hl (by decide) rfl (fun ls hl => ?_)
  have loop : ∀ (n i : Nat), i + n = 8 → ∀ (qa : Nat → Nat → Nat) (f : Nat → Option Nat), (∀ j, j < i → f j = some (qa j 0)) → ∀ (H : Heap) (locs : List Loc) (ls : Array Slot), va_P D vwCl ([(a, .inr (2, [.int 0, .ref p1, .ref q1, .int 0])), (q1, .inl (cS, 8, .inr (.inr (.inr (.inr f)))))] ++ ringP cI qa i) H → va_D A ([(a, .inr (2, [.int 0, .ref p1, .ref q1, .int 0])), (q1, .inl (cS, 8, .inr (.inr (.inr (.inr f)))))] ++ ringP cI qa i) → va_S A s.heap H locs → lv_has ls 3 [(2, .int (nI i)), (0, .ref a), (1, .ref p1)] → W p l e rm_X2_init s m args below meth c H locs (1 + 13 * i) (8 + 175 * i) Q (F0 m 30 ls []) := by
    intro n
    induction n with
    | zero =>
      intro i hi qa f hf H locs ls hP hD hS hl
      obtain rfl : i = 8 := by omega
      refine lv_iload_n hx hb dX2_init_30 rfl (lv_at hl 0 rfl) ?_
      refine lv_bipush (v := 8) hx hb dX2_init_31 (by decide) ?_
      refine lv_icmp_ge (tgt := 55) hx hb dX2_init_33 (by decide) (fun c1 => ?_) (fun c1 => absurd (by decide) c1)
      replace hP := ri_ext hf hP
      replace hD := ri_extD (e' := .inl (cS, 8, .inr (.inr (.inr (.inr (fun i => some (qa i 0))))))) hD
      exact hret H locs _ ls (fun _ => q1, qa) hP hD hS dX2_init_55
    | succ n ih =>
      intro i hi qa f hf H locs ls hP hD hS hl
      have hi8 : i < 8 := by omega
      refine lv_iload_n hx hb dX2_init_30 rfl (lv_at hl 0 rfl) ?_
      refine lv_bipush (v := 8) hx hb dX2_init_31 (by decide) ?_
      refine lv_icmp_ge (tgt := 55) hx hb dX2_init_33 (by decide) (fun c1 => absurd c1 (nI_ge hi8 (by decide))) (fun c1 => ?_)
      refine lv_aload_n hx hb dX2_init_36 rfl (lv_at hl 1 rfl) ?_
      refine va_get (D := D) (ci := 2) (v := .ref q1) (C := RX2) (T := TX2) (N := 4) hx hb hts k2 hown hKv hP 0 rfl rfl 2 (by decide) k3 (fun _ h9 => h9) rfl dX2_init_37 ?_
      refine lv_iload_n hx hb dX2_init_40 rfl (lv_at hl 0 rfl) ?_
      refine va_new (ci := 7) (fs := [.null, .null, .null]) (C := RX7) (T := TX7) (N := 3) hx hb hts k6 tyX7 tyX7_ok hown k7 k8 k9 hKv hP hD hS hA rfl (fun j hj => by rcases (show j = 0 ∨ j = 1 ∨ j = 2 by omega) with rfl | rfl | rfl <;> rfl) (show 1 + 13 * i + 1 ≤ 105 by omega) (show 8 + 175 * i + 3 ≤ 1408 by omega) dX2_init_41 (fun q2 H hP hD hS => ?_)
      replace hP := hP.perm (swapP _ _ _)
      replace hD := hD.perm (swapP _ _ _)
      refine lv_dup hx hb dX2_init_44 rfl ?_
      refine kIN_n (rest := [.ref q2, .int (nI i), .ref q1]) (ws := [(a, .inr (2, [.int 0, .ref p1, .ref q1, .int 0])), (q1, .inl (cS, 8, .inr (.inr (.inr (.inr f))))), (q2, .inr (7, [.null, .null, .null]))]) (wr := [(a, .inr (2, [.int 0, .ref p1, .ref q1, .int 0])), (q1, .inl (cS, 8, .inr (.inr (.inr (.inr f)))))]) (F := ringP cI qa i) S (c_X7_init l D cI cJ cZ cS q2) k10 hK hP hD hS hA rfl hl.1 rfl (Nat.le_of_ble_eq_true rfl) ⟨show 1 + 13 * i + 1 + 12 ≤ 105 by omega, show 8 + 175 * i + 3 + 172 ≤ 1408 by omega⟩ dX2_init_45 [2] [0, 1] rfl rfl rfl rfl rfl (fun u H locs hP hD hS => ?_)
      replace hP : va_P D vwCl (([(a, .inr (2, [.int 0, .ref p1, .ref q1, .int 0])), (q1, .inl (cS, 8, .inr (.inr (.inr (.inr f)))))] ++ stW cI (cons0 q2 u) stV0) ++ ringP cI qa i) H := hP
      replace hD : va_D A (([(a, .inr (2, [.int 0, .ref p1, .ref q1, .int 0])), (q1, .inl (cS, 8, .inr (.inr (.inr (.inr f)))))] ++ stW cI (cons0 q2 u) stV0) ++ ringP cI qa i) := hD
      refine va_astq hx hb hKv hP hD hS 1 3 2 7 rfl rfl rfl rfl (nI_in hi8 (by decide)) dX2_init_48 (fun H locs hP hD hS => ?_)
      rw [nI_clamp (show i < 2 ^ 31 by omega)] at hP hD
      replace hP : va_P D vwCl (([(a, .inr (2, [.int 0, .ref p1, .ref q1, .int 0])), (q1, .inl (cS, 8, .inr (.inr (.inr (.inr (va_up f i (some q2)))))))] ++ stW cI (cons0 q2 u) stV0) ++ ringP cI qa i) H := hP
      replace hD : va_D A (([(a, .inr (2, [.int 0, .ref p1, .ref q1, .int 0])), (q1, .inl (cS, 8, .inr (.inr (.inr (.inr (va_up f i (some q2)))))))] ++ stW cI (cons0 q2 u) stV0) ++ ringP cI qa i) := hD
      have hp : (([(a, .inr (2, [.int 0, .ref p1, .ref q1, .int 0])), (q1, .inl (cS, 8, .inr (.inr (.inr (.inr (va_up f i (some q2)))))))] ++ stW cI (cons0 q2 u) stV0) ++ ringP cI qa i : va_W).Perm ([(a, .inr (2, [.int 0, .ref p1, .ref q1, .int 0])), (q1, .inl (cS, 8, .inr (.inr (.inr (.inr (va_up f i (some q2)))))))] ++ ringP cI (va_up qa i (cons0 q2 u)) (i + 1)) := by
        rw [ringP_succ, List.append_assoc]
        exact List.perm_append_comm.append_left _
      refine lv_iinc (v := nI (i + 1)) (lv' := [(2, .int (nI (i + 1))), (0, .ref a), (1, .ref p1)]) hx hb dX2_init_49 hl (k := 0) rfl (by rw [nI_succ]; rfl) (by decide) rfl (fun ls hl => ?_)
      refine lv_goto (tgt := 30) hx hb dX2_init_52 (by decide) ?_
      refine W.widen (k := 1 + 13 * (i + 1)) (n := 8 + 175 * (i + 1)) (by omega) (by omega) ?_
      exact ih (i + 1) (by omega) (va_up qa i (cons0 q2 u)) (va_up f i (some q2)) (fun j hj => by
        by_cases e1 : j = i
        · subst e1; simp [va_up, cons0]
        · simp only [va_up, e1, if_false]; exact hf j (by omega)) H locs ls (hP.perm hp) (hD.perm hp) hS hl
  exact loop 8 0 rfl (fun _ _ => 0) (fun _ => none) (fun j hj => absurd hj (Nat.not_lt_zero j)) H locs ls hP hD hS hl
