/-! the states of the undo ring: what one holds, its thirteen cells -/
abbrev StV : Type := Int32 × (Nat → Int32) × (Nat → Int32) × (Nat → Int32) × (Nat → Int32) × (Nat → Int32) × Int32 × Int32 × Int32 × Int32 × Int32 × Int32 × Int32 × (Nat → Int32) × (Nat → Int32) × Int32 × (Nat → Int32) × (Nat → Int32)
def stC (cI : ClassId) (q : Nat → Nat) (c0 : Int32) (c1 : Nat → Int32) (c2 : Nat → Int32) (c3 : Nat → Int32) (c4 : Nat → Int32) (c5 : Nat → Int32) (c6 : Int32) (c7 : Int32) (c8 : Int32) (c9 : Int32) (c10 : Int32) (c11 : Int32) (c12 : Int32) (c13 : Nat → Int32) (c14 : Nat → Int32) (c15 : Int32) (c16 : Nat → Int32) (c17 : Nat → Int32) : va_W := [(q 0, .inr (7, [.ref (q 1), .ref (q 7), .ref (q 10)])),
  (q 1, .inr (9, [.int c0, .ref (q 2), .ref (q 3), .ref (q 4), .ref (q 5), .ref (q 6)])), (q 2, .inl (cI, 8, .inl c1)), (q 3, .inl (cI, 32, .inl c2)), (q 4, .inl (cI, 32, .inl c3)), (q 5, .inl (cI, 8, .inl c4)), (q 6, .inl (cI, 8, .inl c5)),
  (q 7, .inr (6, [.int c6, .int c7, .int c8, .int c9, .int c10, .int c11, .int c12, .ref (q 8), .ref (q 9)])), (q 8, .inl (cI, 3, .inl c13)), (q 9, .inl (cI, 3, .inl c14)),
  (q 10, .inr (1, [.int c15, .ref (q 11), .ref (q 12)])), (q 11, .inl (cI, 10, .inl c16)), (q 12, .inl (cI, 50, .inl c17))]
def stW (cI : ClassId) (q : Nat → Nat) (v : StV) : va_W := stC cI q v.1 v.2.1 v.2.2.1 v.2.2.2.1 v.2.2.2.2.1 v.2.2.2.2.2.1 v.2.2.2.2.2.2.1 v.2.2.2.2.2.2.2.1 v.2.2.2.2.2.2.2.2.1 v.2.2.2.2.2.2.2.2.2.1 v.2.2.2.2.2.2.2.2.2.2.1 v.2.2.2.2.2.2.2.2.2.2.2.1 v.2.2.2.2.2.2.2.2.2.2.2.2.1 v.2.2.2.2.2.2.2.2.2.2.2.2.2.1 v.2.2.2.2.2.2.2.2.2.2.2.2.2.2.1 v.2.2.2.2.2.2.2.2.2.2.2.2.2.2.2.1 v.2.2.2.2.2.2.2.2.2.2.2.2.2.2.2.2.1 v.2.2.2.2.2.2.2.2.2.2.2.2.2.2.2.2.2
def ringW (cI : ClassId) (qa : Nat → Nat → Nat) (rv : Nat → StV) : va_W := (List.range 8).flatMap (fun i => stW cI (qa i) (rv i))
/-- the ring without its k-th state -/
def ringR (cI : ClassId) (qa : Nat → Nat → Nat) (rv : Nat → StV) (k : Nat) : va_W := ((List.range 8).erase k).flatMap (fun i => stW cI (qa i) (rv i))
theorem ring_perm {cI : ClassId} {qa : Nat → Nat → Nat} {rv : Nat → StV} {k : Nat} (hk : k < 8) : (ringW cI qa rv).Perm (stW cI (qa k) (rv k) ++ ringR cI qa rv k) := by
  have h := List.Perm.flatMap_right (fun i => stW cI (qa i) (rv i)) (List.perm_cons_erase (List.mem_range.mpr hk))
  rw [List.flatMap_cons] at h
  exact h
theorem ringR_up {cI : ClassId} {qa : Nat → Nat → Nat} {rv : Nat → StV} {k : Nat} {v : StV} : ringR cI qa (va_up rv k v) k = ringR cI qa rv k := by
  unfold ringR
  have h : ∀ i ∈ (List.range 8).erase k, (fun i => stW cI (qa i) (va_up rv k v i)) i = (fun i => stW cI (qa i) (rv i)) i := fun i hi => by
    have hne : i ≠ k := fun e => by
      subst e
      exact (List.Nodup.not_mem_erase List.nodup_range) hi
    simp [va_up, hne]
  rw [List.flatMap_def, List.flatMap_def, List.map_congr_left h]
theorem ring_fst {cI : ClassId} {qa : Nat → Nat → Nat} {rv rv' : Nat → StV} : (ringW cI qa rv').map Prod.fst = (ringW cI qa rv).map Prod.fst := by
  unfold ringW
  rw [List.map_flatMap, List.map_flatMap]
  rfl
theorem va_P_iff {D : va_G} {cl : List vw_C} {ws : va_W} {H : Heap} : va_P D cl ws H ↔ ∀ q ∈ ws, va_at D cl q H := by
  constructor
  · intro h q hq
    obtain ⟨k, hk⟩ := List.getElem?_of_mem hq
    exact h k q hk
  · intro h k q hk
    exact h q (List.mem_of_getElem? hk)
theorem va_D_iff {A : Nat → Prop} {ws : va_W} : va_D A ws ↔ (ws.map Prod.fst).Nodup ∧ ∀ q ∈ ws, A q.1 := by
  constructor
  · intro h
    refine ⟨List.pairwise_iff_getElem.mpr ?_, fun q hq => ?_⟩
    · intro i j hi hj hij e
      have hi' : i < ws.length := by simpa using hi
      have hj' : j < ws.length := by simpa using hj
      rw [List.getElem_map, List.getElem_map] at e
      have := h.1 i j _ _ (List.getElem?_eq_getElem hi') (List.getElem?_eq_getElem hj') e
      omega
    · obtain ⟨k, hk⟩ := List.getElem?_of_mem hq
      exact h.2 k q hk
  · intro h
    refine ⟨fun i j p q hi hj e => ?_, fun k q hk => h.2 q (List.mem_of_getElem? hk)⟩
    have hn := List.pairwise_iff_getElem.mp h.1
    obtain ⟨li, ei⟩ := List.getElem?_eq_some_iff.mp hi
    obtain ⟨lj, ej⟩ := List.getElem?_eq_some_iff.mp hj
    have ki : i < (ws.map Prod.fst).length := by simpa using li
    have kj : j < (ws.map Prod.fst).length := by simpa using lj
    rcases Nat.lt_trichotomy i j with h1 | h1 | h1
    · exact absurd (by rw [List.getElem_map, List.getElem_map, ei, ej]; exact e) (hn i j ki kj h1)
    · exact h1
    · exact absurd (by rw [List.getElem_map, List.getElem_map, ei, ej]; exact e.symm) (hn j i kj ki h1)
theorem va_P.perm {D : va_G} {cl : List vw_C} {ws ws' : va_W} {H : Heap} (h : va_P D cl ws H) (hp : ws.Perm ws') : va_P D cl ws' H := va_P_iff.mpr fun q hq => va_P_iff.mp h q (hp.mem_iff.mpr hq)
theorem va_D.perm {A : Nat → Prop} {ws ws' : va_W} (h : va_D A ws) (hp : ws.Perm ws') : va_D A ws' := by
  rw [va_D_iff] at h ⊢
  exact ⟨(hp.map Prod.fst).nodup_iff.mp h.1, fun q hq => h.2 q (hp.mem_iff.mpr hq)⟩
theorem ring_out_p {cI : ClassId} {qa : Nat → Nat → Nat} {rv : Nat → StV} {k : Nat} {X : va_W} (hk : k < 8) : (X ++ ringW cI qa rv).Perm ((X ++ stW cI (qa k) (rv k)) ++ ringR cI qa rv k) := by
  rw [List.append_assoc]
  exact (ring_perm hk).append_left X
theorem ring_in_p {cI : ClassId} {qa : Nat → Nat → Nat} {rv : Nat → StV} {k : Nat} {X : va_W} {v : StV} (hk : k < 8) : ((X ++ stW cI (qa k) v) ++ ringR cI qa rv k).Perm (X ++ ringW cI qa (va_up rv k v)) := by
  have h := (ring_out_p (cI := cI) (qa := qa) (rv := va_up rv k v) (X := X) hk).symm
  rw [ringR_up] at h
  have e : va_up rv k v k = v := by simp [va_up]
  rw [e] at h
  exact h
/-! calls in a world with something behind it -/
theorem nd_iff : ∀ {l : List Nat}, va_nd l = true ↔ l.Nodup
  | [] => by simp [va_nd]
  | a :: l => by simp [va_nd, nd_iff (l := l), List.nodup_cons]
theorem places_lt {ws wc : va_W} {isC : List Nat} (hC : isC.map (fun i => ws[i]?) = wc.map some) : ∀ i ∈ isC, i < ws.length := by
  intro i hi
  have h1 : ws[i]? ∈ isC.map (fun i => ws[i]?) := List.mem_map_of_mem (f := fun i => ws[i]?) hi
  rw [hC] at h1
  obtain ⟨q, -, e⟩ := List.mem_map.mp h1
  exact (List.getElem?_eq_some_iff.mp e.symm).1
theorem places_app {ws wc F : va_W} {isC : List Nat} (hC : isC.map (fun i => ws[i]?) = wc.map some) : isC.map (fun i => (ws ++ F)[i]?) = wc.map some := by
  rw [← hC]
  exact List.map_congr_left fun i hi => List.getElem?_append_left (places_lt hC i hi)
theorem setAll_len : ∀ (is : List Nat) (xs ws : va_W), (setAll ws is xs).length = ws.length
  | [], xs, ws => by cases xs <;> rfl
  | i :: is, [], ws => rfl
  | i :: is, x :: xs, ws => by
    show (setAll (ws.set i x) is xs).length = _
    rw [setAll_len is xs, List.length_set]
theorem setAll_app : ∀ (is : List Nat) (xs ws F : va_W), (∀ i ∈ is, i < ws.length) → setAll (ws ++ F) is xs = setAll ws is xs ++ F
  | [], xs, ws, F, _ => by cases xs <;> rfl
  | i :: is, [], ws, F, _ => rfl
  | i :: is, x :: xs, ws, F, h => by
    show setAll ((ws ++ F).set i x) is xs = setAll (ws.set i x) is xs ++ F
    rw [List.set_append_left _ _ (h i List.mem_cons_self), setAll_app is xs (ws.set i x) F (fun j hj => by rw [List.length_set]; exact h j (List.mem_cons_of_mem _ hj))]
/-- the places of what stands behind -/
def tailP (n k : Nat) : List Nat := (List.range k).map (fun j => n + j)
theorem tail_places {ws wc F : va_W} {isC : List Nat} (hC : isC.map (fun i => ws[i]?) = wc.map some) : (isC ++ tailP ws.length F.length).map (fun i => (ws ++ F)[i]?) = (wc ++ F).map some := by
  rw [List.map_append, List.map_append, places_app hC]
  congr 1
  apply List.ext_getElem?
  intro j
  simp only [tailP, List.map_map, List.getElem?_map]
  by_cases hj : j < F.length
  · rw [List.getElem?_range hj, List.getElem?_eq_getElem hj]
    simp only [Option.map_some, Function.comp]
    rw [List.getElem?_append_right (Nat.le_add_right _ _), Nat.add_sub_cancel_left, List.getElem?_eq_getElem hj]
  · rw [List.getElem?_eq_none (by simpa using Nat.not_lt.mp hj), List.getElem?_eq_none (Nat.not_lt.mp hj)]
    rfl
theorem tail_nd {n k : Nat} {isC : List Nat} (hn : va_nd isC = true) (hb : ∀ i ∈ isC, i < n) : va_nd (isC ++ tailP n k) = true := by
  rw [nd_iff, List.nodup_append]
  refine ⟨nd_iff.mp hn, ?_, fun a ha b hb' => ?_⟩
  · unfold tailP
    exact List.Pairwise.map (S := fun a b => a ≠ b) (fun j => n + j) (fun a b h e => h (by omega)) List.nodup_range
  · obtain ⟨j, -, e⟩ := List.mem_map.mp hb'
    have := hb a ha
    omega
theorem tail_set {ws wc wc' F F' : va_W} {isC : List Nat} (hC : isC.map (fun i => ws[i]?) = wc.map some) (hn : va_nd isC = true) (hl : wc'.length = wc.length) (hF : F'.length = F.length) : setAll (ws ++ F) (isC ++ tailP ws.length F.length) (wc' ++ F') = setAll ws isC wc' ++ F' := by
  have hb := places_lt hC
  have hlC : isC.length = wc'.length := by rw [hl]; have := congrArg List.length hC; simpa using this
  have t1 : (tailP ws.length F.length).length = F.length := by simp [tailP]
  obtain ⟨a1, a2⟩ := setAll_spec (isC ++ tailP ws.length F.length) (wc' ++ F') (ws ++ F) (tail_nd hn hb) (by rw [List.length_append, List.length_append, t1, hlC, hF]) (fun i hi => by
    rw [List.length_append]
    rcases List.mem_append.mp hi with h | h
    · exact Nat.lt_of_lt_of_le (hb i h) (Nat.le_add_right _ _)
    · obtain ⟨j, hj, e⟩ := List.mem_map.mp h
      have := List.mem_range.mp hj
      omega)
  obtain ⟨b1, b2⟩ := setAll_spec isC wc' ws hn hlC hb
  apply List.ext_getElem?
  intro k
  by_cases hk : k < ws.length
  · rw [List.getElem?_append_left (by rw [setAll_len]; exact hk)]
    by_cases hm : k ∈ isC
    · obtain ⟨j, hj⟩ := List.getElem?_of_mem hm
      have lj : j < isC.length := (List.getElem?_eq_some_iff.mp hj).1
      rw [b1 j k hj, a1 j k (by rw [List.getElem?_append_left lj]; exact hj), List.getElem?_append_left (by rw [← hlC]; exact lj)]
    · rw [b2 k hm, a2 k (fun h => by
        rcases List.mem_append.mp h with h | h
        · exact hm h
        · obtain ⟨j, -, e⟩ := List.mem_map.mp h
          omega), List.getElem?_append_left hk]
  · have hk' := Nat.not_lt.mp hk
    rw [List.getElem?_append_right (by rw [setAll_len]; exact hk'), setAll_len]
    by_cases hj : k - ws.length < F.length
    · have e : (isC ++ tailP ws.length F.length)[isC.length + (k - ws.length)]? = some k := by
        rw [List.getElem?_append_right (Nat.le_add_right _ _), Nat.add_sub_cancel_left]
        unfold tailP
        rw [List.getElem?_map, List.getElem?_range hj]
        simp only [Option.map_some]
        congr 1
        omega
      rw [a1 _ k e, List.getElem?_append_right (by rw [← hlC]; exact Nat.le_add_right _ _), ← hlC, Nat.add_sub_cancel_left]
    · rw [a2 k (fun h => by
        rcases List.mem_append.mp h with h | h
        · exact hk (hb k h)
        · obtain ⟨j, hj', e⟩ := List.mem_map.mp h
          have := List.mem_range.mp hj'
          omega), List.getElem?_eq_none (by rw [List.length_append]; omega), List.getElem?_eq_none (by rw [hF]; omega)]
section KF
variable {p : Program} {l : Launch} {e : Env} {R : Room} {s : State} {m : MethodId} {args : Array Value} {below : List Frame} {meth : Method} {c : Code} {H : Heap} {locs : List Loc} {cells slots : Nat} {Q : State → Prop}
variable {y : MethodName} {bytes cc : ByteArray} {maxL nL n index pc : Nat} {ret : Option FieldType} {w Ts : List Cond} {rm : Room} {own C host : String} {b : Nat} {As rest st : List Value} {ls : Array Slot} {D : va_G} {tys : List (ClassId × FieldType)} {ws wc wc' ws' F F' : va_W} {A : Nat → Prop} {r : Int32} {q : vw_C} {fs : List Value} {q0 ci : Nat}
/-- a call that leaves what stands behind as it is -/
theorem kVF_i (S : CallFix p m c cc nL s args Ts own) (hM : MI l y w rm D tys (.ref b :: As) wc wc' r) (cw : CallW R s args own C index y bytes maxL ret w rm 0 0 n) (hK : KK D tys s) (hP : va_P D vwCl (ws ++ F) H) (hD : va_D A (ws ++ F)) (hS : va_S A s.heap H locs) (hA : ∀ q, s.heap.size ≤ q → A q)
    (q0 : Nat) (he : ws[q0]? = some (b, .inr (ci, fs))) (hc : vwCl[ci]? = some q) (hC1 : q.1 = C) (hlen : As.length = n) (hsize : ls.size = nL) (hst : st = As.reverse ++ .ref b :: rest) (hroom : (rest.map fun v => v.category).sum ≤ 8) (hfit : cells ≤ R.cells ∧ slots ≤ R.slots) (hdg : decode cc pc = .ok (.invokevirtual index, 3))
    (isC : List Nat) (hC : isC.map (fun i => ws[i]?) = wc.map some) (hn : va_nd isC = true) (ha : wc'.map Prod.fst = wc.map Prod.fst) (hws : setAll ws isC wc' = ws')
    (kk : ∀ (H1 : Heap) (locs1 : List Loc), va_P D vwCl (ws' ++ F) H1 → va_D A (ws' ++ F) → va_S A s.heap H1 locs1 → W p l e R s m args below meth c H1 locs1 cells slots Q (F0 m (pc + 3) ls (.int r :: rest))) : W p l e R s m args below meth c H locs cells slots Q (F0 m pc ls st) :=
  kV_i (rest := rest) S hM cw hK hP hD hS hA q0 (by rw [List.getElem?_append_left (List.getElem?_eq_some_iff.mp he).1]; exact he) hc hC1 hlen hsize hst hroom hfit hdg isC (places_app hC) hn ha (by rw [setAll_app isC wc' ws F (places_lt hC), hws]) kk
theorem kVF_v (S : CallFix p m c cc nL s args Ts own) (hM : MV l y w rm D tys (.ref b :: As) wc wc') (cw : CallW R s args own C index y bytes maxL ret w rm 0 0 n) (hK : KK D tys s) (hP : va_P D vwCl (ws ++ F) H) (hD : va_D A (ws ++ F)) (hS : va_S A s.heap H locs) (hA : ∀ q, s.heap.size ≤ q → A q)
    (q0 : Nat) (he : ws[q0]? = some (b, .inr (ci, fs))) (hc : vwCl[ci]? = some q) (hC1 : q.1 = C) (hlen : As.length = n) (hsize : ls.size = nL) (hst : st = As.reverse ++ .ref b :: rest) (hroom : (rest.map fun v => v.category).sum ≤ 8) (hfit : cells ≤ R.cells ∧ slots ≤ R.slots) (hdg : decode cc pc = .ok (.invokevirtual index, 3))
    (isC : List Nat) (hC : isC.map (fun i => ws[i]?) = wc.map some) (hn : va_nd isC = true) (ha : wc'.map Prod.fst = wc.map Prod.fst) (hws : setAll ws isC wc' = ws')
    (kk : ∀ (H1 : Heap) (locs1 : List Loc), va_P D vwCl (ws' ++ F) H1 → va_D A (ws' ++ F) → va_S A s.heap H1 locs1 → W p l e R s m args below meth c H1 locs1 cells slots Q (F0 m (pc + 3) ls rest)) : W p l e R s m args below meth c H locs cells slots Q (F0 m pc ls st) :=
  kV_v (rest := rest) S hM cw hK hP hD hS hA q0 (by rw [List.getElem?_append_left (List.getElem?_eq_some_iff.mp he).1]; exact he) hc hC1 hlen hsize hst hroom hfit hdg isC (places_app hC) hn ha (by rw [setAll_app isC wc' ws F (places_lt hC), hws]) kk
/-- a call that takes what stands behind along -/
theorem kVR_i (S : CallFix p m c cc nL s args Ts own) (hM : MI l y w rm D tys (.ref b :: As) (wc ++ F) (wc' ++ F') r) (cw : CallW R s args own C index y bytes maxL ret w rm 0 0 n) (hK : KK D tys s) (hP : va_P D vwCl (ws ++ F) H) (hD : va_D A (ws ++ F)) (hS : va_S A s.heap H locs) (hA : ∀ q, s.heap.size ≤ q → A q)
    (q0 : Nat) (he : ws[q0]? = some (b, .inr (ci, fs))) (hc : vwCl[ci]? = some q) (hC1 : q.1 = C) (hlen : As.length = n) (hsize : ls.size = nL) (hst : st = As.reverse ++ .ref b :: rest) (hroom : (rest.map fun v => v.category).sum ≤ 8) (hfit : cells ≤ R.cells ∧ slots ≤ R.slots) (hdg : decode cc pc = .ok (.invokevirtual index, 3))
    (isC : List Nat) (hC : isC.map (fun i => ws[i]?) = wc.map some) (hn : va_nd isC = true) (ha : wc'.map Prod.fst = wc.map Prod.fst) (hF : F'.map Prod.fst = F.map Prod.fst) (hws : setAll ws isC wc' = ws')
    (kk : ∀ (H1 : Heap) (locs1 : List Loc), va_P D vwCl (ws' ++ F') H1 → va_D A (ws' ++ F') → va_S A s.heap H1 locs1 → W p l e R s m args below meth c H1 locs1 cells slots Q (F0 m (pc + 3) ls (.int r :: rest))) : W p l e R s m args below meth c H locs cells slots Q (F0 m pc ls st) :=
  kV_i (rest := rest) S hM cw hK hP hD hS hA q0 (by rw [List.getElem?_append_left (List.getElem?_eq_some_iff.mp he).1]; exact he) hc hC1 hlen hsize hst hroom hfit hdg (isC ++ tailP ws.length F.length) (tail_places hC) (tail_nd hn (places_lt hC)) (by rw [List.map_append, List.map_append, ha, hF])
    (by rw [tail_set hC hn (by have := congrArg List.length ha; simpa using this) (by have := congrArg List.length hF; simpa using this), hws]) kk
theorem kVR_v (S : CallFix p m c cc nL s args Ts own) (hM : MV l y w rm D tys (.ref b :: As) (wc ++ F) (wc' ++ F')) (cw : CallW R s args own C index y bytes maxL ret w rm 0 0 n) (hK : KK D tys s) (hP : va_P D vwCl (ws ++ F) H) (hD : va_D A (ws ++ F)) (hS : va_S A s.heap H locs) (hA : ∀ q, s.heap.size ≤ q → A q)
    (q0 : Nat) (he : ws[q0]? = some (b, .inr (ci, fs))) (hc : vwCl[ci]? = some q) (hC1 : q.1 = C) (hlen : As.length = n) (hsize : ls.size = nL) (hst : st = As.reverse ++ .ref b :: rest) (hroom : (rest.map fun v => v.category).sum ≤ 8) (hfit : cells ≤ R.cells ∧ slots ≤ R.slots) (hdg : decode cc pc = .ok (.invokevirtual index, 3))
    (isC : List Nat) (hC : isC.map (fun i => ws[i]?) = wc.map some) (hn : va_nd isC = true) (ha : wc'.map Prod.fst = wc.map Prod.fst) (hF : F'.map Prod.fst = F.map Prod.fst) (hws : setAll ws isC wc' = ws')
    (kk : ∀ (H1 : Heap) (locs1 : List Loc), va_P D vwCl (ws' ++ F') H1 → va_D A (ws' ++ F') → va_S A s.heap H1 locs1 → W p l e R s m args below meth c H1 locs1 cells slots Q (F0 m (pc + 3) ls rest)) : W p l e R s m args below meth c H locs cells slots Q (F0 m pc ls st) :=
  kV_v (rest := rest) S hM cw hK hP hD hS hA q0 (by rw [List.getElem?_append_left (List.getElem?_eq_some_iff.mp he).1]; exact he) hc hC1 hlen hsize hst hroom hfit hdg (isC ++ tailP ws.length F.length) (tail_places hC) (tail_nd hn (places_lt hC)) (by rw [List.map_append, List.map_append, ha, hF])
    (by rw [tail_set hC hn (by have := congrArg List.length ha; simpa using this) (by have := congrArg List.length hF; simpa using this), hws]) kk
end KF
