/-! ===== what every contract here is made of: a method's functional model (an Option: none where the machine would go astray), and one shape of contract ===== -/
def fu : Nat := 2000
/-- a loop: its body goes round (inl) or out (inr) -/
def it {σ ρ : Type} (f : σ → Option (σ ⊕ ρ)) : Nat → σ → Option ρ
  | 0, _ => none
  | n + 1, s => (f s).bind fun x => Sum.elim (fun s' => it f n s') (fun r => some r) x
theorem it_W {σ ρ : Type} {f : σ → Option (σ ⊕ ρ)} {G : σ → Prop} {e : ρ} (step : ∀ st x, f st = some x → (∀ st', x = .inl st' → G st') → (∀ r, x = .inr r → r = e) → G st) : ∀ n st, it f n st = some e → G st := by
  intro n
  induction n with
  | zero => intro st h; cases h
  | succ n ih =>
    intro st h
    obtain ⟨x, hx, h⟩ := Option.bind_eq_some_iff.mp (show (f st).bind _ = some e from h)
    cases x with
    | inl s' => exact step st _ hx (fun st' e1 => by cases e1; exact ih s' h) (fun r e1 => by cases e1)
    | inr r => exact step st _ hx (fun st' e1 => by cases e1) (fun r' e1 => by cases e1; exact Option.some.inj h)
def ck {α : Type} (i : Int32) (n : Nat) (k : Option α) : Option α := if i < 0 ∨ n ≤ i.toNatClampNeg then none else k
theorem ck_some {α : Type} {i : Int32} {n : Nat} {k : Option α} {y : α} (h : ck i n k = some y) : vp_in i n ∧ k = some y := by
  unfold ck at h
  split at h
  · cases h
  · exact ⟨by assumption, h⟩
/-- a boolean is 0 or 1 -/
def ckb {α : Type} (v : Int32) (k : Option α) : Option α := if v = 0 ∨ v = 1 then k else none
theorem ckb_some {α : Type} {v : Int32} {k : Option α} {y : α} (h : ckb v k = some y) : (v = 0 ∨ v = 1) ∧ k = some y := by
  unfold ckb at h
  split at h
  · exact ⟨by assumption, h⟩
  · cases h
theorem nar_b {v : Int32} (h : v = 0 ∨ v = 1) : narrow .boolean (.int v) = .int v := by
  rcases h with rfl | rfl <;> decide +kernel
theorem vnar_b {v : Int32} (h : v = 0 ∨ v = 1) : vp_nar .boolean v = v := by
  rcases h with rfl | rfl <;> decide +kernel
theorem bd_some {α β : Type} {x : Option α} {f : α → Option β} {y : β} (h : x.bind f = some y) : ∃ e, x = some e ∧ f e = some y := Option.bind_eq_some_iff.mp h
theorem if_t {c : Prop} [Decidable c] {α : Type} {a b : Option α} {y : α} (hc : c) (h : (if c then a else b) = some y) : a = some y := by rwa [if_pos hc] at h
theorem if_f {c : Prop} [Decidable c] {α : Type} {a b : Option α} {y : α} (hc : ¬ c) (h : (if c then a else b) = some y) : b = some y := by rwa [if_neg hc] at h
theorem el_l {α β γ : Type} {f : α → Option γ} {g : β → Option γ} {x : α} {y : γ} (h : Sum.elim f g (Sum.inl x) = some y) : f x = some y := h
theorem el_r {α β γ : Type} {f : α → Option γ} {g : β → Option γ} {x : β} {y : γ} (h : Sum.elim f g (Sum.inr x) = some y) : g x = some y := h
/-- the links between nest mates -/
def nestL : List (String × Nat × MethodName) := [("CitationFormatter", 9, ⟨"CitationFormatter$Text", "<init>", "()V"⟩), ("CitationFormatter$WorksReader", 11, ⟨"CitationFormatter$Works", "<init>", "()V"⟩), ("CitationFormatter", 34, ⟨"CitationFormatter$State", "<init>", "()V"⟩), ("CitationFormatter$State", 9, ⟨"CitationFormatter$Works", "<init>", "()V"⟩), ("CitationFormatter$State", 18, ⟨"CitationFormatter$Settings", "<init>", "()V"⟩), ("CitationFormatter$State", 25, ⟨"CitationFormatter$Citations", "<init>", "()V"⟩), ("CitationFormatter$History", 28, ⟨"CitationFormatter$State", "<init>", "()V"⟩), ("CitationFormatter$Text", 23, ⟨"CitationFormatter", "inRange", "(III)Z"⟩), ("CitationFormatter$NumbersReader", 53, ⟨"CitationFormatter", "inRange", "(III)Z"⟩), ("CitationFormatter$Arrangement", 56, ⟨"CitationFormatter", "inSet", "(II)Z"⟩), ("CitationFormatter$Labels", 120, ⟨"CitationFormatter", "hasBelow", "(II)Z"⟩), ("CitationFormatter$Labels", 130, ⟨"CitationFormatter", "inSet", "(II)Z"⟩)]
def NW (U : State) : Prop := ∀ q ∈ nestL, va_Nw (.methodLinkNest q.1 q.2.1 q.2.2 "CitationFormatter") U
/-- what the tables say: classes, array classes, nest mates -/
def KK (D : va_G) (tys : List (ClassId × FieldType)) (U : State) : Prop := va_K D vwCl tys U ∧ NW U
abbrev TY (cI cJ cZ cS : ClassId) : List (ClassId × FieldType) := [(cI, .int), (cJ, .long), (cZ, .boolean), (cS, .object "CitationFormatter$State")]
theorem KK.warm {D : va_G} {tys : List (ClassId × FieldType)} {s U : State} (h : KK D tys s) (hW : s.WarmedH U.vm) : KK D tys U := ⟨va_K.moved hW.alike h.1, fun q hq => va_Nw.warmM hW (h.2 q hq)⟩
/-- a method's start: its arguments, the heap's size, its world -/
def mp (D : va_G) (tys : List (ClassId × FieldType)) (av : List Value) (ws : va_W) (sz : Nat) : Array Value → State → Prop := va_Pc av (fun U => U.heap.size = sz ∧ va_P D vwCl ws U.heap ∧ KK D tys U ∧ va_D (fun _ => True) ws)
/-- its end: its world -/
def mb (D : va_G) (ws : va_W) (sz : Nat) (ws' : va_W) : Unit → State → Prop := fun _ t => va_P D vwCl ws' t.heap ∧ va_D (va_A ws sz) ws'
/-- answers the int r, its world becomes ws' -/
abbrev MI (l : Launch) (y : MethodName) (w : List Cond) (rm : Room) (D : va_G) (tys : List (ClassId × FieldType)) (av : List Value) (ws ws' : va_W) (r : Int32) : Prop := ∀ sz : Nat, Met l y w rm (mp D tys av ws sz) (va_Qi (fun r' (_ : Unit) => r' = r) (mb D ws sz ws') (va_A ws sz)) 0 0 (va_A ws sz)
/-- answers nothing, its world becomes ws' -/
abbrev MV (l : Launch) (y : MethodName) (w : List Cond) (rm : Room) (D : va_G) (tys : List (ClassId × FieldType)) (av : List Value) (ws ws' : va_W) : Prop := ∀ sz : Nat, Met l y w rm (mp D tys av ws sz) (va_Qv (fun (_ : Unit) => True) (mb D ws sz ws') (va_A ws sz)) 0 0 (va_A ws sz)
theorem mp_blind {D : va_G} {tys : List (ClassId × FieldType)} {av : List Value} {ws : va_W} {sz : Nat} : FrameBlind (mp D tys av ws sz) := fun a U g mk q => by
  obtain ⟨q0, q1, qP, qK, qD⟩ := q
  exact ⟨q0, q1, qP, ⟨va_K.moved (u := U) (U := U.calling g mk a) (Vm.Alike.refl U.vm) qK.1, fun z hz => va_Nw.same (w := .methodLinkNest z.1 z.2.1 z.2.2 "CitationFormatter") rfl (u := U) (U := U.calling g mk a) rfl (qK.2 z hz)⟩, qD⟩
/-- cells put anew, by their places -/
def setAll : va_W → List Nat → va_W → va_W
  | ws, i :: is, x :: xs => setAll (ws.set i x) is xs
  | ws, _, _ => ws
theorem setAll_spec : ∀ (is : List Nat) (xs ws : va_W), va_nd is = true → is.length = xs.length → (∀ i ∈ is, i < ws.length) → (∀ (j i : Nat), is[j]? = some i → (setAll ws is xs)[i]? = xs[j]?) ∧ (∀ k, k ∉ is → (setAll ws is xs)[k]? = ws[k]?)
  | [], xs, ws, _, _, _ => ⟨fun j i h => by simp at h, fun k _ => by cases xs <;> rfl⟩
  | i :: is, [], ws, _, h, _ => by simp at h
  | i :: is, x :: xs, ws, hn, hl, hb => by
    simp only [va_nd, Bool.and_eq_true, decide_eq_true_eq] at hn
    have ih := setAll_spec is xs (ws.set i x) hn.2 (by simpa using hl) (fun j hj => by rw [List.length_set]; exact hb j (List.mem_cons_of_mem _ hj))
    refine ⟨fun j k hj => ?_, fun k hk => ?_⟩
    · cases j with
      | zero =>
        simp at hj
        subst hj
        show (setAll (ws.set i x) is xs)[i]? = _
        rw [ih.2 i hn.1, List.getElem?_set_self (hb i List.mem_cons_self)]
        rfl
      | succ j => exact ih.1 j k (by simpa using hj)
    · show (setAll (ws.set i x) is xs)[k]? = _
      rw [ih.2 k (fun h => hk (List.mem_cons_of_mem _ h)), List.getElem?_set_ne (fun h : i = k => hk (by rw [← h]; exact List.mem_cons_self))]
theorem va_repl {A0 : Nat → Prop} {D : va_G} {cl : List vw_C} {ws wc wc' : va_W} {H H1 : Heap} (hP : va_P D cl ws H) (hD : va_D A0 ws) (isC : List Nat) (hC : isC.map (fun i => ws[i]?) = wc.map some) (hn : va_nd isC = true) (ha : wc'.map Prod.fst = wc.map Prod.fst)
    (hk : ∀ q : Nat, q < H.size → ¬ va_A wc H.size q → H1[q]? = H[q]?) (hP1 : va_P D cl wc' H1) : va_P D cl (setAll ws isC wc') H1 ∧ va_D A0 (setAll ws isC wc') := by
  have hlen : isC.length = wc.length := by have := congrArg List.length hC; simpa using this
  have hlen' : wc'.length = wc.length := by have := congrArg List.length ha; simpa using this
  have at' : ∀ (k i : Nat), isC[k]? = some i → ∃ q, wc[k]? = some q ∧ ws[i]? = some q := by
    intro k i hi
    have h1 : (isC.map (fun i => ws[i]?))[k]? = some ws[i]? := by rw [List.getElem?_map, hi]; rfl
    rw [hC, List.getElem?_map] at h1
    cases hw : wc[k]? with
    | none => rw [hw] at h1; cases h1
    | some q => rw [hw] at h1; exact ⟨q, rfl, (Option.some.inj h1).symm⟩
  have hb : ∀ i ∈ isC, i < ws.length := fun i hi => by
    obtain ⟨k, hk⟩ := List.getElem?_of_mem hi
    obtain ⟨q, -, h2⟩ := at' k i hk
    exact (List.getElem?_eq_some_iff.mp h2).1
  obtain ⟨s1, s2⟩ := setAll_spec isC wc' ws hn (hlen.trans hlen'.symm) hb
  have adr : ∀ (k : Nat) (q : Nat × va_E), (setAll ws isC wc')[k]? = some q → ∃ q', ws[k]? = some q' ∧ q'.1 = q.1 := by
    intro k q hq
    by_cases hm : k ∈ isC
    · obtain ⟨j, hj⟩ := List.getElem?_of_mem hm
      obtain ⟨q', h1, h2⟩ := at' j k hj
      rw [s1 j k hj] at hq
      refine ⟨q', h2, ?_⟩
      have e1 : (wc'.map Prod.fst)[j]? = some q.1 := by rw [List.getElem?_map, hq]; rfl
      rw [ha, List.getElem?_map, h1] at e1
      exact Option.some.inj e1
    · rw [s2 k hm] at hq
      exact ⟨q, hq, rfl⟩
  refine ⟨fun k q hq => ?_, fun i j x y hx hy hxy => ?_, fun k q hq => ?_⟩
  · by_cases hm : k ∈ isC
    · obtain ⟨j, hj⟩ := List.getElem?_of_mem hm
      rw [s1 j k hj] at hq
      exact hP1 j q hq
    · rw [s2 k hm] at hq
      refine (hP k q hq).kept (hk q.1 (hP k q hq).lt (fun h => ?_))
      rcases h with ⟨k2, e, h⟩ | h
      · have hk2 : k2 < isC.length := by rw [hlen]; exact (List.getElem?_eq_some_iff.mp h).1
        obtain ⟨q', h1, h2⟩ := at' k2 isC[k2] (List.getElem?_eq_getElem hk2)
        rw [h] at h1
        cases h1
        have := hD.1 k isC[k2] q (q.1, e) hq h2 rfl
        exact hm (this ▸ List.getElem_mem hk2)
      · exact absurd (hP k q hq).lt (Nat.not_lt.mpr h)
  · obtain ⟨x', hx', e1⟩ := adr i x hx
    obtain ⟨y', hy', e2⟩ := adr j y hy
    exact hD.1 i j x' y' hx' hy' (by rw [e1, e2]; exact hxy)
  · obtain ⟨q', h1, e1⟩ := adr k q hq
    rw [← e1]
    exact hD.2 k q' h1
theorem va_cut {A0 : Nat → Prop} {D : va_G} {cl : List vw_C} {ws wc : va_W} {H : Heap} (hP : va_P D cl ws H) (hD : va_D A0 ws) (isC : List Nat) (hC : isC.map (fun i => ws[i]?) = wc.map some) (hn : va_nd isC = true) : va_P D cl wc H ∧ va_D (fun _ => True) wc := by
  refine ⟨fun k q hq => ?_, (hD.sub isC hn hC).weaken (fun _ _ _ _ => trivial)⟩
  have h1 : (isC.map (fun i => ws[i]?))[k]? = some (some q) := by rw [hC, List.getElem?_map, hq]; rfl
  rw [List.getElem?_map] at h1
  cases hi : isC[k]? with
  | none => rw [hi] at h1; cases h1
  | some i => rw [hi] at h1; exact hP i q (Option.some.inj h1)
section KC
variable {p : Program} {l : Launch} {e : Env} {R : Room} {s : State} {m : MethodId} {args : Array Value} {below : List Frame} {meth : Method} {c : Code} {H : Heap} {locs : List Loc} {cells slots : Nat} {Q : State → Prop}
variable {y : MethodName} {bytes cc : ByteArray} {maxL nL n index pc : Nat} {ret : Option FieldType} {w Ts : List Cond} {rm : Room} {own C host : String} {b : Nat} {As rest st : List Value} {ls : Array Slot} {D : va_G} {tys : List (ClassId × FieldType)} {ws wc wc' ws' : va_W} {A : Nat → Prop} {r : Int32} {q : vw_C} {fs : List Value} {q0 ci : Nat}
theorem mp_at {av : List Value} (hK : KK D tys s) (hP : va_P D vwCl ws H) (hD : va_D A ws) (isC : List Nat) (hC : isC.map (fun i => ws[i]?) = wc.map some) (hn : va_nd isC = true) : ∀ U : State, U.heap = H → s.WarmedH U.vm → mp D tys av wc H.size av.toArray U := fun U hU hW => by
  obtain ⟨h1, h2⟩ := va_cut hP hD isC hC hn
  exact ⟨rfl, by rw [hU], by rw [hU]; exact h1, hK.warm hW, h2⟩
/-- behind a call that answers an int -/
theorem kc_i {a : Array Value} (hr : va_Run p l e R s m args below meth c H locs cells slots 0 0 (F0 m pc ls st) rest (va_Qi (fun r' (_ : Unit) => r' = r) (mb D wc H.size wc') (va_A wc H.size) a) (va_A wc H.size)) (hP : va_P D vwCl ws H) (hD : va_D A ws) (hS : va_S A s.heap H locs) (hA : ∀ q, s.heap.size ≤ q → A q)
    (isC : List Nat) (hC : isC.map (fun i => ws[i]?) = wc.map some) (hn : va_nd isC = true) (ha : wc'.map Prod.fst = wc.map Prod.fst) (hws : setAll ws isC wc' = ws')
    (kk : ∀ (H1 : Heap) (locs1 : List Loc), va_P D vwCl ws' H1 → va_D A ws' → va_S A s.heap H1 locs1 → W p l e R s m args below meth c H1 locs1 cells slots Q (F0 m (pc + 3) ls (.int r :: rest))) : W p l e R s m args below meth c H locs cells slots Q (F0 m pc ls st) := by
  have hF := va_free hD hS hA isC hC
  refine va_calli hr hS (fun q _ h => hF q h) hF (fun r' u t H1 locs1 ht hvm hw hB hz hk hS1 => ?_)
  subst hw; subst hws
  have hB1 := hB.1
  rw [ht] at hB1
  obtain ⟨h1, h2⟩ := va_repl hP hD isC hC hn ha hk hB1
  exact kk H1 locs1 h1 h2 hS1
theorem kc_v {a : Array Value} (hr : va_Run p l e R s m args below meth c H locs cells slots 0 0 (F0 m pc ls st) rest (va_Qv (fun (_ : Unit) => True) (mb D wc H.size wc') (va_A wc H.size) a) (va_A wc H.size)) (hP : va_P D vwCl ws H) (hD : va_D A ws) (hS : va_S A s.heap H locs) (hA : ∀ q, s.heap.size ≤ q → A q)
    (isC : List Nat) (hC : isC.map (fun i => ws[i]?) = wc.map some) (hn : va_nd isC = true) (ha : wc'.map Prod.fst = wc.map Prod.fst) (hws : setAll ws isC wc' = ws')
    (kk : ∀ (H1 : Heap) (locs1 : List Loc), va_P D vwCl ws' H1 → va_D A ws' → va_S A s.heap H1 locs1 → W p l e R s m args below meth c H1 locs1 cells slots Q (F0 m (pc + 3) ls rest)) : W p l e R s m args below meth c H locs cells slots Q (F0 m pc ls st) := by
  have hF := va_free hD hS hA isC hC
  refine va_callv hr hS (fun q _ h => hF q h) hF (fun u t H1 locs1 ht hvm hw hB hz hk hS1 => ?_)
  subst hws
  have hB1 := hB.1
  rw [ht] at hB1
  obtain ⟨h1, h2⟩ := va_repl hP hD isC hC hn ha hk hB1
  exact kk H1 locs1 h1 h2 hS1
/-- a call of an instance method that answers an int -/
theorem kV_i (S : CallFix p m c cc nL s args Ts own) (hM : MI l y w rm D tys (.ref b :: As) wc wc' r) (cw : CallW R s args own C index y bytes maxL ret w rm 0 0 n) (hK : KK D tys s) (hP : va_P D vwCl ws H) (hD : va_D A ws) (hS : va_S A s.heap H locs) (hA : ∀ q, s.heap.size ≤ q → A q)
    (q0 : Nat) (he : ws[q0]? = some (b, .inr (ci, fs))) (hc : vwCl[ci]? = some q) (hC1 : q.1 = C) (hlen : As.length = n) (hsize : ls.size = nL) (hst : st = As.reverse ++ .ref b :: rest) (hroom : (rest.map fun v => v.category).sum ≤ 8) (hfit : cells ≤ R.cells ∧ slots ≤ R.slots) (hdg : decode cc pc = .ok (.invokevirtual index, 3))
    (isC : List Nat) (hC : isC.map (fun i => ws[i]?) = wc.map some) (hn : va_nd isC = true) (ha : wc'.map Prod.fst = wc.map Prod.fst) (hws : setAll ws isC wc' = ws')
    (kk : ∀ (H1 : Heap) (locs1 : List Loc), va_P D vwCl ws' H1 → va_D A ws' → va_S A s.heap H1 locs1 → W p l e R s m args below meth c H1 locs1 cells slots Q (F0 m (pc + 3) ls (.int r :: rest))) : W p l e R s m args below meth c H locs cells slots Q (F0 m pc ls st) :=
  kc_i (va_runV (As := As) (rest := rest) S (hM H.size) cw ⟨mp_blind, by rw [← hC1]; exact va_recv hK.1 hP hc he, mp_at hK hP hD isC hC hn⟩ rfl hlen hsize hst (lv_room hroom) hdg hfit) hP hD hS hA isC hC hn ha hws kk
theorem kV_v (S : CallFix p m c cc nL s args Ts own) (hM : MV l y w rm D tys (.ref b :: As) wc wc') (cw : CallW R s args own C index y bytes maxL ret w rm 0 0 n) (hK : KK D tys s) (hP : va_P D vwCl ws H) (hD : va_D A ws) (hS : va_S A s.heap H locs) (hA : ∀ q, s.heap.size ≤ q → A q)
    (q0 : Nat) (he : ws[q0]? = some (b, .inr (ci, fs))) (hc : vwCl[ci]? = some q) (hC1 : q.1 = C) (hlen : As.length = n) (hsize : ls.size = nL) (hst : st = As.reverse ++ .ref b :: rest) (hroom : (rest.map fun v => v.category).sum ≤ 8) (hfit : cells ≤ R.cells ∧ slots ≤ R.slots) (hdg : decode cc pc = .ok (.invokevirtual index, 3))
    (isC : List Nat) (hC : isC.map (fun i => ws[i]?) = wc.map some) (hn : va_nd isC = true) (ha : wc'.map Prod.fst = wc.map Prod.fst) (hws : setAll ws isC wc' = ws')
    (kk : ∀ (H1 : Heap) (locs1 : List Loc), va_P D vwCl ws' H1 → va_D A ws' → va_S A s.heap H1 locs1 → W p l e R s m args below meth c H1 locs1 cells slots Q (F0 m (pc + 3) ls rest)) : W p l e R s m args below meth c H locs cells slots Q (F0 m pc ls st) :=
  kc_v (va_runV (As := As) (rest := rest) S (hM H.size) cw ⟨mp_blind, by rw [← hC1]; exact va_recv hK.1 hP hc he, mp_at hK hP hD isC hC hn⟩ rfl hlen hsize hst (lv_room hroom) hdg hfit) hP hD hS hA isC hC hn ha hws kk
/-- a call of a static method that answers an int, and touches no cell -/
theorem kS_i (S : CallFix p m c cc nL s args Ts own) (hM : MI l y w rm D tys As [] [] r) (cw : CallB R s args own index y bytes maxL ret w rm 0 0 n ∧ (Cond.static y).before args s = true) (hK : KK D tys s) (hP : va_P D vwCl ws H) (hD : va_D A ws) (hS : va_S A s.heap H locs) (hA : ∀ q, s.heap.size ≤ q → A q)
    (hlen : As.length = n) (hsize : ls.size = nL) (hst : st = As.reverse ++ rest) (hroom : (rest.map fun v => v.category).sum ≤ 8) (hfit : cells ≤ R.cells ∧ slots ≤ R.slots) (hdg : decode cc pc = .ok (.invokestatic index, 3))
    (kk : ∀ (H1 : Heap) (locs1 : List Loc), va_P D vwCl ws H1 → va_D A ws → va_S A s.heap H1 locs1 → W p l e R s m args below meth c H1 locs1 cells slots Q (F0 m (pc + 3) ls (.int r :: rest))) : W p l e R s m args below meth c H locs cells slots Q (F0 m pc ls st) :=
  kc_i (va_runS (As := As) (rest := rest) S (hM H.size) cw ⟨mp_blind, mp_at hK hP hD [] rfl rfl⟩ rfl hlen hsize hst (lv_room hroom) hdg hfit) hP hD hS hA [] rfl rfl rfl rfl kk
theorem kN_i (S : CallFix p m c cc nL s args Ts own) (hM : MI l y w rm D tys As [] [] r) (cw : va_CN R s args own index y host bytes maxL ret w rm 0 0 n ∧ (Cond.static y).before args s = true ∧ True) (hK : KK D tys s) (hP : va_P D vwCl ws H) (hD : va_D A ws) (hS : va_S A s.heap H locs) (hA : ∀ q, s.heap.size ≤ q → A q)
    (hlen : As.length = n) (hsize : ls.size = nL) (hst : st = As.reverse ++ rest) (hroom : (rest.map fun v => v.category).sum ≤ 8) (hfit : cells ≤ R.cells ∧ slots ≤ R.slots) (hdg : decode cc pc = .ok (.invokestatic index, 3))
    (kk : ∀ (H1 : Heap) (locs1 : List Loc), va_P D vwCl ws H1 → va_D A ws → va_S A s.heap H1 locs1 → W p l e R s m args below meth c H1 locs1 cells slots Q (F0 m (pc + 3) ls (.int r :: rest))) : W p l e R s m args below meth c H locs cells slots Q (F0 m pc ls st) :=
  kc_i (va_runSN (As := As) (rest := rest) S (hM H.size) cw ⟨mp_blind, mp_at hK hP hD [] rfl rfl⟩ rfl hlen hsize hst (lv_room hroom) hdg hfit) hP hD hS hA [] rfl rfl rfl rfl kk
/-- the end of a method that answers an int -/
theorem k_iret (hx : p.tables.exec = Jvm.exec) (hb : c.code = cc) (hr : meth.sig.returnType = some .int) (hlocks : meth.locks = false) (hAe : va_A wc s.heap.size = A) (hP : va_P D vwCl ws' H) (hD : va_D A ws') (hS : va_S A s.heap H locs) {v : Int32} (hv : v = r) (hdg : decode cc pc = .ok (.ireturn, 1)) :
    W p l e R s m args below meth c H locs 0 0 (MQ below (va_Qi (fun r' (_ : Unit) => r' = r) (mb D wc s.heap.size ws') A) args s 0 0 A) (F0 m pc ls [.int v]) := by
  subst hv
  exact W.iret (v := v) hx hb hr (fun t ht hW => ⟨⟨v, (), rfl, rfl, by rw [ht]; exact hP, by rw [hAe]; exact hD⟩, hS.F ht⟩) hS.2.2 hdg hlocks
theorem k_zret (hx : p.tables.exec = Jvm.exec) (hb : c.code = cc) (hr : meth.sig.returnType = some .boolean) (hlocks : meth.locks = false) (hAe : va_A wc s.heap.size = A) (hP : va_P D vwCl ws' H) (hD : va_D A ws') (hS : va_S A s.heap H locs) {v : Int32} (hn : v = 0 ∨ v = 1) (hv : v = r) (hdg : decode cc pc = .ok (.ireturn, 1)) :
    W p l e R s m args below meth c H locs 0 0 (MQ below (va_Qi (fun r' (_ : Unit) => r' = r) (mb D wc s.heap.size ws') A) args s 0 0 A) (F0 m pc ls [.int v]) := by
  subst hv
  exact W.zret (v := v) hx hb hr (nar_b hn) (fun t ht hW => ⟨⟨v, (), rfl, rfl, by rw [ht]; exact hP, by rw [hAe]; exact hD⟩, hS.F ht⟩) hS.2.2 hdg hlocks
theorem k_vret (hx : p.tables.exec = Jvm.exec) (hb : c.code = cc) (hr : meth.sig.returnType = none) (hlocks : meth.locks = false) (hAe : va_A wc s.heap.size = A) (hP : va_P D vwCl ws' H) (hD : va_D A ws') (hS : va_S A s.heap H locs) (hdg : decode cc pc = .ok (.return_, 1)) :
    W p l e R s m args below meth c H locs 0 0 (MQ below (va_Qv (fun (_ : Unit) => True) (mb D wc s.heap.size ws') A) args s 0 0 A) (F0 m pc ls []) :=
  W.vret hx hb hr (fun t ht hW => ⟨⟨(), rfl, trivial, by rw [ht]; exact hP, by rw [hAe]; exact hD⟩, hS.F ht⟩) hS.2.2 hdg hlocks
end KC
section MO
variable {l : Launch} {y : MethodName} {w w' : List Cond} {rm : Room} {D : va_G} {tys : List (ClassId × FieldType)} {av : List Value} {ws ws' : va_W} {r : Int32} {cc : ByteArray} {maxL : Nat}
/-- a method that answers an int: its walk, whatever it is to come to, from its entry to an ireturn -/
theorem MI_of (hy : plainName y.cls = true) (hw : w = Cond.code y cc maxL (some .int) :: w') (hlen : (lg_sl av).length ≤ maxL)
    (body : ∀ (p : Program) (e : Env) (s : State) (m : MethodId) (args : Array Value) (below : List Frame) (meth : Method) (c : Code) (A : Nat → Prop) (Q : State → Prop) (ls : Array Slot) (H : Heap) (locs : List Loc), p.tables.exec = Jvm.exec → c.code = cc → c.maxLocals = maxL → (∀ q ∈ w, q.before args s = true) → s.vm.findClass y.cls = some m.cls → KK D tys s → (∀ q, s.heap.size ≤ q → A q) → va_P D vwCl ws H → va_D A ws → va_S A s.heap H locs → lv_has ls maxL (lv_args 0 av) →
      (∀ (H : Heap) (locs : List Loc) (pc : Nat) (ls : Array Slot) (v : Int32), va_P D vwCl ws' H → va_D A ws' → va_S A s.heap H locs → v = r → decode cc pc = .ok (.ireturn, 1) → W p l e rm s m args below meth c H locs 0 0 Q (F0 m pc ls [.int v])) →
      W p l e rm s m args below meth c H locs 0 0 Q (F0 m 0 ls [])) : MI l y w rm D tys av ws ws' r := by
  intro sz
  refine Met.ofW (cc := cc) (maxL := maxL) (ret := some .int) hy hw ?_
  intro p e s m args below meth c s₁ B hml hv
  obtain ⟨rfl, hsz, hP, hK, hD0⟩ := hv
  subst hsz
  have hl := lv_entry av (n := maxL) hlen
  rw [lg_entry_eq]
  generalize (lg_sl av ++ List.replicate (maxL - (lg_sl av).length) Slot.unset).toArray = ls at hl ⊢
  exact body p e s m _ below meth c (va_A ws s.heap.size) _ ls s.heap [] B.exec B.bytes hml (atoms_spec (ws := w) B.pre) (findClass_of_methodNamed B.named) hK (fun q h => Or.inr h) hP (hD0.self (sz := s.heap.size)) va_S.rf hl
    (fun H locs pc ls v hP hD hS hv hdg => k_iret B.exec B.bytes B.returns B.notSynchronized rfl hP hD hS hv hdg)
theorem MZ_of (hy : plainName y.cls = true) (hw : w = Cond.code y cc maxL (some .boolean) :: w') (hlen : (lg_sl av).length ≤ maxL)
    (body : ∀ (p : Program) (e : Env) (s : State) (m : MethodId) (args : Array Value) (below : List Frame) (meth : Method) (c : Code) (A : Nat → Prop) (Q : State → Prop) (ls : Array Slot) (H : Heap) (locs : List Loc), p.tables.exec = Jvm.exec → c.code = cc → c.maxLocals = maxL → (∀ q ∈ w, q.before args s = true) → s.vm.findClass y.cls = some m.cls → KK D tys s → (∀ q, s.heap.size ≤ q → A q) → va_P D vwCl ws H → va_D A ws → va_S A s.heap H locs → lv_has ls maxL (lv_args 0 av) →
      (∀ (H : Heap) (locs : List Loc) (pc : Nat) (ls : Array Slot) (v : Int32), (v = 0 ∨ v = 1) → va_P D vwCl ws' H → va_D A ws' → va_S A s.heap H locs → v = r → decode cc pc = .ok (.ireturn, 1) → W p l e rm s m args below meth c H locs 0 0 Q (F0 m pc ls [.int v])) →
      W p l e rm s m args below meth c H locs 0 0 Q (F0 m 0 ls [])) : MI l y w rm D tys av ws ws' r := by
  intro sz
  refine Met.ofW (cc := cc) (maxL := maxL) (ret := some .boolean) hy hw ?_
  intro p e s m args below meth c s₁ B hml hv
  obtain ⟨rfl, hsz, hP, hK, hD0⟩ := hv
  subst hsz
  have hl := lv_entry av (n := maxL) hlen
  rw [lg_entry_eq]
  generalize (lg_sl av ++ List.replicate (maxL - (lg_sl av).length) Slot.unset).toArray = ls at hl ⊢
  exact body p e s m _ below meth c (va_A ws s.heap.size) _ ls s.heap [] B.exec B.bytes hml (atoms_spec (ws := w) B.pre) (findClass_of_methodNamed B.named) hK (fun q h => Or.inr h) hP (hD0.self (sz := s.heap.size)) va_S.rf hl
    (fun H locs pc ls v hn hP hD hS hv hdg => k_zret B.exec B.bytes B.returns B.notSynchronized rfl hP hD hS hn hv hdg)
theorem MV_of (hy : plainName y.cls = true) (hw : w = Cond.code y cc maxL none :: w') (hlen : (lg_sl av).length ≤ maxL)
    (body : ∀ (p : Program) (e : Env) (s : State) (m : MethodId) (args : Array Value) (below : List Frame) (meth : Method) (c : Code) (A : Nat → Prop) (Q : State → Prop) (ls : Array Slot) (H : Heap) (locs : List Loc), p.tables.exec = Jvm.exec → c.code = cc → c.maxLocals = maxL → (∀ q ∈ w, q.before args s = true) → s.vm.findClass y.cls = some m.cls → KK D tys s → (∀ q, s.heap.size ≤ q → A q) → va_P D vwCl ws H → va_D A ws → va_S A s.heap H locs → lv_has ls maxL (lv_args 0 av) →
      (∀ (H : Heap) (locs : List Loc) (pc : Nat) (ls : Array Slot), va_P D vwCl ws' H → va_D A ws' → va_S A s.heap H locs → decode cc pc = .ok (.return_, 1) → W p l e rm s m args below meth c H locs 0 0 Q (F0 m pc ls [])) →
      W p l e rm s m args below meth c H locs 0 0 Q (F0 m 0 ls [])) : MV l y w rm D tys av ws ws' := by
  intro sz
  refine Met.ofW (cc := cc) (maxL := maxL) (ret := none) hy hw ?_
  intro p e s m args below meth c s₁ B hml hv
  obtain ⟨rfl, hsz, hP, hK, hD0⟩ := hv
  subst hsz
  have hl := lv_entry av (n := maxL) hlen
  rw [lg_entry_eq]
  generalize (lg_sl av ++ List.replicate (maxL - (lg_sl av).length) Slot.unset).toArray = ls at hl ⊢
  exact body p e s m _ below meth c (va_A ws s.heap.size) _ ls s.heap [] B.exec B.bytes hml (atoms_spec (ws := w) B.pre) (findClass_of_methodNamed B.named) hK (fun q h => Or.inr h) hP (hD0.self (sz := s.heap.size)) va_S.rf hl
    (fun H locs pc ls hP hD hS hdg => k_vret B.exec B.bytes B.returns B.notSynchronized rfl hP hD hS hdg)
end MO
