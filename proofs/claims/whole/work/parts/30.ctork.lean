/-! ===== constructors: new cells, at addresses that come with the end ===== -/
def KA (D : va_G) (tys : List (ClassId × FieldType)) (U : State) : Prop := KK D tys U ∧ va_AO "CitationFormatter$State" U
def mpn (D : va_G) (tys : List (ClassId × FieldType)) (av : List Value) (ws : va_W) (sz : Nat) : Array Value → State → Prop := va_Pc av (fun U => U.heap.size = sz ∧ va_P D vwCl ws U.heap ∧ KA D tys U ∧ va_D (fun _ => True) ws)
def mbn {S : Type} (D : va_G) (ws : va_W) (sz : Nat) (mk : S → va_W) : S → State → Prop := fun u t => va_P D vwCl (mk u) t.heap ∧ va_D (va_A ws sz) (mk u)
abbrev MN {S : Type} (l : Launch) (y : MethodName) (w : List Cond) (rm : Room) (D : va_G) (tys : List (ClassId × FieldType)) (av : List Value) (ws : va_W) (mk : S → va_W) (mc ms : Nat) : Prop := ∀ sz : Nat, Met l y w rm (mpn D tys av ws sz) (va_Qv (fun (_ : S) => True) (mbn D ws sz mk) (va_A ws sz)) mc ms (va_A ws sz)
theorem KA.warm {D : va_G} {tys : List (ClassId × FieldType)} {s U : State} (h : KA D tys s) (hW : s.WarmedH U.vm) : KA D tys U := ⟨h.1.warm hW, va_AO.moved hW.alike h.2⟩
theorem mpn_blind {D : va_G} {tys : List (ClassId × FieldType)} {av : List Value} {ws : va_W} {sz : Nat} : FrameBlind (mpn D tys av ws sz) := fun a U g mk q => by
  obtain ⟨q0, q1, qP, qK, qD⟩ := q
  exact ⟨q0, q1, qP, ⟨⟨va_K.moved (u := U) (U := U.calling g mk a) (Vm.Alike.refl U.vm) qK.1.1, fun z hz => va_Nw.same (w := .methodLinkNest z.1 z.2.1 z.2.2 "CitationFormatter") rfl (u := U) (U := U.calling g mk a) rfl (qK.1.2 z hz)⟩, va_AO.moved (u := U) (U := U.calling g mk a) (Vm.Alike.refl U.vm) qK.2⟩, qD⟩
theorem newI {D : va_G} {cl : List vw_C} {cI cJ cZ cS cA : ClassId} {s : State} (h : va_K D cl (TY cI cJ cZ cS ++ [(cA, .int)]) s) : cA = cI := Option.some.inj ((h.2 4 _ rfl).2.symm.trans (h.2 0 _ rfl).2)
theorem newJ {D : va_G} {cl : List vw_C} {cI cJ cZ cS cA : ClassId} {s : State} (h : va_K D cl (TY cI cJ cZ cS ++ [(cA, .long)]) s) : cA = cJ := Option.some.inj ((h.2 4 _ rfl).2.symm.trans (h.2 1 _ rfl).2)
theorem newZ {D : va_G} {cl : List vw_C} {cI cJ cZ cS cA : ClassId} {s : State} (h : va_K D cl (TY cI cJ cZ cS ++ [(cA, .boolean)]) s) : cA = cZ := Option.some.inj ((h.2 4 _ rfl).2.symm.trans (h.2 2 _ rfl).2)
theorem newS {D : va_G} {cl : List vw_C} {cI cJ cZ cS cA : ClassId} {s : State} (h : va_K D cl (TY cI cJ cZ cS ++ [(cA, .object "CitationFormatter$State")]) s) : cA = cS := by
  obtain ⟨_, _, -, -, -, h1⟩ := (h.2 4 _ rfl).2
  obtain ⟨_, _, -, -, -, h2⟩ := (h.2 3 _ rfl).2
  exact Option.some.inj (h1.symm.trans h2)
theorem swapP (X Y F : va_W) : ((X ++ F) ++ Y).Perm ((X ++ Y) ++ F) := by
  rw [List.append_assoc, List.append_assoc]
  exact List.perm_append_comm.append_left X
section KN
variable {p : Program} {l : Launch} {e : Env} {R : Room} {s : State} {m : MethodId} {args : Array Value} {below : List Frame} {meth : Method} {c : Code} {H : Heap} {locs : List Loc} {cells slots : Nat} {Q : State → Prop}
variable {y : MethodName} {bytes cc : ByteArray} {maxL nL n index pc mc ms : Nat} {w w' Ts : List Cond} {rm : Room} {own C host : String} {b : Nat} {As rest st av : List Value} {ls : Array Slot} {D : va_G} {tys : List (ClassId × FieldType)} {ws wc wr F : va_W} {A : Nat → Prop}
theorem MN_of {S : Type} {mk : S → va_W} (hy : plainName y.cls = true) (hyn : y.name = "<init>") (hw : w = Cond.code y cc maxL none :: w') (hlen : (lg_sl av).length ≤ maxL)
    (body : ∀ (p : Program) (e : Env) (s : State) (m : MethodId) (args : Array Value) (below : List Frame) (meth : Method) (c : Code) (A : Nat → Prop) (Q : State → Prop) (ls : Array Slot) (H : Heap) (locs : List Loc), p.tables.exec = Jvm.exec → c.code = cc → c.maxLocals = maxL → meth.name = "<init>" → (∀ q ∈ w, q.before args s = true) → s.vm.findClass y.cls = some m.cls → KA D tys s → (∀ q, s.heap.size ≤ q → A q) → va_P D vwCl ws H → va_D A ws → va_S A s.heap H locs → lv_has ls maxL (lv_args 0 av) →
      (∀ (H : Heap) (locs : List Loc) (pc : Nat) (ls : Array Slot) (u : S), va_P D vwCl (mk u) H → va_D A (mk u) → va_S A s.heap H locs → decode cc pc = .ok (.return_, 1) → W p l e rm s m args below meth c H locs mc ms Q (F0 m pc ls [])) →
      W p l e rm s m args below meth c H locs 0 0 Q (F0 m 0 ls [])) : MN l y w rm D tys av ws mk mc ms := by
  intro sz
  refine Met.ofW (cc := cc) (maxL := maxL) (ret := none) hy hw ?_
  intro p e s m args below meth c s₁ B hml hv
  obtain ⟨rfl, hsz, hP, hK, hD0⟩ := hv
  subst hsz
  have hl := lv_entry av (n := maxL) hlen
  rw [lg_entry_eq]
  generalize (lg_sl av ++ List.replicate (maxL - (lg_sl av).length) Slot.unset).toArray = ls at hl ⊢
  exact body p e s m _ below meth c (va_A ws s.heap.size) _ ls s.heap [] B.exec B.bytes hml ((name_of_methodNamed B.named B.method).1.trans hyn) (atoms_spec (ws := w) B.pre) (findClass_of_methodNamed B.named) hK (fun q h => Or.inr h) hP (hD0.self (sz := s.heap.size)) va_S.rf hl
    (fun H locs pc ls u hP hD hS hdg => W.vret B.exec B.bytes B.returns (fun t ht hW => ⟨⟨u, rfl, trivial, by rw [ht]; exact hP, hD⟩, hS.F ht⟩) hS.2.2 hdg B.notSynchronized)
theorem mpn_at {av : List Value} (hK : KA D tys s) (hP : va_P D vwCl ws H) (hD : va_D A ws) (isC : List Nat) (hC : isC.map (fun i => ws[i]?) = wc.map some) (hn : va_nd isC = true) : ∀ U : State, U.heap = H → s.WarmedH U.vm → mpn D tys av wc H.size av.toArray U := fun U hU hW => by
  obtain ⟨h1, h2⟩ := va_cut hP hD isC hC hn
  exact ⟨rfl, by rw [hU], by rw [hU]; exact h1, hK.warm hW, h2⟩
/-- behind a constructor -/
theorem kn_c {S : Type} {mk : S → va_W} {a : Array Value} (hr : va_Run p l e R s m args below meth c H locs cells slots mc ms (F0 m pc ls st) rest (va_Qv (fun (_ : S) => True) (mbn D wc H.size mk) (va_A wc H.size) a) (va_A wc H.size)) (hP : va_P D vwCl (ws ++ F) H) (hD : va_D A (ws ++ F)) (hS : va_S A s.heap H locs) (hA : ∀ q, s.heap.size ≤ q → A q)
    (isC isR : List Nat) (hC : isC.map (fun i => ws[i]?) = wc.map some) (hR : isR.map (fun i => ws[i]?) = wr.map some) (hn : va_nd isR = true) (hdis : isR.all (fun i => !isC.contains i) = true)
    (kk : ∀ (u : S) (H1 : Heap) (locs1 : List Loc), va_P D vwCl ((wr ++ mk u) ++ F) H1 → va_D A ((wr ++ mk u) ++ F) → va_S A s.heap H1 locs1 → W p l e R s m args below meth c H1 locs1 (cells + mc) (slots + ms) Q (F0 m (pc + 3) ls rest)) : W p l e R s m args below meth c H locs cells slots Q (F0 m pc ls st) := by
  have hF := va_free hD hS hA isC (places_app hC)
  refine va_callv hr hS (fun q _ h => hF q h) hF (fun u t H1 locs1 ht hvm hw hB hz hk hS1 => ?_)
  have hB1 := hB.1
  rw [ht] at hB1
  obtain ⟨h1, h2⟩ := va_join (ws := ws ++ F) (wr := wr ++ F) (w1 := mk u) hP hD isC (isR ++ tailP ws.length F.length) (places_app hC) (tail_places hR) (tail_nd hn (places_lt hR)) (fun i hi hi' => by
    rcases List.mem_append.mp hi with h | h
    · have := List.all_eq_true.mp hdis i h
      simp [hi'] at this
    · obtain ⟨j, -, e1⟩ := List.mem_map.mp h
      have := places_lt hC i hi'
      omega) hk hF hB1 hB.2
  exact kk u H1 locs1 (h1.perm (swapP wr (mk u) F)) (h2.perm (swapP wr (mk u) F)) hS1
theorem kI_n {S : Type} {mk : S → va_W} (S0 : CallFix p m c cc nL s args Ts own) (hM : MN l y w rm D tys (.ref b :: As) wc mk mc ms) (cw : CallB R s args own index y bytes maxL none w rm mc ms n ∧ y.name = "<init>" ∧ (Cond.instanceMethod y).before args s = true) (hK : KA D tys s) (hP : va_P D vwCl (ws ++ F) H) (hD : va_D A (ws ++ F)) (hS : va_S A s.heap H locs) (hA : ∀ q, s.heap.size ≤ q → A q)
    (hlen : As.length = n) (hsize : ls.size = nL) (hst : st = As.reverse ++ .ref b :: rest) (hroom : (rest.map fun v => v.category).sum ≤ 8) (hfit : cells + mc ≤ R.cells ∧ slots + ms ≤ R.slots) (hdg : decode cc pc = .ok (.invokespecial index, 3))
    (isC isR : List Nat) (hC : isC.map (fun i => ws[i]?) = wc.map some) (hnC : va_nd isC = true) (hR : isR.map (fun i => ws[i]?) = wr.map some) (hn : va_nd isR = true) (hdis : isR.all (fun i => !isC.contains i) = true)
    (kk : ∀ (u : S) (H1 : Heap) (locs1 : List Loc), va_P D vwCl ((wr ++ mk u) ++ F) H1 → va_D A ((wr ++ mk u) ++ F) → va_S A s.heap H1 locs1 → W p l e R s m args below meth c H1 locs1 (cells + mc) (slots + ms) Q (F0 m (pc + 3) ls rest)) : W p l e R s m args below meth c H locs cells slots Q (F0 m pc ls st) :=
  kn_c (va_runI (As := As) (rest := rest) S0 (hM H.size) cw ⟨mpn_blind, mpn_at hK hP hD isC (places_app hC) hnC⟩ rfl hlen hsize hst (lv_room hroom) hdg hfit) hP hD hS hA isC isR hC hR hn hdis kk
theorem kIN_n {S : Type} {mk : S → va_W} (S0 : CallFix p m c cc nL s args Ts own) (hM : MN l y w rm D tys (.ref b :: As) wc mk mc ms) (cw : va_CN R s args own index y host bytes maxL none w rm mc ms n ∧ y.name = "<init>" ∧ (Cond.instanceMethod y).before args s = true) (hK : KA D tys s) (hP : va_P D vwCl (ws ++ F) H) (hD : va_D A (ws ++ F)) (hS : va_S A s.heap H locs) (hA : ∀ q, s.heap.size ≤ q → A q)
    (hlen : As.length = n) (hsize : ls.size = nL) (hst : st = As.reverse ++ .ref b :: rest) (hroom : (rest.map fun v => v.category).sum ≤ 8) (hfit : cells + mc ≤ R.cells ∧ slots + ms ≤ R.slots) (hdg : decode cc pc = .ok (.invokespecial index, 3))
    (isC isR : List Nat) (hC : isC.map (fun i => ws[i]?) = wc.map some) (hnC : va_nd isC = true) (hR : isR.map (fun i => ws[i]?) = wr.map some) (hn : va_nd isR = true) (hdis : isR.all (fun i => !isC.contains i) = true)
    (kk : ∀ (u : S) (H1 : Heap) (locs1 : List Loc), va_P D vwCl ((wr ++ mk u) ++ F) H1 → va_D A ((wr ++ mk u) ++ F) → va_S A s.heap H1 locs1 → W p l e R s m args below meth c H1 locs1 (cells + mc) (slots + ms) Q (F0 m (pc + 3) ls rest)) : W p l e R s m args below meth c H locs cells slots Q (F0 m pc ls st) :=
  kn_c (va_runIN (As := As) (rest := rest) S0 (hM H.size) cw ⟨mpn_blind, mpn_at hK hP hD isC (places_app hC) hnC⟩ rfl hlen hsize hst (lv_room hroom) hdg hfit) hP hD hS hA isC isR hC hR hn hdis kk
end KN
