/-- cells put anew by their places, told by lookups -/
theorem sa_eq {ws wc' ws' : va_W} {isC : List Nat} (wr : va_W) (isR : List Nat) (n : Nat) (hn : va_nd isC = true) (l1 : ws.length = n) (l2 : ws'.length = n) (h1 : isC.map (fun i => ws'[i]?) = wc'.map some) (h2a : isR.map (fun i => ws'[i]?) = wr.map some) (h2b : isR.map (fun i => ws[i]?) = wr.map some) (h3 : (List.range n).all (fun k => isC.contains k || isR.contains k) = true) : setAll ws isC wc' = ws' := by
  have h2 : isR.map (fun i => ws'[i]?) = isR.map (fun i => ws[i]?) := h2a.trans h2b.symm
  have hb : ∀ i ∈ isC, i < ws.length := fun i hi => by rw [l1, ← l2]; exact places_lt h1 i hi
  have hl : isC.length = wc'.length := by have := congrArg List.length h1; simpa using this
  obtain ⟨s1, s2⟩ := setAll_spec isC wc' ws hn hl hb
  apply List.ext_getElem?
  intro k
  by_cases hm : k ∈ isC
  · obtain ⟨j, hj⟩ := List.getElem?_of_mem hm
    rw [s1 j k hj]
    have e : (isC.map (fun i => ws'[i]?))[j]? = some ws'[k]? := by rw [List.getElem?_map, hj]; rfl
    rw [h1, List.getElem?_map] at e
    cases hw : wc'[j]? with
    | none => rw [hw] at e; cases e
    | some q => rw [hw] at e; exact Option.some.inj e
  · rw [s2 k hm]
    by_cases hk : k < n
    · have h4 := List.all_eq_true.mp h3 k (List.mem_range.mpr hk)
      simp only [Bool.or_eq_true, List.contains_iff_mem] at h4
      rcases h4 with h4 | h4
      · exact absurd h4 hm
      · obtain ⟨j, hj⟩ := List.getElem?_of_mem h4
        have e : (isR.map (fun i => ws'[i]?))[j]? = some ws'[k]? := by rw [List.getElem?_map, hj]; rfl
        rw [h2, List.getElem?_map, hj] at e
        exact Option.some.inj e
    · rw [List.getElem?_eq_none (by rw [l1]; omega), List.getElem?_eq_none (by rw [l2]; omega)]
