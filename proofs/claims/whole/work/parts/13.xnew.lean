/-! ===== 'new X(); athrow', X an exception of the JDK's, no stack traces ===== -/
theorem am_hw_lays {u U : State} {C n d : String} (hvm : u.vm.Alike U.vm) (hh : ∀ a, a < u.heap.size → U.heap[a]? = u.heap[a]?) {A B : Array Value} (h : (Cond.laysStatic C n d).before A u = true) : (Cond.laysStatic C n d).before B U = true := by
  obtain ⟨c, k, i, f, a, cell, h1, h2, h3, h4, h5, h6, h7, h8, h9⟩ := Cond.laysStatic_spec h
  obtain ⟨k', hi', he⟩ := State.fieldFound?_setVm hvm h2
  have h1' : U.vm.findClass C = some c := by rw [hvm.findClass]; exact h1
  have h5' : U.heap[a]? = some cell := by rw [hh a (Array.getElem?_eq_some_iff.mp h5).1]; exact h5
  have h4' : k'.statics = some a := by rw [he]; exact h4
  have h9' : k'.staticTypes[f.slot]? = some f.type := by rw [he]; exact h9
  unfold Cond.before
  simp only [Cond.holds, Cond.value]
  rw [h1', show U.fieldFound? C n d = some (c, k', i, f) from hi']
  simp [h4', h5', h3, h6, h7, h8, h9']
theorem am_hw_ref {u U : State} {C n d : String} (hvm : u.vm.Alike U.vm) (hh : ∀ a, a < u.heap.size → U.heap[a]? = u.heap[a]?) {A B : Array Value} (hl : (Cond.laysStatic C n d).before A u = true) (h : (Cond.isRef (.static C n d)).before A u = true) : (Cond.isRef (.static C n d)).before B U = true := by
  obtain ⟨c, k, i, f, a, cell, h1, h2, h3, h4, h5, h6, h7, h8, h9⟩ := Cond.laysStatic_spec hl
  obtain ⟨k', hi', he⟩ := State.fieldFound?_setVm hvm h2
  have h5' : U.heap[a]? = some cell := by rw [hh a (Array.getElem?_eq_some_iff.mp h5).1]; exact h5
  have h4' : k'.statics = some a := by rw [he]; exact h4
  have hi2 : U.fieldFound? C n d = some (c, k', i, f) := hi'
  have e1 : (Term.static C n d).eval A u none [] u = cell.slots[f.slot]? := by
    simp [Term.eval, State.fieldNamed?, h2, h3, h4, h5, h6]
  have e2 : (Term.static C n d).eval B U none [] U = cell.slots[f.slot]? := by
    simp [Term.eval, State.fieldNamed?, hi2, h3, h4', h5', h6]
  unfold Cond.before at h ⊢
  simp only [Cond.holds, Cond.value] at h ⊢
  rw [e1] at h
  rw [e2]
  exact h
/-- the words of the constructor's chain -/
def am_xn : List String := ["java/lang/RuntimeException", "java/lang/Exception"]
def am_xs (own : String) (ic : Nat) (X : String) : List Cond := Bundle.ownAtoms0 own ic X am_xn
def am_xok (w : Cond) : Bool := goodWord w || (match w with
  | .castable _ _ => true
  | .declares _ => true
  | _ => false)
theorem am_xword {g : am_G} {s : State} {args : Array Value} (hK : am_K g) (hW : g.1.WarmedH s.vm) (ho : ∀ a, a < g.1.heap.size → s.heap[a]? = g.1.heap[a]?) {w : Cond} (h : w ∈ am_hw ∨ (w ∈ lw_tbl ∧ am_xok w = true)) : w.before args s = true := by
  rcases h with h | ⟨h1, h2⟩
  · have hw := hK.2.2.2.2.1
    have l1 := hw _ (show Cond.laysStatic "java/lang/Throwable" "UNASSIGNED_STACK" "[Ljava/lang/StackTraceElement;" ∈ am_hw by simp [am_hw])
    have l2 := hw _ (show Cond.laysStatic "java/lang/Throwable" "SUPPRESSED_SENTINEL" "Ljava/util/List;" ∈ am_hw by simp [am_hw])
    have r1 := hw _ (show Cond.isRef (.static "java/lang/Throwable" "UNASSIGNED_STACK" "[Ljava/lang/StackTraceElement;") ∈ am_hw by simp [am_hw])
    have r2 := hw _ (show Cond.isRef (.static "java/lang/Throwable" "SUPPRESSED_SENTINEL" "Ljava/util/List;") ∈ am_hw by simp [am_hw])
    simp only [am_hw, List.mem_cons, List.not_mem_nil, or_false] at h
    rcases h with rfl | rfl | rfl | rfl
    · exact am_hw_lays hW.alike ho l1
    · exact am_hw_lays hW.alike ho l2
    · exact am_hw_ref hW.alike ho l1 r1
    · exact am_hw_ref hW.alike ho l2 r2
  · by_cases hg : goodWord w = true
    · exact am_word hK hW h1 hg
    · unfold am_xok at h2
      cases w <;> first | (exfalso; revert h2 hg; simp; done) | exact am_wordC hK hW h1 | exact am_wordD hK hW h1
theorem am_xs13 : ∀ w ∈ am_xs "MapMerger" 65 "java/lang/IllegalArgumentException", w ∈ am_hw ∨ (w ∈ lw_tbl ∧ am_xok w = true) := by decide +kernel
