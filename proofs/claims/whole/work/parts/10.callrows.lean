/-! ===== the invoking instructions, up to the invocation itself ===== -/
def am_go (g : am_G) (M M' : am_M) (σ : am_S) (pc : Nat) (as st : List Value) : Prop :=
  ∀ {p : Program} {l : Launch} {e : Env} {R : Room} {s : State} {m : MethodId} {args : Array Value} {below : List Frame} {meth : Method} {c : Code} {T : State} {locs : List Loc} {cells slots : Nat} {ls : Array Slot},
    am_Cx g M p l e R s m meth c → Stand p l e R s m args below meth c T locs cells slots → am_R g σ T.heap →
    ∃ (vm₁ : Vm) (mk : MethodId) (ig : Instr), s.WarmedH vm₁ ∧ Stand p l e R s m args below meth c (T.setVm vm₁) locs cells slots ∧ (T.setVm vm₁).methodNamed? (am_name M') = some mk ∧ decode c.code pc = .ok (ig, 3) ∧
      ∀ target, Steps p.tables e below (doInvoke e ((T.setVm vm₁).setTop (F0 m pc ls (st.map (am_up g)))) [] mk (as.map (am_up g)).toArray).1 target → Steps p.tables e below (T.setTop (F0 m pc ls ((as.reverse ++ st).map (am_up g)))) target
/-- the words on the callee that every call needs -/
def am_cal (M' : am_M) (n : Nat) : Prop := am_cw M' ∈ lw_tbl ∧ Cond.initialized (am_name M').cls ∈ lw_tbl ∧ ((am_name M').cls ≠ "java/lang/invoke/MethodHandle" ∧ (am_name M').cls ≠ "java/lang/invoke/VarHandle") ∧ (parseMethodDescriptor (am_name M').desc).map (fun d => d.parameters.length) = some n
theorem am_cal.len {M' : am_M} {n : Nat} (h : am_cal M' n) : ∀ sig, parseMethodDescriptor (am_name M').desc = some sig → n = sig.parameters.length := fun sig hs => by
  have h2 := h.2.2.2
  rw [hs] at h2
  exact (Option.some.inj h2).symm
section GO
variable {g : am_G} {M M' : am_M} {σ : am_S} {pc : Nat} {As st : List Value}
theorem am_goV (idx c0 : Nat) {a : Nat} {fs : List Value} (hd : decode (am_code M) pc = .ok (.invokevirtual idx, 3)) (hw : Cond.methodLink (am_name M).cls idx (am_name M') ∈ lw_tbl) (hc : am_cal M' As.length) (hi : Cond.instanceMethod (am_name M') ∈ lw_tbl) (hs : Cond.selects (am_cn c0) (am_name M') (am_name M') ∈ lw_tbl) (hc0 : c0 < am_NC)
    (ha : σ.2.2 a = some (.inr (c0, fs))) : am_go g M M' σ pc (.ref a :: As) st := by
  intro p l e R s m args below meth c T locs cells slots ls C X hR
  obtain ⟨c1, c2, c3, c4, c5, c6, c7, c8, c9, c10, c11, hW, hK⟩ := C
  obtain ⟨cell, q1, q2, q3, q4⟩ := hR.1 a _ ha
  have hcl := (am_class hK hW hc0).1
  obtain ⟨mk, methM, hnamed, hmethM, hstM, habM⟩ := Cond.instanceMethod_spec (am_word (args := args) hK hW hi rfl)
  obtain ⟨methM', cM, hmethM', -, -, -, -, -, -, hsigM⟩ := am_cw_spec hnamed (am_word (args := args) hK hW hc.1 (am_cw_good M'))
  cases hmethM.symm.trans hmethM'
  obtain ⟨c2', r2, m2, p1, p2, p3, p4, kP, hkP, hkPi⟩ := Cond.selects_spec (am_word (args := args) hK hW hs rfl)
  have hcls : s.vm.findClass (am_cn c0) = some cell.cls := by rw [q2]; exact hcl
  cases hcls.symm.trans p1
  cases (State.methodFound?_of_named hnamed hc.2.2.1).symm.trans p2
  cases hnamed.symm.trans p3
  have hselP : selectMethod e.platform s.vm cell.cls mk = .method mk := by rw [Launch.admits_selectMethod X.admits]; exact p4
  have hlen : (As.map (am_up g)).length = methM.sig.parameters.length := by rw [List.length_map]; exact hc.len _ hsigM
  obtain ⟨vm₁, X₁, hstep₁⟩ := X.invokevirtual c1 c4 (am_word hK hW hw rfl) hnamed hmethM hstM hkP hkPi hc.2.2.1 (a := am_r g a) (cell := cell) q1
    (fun z h => by rw [q3] at h; cases h) hselP hmethM habM hkP hkPi (g := F0 m pc ls (((Value.ref a :: As).reverse ++ st).map (am_up g))) rfl (argsL := As.map (am_up g)) (rest := st.map (am_up g)) hlen (by simp [am_up]) (by rw [c2]; exact hd)
  refine ⟨vm₁, mk, _, X₁.warmed, X₁, X₁.named hnamed, by rw [c2]; exact hd, fun target h => hstep₁ _ fun acts => ?_⟩
  rw [doInvoke_state]
  exact h
theorem am_goS (idx : Nat) (hd : decode (am_code M) pc = .ok (.invokestatic idx, 3)) (hw : Cond.methodLink (am_name M).cls idx (am_name M') ∈ lw_tbl) (hc : am_cal M' As.length) (hst : Cond.static (am_name M') ∈ lw_tbl) : am_go g M M' σ pc As st := by
  intro p l e R s m args below meth c T locs cells slots ls C X hR
  obtain ⟨c1, c2, c3, c4, c5, c6, c7, c8, c9, c10, c11, hW, hK⟩ := C
  have hcw := am_word (args := args) hK hW hc.1 (am_cw_good M')
  obtain ⟨mk, hnamed⟩ : ∃ mk, s.methodNamed? (am_name M') = some mk := by
    unfold am_cw at hcw
    split at hcw
    · exact Cond.code_named hcw
    · obtain ⟨mk, _, _, h0, -⟩ := Cond.codeWith_spec hcw
      exact ⟨mk, h0⟩
  obtain ⟨methM, cM, hmethM, -, -, -, -, -, -, hsigM⟩ := am_cw_spec hnamed hcw
  have hstatic : methM.isStatic = true := Cond.static_spec hnamed hmethM (am_word (args := args) hK hW hst rfl)
  obtain ⟨kP, hkP, -⟩ := className_of_methodNamed hnamed
  have hinitP : kP.init = .initialized := Cond.initialized_spec (findClass_of_methodNamed hnamed) hkP (am_word (args := args) hK hW hc.2.1 rfl)
  have hlen : (As.map (am_up g)).length = methM.sig.parameters.length := by rw [List.length_map]; exact hc.len _ hsigM
  obtain ⟨vm₁, X₁, hstep₁⟩ := X.invokestatic c1 c4 (am_word hK hW hw rfl) hnamed hmethM hstatic hkP hinitP hc.2.2.1 (g := F0 m pc ls ((As.reverse ++ st).map (am_up g))) rfl (argsL := As.map (am_up g)) (rest := st.map (am_up g)) hlen (by simp) (by rw [c2]; exact hd)
  refine ⟨vm₁, mk, _, X₁.warmed, X₁, X₁.named hnamed, by rw [c2]; exact hd, fun target h => hstep₁ _ fun acts => ?_⟩
  rw [doInvoke_state]
  exact h
theorem am_goI (idx : Nat) {a : Nat} (hd : decode (am_code M) pc = .ok (.invokespecial idx, 3)) (hw : Cond.methodLink (am_name M).cls idx (am_name M') ∈ lw_tbl) (hc : am_cal M' As.length) (hi : Cond.instanceMethod (am_name M') ∈ lw_tbl) (hy1 : (am_name M').name = "<init>") (hh : am_hand M' = []) (hret : am_ret M' = none) : am_go g M M' σ pc (.ref a :: As) st := by
  intro p l e R s m args below meth c T locs cells slots ls C X hR
  obtain ⟨c1, c2, c3, c4, c5, c6, c7, c8, c9, c10, c11, hW, hK⟩ := C
  have hpl : e.platform.magicAccessors = ({} : Platform).magicAccessors := by rw [X.admits.platform]
  have hcw := am_word (args := args) hK hW hc.1 (am_cw_good M')
  have hcw' : (Cond.code (am_name M') (am_code M') (am_maxL M') none).before args s = true := by
    unfold am_cw at hcw
    rw [hh] at hcw
    rw [← hret]
    exact hcw
  obtain ⟨mk, methM, cM, kP, vm₁, hnamed, hmethM, hcodeM, -, hlocalsM, -, hkP, -, hW₁, hstep₁⟩ := Steps.initColdArgs (e := e) X.here c1 X.warmed hpl c4 hy1 hc.2.2.1 (am_word hK hW hw rfl) (am_word hK hW hi rfl) hcw' (f := F0 m pc ls (((Value.ref a :: As).reverse ++ st).map (am_up g))) rfl
    (argsL := As.map (am_up g)) (rest := st.map (am_up g)) (a := am_r g a) (fun sig h => by rw [List.length_map]; exact hc.len sig h) (by simp [am_up]) (by rw [c2]; exact hd)
  have X₁ := X.noted hW₁
  refine ⟨vm₁, mk, _, X₁.warmed, X₁, X₁.named hnamed, by rw [c2]; exact hd, fun target h => hstep₁ _ fun acts => ?_⟩
  rw [doInvoke_state]
  exact h
theorem am_goIN (idx : Nat) (host : String) {a : Nat} (hd : decode (am_code M) pc = .ok (.invokespecial idx, 3)) (hw : Cond.methodLinkNest (am_name M).cls idx (am_name M') host ∈ lw_tbl) (hc : am_cal M' As.length) (hi : Cond.instanceMethod (am_name M') ∈ lw_tbl) (hy1 : (am_name M').name = "<init>") (hh : am_hand M' = []) (hret : am_ret M' = none) : am_go g M M' σ pc (.ref a :: As) st := by
  intro p l e R s m args below meth c T locs cells slots ls C X hR
  obtain ⟨c1, c2, c3, c4, c5, c6, c7, c8, c9, c10, c11, hW, hK⟩ := C
  have hpl : e.platform.magicAccessors = ({} : Platform).magicAccessors := by rw [X.admits.platform]
  have hcw := am_word (args := args) hK hW hc.1 (am_cw_good M')
  have hcw' : (Cond.code (am_name M') (am_code M') (am_maxL M') none).before args s = true := by
    unfold am_cw at hcw
    rw [hh] at hcw
    rw [← hret]
    exact hcw
  obtain ⟨mk, methM, cM, kP, vm₁, hnamed, hmethM, hcodeM, -, hlocalsM, -, hkP, -, hW₁, hstep₁⟩ := Steps.initColdArgsNest (e := e) X.here c1 X.warmed hpl c4 hy1 hc.2.2.1 (am_wordM hK hW hw) (am_word hK hW hi rfl) hcw' (f := F0 m pc ls (((Value.ref a :: As).reverse ++ st).map (am_up g))) rfl
    (argsL := As.map (am_up g)) (rest := st.map (am_up g)) (a := am_r g a) (fun sig h => by rw [List.length_map]; exact hc.len sig h) (by simp [am_up]) (by rw [c2]; exact hd)
  have X₁ := X.noted hW₁
  refine ⟨vm₁, mk, _, X₁.warmed, X₁, X₁.named hnamed, by rw [c2]; exact hd, fun target h => hstep₁ _ fun acts => ?_⟩
  rw [doInvoke_state]
  exact h
end GO
