/-! ===== an exception is caught: the handler's class resolved by the search, if it was not ===== -/
/-- the search over these rows ends at the handler pc, with these tables -/
def am_sr (e : Env) (S : State) (f : JFrame) (a : Addr) (rows : List ExceptionTableEntry) (pc : Nat) (vm' : Vm) : Prop :=
  ∀ (Q : Handler → Pre) (E : CtlPost) (d : Bool) (acts : List Action), wp (findHandler.go f a rows) Q E e d acts S ↔ Q (.found pc) d acts (S.setVm vm')
section CT
variable {e : Env} {s S : State} {f : JFrame} {a : Addr} {x : ExceptionTableEntry} {rows : List ExceptionTableEntry} {c : ClassId} {cell : Cell}
theorem am_sr_yes (hx : covers x f.pc = true) (h0 : x.catchType ≠ 0) (hl : S.vm.ClassLinks e.platform f.method.cls x.catchType c) (hcell : S.heap[a]? = some cell) (hobj : ∀ k, cell.vm ≠ .statics k)
    (hk : ∃ k, S.vm.classes[cell.cls]? = some k) (hc : ∃ k, S.vm.classes[c]? = some k) (hfit : S.vm.assignable cell.cls c = true) : am_sr e S f a (x :: rows) x.handlerPc (S.vm.noted f.method.cls x.catchType (.cls c)) := by
  intro Q E d acts
  simp only [covers] at hx
  obtain ⟨r1, r2⟩ := (resolveClass_links e.toSetting hl).op (op := VmOp.resolveClass f.method.cls x.catchType) rfl
  have hal : S.vm.Alike (S.vm.noted f.method.cls x.catchType (.cls c)) := (Vm.Alike.refl S.vm).noted _ _ _
  obtain ⟨k1, hk1⟩ := hk
  obtain ⟨k2, hk2⟩ := hc
  obtain ⟨k1', hk1', -⟩ := hal.2.2 _ _ hk1
  obtain ⟨k2', hk2', -⟩ := hal.2.2 _ _ hk2
  have hfit' : (S.vm.noted f.method.cls x.catchType (.cls c)).assignable cell.cls c = true := by rw [hal.assignable]; exact hfit
  simp [findHandler.go, hx, h0, r1, r2, hcell, hobj, hk1', hk2', hfit', VmOp.dirties, VmOp.acts]
theorem am_sr_no {pc : Nat} {vm' : Vm} (hx : covers x f.pc = true) (h0 : x.catchType ≠ 0) (hl : S.vm.ClassLinks e.platform f.method.cls x.catchType c) (hcell : S.heap[a]? = some cell) (hobj : ∀ k, cell.vm ≠ .statics k)
    (hk : ∃ k, S.vm.classes[cell.cls]? = some k) (hc : ∃ k, S.vm.classes[c]? = some k) (hno : S.vm.assignable cell.cls c = false) (hr : am_sr e (S.setVm (S.vm.noted f.method.cls x.catchType (.cls c))) f a rows pc vm') : am_sr e S f a (x :: rows) pc vm' := by
  intro Q E d acts
  simp only [covers] at hx
  obtain ⟨r1, r2⟩ := (resolveClass_links e.toSetting hl).op (op := VmOp.resolveClass f.method.cls x.catchType) rfl
  have hal : S.vm.Alike (S.vm.noted f.method.cls x.catchType (.cls c)) := (Vm.Alike.refl S.vm).noted _ _ _
  obtain ⟨k1, hk1⟩ := hk
  obtain ⟨k2, hk2⟩ := hc
  obtain ⟨k1', hk1', -⟩ := hal.2.2 _ _ hk1
  obtain ⟨k2', hk2', -⟩ := hal.2.2 _ _ hk2
  have hno' : (S.vm.noted f.method.cls x.catchType (.cls c)).assignable cell.cls c = false := by rw [hal.assignable]; exact hno
  have h2 := hr Q E d acts
  have h3 : (S.setVm (S.vm.noted f.method.cls x.catchType (.cls c))).setVm vm' = S.setVm vm' := rfl
  rw [h3] at h2
  rw [← h2]
  simp [findHandler.go, hx, h0, r1, r2, hcell, hobj, hk1', hk2', hno', VmOp.dirties, VmOp.acts]
theorem am_thr_found {r : List Frame} {meth : Method} {code : Code} {pc : Nat} {vm' : Vm} (hm : S.vm.method? f.method = some meth) (hc : meth.code = some code) (hs : am_sr e S f a code.exceptionTable.toList pc vm') :
    (stepThrowing e S a (.java f :: r)).Is ((S.setVm vm').setFrames (.java { f with pc := pc, stack := [.ref a] } :: r)) [] := by
  have hfind : ∀ (Q : Handler → Pre) (E : CtlPost) (d : Bool) (acts : List Action), wp (findHandler f a) Q E e d acts S ↔ Q (.found pc) d acts (S.setVm vm') := fun Q E d acts => by
    rw [W.findHandler_eq hm hc]
    exact hs Q E d acts
  simp only [stepThrowing, searchFrame, vmDo]
  generalize hr : Sem.go _ e false [] S = res
  obtain ⟨as, rfl, ha⟩ := Sem.eq_ok_of hr (a := Handler.found pc) (s' := S.setVm vm') (acts' := []) (by simp [hfind _ _ _ _])
  exact ⟨rfl, ha⟩
end CT
theorem am_caught {p : Program} {l : Launch} {e : Env} {R : Room} {s : State} {m : MethodId} {args : Array Value} {below : List Frame} {meth : Method} {c : Code} {T : State} {locs : List Loc} {cells slots : Nat} (X : Stand p l e R s m args below meth c T locs cells slots) {a : Addr} {gf : JFrame} (hg : gf.method = m) {pc : Nat} {vm' : Vm}
    (hs : am_sr e ((T.setTop gf).pushFrame (.throwing a)) gf a c.exceptionTable.toList pc vm') {target : State} (hrest : Steps p.tables e below ((T.setVm vm').setTop { gf with pc := pc, stack := [.ref a] }) target) :
    Steps p.tables e below ((T.setTop gf).pushFrame (.throwing a)) target := by
  have h : At T gf.method c below := by rw [hg]; exact X.here
  obtain ⟨hgo, hw⟩ := h.throwing a
  refine Steps.head hgo hw ?_
  have hm : ((T.setTop gf).pushFrame (.throwing a)).vm.method? gf.method = some meth := by
    rw [Stand.throwing_vm, hg]
    exact X.method'
  rw [stepThread_throwing (frames_entered h.top _), (am_thr_found hm X.code hs).1]
  obtain ⟨g₀, hg0⟩ := Option.isSome_iff_exists.mp h.top
  obtain ⟨r, hr⟩ := State.topJava?_eq_some.mp hg0
  have hr' : (T.setVm vm').frames = .java g₀ :: r := hr
  rw [State.setTop_of_frames _ hr'] at hrest
  have key : ∀ (u : State) (F G : List Frame), ((u.setFrames F).setVm vm').setFrames G = (u.setVm vm').setFrames G := fun u F G => by
    have h1 : (u.setFrames F).setVm vm' = (u.setVm vm').setFrames F := rfl
    rw [h1, State.setFrames_setFrames]
  rw [hr, List.tail_cons, State.pushFrame, key, State.setTop_of_frames _ hr, key]
  exact hrest
section CR
variable {g : am_G} {M : am_M} {σ0 σ : am_S} {pc : Nat} {lv : List (Option Value)} {st : List Value} {β : Type} {E : Option β} {k : β → Option (Outcome × am_S)}
/-- caught by the first handler -/
theorem at_catch1 (c0 : Nat) {a : Nat} {fs : List Value} {q : Nat × Nat × Nat × Nat} {r : List (Nat × Nat × Nat × Nat)} (hh : am_hand M = q :: r) (h1 : q.1 ≤ pc) (h2 : pc < q.2.1) (h0 : q.2.2.2 ≠ 0) (hc : c0 < am_NC) (hw : Cond.classLink (am_name M).cls q.2.2.2 (am_cn c0) ∈ lw_tbl)
    (ha : σ.2.2 a = some (.inr (c0, fs))) (kk : am_W g M σ0 q.2.2.1 lv [.ref a] σ E k) : am_T g M σ0 pc lv st σ a E k := by
  intro res σ' hE
  obtain ⟨a1, b1, j⟩ := kk res σ' hE
  refine ⟨a1, b1, fun p l e R s m args below meth c H locs ls C hce hse r1 r2 hR hL hl T hT X => ?_⟩
  have C' := C
  obtain ⟨c1, c2, c3, c4, c5, c6, c7, c8, c9, c10, c11, hW, hK⟩ := C
  obtain ⟨cell, q1, q2, q3, q4⟩ := hR.1 a _ ha
  have hcl := am_class hK hW hc
  rw [hh] at c8
  obtain ⟨x, rows, ht, hx, -⟩ := List.map_eq_cons_iff.mp c8
  subst hx
  have hpl : e.platform.magicAccessors = ({} : Platform).magicAccessors := by rw [X.admits.platform]
  obtain ⟨c', hc', hcl1⟩ := Cond.classLink_spec c4 (am_word (args := args) hK hW hw rfl) e.platform hpl
  cases hcl.1.symm.trans hc'
  obtain ⟨dk, _, _, kt, hd, _, _, _, _, hkt, _, hopen⟩ := hcl1.here
  have hcl₀ := X.warmed.classLinks hcl1
  have hW' : s.WarmedH (T.vm.noted m.cls x.catchType (.cls (g.2.2.1 c0))) := X.warmed.noted hd hopen (State.rightAt_cls hcl1)
  have hal := X.warmed.alike
  obtain ⟨kt', hkt', -⟩ := hal.2.2 _ _ hkt
  have hfit : T.vm.assignable cell.cls (g.2.2.1 c0) = true := by rw [q2, hal.assignable]; exact va_assign hcl
  have hs : am_sr e ((T.setTop (F0 m pc ls (st.map (am_up g)))).pushFrame (.throwing (am_r g a))) (F0 m pc ls (st.map (am_up g))) (am_r g a) (x :: rows) x.handlerPc (T.vm.noted m.cls x.catchType (.cls (g.2.2.1 c0))) := by
    refine am_sr_yes (by simp [covers, h1, h2]) h0 hcl₀ (by rw [Stand.throwing_heap, hT]; exact q1) (fun z hz => by rw [q3] at hz; cases hz) ?_ ?_ hfit
    · rw [q2]; exact ⟨kt', hkt'⟩
    · exact ⟨kt', hkt'⟩
  rw [← ht] at hs
  obtain ⟨t, t1, t2⟩ := j p l e R s m args below meth c H locs ls C' hce hse r1 r2 hR hL hl (T.setVm (T.vm.noted m.cls x.catchType (.cls (g.2.2.1 c0)))) hT (X.noted hW')
  exact ⟨t, am_caught X rfl hs t1, t2⟩
/-- passed by the first handler, caught by the second -/
theorem at_catch2 (c0 cN : Nat) {a : Nat} {fs : List Value} {q q' : Nat × Nat × Nat × Nat} {r : List (Nat × Nat × Nat × Nat)} (hh : am_hand M = q :: q' :: r) (h1 : q.1 ≤ pc) (h2 : pc < q.2.1) (h0 : q.2.2.2 ≠ 0) (h1' : q'.1 ≤ pc) (h2' : pc < q'.2.1) (h0' : q'.2.2.2 ≠ 0) (hc : c0 < am_NC) (hcN : cN < am_NC)
    (hno : am_K g → g.1.vm.assignable (g.2.2.1 c0) (g.2.2.1 cN) = false) (hw : Cond.classLink (am_name M).cls q.2.2.2 (am_cn cN) ∈ lw_tbl) (hw' : Cond.classLink (am_name M).cls q'.2.2.2 (am_cn c0) ∈ lw_tbl)
    (ha : σ.2.2 a = some (.inr (c0, fs))) (kk : am_W g M σ0 q'.2.2.1 lv [.ref a] σ E k) : am_T g M σ0 pc lv st σ a E k := by
  intro res σ' hE
  obtain ⟨a1, b1, j⟩ := kk res σ' hE
  refine ⟨a1, b1, fun p l e R s m args below meth c H locs ls C hce hse r1 r2 hR hL hl T hT X => ?_⟩
  have C' := C
  obtain ⟨c1, c2, c3, c4, c5, c6, c7, c8, c9, c10, c11, hW, hK⟩ := C
  obtain ⟨cell, q1, q2, q3, q4⟩ := hR.1 a _ ha
  have hcl := am_class hK hW hc
  have hclN := am_class hK hW hcN
  rw [hh] at c8
  obtain ⟨x, rows, ht, hx, hrest⟩ := List.map_eq_cons_iff.mp c8
  obtain ⟨y, rows', ht', hy, -⟩ := List.map_eq_cons_iff.mp hrest
  subst hx
  subst hy
  subst ht'
  have hpl : e.platform.magicAccessors = ({} : Platform).magicAccessors := by rw [X.admits.platform]
  obtain ⟨cn, hcn, hclN1⟩ := Cond.classLink_spec c4 (am_word (args := args) hK hW hw rfl) e.platform hpl
  cases hclN.1.symm.trans hcn
  obtain ⟨c', hc', hcl1⟩ := Cond.classLink_spec c4 (am_word (args := args) hK hW hw' rfl) e.platform hpl
  cases hcl.1.symm.trans hc'
  obtain ⟨dkN, _, _, ktN, hdN, _, _, _, _, hktN, _, hopenN⟩ := hclN1.here
  obtain ⟨dk, _, _, kt, hd, _, _, _, _, hkt, _, hopen⟩ := hcl1.here
  have hW1 : s.WarmedH (T.vm.noted m.cls x.catchType (.cls (g.2.2.1 cN))) := X.warmed.noted hdN hopenN (State.rightAt_cls hclN1)
  have X1 := X.noted hW1
  have hW' : s.WarmedH (((T.vm.noted m.cls x.catchType (.cls (g.2.2.1 cN)))).noted m.cls y.catchType (.cls (g.2.2.1 c0))) := X1.warmed.noted hd hopen (State.rightAt_cls hcl1)
  have hal := X.warmed.alike
  have hal1 := X1.warmed.alike
  obtain ⟨ktN', hktN', -⟩ := hal.2.2 _ _ hktN
  obtain ⟨kt', hkt', -⟩ := hal.2.2 _ _ hkt
  obtain ⟨kt2, hkt2, -⟩ := hal1.2.2 _ _ hkt
  have hfit : (T.vm.noted m.cls x.catchType (.cls (g.2.2.1 cN))).assignable cell.cls (g.2.2.1 c0) = true := by
    rw [q2, show (T.vm.noted m.cls x.catchType (.cls (g.2.2.1 cN))).assignable _ _ = _ from hal1.assignable _ _]
    exact va_assign hcl
  have hno1 : T.vm.assignable cell.cls (g.2.2.1 cN) = false := by
    rw [q2, hal.assignable, hW.alike.assignable]
    exact hno hK
  have hs2 : am_sr e (((T.setTop (F0 m pc ls (st.map (am_up g)))).pushFrame (.throwing (am_r g a))).setVm (T.vm.noted m.cls x.catchType (.cls (g.2.2.1 cN)))) (F0 m pc ls (st.map (am_up g))) (am_r g a) (y :: rows') y.handlerPc ((T.vm.noted m.cls x.catchType (.cls (g.2.2.1 cN))).noted m.cls y.catchType (.cls (g.2.2.1 c0))) := by
    refine am_sr_yes (by simp [covers, h1', h2']) h0' (X1.warmed.classLinks hcl1) (by show ((T.setTop (F0 m pc ls (st.map (am_up g)))).pushFrame (.throwing (am_r g a))).heap[am_r g a]? = some cell; rw [Stand.throwing_heap, hT]; exact q1) (fun z hz => by rw [q3] at hz; cases hz) ?_ ?_ hfit
    · rw [q2]; exact ⟨kt2, hkt2⟩
    · exact ⟨kt2, hkt2⟩
  have hs : am_sr e ((T.setTop (F0 m pc ls (st.map (am_up g)))).pushFrame (.throwing (am_r g a))) (F0 m pc ls (st.map (am_up g))) (am_r g a) (x :: y :: rows') y.handlerPc ((T.vm.noted m.cls x.catchType (.cls (g.2.2.1 cN))).noted m.cls y.catchType (.cls (g.2.2.1 c0))) := by
    refine am_sr_no (by simp [covers, h1, h2]) h0 (X.warmed.classLinks hclN1) (by rw [Stand.throwing_heap, hT]; exact q1) (fun z hz => by rw [q3] at hz; cases hz) ?_ ⟨ktN', hktN'⟩ hno1 hs2
    rw [q2]; exact ⟨kt', hkt'⟩
  rw [← ht] at hs
  obtain ⟨t, t1, t2⟩ := j p l e R s m args below meth c H locs ls C' hce hse r1 r2 hR hL hl (T.setVm ((T.vm.noted m.cls x.catchType (.cls (g.2.2.1 cN))).noted m.cls y.catchType (.cls (g.2.2.1 c0)))) hT (X.noted hW')
  exact ⟨t, am_caught X rfl hs t1, t2⟩
end CR
