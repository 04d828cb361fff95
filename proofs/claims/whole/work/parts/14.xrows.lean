theorem am_xs14 : ∀ w ∈ am_xs "MapMerger" 54 "java/lang/IllegalStateException", w ∈ am_hw ∨ (w ∈ lw_tbl ∧ am_xok w = true) := by decide +kernel
theorem am_xs15 : ∀ w ∈ am_xs "MapMerger" 107 "java/util/NoSuchElementException", w ∈ am_hw ∨ (w ∈ lw_tbl ∧ am_xok w = true) := by decide +kernel
section XC
variable {p : Program} {l : Launch} {e : Env} {R : Room} {s : State} {m₀ : MethodId} {args : Array Value} {below : List Frame} {meth : Method} {c : Code} {W : State} {locs : List Loc} {cells slots : Nat}
set_option maxHeartbeats 1000000 in
/-- the constructor's chain over a fresh cell: the cell keeps class and kind, nothing else moves -/
theorem am_xctor (X : Stand p l e R s m₀ args below meth c W locs cells slots) (hexec : p.tables.exec = Jvm.exec) (htr : e.platform.stackTraces = false) {own cls : String} {names : List String} {ic : Nat}
    (hown : s.vm.findClass own = some m₀.cls) (hcls : Bundle.fit cls = true) (hnames : ∀ n ∈ names, Bundle.fit n = true)
    (h : ∀ a ∈ Bundle.ownAtoms0 own ic cls names, a.before args s = true)
    {lo : Nat} (hlo : ∀ x ∈ locs, lo ≤ x.base) (hst : ∀ (cc : ClassId) (kk : Class) (ii : Nat) (ff : Field) (aa : Nat), s.fieldFound? "java/lang/Throwable" "UNASSIGNED_STACK" "[Ljava/lang/StackTraceElement;" = some (cc, kk, ii, ff) → kk.statics = some aa → aa < lo)
    {a : Addr} {cX : ClassId} {kX : Class} (hfoundX : s.vm.findClass cls = some cX) (hkX : s.vm.classes[cX]? = some kX) (hcell : W.heap[a]? = some (freshCell cX kX)) (hnew : lo ≤ a)
    {g : JFrame} (hg : g.method = m₀) (hsize : g.locals.size = c.maxLocals) {rest : List Value} (hstack : g.stack = .ref a :: rest)
    (hd6 : decode c.code g.pc = .ok (.invokespecial ic, 3))
    (hRframes : names.length + 3 < R.frames) (hRlocals : 2 * g.monitorRoom + (rest.map fun v => v.category).sum + (13 * (names.length + 1) + 41) ≤ R.locals) :
    ∃ (vm' : Vm) (ce : Cell) (L : List Loc), Stand p l e R s m₀ args below meth c ((W.setVm vm').setCell a ce) (locs ++ L) cells slots ∧ ce.cls = cX ∧ ce.vm = .none ∧ (∀ q ∈ L, q.base = a) ∧
      ∀ target, Steps p.tables e below (((W.setVm vm').setCell a ce).setTop { g with pc := g.pc + 3, stack := rest }) target → Steps p.tables e below (W.setTop g) target := by
  have howns : e.platform.frameOwnsMonitors = true := by rw [X.admits.platform]
  have hfin : e.platform.finalization = false := by rw [X.admits.platform]
  have hpl : e.platform.magicAccessors = ({} : Platform).magicAccessors := by rw [X.admits.platform]
  have a' : ∀ x, x ∈ Bundle.ownAtoms0 own ic cls names → x.holds args s none s [] = true := fun x hx => h x hx
  obtain ⟨T, Z, L, LZ, Y⟩ := ThrowableC.of_atoms (args := args) howns hfin hpl (fun x hx => h x (by simp [Bundle.ownAtoms0, hx]))
  obtain ⟨P1, Ps, hlen, L1, hL, hP1m, hlink1, hlink⟩ := Bundle.chain0 (args := args) hpl Y.init0 names cls hcls hnames (fun x hx => h x (by simp [Bundle.ownAtoms0, hx]))
  have hfound : s.vm.findClass cls = some P1.m.cls := findClass_of_methodNamed hP1m
  cases Option.some.inj (hfoundX.symm.trans hfound)
  obtain ⟨c1, kX', hc1, hk, hord, -, -, hn6⟩ := Cond.instantiable_spec (a' (.instantiable cls 6) (by simp [Bundle.ownAtoms0]))
  cases Option.some.inj (hc1.symm.trans hfound)
  cases Option.some.inj (hkX.symm.trans hk)
  have hsel0 : selectMethod e.platform s.vm P1.m.cls T.fill0 = .method T.fill0 := by
    obtain ⟨c2, r2, m2, q1, q2, q3, q4, -⟩ := Cond.selects_spec (a' (.selects cls Bundle.tFill0 Bundle.tFill0) (by simp [Bundle.ownAtoms0]))
    cases Option.some.inj (q1.symm.trans hfound)
    cases Option.some.inj (q2.symm.trans (State.methodFound?_of_named Y.fill0 (by decide)))
    cases Option.some.inj (q3.symm.trans Y.fill0)
    rw [Launch.admits_selectMethod X.admits]; exact q4
  have hselF : selectMethod e.platform s.vm P1.m.cls T.fill = .method T.fill := by
    obtain ⟨c2, r2, m2, q1, q2, q3, q4, -⟩ := Cond.selects_spec (a' (.selects cls Bundle.tFill Bundle.tFill) (by simp [Bundle.ownAtoms0]))
    cases Option.some.inj (q1.symm.trans hfound)
    cases Option.some.inj (q2.symm.trans (State.methodFound?_of_named Y.fill (by decide)))
    cases Option.some.inj (q3.symm.trans Y.fill)
    rw [Launch.admits_selectMethod X.admits]; exact q4
  obtain ⟨cellS0, hcS0, hiss⟩ := Y.statics
  obtain ⟨u0, hu0⟩ := Cond.staticRefV Y.unassigned L.unassignedStatic L.statics hcS0 hiss (a' (.isRef (.static Bundle.tN "UNASSIGNED_STACK" Bundle.steD)) (by simp [Bundle.ownAtoms0]))
  obtain ⟨sen, hsen⟩ := Cond.staticRefV Y.sentinel L.sentinelStatic L.statics hcS0 hiss (a' (.isRef (.static Bundle.tN "SUPPRESSED_SENTINEL" Bundle.listD)) (by simp [Bundle.ownAtoms0]))
  obtain ⟨ci198, i198, fB, hk198, hg198, ha198, hsB, -, hnB, htB, hffB⟩ := Cond.ownField (t := .object "java/lang/Object") Y.found L.cls (by decide +kernel) (a' (.fieldLink Bundle.tN 198 Bundle.tN "backtrace" "Ljava/lang/Object;") (by simp [Bundle.ownAtoms0])) (a' (.lays Bundle.tN Bundle.tN "backtrace" "Ljava/lang/Object;") (by simp [Bundle.ownAtoms0])) e.platform hpl
  obtain ⟨cellS, hcS', heS, -, hkeep⟩ := X.same.2.2.2.2.2 T.aS cellS0 hcS0
  have hcellS : W.heap[T.aS]? = some cellS := hcS'
  have hlt0 : T.aS < lo := hst _ _ _ _ _ Y.unassigned L.statics
  have hout' : ∀ i, (⟨T.aS, i⟩ : Loc) ∉ locs := fun i hmem => by
    have := hlo _ hmem
    exact Nat.not_le.mpr hlt0 this
  have hknownS : cellS.vm ≠ .unknown := by
    rw [heS]; intro hu
    rw [show cellS0.vm = .unknown from hu] at hiss
    cases hiss
  have hneS : T.aS ≠ a := fun he => Nat.not_le.mpr hlt0 (he ▸ hnew)
  obtain ⟨tyC, dC, hdC, hdnC⟩ := Cond.laysAt hfound hk Y.cause (a' (.lays cls Bundle.tN "cause" "Ljava/lang/Throwable;") (by simp [Bundle.ownAtoms0]))
  obtain ⟨tyS, dS, hdS, hdnS⟩ := Cond.laysAt hfound hk Y.stack (a' (.lays cls Bundle.tN "stackTrace" Bundle.steD) (by simp [Bundle.ownAtoms0]))
  obtain ⟨tyP, dP, hdP, hdnP⟩ := Cond.laysAt hfound hk Y.supp (a' (.lays cls Bundle.tN "suppressedExceptions" Bundle.listD) (by simp [Bundle.ownAtoms0]))
  obtain ⟨tyB, dB, hdB, hdnB⟩ := Cond.laysAt hfound hk hffB (a' (.lays cls Bundle.tN "backtrace" "Ljava/lang/Object;") (by simp [Bundle.ownAtoms0]))
  have bC := Cond.laysApart hdB hdC hdnB hdnC (by rw [hnB, Y.causeName]; decide)
  have bS := Cond.laysApart hdB hdS hdnB hdnS (by rw [hnB, Y.stackName]; decide)
  have bP := Cond.laysApart hdB hdP hdnB hdnP (by rw [hnB, Y.suppName]; decide)
  have hskip : SkipFacts T e.platform s (fun u => u) u0 ((preparedCellV T.toThrowableT (freshCell P1.m.cls kX) a u0 sen).withEntry W.cur) :=
    ⟨{ ci198 := ci198, i198 := i198, fBack := fB }, ⟨hk198, hg198, ha198, hsB⟩, by
      have := fresh_default (c := P1.m.cls) tyB
      rw [htB] at this
      simpa [preparedCellV, Cell.setSlot, Cell.withEntry, Array.getElem?_setIfInBounds, bC, bS, bP, bC.symm, bS.symm, bP.symm, defaultValue] using this, fun _ _ => rfl⟩
  obtain ⟨tm, methC, cdC, kC, vm₁, hnC, -, -, -, -, -, -, -, hW₁, st1⟩ := Steps.initCold (tb := p.tables) (e := e) (below := below) (s := s) (U := W) X.here hexec X.warmed hpl hown (t := Bundle.init0 cls) rfl rfl (Bundle.fit_spec hcls).2
    (a' (.methodLink own ic (Bundle.init0 cls)) (by simp [Bundle.ownAtoms0])) (h (.instanceMethod (Bundle.init0 cls)) (by cases names <;> simp [Bundle.ownAtoms0, Bundle.chain0Atoms, Bundle.passAtoms])) (bytes := Bundle.five) (maxL := 1) (h (.code (Bundle.init0 cls) Bundle.five 1 none) (by cases names <;> simp [Bundle.ownAtoms0, Bundle.chain0Atoms, Bundle.passAtoms]))
    (f := g) hg (a := a) (rest := rest) hstack hd6
  cases Option.some.inj (hnC.symm.trans hP1m)
  have X₁ := X.noted hW₁
  obtain ⟨vm₂, X₂, st2⟩ := X₁.ctorPlainOffV hexec (g := { g with stack := rest }) hg hsize T L Z LZ (P1 :: Ps)
    (fun P hP => by rcases List.mem_cons.mp hP with rfl | hP; exact L1; exact hL P hP) ⟨hlink1, hlink⟩ (u0 := u0) (sen := sen) (self := a) (cell := freshCell P1.m.cls kX) (cellS := cellS)
    hcell (fun _ => by simp) (by simp) rfl rfl hsel0 hselF hcellS hneS hknownS (by rw [hkeep _ (hout' _)]; exact hu0) (by rw [hkeep _ (hout' _)]; exact hsen)
    (Takes.of_laid hk hord tyC (by rw [Y.causeType]; rfl)) (Takes.of_laid hk hord tyS (by rw [Y.stackType]; exact fits_refV_array _ u0)) (Takes.of_laid hk hord tyP (by rw [Y.suppType]; exact fits_refV_object _ sen)) Y.objLocals hskip htr [] hd6
    (by simp only [List.length_cons, hlen]; omega) (by simp only [List.length_cons, hlen]; exact hRlocals)
  refine ⟨vm₂, _, _, X₂, rfl, rfl, fun q hq => ?_, fun target hrest => st1 _ fun acts => ?_⟩
  · simp only [List.mem_cons, List.not_mem_nil, or_false] at hq
    rcases hq with rfl | rfl | rfl | rfl <;> rfl
  · rw [doInvoke_state]
    exact st2 _ hrest
end XC
/-- what throws away: a new exception of class c (13, 14, 15), made, and its constructor run, in six bytes behind 'new' -/
def am_nx (σ : am_S) (c : Nat) : am_S := am_new σ 6 (.inr (c, []))
section XR
variable {g : am_G} {M : am_M} {σ0 σ : am_S} {pc : Nat} {lv : List (Option Value)} {st : List Value} {β : Type} {E : Option β} {k : β → Option (Outcome × am_S)}
theorem am_N_x {c : Nat} (h : c = 13 ∨ c = 14 ∨ c = 15) : am_N c = 0 ∧ c < am_NC := by
  rcases h with rfl | rfl | rfl <;> exact ⟨rfl, by decide⟩
theorem aw_xnew (c idx ic : Nat) (hcx : c = 13 ∨ c = 14 ∨ c = 15 := by decide) (hd : decode (am_code M) pc = .ok (.new idx, 3) := by decide +kernel) (hd3 : decode (am_code M) (pc + 3) = .ok (.dup, 1) := by decide +kernel) (hd4 : decode (am_code M) (pc + 4) = .ok (.invokespecial ic, 3) := by decide +kernel)
    (hfit : Bundle.fit (am_cn c) = true := by decide +kernel) (hw : Cond.classLink (am_name M).cls idx (am_cn c) ∈ lw_tbl) (hw2 : Cond.instantiable (am_cn c) 6 ∈ lw_tbl) (hw3 : Cond.initialized (am_cn c) ∈ lw_tbl) (hx : ∀ w ∈ am_xs (am_name M).cls ic (am_cn c), w ∈ am_hw ∨ (w ∈ lw_tbl ∧ am_xok w = true))
    (hr : ((st.map (am_up g)).map fun v => v.category).sum ≤ 7) (hf : 6 ≤ am_fr M := by decide) (hl : 8 + 80 ≤ am_lc M := by decide)
    (kk : am_W g M σ0 (pc + 7) lv (.ref σ.1 :: st) (am_nx σ c) E k) : am_W g M σ0 pc lv st σ E k := by
  obtain ⟨hN, hc⟩ := am_N_x hcx
  intro res σ' hE
  obtain ⟨a1, b1, j⟩ := kk res σ' hE
  have a2 : σ.1 + 1 ≤ σ'.1 := a1
  have b2 : σ.2.1 + 6 ≤ σ'.2.1 := b1
  refine ⟨by omega, by omega, fun p l e R s m args below meth c0 H locs ls C hce hse r1 r2 hR hL hll => ?_⟩
  have C' := C
  obtain ⟨c1, c2, c3, c4, c5, c6, c7, c8, c9, c10, c11, hW, hK⟩ := C
  obtain ⟨hfl, hold⟩ := c11
  have hcl := am_class hK hW hc
  refine W.newcK c1 c2 c4 (am_word hK hW hw rfl) (am_word hK hW hw2 rfl) (am_word hK hW hw3 rfl) rfl hd (by omega) (by omega) hcl.1 rfl fun H1 kC e0 e1 e2 e3 => ?_
  refine lv_dup (va := .ref H.size) c1 c2 hd3 rfl ?_
  intro T hT X
  have ht := hR.top
  have h8 := hR.2.2.1
  have htr : e.platform.stackTraces = false := Launch.traces_off hfl X.admits
  have hlt : H.size < T.heap.size := by rw [hT, e2]; omega
  have hloH : g.1.heap.size ≤ H.size := by rw [hR.2.1]; omega
  obtain ⟨vm', ce, L, X', hce1, hce2, hL1, hstep⟩ := am_xctor X c1 htr (own := (am_name M).cls) (cls := am_cn c) (names := am_xn) (ic := ic) c4 hfit (by decide) (fun w hw' => am_xword hK hW hold (hx w hw')) (lo := g.1.heap.size) hll
    (fun cc kk ii ff aa hf1 hf2 => by
      obtain ⟨c', k', i', f', a', cell', h1, h2, h3, h4, h5, -⟩ := Cond.laysStatic_spec (hK.2.2.2.2.1 (Cond.laysStatic "java/lang/Throwable" "UNASSIGNED_STACK" "[Ljava/lang/StackTraceElement;") (by simp [am_hw]))
      obtain ⟨k2, hi2, he⟩ := State.fieldFound?_setVm hW.alike h2
      have hi3 : s.fieldFound? "java/lang/Throwable" "UNASSIGNED_STACK" "[Ljava/lang/StackTraceElement;" = some (c', k2, i', f') := hi2
      rw [hi3] at hf1
      cases hf1
      have h6 : kk.statics = some a' := by rw [he]; exact h4
      cases h6.symm.trans hf2
      exact (Array.getElem?_eq_some_iff.mp h5).1)
    (a := H.size) (cX := g.2.2.1 c) (kX := kC) hcl.1 e0 (by rw [hT]; exact e1) hloH (g := F0 m (pc + 3 + 1) ls (.ref H.size :: .ref H.size :: st.map (am_up g))) rfl (by rw [c3]; exact hL.size) (rest := .ref H.size :: st.map (am_up g)) rfl (by rw [c2]; exact hd4)
    (by show 2 + 3 < R.frames; omega) (by show 2 * 0 + (1 + ((st.map (am_up g)).map fun v => v.category).sum) + (13 * (2 + 1) + 41) ≤ R.locals; omega)
  have hR1 : am_R g (am_nx σ c) ((T.setVm vm').setCell H.size ce).heap := by
    refine hR.new (n := 6) ?_ ?_ fun q hq => ?_
    · refine ⟨ce, heapAt_setCell_self (s := T.setVm vm') ce hlt, hce1, hce2, fun k hk => ?_⟩
      have hk' : k < am_N c := hk
      rw [hN] at hk'
      cases hk'
    · rw [size_setCell]
      show T.heap.size = _
      rw [hT, e2]
    · rw [heapAt_setCell_ne _ (Nat.ne_of_gt hq)]
      show T.heap[q]? = _
      rw [hT]
      exact e3 q hq
  have X2 : Stand p l e R s m args below meth c0 ((T.setVm vm').setCell H.size ce) (locs ++ L) ((am_nx σ c).1 - σ0.1) ((am_nx σ c).2.1 - σ0.2.1) := by
    have q1 : (am_nx σ c).1 - σ0.1 = σ.1 - σ0.1 + 1 := by show σ.1 + 1 - σ0.1 = _; omega
    have q2 : (am_nx σ c).2.1 - σ0.2.1 = σ.2.1 - σ0.2.1 + 6 := by show σ.2.1 + 6 - σ0.2.1 = _; omega
    rw [q1, q2]
    exact X'
  obtain ⟨t, t1, t2⟩ := j p l e R s m args below meth c0 _ (locs ++ L) ls C' hce hse (show σ0.1 ≤ σ.1 + 1 by omega) (show σ0.2.1 ≤ σ.2.1 + 6 by omega) hR1 hL (fun q hq => by
    rcases List.mem_append.mp hq with hz | hz
    · exact hll q hz
    · rw [hL1 q hz]; exact hloH) _ rfl X2
  refine ⟨t, hstep t ?_, t2⟩
  have e9 : (F0 m (pc + 7) ls ((Value.ref σ.1 :: st).map (am_up g))) = F0 m (pc + 3 + 1 + 3) ls (.ref H.size :: st.map (am_up g)) := by
    simp only [List.map_cons, am_up, ht]
  rw [e9] at t1
  exact t1
end XR
