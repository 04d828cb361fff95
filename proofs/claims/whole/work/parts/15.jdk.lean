/-! ===== statics, the marks, Math ===== -/
section JD
variable {g : am_G} {M : am_M} {σ0 σ : am_S} {pc : Nat} {lv : List (Option Value)} {st : List Value} {β : Type} {E : Option β} {k : β → Option (Outcome × am_S)}
theorem am_Zs {s : State} {H : Heap} {C n d : String} {v : Value} (hW : g.1.WarmedH s.vm) (hR : am_R g σ H) (h : va_Z C n d v (fun q => g.1.heap.size ≤ q) g.1 g.1.heap) : va_Z C n d v (fun q => g.1.heap.size ≤ q) s H :=
  (va_Z.moved hW.alike h).kept fun a ha _ => hR.2.2.2 a ha
theorem am_gstat {p : Program} {l : Launch} {e : Env} {R : Room} {s : State} {m : MethodId} {args : Array Value} {below : List Frame} {meth : Method} {c : Code} {H : Heap} {locs : List Loc} {cells slots : Nat} {Q : State → Prop} {ls : Array Slot} {C n d own : String} {v : Value} {index : Nat} {cc : ByteArray} {rest : List Value} (hexec : p.tables.exec = Jvm.exec) (hb : c.code = cc)
    (hZ : va_Z C n d v (fun q => g.1.heap.size ≤ q) s H) (hown : s.vm.findClass own = some m.cls) (hlink : (Cond.fieldLink own index C n d).before args s = true) (hdg : decode cc pc = .ok (.getstatic index, 3))
    (kk : W p l e R s m args below meth c H locs cells slots Q (F0 m (pc + 3) ls (v :: rest))) : W p l e R s m args below meth c H locs cells slots Q (F0 m pc ls rest) := by
  obtain ⟨cf, kf, fi, f, a, cell, h1, h2, h3, h4, h5, h6, h7, h8⟩ := hZ
  exact W.gets hexec hb hown hlink h1 h2 h3 h4 h5 (fun e => by rw [e] at h6; cases h6) h7 rfl hdg kk
/-- getstatic REFUSED -/
theorem aw_refused (idx : Nat) (hd : decode (am_code M) pc = .ok (.getstatic idx, 3) := by decide +kernel) (hw : Cond.fieldLink (am_name M).cls idx "MapMergerModel" "REFUSED" "LMapMergerModel$No;" ∈ lw_tbl)
    (kk : am_W g M σ0 (pc + 3) lv (.ref 1 :: st) σ E k) : am_W g M σ0 pc lv st σ E k := by
  refine kk.same fun {p l e R s m args below meth c0 H locs cells slots Q ls} C hL hR w => ?_
  obtain ⟨c1, c2, c3, c4, c5, c6, c7, c8, c9, c10, c11, hW, hK⟩ := C
  exact am_gstat c1 c2 (am_Zs hW hR hK.2.2.2.2.2.1) c4 (am_word hK hW hw rfl) hd w
/-- getstatic COMPACT_STRINGS -/
theorem aw_compact (idx : Nat) (hd : decode (am_code M) pc = .ok (.getstatic idx, 3) := by decide +kernel) (hw : Cond.fieldLink (am_name M).cls idx "java/lang/String" "COMPACT_STRINGS" "Z" ∈ lw_tbl)
    (kk : am_W g M σ0 (pc + 3) lv (.int 1 :: st) σ E k) : am_W g M σ0 pc lv st σ E k := by
  refine kk.same fun {p l e R s m args below meth c0 H locs cells slots Q ls} C hL hR w => ?_
  obtain ⟨c1, c2, c3, c4, c5, c6, c7, c8, c9, c10, c11, hW, hK⟩ := C
  exact am_gstat c1 c2 (am_Zs hW hR hK.2.2.2.2.2.2.2.1) c4 (am_word hK hW hw rfl) hd w
theorem am_OFs {s : State} {H : Heap} {o n d : String} {v : Value} {q : Nat} (hW : g.1.WarmedH s.vm) (hR : am_R g σ H) (h : va_OF o n d v q (fun q => g.1.heap.size ≤ q) g.1 g.1.heap) : va_OF o n d v q (fun q => g.1.heap.size ≤ q) s H :=
  (va_OF.moved hW.alike h).kept fun a ha _ => hR.2.2.2 a ha
/-- a mark's bytes -/
theorem aw_sval (idx i : Nat) (h2 : 2 ≤ i) (h5 : i < 5) (hd : decode (am_code M) pc = .ok (.getfield idx, 3) := by decide +kernel) (hw : Cond.fieldLink (am_name M).cls idx "java/lang/String" "value" "[B" ∈ lw_tbl)
    (kk : am_W g M σ0 (pc + 3) lv (.ref (i + 3) :: st) σ E k) : am_W g M σ0 pc lv (.ref i :: st) σ E k := by
  refine kk.same fun {p l e R s m args below meth c0 H locs cells slots Q ls} C hL hR w => ?_
  obtain ⟨c1, c2, c3, c4, c5, c6, c7, c8, c9, c10, c11, hW, hK⟩ := C
  obtain ⟨cf, k, fi, f, cell, h1, h2', h3, h4, h5', h6⟩ := am_OFs hW hR (hK.2.2.2.2.2.2.1 i h2 h5).2.2
  have e1 : am_r g i = g.2.1 i := by unfold am_r; rw [if_pos (by omega)]
  have e2 : am_r g (i + 3) = g.2.1 (i + 3) := by unfold am_r; rw [if_pos (by omega)]
  simp only [List.map_cons, am_up, e1, e2] at w ⊢
  exact W.getf c1 c2 c4 (am_word hK hW hw rfl) h1 h2' h3 h4 (v := .ref (g.2.1 (i + 3))) h5' rfl rfl hd w
/-- a mark's coder -/
theorem aw_scod (idx i : Nat) (h2 : 2 ≤ i) (h5 : i < 5) (hd : decode (am_code M) pc = .ok (.getfield idx, 3) := by decide +kernel) (hw : Cond.fieldLink (am_name M).cls idx "java/lang/String" "coder" "B" ∈ lw_tbl)
    (kk : am_W g M σ0 (pc + 3) lv (.int 0 :: st) σ E k) : am_W g M σ0 pc lv (.ref i :: st) σ E k := by
  refine kk.same fun {p l e R s m args below meth c0 H locs cells slots Q ls} C hL hR w => ?_
  obtain ⟨c1, c2, c3, c4, c5, c6, c7, c8, c9, c10, c11, hW, hK⟩ := C
  obtain ⟨cf, k, fi, f, cell, h1, h2', h3, h4, h5', h6⟩ := am_OFs hW hR (hK.2.2.2.2.2.2.1 i h2 h5).2.1
  have e1 : am_r g i = g.2.1 i := by unfold am_r; rw [if_pos (by omega)]
  simp only [List.map_cons, am_up, e1] at w ⊢
  exact W.getf c1 c2 c4 (am_word hK hW hw rfl) h1 h2' h3 h4 (v := .int 0) h5' rfl rfl hd w
/-- ldc of a mark -/
theorem aw_ldcS (idx i : Nat) (tx : String) (hi : i < 8) (hd : decode (am_code M) pc = .ok (.ldc idx, 2) := by decide +kernel) (hz : am_str g → vk_R (am_name M).cls idx tx (g.2.1 i) g.1)
    (kk : am_W g M σ0 (pc + 2) lv (.ref i :: st) σ E k) : am_W g M σ0 pc lv st σ E k := by
  refine kk.same fun {p l e R s m args below meth c0 H locs cells slots Q ls} C hL hR w => ?_
  obtain ⟨c1, c2, c3, c4, c5, c6, c7, c8, c9, c10, c11, hW, hK⟩ := C
  have e1 : am_r g i = g.2.1 i := by unfold am_r; rw [if_pos hi]
  simp only [List.map_cons, am_up, e1] at w
  exact va_ldcS c1 c2 c4 (vk_R.warm hW (hz hK.2.2.2.2.2.2)) hd w
/-- a method of a mark's -/
theorem am_goVS {M' : am_M} {As : List Value} (idx i : Nat) (h2 : 2 ≤ i) (h5 : i < 5) (hd : decode (am_code M) pc = .ok (.invokevirtual idx, 3)) (hw : Cond.methodLink (am_name M).cls idx (am_name M') ∈ lw_tbl) (hc : am_cal M' As.length) (hi : Cond.instanceMethod (am_name M') ∈ lw_tbl) (hs : Cond.selects "java/lang/String" (am_name M') (am_name M') ∈ lw_tbl) : am_go g M M' σ pc (.ref i :: As) st := by
  intro p l e R s m args below meth c T locs cells slots ls C X hR
  obtain ⟨c1, c2, c3, c4, c5, c6, c7, c8, c9, c10, c11, hW, hK⟩ := C
  obtain ⟨cell, q1, q2, q3, -⟩ := (va_O.moved hW.alike (hK.2.2.2.2.2.2.1 i h2 h5).1).kept (H1 := T.heap) fun a ha _ => hR.2.2.2 a ha
  have e1 : am_r g i = g.2.1 i := by unfold am_r; rw [if_pos (by omega)]
  obtain ⟨mk, methM, hnamed, hmethM, hstM, habM⟩ := Cond.instanceMethod_spec (am_word (args := args) hK hW hi rfl)
  obtain ⟨methM', cM, hmethM', -, -, -, -, -, -, hsigM⟩ := am_cw_spec hnamed (am_word (args := args) hK hW hc.1 (am_cw_good M'))
  cases hmethM.symm.trans hmethM'
  obtain ⟨c2', r2, m2, p1, p2, p3, p4, kP, hkP, hkPi⟩ := Cond.selects_spec (am_word (args := args) hK hW hs rfl)
  cases q3.symm.trans p1
  cases (State.methodFound?_of_named hnamed hc.2.2.1).symm.trans p2
  cases hnamed.symm.trans p3
  have hselP : selectMethod e.platform s.vm cell.cls mk = .method mk := by rw [Launch.admits_selectMethod X.admits]; exact p4
  have hlen : (As.map (am_up g)).length = methM.sig.parameters.length := by rw [List.length_map]; exact hc.len _ hsigM
  obtain ⟨vm₁, X₁, hstep₁⟩ := X.invokevirtual c1 c4 (am_word hK hW hw rfl) hnamed hmethM hstM hkP hkPi hc.2.2.1 (a := am_r g i) (cell := cell) (by rw [e1]; exact q1)
    (fun z h => by rw [h] at q2; cases q2) hselP hmethM habM hkP hkPi (g := F0 m pc ls (((Value.ref i :: As).reverse ++ st).map (am_up g))) rfl (argsL := As.map (am_up g)) (rest := st.map (am_up g)) hlen (by simp [am_up]) (by rw [c2]; exact hd)
  refine ⟨vm₁, mk, _, X₁.warmed, X₁, X₁.named hnamed, by rw [c2]; exact hd, fun target h => hstep₁ _ fun acts => ?_⟩
  rw [doInvoke_state]
  exact h
def am_max (x y : Int32) : Int32 := if x < y then y else x
def am_min (x y : Int32) : Int32 := if y < x then y else x
theorem aw_max (idx : Nat) {x y : Int32} (hd : decode (am_code M) pc = .ok (.invokestatic idx, 3) := by decide +kernel) (hw : Cond.methodLink (am_name M).cls idx Lib.Math.max.name ∈ lw_tbl) (hw2 : Cond.static Lib.Math.max.name ∈ lw_tbl) (hw3 : Cond.initialized "java/lang/Math" ∈ lw_tbl) (hw4 : Cond.code Lib.Math.max.name Lib.Math.max.code 2 (some .int) ∈ lw_tbl)
    (hr : ((st.map (am_up g)).map fun v => v.category).sum ≤ 8) (hf : 1 ≤ am_fr M := by decide) (hl : 21 ≤ am_lc M := by decide) (kk : am_W g M σ0 (pc + 3) lv (.int (am_max x y) :: st) σ E k) : am_W g M σ0 pc lv (.int y :: .int x :: st) σ E k := by
  intro res σ' hE
  obtain ⟨a1, b1, j⟩ := kk res σ' hE
  refine ⟨a1, b1, fun p l e R s m args below meth c H locs ls C hc hs h1 h2 hR hL hll => ?_⟩
  have w := j p l e R s m args below meth c H locs ls C hc hs h1 h2 hR hL hll
  obtain ⟨c1, c2, c3, c4, c5, c6, c7, c8, c9, c10, c11, hW, hK⟩ := C
  exact va_mmax c1 c2 (by rw [c3]; exact hL.size.symm) c4 (am_word hK hW hw rfl) (am_word hK hW hw2 rfl) (am_word hK hW hw3 rfl) (am_word hK hW hw4 rfl) (by omega) (by omega) (by omega) (by omega) hd w
theorem aw_min (idx : Nat) {x y : Int32} (hd : decode (am_code M) pc = .ok (.invokestatic idx, 3) := by decide +kernel) (hw : Cond.methodLink (am_name M).cls idx Lib.Math.min.name ∈ lw_tbl) (hw2 : Cond.static Lib.Math.min.name ∈ lw_tbl) (hw3 : Cond.initialized "java/lang/Math" ∈ lw_tbl) (hw4 : Cond.code Lib.Math.min.name Lib.Math.min.code 2 (some .int) ∈ lw_tbl)
    (hr : ((st.map (am_up g)).map fun v => v.category).sum ≤ 8) (hf : 1 ≤ am_fr M := by decide) (hl : 21 ≤ am_lc M := by decide) (kk : am_W g M σ0 (pc + 3) lv (.int (am_min x y) :: st) σ E k) : am_W g M σ0 pc lv (.int y :: .int x :: st) σ E k := by
  intro res σ' hE
  obtain ⟨a1, b1, j⟩ := kk res σ' hE
  refine ⟨a1, b1, fun p l e R s m args below meth c H locs ls C hc hs h1 h2 hR hL hll => ?_⟩
  have w := j p l e R s m args below meth c H locs ls C hc hs h1 h2 hR hL hll
  obtain ⟨c1, c2, c3, c4, c5, c6, c7, c8, c9, c10, c11, hW, hK⟩ := C
  exact va_mmin c1 c2 (by rw [c3]; exact hL.size.symm) c4 (am_word hK hW hw rfl) (am_word hK hW hw2 rfl) (am_word hK hW hw3 rfl) (am_word hK hW hw4 rfl) (by omega) (by omega) (by omega) (by omega) hd w
theorem aw_i2c {x : Int32} (hd : decode (am_code M) pc = .ok (.i2c, 1) := by decide +kernel) (kk : am_W g M σ0 (pc + 1) lv (.int (x.toUInt32 % 65536).toInt32 :: st) σ E k) : am_W g M σ0 pc lv (.int x :: st) σ E k :=
  kk.pure fun C hL w => lv_i2c C.1 C.2.1 hd rfl w
/-- returns of small types -/
def am_rn (t : FieldType) (v : Int32) (σ : am_S) : Option (Int32 × am_S) := if narrow t (.int v) = .int v then some (v, σ) else none
theorem aw_nret {v : Int32} {t : FieldType} (hd : decode (am_code M) pc = .ok (.ireturn, 1) := by decide +kernel) (hr : am_ret M = some t := by rfl) : am_W g M σ0 pc lv [.int v] σ (am_rn t v σ) am_kI := by
  intro res σ' hE
  unfold am_rn at hE
  split at hE
  · rename_i hv
    cases hE
    refine ⟨Nat.le_refl _, Nat.le_refl _, fun p l e R s m args below meth c H locs ls C hc hs h1 h2 hR hL hl => ?_⟩
    refine am_weak (W.zret (ty := t) (Qc := am_QR g σ (.returned (some (.int v)))) (free := fun q => g.1.heap.size ≤ q) C.1 C.2.1 (by rw [C.2.2.2.2.1]; exact hr) hv (fun t ht _ => ⟨rfl, by rw [ht]; exact hR⟩) hl hd C.2.2.2.2.2.1) fun t h => am_endR h
  · cases hE
/-- REFUSED, caught by the one handler -/
theorem at_cNo {a : Nat} {q : Nat × Nat × Nat × Nat} (hh : am_hand M = [q] := by rfl) (h1 : q.1 ≤ pc := by decide) (h2 : pc < q.2.1 := by decide) (h0 : q.2.2.2 ≠ 0 := by decide) (hw : Cond.classLink (am_name M).cls q.2.2.2 "MapMergerModel$No" ∈ lw_tbl) (hw2 : Cond.castable "MapMergerModel$No" "MapMergerModel$No" ∈ lw_tbl)
    (kk : am_W g M σ0 q.2.2.1 lv [.ref a] σ E k) : am_T g M σ0 pc lv st σ a (if a = 1 then E else none) k := by
  by_cases ha : a = 1
  · rw [if_pos ha]
    subst ha
    intro res σ' hE
    obtain ⟨a1, b1, j⟩ := kk res σ' hE
    refine ⟨a1, b1, fun p l e R s m args below meth c H locs ls C hce hse r1 r2 hR hL hl T hT X => ?_⟩
    have C' := C
    obtain ⟨c1, c2, c3, c4, c5, c6, c7, c8, c9, c10, c11, hW, hK⟩ := C
    obtain ⟨cell, q1, q2, q3, -⟩ := (va_O.moved hW.alike hK.2.2.2.2.2.2.2.2.2.2.2).kept (H1 := H) fun a ha _ => hR.2.2.2 a ha
    have e1 : am_r g 1 = g.2.1 1 := by unfold am_r; rw [if_pos (by omega)]
    rw [hh] at c8
    obtain ⟨x, rows, ht, hx, -⟩ := List.map_eq_cons_iff.mp c8
    subst hx
    have hpl : e.platform.magicAccessors = ({} : Platform).magicAccessors := by rw [X.admits.platform]
    obtain ⟨c', hc', hcl1⟩ := Cond.classLink_spec c4 (am_word (args := args) hK hW hw rfl) e.platform hpl
    cases q3.symm.trans hc'
    obtain ⟨c3', c4', hc3, hc4, hasg⟩ := Cond.castable_spec (am_wordC (args := args) hK hW hw2)
    cases q3.symm.trans hc3
    cases q3.symm.trans hc4
    obtain ⟨dk, _, _, kt, hd, _, _, _, _, hkt, _, hopen⟩ := hcl1.here
    have hcl₀ := X.warmed.classLinks hcl1
    have hW' : s.WarmedH (T.vm.noted m.cls x.catchType (.cls cell.cls)) := X.warmed.noted hd hopen (State.rightAt_cls hcl1)
    have hal := X.warmed.alike
    obtain ⟨kt', hkt', -⟩ := hal.2.2 _ _ hkt
    have hfit : T.vm.assignable cell.cls cell.cls = true := by rw [hal.assignable]; exact hasg
    have hs : am_sr e ((T.setTop (F0 m pc ls (st.map (am_up g)))).pushFrame (.throwing (am_r g 1))) (F0 m pc ls (st.map (am_up g))) (am_r g 1) (x :: rows) x.handlerPc (T.vm.noted m.cls x.catchType (.cls cell.cls)) := by
      refine am_sr_yes (cell := cell) (by simp [covers, h1, h2]) h0 hcl₀ (by rw [Stand.throwing_heap, hT, e1]; exact q1) (fun z hz => by rw [hz] at q2; cases q2) ⟨kt', hkt'⟩ ⟨kt', hkt'⟩ hfit
    rw [← ht] at hs
    obtain ⟨t, t1, t2⟩ := j p l e R s m args below meth c H locs ls C' hce hse r1 r2 hR hL hl (T.setVm (T.vm.noted m.cls x.catchType (.cls cell.cls))) hT (X.noted hW')
    exact ⟨t, am_caught X rfl hs t1, t2⟩
  · rw [if_neg ha]
    intro res σ' hE
    cases hE
end JD
