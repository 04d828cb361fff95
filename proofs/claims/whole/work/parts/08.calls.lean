/-! ===== a method's contract, returns, calls ===== -/
def am_cw (M : am_M) : Cond := match am_hand M with
  | [] => .code (am_name M) (am_code M) (am_maxL M) (am_ret M)
  | q :: r => .codeWith (am_name M) (am_code M) (am_maxL M) (am_ret M) (q :: r)
theorem am_cw_good (M : am_M) : goodWord (am_cw M) = true := by
  unfold am_cw
  split <;> rfl
theorem am_cw_spec {M : am_M} {s : State} {m : MethodId} {args : Array Value} (hn : s.methodNamed? (am_name M) = some m) (h : (am_cw M).before args s = true) :
    ∃ meth c, s.vm.method? m = some meth ∧ meth.code = some c ∧ c.code = am_code M ∧ c.maxLocals = am_maxL M ∧ meth.sig.returnType = am_ret M ∧ meth.locks = false ∧ c.exceptionTable.toList.map (fun x => (x.startPc, x.endPc, x.handlerPc, x.catchType)) = am_hand M ∧ parseMethodDescriptor (am_name M).desc = some meth.sig := by
  unfold am_cw at h
  split at h
  · rename_i hh
    obtain ⟨meth, c, h1, h2, h3, h4, h5, h6, h7, h8⟩ := Cond.code_spec hn h
    refine ⟨meth, c, h1, h2, h3, h4, h5, h6, ?_, h8⟩
    rw [hh]
    have : c.exceptionTable = #[] := by simpa using h7
    rw [this]
    rfl
  · rename_i q r hh
    obtain ⟨m', meth, c, h0, h1, h2, h3, h4, h5, h6, h7, h8⟩ := Cond.codeWith_spec h
    cases hn.symm.trans h0
    exact ⟨meth, c, h1, h2, h3, h4, h6, h7, by rw [hh]; exact h5, h8⟩
def am_rm (M : am_M) (σ σ' : am_S) : Room := { frames := am_fr M, cells := σ'.1 - σ.1, slots := σ'.2.1 - σ.2.1, locals := am_lc M }
/-- from these arguments and this heap the method comes to this end, with this heap -/
def am_Mt (g : am_G) (M : am_M) (as : List Value) (σ : am_S) (res : Outcome) (σ' : am_S) : Prop :=
  ∀ l : Launch, l.flags = flags0 → am_K g → MetFree l (am_name M) (headSpec [am_cw M] (am_rm M σ σ')) (fun a U => a = (as.map (am_up g)).toArray ∧ g.1.WarmedH U.vm ∧ am_R g σ U.heap) (fun _ _ _ _ _ => True)
    (fun _ s o t => o = am_upO g res ∧ am_R g σ' t.heap ∧ s.WarmedH t.vm ∧ ∃ L : List Loc, s.sameButNew ({ t with vm := s.vm } : State) L (σ'.1 - σ.1) (σ'.2.1 - σ.2.1) ∧ ∀ q ∈ L, g.1.heap.size ≤ q.base)
def am_Met (g : am_G) (M : am_M) (as : List Value) (σ : am_S) (X : Option (Outcome × am_S)) : Prop :=
  ∀ (res : Outcome) (σ' : am_S), X = some (res, σ') → σ.1 ≤ σ'.1 ∧ σ.2.1 ≤ σ'.2.1 ∧ am_Mt g M as σ res σ'
theorem am_L_entry {g : am_G} {nL : Nat} {as : List Value} (h : ∀ v ∈ as, v.category = 1) (hn : as.length ≤ nL) :
    am_L g nL (as.map some ++ List.replicate (nL - as.length) none) (((as.map (am_up g)).map Slot.val ++ List.replicate (nL - (as.map (am_up g)).length) Slot.unset).toArray) := by
  have key : ∀ (i : Nat) (z : Slot), (((as.map (am_up g)).map Slot.val ++ List.replicate (nL - (as.map (am_up g)).length) Slot.unset).toArray)[i]? = some z → z = .unset ∨ ∃ v, v ∈ as ∧ z = .val (am_up g v) := by
    intro i z hz
    have hz' : ((as.map (am_up g)).map Slot.val ++ List.replicate (nL - (as.map (am_up g)).length) Slot.unset)[i]? = some z := by simpa using hz
    have hm := List.mem_of_getElem? hz'
    rcases List.mem_append.mp hm with h1 | h1
    · obtain ⟨w, hw, rfl⟩ := List.mem_map.mp h1
      obtain ⟨v, hv, rfl⟩ := List.mem_map.mp hw
      exact Or.inr ⟨v, hv, rfl⟩
    · exact Or.inl (List.eq_of_mem_replicate h1)
  refine ⟨by simp; omega, ⟨fun i v hv hc => ?_, fun i hi => ?_⟩, fun i v hv => ?_⟩
  · rcases key i _ hv with h1 | ⟨w, hw, h1⟩
    · cases h1
    · cases h1
      rw [am_cat, h w hw] at hc
      cases hc
  · rcases key i _ hi with h1 | ⟨w, hw, h1⟩ <;> cases h1
  · have hl : i < as.length := by
      by_cases hl : i < as.length
      · exact hl
      · rw [List.getElem?_append_right (by simpa using hl)] at hv
        rw [List.getElem?_replicate] at hv
        split at hv <;> cases hv
    rw [List.getElem?_append_left (by simpa using hl), List.getElem?_map] at hv
    obtain ⟨w, hw, he⟩ := Option.map_eq_some_iff.mp hv
    cases he
    refine ⟨h v (List.mem_of_getElem? hw), ?_⟩
    have hv2 := (List.getElem?_eq_some_iff.mp hw).2
    simp [List.getElem?_append_left, hl, hv2]
theorem am_Met.of {g : am_G} {M : am_M} {σ : am_S} {β : Type} {E : Option β} {k : β → Option (Outcome × am_S)} {as : List Value} {lv : List (Option Value)} (hcat : ∀ v ∈ as, v.category = 1) (hlen : as.length ≤ am_maxL M) (hlv : as.map some ++ List.replicate (am_maxL M - as.length) none = lv) (hy : plainName (am_name M).cls = true)
    (h : am_W g M σ 0 lv [] σ E k) : am_Met g M as σ (E.bind k) := by
  intro res σ' hE
  obtain ⟨h1, h2, hj⟩ := h res σ' hE
  refine ⟨h1, h2, fun l hfl hK => ?_⟩
  refine MetFree.of_bodyS (code := am_code M) (maxLocals := am_maxL M) (ret := am_ret M) hy ?_ ?_
  · intro args s m hp hn
    obtain ⟨meth, c, q1, q2, q3, q4, q5, q6, -, -⟩ := am_cw_spec hn (atoms_spec (ws := [am_cw M]) hp _ List.mem_cons_self)
    exact ⟨meth, c, q1, q2, q3, q4, q5, q6⟩
  · intro p e s m args below meth c s₁ B hml hP _
    obtain ⟨hargs, hW, hR⟩ := hP
    have hh0 : s₁.heap = s.heap := by rw [B.state]; rfl
    obtain ⟨meth', c', q1, q2, q3, q4, q5, q6, q7, q8⟩ := am_cw_spec B.named (atoms_spec (ws := [am_cw M]) B.pre _ List.mem_cons_self)
    cases B.method.symm.trans q1
    cases (Stand.of_body B).code.symm.trans q2
    have C : am_Cx g M p l e (am_rm M σ σ') s m meth c := ⟨B.exec, B.bytes, hml, findClass_of_methodNamed B.named, B.returns, B.notSynchronized, (name_of_methodNamed B.named B.method).1, q7, Nat.le_refl _, Nat.le_refl _, ⟨hfl, hR.2.2.2⟩, hW, hK⟩
    have hL := am_L_entry (g := g) (nL := am_maxL M) hcat hlen
    rw [hlv] at hL
    have w := hj p l e (am_rm M σ σ') s m args below meth c s.heap [] _ C (Nat.le_refl _) (Nat.le_refl _) (Nat.le_refl _) (Nat.le_refl _) hR hL (fun q hq => by cases hq)
    rw [Nat.sub_self, Nat.sub_self] at w
    obtain ⟨t, a1, b1, b2, b3, b4, b5⟩ := w s₁ hh0 (Stand.of_body B)
    refine ⟨t, _, ?_, b1, b2, rfl, b3, b4, b5⟩
    rw [hargs, entry_eq m (as.map (am_up g)) (fun v hv => ?_) (am_maxL M)]
    · exact a1
    · obtain ⟨w', hw', rfl⟩ := List.mem_map.mp hv
      rw [am_cat]
      exact hcat w' hw'
section RT
variable {g : am_G} {M : am_M} {σ0 σ : am_S} {pc : Nat} {lv : List (Option Value)}
abbrev am_kI (x : Int32 × am_S) : Option (Outcome × am_S) := some (.returned (some (.int x.1)), x.2)
abbrev am_kA (x : Nat × am_S) : Option (Outcome × am_S) := some (.returned (some (.ref x.1)), x.2)
abbrev am_kV (σ : am_S) : Option (Outcome × am_S) := some (.returned none, σ)
theorem am_weak {p : Program} {l : Launch} {e : Env} {R : Room} {s : State} {m : MethodId} {args : Array Value} {below : List Frame} {meth : Method} {c : Code} {H : Heap} {locs : List Loc} {cells slots : Nat} {Q Q' : State → Prop} {gf : JFrame}
    (h : W p l e R s m args below meth c H locs cells slots Q gf) (hq : ∀ t, Q t → Q' t) : W p l e R s m args below meth c H locs cells slots Q' gf := by
  intro T hT X
  obtain ⟨t, a, b⟩ := h T hT X
  exact ⟨t, a, hq t b⟩
def am_QR (g : am_G) (σ : am_S) (res : Outcome) : Array Value → State → Outcome → State → Prop := fun _ _ o t => o = am_upO g res ∧ am_R g σ t.heap
theorem am_endR {below : List Frame} {args : Array Value} {s t : State} {res : Outcome} (h : MQ below (am_QR g σ res) args s (σ.1 - σ0.1) (σ.2.1 - σ0.2.1) (fun q => g.1.heap.size ≤ q) t) : am_End g below s σ0 σ res t := by
  obtain ⟨o, h1, h2, ⟨rfl, h3⟩, L, ⟨h4, h5, h6⟩, h7⟩ := h
  exact ⟨h1, h2, h3, h5, L, h6, h7⟩
theorem aw_iret {v : Int32} (hd : decode (am_code M) pc = .ok (.ireturn, 1) := by decide +kernel) (hr : am_ret M = some .int := by rfl) : am_W g M σ0 pc lv [.int v] σ (some (v, σ)) am_kI := by
  intro res σ' hE
  cases hE
  refine ⟨Nat.le_refl _, Nat.le_refl _, fun p l e R s m args below meth c H locs ls C hc hs h1 h2 hR hL hl => ?_⟩
  refine am_weak (W.iret (Qc := am_QR g σ (.returned (some (.int v)))) (free := fun q => g.1.heap.size ≤ q) C.1 C.2.1 (by rw [C.2.2.2.2.1]; exact hr) (fun t ht _ => ⟨rfl, by rw [ht]; exact hR⟩) hl hd C.2.2.2.2.2.1) fun t h => am_endR h
def am_z (v : Int32) (σ : am_S) : Option (Int32 × am_S) := if v = 0 ∨ v = 1 then some (v, σ) else none
theorem aw_zret {v : Int32} (hd : decode (am_code M) pc = .ok (.ireturn, 1) := by decide +kernel) (hr : am_ret M = some .boolean := by rfl) : am_W g M σ0 pc lv [.int v] σ (am_z v σ) am_kI := by
  intro res σ' hE
  unfold am_z at hE
  split at hE
  · rename_i hv
    cases hE
    refine ⟨Nat.le_refl _, Nat.le_refl _, fun p l e R s m args below meth c H locs ls C hc hs h1 h2 hR hL hl => ?_⟩
    refine am_weak (W.zret (ty := .boolean) (Qc := am_QR g σ (.returned (some (.int v)))) (free := fun q => g.1.heap.size ≤ q) C.1 C.2.1 (by rw [C.2.2.2.2.1]; exact hr) (by rcases hv with rfl | rfl <;> rfl) (fun t ht _ => ⟨rfl, by rw [ht]; exact hR⟩) hl hd C.2.2.2.2.2.1) fun t h => am_endR h
  · cases hE
theorem aw_vret (hd : decode (am_code M) pc = .ok (.return_, 1) := by decide +kernel) (hr : am_ret M = none := by rfl) : am_W g M σ0 pc lv [] σ (some σ) am_kV := by
  intro res σ' hE
  cases hE
  refine ⟨Nat.le_refl _, Nat.le_refl _, fun p l e R s m args below meth c H locs ls C hc hs h1 h2 hR hL hl => ?_⟩
  refine am_weak (W.vret (Qc := am_QR g σ (.returned none)) (free := fun q => g.1.heap.size ≤ q) C.1 C.2.1 (by rw [C.2.2.2.2.1]; exact hr) (fun t ht _ => ⟨rfl, by rw [ht]; exact hR⟩) hl hd C.2.2.2.2.2.1) fun t h => am_endR h
theorem aw_aret {v : Nat} {t : FieldType} (hd : decode (am_code M) pc = .ok (.areturn, 1) := by decide +kernel) (hr : am_ret M = some t := by rfl) (ht : am_isR t = true := by rfl) : am_W g M σ0 pc lv [.ref v] σ (some (v, σ)) am_kA := by
  intro res σ' hE
  cases hE
  refine ⟨Nat.le_refl _, Nat.le_refl _, fun p l e R s m args below meth c H locs ls C hc hs h1 h2 hR hL hl => ?_⟩
  refine am_weak (W.aret (v := .ref (am_r g v)) (rt := t) (Qc := am_QR g σ (.returned (some (.ref v)))) (free := fun q => g.1.heap.size ≤ q) C.1 C.2.1 (by rw [C.2.2.2.2.1]; exact hr) ?_ (Or.inr ⟨_, rfl⟩) (fun t ht _ => ⟨rfl, by rw [ht]; exact hR⟩) hl hd C.2.2.2.2.2.1) fun t h => am_endR h
  cases t <;> first | (cases ht; done) | exact Or.inl ⟨_, rfl⟩ | exact Or.inr ⟨_, rfl⟩
end RT
