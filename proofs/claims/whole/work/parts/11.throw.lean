/-! ===== calls that return, calls that throw ===== -/
/-- the exception at a is on its way, over the frame at pc -/
def am_JT (g : am_G) (M : am_M) (σ0 σ' : am_S) (res : Outcome) (pc : Nat) (lv : List (Option Value)) (st : List Value) (σ : am_S) (a : Nat) : Prop :=
  ∀ (p : Program) (l : Launch) (e : Env) (R : Room) (s : State) (m : MethodId) (args : Array Value) (below : List Frame) (meth : Method) (c : Code) (H : Heap) (locs : List Loc) (ls : Array Slot),
    am_Cx g M p l e R s m meth c → σ'.1 - σ0.1 ≤ R.cells → σ'.2.1 - σ0.2.1 ≤ R.slots → σ0.1 ≤ σ.1 → σ0.2.1 ≤ σ.2.1 → am_R g σ H → am_L g (am_maxL M) lv ls → (∀ q ∈ locs, g.1.heap.size ≤ q.base) →
    ∀ T : State, T.heap = H → Stand p l e R s m args below meth c T locs (σ.1 - σ0.1) (σ.2.1 - σ0.2.1) → ∃ t, Steps p.tables e below ((T.setTop (F0 m pc ls (st.map (am_up g)))).pushFrame (.throwing (am_r g a))) t ∧ am_End g below s σ0 σ' res t
def am_T (g : am_G) (M : am_M) (σ0 : am_S) (pc : Nat) (lv : List (Option Value)) (st : List Value) (σ : am_S) (a : Nat) {β : Type} (E : Option β) (k : β → Option (Outcome × am_S)) : Prop :=
  ∀ (res : Outcome) (σ' : am_S), E.bind k = some (res, σ') → σ.1 ≤ σ'.1 ∧ σ.2.1 ≤ σ'.2.1 ∧ am_JT g M σ0 σ' res pc lv st σ a
section CL
variable {g : am_G} {M M' : am_M} {σ0 σ σ1 : am_S} {pc : Nat} {lv : List (Option Value)} {as st : List Value} {β : Type} {E : Option β} {k : β → Option (Outcome × am_S)}
/-- room for the callee's frames -/
def am_fit (M M' : am_M) : Prop := am_fr M' + 1 ≤ am_fr M ∧ 8 + (am_maxL M' + 11) + am_lc M' ≤ am_lc M
theorem am_W.ret1 {n : Nat} {v : Option Value} (hgo : am_go g M M' σ pc as st) (hcal : am_cal M' n) (hfit : am_fit M M') (hr : ((st.map (am_up g)).map fun v => v.category).sum ≤ 8) (hm1 : σ.1 ≤ σ1.1) (hm2 : σ.2.1 ≤ σ1.2.1) (hmt : am_Mt g M' as σ (.returned v) σ1)
    (kk : am_W g M σ0 (pc + 3) lv (v.toList ++ st) σ1 E k) : am_W g M σ0 pc lv (as.reverse ++ st) σ E k := by
  intro res σ' hE
  obtain ⟨a1, b1, j⟩ := kk res σ' hE
  refine ⟨by omega, by omega, fun p l e R s m args below meth c H locs ls C hc hs h1 h2 hR hL hl => ?_⟩
  intro T hT X
  have hR' : am_R g σ T.heap := by rw [hT]; exact hR
  obtain ⟨vm₁, mk, ig, hW₁, X₁, hn, hdg, hstep⟩ := hgo (ls := ls) C X hR'
  have C' := C
  obtain ⟨c1, c2, c3, c4, c5, c6, c7, c8, c9, c10, c11, hW, hK⟩ := C
  have hWT : g.1.WarmedH (T.setVm vm₁).vm := State.WarmedH.trans hW hW₁
  obtain ⟨f1, f2⟩ := hfit
  obtain ⟨T', L, X', hR1, hL1, hbk⟩ := am_back X₁ c11.1 hK hWT hmt hR' (fun a' => am_word hK hWT hcal.1 (am_cw_good M')) (fun a' => am_word hK hWT hcal.2.1 rfl) hn (gf := F0 m pc ls (st.map (am_up g))) rfl (by rw [c3]; exact hL.size) hdg
    (by show 2 * 0 + ((st.map (am_up g)).map fun v => v.category).sum ≤ 8; omega) (by omega) (by omega) (by omega) (by omega)
  have w := j p l e R s m args below meth c T'.heap (locs ++ L) ls C' hc hs (by omega) (by omega) hR1 hL (fun q hq => (List.mem_append.mp hq).elim (hl q) (hL1 q))
  obtain ⟨t, t1, t2⟩ := W.cs (cells := σ.1 - σ0.1 + (σ1.1 - σ.1)) (slots := σ.2.1 - σ0.2.1 + (σ1.2.1 - σ.2.1)) (by omega) (by omega) w T' rfl X'
  refine ⟨t, hstep t (Steps.trans hbk ?_), t2⟩
  cases v <;> exact t1
theorem am_W.thr1 {n x : Nat} (hgo : am_go g M M' σ pc as st) (hcal : am_cal M' n) (hfit : am_fit M M') (hr : ((st.map (am_up g)).map fun v => v.category).sum ≤ 8) (hm1 : σ.1 ≤ σ1.1) (hm2 : σ.2.1 ≤ σ1.2.1) (hmt : am_Mt g M' as σ (.threw x) σ1)
    (kk : am_T g M σ0 pc lv st σ1 x E k) : am_W g M σ0 pc lv (as.reverse ++ st) σ E k := by
  intro res σ' hE
  obtain ⟨a1, b1, j⟩ := kk res σ' hE
  refine ⟨by omega, by omega, fun p l e R s m args below meth c H locs ls C hc hs h1 h2 hR hL hl => ?_⟩
  intro T hT X
  have hR' : am_R g σ T.heap := by rw [hT]; exact hR
  obtain ⟨vm₁, mk, ig, hW₁, X₁, hn, hdg, hstep⟩ := hgo (ls := ls) C X hR'
  have C' := C
  obtain ⟨c1, c2, c3, c4, c5, c6, c7, c8, c9, c10, c11, hW, hK⟩ := C
  have hWT : g.1.WarmedH (T.setVm vm₁).vm := State.WarmedH.trans hW hW₁
  obtain ⟨f1, f2⟩ := hfit
  obtain ⟨T', L, X', hR1, hL1, hbk⟩ := am_back X₁ c11.1 hK hWT hmt hR' (fun a' => am_word hK hWT hcal.1 (am_cw_good M')) (fun a' => am_word hK hWT hcal.2.1 rfl) hn (gf := F0 m pc ls (st.map (am_up g))) rfl (by rw [c3]; exact hL.size) hdg
    (by show 2 * 0 + ((st.map (am_up g)).map fun v => v.category).sum ≤ 8; omega) (by omega) (by omega) (by omega) (by omega)
  have X2 : Stand p l e R s m args below meth c T' (locs ++ L) (σ1.1 - σ0.1) (σ1.2.1 - σ0.2.1) := by
    have e1 : σ.1 - σ0.1 + (σ1.1 - σ.1) = σ1.1 - σ0.1 := by omega
    have e2 : σ.2.1 - σ0.2.1 + (σ1.2.1 - σ.2.1) = σ1.2.1 - σ0.2.1 := by omega
    rw [e1, e2] at X'
    exact X'
  obtain ⟨t, t1, t2⟩ := j p l e R s m args below meth c T'.heap (locs ++ L) ls C' hc hs (by omega) (by omega) hR1 hL (fun q hq => (List.mem_append.mp hq).elim (hl q) (hL1 q)) T' rfl X2
  exact ⟨t, hstep t (Steps.trans hbk t1), t2⟩
/-! rows: what is called answers an int, a reference, nothing; or it may throw -/
theorem aw_callI {n : Nat} {X : Option (Int32 × am_S)} {F : Int32 × am_S → Option β} (hgo : am_go g M M' σ pc as st) (hcal : am_cal M' n) (hfit : am_fit M M') (hr : ((st.map (am_up g)).map fun v => v.category).sum ≤ 8) (hM : am_Met g M' as σ (X.bind am_kI))
    (kk : ∀ v σ1, am_W g M σ0 (pc + 3) lv (.int v :: st) σ1 (F (v, σ1)) k) : am_W g M σ0 pc lv (as.reverse ++ st) σ (X.bind F) k :=
  am_W.bindI fun x h => by
    obtain ⟨v, σ1⟩ := x
    obtain ⟨m1, m2, mt⟩ := hM (.returned (some (.int v))) σ1 (by rw [h]; rfl)
    exact am_W.ret1 hgo hcal hfit hr m1 m2 mt (kk v σ1)
theorem aw_callA {n : Nat} {X : Option (Nat × am_S)} {F : Nat × am_S → Option β} (hgo : am_go g M M' σ pc as st) (hcal : am_cal M' n) (hfit : am_fit M M') (hr : ((st.map (am_up g)).map fun v => v.category).sum ≤ 8) (hM : am_Met g M' as σ (X.bind am_kA))
    (kk : ∀ v σ1, am_W g M σ0 (pc + 3) lv (.ref v :: st) σ1 (F (v, σ1)) k) : am_W g M σ0 pc lv (as.reverse ++ st) σ (X.bind F) k :=
  am_W.bindI fun x h => by
    obtain ⟨v, σ1⟩ := x
    obtain ⟨m1, m2, mt⟩ := hM (.returned (some (.ref v))) σ1 (by rw [h]; rfl)
    exact am_W.ret1 hgo hcal hfit hr m1 m2 mt (kk v σ1)
theorem aw_callV {n : Nat} {X : Option am_S} {F : am_S → Option β} (hgo : am_go g M M' σ pc as st) (hcal : am_cal M' n) (hfit : am_fit M M') (hr : ((st.map (am_up g)).map fun v => v.category).sum ≤ 8) (hM : am_Met g M' as σ (X.bind am_kV))
    (kk : ∀ σ1, am_W g M σ0 (pc + 3) lv st σ1 (F σ1) k) : am_W g M σ0 pc lv (as.reverse ++ st) σ (X.bind F) k :=
  am_W.bindI fun σ1 h => by
    obtain ⟨m1, m2, mt⟩ := hM (.returned none) σ1 (by rw [h]; rfl)
    exact am_W.ret1 hgo hcal hfit hr m1 m2 mt (kk σ1)
/-- thrown: .inl; an int: .inr -/
abbrev am_kTI (x : (Nat ⊕ Int32) × am_S) : Option (Outcome × am_S) := match x.1 with
  | .inl a => some (.threw a, x.2)
  | .inr v => some (.returned (some (.int v)), x.2)
abbrev am_kTV (x : (Nat ⊕ Unit) × am_S) : Option (Outcome × am_S) := match x.1 with
  | .inl a => some (.threw a, x.2)
  | .inr _ => some (.returned none, x.2)
theorem aw_callTI {n : Nat} {X : Option ((Nat ⊕ Int32) × am_S)} {F : (Nat ⊕ Int32) × am_S → Option β} (hgo : am_go g M M' σ pc as st) (hcal : am_cal M' n) (hfit : am_fit M M') (hr : ((st.map (am_up g)).map fun v => v.category).sum ≤ 8) (hM : am_Met g M' as σ (X.bind am_kTI))
    (kk : ∀ v σ1, am_W g M σ0 (pc + 3) lv (.int v :: st) σ1 (F (.inr v, σ1)) k) (kt : ∀ a σ1, am_T g M σ0 pc lv st σ1 a (F (.inl a, σ1)) k) : am_W g M σ0 pc lv (as.reverse ++ st) σ (X.bind F) k :=
  am_W.bindI fun x h => by
    obtain ⟨v, σ1⟩ := x
    cases v with
    | inl a =>
      obtain ⟨m1, m2, mt⟩ := hM (.threw a) σ1 (by rw [h]; rfl)
      exact am_W.thr1 hgo hcal hfit hr m1 m2 mt (kt a σ1)
    | inr v =>
      obtain ⟨m1, m2, mt⟩ := hM (.returned (some (.int v))) σ1 (by rw [h]; rfl)
      exact am_W.ret1 hgo hcal hfit hr m1 m2 mt (kk v σ1)
theorem aw_callTV {n : Nat} {X : Option ((Nat ⊕ Unit) × am_S)} {F : (Nat ⊕ Unit) × am_S → Option β} (hgo : am_go g M M' σ pc as st) (hcal : am_cal M' n) (hfit : am_fit M M') (hr : ((st.map (am_up g)).map fun v => v.category).sum ≤ 8) (hM : am_Met g M' as σ (X.bind am_kTV))
    (kk : ∀ σ1, am_W g M σ0 (pc + 3) lv st σ1 (F (.inr (), σ1)) k) (kt : ∀ a σ1, am_T g M σ0 pc lv st σ1 a (F (.inl a, σ1)) k) : am_W g M σ0 pc lv (as.reverse ++ st) σ (X.bind F) k :=
  am_W.bindI fun x h => by
    obtain ⟨v, σ1⟩ := x
    cases v with
    | inl a =>
      obtain ⟨m1, m2, mt⟩ := hM (.threw a) σ1 (by rw [h]; rfl)
      exact am_W.thr1 hgo hcal hfit hr m1 m2 mt (kt a σ1)
    | inr v =>
      obtain ⟨m1, m2, mt⟩ := hM (.returned none) σ1 (by rw [h]; rfl)
      exact am_W.ret1 hgo hcal hfit hr m1 m2 mt (kk σ1)
/-! throwing -/
theorem aw_throw {a : Nat} (hd : decode (am_code M) pc = .ok (.athrow, 1) := by decide +kernel) (kk : am_T g M σ0 pc lv st σ a E k) : am_W g M σ0 pc lv (.ref a :: st) σ E k := by
  intro res σ' hE
  obtain ⟨a1, b1, j⟩ := kk res σ' hE
  refine ⟨a1, b1, fun p l e R s m args below meth c H locs ls C hc hs h1 h2 hR hL hl => ?_⟩
  intro T hT X
  obtain ⟨t, t1, t2⟩ := j p l e R s m args below meth c H locs ls C hc hs h1 h2 hR hL hl T hT X
  refine ⟨t, ?_, t2⟩
  have hd' : decode c.code pc = .ok (.athrow, 1) := by rw [C.2.1]; exact hd
  have hexec := C.1
  jvm_step X.here [hexec, hd', athrow.wp_sem, am_up]
  exact t1
/-- no handler covers pc: the method ends with the exception -/
def am_bare (M : am_M) (pc : Nat) : Bool := (am_hand M).all fun q => !(decide (q.1 ≤ pc) && decide (pc < q.2.1))
theorem at_out {a : Nat} {x : β} (hx : k x = some (.threw a, σ)) (hb : am_bare M pc = true := by decide) : am_T g M σ0 pc lv st σ a (some x) k := by
  intro res σ' hE
  have hE' : k x = some (res, σ') := hE
  rw [hx] at hE'
  cases hE'
  refine ⟨Nat.le_refl _, Nat.le_refl _, fun p l e R s m args below meth c H locs ls C hc hs h1 h2 hR hL hl T hT X => ?_⟩
  obtain ⟨r1, r2, r3, r4, r5⟩ := X.leaveThrown (am_r g a) (g := F0 m pc ls (st.map (am_up g))) rfl rfl rfl (fun y hy => by
    have h8 := C.2.2.2.2.2.2.2.1
    have hm : (y.startPc, y.endPc, y.handlerPc, y.catchType) ∈ am_hand M := by rw [← h8]; exact List.mem_map.mpr ⟨y, hy, rfl⟩
    have := List.all_eq_true.mp hb _ hm
    simp only [covers] at *
    simp at this ⊢
    omega) C.2.2.2.2.2.1
  exact ⟨_, r1, r2, r3, by show am_R g σ T.heap; rw [hT]; exact hR, r4, locs, r5, hl⟩
end CL
