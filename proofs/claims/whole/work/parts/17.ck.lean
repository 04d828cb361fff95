/-! ===== calls whose receiver is known to be there because the callee's function says something ===== -/
def am_ck {α : Type} (σ : am_S) (c a : Nat) (X : Option α) : Option α := if am_isx σ c a = true then X else none
theorem am_ck_some {α : Type} {σ : am_S} {c a : Nat} {X : Option α} (h : (am_ck σ c a X).isSome = true) : ∃ fs, σ.2.2 a = some (.inr (c, fs)) := by
  unfold am_ck at h
  split at h
  · rename_i h1
    exact am_isx_some h1
  · cases h
theorem am_ck_of {α : Type} {σ : am_S} {c a : Nat} {X : Option α} {fs : List Value} (h : σ.2.2 a = some (.inr (c, fs))) : am_ck σ c a X = X := by
  unfold am_ck am_isx
  rw [h]
  simp
theorem am_cc {v : Value} {l : List Value} (h : v.category = 1) (t : ∀ w ∈ l, w.category = 1) : ∀ w ∈ v :: l, w.category = 1 := List.forall_mem_cons.mpr ⟨h, t⟩
theorem am_c0 : ∀ w ∈ ([] : List Value), w.category = 1 := fun _ h => absurd h List.not_mem_nil
section CK
variable {g : am_G} {M M' : am_M} {σ0 σ : am_S} {pc : Nat} {lv : List (Option Value)} {st : List Value} {β : Type} {E : Option β} {k : β → Option (Outcome × am_S)}
theorem am_W.ck {c a : Nat} (kk : am_W g M σ0 pc lv st σ E k) : am_W g M σ0 pc lv st σ (am_ck σ c a E) k := am_W.ite (fun _ => kk) fun _ => am_W.none
def am_wt (g : am_G) (st : List Value) : Prop := ((st.map (am_up g)).map fun v => v.category).sum ≤ 8
theorem ac_PI (as : List Value) {n : Nat} {X : Option Int32} {F : Int32 → Option β} (hgo : X.isSome = true → am_go g M M' σ pc as st) (hcal : am_cal M' n) (hfit : am_fit M M') (hr : am_wt g st) (hM : am_Met g M' as σ (X.bind (am_kPI σ)))
    (kk : ∀ v, am_W g M σ0 (pc + 3) lv (.int v :: st) σ (F v) k) : am_W g M σ0 pc lv (as.reverse ++ st) σ (X.bind F) k := by
  cases X with
  | none => exact am_W.none
  | some x => exact aw_callPI (hgo rfl) hcal hfit hr hM kk
theorem ac_PA (as : List Value) {n : Nat} {X : Option Nat} {F : Nat → Option β} (hgo : X.isSome = true → am_go g M M' σ pc as st) (hcal : am_cal M' n) (hfit : am_fit M M') (hr : am_wt g st) (hM : am_Met g M' as σ (X.bind (am_kPA σ)))
    (kk : ∀ v, am_W g M σ0 (pc + 3) lv (.ref v :: st) σ (F v) k) : am_W g M σ0 pc lv (as.reverse ++ st) σ (X.bind F) k := by
  cases X with
  | none => exact am_W.none
  | some x => exact aw_callPA (hgo rfl) hcal hfit hr hM kk
theorem ac_I (as : List Value) {n : Nat} {X : Option (Int32 × am_S)} {F : Int32 → am_S → Option β} (hgo : X.isSome = true → am_go g M M' σ pc as st) (hcal : am_cal M' n) (hfit : am_fit M M') (hr : am_wt g st) (hM : am_Met g M' as σ (X.bind am_kI))
    (kk : ∀ v σ1, am_W g M σ0 (pc + 3) lv (.int v :: st) σ1 (F v σ1) k) : am_W g M σ0 pc lv (as.reverse ++ st) σ (am_b2 X F) k := by
  cases X with
  | none => exact am_W.none
  | some x => exact aw_call2I (hgo rfl) hcal hfit hr hM kk
theorem ac_A (as : List Value) {n : Nat} {X : Option (Nat × am_S)} {F : Nat → am_S → Option β} (hgo : X.isSome = true → am_go g M M' σ pc as st) (hcal : am_cal M' n) (hfit : am_fit M M') (hr : am_wt g st) (hM : am_Met g M' as σ (X.bind am_kA))
    (kk : ∀ v σ1, am_W g M σ0 (pc + 3) lv (.ref v :: st) σ1 (F v σ1) k) : am_W g M σ0 pc lv (as.reverse ++ st) σ (am_b2 X F) k := by
  cases X with
  | none => exact am_W.none
  | some x => exact aw_call2A (hgo rfl) hcal hfit hr hM kk
theorem ac_V (as : List Value) {n : Nat} {X : Option am_S} {F : am_S → Option β} (hgo : X.isSome = true → am_go g M M' σ pc as st) (hcal : am_cal M' n) (hfit : am_fit M M') (hr : am_wt g st) (hM : am_Met g M' as σ (X.bind am_kV))
    (kk : ∀ σ1, am_W g M σ0 (pc + 3) lv st σ1 (F σ1) k) : am_W g M σ0 pc lv (as.reverse ++ st) σ (X.bind F) k := by
  cases X with
  | none => exact am_W.none
  | some x => exact aw_callV (hgo rfl) hcal hfit hr hM kk
theorem ac_TI (as : List Value) {n : Nat} {X : Option ((Nat ⊕ Int32) × am_S)} {T : Nat → am_S → Option β} {F : Int32 → am_S → Option β} (hgo : X.isSome = true → am_go g M M' σ pc as st) (hcal : am_cal M' n) (hfit : am_fit M M') (hr : am_wt g st) (hM : am_Met g M' as σ (X.bind am_kTI))
    (kt : ∀ a σ1, am_T g M σ0 pc lv st σ1 a (T a σ1) k) (kk : ∀ v σ1, am_W g M σ0 (pc + 3) lv (.int v :: st) σ1 (F v σ1) k) : am_W g M σ0 pc lv (as.reverse ++ st) σ (am_bt X T F) k := by
  cases X with
  | none => exact am_W.none
  | some x => exact aw_calltI (hgo rfl) hcal hfit hr hM kt kk
theorem ac_TV (as : List Value) {n : Nat} {X : Option ((Nat ⊕ Unit) × am_S)} {T : Nat → am_S → Option β} {F : Unit → am_S → Option β} (hgo : X.isSome = true → am_go g M M' σ pc as st) (hcal : am_cal M' n) (hfit : am_fit M M') (hr : am_wt g st) (hM : am_Met g M' as σ (X.bind am_kTV))
    (kt : ∀ a σ1, am_T g M σ0 pc lv st σ1 a (T a σ1) k) (kk : ∀ σ1, am_W g M σ0 (pc + 3) lv st σ1 (F () σ1) k) : am_W g M σ0 pc lv (as.reverse ++ st) σ (am_bt X T F) k := by
  cases X with
  | none => exact am_W.none
  | some x => exact aw_calltV (hgo rfl) hcal hfit hr hM kt kk
/-- a virtual call's way, its receiver's presence out of the callee's function -/
theorem ag_V (idx c0 : Nat) {a : Nat} {As : List Value} {α : Type} {X : Option α} (hr : X.isSome = true → ∃ fs, σ.2.2 a = some (.inr (c0, fs))) (hw : Cond.methodLink (am_name M).cls idx (am_name M') ∈ lw_tbl) (hc : am_cal M' As.length) (hi : Cond.instanceMethod (am_name M') ∈ lw_tbl) (hs : Cond.selects (am_cn c0) (am_name M') (am_name M') ∈ lw_tbl)
    (hd : decode (am_code M) pc = .ok (.invokevirtual idx, 3) := by decide +kernel) (hc0 : c0 < am_NC := by decide) : X.isSome = true → am_go g M M' σ pc (.ref a :: As) st := fun h => by
  obtain ⟨fs, ha⟩ := hr h
  exact am_goV idx c0 hd hw hc hi hs hc0 ha
theorem ag_S (idx : Nat) {As : List Value} {α : Type} {X : Option α} (hw : Cond.methodLink (am_name M).cls idx (am_name M') ∈ lw_tbl) (hc : am_cal M' As.length) (hst : Cond.static (am_name M') ∈ lw_tbl) (hd : decode (am_code M) pc = .ok (.invokestatic idx, 3) := by decide +kernel) : X.isSome = true → am_go g M M' σ pc As st := fun _ => am_goS idx hd hw hc hst
theorem ag_I (idx : Nat) {a : Nat} {As : List Value} {α : Type} {X : Option α} (hw : Cond.methodLink (am_name M).cls idx (am_name M') ∈ lw_tbl) (hc : am_cal M' As.length) (hi : Cond.instanceMethod (am_name M') ∈ lw_tbl) (hd : decode (am_code M) pc = .ok (.invokespecial idx, 3) := by decide +kernel) (hy1 : (am_name M').name = "<init>" := by rfl) (hh : am_hand M' = [] := by rfl) (hret : am_ret M' = none := by rfl) : X.isSome = true → am_go g M M' σ pc (.ref a :: As) st := fun _ => am_goI idx hd hw hc hi hy1 hh hret
theorem ag_IN (idx : Nat) (host : String) {a : Nat} {As : List Value} {α : Type} {X : Option α} (hw : Cond.methodLinkNest (am_name M).cls idx (am_name M') host ∈ lw_tbl) (hc : am_cal M' As.length) (hi : Cond.instanceMethod (am_name M') ∈ lw_tbl) (hd : decode (am_code M) pc = .ok (.invokespecial idx, 3) := by decide +kernel) (hy1 : (am_name M').name = "<init>" := by rfl) (hh : am_hand M' = [] := by rfl) (hret : am_ret M' = none := by rfl) : X.isSome = true → am_go g M M' σ pc (.ref a :: As) st := fun _ => am_goIN idx host hd hw hc hi hy1 hh hret
end CK
