/-! ===== more rows: fewer locals, pairs, methods that change nothing, switches, catches ===== -/
def am_mask (ms : List Bool) (lv : List (Option Value)) : List (Option Value) := List.zipWith (fun b x => if b then x else none) ms lv
def am_b2 {α β : Type} (X : Option (α × am_S)) (F : α → am_S → Option β) : Option β := X.bind fun x => F x.1 x.2
def am_btf {α β : Type} (T : Nat → am_S → Option β) (F : α → am_S → Option β) (x : (Nat ⊕ α) × am_S) : Option β := match x.1 with
  | .inl a => T a x.2
  | .inr v => F v x.2
def am_bt {α β : Type} (X : Option ((Nat ⊕ α) × am_S)) (T : Nat → am_S → Option β) (F : α → am_S → Option β) : Option β := X.bind (am_btf T F)
abbrev am_kPI (σ : am_S) (v : Int32) : Option (Outcome × am_S) := some (.returned (some (.int v)), σ)
abbrev am_kPA (σ : am_S) (v : Nat) : Option (Outcome × am_S) := some (.returned (some (.ref v)), σ)
def am_isx (σ : am_S) (c a : Nat) : Bool := match σ.2.2 a with
  | some (.inr y) => y.1 == c
  | _ => false
theorem am_isx_some {σ : am_S} {c a : Nat} (h : am_isx σ c a = true) : ∃ fs, σ.2.2 a = some (.inr (c, fs)) := by
  unfold am_isx at h
  split at h
  · rename_i y hy
    obtain ⟨c', fs⟩ := y
    have : c' = c := by simpa using h
    subst this
    exact ⟨fs, hy⟩
  · cases h
section MR
variable {g : am_G} {M M' : am_M} {σ0 σ : am_S} {pc : Nat} {lv : List (Option Value)} {as st : List Value} {β : Type} {E E1 E2 : Option β} {k : β → Option (Outcome × am_S)}
theorem am_W.drop (ms : List Bool) (kk : am_W g M σ0 pc (am_mask ms lv) st σ E k) : am_W g M σ0 pc lv st σ E k := by
  intro res σ' hE
  obtain ⟨a, b, j⟩ := kk res σ' hE
  refine ⟨a, b, fun p l e R s m args below meth c H locs ls C hc hs h1 h2 hR hL hl => j p l e R s m args below meth c H locs ls C hc hs h1 h2 hR ⟨hL.1, hL.2.1, fun i v hv => hL.2.2 i v ?_⟩ hl⟩
  unfold am_mask at hv
  rw [List.getElem?_zipWith] at hv
  split at hv
  · rename_i x y h3 h4
    cases x
    · cases hv
    · simp at hv
      rw [h4, hv]
  · cases hv
/-! a method that changes nothing -/
theorem aw_iretP {v : Int32} (hd : decode (am_code M) pc = .ok (.ireturn, 1) := by decide +kernel) (hr : am_ret M = some .int := by rfl) : am_W g M σ0 pc lv [.int v] σ (some v) (am_kPI σ) := by
  intro res σ' hE
  exact aw_iret hd hr res σ' hE
theorem aw_zretP {v : Int32} (hd : decode (am_code M) pc = .ok (.ireturn, 1) := by decide +kernel) (hr : am_ret M = some .boolean := by rfl) : am_W g M σ0 pc lv [.int v] σ (if v = 0 ∨ v = 1 then some v else none) (am_kPI σ) := by
  intro res σ' hE
  refine aw_zret hd hr res σ' ?_
  rw [← hE]
  unfold am_z
  split <;> rfl
theorem aw_zretL {v : Int32} (hv : v = 0 ∨ v = 1) (hd : decode (am_code M) pc = .ok (.ireturn, 1) := by decide +kernel) (hr : am_ret M = some .boolean := by rfl) : am_W g M σ0 pc lv [.int v] σ (some (v, σ)) am_kI := by
  have h := aw_zret (g := g) (σ0 := σ0) (lv := lv) (σ := σ) (v := v) hd hr
  unfold am_z at h
  rw [if_pos hv] at h
  exact h
theorem aw_zretPL {v : Int32} (hv : v = 0 ∨ v = 1) (hd : decode (am_code M) pc = .ok (.ireturn, 1) := by decide +kernel) (hr : am_ret M = some .boolean := by rfl) : am_W g M σ0 pc lv [.int v] σ (some v) (am_kPI σ) := by
  have h := aw_zretP (g := g) (σ0 := σ0) (lv := lv) (σ := σ) (v := v) hd hr
  rw [if_pos hv] at h
  exact h
theorem aw_nretP {v : Int32} {t : FieldType} (hd : decode (am_code M) pc = .ok (.ireturn, 1) := by decide +kernel) (hr : am_ret M = some t := by rfl) : am_W g M σ0 pc lv [.int v] σ (if narrow t (.int v) = .int v then some v else none) (am_kPI σ) := by
  intro res σ' hE
  refine aw_nret hd hr res σ' ?_
  rw [← hE]
  unfold am_rn
  split <;> rfl
theorem aw_aretP {v : Nat} {t : FieldType} (hd : decode (am_code M) pc = .ok (.areturn, 1) := by decide +kernel) (hr : am_ret M = some t := by rfl) (ht : am_isR t = true := by rfl) : am_W g M σ0 pc lv [.ref v] σ (some v) (am_kPA σ) := by
  intro res σ' hE
  exact aw_aret hd hr ht res σ' hE
theorem aw_callPI {n : Nat} {X : Option Int32} {F : Int32 → Option β} (hgo : am_go g M M' σ pc as st) (hcal : am_cal M' n) (hfit : am_fit M M') (hr : ((st.map (am_up g)).map fun v => v.category).sum ≤ 8) (hM : am_Met g M' as σ (X.bind (am_kPI σ)))
    (kk : ∀ v, am_W g M σ0 (pc + 3) lv (.int v :: st) σ (F v) k) : am_W g M σ0 pc lv (as.reverse ++ st) σ (X.bind F) k :=
  am_W.bindI fun v h => by
    obtain ⟨m1, m2, mt⟩ := hM (.returned (some (.int v))) σ (by rw [h]; rfl)
    exact am_W.ret1 hgo hcal hfit hr m1 m2 mt (kk v)
theorem aw_callPA {n : Nat} {X : Option Nat} {F : Nat → Option β} (hgo : am_go g M M' σ pc as st) (hcal : am_cal M' n) (hfit : am_fit M M') (hr : ((st.map (am_up g)).map fun v => v.category).sum ≤ 8) (hM : am_Met g M' as σ (X.bind (am_kPA σ)))
    (kk : ∀ v, am_W g M σ0 (pc + 3) lv (.ref v :: st) σ (F v) k) : am_W g M σ0 pc lv (as.reverse ++ st) σ (X.bind F) k :=
  am_W.bindI fun v h => by
    obtain ⟨m1, m2, mt⟩ := hM (.returned (some (.ref v))) σ (by rw [h]; rfl)
    exact am_W.ret1 hgo hcal hfit hr m1 m2 mt (kk v)
theorem aw_call2I {n : Nat} {X : Option (Int32 × am_S)} {F : Int32 → am_S → Option β} (hgo : am_go g M M' σ pc as st) (hcal : am_cal M' n) (hfit : am_fit M M') (hr : ((st.map (am_up g)).map fun v => v.category).sum ≤ 8) (hM : am_Met g M' as σ (X.bind am_kI))
    (kk : ∀ v σ1, am_W g M σ0 (pc + 3) lv (.int v :: st) σ1 (F v σ1) k) : am_W g M σ0 pc lv (as.reverse ++ st) σ (am_b2 X F) k :=
  aw_callI (F := fun x => F x.1 x.2) hgo hcal hfit hr hM kk
theorem aw_call2A {n : Nat} {X : Option (Nat × am_S)} {F : Nat → am_S → Option β} (hgo : am_go g M M' σ pc as st) (hcal : am_cal M' n) (hfit : am_fit M M') (hr : ((st.map (am_up g)).map fun v => v.category).sum ≤ 8) (hM : am_Met g M' as σ (X.bind am_kA))
    (kk : ∀ v σ1, am_W g M σ0 (pc + 3) lv (.ref v :: st) σ1 (F v σ1) k) : am_W g M σ0 pc lv (as.reverse ++ st) σ (am_b2 X F) k :=
  aw_callA (F := fun x => F x.1 x.2) hgo hcal hfit hr hM kk
theorem aw_calltI {n : Nat} {X : Option ((Nat ⊕ Int32) × am_S)} {T : Nat → am_S → Option β} {F : Int32 → am_S → Option β} (hgo : am_go g M M' σ pc as st) (hcal : am_cal M' n) (hfit : am_fit M M') (hr : ((st.map (am_up g)).map fun v => v.category).sum ≤ 8) (hM : am_Met g M' as σ (X.bind am_kTI))
    (kt : ∀ a σ1, am_T g M σ0 pc lv st σ1 a (T a σ1) k) (kk : ∀ v σ1, am_W g M σ0 (pc + 3) lv (.int v :: st) σ1 (F v σ1) k) : am_W g M σ0 pc lv (as.reverse ++ st) σ (am_bt X T F) k :=
  aw_callTI (F := am_btf T F) hgo hcal hfit hr hM kk kt
theorem aw_calltV {n : Nat} {X : Option ((Nat ⊕ Unit) × am_S)} {T : Nat → am_S → Option β} {F : Unit → am_S → Option β} (hgo : am_go g M M' σ pc as st) (hcal : am_cal M' n) (hfit : am_fit M M') (hr : ((st.map (am_up g)).map fun v => v.category).sum ≤ 8) (hM : am_Met g M' as σ (X.bind am_kTV))
    (kt : ∀ a σ1, am_T g M σ0 pc lv st σ1 a (T a σ1) k) (kk : ∀ σ1, am_W g M σ0 (pc + 3) lv st σ1 (F () σ1) k) : am_W g M σ0 pc lv (as.reverse ++ st) σ (am_bt X T F) k :=
  aw_callTV (F := am_btf T F) hgo hcal hfit hr hM kk kt
/-! arrays made -/
theorem aw_na2 (t : ArrayType) {ty : FieldType} {n : Int32} {F : Nat → am_S → Option β} (hd : decode (am_code M) pc = .ok (.newarray t, 2) := by decide +kernel) (hty : newarray.typeOf t = ty := by rfl) (hw : Cond.arrayClass ty ∈ lw_tbl)
    (kk : ∀ a σ1, am_W g M σ0 (pc + 2) lv (.ref a :: st) σ1 (F a σ1) k) : am_W g M σ0 pc lv (.int n :: st) σ (am_b2 (am_na σ ty n) F) k :=
  aw_na t (F := fun x => F x.1 x.2) hd hty hw kk
theorem aw_nA2 (c idx : Nat) {n : Int32} {F : Nat → am_S → Option β} (hd : decode (am_code M) pc = .ok (.anewarray idx, 3) := by decide +kernel) (hw : Cond.classLink (am_name M).cls idx (am_cn c) ∈ lw_tbl) (hw2 : Cond.arrayOver (.object (am_cn c)) ∈ lw_tbl)
    (kk : ∀ a σ1, am_W g M σ0 (pc + 3) lv (.ref a :: st) σ1 (F a σ1) k) : am_W g M σ0 pc lv (.int n :: st) σ (am_b2 (am_nA σ c n) F) k :=
  aw_nA c idx (F := fun x => F x.1 x.2) hd hw hw2 kk
/-! a method that may throw: its returns -/
theorem aw_iretT {v : Int32} (hd : decode (am_code M) pc = .ok (.ireturn, 1) := by decide +kernel) (hr : am_ret M = some .int := by rfl) : am_W g M σ0 pc lv [.int v] σ (some (.inr v, σ)) am_kTI := by
  intro res σ' hE
  exact aw_iret hd hr res σ' hE
theorem aw_vretT (hd : decode (am_code M) pc = .ok (.return_, 1) := by decide +kernel) (hr : am_ret M = none := by rfl) : am_W g M σ0 pc lv [] σ (some (.inr (), σ)) am_kTV := by
  intro res σ' hE
  exact aw_vret hd hr res σ' hE
theorem at_outI {a : Nat} (hb : am_bare M pc = true := by decide) : am_T g M σ0 pc lv st σ a (some ((.inl a : Nat ⊕ Int32), σ)) am_kTI := at_out rfl hb
theorem at_outV {a : Nat} (hb : am_bare M pc = true := by decide) : am_T g M σ0 pc lv st σ a (some ((.inl a : Nat ⊕ Unit), σ)) am_kTV := at_out rfl hb
/-! catches -/
theorem am_T.none {a : Nat} : am_T g M σ0 pc lv st σ a (none : Option β) k := by
  intro res σ' hE
  cases hE
theorem at_c1 (c0 : Nat) {a : Nat} {q : Nat × Nat × Nat × Nat} (hh : am_hand M = [q] := by rfl) (h1 : q.1 ≤ pc := by decide) (h2 : pc < q.2.1 := by decide) (h0 : q.2.2.2 ≠ 0 := by decide) (hc : c0 < am_NC := by decide) (hw : Cond.classLink (am_name M).cls q.2.2.2 (am_cn c0) ∈ lw_tbl)
    (kk : am_W g M σ0 q.2.2.1 lv [.ref a] σ E k) : am_T g M σ0 pc lv st σ a (if am_isx σ c0 a = true then E else none) k := by
  by_cases hx : am_isx σ c0 a = true
  · rw [if_pos hx]
    obtain ⟨fs, ha⟩ := am_isx_some hx
    exact at_catch1 c0 hh h1 h2 h0 hc hw ha kk
  · rw [if_neg hx]
    exact am_T.none
theorem at_c2 (c0 c1 : Nat) {a : Nat} {q q' : Nat × Nat × Nat × Nat} (hh : am_hand M = [q, q'] := by rfl) (h1 : q.1 ≤ pc := by decide) (h2 : pc < q.2.1 := by decide) (h0 : q.2.2.2 ≠ 0 := by decide) (h1' : q'.1 ≤ pc := by decide) (h2' : pc < q'.2.1 := by decide) (h0' : q'.2.2.2 ≠ 0 := by decide) (hc0 : c0 < am_NC := by decide) (hc1 : c1 < am_NC := by decide)
    (hw : Cond.classLink (am_name M).cls q.2.2.2 (am_cn c0) ∈ lw_tbl) (hw' : Cond.classLink (am_name M).cls q'.2.2.2 (am_cn c1) ∈ lw_tbl) (hno : am_K g → g.1.vm.assignable (g.2.2.1 c1) (g.2.2.1 c0) = false)
    (kk : am_W g M σ0 q.2.2.1 lv [.ref a] σ E1 k) (kk' : am_W g M σ0 q'.2.2.1 lv [.ref a] σ E2 k) : am_T g M σ0 pc lv st σ a (if am_isx σ c0 a = true then E1 else if am_isx σ c1 a = true then E2 else none) k := by
  by_cases hx : am_isx σ c0 a = true
  · rw [if_pos hx]
    obtain ⟨fs, ha⟩ := am_isx_some hx
    exact at_catch1 c0 hh h1 h2 h0 hc0 hw ha kk
  · rw [if_neg hx]
    by_cases hy : am_isx σ c1 a = true
    · rw [if_pos hy]
      obtain ⟨fs, ha⟩ := am_isx_some hy
      exact at_catch2 c1 c0 hh h1 h2 h0 h1' h2' h0' hc1 hc0 hno hw hw' ha kk'
    · rw [if_neg hy]
      exact am_T.none
/-! switches -/
theorem am_tsout {x : Int32} {lo hi : Int} (h : ∀ z : Int, lo ≤ z → z ≤ hi → x.toInt ≠ z) : x.toInt < lo ∨ hi < x.toInt := by
  by_cases h1 : x.toInt < lo
  · exact Or.inl h1
  · by_cases h2 : hi < x.toInt
    · exact Or.inr h2
    · exact absurd rfl (h x.toInt (by omega) (by omega))
theorem am_neI {x y : Int32} {z : Int} (h : ¬ x = y) (hz : y.toInt = z) : x.toInt ≠ z := fun h2 => h (Int32.toInt_inj.mp (h2.trans hz.symm))
theorem aw_ldcw (i : Nat) {v : Int32} (hd : decode (am_code M) pc = .ok (.ldc_w i, 3) := by decide +kernel) (hw : Cond.constant (am_name M).cls i v ∈ lw_tbl) (kk : am_W g M σ0 (pc + 3) lv (.int v :: st) σ E k) : am_W g M σ0 pc lv st σ E k := by
  refine kk.pure fun {p l e R s m args below meth c0 H locs cells slots Q ls} C hL w => ?_
  obtain ⟨c1, c2, c3, c4, c5, c6, c7, c8, c9, c10, c11, hW, hK⟩ := C
  intro T hT X
  obtain ⟨t, t1, t2⟩ := w T hT X
  refine ⟨t, ?_, t2⟩
  obtain ⟨kC, cf, bytes, hk, hcf, hcp, hb⟩ := Cond.constant_spec c4 (am_word (args := args) hK hW hw rfl)
  obtain ⟨k', hk', he⟩ := X.warmed.alike.2.2 _ _ hk
  have hd' : decode c0.code pc = .ok (.ldc_w i, 3) := by rw [c2]; exact hd
  jvm_step X.here [c1, hd', ldc_w.wp_int (s := T) (f := F0 m pc ls (st.map (am_up g))) X.here.top hk' (by rw [he]; exact hcf) hcp, hb]
  exact t1
end MR
