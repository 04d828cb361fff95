section AWA
variable {g : am_G} {M : am_M} {σ0 σ : am_S} {pc : Nat} {lv : List (Option Value)} {st : List Value} {β : Type} {E : Option β} {k : β → Option (Outcome × am_S)}
theorem aw_len {a : Nat} {F : Int32 → Option β} (hd : decode (am_code M) pc = .ok (.arraylength, 1) := by decide +kernel) (kk : ∀ v, am_W g M σ0 (pc + 1) lv (.int v :: st) σ (F v) k) : am_W g M σ0 pc lv (.ref a :: st) σ ((am_len σ a).bind F) k :=
  am_W.bindI fun v h => by
    refine (kk v).same fun {p l e R s m args below meth c0 H locs cells slots Q ls} C hL hR w => ?_
    obtain ⟨ty, n, f, h1, rfl⟩ := am_len_some h
    obtain ⟨cell, q1, q2, q3, q4, q5, q6⟩ := hR.1 a _ h1
    exact W.alen C.1 C.2.1 q1 (State.isArrayOf_alike C.2.2.2.2.2.2.2.2.2.2.2.1.alike q2) q5.2 rfl rfl hd w
theorem aw_lI {a : Nat} {i : Int32} {F : Int32 → Option β} (hd : decode (am_code M) pc = .ok (.iaload, 1) := by decide +kernel) (kk : ∀ v, am_W g M σ0 (pc + 1) lv (.int v :: st) σ (F v) k) : am_W g M σ0 pc lv (.int i :: .ref a :: st) σ ((am_lI σ .int a i).bind F) k :=
  am_W.bindI fun v h => by
    refine (kk v).same fun {p l e R s m args below meth c0 H locs cells slots Q ls} C hL hR w => ?_
    obtain ⟨n, f, h1, h2, h3, h4⟩ := am_ld_some (am_lI_some h)
    obtain ⟨cell, q1, q2, q3, q4, q5, q6⟩ := hR.1 a _ h1
    refine W.iald (v := am_up g (.int v)) C.1 C.2.1 q1 (State.isArrayOf_alike C.2.2.2.2.2.2.2.2.2.2.2.1.alike q2) q4 (fun z => z.elim h2 fun z2 => Nat.not_le.mpr h3 (Nat.le_trans q5.1 z2)) ?_ rfl rfl hd w
    rw [← h4]; exact (q6 _ h3).1
theorem aw_lB {a : Nat} {i : Int32} {F : Int32 → Option β} (hd : decode (am_code M) pc = .ok (.baload, 1) := by decide +kernel) (kk : ∀ v, am_W g M σ0 (pc + 1) lv (.int v :: st) σ (F v) k) : am_W g M σ0 pc lv (.int i :: .ref a :: st) σ ((am_lI σ .byte a i).bind F) k :=
  am_W.bindI fun v h => by
    refine (kk v).same fun {p l e R s m args below meth c0 H locs cells slots Q ls} C hL hR w => ?_
    obtain ⟨n, f, h1, h2, h3, h4⟩ := am_ld_some (am_lI_some h)
    obtain ⟨cell, q1, q2, q3, q4, q5, q6⟩ := hR.1 a _ h1
    refine W.bald (v := am_up g (.int v)) C.1 C.2.1 q1 (State.isArrayOf_alike C.2.2.2.2.2.2.2.2.2.2.2.1.alike q2) q4 (fun z => z.elim h2 fun z2 => Nat.not_le.mpr h3 (Nat.le_trans q5.1 z2)) ?_ rfl rfl hd w
    rw [← h4]; exact (q6 _ h3).1
theorem aw_lZ {a : Nat} {i : Int32} {F : Int32 → Option β} (hd : decode (am_code M) pc = .ok (.baload, 1) := by decide +kernel) (kk : ∀ v, am_W g M σ0 (pc + 1) lv (.int v :: st) σ (F v) k) : am_W g M σ0 pc lv (.int i :: .ref a :: st) σ ((am_lI σ .boolean a i).bind F) k :=
  am_W.bindI fun v h => by
    refine (kk v).same fun {p l e R s m args below meth c0 H locs cells slots Q ls} C hL hR w => ?_
    obtain ⟨n, f, h1, h2, h3, h4⟩ := am_ld_some (am_lI_some h)
    obtain ⟨cell, q1, q2, q3, q4, q5, q6⟩ := hR.1 a _ h1
    refine W.zald (v := am_up g (.int v)) C.1 C.2.1 q1 (State.isArrayOf_alike C.2.2.2.2.2.2.2.2.2.2.2.1.alike q2) q4 (fun z => z.elim h2 fun z2 => Nat.not_le.mpr h3 (Nat.le_trans q5.1 z2)) ?_ rfl rfl hd w
    rw [← h4]; exact (q6 _ h3).1
theorem aw_lS {a : Nat} {i : Int32} {F : Int32 → Option β} (hd : decode (am_code M) pc = .ok (.saload, 1) := by decide +kernel) (kk : ∀ v, am_W g M σ0 (pc + 1) lv (.int v :: st) σ (F v) k) : am_W g M σ0 pc lv (.int i :: .ref a :: st) σ ((am_lI σ .short a i).bind F) k :=
  am_W.bindI fun v h => by
    refine (kk v).same fun {p l e R s m args below meth c0 H locs cells slots Q ls} C hL hR w => ?_
    obtain ⟨n, f, h1, h2, h3, h4⟩ := am_ld_some (am_lI_some h)
    obtain ⟨cell, q1, q2, q3, q4, q5, q6⟩ := hR.1 a _ h1
    refine W.sald (v := am_up g (.int v)) C.1 C.2.1 q1 (State.isArrayOf_alike C.2.2.2.2.2.2.2.2.2.2.2.1.alike q2) q4 (fun z => z.elim h2 fun z2 => Nat.not_le.mpr h3 (Nat.le_trans q5.1 z2)) ?_ rfl rfl hd w
    rw [← h4]; exact (q6 _ h3).1
theorem aw_lL {a : Nat} {i : Int32} {F : Int64 → Option β} (hd : decode (am_code M) pc = .ok (.laload, 1) := by decide +kernel) (kk : ∀ v, am_W g M σ0 (pc + 1) lv (.long v :: st) σ (F v) k) : am_W g M σ0 pc lv (.int i :: .ref a :: st) σ ((am_lL σ a i).bind F) k :=
  am_W.bindI fun v h => by
    refine (kk v).same fun {p l e R s m args below meth c0 H locs cells slots Q ls} C hL hR w => ?_
    obtain ⟨n, f, h1, h2, h3, h4⟩ := am_ld_some (am_lL_some h)
    obtain ⟨cell, q1, q2, q3, q4, q5, q6⟩ := hR.1 a _ h1
    refine W.lald (v := am_up g (.long v)) C.1 C.2.1 q1 (State.isArrayOf_alike C.2.2.2.2.2.2.2.2.2.2.2.1.alike q2) q4 (fun z => z.elim h2 fun z2 => Nat.not_le.mpr h3 (Nat.le_trans q5.1 z2)) ?_ rfl rfl hd w
    rw [← h4]; exact (q6 _ h3).1
theorem aw_lA (c : Nat) {a : Nat} {i : Int32} {F : Nat → Option β} (hd : decode (am_code M) pc = .ok (.aaload, 1) := by decide +kernel) (kk : ∀ v, am_W g M σ0 (pc + 1) lv (.ref v :: st) σ (F v) k) : am_W g M σ0 pc lv (.int i :: .ref a :: st) σ ((am_lA σ c a i).bind F) k :=
  am_W.bindI fun v h => by
    refine (kk v).same fun {p l e R s m args below meth c0 H locs cells slots Q ls} C hL hR w => ?_
    obtain ⟨n, f, h1, h2, h3, h4⟩ := am_ld_some (am_lA_some h)
    obtain ⟨cell, q1, q2, q3, q4, q5, q6⟩ := hR.1 a _ h1
    refine W.aald (v := am_up g (.ref v)) C.1 C.2.1 q1 (State.isArrayOf_alike C.2.2.2.2.2.2.2.2.2.2.2.1.alike q2) rfl q4 (fun z => z.elim h2 fun z2 => Nat.not_le.mpr h3 (Nat.le_trans q5.1 z2)) ?_ rfl rfl hd w
    rw [← h4]; exact (q6 _ h3).1
theorem aw_sI {a : Nat} {i : Int32} {v : Int32} {F : am_S → Option β} (hd : decode (am_code M) pc = .ok (.iastore, 1) := by decide +kernel) (kk : ∀ σ1, am_W g M σ0 (pc + 1) lv st σ1 (F σ1) k) : am_W g M σ0 pc lv (.int v :: .int i :: .ref a :: st) σ ((am_sI σ a i v).bind F) k :=
  am_W.bindI fun σ1 h => by
    obtain ⟨n, f, h1, h8, h2, h3, rfl⟩ := am_st_some h
    refine am_W.write (fun {p l e R s m args below meth c0 H locs cells slots Q ls} C hL hR w => ?_) h8 (kk _)
    obtain ⟨cell, q1, q2, q3, q4, q5, q6⟩ := hR.1 a _ h1
    refine W.iast C.1 C.2.1 q1 (State.isArrayOf_alike C.2.2.2.2.2.2.2.2.2.2.2.1.alike q2) q4 (fun z => z.elim h2 fun z2 => Nat.not_le.mpr h3 (Nat.le_trans q5.1 z2)) rfl rfl hd fun H' e1 e2 e3 => ?_
    exact w H' _ (hR.put C.2.2.2.2.2.2.2.2.2.2.2.2 h8 (am_at_st q2 q3 q4 q5 q6 rfl e1) e2 e3)
theorem aw_sB {a : Nat} {i : Int32} {v : Int32} {F : am_S → Option β} (hd : decode (am_code M) pc = .ok (.bastore, 1) := by decide +kernel) (kk : ∀ σ1, am_W g M σ0 (pc + 1) lv st σ1 (F σ1) k) : am_W g M σ0 pc lv (.int v :: .int i :: .ref a :: st) σ ((am_sB σ a i v).bind F) k :=
  am_W.bindI fun σ1 h => by
    obtain ⟨n, f, h1, h8, h2, h3, rfl⟩ := am_st_some h
    refine am_W.write (fun {p l e R s m args below meth c0 H locs cells slots Q ls} C hL hR w => ?_) h8 (kk _)
    obtain ⟨cell, q1, q2, q3, q4, q5, q6⟩ := hR.1 a _ h1
    refine W.bast C.1 C.2.1 q1 (State.isArrayOf_alike C.2.2.2.2.2.2.2.2.2.2.2.1.alike q2) q4 (fun z => z.elim h2 fun z2 => Nat.not_le.mpr h3 (Nat.le_trans q5.1 z2)) rfl rfl hd fun H' e1 e2 e3 => ?_
    exact w H' _ (hR.put C.2.2.2.2.2.2.2.2.2.2.2.2 h8 (am_at_st q2 q3 q4 q5 q6 (am_fits_b v) e1) e2 e3)
theorem aw_sZ {a : Nat} {i : Int32} {v : Int32} {F : am_S → Option β} (hd : decode (am_code M) pc = .ok (.bastore, 1) := by decide +kernel) (kk : ∀ σ1, am_W g M σ0 (pc + 1) lv st σ1 (F σ1) k) : am_W g M σ0 pc lv (.int v :: .int i :: .ref a :: st) σ ((am_sZ σ a i v).bind F) k :=
  am_W.bindI fun σ1 h => by
    obtain ⟨n, f, h1, h8, h2, h3, rfl⟩ := am_st_some h
    refine am_W.write (fun {p l e R s m args below meth c0 H locs cells slots Q ls} C hL hR w => ?_) h8 (kk _)
    obtain ⟨cell, q1, q2, q3, q4, q5, q6⟩ := hR.1 a _ h1
    refine W.zast C.1 C.2.1 q1 (State.isArrayOf_alike C.2.2.2.2.2.2.2.2.2.2.2.1.alike q2) q4 (fun z => z.elim h2 fun z2 => Nat.not_le.mpr h3 (Nat.le_trans q5.1 z2)) rfl rfl hd fun H' e1 e2 e3 => ?_
    exact w H' _ (hR.put C.2.2.2.2.2.2.2.2.2.2.2.2 h8 (am_at_st q2 q3 q4 q5 q6 (am_fits_z v) e1) e2 e3)
theorem aw_sS {a : Nat} {i : Int32} {v : Int32} {F : am_S → Option β} (hd : decode (am_code M) pc = .ok (.sastore, 1) := by decide +kernel) (kk : ∀ σ1, am_W g M σ0 (pc + 1) lv st σ1 (F σ1) k) : am_W g M σ0 pc lv (.int v :: .int i :: .ref a :: st) σ ((am_sS σ a i v).bind F) k :=
  am_W.bindI fun σ1 h => by
    obtain ⟨n, f, h1, h8, h2, h3, rfl⟩ := am_st_some h
    refine am_W.write (fun {p l e R s m args below meth c0 H locs cells slots Q ls} C hL hR w => ?_) h8 (kk _)
    obtain ⟨cell, q1, q2, q3, q4, q5, q6⟩ := hR.1 a _ h1
    refine W.sast C.1 C.2.1 q1 (State.isArrayOf_alike C.2.2.2.2.2.2.2.2.2.2.2.1.alike q2) q4 (fun z => z.elim h2 fun z2 => Nat.not_le.mpr h3 (Nat.le_trans q5.1 z2)) rfl rfl hd fun H' e1 e2 e3 => ?_
    exact w H' _ (hR.put C.2.2.2.2.2.2.2.2.2.2.2.2 h8 (am_at_st q2 q3 q4 q5 q6 (am_fits_s v) e1) e2 e3)
theorem aw_sL {a : Nat} {i : Int32} {v : Int64} {F : am_S → Option β} (hd : decode (am_code M) pc = .ok (.lastore, 1) := by decide +kernel) (kk : ∀ σ1, am_W g M σ0 (pc + 1) lv st σ1 (F σ1) k) : am_W g M σ0 pc lv (.long v :: .int i :: .ref a :: st) σ ((am_sL σ a i v).bind F) k :=
  am_W.bindI fun σ1 h => by
    obtain ⟨n, f, h1, h8, h2, h3, rfl⟩ := am_st_some h
    refine am_W.write (fun {p l e R s m args below meth c0 H locs cells slots Q ls} C hL hR w => ?_) h8 (kk _)
    obtain ⟨cell, q1, q2, q3, q4, q5, q6⟩ := hR.1 a _ h1
    refine W.last C.1 C.2.1 q1 (State.isArrayOf_alike C.2.2.2.2.2.2.2.2.2.2.2.1.alike q2) q4 (fun z => z.elim h2 fun z2 => Nat.not_le.mpr h3 (Nat.le_trans q5.1 z2)) rfl rfl hd fun H' e1 e2 e3 => ?_
    exact w H' _ (hR.put C.2.2.2.2.2.2.2.2.2.2.2.2 h8 (am_at_st q2 q3 q4 q5 q6 rfl e1) e2 e3)
theorem aw_sA (c : Nat) {a v : Nat} {i : Int32} {F : am_S → Option β} (hd : decode (am_code M) pc = .ok (.aastore, 1) := by decide +kernel) (hc : c < am_NC := by decide) (kk : ∀ σ1, am_W g M σ0 (pc + 1) lv st σ1 (F σ1) k) : am_W g M σ0 pc lv (.ref v :: .int i :: .ref a :: st) σ ((am_sA σ c a i v).bind F) k :=
  am_W.bindI fun σ1 h => by
    unfold am_sA at h
    split at h
    · rename_i y hy
      split at h
      · rename_i hyc
        obtain ⟨c', fs⟩ := y
        subst hyc
        obtain ⟨n, f, h1, h8, h2, h3, rfl⟩ := am_st_some h
        refine am_W.write (fun {p l e R s m args below meth c0 H locs cells slots Q ls} C hL hR w => ?_) h8 (kk _)
        obtain ⟨c1, c2, c3, c4, c5, c6, c7, c8, c9, c10, c11, hW, hK⟩ := C
        obtain ⟨cell, q1, q2, q3, q4, q5, q6⟩ := hR.1 a _ h1
        obtain ⟨cv, r1, r2, r3, r4⟩ := hR.1 v _ hy
        have hcl := am_class hK hW hc
        obtain ⟨kA, comp, k1, k2, k3⟩ := am_ok_moved hW.alike q3
        have hcomp : comp = g.2.2.1 c' := Option.some.inj (k3.symm.trans hcl.1)
        subst hcomp
        obtain ⟨kC, hkC, hkind⟩ := hcl.2
        refine W.aast c1 c2 q1 q2.1 q4 k1 k2 rfl hkC ⟨h2, Nat.lt_of_lt_of_le h3 q5.1⟩ r1 (fun q z => by rw [r3] at z; cases z) (by rw [r2]; exact hkC) (by rw [r2]; exact va_assign hcl) rfl rfl hd fun H' e1 e2 e3 => ?_
        exact w H' _ (hR.put hK h8 (am_at_st q2 q3 q4 q5 q6 rfl e1) e2 e3)
      · cases h
    · cases h
/-- a cell is made -/
theorem am_W.make {pc' N : Nat} {st' : List Value} {x : am_C} (h : ∀ {p : Program} {l : Launch} {e : Env} {R : Room} {s : State} {m : MethodId} {args : Array Value} {below : List Frame} {meth : Method} {c : Code} {H : Heap} {locs : List Loc} {cells slots : Nat} {Q : State → Prop} {ls : Array Slot},
      am_Cx g M p l e R s m meth c → am_L g (am_maxL M) lv ls → am_R g σ H → cells + 1 ≤ R.cells → slots + N ≤ R.slots →
      (∀ H1 : Heap, am_R g (am_new σ N x) H1 → W p l e R s m args below meth c H1 locs (cells + 1) (slots + N) Q (F0 m pc' ls (st'.map (am_up g)))) → W p l e R s m args below meth c H locs cells slots Q (F0 m pc ls (st.map (am_up g))))
    (kk : am_W g M σ0 pc' lv st' (am_new σ N x) E k) : am_W g M σ0 pc lv st σ E k := by
  intro res σ' hE
  obtain ⟨a1, b1, j⟩ := kk res σ' hE
  have a2 : σ.1 + 1 ≤ σ'.1 := a1
  have b2 : σ.2.1 + N ≤ σ'.2.1 := b1
  refine ⟨by omega, by omega, fun p l e R s m args below meth c H locs ls C hc hs h1 h2 hR hL hl => h C hL hR (by omega) (by omega) fun H1 hR1 => ?_⟩
  have w := j p l e R s m args below meth c H1 locs ls C hc hs (show σ0.1 ≤ σ.1 + 1 by omega) (show σ0.2.1 ≤ σ.2.1 + N by omega) hR1 hL hl
  refine W.cs ?_ ?_ w
  · show _ = σ.1 + 1 - σ0.1
    omega
  · show _ = σ.2.1 + N - σ0.2.1
    omega
def am_na (σ : am_S) (ty : FieldType) (n : Int32) : Option (Nat × am_S) := if n < 0 ∨ 67108864 < n.toNatClampNeg then none else some (σ.1, am_new σ n.toNatClampNeg (.inl (ty, n.toNatClampNeg, fun _ => defaultValue ty)))
theorem am_upd_def (g : am_G) (ty : FieldType) : am_up g (defaultValue ty) = defaultValue ty := by cases ty <;> rfl
theorem am_fit_def (ty : FieldType) : fits ty (defaultValue ty) = true := by cases ty <;> rfl
theorem am_cb (ty : FieldType) : componentBytes ty ≤ 8 := by cases ty <;> simp [componentBytes]
theorem am_ok_prim {U : State} {cA : ClassId} (t : ArrayType) : am_ok U cA (newarray.typeOf t) := by cases t <;> trivial
theorem aw_na (t : ArrayType) {ty : FieldType} {n : Int32} {F : Nat × am_S → Option β} (hd : decode (am_code M) pc = .ok (.newarray t, 2) := by decide +kernel) (hty : newarray.typeOf t = ty := by rfl) (hw : Cond.arrayClass ty ∈ lw_tbl)
    (kk : ∀ a σ1, am_W g M σ0 (pc + 2) lv (.ref a :: st) σ1 (F (a, σ1)) k) : am_W g M σ0 pc lv (.int n :: st) σ ((am_na σ ty n).bind F) k :=
  am_W.bindI fun x h => by
    subst hty
    unfold am_na at h
    split at h
    · cases h
    · rename_i hn
      cases h
      refine am_W.make (fun {p l e R s m args below meth c0 H locs cells slots Q ls} C hL hR r1 r2 w => ?_) (kk _ _)
      obtain ⟨c1, c2, c3, c4, c5, c6, c7, c8, c9, c10, c11, hW, hK⟩ := C
      refine va_newaK c1 c2 (am_word hK hW hw rfl) rfl hd rfl (fun z => hn (Or.inl z)) rfl ?_ r1 r2 rfl fun H' cA e1 e2 e3 hA hN => ?_
      · have h1 : n.toNatClampNeg ≤ 67108864 := Nat.not_lt.mp fun z => hn (Or.inr z)
        have h2 := am_cb (newarray.typeOf t)
        calc n.toNatClampNeg * componentBytes (newarray.typeOf t) ≤ 67108864 * 8 := Nat.mul_le_mul h1 h2
          _ ≤ 536870912 := by decide
      · have ht := hR.top
        have w1 := w H' (hR.new (n := n.toNatClampNeg) ⟨_, e1, State.isArrayOf_alike hW.alike.symm (hA _ _), am_ok_prim t, (fun z => by cases z), ⟨Nat.le_of_eq (arrV_size _ _ _).symm, congrArg Nat.toInt32 (arrV_size _ _ _)⟩, fun j hj => ⟨by rw [arrV_read _ _ hj, am_upd_def], by rw [am_upd_def]; exact am_fit_def _⟩⟩ e2 e3)
        simp only [List.map_cons, am_up, ht] at w1
        exact w1
/-- an array of references to objects of class c -/
def am_nA (σ : am_S) (c : Nat) (n : Int32) : Option (Nat × am_S) := if n < 0 ∨ 67108864 < n.toNatClampNeg then none else some (σ.1, am_new σ n.toNatClampNeg (.inl (.object (am_cn c), n.toNatClampNeg, fun _ => .null)))
theorem aw_nA (c idx : Nat) {n : Int32} {F : Nat × am_S → Option β} (hd : decode (am_code M) pc = .ok (.anewarray idx, 3) := by decide +kernel) (hw : Cond.classLink (am_name M).cls idx (am_cn c) ∈ lw_tbl) (hw2 : Cond.arrayOver (.object (am_cn c)) ∈ lw_tbl)
    (kk : ∀ a σ1, am_W g M σ0 (pc + 3) lv (.ref a :: st) σ1 (F (a, σ1)) k) : am_W g M σ0 pc lv (.int n :: st) σ ((am_nA σ c n).bind F) k :=
  am_W.bindI fun x h => by
    unfold am_nA at h
    split at h
    · cases h
    · rename_i hn
      cases h
      refine am_W.make (fun {p l e R s m args below meth c0 H locs cells slots Q ls} C hL hR r1 r2 w => ?_) (kk _ _)
      obtain ⟨c1, c2, c3, c4, c5, c6, c7, c8, c9, c10, c11, hW, hK⟩ := C
      refine W.anew c1 c2 c4 (am_word hK hW hw rfl) (am_wordO hK hW hw2) rfl hd rfl (fun z => hn (Or.inl z)) ?_ r1 r2 fun cA kA comp e1 e2 e3 e4 => ?_
      · have h1 : n.toNatClampNeg ≤ 67108864 := Nat.not_lt.mp fun z => hn (Or.inr z)
        omega
      · have ht := hR.top
        have w1 := w (H.push { cls := cA, slots := Array.replicate n.toNatClampNeg .null, vm := .none }) (hR.new (n := n.toNatClampNeg) ⟨{ cls := cA, slots := Array.replicate n.toNatClampNeg .null, vm := .none }, by simp, State.isArrayOf_alike hW.alike.symm ⟨(fun _ z => by cases z), kA, e2, comp, e3⟩, am_ok_moved hW.alike.symm ⟨kA, comp, e2, e3, e4⟩, (fun z => by cases z), ⟨by simp, by simp⟩, fun j hj => ⟨by simp [Array.getElem?_replicate, hj, am_up], rfl⟩⟩ (by simp) (fun q hq => by rw [Array.getElem?_push, if_neg (Nat.ne_of_lt hq)]))
        simp only [List.map_cons, am_up, ht] at w1
        exact w1
def am_df (c : Nat) : List Value := (am_fl c).map fun f => defaultValue f.2.2.2
def am_no (σ : am_S) (c : Nat) : am_S := am_new σ (am_N c) (.inr (c, am_df c))
theorem am_born {s : State} {c a : Nat} {kC : Class} {H1 : Heap} (hK : am_K g) (hW : g.1.WarmedH s.vm) (hc : c < am_NC) (hkC : s.vm.classes[g.2.2.1 c]? = some kC) (e1 : H1[a]? = some (blank (g.2.2.1 c) kC)) : am_at g a (.inr (c, am_df c)) H1 := by
  obtain ⟨hfc, -⟩ := am_class hK hW hc
  refine ⟨_, e1, rfl, rfl, fun j hj => ?_⟩
  obtain ⟨cf, kf, fi, fd, hi, he⟩ := am_slot hK hW hc hj
  have h3 := (u_facts hfc hkC (am_lays hK hW hc hj #[]) hi).2.2
  rw [(State.fieldFound?_type hi (am_ty_ok c hc j hj)).2] at h3
  rw [← he, k2_blank h3]
  have hl : j < (am_fl c).length := by rw [← am_N_eq c hc]; exact hj
  simp [vp_V, am_df, am_fd, hl, am_upd_def]
theorem aw_new (c idx : Nat) (hd : decode (am_code M) pc = .ok (.new idx, 3) := by decide +kernel) (hc : c < am_NC := by decide) (hw : Cond.classLink (am_name M).cls idx (am_cn c) ∈ lw_tbl) (hw2 : Cond.instantiable (am_cn c) (am_N c) ∈ lw_tbl) (hw3 : Cond.initialized (am_cn c) ∈ lw_tbl)
    (kk : am_W g M σ0 (pc + 3) lv (.ref σ.1 :: st) (am_no σ c) E k) : am_W g M σ0 pc lv st σ E k := by
  refine am_W.make (fun {p l e R s m args below meth c0 H locs cells slots Q ls} C hL hR r1 r2 w => ?_) kk
  obtain ⟨c1, c2, c3, c4, c5, c6, c7, c8, c9, c10, c11, hW, hK⟩ := C
  refine W.newcK c1 c2 c4 (am_word hK hW hw rfl) (am_word hK hW hw2 rfl) (am_word hK hW hw3 rfl) rfl hd r1 r2 (am_class hK hW hc).1 rfl fun H' kC e0 e1 e2 e3 => ?_
  have ht := hR.top
  have w1 := w H' (hR.new (n := am_N c) (am_born hK hW hc e0 e1) e2 e3)
  simp only [List.map_cons, am_up, ht] at w1
  exact w1
theorem am_L.size {nL : Nat} {lv : List (Option Value)} {ls : Array Slot} (h : am_L g nL lv ls) : ls.size = nL := h.1
/-- Object.<init> -/
theorem aw_obj (idx : Nat) {a : Nat} (hd : decode (am_code M) pc = .ok (.invokespecial idx, 3) := by decide +kernel) (hw : Cond.methodLink (am_name M).cls idx Lib.objectInit ∈ lw_tbl) (hw2 : Cond.instanceMethod Lib.objectInit ∈ lw_tbl) (hw3 : Cond.code Lib.objectInit ⟨#[0xb1]⟩ 1 none ∈ lw_tbl)
    (hr : ((st.map (am_up g)).map fun v => v.category).sum ≤ 8) (hf : 1 ≤ am_fr M := by decide) (hl : 20 ≤ am_lc M := by decide)
    (kk : am_W g M σ0 (pc + 3) lv st σ E k) : am_W g M σ0 pc lv (.ref a :: st) σ E k := by
  refine kk.same fun {p l e R s m args below meth c0 H locs cells slots Q ls} C hL hR w => ?_
  obtain ⟨c1, c2, c3, c4, c5, c6, c7, c8, c9, c10, c11, hW, hK⟩ := C
  refine W.objInit c1 c2 c4 (am_word hK hW hw rfl) (am_word hK hW hw2 rfl) (am_word hK hW hw3 rfl) (a := am_r g a) (rest := st.map (am_up g)) rfl (by rw [c3]; exact hL.size) rfl hd (by omega) ?_ w
  show 2 * 0 + _ + 12 ≤ _
  omega
/-! System.arraycopy between arrays of one primitive type -/
theorem am_pairsS (at_ : Nat) : ∀ (xs : List Value) (i : Nat) (c : Cell), (c.storePairs at_ (xs.zipIdx i)).cls = c.cls ∧ (c.storePairs at_ (xs.zipIdx i)).vm = c.vm ∧ (c.storePairs at_ (xs.zipIdx i)).slots.size = c.slots.size ∧
    ∀ q, q < c.slots.size → (c.storePairs at_ (xs.zipIdx i)).slots[q]? = if at_ + i ≤ q ∧ q < at_ + i + xs.length then xs[q - (at_ + i)]? else c.slots[q]?
  | [], i, c => by
    refine ⟨rfl, rfl, rfl, fun q _ => ?_⟩
    rw [if_neg (by simp only [List.length_nil]; omega)]
    rfl
  | x :: xs, i, c => by
    rw [List.zipIdx_cons]
    have ih := am_pairsS at_ xs (i + 1) (c.setSlot (at_ + i) x)
    show ((c.setSlot (at_ + i) x).storePairs at_ (xs.zipIdx (i + 1))).cls = _ ∧ ((c.setSlot (at_ + i) x).storePairs at_ (xs.zipIdx (i + 1))).vm = _ ∧ ((c.setSlot (at_ + i) x).storePairs at_ (xs.zipIdx (i + 1))).slots.size = _ ∧ ∀ q, q < c.slots.size → ((c.setSlot (at_ + i) x).storePairs at_ (xs.zipIdx (i + 1))).slots[q]? = _
    have hz : (c.setSlot (at_ + i) x).slots.size = c.slots.size := by simp [Cell.setSlot]
    refine ⟨ih.1, ih.2.1, ih.2.2.1.trans hz, fun q hq => ?_⟩
    rw [ih.2.2.2 q (by rw [hz]; exact hq)]
    by_cases h1 : q = at_ + i
    · subst h1
      rw [if_neg (by omega), if_pos (by simp only [List.length_cons]; omega), Cell.slots_setSlot_self _ hq]
      simp
    · rw [slot_ne _ _ (Ne.symm h1)]
      by_cases h2 : at_ + (i + 1) ≤ q ∧ q < at_ + (i + 1) + xs.length
      · rw [if_pos h2, if_pos (by simp only [List.length_cons]; omega)]
        rw [show q - (at_ + i) = (q - (at_ + (i + 1))) + 1 by omega, List.getElem?_cons_succ]
      · rw [if_neg h2, if_neg (by simp only [List.length_cons]; omega)]
def am_cp (σ : am_S) (ty : FieldType) (a0 : Nat) (sp : Int32) (a : Nat) (dp n : Int32) : Option am_S := match σ.2.2 a0, σ.2.2 a with
  | some (.inl x), some (.inl y) => if x.1 = ty ∧ y.1 = ty ∧ 8 ≤ a ∧ ¬ sp < 0 ∧ ¬ dp < 0 ∧ ¬ n < 0 ∧ sp.toNatClampNeg + n.toNatClampNeg ≤ x.2.1 ∧ dp.toNatClampNeg + n.toNatClampNeg ≤ y.2.1 then some (am_put σ a (.inl (ty, y.2.1, va_cpy x.2.2 y.2.2 sp.toNatClampNeg dp.toNatClampNeg n.toNatClampNeg))) else none
  | _, _ => none
theorem am_cp_some {σ σ1 : am_S} {ty : FieldType} {a0 a : Nat} {sp dp n : Int32} (h : am_cp σ ty a0 sp a dp n = some σ1) : ∃ (n0 n1 : Nat) (f0 f1 : Nat → Value), σ.2.2 a0 = some (.inl (ty, n0, f0)) ∧ σ.2.2 a = some (.inl (ty, n1, f1)) ∧ 8 ≤ a ∧ ¬ sp < 0 ∧ ¬ dp < 0 ∧ ¬ n < 0 ∧ sp.toNatClampNeg + n.toNatClampNeg ≤ n0 ∧ dp.toNatClampNeg + n.toNatClampNeg ≤ n1 ∧ σ1 = am_put σ a (.inl (ty, n1, va_cpy f0 f1 sp.toNatClampNeg dp.toNatClampNeg n.toNatClampNeg)) := by
  unfold am_cp at h
  split at h
  · rename_i x y hx hy
    split at h
    · rename_i hc
      obtain ⟨t0, n0, f0⟩ := x
      obtain ⟨t1, n1, f1⟩ := y
      obtain ⟨h1, h2, h3, h4, h5, h6, h7, h8⟩ := hc
      dsimp only at h1 h2 h7 h8
      subst h1
      subst h2
      cases h
      exact ⟨n0, n1, f0, f1, hx, hy, h3, h4, h5, h6, h7, h8, rfl⟩
    · cases h
  · cases h
theorem am_nn {z : Int32} (hz : ¬ z < 0) : z.toInt = (z.toNatClampNeg : Int) := by
  have hz0 : (0 : Int) ≤ z.toInt := by
    have := Int32.not_lt.mp hz
    simpa using Int32.le_iff_toInt_le.mp this
  show z.toInt = ((z.toInt.toNat : Nat) : Int)
  omega
theorem aw_cp (idx : Nat) (ty : FieldType) {a0 a : Nat} {sp dp n : Int32} {F : am_S → Option β} (hd : decode (am_code M) pc = .ok (.invokestatic idx, 3) := by decide +kernel) (hw : Cond.methodLink (am_name M).cls idx arraycopyName ∈ lw_tbl) (hw2 : Cond.native arraycopyName ∈ lw_tbl) (hw3 : Cond.static arraycopyName ∈ lw_tbl) (hw4 : Cond.initialized "java/lang/System" ∈ lw_tbl) (hprim : refKind ty = false := by rfl)
    (hr : ((st.map (am_up g)).map fun v => v.category).sum ≤ 8) (hf : 1 ≤ am_fr M := by decide) (hl : 8 + (nativeFrameWords "java/lang/System" "arraycopy" 5 + 11) ≤ am_lc M := by decide +kernel)
    (kk : ∀ σ1, am_W g M σ0 (pc + 3) lv st σ1 (F σ1) k) : am_W g M σ0 pc lv (.int n :: .int dp :: .ref a :: .int sp :: .ref a0 :: st) σ ((am_cp σ ty a0 sp a dp n).bind F) k :=
  am_W.bindI fun σ1 h => by
    obtain ⟨n0, n1, f0, f1, h0, h1, h8, g1, g2, g3, g4, g5, rfl⟩ := am_cp_some h
    intro res σ' hE
    obtain ⟨a2, b2, j⟩ := kk _ res σ' hE
    refine ⟨a2, b2, fun p l e R s m args below meth c H locs ls C hc hs r1 r2 hR hL hll => ?_⟩
    have C' := C
    obtain ⟨c1, c2, c3, c4, c5, c6, c7, c8, c9, c10, c11, hW, hK⟩ := C
    obtain ⟨ce0, q1, q2, q3, q4, q5, q6⟩ := hR.1 a0 _ h0
    obtain ⟨ce1, p1, p2, p3, p4, p5, p6⟩ := hR.1 a _ h1
    obtain ⟨v0, k0, hk0, cm0, hkk0⟩ := State.isArrayOf_alike hW.alike q2
    obtain ⟨v1, k1, hk1, cm1, hkk1⟩ := State.isArrayOf_alike hW.alike p2
    intro T hT X
    have hget : ∀ i, i < n.toNatClampNeg → ce0.slots.getD (sp.toNatClampNeg + i) .null = am_up g (f0 (sp.toNatClampNeg + i)) := fun i hi => by
      rw [Array.getD_eq_getD_getElem?, (q6 _ (by dsimp only; omega)).1]
      rfl
    obtain ⟨vm', X', step⟩ := X.arraycopy c1 c4 (am_word hK hW hw rfl) (am_word hK hW hw2 rfl) (am_word hK hW hw3 rfl) (am_word hK hW hw4 rfl) (src := am_r g a0) (dst := am_r g a) (cs := ce0) (cd := ce1) (srcPos := sp) (destPos := dp) (n := n) (by rw [hT]; exact q1) (by rw [hT]; exact p1)
      v0 v1 q4 p4 hk0 hk1 hkk0 hkk1 (by simp [hprim]) g1 g2 g3
      (by have hq5 := q5.1; rw [am_nn g1, am_nn g3]; dsimp only at hq5 ⊢; omega)
      (by have hp5 := p5.1; rw [am_nn g2, am_nn g3]; dsimp only at hp5 ⊢; omega)
      (fun vm₁ _ i hi => by
        rw [hget i hi]
        refine ⟨(q6 _ (by dsimp only; omega)).2, ?_⟩
        have hf := (q6 (sp.toNatClampNeg + i) (by dsimp only; omega)).2
        dsimp only at hf
        revert hf
        generalize am_up g (f0 (sp.toNatClampNeg + i)) = z
        intro hf
        cases z <;> first | exact trivial | (exfalso; revert hf hprim; cases ty <;> simp [fits, refKind]))
      (g := F0 m pc ls (.int n :: .int dp :: .ref (am_r g a) :: .int sp :: .ref (am_r g a0) :: st.map (am_up g))) rfl (by rw [c3]; exact hL.size) (rest := st.map (am_up g)) rfl (by rw [c2]; exact hd) (by omega) (by show 2 * 0 + _ + _ ≤ _; omega)
    have hlt : am_r g a < H.size := (Array.getElem?_eq_some_iff.mp p1).1
    have hheap : ((T.setVm vm').setCell (am_r g a) (copied ce0 ce1 sp dp n)).heap = H.setIfInBounds (am_r g a) (copied ce0 ce1 sp dp n) := by rw [← hT]; rfl
    obtain ⟨s1, s2, s3, s4⟩ := am_pairsS dp.toNatClampNeg (ce0.stretch sp.toNatClampNeg n.toNatClampNeg) 0 ce1
    have hlen : (ce0.stretch sp.toNatClampNeg n.toNatClampNeg).length = n.toNatClampNeg := by simp [Cell.stretch]
    have hR1 : am_R g (am_put σ a (.inl (ty, n1, va_cpy f0 f1 sp.toNatClampNeg dp.toNatClampNeg n.toNatClampNeg))) (H.setIfInBounds (am_r g a) (copied ce0 ce1 sp dp n)) := by
      refine hR.put hK h8 ⟨copied ce0 ce1 sp dp n, by simp [Array.getElem?_setIfInBounds, hlt], ?_, ?_, ?_, ?_, fun q hq => ?_⟩ (by simp) (fun q hq => by simp [Array.getElem?_setIfInBounds, Ne.symm hq])
      · obtain ⟨u1, kk1, u2, u3⟩ := p2
        exact ⟨fun z hz => u1 z (by rw [← s2]; exact hz), kk1, by rw [show (copied ce0 ce1 sp dp n).cls = ce1.cls from s1]; exact u2, u3⟩
      · rw [show (copied ce0 ce1 sp dp n).cls = ce1.cls from s1]; exact p3
      · rw [show (copied ce0 ce1 sp dp n).vm = ce1.vm from s2]; exact p4
      · rw [show (copied ce0 ce1 sp dp n).slots.size = ce1.slots.size from s3]; exact p5
      · dsimp only at hq ⊢
        have e := s4 q (Nat.lt_of_lt_of_le hq p5.1)
        rw [hlen, Nat.add_zero] at e
        rw [show (copied ce0 ce1 sp dp n).slots[q]? = _ from e]
        unfold va_cpy
        by_cases hz : dp.toNatClampNeg ≤ q ∧ q < dp.toNatClampNeg + n.toNatClampNeg
        · rw [if_pos hz, if_pos hz]
          refine ⟨?_, (q6 _ (by dsimp only; omega)).2⟩
          unfold Cell.stretch
          rw [List.getElem?_map, List.getElem?_range (by omega)]
          exact congrArg some (hget _ (by omega))
        · rw [if_neg hz, if_neg hz]
          exact p6 q hq
    obtain ⟨t, t1, t2⟩ := j p l e R s m args below meth c _ (locs ++ (ce0.stretch sp.toNatClampNeg n.toNatClampNeg).zipIdx.map fun q => ⟨am_r g a, dp.toNatClampNeg + q.2⟩) ls C' hc hs r1 r2 hR1 hL (fun q hq => by
      rcases List.mem_append.mp hq with hz | hz
      · exact hll q hz
      · obtain ⟨z, -, hz⟩ := List.mem_map.mp hz
        rw [← hz]
        show _ ≤ am_r g a
        rw [am_r_ge h8]
        omega) _ hheap X'
    exact ⟨t, step t t1, t2⟩
end AWA
