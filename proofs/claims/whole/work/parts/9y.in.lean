/-! ===== L3: the constructors of the class ===== -/
theorem ap {σ : am_S} {o c k n t : Nat} {ty : FieldType} {fs fs' : List Value} {v : Int32} (hv : v = nI n) (hn : n ≤ 67108864) (ht : σ.1 = t) (ho : σ.2.2 o = some (.inr (c, fs))) (h8 : 8 ≤ o) (hlt : o < t) (hk : k < fs.length) (hf : fs.set k (.ref t) = fs') : ∃ σ1 σ', am_na σ ty v = some (t, σ1) ∧ am_pA σ1 c k o t = some σ' ∧ σ'.1 = t + 1 ∧ σ'.2.1 = σ.2.1 + n ∧ σ'.2.2 o = some (.inr (c, fs')) ∧ σ'.2.2 t = some (.inl (ty, n, fun _ => defaultValue ty)) ∧ ∀ a, a < t → a ≠ o → σ'.2.2 a = σ.2.2 a := by
  subst ht
  have e1 : am_na σ ty v = some (σ.1, am_new σ n (.inl (ty, n, fun _ => defaultValue ty))) := by
    unfold am_na
    rw [hv, nI_clamp (by omega), if_neg (by rintro (z | z); exact nI_pos (by omega) z; omega)]
  have e2 := pA_of (r := σ.1) (show (am_new σ n (.inl (ty, n, fun _ => defaultValue ty))).2.2 o = some (.inr (c, fs)) by rw [new_ne (by omega)]; exact ho) h8 hk
  rw [hf] at e2
  refine ⟨_, _, e1, e2, rfl, rfl, put_at _ _ _, ?_, fun a h1 h2 => ?_⟩
  · rw [put_ne (by omega)]; exact new_at
  · rw [put_ne h2, new_ne (by omega)]
theorem pa {σ : am_S} {o c k v : Nat} {fs fs' : List Value} (ho : σ.2.2 o = some (.inr (c, fs))) (h8 : 8 ≤ o) (hk : k < fs.length) (hf : fs.set k (.ref v) = fs') : ∃ σ', am_pA σ c k o v = some σ' ∧ σ'.1 = σ.1 ∧ σ'.2.1 = σ.2.1 ∧ σ'.2.2 o = some (.inr (c, fs')) ∧ ∀ a, a ≠ o → σ'.2.2 a = σ.2.2 a := by
  have e2 := pA_of (r := v) ho h8 hk
  rw [hf] at e2
  exact ⟨_, e2, rfl, rfl, put_at _ _ _, fun a h => put_ne h⟩
theorem b2s {α : Type} {a : Nat} {σ : am_S} {K : Nat → am_S → Option α} : am_b2 (some (a, σ)) K = K a σ := rfl
/-- m cells more, n words more -/
def IR (σ σ' : am_S) (o m n : Nat) : Prop := σ'.1 = o + m ∧ σ'.2.1 = σ.2.1 + n ∧ ∀ a, a < o → σ'.2.2 a = σ.2.2 a
theorem In_init {σ : am_S} {o F : Nat} (ho : σ.1 = o) (h8 : 8 ≤ o) : ∃ σ', f_In_init F (am_no σ 1) o = some σ' ∧ IR σ σ' o 3 16392 ∧ σ'.2.2 (o) = some (cO 1 [.ref (o + 1), .ref (o + 2), .int 0, .int 0]) ∧ σ'.2.2 (o + 1) = some (cB 16384 fun _ => 0) ∧ σ'.2.2 (o + 2) = some (cI 4 fun _ => 0) := by
  have n0 : (am_no σ 1).1 = o + 1 := by show σ.1 + 1 = o + 1; rw [ho]
  have U0 : (am_no σ 1).2.1 = σ.2.1 + 4 := rfl
  have o0 : (am_no σ 1).2.2 o = some (.inr (1, [.null, .null, .int 0, .int 0])) := by rw [← ho]; exact new_at
  have b0 : ∀ a, a < o → (am_no σ 1).2.2 a = σ.2.2 a := fun a ha => new_ne (by omega)
  generalize am_no σ 1 = τ0 at n0 U0 o0 b0 ⊢
  obtain ⟨ρ1, τ1, e1, f1, q1, u1, o1, c1, k1⟩ := ap (ty := .byte) (k := 0) (n := 16384) (v := 16384) (t := o + 1) (fs' := [.ref (o + 1), .null, .int 0, .int 0]) rfl (Nat.le_of_ble_eq_true rfl) n0 o0 h8 (Nat.lt_add_of_pos_right (Nat.le_of_ble_eq_true rfl)) (Nat.le_of_ble_eq_true rfl) rfl
  have n1 : τ1.1 = o + 2 := q1
  have U1 : τ1.2.1 = σ.2.1 + 16388 := (u1.trans (congrArg (fun z => z + 16384) U0)).trans (Nat.add_assoc _ _ _)
  obtain ⟨ρ2, τ2, e2, f2, q2, u2, o2, c2, k2⟩ := ap (ty := .int) (k := 1) (n := 4) (v := 4) (t := o + 2) (fs' := [.ref (o + 1), .ref (o + 2), .int 0, .int 0]) rfl (Nat.le_of_ble_eq_true rfl) n1 o1 h8 (Nat.lt_add_of_pos_right (Nat.le_of_ble_eq_true rfl)) (Nat.le_of_ble_eq_true rfl) rfl
  have n2 : τ2.1 = o + 3 := q2
  have U2 : τ2.2.1 = σ.2.1 + 16392 := (u2.trans (congrArg (fun z => z + 4) U1)).trans (Nat.add_assoc _ _ _)
  have K2 : ∀ a, a < o + 3 → a ≠ o → τ2.2.2 a = τ2.2.2 a := fun _ _ _ => rfl
  have K1 : ∀ a, a < o + 2 → a ≠ o → τ2.2.2 a = τ1.2.2 a := fun a ha hne => (K2 a (Nat.lt_of_lt_of_le ha (Nat.add_le_add_left (Nat.le_of_ble_eq_true rfl) o)) hne).trans (k2 a ha hne)
  have K0 : ∀ a, a < o + 1 → a ≠ o → τ2.2.2 a = τ0.2.2 a := fun a ha hne => (K1 a (Nat.lt_of_lt_of_le ha (Nat.add_le_add_left (Nat.le_of_ble_eq_true rfl) o)) hne).trans (k1 a ha hne)
  refine ⟨τ2, ?_, ⟨n2, U2, fun a ha => (K0 a (Nat.lt_of_lt_of_le ha (Nat.le_add_right _ _)) (Nat.ne_of_lt ha)).trans (b0 a ha)⟩, o2, (K1 _ (Nat.add_lt_add_left (Nat.le_of_ble_eq_true rfl) o) (Nat.ne_of_gt (Nat.lt_add_of_pos_right (Nat.le_of_ble_eq_true rfl)))).trans c1, (K2 _ (Nat.add_lt_add_left (Nat.le_of_ble_eq_true rfl) o) (Nat.ne_of_gt (Nat.lt_add_of_pos_right (Nat.le_of_ble_eq_true rfl)))).trans c2⟩
  clear K0 K1 K2 U0 U1 U2
  unfold f_In_init
  rw [am_ck_of o0]
  rw [e1, b2s, f1, Option.bind_some, e2, b2s, f2, Option.bind_some]
theorem Pm_init {σ : am_S} {o F : Nat} (ho : σ.1 = o) (h8 : 8 ≤ o) : ∃ σ', f_Pm_init F (am_no σ 4) o = some σ' ∧ IR σ σ' o 4 8997 ∧ σ'.2.2 (o) = some (cO 4 [.ref (o + 1), .ref (o + 2), .ref (o + 3), .int 0]) ∧ σ'.2.2 (o + 1) = some (cB 8192 fun _ => 0) ∧ σ'.2.2 (o + 2) = some (cI 401 fun _ => 0) ∧ σ'.2.2 (o + 3) = some (cI 400 fun _ => 0) := by
  have n0 : (am_no σ 4).1 = o + 1 := by show σ.1 + 1 = o + 1; rw [ho]
  have U0 : (am_no σ 4).2.1 = σ.2.1 + 4 := rfl
  have o0 : (am_no σ 4).2.2 o = some (.inr (4, [.null, .null, .null, .int 0])) := by rw [← ho]; exact new_at
  have b0 : ∀ a, a < o → (am_no σ 4).2.2 a = σ.2.2 a := fun a ha => new_ne (by omega)
  generalize am_no σ 4 = τ0 at n0 U0 o0 b0 ⊢
  obtain ⟨ρ1, τ1, e1, f1, q1, u1, o1, c1, k1⟩ := ap (ty := .byte) (k := 0) (n := 8192) (v := 8192) (t := o + 1) (fs' := [.ref (o + 1), .null, .null, .int 0]) rfl (Nat.le_of_ble_eq_true rfl) n0 o0 h8 (Nat.lt_add_of_pos_right (Nat.le_of_ble_eq_true rfl)) (Nat.le_of_ble_eq_true rfl) rfl
  have n1 : τ1.1 = o + 2 := q1
  have U1 : τ1.2.1 = σ.2.1 + 8196 := (u1.trans (congrArg (fun z => z + 8192) U0)).trans (Nat.add_assoc _ _ _)
  obtain ⟨ρ2, τ2, e2, f2, q2, u2, o2, c2, k2⟩ := ap (ty := .int) (k := 1) (n := 401) (v := 401) (t := o + 2) (fs' := [.ref (o + 1), .ref (o + 2), .null, .int 0]) rfl (Nat.le_of_ble_eq_true rfl) n1 o1 h8 (Nat.lt_add_of_pos_right (Nat.le_of_ble_eq_true rfl)) (Nat.le_of_ble_eq_true rfl) rfl
  have n2 : τ2.1 = o + 3 := q2
  have U2 : τ2.2.1 = σ.2.1 + 8597 := (u2.trans (congrArg (fun z => z + 401) U1)).trans (Nat.add_assoc _ _ _)
  obtain ⟨ρ3, τ3, e3, f3, q3, u3, o3, c3, k3⟩ := ap (ty := .int) (k := 2) (n := 400) (v := 400) (t := o + 3) (fs' := [.ref (o + 1), .ref (o + 2), .ref (o + 3), .int 0]) rfl (Nat.le_of_ble_eq_true rfl) n2 o2 h8 (Nat.lt_add_of_pos_right (Nat.le_of_ble_eq_true rfl)) (Nat.le_of_ble_eq_true rfl) rfl
  have n3 : τ3.1 = o + 4 := q3
  have U3 : τ3.2.1 = σ.2.1 + 8997 := (u3.trans (congrArg (fun z => z + 400) U2)).trans (Nat.add_assoc _ _ _)
  have K3 : ∀ a, a < o + 4 → a ≠ o → τ3.2.2 a = τ3.2.2 a := fun _ _ _ => rfl
  have K2 : ∀ a, a < o + 3 → a ≠ o → τ3.2.2 a = τ2.2.2 a := fun a ha hne => (K3 a (Nat.lt_of_lt_of_le ha (Nat.add_le_add_left (Nat.le_of_ble_eq_true rfl) o)) hne).trans (k3 a ha hne)
  have K1 : ∀ a, a < o + 2 → a ≠ o → τ3.2.2 a = τ1.2.2 a := fun a ha hne => (K2 a (Nat.lt_of_lt_of_le ha (Nat.add_le_add_left (Nat.le_of_ble_eq_true rfl) o)) hne).trans (k2 a ha hne)
  have K0 : ∀ a, a < o + 1 → a ≠ o → τ3.2.2 a = τ0.2.2 a := fun a ha hne => (K1 a (Nat.lt_of_lt_of_le ha (Nat.add_le_add_left (Nat.le_of_ble_eq_true rfl) o)) hne).trans (k1 a ha hne)
  refine ⟨τ3, ?_, ⟨n3, U3, fun a ha => (K0 a (Nat.lt_of_lt_of_le ha (Nat.le_add_right _ _)) (Nat.ne_of_lt ha)).trans (b0 a ha)⟩, o3, (K1 _ (Nat.add_lt_add_left (Nat.le_of_ble_eq_true rfl) o) (Nat.ne_of_gt (Nat.lt_add_of_pos_right (Nat.le_of_ble_eq_true rfl)))).trans c1, (K2 _ (Nat.add_lt_add_left (Nat.le_of_ble_eq_true rfl) o) (Nat.ne_of_gt (Nat.lt_add_of_pos_right (Nat.le_of_ble_eq_true rfl)))).trans c2, (K3 _ (Nat.add_lt_add_left (Nat.le_of_ble_eq_true rfl) o) (Nat.ne_of_gt (Nat.lt_add_of_pos_right (Nat.le_of_ble_eq_true rfl)))).trans c3⟩
  clear K0 K1 K2 K3 U0 U1 U2 U3
  unfold f_Pm_init
  rw [am_ck_of o0]
  rw [e1, b2s, f1, Option.bind_some, e2, b2s, f2, Option.bind_some, e3, b2s, f3, Option.bind_some]
theorem Lt_init {σ : am_S} {o F : Nat} (ho : σ.1 = o) (h8 : 8 ≤ o) (x1 : Nat) : ∃ σ', f_Lt_init F (am_no σ 3) o x1 = some σ' ∧ IR σ σ' o 6 135175 ∧ σ'.2.2 (o) = some (cO 3 [.ref (x1), .ref (o + 1), .ref (o + 2), .ref (o + 3), .ref (o + 4), .ref (o + 5), .int 0]) ∧ σ'.2.2 (o + 1) = some (cI 32768 fun _ => 0) ∧ σ'.2.2 (o + 2) = some (cI 32768 fun _ => 0) ∧ σ'.2.2 (o + 3) = some (cI 32768 fun _ => 0) ∧ σ'.2.2 (o + 4) = some (cI 4096 fun _ => 0) ∧ σ'.2.2 (o + 5) = some (cI 32768 fun _ => 0) := by
  have n0 : (am_no σ 3).1 = o + 1 := by show σ.1 + 1 = o + 1; rw [ho]
  have U0 : (am_no σ 3).2.1 = σ.2.1 + 7 := rfl
  have o0 : (am_no σ 3).2.2 o = some (.inr (3, [.null, .null, .null, .null, .null, .null, .int 0])) := by rw [← ho]; exact new_at
  have b0 : ∀ a, a < o → (am_no σ 3).2.2 a = σ.2.2 a := fun a ha => new_ne (by omega)
  generalize am_no σ 3 = τ0 at n0 U0 o0 b0 ⊢
  obtain ⟨ρ1, τ1, e1, f1, q1, u1, o1, c1, k1⟩ := ap (ty := .int) (k := 1) (n := 32768) (v := 32768) (t := o + 1) (fs' := [.null, .ref (o + 1), .null, .null, .null, .null, .int 0]) rfl (Nat.le_of_ble_eq_true rfl) n0 o0 h8 (Nat.lt_add_of_pos_right (Nat.le_of_ble_eq_true rfl)) (Nat.le_of_ble_eq_true rfl) rfl
  have n1 : τ1.1 = o + 2 := q1
  have U1 : τ1.2.1 = σ.2.1 + 32775 := (u1.trans (congrArg (fun z => z + 32768) U0)).trans (Nat.add_assoc _ _ _)
  obtain ⟨ρ2, τ2, e2, f2, q2, u2, o2, c2, k2⟩ := ap (ty := .int) (k := 2) (n := 32768) (v := 32768) (t := o + 2) (fs' := [.null, .ref (o + 1), .ref (o + 2), .null, .null, .null, .int 0]) rfl (Nat.le_of_ble_eq_true rfl) n1 o1 h8 (Nat.lt_add_of_pos_right (Nat.le_of_ble_eq_true rfl)) (Nat.le_of_ble_eq_true rfl) rfl
  have n2 : τ2.1 = o + 3 := q2
  have U2 : τ2.2.1 = σ.2.1 + 65543 := (u2.trans (congrArg (fun z => z + 32768) U1)).trans (Nat.add_assoc _ _ _)
  obtain ⟨ρ3, τ3, e3, f3, q3, u3, o3, c3, k3⟩ := ap (ty := .int) (k := 3) (n := 32768) (v := 32768) (t := o + 3) (fs' := [.null, .ref (o + 1), .ref (o + 2), .ref (o + 3), .null, .null, .int 0]) rfl (Nat.le_of_ble_eq_true rfl) n2 o2 h8 (Nat.lt_add_of_pos_right (Nat.le_of_ble_eq_true rfl)) (Nat.le_of_ble_eq_true rfl) rfl
  have n3 : τ3.1 = o + 4 := q3
  have U3 : τ3.2.1 = σ.2.1 + 98311 := (u3.trans (congrArg (fun z => z + 32768) U2)).trans (Nat.add_assoc _ _ _)
  obtain ⟨ρ4, τ4, e4, f4, q4, u4, o4, c4, k4⟩ := ap (ty := .int) (k := 4) (n := 4096) (v := 4096) (t := o + 4) (fs' := [.null, .ref (o + 1), .ref (o + 2), .ref (o + 3), .ref (o + 4), .null, .int 0]) rfl (Nat.le_of_ble_eq_true rfl) n3 o3 h8 (Nat.lt_add_of_pos_right (Nat.le_of_ble_eq_true rfl)) (Nat.le_of_ble_eq_true rfl) rfl
  have n4 : τ4.1 = o + 5 := q4
  have U4 : τ4.2.1 = σ.2.1 + 102407 := (u4.trans (congrArg (fun z => z + 4096) U3)).trans (Nat.add_assoc _ _ _)
  obtain ⟨ρ5, τ5, e5, f5, q5, u5, o5, c5, k5⟩ := ap (ty := .int) (k := 5) (n := 32768) (v := 32768) (t := o + 5) (fs' := [.null, .ref (o + 1), .ref (o + 2), .ref (o + 3), .ref (o + 4), .ref (o + 5), .int 0]) rfl (Nat.le_of_ble_eq_true rfl) n4 o4 h8 (Nat.lt_add_of_pos_right (Nat.le_of_ble_eq_true rfl)) (Nat.le_of_ble_eq_true rfl) rfl
  have n5 : τ5.1 = o + 6 := q5
  have U5 : τ5.2.1 = σ.2.1 + 135175 := (u5.trans (congrArg (fun z => z + 32768) U4)).trans (Nat.add_assoc _ _ _)
  obtain ⟨τ6, f6, n6', u6', o6, k6'⟩ := pa (v := x1) (k := 0) (fs' := [.ref (x1), .ref (o + 1), .ref (o + 2), .ref (o + 3), .ref (o + 4), .ref (o + 5), .int 0]) o5 h8 (Nat.le_of_ble_eq_true rfl) rfl
  have n6 : τ6.1 = o + 6 := n6'.trans n5
  have U6 : τ6.2.1 = σ.2.1 + 135175 := u6'.trans U5
  have k6 : ∀ a, a < o + 6 → a ≠ o → τ6.2.2 a = τ5.2.2 a := fun a _ hne => k6' a hne
  have K6 : ∀ a, a < o + 6 → a ≠ o → τ6.2.2 a = τ6.2.2 a := fun _ _ _ => rfl
  have K5 : ∀ a, a < o + 6 → a ≠ o → τ6.2.2 a = τ5.2.2 a := fun a ha hne => (K6 a (Nat.lt_of_lt_of_le ha (Nat.add_le_add_left (Nat.le_of_ble_eq_true rfl) o)) hne).trans (k6 a ha hne)
  have K4 : ∀ a, a < o + 5 → a ≠ o → τ6.2.2 a = τ4.2.2 a := fun a ha hne => (K5 a (Nat.lt_of_lt_of_le ha (Nat.add_le_add_left (Nat.le_of_ble_eq_true rfl) o)) hne).trans (k5 a ha hne)
  have K3 : ∀ a, a < o + 4 → a ≠ o → τ6.2.2 a = τ3.2.2 a := fun a ha hne => (K4 a (Nat.lt_of_lt_of_le ha (Nat.add_le_add_left (Nat.le_of_ble_eq_true rfl) o)) hne).trans (k4 a ha hne)
  have K2 : ∀ a, a < o + 3 → a ≠ o → τ6.2.2 a = τ2.2.2 a := fun a ha hne => (K3 a (Nat.lt_of_lt_of_le ha (Nat.add_le_add_left (Nat.le_of_ble_eq_true rfl) o)) hne).trans (k3 a ha hne)
  have K1 : ∀ a, a < o + 2 → a ≠ o → τ6.2.2 a = τ1.2.2 a := fun a ha hne => (K2 a (Nat.lt_of_lt_of_le ha (Nat.add_le_add_left (Nat.le_of_ble_eq_true rfl) o)) hne).trans (k2 a ha hne)
  have K0 : ∀ a, a < o + 1 → a ≠ o → τ6.2.2 a = τ0.2.2 a := fun a ha hne => (K1 a (Nat.lt_of_lt_of_le ha (Nat.add_le_add_left (Nat.le_of_ble_eq_true rfl) o)) hne).trans (k1 a ha hne)
  refine ⟨τ6, ?_, ⟨n6, U6, fun a ha => (K0 a (Nat.lt_of_lt_of_le ha (Nat.le_add_right _ _)) (Nat.ne_of_lt ha)).trans (b0 a ha)⟩, o6, (K1 _ (Nat.add_lt_add_left (Nat.le_of_ble_eq_true rfl) o) (Nat.ne_of_gt (Nat.lt_add_of_pos_right (Nat.le_of_ble_eq_true rfl)))).trans c1, (K2 _ (Nat.add_lt_add_left (Nat.le_of_ble_eq_true rfl) o) (Nat.ne_of_gt (Nat.lt_add_of_pos_right (Nat.le_of_ble_eq_true rfl)))).trans c2, (K3 _ (Nat.add_lt_add_left (Nat.le_of_ble_eq_true rfl) o) (Nat.ne_of_gt (Nat.lt_add_of_pos_right (Nat.le_of_ble_eq_true rfl)))).trans c3, (K4 _ (Nat.add_lt_add_left (Nat.le_of_ble_eq_true rfl) o) (Nat.ne_of_gt (Nat.lt_add_of_pos_right (Nat.le_of_ble_eq_true rfl)))).trans c4, (K5 _ (Nat.add_lt_add_left (Nat.le_of_ble_eq_true rfl) o) (Nat.ne_of_gt (Nat.lt_add_of_pos_right (Nat.le_of_ble_eq_true rfl)))).trans c5⟩
  clear K0 K1 K2 K3 K4 K5 K6 U0 U1 U2 U3 U4 U5 U6
  unfold f_Lt_init
  rw [am_ck_of o0]
  rw [e1, b2s, f1, Option.bind_some, e2, b2s, f2, Option.bind_some, e3, b2s, f3, Option.bind_some, e4, b2s, f4, Option.bind_some, e5, b2s, f5, Option.bind_some, f6, Option.bind_some]
theorem Bl_init {σ : am_S} {o F : Nat} (ho : σ.1 = o) (h8 : 8 ≤ o) : ∃ σ', f_Bl_init F (am_no σ 2) o = some σ' ∧ IR σ σ' o 13 202720 ∧ σ'.2.2 (o) = some (cO 2 [.ref (o + 1), .ref (o + 2), .ref (o + 3), .ref (o + 4), .ref (o + 5), .ref (o + 6), .ref (o + 12), .int 0]) ∧ σ'.2.2 (o + 1) = some (cB 32768 fun _ => 0) ∧ σ'.2.2 (o + 2) = some (cI 501 fun _ => 0) ∧ σ'.2.2 (o + 3) = some (cZ 500 fun _ => 0) ∧ σ'.2.2 (o + 4) = some (cI 500 fun _ => 0) ∧ σ'.2.2 (o + 5) = some (cI 500 fun _ => 0) ∧ σ'.2.2 (o + 6) = some (cO 3 [.ref (o + 1), .ref (o + 7), .ref (o + 8), .ref (o + 9), .ref (o + 10), .ref (o + 11), .int 0]) ∧ σ'.2.2 (o + 7) = some (cI 32768 fun _ => 0) ∧ σ'.2.2 (o + 8) = some (cI 32768 fun _ => 0) ∧ σ'.2.2 (o + 9) = some (cI 32768 fun _ => 0) ∧ σ'.2.2 (o + 10) = some (cI 4096 fun _ => 0) ∧ σ'.2.2 (o + 11) = some (cI 32768 fun _ => 0) ∧ σ'.2.2 (o + 12) = some (cI 32768 fun _ => 0) := by
  have n0 : (am_no σ 2).1 = o + 1 := by show σ.1 + 1 = o + 1; rw [ho]
  have U0 : (am_no σ 2).2.1 = σ.2.1 + 8 := rfl
  have o0 : (am_no σ 2).2.2 o = some (.inr (2, [.null, .null, .null, .null, .null, .null, .null, .int 0])) := by rw [← ho]; exact new_at
  have b0 : ∀ a, a < o → (am_no σ 2).2.2 a = σ.2.2 a := fun a ha => new_ne (by omega)
  generalize am_no σ 2 = τ0 at n0 U0 o0 b0 ⊢
  obtain ⟨ρ1, τ1, e1, f1, q1, u1, o1, c1, k1⟩ := ap (ty := .byte) (k := 0) (n := 32768) (v := 32768) (t := o + 1) (fs' := [.ref (o + 1), .null, .null, .null, .null, .null, .null, .int 0]) rfl (Nat.le_of_ble_eq_true rfl) n0 o0 h8 (Nat.lt_add_of_pos_right (Nat.le_of_ble_eq_true rfl)) (Nat.le_of_ble_eq_true rfl) rfl
  have n1 : τ1.1 = o + 2 := q1
  have U1 : τ1.2.1 = σ.2.1 + 32776 := (u1.trans (congrArg (fun z => z + 32768) U0)).trans (Nat.add_assoc _ _ _)
  obtain ⟨ρ2, τ2, e2, f2, q2, u2, o2, c2, k2⟩ := ap (ty := .int) (k := 1) (n := 501) (v := 501) (t := o + 2) (fs' := [.ref (o + 1), .ref (o + 2), .null, .null, .null, .null, .null, .int 0]) rfl (Nat.le_of_ble_eq_true rfl) n1 o1 h8 (Nat.lt_add_of_pos_right (Nat.le_of_ble_eq_true rfl)) (Nat.le_of_ble_eq_true rfl) rfl
  have n2 : τ2.1 = o + 3 := q2
  have U2 : τ2.2.1 = σ.2.1 + 33277 := (u2.trans (congrArg (fun z => z + 501) U1)).trans (Nat.add_assoc _ _ _)
  obtain ⟨ρ3, τ3, e3, f3, q3, u3, o3, c3, k3⟩ := ap (ty := .boolean) (k := 2) (n := 500) (v := 500) (t := o + 3) (fs' := [.ref (o + 1), .ref (o + 2), .ref (o + 3), .null, .null, .null, .null, .int 0]) rfl (Nat.le_of_ble_eq_true rfl) n2 o2 h8 (Nat.lt_add_of_pos_right (Nat.le_of_ble_eq_true rfl)) (Nat.le_of_ble_eq_true rfl) rfl
  have n3 : τ3.1 = o + 4 := q3
  have U3 : τ3.2.1 = σ.2.1 + 33777 := (u3.trans (congrArg (fun z => z + 500) U2)).trans (Nat.add_assoc _ _ _)
  obtain ⟨ρ4, τ4, e4, f4, q4, u4, o4, c4, k4⟩ := ap (ty := .int) (k := 3) (n := 500) (v := 500) (t := o + 4) (fs' := [.ref (o + 1), .ref (o + 2), .ref (o + 3), .ref (o + 4), .null, .null, .null, .int 0]) rfl (Nat.le_of_ble_eq_true rfl) n3 o3 h8 (Nat.lt_add_of_pos_right (Nat.le_of_ble_eq_true rfl)) (Nat.le_of_ble_eq_true rfl) rfl
  have n4 : τ4.1 = o + 5 := q4
  have U4 : τ4.2.1 = σ.2.1 + 34277 := (u4.trans (congrArg (fun z => z + 500) U3)).trans (Nat.add_assoc _ _ _)
  obtain ⟨ρ5, τ5, e5, f5, q5, u5, o5, c5, k5⟩ := ap (ty := .int) (k := 4) (n := 500) (v := 500) (t := o + 5) (fs' := [.ref (o + 1), .ref (o + 2), .ref (o + 3), .ref (o + 4), .ref (o + 5), .null, .null, .int 0]) rfl (Nat.le_of_ble_eq_true rfl) n4 o4 h8 (Nat.lt_add_of_pos_right (Nat.le_of_ble_eq_true rfl)) (Nat.le_of_ble_eq_true rfl) rfl
  have n5 : τ5.1 = o + 6 := q5
  have U5 : τ5.2.1 = σ.2.1 + 34777 := (u5.trans (congrArg (fun z => z + 500) U4)).trans (Nat.add_assoc _ _ _)
  have g6 : am_gA (am_no τ5 3) 2 0 o = some (o + 1) := gA_of (show (am_no τ5 3).2.2 o = some (.inr (2, [.ref (o + 1), .ref (o + 2), .ref (o + 3), .ref (o + 4), .ref (o + 5), .null, .null, .int 0])) from (new_ne (by rw [n5]; exact Nat.ne_of_lt (Nat.lt_add_of_pos_right (Nat.le_of_ble_eq_true rfl)))).trans o5) rfl
  obtain ⟨ρ6, e6, ⟨m6, w6, b6⟩, s6_0, s6_1, s6_2, s6_3, s6_4, s6_5⟩ := Lt_init (F := F) n5 (Nat.le_trans h8 (Nat.le_add_right _ _)) (o + 1)
  obtain ⟨τ6, f6, n6', u6', o6, k6'⟩ := pa (v := o + 6) (k := 5) (fs' := [.ref (o + 1), .ref (o + 2), .ref (o + 3), .ref (o + 4), .ref (o + 5), .ref (o + 6), .null, .int 0]) ((b6 o (Nat.lt_add_of_pos_right (Nat.le_of_ble_eq_true rfl))).trans o5) h8 (Nat.le_of_ble_eq_true rfl) rfl
  have n6 : τ6.1 = o + 12 := n6'.trans m6
  have U6 : τ6.2.1 = σ.2.1 + 169952 := ((u6'.trans w6).trans (congrArg (fun z => z + 135175) U5)).trans (Nat.add_assoc _ _ _)
  have k6 : ∀ a, a < o + 6 → a ≠ o → τ6.2.2 a = τ5.2.2 a := fun a ha hne => (k6' a hne).trans (b6 a ha)
  obtain ⟨ρ7, τ7, e7, f7, q7, u7, o7, c7, k7⟩ := ap (ty := .int) (k := 6) (n := 32768) (v := 32768) (t := o + 12) (fs' := [.ref (o + 1), .ref (o + 2), .ref (o + 3), .ref (o + 4), .ref (o + 5), .ref (o + 6), .ref (o + 12), .int 0]) rfl (Nat.le_of_ble_eq_true rfl) n6 o6 h8 (Nat.lt_add_of_pos_right (Nat.le_of_ble_eq_true rfl)) (Nat.le_of_ble_eq_true rfl) rfl
  have n7 : τ7.1 = o + 13 := q7
  have U7 : τ7.2.1 = σ.2.1 + 202720 := (u7.trans (congrArg (fun z => z + 32768) U6)).trans (Nat.add_assoc _ _ _)
  have K7 : ∀ a, a < o + 13 → a ≠ o → τ7.2.2 a = τ7.2.2 a := fun _ _ _ => rfl
  have K6 : ∀ a, a < o + 12 → a ≠ o → τ7.2.2 a = τ6.2.2 a := fun a ha hne => (K7 a (Nat.lt_of_lt_of_le ha (Nat.add_le_add_left (Nat.le_of_ble_eq_true rfl) o)) hne).trans (k7 a ha hne)
  have K5 : ∀ a, a < o + 6 → a ≠ o → τ7.2.2 a = τ5.2.2 a := fun a ha hne => (K6 a (Nat.lt_of_lt_of_le ha (Nat.add_le_add_left (Nat.le_of_ble_eq_true rfl) o)) hne).trans (k6 a ha hne)
  have K4 : ∀ a, a < o + 5 → a ≠ o → τ7.2.2 a = τ4.2.2 a := fun a ha hne => (K5 a (Nat.lt_of_lt_of_le ha (Nat.add_le_add_left (Nat.le_of_ble_eq_true rfl) o)) hne).trans (k5 a ha hne)
  have K3 : ∀ a, a < o + 4 → a ≠ o → τ7.2.2 a = τ3.2.2 a := fun a ha hne => (K4 a (Nat.lt_of_lt_of_le ha (Nat.add_le_add_left (Nat.le_of_ble_eq_true rfl) o)) hne).trans (k4 a ha hne)
  have K2 : ∀ a, a < o + 3 → a ≠ o → τ7.2.2 a = τ2.2.2 a := fun a ha hne => (K3 a (Nat.lt_of_lt_of_le ha (Nat.add_le_add_left (Nat.le_of_ble_eq_true rfl) o)) hne).trans (k3 a ha hne)
  have K1 : ∀ a, a < o + 2 → a ≠ o → τ7.2.2 a = τ1.2.2 a := fun a ha hne => (K2 a (Nat.lt_of_lt_of_le ha (Nat.add_le_add_left (Nat.le_of_ble_eq_true rfl) o)) hne).trans (k2 a ha hne)
  have K0 : ∀ a, a < o + 1 → a ≠ o → τ7.2.2 a = τ0.2.2 a := fun a ha hne => (K1 a (Nat.lt_of_lt_of_le ha (Nat.add_le_add_left (Nat.le_of_ble_eq_true rfl) o)) hne).trans (k1 a ha hne)
  refine ⟨τ7, ?_, ⟨n7, U7, fun a ha => (K0 a (Nat.lt_of_lt_of_le ha (Nat.le_add_right _ _)) (Nat.ne_of_lt ha)).trans (b0 a ha)⟩, o7, (K1 _ (Nat.add_lt_add_left (Nat.le_of_ble_eq_true rfl) o) (Nat.ne_of_gt (Nat.lt_add_of_pos_right (Nat.le_of_ble_eq_true rfl)))).trans c1, (K2 _ (Nat.add_lt_add_left (Nat.le_of_ble_eq_true rfl) o) (Nat.ne_of_gt (Nat.lt_add_of_pos_right (Nat.le_of_ble_eq_true rfl)))).trans c2, (K3 _ (Nat.add_lt_add_left (Nat.le_of_ble_eq_true rfl) o) (Nat.ne_of_gt (Nat.lt_add_of_pos_right (Nat.le_of_ble_eq_true rfl)))).trans c3, (K4 _ (Nat.add_lt_add_left (Nat.le_of_ble_eq_true rfl) o) (Nat.ne_of_gt (Nat.lt_add_of_pos_right (Nat.le_of_ble_eq_true rfl)))).trans c4, (K5 _ (Nat.add_lt_add_left (Nat.le_of_ble_eq_true rfl) o) (Nat.ne_of_gt (Nat.lt_add_of_pos_right (Nat.le_of_ble_eq_true rfl)))).trans c5, (K6 _ (Nat.add_lt_add_left (Nat.le_of_ble_eq_true rfl) o) (Nat.ne_of_gt (Nat.lt_add_of_pos_right (Nat.le_of_ble_eq_true rfl)))).trans ((k6' _ (Nat.ne_of_gt (Nat.lt_add_of_pos_right (Nat.le_of_ble_eq_true rfl)))).trans s6_0), (K6 _ (Nat.add_lt_add_left (Nat.le_of_ble_eq_true rfl) o) (Nat.ne_of_gt (Nat.lt_add_of_pos_right (Nat.le_of_ble_eq_true rfl)))).trans ((k6' _ (Nat.ne_of_gt (Nat.lt_add_of_pos_right (Nat.le_of_ble_eq_true rfl)))).trans s6_1), (K6 _ (Nat.add_lt_add_left (Nat.le_of_ble_eq_true rfl) o) (Nat.ne_of_gt (Nat.lt_add_of_pos_right (Nat.le_of_ble_eq_true rfl)))).trans ((k6' _ (Nat.ne_of_gt (Nat.lt_add_of_pos_right (Nat.le_of_ble_eq_true rfl)))).trans s6_2), (K6 _ (Nat.add_lt_add_left (Nat.le_of_ble_eq_true rfl) o) (Nat.ne_of_gt (Nat.lt_add_of_pos_right (Nat.le_of_ble_eq_true rfl)))).trans ((k6' _ (Nat.ne_of_gt (Nat.lt_add_of_pos_right (Nat.le_of_ble_eq_true rfl)))).trans s6_3), (K6 _ (Nat.add_lt_add_left (Nat.le_of_ble_eq_true rfl) o) (Nat.ne_of_gt (Nat.lt_add_of_pos_right (Nat.le_of_ble_eq_true rfl)))).trans ((k6' _ (Nat.ne_of_gt (Nat.lt_add_of_pos_right (Nat.le_of_ble_eq_true rfl)))).trans s6_4), (K6 _ (Nat.add_lt_add_left (Nat.le_of_ble_eq_true rfl) o) (Nat.ne_of_gt (Nat.lt_add_of_pos_right (Nat.le_of_ble_eq_true rfl)))).trans ((k6' _ (Nat.ne_of_gt (Nat.lt_add_of_pos_right (Nat.le_of_ble_eq_true rfl)))).trans s6_5), (K7 _ (Nat.add_lt_add_left (Nat.le_of_ble_eq_true rfl) o) (Nat.ne_of_gt (Nat.lt_add_of_pos_right (Nat.le_of_ble_eq_true rfl)))).trans c7⟩
  clear K0 K1 K2 K3 K4 K5 K6 K7 U0 U1 U2 U3 U4 U5 U6 U7
  unfold f_Bl_init
  rw [am_ck_of o0]
  rw [e1, b2s, f1, Option.bind_some, e2, b2s, f2, Option.bind_some, e3, b2s, f3, Option.bind_some, e4, b2s, f4, Option.bind_some, e5, b2s, f5, Option.bind_some, g6, Option.bind_some, n5, e6, Option.bind_some, f6, Option.bind_some, e7, b2s, f7, Option.bind_some]
theorem Rn_init {σ : am_S} {o F : Nat} (ho : σ.1 = o) (h8 : 8 ≤ o) (x1 : Nat) : ∃ σ', f_Rn_init F (am_no σ 5) o x1 = some σ' ∧ IR σ σ' o 7 4509 ∧ σ'.2.2 (o) = some (cO 5 [.ref (x1), .ref (o + 1), .ref (o + 2), .ref (o + 3), .ref (o + 4), .ref (o + 5), .ref (o + 6), .int 0, .int 0]) ∧ σ'.2.2 (o + 1) = some (cI 400 fun _ => 0) ∧ σ'.2.2 (o + 2) = some (cI 400 fun _ => 0) ∧ σ'.2.2 (o + 3) = some (cZ 400 fun _ => 0) ∧ σ'.2.2 (o + 4) = some (cI 2500 fun _ => 0) ∧ σ'.2.2 (o + 5) = some (cI 400 fun _ => 0) ∧ σ'.2.2 (o + 6) = some (cI 400 fun _ => 0) := by
  have n0 : (am_no σ 5).1 = o + 1 := by show σ.1 + 1 = o + 1; rw [ho]
  have U0 : (am_no σ 5).2.1 = σ.2.1 + 9 := rfl
  have o0 : (am_no σ 5).2.2 o = some (.inr (5, [.null, .null, .null, .null, .null, .null, .null, .int 0, .int 0])) := by rw [← ho]; exact new_at
  have b0 : ∀ a, a < o → (am_no σ 5).2.2 a = σ.2.2 a := fun a ha => new_ne (by omega)
  generalize am_no σ 5 = τ0 at n0 U0 o0 b0 ⊢
  obtain ⟨ρ1, τ1, e1, f1, q1, u1, o1, c1, k1⟩ := ap (ty := .int) (k := 1) (n := 400) (v := 400) (t := o + 1) (fs' := [.null, .ref (o + 1), .null, .null, .null, .null, .null, .int 0, .int 0]) rfl (Nat.le_of_ble_eq_true rfl) n0 o0 h8 (Nat.lt_add_of_pos_right (Nat.le_of_ble_eq_true rfl)) (Nat.le_of_ble_eq_true rfl) rfl
  have n1 : τ1.1 = o + 2 := q1
  have U1 : τ1.2.1 = σ.2.1 + 409 := (u1.trans (congrArg (fun z => z + 400) U0)).trans (Nat.add_assoc _ _ _)
  obtain ⟨ρ2, τ2, e2, f2, q2, u2, o2, c2, k2⟩ := ap (ty := .int) (k := 2) (n := 400) (v := 400) (t := o + 2) (fs' := [.null, .ref (o + 1), .ref (o + 2), .null, .null, .null, .null, .int 0, .int 0]) rfl (Nat.le_of_ble_eq_true rfl) n1 o1 h8 (Nat.lt_add_of_pos_right (Nat.le_of_ble_eq_true rfl)) (Nat.le_of_ble_eq_true rfl) rfl
  have n2 : τ2.1 = o + 3 := q2
  have U2 : τ2.2.1 = σ.2.1 + 809 := (u2.trans (congrArg (fun z => z + 400) U1)).trans (Nat.add_assoc _ _ _)
  obtain ⟨ρ3, τ3, e3, f3, q3, u3, o3, c3, k3⟩ := ap (ty := .boolean) (k := 3) (n := 400) (v := 400) (t := o + 3) (fs' := [.null, .ref (o + 1), .ref (o + 2), .ref (o + 3), .null, .null, .null, .int 0, .int 0]) rfl (Nat.le_of_ble_eq_true rfl) n2 o2 h8 (Nat.lt_add_of_pos_right (Nat.le_of_ble_eq_true rfl)) (Nat.le_of_ble_eq_true rfl) rfl
  have n3 : τ3.1 = o + 4 := q3
  have U3 : τ3.2.1 = σ.2.1 + 1209 := (u3.trans (congrArg (fun z => z + 400) U2)).trans (Nat.add_assoc _ _ _)
  obtain ⟨ρ4, τ4, e4, f4, q4, u4, o4, c4, k4⟩ := ap (ty := .int) (k := 4) (n := 2500) (v := 2500) (t := o + 4) (fs' := [.null, .ref (o + 1), .ref (o + 2), .ref (o + 3), .ref (o + 4), .null, .null, .int 0, .int 0]) rfl (Nat.le_of_ble_eq_true rfl) n3 o3 h8 (Nat.lt_add_of_pos_right (Nat.le_of_ble_eq_true rfl)) (Nat.le_of_ble_eq_true rfl) rfl
  have n4 : τ4.1 = o + 5 := q4
  have U4 : τ4.2.1 = σ.2.1 + 3709 := (u4.trans (congrArg (fun z => z + 2500) U3)).trans (Nat.add_assoc _ _ _)
  obtain ⟨ρ5, τ5, e5, f5, q5, u5, o5, c5, k5⟩ := ap (ty := .int) (k := 5) (n := 400) (v := 400) (t := o + 5) (fs' := [.null, .ref (o + 1), .ref (o + 2), .ref (o + 3), .ref (o + 4), .ref (o + 5), .null, .int 0, .int 0]) rfl (Nat.le_of_ble_eq_true rfl) n4 o4 h8 (Nat.lt_add_of_pos_right (Nat.le_of_ble_eq_true rfl)) (Nat.le_of_ble_eq_true rfl) rfl
  have n5 : τ5.1 = o + 6 := q5
  have U5 : τ5.2.1 = σ.2.1 + 4109 := (u5.trans (congrArg (fun z => z + 400) U4)).trans (Nat.add_assoc _ _ _)
  obtain ⟨ρ6, τ6, e6, f6, q6, u6, o6, c6, k6⟩ := ap (ty := .int) (k := 6) (n := 400) (v := 400) (t := o + 6) (fs' := [.null, .ref (o + 1), .ref (o + 2), .ref (o + 3), .ref (o + 4), .ref (o + 5), .ref (o + 6), .int 0, .int 0]) rfl (Nat.le_of_ble_eq_true rfl) n5 o5 h8 (Nat.lt_add_of_pos_right (Nat.le_of_ble_eq_true rfl)) (Nat.le_of_ble_eq_true rfl) rfl
  have n6 : τ6.1 = o + 7 := q6
  have U6 : τ6.2.1 = σ.2.1 + 4509 := (u6.trans (congrArg (fun z => z + 400) U5)).trans (Nat.add_assoc _ _ _)
  obtain ⟨τ7, f7, n7', u7', o7, k7'⟩ := pa (v := x1) (k := 0) (fs' := [.ref (x1), .ref (o + 1), .ref (o + 2), .ref (o + 3), .ref (o + 4), .ref (o + 5), .ref (o + 6), .int 0, .int 0]) o6 h8 (Nat.le_of_ble_eq_true rfl) rfl
  have n7 : τ7.1 = o + 7 := n7'.trans n6
  have U7 : τ7.2.1 = σ.2.1 + 4509 := u7'.trans U6
  have k7 : ∀ a, a < o + 7 → a ≠ o → τ7.2.2 a = τ6.2.2 a := fun a _ hne => k7' a hne
  have K7 : ∀ a, a < o + 7 → a ≠ o → τ7.2.2 a = τ7.2.2 a := fun _ _ _ => rfl
  have K6 : ∀ a, a < o + 7 → a ≠ o → τ7.2.2 a = τ6.2.2 a := fun a ha hne => (K7 a (Nat.lt_of_lt_of_le ha (Nat.add_le_add_left (Nat.le_of_ble_eq_true rfl) o)) hne).trans (k7 a ha hne)
  have K5 : ∀ a, a < o + 6 → a ≠ o → τ7.2.2 a = τ5.2.2 a := fun a ha hne => (K6 a (Nat.lt_of_lt_of_le ha (Nat.add_le_add_left (Nat.le_of_ble_eq_true rfl) o)) hne).trans (k6 a ha hne)
  have K4 : ∀ a, a < o + 5 → a ≠ o → τ7.2.2 a = τ4.2.2 a := fun a ha hne => (K5 a (Nat.lt_of_lt_of_le ha (Nat.add_le_add_left (Nat.le_of_ble_eq_true rfl) o)) hne).trans (k5 a ha hne)
  have K3 : ∀ a, a < o + 4 → a ≠ o → τ7.2.2 a = τ3.2.2 a := fun a ha hne => (K4 a (Nat.lt_of_lt_of_le ha (Nat.add_le_add_left (Nat.le_of_ble_eq_true rfl) o)) hne).trans (k4 a ha hne)
  have K2 : ∀ a, a < o + 3 → a ≠ o → τ7.2.2 a = τ2.2.2 a := fun a ha hne => (K3 a (Nat.lt_of_lt_of_le ha (Nat.add_le_add_left (Nat.le_of_ble_eq_true rfl) o)) hne).trans (k3 a ha hne)
  have K1 : ∀ a, a < o + 2 → a ≠ o → τ7.2.2 a = τ1.2.2 a := fun a ha hne => (K2 a (Nat.lt_of_lt_of_le ha (Nat.add_le_add_left (Nat.le_of_ble_eq_true rfl) o)) hne).trans (k2 a ha hne)
  have K0 : ∀ a, a < o + 1 → a ≠ o → τ7.2.2 a = τ0.2.2 a := fun a ha hne => (K1 a (Nat.lt_of_lt_of_le ha (Nat.add_le_add_left (Nat.le_of_ble_eq_true rfl) o)) hne).trans (k1 a ha hne)
  refine ⟨τ7, ?_, ⟨n7, U7, fun a ha => (K0 a (Nat.lt_of_lt_of_le ha (Nat.le_add_right _ _)) (Nat.ne_of_lt ha)).trans (b0 a ha)⟩, o7, (K1 _ (Nat.add_lt_add_left (Nat.le_of_ble_eq_true rfl) o) (Nat.ne_of_gt (Nat.lt_add_of_pos_right (Nat.le_of_ble_eq_true rfl)))).trans c1, (K2 _ (Nat.add_lt_add_left (Nat.le_of_ble_eq_true rfl) o) (Nat.ne_of_gt (Nat.lt_add_of_pos_right (Nat.le_of_ble_eq_true rfl)))).trans c2, (K3 _ (Nat.add_lt_add_left (Nat.le_of_ble_eq_true rfl) o) (Nat.ne_of_gt (Nat.lt_add_of_pos_right (Nat.le_of_ble_eq_true rfl)))).trans c3, (K4 _ (Nat.add_lt_add_left (Nat.le_of_ble_eq_true rfl) o) (Nat.ne_of_gt (Nat.lt_add_of_pos_right (Nat.le_of_ble_eq_true rfl)))).trans c4, (K5 _ (Nat.add_lt_add_left (Nat.le_of_ble_eq_true rfl) o) (Nat.ne_of_gt (Nat.lt_add_of_pos_right (Nat.le_of_ble_eq_true rfl)))).trans c5, (K6 _ (Nat.add_lt_add_left (Nat.le_of_ble_eq_true rfl) o) (Nat.ne_of_gt (Nat.lt_add_of_pos_right (Nat.le_of_ble_eq_true rfl)))).trans c6⟩
  clear K0 K1 K2 K3 K4 K5 K6 K7 U0 U1 U2 U3 U4 U5 U6 U7
  unfold f_Rn_init
  rw [am_ck_of o0]
  rw [e1, b2s, f1, Option.bind_some, e2, b2s, f2, Option.bind_some, e3, b2s, f3, Option.bind_some, e4, b2s, f4, Option.bind_some, e5, b2s, f5, Option.bind_some, e6, b2s, f6, Option.bind_some, f7, Option.bind_some]
theorem Pa_init {σ : am_S} {o F : Nat} (ho : σ.1 = o) (h8 : 8 ≤ o) (x1 : Nat) : ∃ σ', f_Pa_init F (am_no σ 8) o x1 = some σ' ∧ IR σ σ' o 1 4 ∧ σ'.2.2 (o) = some (cO 8 [.ref (x1), .int 0, .int 0, .int 0]) := by
  have n0 : (am_no σ 8).1 = o + 1 := by show σ.1 + 1 = o + 1; rw [ho]
  have U0 : (am_no σ 8).2.1 = σ.2.1 + 4 := rfl
  have o0 : (am_no σ 8).2.2 o = some (.inr (8, [.null, .int 0, .int 0, .int 0])) := by rw [← ho]; exact new_at
  have b0 : ∀ a, a < o → (am_no σ 8).2.2 a = σ.2.2 a := fun a ha => new_ne (by omega)
  generalize am_no σ 8 = τ0 at n0 U0 o0 b0 ⊢
  obtain ⟨τ1, f1, n1', u1', o1, k1'⟩ := pa (v := x1) (k := 0) (fs' := [.ref (x1), .int 0, .int 0, .int 0]) o0 h8 (Nat.le_of_ble_eq_true rfl) rfl
  have n1 : τ1.1 = o + 1 := n1'.trans n0
  have U1 : τ1.2.1 = σ.2.1 + 4 := u1'.trans U0
  have k1 : ∀ a, a < o + 1 → a ≠ o → τ1.2.2 a = τ0.2.2 a := fun a _ hne => k1' a hne
  have K1 : ∀ a, a < o + 1 → a ≠ o → τ1.2.2 a = τ1.2.2 a := fun _ _ _ => rfl
  have K0 : ∀ a, a < o + 1 → a ≠ o → τ1.2.2 a = τ0.2.2 a := fun a ha hne => (K1 a (Nat.lt_of_lt_of_le ha (Nat.add_le_add_left (Nat.le_of_ble_eq_true rfl) o)) hne).trans (k1 a ha hne)
  refine ⟨τ1, ?_, ⟨n1, U1, fun a ha => (K0 a (Nat.lt_of_lt_of_le ha (Nat.le_add_right _ _)) (Nat.ne_of_lt ha)).trans (b0 a ha)⟩, o1⟩
  clear K0 K1 U0 U1
  unfold f_Pa_init
  rw [am_ck_of o0]
  rw [f1, Option.bind_some]
theorem Tm_init {σ : am_S} {o F : Nat} (ho : σ.1 = o) (h8 : 8 ≤ o) (x1 : Nat) : ∃ σ', f_Tm_init F (am_no σ 7) o x1 = some σ' ∧ IR σ σ' o 8 106360 ∧ σ'.2.2 (o) = some (cO 7 [.ref (x1), .ref (o + 5), .ref (o + 6), .ref (o + 7), .ref (o + 1), .ref (o + 2), .ref (o + 3), .ref (o + 4), .int 0, .int 0, .int 0]) ∧ σ'.2.2 (o + 1) = some (cI 40401 fun _ => 0) ∧ σ'.2.2 (o + 2) = some (cI 200 fun _ => 0) ∧ σ'.2.2 (o + 3) = some (cI 200 fun _ => 0) ∧ σ'.2.2 (o + 4) = some (cB 65536 fun _ => 0) ∧ σ'.2.2 (o + 5) = some (cO 8 [.ref (x1), .int 0, .int 0, .int 0]) ∧ σ'.2.2 (o + 6) = some (cO 8 [.ref (x1), .int 0, .int 0, .int 0]) ∧ σ'.2.2 (o + 7) = some (cO 8 [.ref (x1), .int 0, .int 0, .int 0]) := by
  have n0 : (am_no σ 7).1 = o + 1 := by show σ.1 + 1 = o + 1; rw [ho]
  have U0 : (am_no σ 7).2.1 = σ.2.1 + 11 := rfl
  have o0 : (am_no σ 7).2.2 o = some (.inr (7, [.null, .null, .null, .null, .null, .null, .null, .null, .int 0, .int 0, .int 0])) := by rw [← ho]; exact new_at
  have b0 : ∀ a, a < o → (am_no σ 7).2.2 a = σ.2.2 a := fun a ha => new_ne (by omega)
  generalize am_no σ 7 = τ0 at n0 U0 o0 b0 ⊢
  obtain ⟨ρ1, τ1, e1, f1, q1, u1, o1, c1, k1⟩ := ap (ty := .int) (k := 4) (n := 40401) (v := 40401) (t := o + 1) (fs' := [.null, .null, .null, .null, .ref (o + 1), .null, .null, .null, .int 0, .int 0, .int 0]) rfl (Nat.le_of_ble_eq_true rfl) n0 o0 h8 (Nat.lt_add_of_pos_right (Nat.le_of_ble_eq_true rfl)) (Nat.le_of_ble_eq_true rfl) rfl
  have n1 : τ1.1 = o + 2 := q1
  have U1 : τ1.2.1 = σ.2.1 + 40412 := (u1.trans (congrArg (fun z => z + 40401) U0)).trans (Nat.add_assoc _ _ _)
  obtain ⟨ρ2, τ2, e2, f2, q2, u2, o2, c2, k2⟩ := ap (ty := .int) (k := 5) (n := 200) (v := 200) (t := o + 2) (fs' := [.null, .null, .null, .null, .ref (o + 1), .ref (o + 2), .null, .null, .int 0, .int 0, .int 0]) rfl (Nat.le_of_ble_eq_true rfl) n1 o1 h8 (Nat.lt_add_of_pos_right (Nat.le_of_ble_eq_true rfl)) (Nat.le_of_ble_eq_true rfl) rfl
  have n2 : τ2.1 = o + 3 := q2
  have U2 : τ2.2.1 = σ.2.1 + 40612 := (u2.trans (congrArg (fun z => z + 200) U1)).trans (Nat.add_assoc _ _ _)
  obtain ⟨ρ3, τ3, e3, f3, q3, u3, o3, c3, k3⟩ := ap (ty := .int) (k := 6) (n := 200) (v := 200) (t := o + 3) (fs' := [.null, .null, .null, .null, .ref (o + 1), .ref (o + 2), .ref (o + 3), .null, .int 0, .int 0, .int 0]) rfl (Nat.le_of_ble_eq_true rfl) n2 o2 h8 (Nat.lt_add_of_pos_right (Nat.le_of_ble_eq_true rfl)) (Nat.le_of_ble_eq_true rfl) rfl
  have n3 : τ3.1 = o + 4 := q3
  have U3 : τ3.2.1 = σ.2.1 + 40812 := (u3.trans (congrArg (fun z => z + 200) U2)).trans (Nat.add_assoc _ _ _)
  obtain ⟨ρ4, τ4, e4, f4, q4, u4, o4, c4, k4⟩ := ap (ty := .byte) (k := 7) (n := 65536) (v := 65536) (t := o + 4) (fs' := [.null, .null, .null, .null, .ref (o + 1), .ref (o + 2), .ref (o + 3), .ref (o + 4), .int 0, .int 0, .int 0]) rfl (Nat.le_of_ble_eq_true rfl) n3 o3 h8 (Nat.lt_add_of_pos_right (Nat.le_of_ble_eq_true rfl)) (Nat.le_of_ble_eq_true rfl) rfl
  have n4 : τ4.1 = o + 5 := q4
  have U4 : τ4.2.1 = σ.2.1 + 106348 := (u4.trans (congrArg (fun z => z + 65536) U3)).trans (Nat.add_assoc _ _ _)
  obtain ⟨τ5, f5, n5', u5', o5, k5'⟩ := pa (v := x1) (k := 0) (fs' := [.ref (x1), .null, .null, .null, .ref (o + 1), .ref (o + 2), .ref (o + 3), .ref (o + 4), .int 0, .int 0, .int 0]) o4 h8 (Nat.le_of_ble_eq_true rfl) rfl
  have n5 : τ5.1 = o + 5 := n5'.trans n4
  have U5 : τ5.2.1 = σ.2.1 + 106348 := u5'.trans U4
  have k5 : ∀ a, a < o + 5 → a ≠ o → τ5.2.2 a = τ4.2.2 a := fun a _ hne => k5' a hne
  obtain ⟨ρ6, e6, ⟨m6, w6, b6⟩, s6_0⟩ := Pa_init (F := F) n5 (Nat.le_trans h8 (Nat.le_add_right _ _)) (x1)
  obtain ⟨τ6, f6, n6', u6', o6, k6'⟩ := pa (v := o + 5) (k := 1) (fs' := [.ref (x1), .ref (o + 5), .null, .null, .ref (o + 1), .ref (o + 2), .ref (o + 3), .ref (o + 4), .int 0, .int 0, .int 0]) ((b6 o (Nat.lt_add_of_pos_right (Nat.le_of_ble_eq_true rfl))).trans o5) h8 (Nat.le_of_ble_eq_true rfl) rfl
  have n6 : τ6.1 = o + 6 := n6'.trans m6
  have U6 : τ6.2.1 = σ.2.1 + 106352 := ((u6'.trans w6).trans (congrArg (fun z => z + 4) U5)).trans (Nat.add_assoc _ _ _)
  have k6 : ∀ a, a < o + 5 → a ≠ o → τ6.2.2 a = τ5.2.2 a := fun a ha hne => (k6' a hne).trans (b6 a ha)
  obtain ⟨ρ7, e7, ⟨m7, w7, b7⟩, s7_0⟩ := Pa_init (F := F) n6 (Nat.le_trans h8 (Nat.le_add_right _ _)) (x1)
  obtain ⟨τ7, f7, n7', u7', o7, k7'⟩ := pa (v := o + 6) (k := 2) (fs' := [.ref (x1), .ref (o + 5), .ref (o + 6), .null, .ref (o + 1), .ref (o + 2), .ref (o + 3), .ref (o + 4), .int 0, .int 0, .int 0]) ((b7 o (Nat.lt_add_of_pos_right (Nat.le_of_ble_eq_true rfl))).trans o6) h8 (Nat.le_of_ble_eq_true rfl) rfl
  have n7 : τ7.1 = o + 7 := n7'.trans m7
  have U7 : τ7.2.1 = σ.2.1 + 106356 := ((u7'.trans w7).trans (congrArg (fun z => z + 4) U6)).trans (Nat.add_assoc _ _ _)
  have k7 : ∀ a, a < o + 6 → a ≠ o → τ7.2.2 a = τ6.2.2 a := fun a ha hne => (k7' a hne).trans (b7 a ha)
  obtain ⟨ρ8, e8, ⟨m8, w8, b8⟩, s8_0⟩ := Pa_init (F := F) n7 (Nat.le_trans h8 (Nat.le_add_right _ _)) (x1)
  obtain ⟨τ8, f8, n8', u8', o8, k8'⟩ := pa (v := o + 7) (k := 3) (fs' := [.ref (x1), .ref (o + 5), .ref (o + 6), .ref (o + 7), .ref (o + 1), .ref (o + 2), .ref (o + 3), .ref (o + 4), .int 0, .int 0, .int 0]) ((b8 o (Nat.lt_add_of_pos_right (Nat.le_of_ble_eq_true rfl))).trans o7) h8 (Nat.le_of_ble_eq_true rfl) rfl
  have n8 : τ8.1 = o + 8 := n8'.trans m8
  have U8 : τ8.2.1 = σ.2.1 + 106360 := ((u8'.trans w8).trans (congrArg (fun z => z + 4) U7)).trans (Nat.add_assoc _ _ _)
  have k8 : ∀ a, a < o + 7 → a ≠ o → τ8.2.2 a = τ7.2.2 a := fun a ha hne => (k8' a hne).trans (b8 a ha)
  have K8 : ∀ a, a < o + 8 → a ≠ o → τ8.2.2 a = τ8.2.2 a := fun _ _ _ => rfl
  have K7 : ∀ a, a < o + 7 → a ≠ o → τ8.2.2 a = τ7.2.2 a := fun a ha hne => (K8 a (Nat.lt_of_lt_of_le ha (Nat.add_le_add_left (Nat.le_of_ble_eq_true rfl) o)) hne).trans (k8 a ha hne)
  have K6 : ∀ a, a < o + 6 → a ≠ o → τ8.2.2 a = τ6.2.2 a := fun a ha hne => (K7 a (Nat.lt_of_lt_of_le ha (Nat.add_le_add_left (Nat.le_of_ble_eq_true rfl) o)) hne).trans (k7 a ha hne)
  have K5 : ∀ a, a < o + 5 → a ≠ o → τ8.2.2 a = τ5.2.2 a := fun a ha hne => (K6 a (Nat.lt_of_lt_of_le ha (Nat.add_le_add_left (Nat.le_of_ble_eq_true rfl) o)) hne).trans (k6 a ha hne)
  have K4 : ∀ a, a < o + 5 → a ≠ o → τ8.2.2 a = τ4.2.2 a := fun a ha hne => (K5 a (Nat.lt_of_lt_of_le ha (Nat.add_le_add_left (Nat.le_of_ble_eq_true rfl) o)) hne).trans (k5 a ha hne)
  have K3 : ∀ a, a < o + 4 → a ≠ o → τ8.2.2 a = τ3.2.2 a := fun a ha hne => (K4 a (Nat.lt_of_lt_of_le ha (Nat.add_le_add_left (Nat.le_of_ble_eq_true rfl) o)) hne).trans (k4 a ha hne)
  have K2 : ∀ a, a < o + 3 → a ≠ o → τ8.2.2 a = τ2.2.2 a := fun a ha hne => (K3 a (Nat.lt_of_lt_of_le ha (Nat.add_le_add_left (Nat.le_of_ble_eq_true rfl) o)) hne).trans (k3 a ha hne)
  have K1 : ∀ a, a < o + 2 → a ≠ o → τ8.2.2 a = τ1.2.2 a := fun a ha hne => (K2 a (Nat.lt_of_lt_of_le ha (Nat.add_le_add_left (Nat.le_of_ble_eq_true rfl) o)) hne).trans (k2 a ha hne)
  have K0 : ∀ a, a < o + 1 → a ≠ o → τ8.2.2 a = τ0.2.2 a := fun a ha hne => (K1 a (Nat.lt_of_lt_of_le ha (Nat.add_le_add_left (Nat.le_of_ble_eq_true rfl) o)) hne).trans (k1 a ha hne)
  refine ⟨τ8, ?_, ⟨n8, U8, fun a ha => (K0 a (Nat.lt_of_lt_of_le ha (Nat.le_add_right _ _)) (Nat.ne_of_lt ha)).trans (b0 a ha)⟩, o8, (K1 _ (Nat.add_lt_add_left (Nat.le_of_ble_eq_true rfl) o) (Nat.ne_of_gt (Nat.lt_add_of_pos_right (Nat.le_of_ble_eq_true rfl)))).trans c1, (K2 _ (Nat.add_lt_add_left (Nat.le_of_ble_eq_true rfl) o) (Nat.ne_of_gt (Nat.lt_add_of_pos_right (Nat.le_of_ble_eq_true rfl)))).trans c2, (K3 _ (Nat.add_lt_add_left (Nat.le_of_ble_eq_true rfl) o) (Nat.ne_of_gt (Nat.lt_add_of_pos_right (Nat.le_of_ble_eq_true rfl)))).trans c3, (K4 _ (Nat.add_lt_add_left (Nat.le_of_ble_eq_true rfl) o) (Nat.ne_of_gt (Nat.lt_add_of_pos_right (Nat.le_of_ble_eq_true rfl)))).trans c4, (K6 _ (Nat.add_lt_add_left (Nat.le_of_ble_eq_true rfl) o) (Nat.ne_of_gt (Nat.lt_add_of_pos_right (Nat.le_of_ble_eq_true rfl)))).trans ((k6' _ (Nat.ne_of_gt (Nat.lt_add_of_pos_right (Nat.le_of_ble_eq_true rfl)))).trans s6_0), (K7 _ (Nat.add_lt_add_left (Nat.le_of_ble_eq_true rfl) o) (Nat.ne_of_gt (Nat.lt_add_of_pos_right (Nat.le_of_ble_eq_true rfl)))).trans ((k7' _ (Nat.ne_of_gt (Nat.lt_add_of_pos_right (Nat.le_of_ble_eq_true rfl)))).trans s7_0), (K8 _ (Nat.add_lt_add_left (Nat.le_of_ble_eq_true rfl) o) (Nat.ne_of_gt (Nat.lt_add_of_pos_right (Nat.le_of_ble_eq_true rfl)))).trans ((k8' _ (Nat.ne_of_gt (Nat.lt_add_of_pos_right (Nat.le_of_ble_eq_true rfl)))).trans s8_0)⟩
  clear K0 K1 K2 K3 K4 K5 K6 K7 K8 U0 U1 U2 U3 U4 U5 U6 U7 U8
  unfold f_Tm_init
  rw [am_ck_of o0]
  rw [e1, b2s, f1, Option.bind_some, e2, b2s, f2, Option.bind_some, e3, b2s, f3, Option.bind_some, e4, b2s, f4, Option.bind_some, f5, Option.bind_some, n5, e6, Option.bind_some, f6, Option.bind_some, n6, e7, Option.bind_some, f7, Option.bind_some, n7, e8, Option.bind_some, f8, Option.bind_some]
theorem Oc_init {σ : am_S} {o F : Nat} (ho : σ.1 = o) (h8 : 8 ≤ o) (x1 : Nat) : ∃ σ', f_Oc_init F (am_no σ 9) o x1 = some σ' ∧ IR σ σ' o 11 77343 ∧ σ'.2.2 (o) = some (cO 9 [.ref (x1), .ref (o + 1), .ref (o + 5), .ref (o + 6), .ref (o + 7), .ref (o + 8), .ref (o + 9), .ref (o + 10), .int 0, .int 0]) ∧ σ'.2.2 (o + 1) = some (cO 4 [.ref (o + 2), .ref (o + 3), .ref (o + 4), .int 0]) ∧ σ'.2.2 (o + 2) = some (cB 8192 fun _ => 0) ∧ σ'.2.2 (o + 3) = some (cI 401 fun _ => 0) ∧ σ'.2.2 (o + 4) = some (cI 400 fun _ => 0) ∧ σ'.2.2 (o + 5) = some (cZ 400 fun _ => 0) ∧ σ'.2.2 (o + 6) = some (cI 1200 fun _ => 0) ∧ σ'.2.2 (o + 7) = some (cI 400 fun _ => 0) ∧ σ'.2.2 (o + 8) = some (cI 400 fun _ => 0) ∧ σ'.2.2 (o + 9) = some (cI 400 fun _ => 0) ∧ σ'.2.2 (o + 10) = some (cB 65536 fun _ => 0) := by
  have n0 : (am_no σ 9).1 = o + 1 := by show σ.1 + 1 = o + 1; rw [ho]
  have U0 : (am_no σ 9).2.1 = σ.2.1 + 10 := rfl
  have o0 : (am_no σ 9).2.2 o = some (.inr (9, [.null, .null, .null, .null, .null, .null, .null, .null, .int 0, .int 0])) := by rw [← ho]; exact new_at
  have b0 : ∀ a, a < o → (am_no σ 9).2.2 a = σ.2.2 a := fun a ha => new_ne (by omega)
  generalize am_no σ 9 = τ0 at n0 U0 o0 b0 ⊢
  obtain ⟨ρ1, e1, ⟨m1, w1, b1⟩, s1_0, s1_1, s1_2, s1_3⟩ := Pm_init (F := F) n0 (Nat.le_trans h8 (Nat.le_add_right _ _))
  obtain ⟨τ1, f1, n1', u1', o1, k1'⟩ := pa (v := o + 1) (k := 1) (fs' := [.null, .ref (o + 1), .null, .null, .null, .null, .null, .null, .int 0, .int 0]) ((b1 o (Nat.lt_add_of_pos_right (Nat.le_of_ble_eq_true rfl))).trans o0) h8 (Nat.le_of_ble_eq_true rfl) rfl
  have n1 : τ1.1 = o + 5 := n1'.trans m1
  have U1 : τ1.2.1 = σ.2.1 + 9007 := ((u1'.trans w1).trans (congrArg (fun z => z + 8997) U0)).trans (Nat.add_assoc _ _ _)
  have k1 : ∀ a, a < o + 1 → a ≠ o → τ1.2.2 a = τ0.2.2 a := fun a ha hne => (k1' a hne).trans (b1 a ha)
  obtain ⟨ρ2, τ2, e2, f2, q2, u2, o2, c2, k2⟩ := ap (ty := .boolean) (k := 2) (n := 400) (v := 400) (t := o + 5) (fs' := [.null, .ref (o + 1), .ref (o + 5), .null, .null, .null, .null, .null, .int 0, .int 0]) rfl (Nat.le_of_ble_eq_true rfl) n1 o1 h8 (Nat.lt_add_of_pos_right (Nat.le_of_ble_eq_true rfl)) (Nat.le_of_ble_eq_true rfl) rfl
  have n2 : τ2.1 = o + 6 := q2
  have U2 : τ2.2.1 = σ.2.1 + 9407 := (u2.trans (congrArg (fun z => z + 400) U1)).trans (Nat.add_assoc _ _ _)
  obtain ⟨ρ3, τ3, e3, f3, q3, u3, o3, c3, k3⟩ := ap (ty := .int) (k := 3) (n := 1200) (v := 1200) (t := o + 6) (fs' := [.null, .ref (o + 1), .ref (o + 5), .ref (o + 6), .null, .null, .null, .null, .int 0, .int 0]) rfl (Nat.le_of_ble_eq_true rfl) n2 o2 h8 (Nat.lt_add_of_pos_right (Nat.le_of_ble_eq_true rfl)) (Nat.le_of_ble_eq_true rfl) rfl
  have n3 : τ3.1 = o + 7 := q3
  have U3 : τ3.2.1 = σ.2.1 + 10607 := (u3.trans (congrArg (fun z => z + 1200) U2)).trans (Nat.add_assoc _ _ _)
  obtain ⟨ρ4, τ4, e4, f4, q4, u4, o4, c4, k4⟩ := ap (ty := .int) (k := 4) (n := 400) (v := 400) (t := o + 7) (fs' := [.null, .ref (o + 1), .ref (o + 5), .ref (o + 6), .ref (o + 7), .null, .null, .null, .int 0, .int 0]) rfl (Nat.le_of_ble_eq_true rfl) n3 o3 h8 (Nat.lt_add_of_pos_right (Nat.le_of_ble_eq_true rfl)) (Nat.le_of_ble_eq_true rfl) rfl
  have n4 : τ4.1 = o + 8 := q4
  have U4 : τ4.2.1 = σ.2.1 + 11007 := (u4.trans (congrArg (fun z => z + 400) U3)).trans (Nat.add_assoc _ _ _)
  obtain ⟨ρ5, τ5, e5, f5, q5, u5, o5, c5, k5⟩ := ap (ty := .int) (k := 5) (n := 400) (v := 400) (t := o + 8) (fs' := [.null, .ref (o + 1), .ref (o + 5), .ref (o + 6), .ref (o + 7), .ref (o + 8), .null, .null, .int 0, .int 0]) rfl (Nat.le_of_ble_eq_true rfl) n4 o4 h8 (Nat.lt_add_of_pos_right (Nat.le_of_ble_eq_true rfl)) (Nat.le_of_ble_eq_true rfl) rfl
  have n5 : τ5.1 = o + 9 := q5
  have U5 : τ5.2.1 = σ.2.1 + 11407 := (u5.trans (congrArg (fun z => z + 400) U4)).trans (Nat.add_assoc _ _ _)
  obtain ⟨ρ6, τ6, e6, f6, q6, u6, o6, c6, k6⟩ := ap (ty := .int) (k := 6) (n := 400) (v := 400) (t := o + 9) (fs' := [.null, .ref (o + 1), .ref (o + 5), .ref (o + 6), .ref (o + 7), .ref (o + 8), .ref (o + 9), .null, .int 0, .int 0]) rfl (Nat.le_of_ble_eq_true rfl) n5 o5 h8 (Nat.lt_add_of_pos_right (Nat.le_of_ble_eq_true rfl)) (Nat.le_of_ble_eq_true rfl) rfl
  have n6 : τ6.1 = o + 10 := q6
  have U6 : τ6.2.1 = σ.2.1 + 11807 := (u6.trans (congrArg (fun z => z + 400) U5)).trans (Nat.add_assoc _ _ _)
  obtain ⟨ρ7, τ7, e7, f7, q7, u7, o7, c7, k7⟩ := ap (ty := .byte) (k := 7) (n := 65536) (v := 65536) (t := o + 10) (fs' := [.null, .ref (o + 1), .ref (o + 5), .ref (o + 6), .ref (o + 7), .ref (o + 8), .ref (o + 9), .ref (o + 10), .int 0, .int 0]) rfl (Nat.le_of_ble_eq_true rfl) n6 o6 h8 (Nat.lt_add_of_pos_right (Nat.le_of_ble_eq_true rfl)) (Nat.le_of_ble_eq_true rfl) rfl
  have n7 : τ7.1 = o + 11 := q7
  have U7 : τ7.2.1 = σ.2.1 + 77343 := (u7.trans (congrArg (fun z => z + 65536) U6)).trans (Nat.add_assoc _ _ _)
  obtain ⟨τ8, f8, n8', u8', o8, k8'⟩ := pa (v := x1) (k := 0) (fs' := [.ref (x1), .ref (o + 1), .ref (o + 5), .ref (o + 6), .ref (o + 7), .ref (o + 8), .ref (o + 9), .ref (o + 10), .int 0, .int 0]) o7 h8 (Nat.le_of_ble_eq_true rfl) rfl
  have n8 : τ8.1 = o + 11 := n8'.trans n7
  have U8 : τ8.2.1 = σ.2.1 + 77343 := u8'.trans U7
  have k8 : ∀ a, a < o + 11 → a ≠ o → τ8.2.2 a = τ7.2.2 a := fun a _ hne => k8' a hne
  have K8 : ∀ a, a < o + 11 → a ≠ o → τ8.2.2 a = τ8.2.2 a := fun _ _ _ => rfl
  have K7 : ∀ a, a < o + 11 → a ≠ o → τ8.2.2 a = τ7.2.2 a := fun a ha hne => (K8 a (Nat.lt_of_lt_of_le ha (Nat.add_le_add_left (Nat.le_of_ble_eq_true rfl) o)) hne).trans (k8 a ha hne)
  have K6 : ∀ a, a < o + 10 → a ≠ o → τ8.2.2 a = τ6.2.2 a := fun a ha hne => (K7 a (Nat.lt_of_lt_of_le ha (Nat.add_le_add_left (Nat.le_of_ble_eq_true rfl) o)) hne).trans (k7 a ha hne)
  have K5 : ∀ a, a < o + 9 → a ≠ o → τ8.2.2 a = τ5.2.2 a := fun a ha hne => (K6 a (Nat.lt_of_lt_of_le ha (Nat.add_le_add_left (Nat.le_of_ble_eq_true rfl) o)) hne).trans (k6 a ha hne)
  have K4 : ∀ a, a < o + 8 → a ≠ o → τ8.2.2 a = τ4.2.2 a := fun a ha hne => (K5 a (Nat.lt_of_lt_of_le ha (Nat.add_le_add_left (Nat.le_of_ble_eq_true rfl) o)) hne).trans (k5 a ha hne)
  have K3 : ∀ a, a < o + 7 → a ≠ o → τ8.2.2 a = τ3.2.2 a := fun a ha hne => (K4 a (Nat.lt_of_lt_of_le ha (Nat.add_le_add_left (Nat.le_of_ble_eq_true rfl) o)) hne).trans (k4 a ha hne)
  have K2 : ∀ a, a < o + 6 → a ≠ o → τ8.2.2 a = τ2.2.2 a := fun a ha hne => (K3 a (Nat.lt_of_lt_of_le ha (Nat.add_le_add_left (Nat.le_of_ble_eq_true rfl) o)) hne).trans (k3 a ha hne)
  have K1 : ∀ a, a < o + 5 → a ≠ o → τ8.2.2 a = τ1.2.2 a := fun a ha hne => (K2 a (Nat.lt_of_lt_of_le ha (Nat.add_le_add_left (Nat.le_of_ble_eq_true rfl) o)) hne).trans (k2 a ha hne)
  have K0 : ∀ a, a < o + 1 → a ≠ o → τ8.2.2 a = τ0.2.2 a := fun a ha hne => (K1 a (Nat.lt_of_lt_of_le ha (Nat.add_le_add_left (Nat.le_of_ble_eq_true rfl) o)) hne).trans (k1 a ha hne)
  refine ⟨τ8, ?_, ⟨n8, U8, fun a ha => (K0 a (Nat.lt_of_lt_of_le ha (Nat.le_add_right _ _)) (Nat.ne_of_lt ha)).trans (b0 a ha)⟩, o8, (K1 _ (Nat.add_lt_add_left (Nat.le_of_ble_eq_true rfl) o) (Nat.ne_of_gt (Nat.lt_add_of_pos_right (Nat.le_of_ble_eq_true rfl)))).trans ((k1' _ (Nat.ne_of_gt (Nat.lt_add_of_pos_right (Nat.le_of_ble_eq_true rfl)))).trans s1_0), (K1 _ (Nat.add_lt_add_left (Nat.le_of_ble_eq_true rfl) o) (Nat.ne_of_gt (Nat.lt_add_of_pos_right (Nat.le_of_ble_eq_true rfl)))).trans ((k1' _ (Nat.ne_of_gt (Nat.lt_add_of_pos_right (Nat.le_of_ble_eq_true rfl)))).trans s1_1), (K1 _ (Nat.add_lt_add_left (Nat.le_of_ble_eq_true rfl) o) (Nat.ne_of_gt (Nat.lt_add_of_pos_right (Nat.le_of_ble_eq_true rfl)))).trans ((k1' _ (Nat.ne_of_gt (Nat.lt_add_of_pos_right (Nat.le_of_ble_eq_true rfl)))).trans s1_2), (K1 _ (Nat.add_lt_add_left (Nat.le_of_ble_eq_true rfl) o) (Nat.ne_of_gt (Nat.lt_add_of_pos_right (Nat.le_of_ble_eq_true rfl)))).trans ((k1' _ (Nat.ne_of_gt (Nat.lt_add_of_pos_right (Nat.le_of_ble_eq_true rfl)))).trans s1_3), (K2 _ (Nat.add_lt_add_left (Nat.le_of_ble_eq_true rfl) o) (Nat.ne_of_gt (Nat.lt_add_of_pos_right (Nat.le_of_ble_eq_true rfl)))).trans c2, (K3 _ (Nat.add_lt_add_left (Nat.le_of_ble_eq_true rfl) o) (Nat.ne_of_gt (Nat.lt_add_of_pos_right (Nat.le_of_ble_eq_true rfl)))).trans c3, (K4 _ (Nat.add_lt_add_left (Nat.le_of_ble_eq_true rfl) o) (Nat.ne_of_gt (Nat.lt_add_of_pos_right (Nat.le_of_ble_eq_true rfl)))).trans c4, (K5 _ (Nat.add_lt_add_left (Nat.le_of_ble_eq_true rfl) o) (Nat.ne_of_gt (Nat.lt_add_of_pos_right (Nat.le_of_ble_eq_true rfl)))).trans c5, (K6 _ (Nat.add_lt_add_left (Nat.le_of_ble_eq_true rfl) o) (Nat.ne_of_gt (Nat.lt_add_of_pos_right (Nat.le_of_ble_eq_true rfl)))).trans c6, (K7 _ (Nat.add_lt_add_left (Nat.le_of_ble_eq_true rfl) o) (Nat.ne_of_gt (Nat.lt_add_of_pos_right (Nat.le_of_ble_eq_true rfl)))).trans c7⟩
  clear K0 K1 K2 K3 K4 K5 K6 K7 K8 U0 U1 U2 U3 U4 U5 U6 U7 U8
  unfold f_Oc_init
  rw [am_ck_of o0]
  rw [n0, e1, Option.bind_some, f1, Option.bind_some, e2, b2s, f2, Option.bind_some, e3, b2s, f3, Option.bind_some, e4, b2s, f4, Option.bind_some, e5, b2s, f5, Option.bind_some, e6, b2s, f6, Option.bind_some, e7, b2s, f7, Option.bind_some, f8, Option.bind_some]
theorem Mg_init {σ : am_S} {o F : Nat} (ho : σ.1 = o) (h8 : 8 ≤ o) (x1 : Nat) (x2 : Nat) (x3 : Nat) (x4 : Nat) : ∃ σ', f_Mg_init F (am_no σ 6) o x1 x2 x3 x4 = some σ' ∧ IR σ σ' o 50 274479 ∧ σ'.2.2 (o) = some (cO 6 [.ref (x1), .ref (x2), .ref (x3), .ref (x4), .ref (o + 6), .ref (o + 13), .ref (o + 1), .ref (o + 2), .ref (o + 3), .ref (o + 4), .ref (o + 5), .ref (o + 20), .int 0, .ref (o + 28), .ref (o + 39)]) ∧ σ'.2.2 (o + 1) = some (cZ 400 fun _ => 0) ∧ σ'.2.2 (o + 2) = some (cZ 400 fun _ => 0) ∧ σ'.2.2 (o + 3) = some (cI 1200 fun _ => 0) ∧ σ'.2.2 (o + 4) = some (cI 1200 fun _ => 0) ∧ σ'.2.2 (o + 5) = some (cI 1200 fun _ => 0) ∧ σ'.2.2 (o + 6) = some (cO 5 [.ref (x4), .ref (o + 7), .ref (o + 8), .ref (o + 9), .ref (o + 10), .ref (o + 11), .ref (o + 12), .int 0, .int 0]) ∧ σ'.2.2 (o + 7) = some (cI 400 fun _ => 0) ∧ σ'.2.2 (o + 8) = some (cI 400 fun _ => 0) ∧ σ'.2.2 (o + 9) = some (cZ 400 fun _ => 0) ∧ σ'.2.2 (o + 10) = some (cI 2500 fun _ => 0) ∧ σ'.2.2 (o + 11) = some (cI 400 fun _ => 0) ∧ σ'.2.2 (o + 12) = some (cI 400 fun _ => 0) ∧ σ'.2.2 (o + 13) = some (cO 5 [.ref (x4), .ref (o + 14), .ref (o + 15), .ref (o + 16), .ref (o + 17), .ref (o + 18), .ref (o + 19), .int 0, .int 0]) ∧ σ'.2.2 (o + 14) = some (cI 400 fun _ => 0) ∧ σ'.2.2 (o + 15) = some (cI 400 fun _ => 0) ∧ σ'.2.2 (o + 16) = some (cZ 400 fun _ => 0) ∧ σ'.2.2 (o + 17) = some (cI 2500 fun _ => 0) ∧ σ'.2.2 (o + 18) = some (cI 400 fun _ => 0) ∧ σ'.2.2 (o + 19) = some (cI 400 fun _ => 0) ∧ σ'.2.2 (o + 20) = some (cO 7 [.ref (x4), .ref (o + 25), .ref (o + 26), .ref (o + 27), .ref (o + 21), .ref (o + 22), .ref (o + 23), .ref (o + 24), .int 0, .int 0, .int 0]) ∧ σ'.2.2 (o + 21) = some (cI 40401 fun _ => 0) ∧ σ'.2.2 (o + 22) = some (cI 200 fun _ => 0) ∧ σ'.2.2 (o + 23) = some (cI 200 fun _ => 0) ∧ σ'.2.2 (o + 24) = some (cB 65536 fun _ => 0) ∧ σ'.2.2 (o + 25) = some (cO 8 [.ref (x4), .int 0, .int 0, .int 0]) ∧ σ'.2.2 (o + 26) = some (cO 8 [.ref (x4), .int 0, .int 0, .int 0]) ∧ σ'.2.2 (o + 27) = some (cO 8 [.ref (x4), .int 0, .int 0, .int 0]) ∧ σ'.2.2 (o + 28) = some (cO 9 [.ref (x4), .ref (o + 29), .ref (o + 33), .ref (o + 34), .ref (o + 35), .ref (o + 36), .ref (o + 37), .ref (o + 38), .int 0, .int 0]) ∧ σ'.2.2 (o + 29) = some (cO 4 [.ref (o + 30), .ref (o + 31), .ref (o + 32), .int 0]) ∧ σ'.2.2 (o + 30) = some (cB 8192 fun _ => 0) ∧ σ'.2.2 (o + 31) = some (cI 401 fun _ => 0) ∧ σ'.2.2 (o + 32) = some (cI 400 fun _ => 0) ∧ σ'.2.2 (o + 33) = some (cZ 400 fun _ => 0) ∧ σ'.2.2 (o + 34) = some (cI 1200 fun _ => 0) ∧ σ'.2.2 (o + 35) = some (cI 400 fun _ => 0) ∧ σ'.2.2 (o + 36) = some (cI 400 fun _ => 0) ∧ σ'.2.2 (o + 37) = some (cI 400 fun _ => 0) ∧ σ'.2.2 (o + 38) = some (cB 65536 fun _ => 0) ∧ σ'.2.2 (o + 39) = some (cO 9 [.ref (x4), .ref (o + 40), .ref (o + 44), .ref (o + 45), .ref (o + 46), .ref (o + 47), .ref (o + 48), .ref (o + 49), .int 0, .int 0]) ∧ σ'.2.2 (o + 40) = some (cO 4 [.ref (o + 41), .ref (o + 42), .ref (o + 43), .int 0]) ∧ σ'.2.2 (o + 41) = some (cB 8192 fun _ => 0) ∧ σ'.2.2 (o + 42) = some (cI 401 fun _ => 0) ∧ σ'.2.2 (o + 43) = some (cI 400 fun _ => 0) ∧ σ'.2.2 (o + 44) = some (cZ 400 fun _ => 0) ∧ σ'.2.2 (o + 45) = some (cI 1200 fun _ => 0) ∧ σ'.2.2 (o + 46) = some (cI 400 fun _ => 0) ∧ σ'.2.2 (o + 47) = some (cI 400 fun _ => 0) ∧ σ'.2.2 (o + 48) = some (cI 400 fun _ => 0) ∧ σ'.2.2 (o + 49) = some (cB 65536 fun _ => 0) := by
  have n0 : (am_no σ 6).1 = o + 1 := by show σ.1 + 1 = o + 1; rw [ho]
  have U0 : (am_no σ 6).2.1 = σ.2.1 + 15 := rfl
  have o0 : (am_no σ 6).2.2 o = some (.inr (6, [.null, .null, .null, .null, .null, .null, .null, .null, .null, .null, .null, .null, .int 0, .null, .null])) := by rw [← ho]; exact new_at
  have b0 : ∀ a, a < o → (am_no σ 6).2.2 a = σ.2.2 a := fun a ha => new_ne (by omega)
  generalize am_no σ 6 = τ0 at n0 U0 o0 b0 ⊢
  obtain ⟨ρ1, τ1, e1, f1, q1, u1, o1, c1, k1⟩ := ap (ty := .boolean) (k := 6) (n := 400) (v := 400) (t := o + 1) (fs' := [.null, .null, .null, .null, .null, .null, .ref (o + 1), .null, .null, .null, .null, .null, .int 0, .null, .null]) rfl (Nat.le_of_ble_eq_true rfl) n0 o0 h8 (Nat.lt_add_of_pos_right (Nat.le_of_ble_eq_true rfl)) (Nat.le_of_ble_eq_true rfl) rfl
  have n1 : τ1.1 = o + 2 := q1
  have U1 : τ1.2.1 = σ.2.1 + 415 := (u1.trans (congrArg (fun z => z + 400) U0)).trans (Nat.add_assoc _ _ _)
  obtain ⟨ρ2, τ2, e2, f2, q2, u2, o2, c2, k2⟩ := ap (ty := .boolean) (k := 7) (n := 400) (v := 400) (t := o + 2) (fs' := [.null, .null, .null, .null, .null, .null, .ref (o + 1), .ref (o + 2), .null, .null, .null, .null, .int 0, .null, .null]) rfl (Nat.le_of_ble_eq_true rfl) n1 o1 h8 (Nat.lt_add_of_pos_right (Nat.le_of_ble_eq_true rfl)) (Nat.le_of_ble_eq_true rfl) rfl
  have n2 : τ2.1 = o + 3 := q2
  have U2 : τ2.2.1 = σ.2.1 + 815 := (u2.trans (congrArg (fun z => z + 400) U1)).trans (Nat.add_assoc _ _ _)
  obtain ⟨ρ3, τ3, e3, f3, q3, u3, o3, c3, k3⟩ := ap (ty := .int) (k := 8) (n := 1200) (v := 1200) (t := o + 3) (fs' := [.null, .null, .null, .null, .null, .null, .ref (o + 1), .ref (o + 2), .ref (o + 3), .null, .null, .null, .int 0, .null, .null]) rfl (Nat.le_of_ble_eq_true rfl) n2 o2 h8 (Nat.lt_add_of_pos_right (Nat.le_of_ble_eq_true rfl)) (Nat.le_of_ble_eq_true rfl) rfl
  have n3 : τ3.1 = o + 4 := q3
  have U3 : τ3.2.1 = σ.2.1 + 2015 := (u3.trans (congrArg (fun z => z + 1200) U2)).trans (Nat.add_assoc _ _ _)
  obtain ⟨ρ4, τ4, e4, f4, q4, u4, o4, c4, k4⟩ := ap (ty := .int) (k := 9) (n := 1200) (v := 1200) (t := o + 4) (fs' := [.null, .null, .null, .null, .null, .null, .ref (o + 1), .ref (o + 2), .ref (o + 3), .ref (o + 4), .null, .null, .int 0, .null, .null]) rfl (Nat.le_of_ble_eq_true rfl) n3 o3 h8 (Nat.lt_add_of_pos_right (Nat.le_of_ble_eq_true rfl)) (Nat.le_of_ble_eq_true rfl) rfl
  have n4 : τ4.1 = o + 5 := q4
  have U4 : τ4.2.1 = σ.2.1 + 3215 := (u4.trans (congrArg (fun z => z + 1200) U3)).trans (Nat.add_assoc _ _ _)
  obtain ⟨ρ5, τ5, e5, f5, q5, u5, o5, c5, k5⟩ := ap (ty := .int) (k := 10) (n := 1200) (v := 1200) (t := o + 5) (fs' := [.null, .null, .null, .null, .null, .null, .ref (o + 1), .ref (o + 2), .ref (o + 3), .ref (o + 4), .ref (o + 5), .null, .int 0, .null, .null]) rfl (Nat.le_of_ble_eq_true rfl) n4 o4 h8 (Nat.lt_add_of_pos_right (Nat.le_of_ble_eq_true rfl)) (Nat.le_of_ble_eq_true rfl) rfl
  have n5 : τ5.1 = o + 6 := q5
  have U5 : τ5.2.1 = σ.2.1 + 4415 := (u5.trans (congrArg (fun z => z + 1200) U4)).trans (Nat.add_assoc _ _ _)
  obtain ⟨τ6, f6, n6', u6', o6, k6'⟩ := pa (v := x1) (k := 0) (fs' := [.ref (x1), .null, .null, .null, .null, .null, .ref (o + 1), .ref (o + 2), .ref (o + 3), .ref (o + 4), .ref (o + 5), .null, .int 0, .null, .null]) o5 h8 (Nat.le_of_ble_eq_true rfl) rfl
  have n6 : τ6.1 = o + 6 := n6'.trans n5
  have U6 : τ6.2.1 = σ.2.1 + 4415 := u6'.trans U5
  have k6 : ∀ a, a < o + 6 → a ≠ o → τ6.2.2 a = τ5.2.2 a := fun a _ hne => k6' a hne
  obtain ⟨τ7, f7, n7', u7', o7, k7'⟩ := pa (v := x2) (k := 1) (fs' := [.ref (x1), .ref (x2), .null, .null, .null, .null, .ref (o + 1), .ref (o + 2), .ref (o + 3), .ref (o + 4), .ref (o + 5), .null, .int 0, .null, .null]) o6 h8 (Nat.le_of_ble_eq_true rfl) rfl
  have n7 : τ7.1 = o + 6 := n7'.trans n6
  have U7 : τ7.2.1 = σ.2.1 + 4415 := u7'.trans U6
  have k7 : ∀ a, a < o + 6 → a ≠ o → τ7.2.2 a = τ6.2.2 a := fun a _ hne => k7' a hne
  obtain ⟨τ8, f8, n8', u8', o8, k8'⟩ := pa (v := x3) (k := 2) (fs' := [.ref (x1), .ref (x2), .ref (x3), .null, .null, .null, .ref (o + 1), .ref (o + 2), .ref (o + 3), .ref (o + 4), .ref (o + 5), .null, .int 0, .null, .null]) o7 h8 (Nat.le_of_ble_eq_true rfl) rfl
  have n8 : τ8.1 = o + 6 := n8'.trans n7
  have U8 : τ8.2.1 = σ.2.1 + 4415 := u8'.trans U7
  have k8 : ∀ a, a < o + 6 → a ≠ o → τ8.2.2 a = τ7.2.2 a := fun a _ hne => k8' a hne
  obtain ⟨τ9, f9, n9', u9', o9, k9'⟩ := pa (v := x4) (k := 3) (fs' := [.ref (x1), .ref (x2), .ref (x3), .ref (x4), .null, .null, .ref (o + 1), .ref (o + 2), .ref (o + 3), .ref (o + 4), .ref (o + 5), .null, .int 0, .null, .null]) o8 h8 (Nat.le_of_ble_eq_true rfl) rfl
  have n9 : τ9.1 = o + 6 := n9'.trans n8
  have U9 : τ9.2.1 = σ.2.1 + 4415 := u9'.trans U8
  have k9 : ∀ a, a < o + 6 → a ≠ o → τ9.2.2 a = τ8.2.2 a := fun a _ hne => k9' a hne
  obtain ⟨ρ10, e10, ⟨m10, w10, b10⟩, s10_0, s10_1, s10_2, s10_3, s10_4, s10_5, s10_6⟩ := Rn_init (F := F) n9 (Nat.le_trans h8 (Nat.le_add_right _ _)) (x4)
  obtain ⟨τ10, f10, n10', u10', o10, k10'⟩ := pa (v := o + 6) (k := 4) (fs' := [.ref (x1), .ref (x2), .ref (x3), .ref (x4), .ref (o + 6), .null, .ref (o + 1), .ref (o + 2), .ref (o + 3), .ref (o + 4), .ref (o + 5), .null, .int 0, .null, .null]) ((b10 o (Nat.lt_add_of_pos_right (Nat.le_of_ble_eq_true rfl))).trans o9) h8 (Nat.le_of_ble_eq_true rfl) rfl
  have n10 : τ10.1 = o + 13 := n10'.trans m10
  have U10 : τ10.2.1 = σ.2.1 + 8924 := ((u10'.trans w10).trans (congrArg (fun z => z + 4509) U9)).trans (Nat.add_assoc _ _ _)
  have k10 : ∀ a, a < o + 6 → a ≠ o → τ10.2.2 a = τ9.2.2 a := fun a ha hne => (k10' a hne).trans (b10 a ha)
  obtain ⟨ρ11, e11, ⟨m11, w11, b11⟩, s11_0, s11_1, s11_2, s11_3, s11_4, s11_5, s11_6⟩ := Rn_init (F := F) n10 (Nat.le_trans h8 (Nat.le_add_right _ _)) (x4)
  obtain ⟨τ11, f11, n11', u11', o11, k11'⟩ := pa (v := o + 13) (k := 5) (fs' := [.ref (x1), .ref (x2), .ref (x3), .ref (x4), .ref (o + 6), .ref (o + 13), .ref (o + 1), .ref (o + 2), .ref (o + 3), .ref (o + 4), .ref (o + 5), .null, .int 0, .null, .null]) ((b11 o (Nat.lt_add_of_pos_right (Nat.le_of_ble_eq_true rfl))).trans o10) h8 (Nat.le_of_ble_eq_true rfl) rfl
  have n11 : τ11.1 = o + 20 := n11'.trans m11
  have U11 : τ11.2.1 = σ.2.1 + 13433 := ((u11'.trans w11).trans (congrArg (fun z => z + 4509) U10)).trans (Nat.add_assoc _ _ _)
  have k11 : ∀ a, a < o + 13 → a ≠ o → τ11.2.2 a = τ10.2.2 a := fun a ha hne => (k11' a hne).trans (b11 a ha)
  obtain ⟨ρ12, e12, ⟨m12, w12, b12⟩, s12_0, s12_1, s12_2, s12_3, s12_4, s12_5, s12_6, s12_7⟩ := Tm_init (F := F) n11 (Nat.le_trans h8 (Nat.le_add_right _ _)) (x4)
  obtain ⟨τ12, f12, n12', u12', o12, k12'⟩ := pa (v := o + 20) (k := 11) (fs' := [.ref (x1), .ref (x2), .ref (x3), .ref (x4), .ref (o + 6), .ref (o + 13), .ref (o + 1), .ref (o + 2), .ref (o + 3), .ref (o + 4), .ref (o + 5), .ref (o + 20), .int 0, .null, .null]) ((b12 o (Nat.lt_add_of_pos_right (Nat.le_of_ble_eq_true rfl))).trans o11) h8 (Nat.le_of_ble_eq_true rfl) rfl
  have n12 : τ12.1 = o + 28 := n12'.trans m12
  have U12 : τ12.2.1 = σ.2.1 + 119793 := ((u12'.trans w12).trans (congrArg (fun z => z + 106360) U11)).trans (Nat.add_assoc _ _ _)
  have k12 : ∀ a, a < o + 20 → a ≠ o → τ12.2.2 a = τ11.2.2 a := fun a ha hne => (k12' a hne).trans (b12 a ha)
  obtain ⟨ρ13, e13, ⟨m13, w13, b13⟩, s13_0, s13_1, s13_2, s13_3, s13_4, s13_5, s13_6, s13_7, s13_8, s13_9, s13_10⟩ := Oc_init (F := F) n12 (Nat.le_trans h8 (Nat.le_add_right _ _)) (x4)
  obtain ⟨τ13, f13, n13', u13', o13, k13'⟩ := pa (v := o + 28) (k := 13) (fs' := [.ref (x1), .ref (x2), .ref (x3), .ref (x4), .ref (o + 6), .ref (o + 13), .ref (o + 1), .ref (o + 2), .ref (o + 3), .ref (o + 4), .ref (o + 5), .ref (o + 20), .int 0, .ref (o + 28), .null]) ((b13 o (Nat.lt_add_of_pos_right (Nat.le_of_ble_eq_true rfl))).trans o12) h8 (Nat.le_of_ble_eq_true rfl) rfl
  have n13 : τ13.1 = o + 39 := n13'.trans m13
  have U13 : τ13.2.1 = σ.2.1 + 197136 := ((u13'.trans w13).trans (congrArg (fun z => z + 77343) U12)).trans (Nat.add_assoc _ _ _)
  have k13 : ∀ a, a < o + 28 → a ≠ o → τ13.2.2 a = τ12.2.2 a := fun a ha hne => (k13' a hne).trans (b13 a ha)
  obtain ⟨ρ14, e14, ⟨m14, w14, b14⟩, s14_0, s14_1, s14_2, s14_3, s14_4, s14_5, s14_6, s14_7, s14_8, s14_9, s14_10⟩ := Oc_init (F := F) n13 (Nat.le_trans h8 (Nat.le_add_right _ _)) (x4)
  obtain ⟨τ14, f14, n14', u14', o14, k14'⟩ := pa (v := o + 39) (k := 14) (fs' := [.ref (x1), .ref (x2), .ref (x3), .ref (x4), .ref (o + 6), .ref (o + 13), .ref (o + 1), .ref (o + 2), .ref (o + 3), .ref (o + 4), .ref (o + 5), .ref (o + 20), .int 0, .ref (o + 28), .ref (o + 39)]) ((b14 o (Nat.lt_add_of_pos_right (Nat.le_of_ble_eq_true rfl))).trans o13) h8 (Nat.le_of_ble_eq_true rfl) rfl
  have n14 : τ14.1 = o + 50 := n14'.trans m14
  have U14 : τ14.2.1 = σ.2.1 + 274479 := ((u14'.trans w14).trans (congrArg (fun z => z + 77343) U13)).trans (Nat.add_assoc _ _ _)
  have k14 : ∀ a, a < o + 39 → a ≠ o → τ14.2.2 a = τ13.2.2 a := fun a ha hne => (k14' a hne).trans (b14 a ha)
  have K14 : ∀ a, a < o + 50 → a ≠ o → τ14.2.2 a = τ14.2.2 a := fun _ _ _ => rfl
  have K13 : ∀ a, a < o + 39 → a ≠ o → τ14.2.2 a = τ13.2.2 a := fun a ha hne => (K14 a (Nat.lt_of_lt_of_le ha (Nat.add_le_add_left (Nat.le_of_ble_eq_true rfl) o)) hne).trans (k14 a ha hne)
  have K12 : ∀ a, a < o + 28 → a ≠ o → τ14.2.2 a = τ12.2.2 a := fun a ha hne => (K13 a (Nat.lt_of_lt_of_le ha (Nat.add_le_add_left (Nat.le_of_ble_eq_true rfl) o)) hne).trans (k13 a ha hne)
  have K11 : ∀ a, a < o + 20 → a ≠ o → τ14.2.2 a = τ11.2.2 a := fun a ha hne => (K12 a (Nat.lt_of_lt_of_le ha (Nat.add_le_add_left (Nat.le_of_ble_eq_true rfl) o)) hne).trans (k12 a ha hne)
  have K10 : ∀ a, a < o + 13 → a ≠ o → τ14.2.2 a = τ10.2.2 a := fun a ha hne => (K11 a (Nat.lt_of_lt_of_le ha (Nat.add_le_add_left (Nat.le_of_ble_eq_true rfl) o)) hne).trans (k11 a ha hne)
  have K9 : ∀ a, a < o + 6 → a ≠ o → τ14.2.2 a = τ9.2.2 a := fun a ha hne => (K10 a (Nat.lt_of_lt_of_le ha (Nat.add_le_add_left (Nat.le_of_ble_eq_true rfl) o)) hne).trans (k10 a ha hne)
  have K8 : ∀ a, a < o + 6 → a ≠ o → τ14.2.2 a = τ8.2.2 a := fun a ha hne => (K9 a (Nat.lt_of_lt_of_le ha (Nat.add_le_add_left (Nat.le_of_ble_eq_true rfl) o)) hne).trans (k9 a ha hne)
  have K7 : ∀ a, a < o + 6 → a ≠ o → τ14.2.2 a = τ7.2.2 a := fun a ha hne => (K8 a (Nat.lt_of_lt_of_le ha (Nat.add_le_add_left (Nat.le_of_ble_eq_true rfl) o)) hne).trans (k8 a ha hne)
  have K6 : ∀ a, a < o + 6 → a ≠ o → τ14.2.2 a = τ6.2.2 a := fun a ha hne => (K7 a (Nat.lt_of_lt_of_le ha (Nat.add_le_add_left (Nat.le_of_ble_eq_true rfl) o)) hne).trans (k7 a ha hne)
  have K5 : ∀ a, a < o + 6 → a ≠ o → τ14.2.2 a = τ5.2.2 a := fun a ha hne => (K6 a (Nat.lt_of_lt_of_le ha (Nat.add_le_add_left (Nat.le_of_ble_eq_true rfl) o)) hne).trans (k6 a ha hne)
  have K4 : ∀ a, a < o + 5 → a ≠ o → τ14.2.2 a = τ4.2.2 a := fun a ha hne => (K5 a (Nat.lt_of_lt_of_le ha (Nat.add_le_add_left (Nat.le_of_ble_eq_true rfl) o)) hne).trans (k5 a ha hne)
  have K3 : ∀ a, a < o + 4 → a ≠ o → τ14.2.2 a = τ3.2.2 a := fun a ha hne => (K4 a (Nat.lt_of_lt_of_le ha (Nat.add_le_add_left (Nat.le_of_ble_eq_true rfl) o)) hne).trans (k4 a ha hne)
  have K2 : ∀ a, a < o + 3 → a ≠ o → τ14.2.2 a = τ2.2.2 a := fun a ha hne => (K3 a (Nat.lt_of_lt_of_le ha (Nat.add_le_add_left (Nat.le_of_ble_eq_true rfl) o)) hne).trans (k3 a ha hne)
  have K1 : ∀ a, a < o + 2 → a ≠ o → τ14.2.2 a = τ1.2.2 a := fun a ha hne => (K2 a (Nat.lt_of_lt_of_le ha (Nat.add_le_add_left (Nat.le_of_ble_eq_true rfl) o)) hne).trans (k2 a ha hne)
  have K0 : ∀ a, a < o + 1 → a ≠ o → τ14.2.2 a = τ0.2.2 a := fun a ha hne => (K1 a (Nat.lt_of_lt_of_le ha (Nat.add_le_add_left (Nat.le_of_ble_eq_true rfl) o)) hne).trans (k1 a ha hne)
  refine ⟨τ14, ?_, ⟨n14, U14, fun a ha => (K0 a (Nat.lt_of_lt_of_le ha (Nat.le_add_right _ _)) (Nat.ne_of_lt ha)).trans (b0 a ha)⟩, o14, (K1 _ (Nat.add_lt_add_left (Nat.le_of_ble_eq_true rfl) o) (Nat.ne_of_gt (Nat.lt_add_of_pos_right (Nat.le_of_ble_eq_true rfl)))).trans c1, (K2 _ (Nat.add_lt_add_left (Nat.le_of_ble_eq_true rfl) o) (Nat.ne_of_gt (Nat.lt_add_of_pos_right (Nat.le_of_ble_eq_true rfl)))).trans c2, (K3 _ (Nat.add_lt_add_left (Nat.le_of_ble_eq_true rfl) o) (Nat.ne_of_gt (Nat.lt_add_of_pos_right (Nat.le_of_ble_eq_true rfl)))).trans c3, (K4 _ (Nat.add_lt_add_left (Nat.le_of_ble_eq_true rfl) o) (Nat.ne_of_gt (Nat.lt_add_of_pos_right (Nat.le_of_ble_eq_true rfl)))).trans c4, (K5 _ (Nat.add_lt_add_left (Nat.le_of_ble_eq_true rfl) o) (Nat.ne_of_gt (Nat.lt_add_of_pos_right (Nat.le_of_ble_eq_true rfl)))).trans c5, (K10 _ (Nat.add_lt_add_left (Nat.le_of_ble_eq_true rfl) o) (Nat.ne_of_gt (Nat.lt_add_of_pos_right (Nat.le_of_ble_eq_true rfl)))).trans ((k10' _ (Nat.ne_of_gt (Nat.lt_add_of_pos_right (Nat.le_of_ble_eq_true rfl)))).trans s10_0), (K10 _ (Nat.add_lt_add_left (Nat.le_of_ble_eq_true rfl) o) (Nat.ne_of_gt (Nat.lt_add_of_pos_right (Nat.le_of_ble_eq_true rfl)))).trans ((k10' _ (Nat.ne_of_gt (Nat.lt_add_of_pos_right (Nat.le_of_ble_eq_true rfl)))).trans s10_1), (K10 _ (Nat.add_lt_add_left (Nat.le_of_ble_eq_true rfl) o) (Nat.ne_of_gt (Nat.lt_add_of_pos_right (Nat.le_of_ble_eq_true rfl)))).trans ((k10' _ (Nat.ne_of_gt (Nat.lt_add_of_pos_right (Nat.le_of_ble_eq_true rfl)))).trans s10_2), (K10 _ (Nat.add_lt_add_left (Nat.le_of_ble_eq_true rfl) o) (Nat.ne_of_gt (Nat.lt_add_of_pos_right (Nat.le_of_ble_eq_true rfl)))).trans ((k10' _ (Nat.ne_of_gt (Nat.lt_add_of_pos_right (Nat.le_of_ble_eq_true rfl)))).trans s10_3), (K10 _ (Nat.add_lt_add_left (Nat.le_of_ble_eq_true rfl) o) (Nat.ne_of_gt (Nat.lt_add_of_pos_right (Nat.le_of_ble_eq_true rfl)))).trans ((k10' _ (Nat.ne_of_gt (Nat.lt_add_of_pos_right (Nat.le_of_ble_eq_true rfl)))).trans s10_4), (K10 _ (Nat.add_lt_add_left (Nat.le_of_ble_eq_true rfl) o) (Nat.ne_of_gt (Nat.lt_add_of_pos_right (Nat.le_of_ble_eq_true rfl)))).trans ((k10' _ (Nat.ne_of_gt (Nat.lt_add_of_pos_right (Nat.le_of_ble_eq_true rfl)))).trans s10_5), (K10 _ (Nat.add_lt_add_left (Nat.le_of_ble_eq_true rfl) o) (Nat.ne_of_gt (Nat.lt_add_of_pos_right (Nat.le_of_ble_eq_true rfl)))).trans ((k10' _ (Nat.ne_of_gt (Nat.lt_add_of_pos_right (Nat.le_of_ble_eq_true rfl)))).trans s10_6), (K11 _ (Nat.add_lt_add_left (Nat.le_of_ble_eq_true rfl) o) (Nat.ne_of_gt (Nat.lt_add_of_pos_right (Nat.le_of_ble_eq_true rfl)))).trans ((k11' _ (Nat.ne_of_gt (Nat.lt_add_of_pos_right (Nat.le_of_ble_eq_true rfl)))).trans s11_0), (K11 _ (Nat.add_lt_add_left (Nat.le_of_ble_eq_true rfl) o) (Nat.ne_of_gt (Nat.lt_add_of_pos_right (Nat.le_of_ble_eq_true rfl)))).trans ((k11' _ (Nat.ne_of_gt (Nat.lt_add_of_pos_right (Nat.le_of_ble_eq_true rfl)))).trans s11_1), (K11 _ (Nat.add_lt_add_left (Nat.le_of_ble_eq_true rfl) o) (Nat.ne_of_gt (Nat.lt_add_of_pos_right (Nat.le_of_ble_eq_true rfl)))).trans ((k11' _ (Nat.ne_of_gt (Nat.lt_add_of_pos_right (Nat.le_of_ble_eq_true rfl)))).trans s11_2), (K11 _ (Nat.add_lt_add_left (Nat.le_of_ble_eq_true rfl) o) (Nat.ne_of_gt (Nat.lt_add_of_pos_right (Nat.le_of_ble_eq_true rfl)))).trans ((k11' _ (Nat.ne_of_gt (Nat.lt_add_of_pos_right (Nat.le_of_ble_eq_true rfl)))).trans s11_3), (K11 _ (Nat.add_lt_add_left (Nat.le_of_ble_eq_true rfl) o) (Nat.ne_of_gt (Nat.lt_add_of_pos_right (Nat.le_of_ble_eq_true rfl)))).trans ((k11' _ (Nat.ne_of_gt (Nat.lt_add_of_pos_right (Nat.le_of_ble_eq_true rfl)))).trans s11_4), (K11 _ (Nat.add_lt_add_left (Nat.le_of_ble_eq_true rfl) o) (Nat.ne_of_gt (Nat.lt_add_of_pos_right (Nat.le_of_ble_eq_true rfl)))).trans ((k11' _ (Nat.ne_of_gt (Nat.lt_add_of_pos_right (Nat.le_of_ble_eq_true rfl)))).trans s11_5), (K11 _ (Nat.add_lt_add_left (Nat.le_of_ble_eq_true rfl) o) (Nat.ne_of_gt (Nat.lt_add_of_pos_right (Nat.le_of_ble_eq_true rfl)))).trans ((k11' _ (Nat.ne_of_gt (Nat.lt_add_of_pos_right (Nat.le_of_ble_eq_true rfl)))).trans s11_6), (K12 _ (Nat.add_lt_add_left (Nat.le_of_ble_eq_true rfl) o) (Nat.ne_of_gt (Nat.lt_add_of_pos_right (Nat.le_of_ble_eq_true rfl)))).trans ((k12' _ (Nat.ne_of_gt (Nat.lt_add_of_pos_right (Nat.le_of_ble_eq_true rfl)))).trans s12_0), (K12 _ (Nat.add_lt_add_left (Nat.le_of_ble_eq_true rfl) o) (Nat.ne_of_gt (Nat.lt_add_of_pos_right (Nat.le_of_ble_eq_true rfl)))).trans ((k12' _ (Nat.ne_of_gt (Nat.lt_add_of_pos_right (Nat.le_of_ble_eq_true rfl)))).trans s12_1), (K12 _ (Nat.add_lt_add_left (Nat.le_of_ble_eq_true rfl) o) (Nat.ne_of_gt (Nat.lt_add_of_pos_right (Nat.le_of_ble_eq_true rfl)))).trans ((k12' _ (Nat.ne_of_gt (Nat.lt_add_of_pos_right (Nat.le_of_ble_eq_true rfl)))).trans s12_2), (K12 _ (Nat.add_lt_add_left (Nat.le_of_ble_eq_true rfl) o) (Nat.ne_of_gt (Nat.lt_add_of_pos_right (Nat.le_of_ble_eq_true rfl)))).trans ((k12' _ (Nat.ne_of_gt (Nat.lt_add_of_pos_right (Nat.le_of_ble_eq_true rfl)))).trans s12_3), (K12 _ (Nat.add_lt_add_left (Nat.le_of_ble_eq_true rfl) o) (Nat.ne_of_gt (Nat.lt_add_of_pos_right (Nat.le_of_ble_eq_true rfl)))).trans ((k12' _ (Nat.ne_of_gt (Nat.lt_add_of_pos_right (Nat.le_of_ble_eq_true rfl)))).trans s12_4), (K12 _ (Nat.add_lt_add_left (Nat.le_of_ble_eq_true rfl) o) (Nat.ne_of_gt (Nat.lt_add_of_pos_right (Nat.le_of_ble_eq_true rfl)))).trans ((k12' _ (Nat.ne_of_gt (Nat.lt_add_of_pos_right (Nat.le_of_ble_eq_true rfl)))).trans s12_5), (K12 _ (Nat.add_lt_add_left (Nat.le_of_ble_eq_true rfl) o) (Nat.ne_of_gt (Nat.lt_add_of_pos_right (Nat.le_of_ble_eq_true rfl)))).trans ((k12' _ (Nat.ne_of_gt (Nat.lt_add_of_pos_right (Nat.le_of_ble_eq_true rfl)))).trans s12_6), (K12 _ (Nat.add_lt_add_left (Nat.le_of_ble_eq_true rfl) o) (Nat.ne_of_gt (Nat.lt_add_of_pos_right (Nat.le_of_ble_eq_true rfl)))).trans ((k12' _ (Nat.ne_of_gt (Nat.lt_add_of_pos_right (Nat.le_of_ble_eq_true rfl)))).trans s12_7), (K13 _ (Nat.add_lt_add_left (Nat.le_of_ble_eq_true rfl) o) (Nat.ne_of_gt (Nat.lt_add_of_pos_right (Nat.le_of_ble_eq_true rfl)))).trans ((k13' _ (Nat.ne_of_gt (Nat.lt_add_of_pos_right (Nat.le_of_ble_eq_true rfl)))).trans s13_0), (K13 _ (Nat.add_lt_add_left (Nat.le_of_ble_eq_true rfl) o) (Nat.ne_of_gt (Nat.lt_add_of_pos_right (Nat.le_of_ble_eq_true rfl)))).trans ((k13' _ (Nat.ne_of_gt (Nat.lt_add_of_pos_right (Nat.le_of_ble_eq_true rfl)))).trans s13_1), (K13 _ (Nat.add_lt_add_left (Nat.le_of_ble_eq_true rfl) o) (Nat.ne_of_gt (Nat.lt_add_of_pos_right (Nat.le_of_ble_eq_true rfl)))).trans ((k13' _ (Nat.ne_of_gt (Nat.lt_add_of_pos_right (Nat.le_of_ble_eq_true rfl)))).trans s13_2), (K13 _ (Nat.add_lt_add_left (Nat.le_of_ble_eq_true rfl) o) (Nat.ne_of_gt (Nat.lt_add_of_pos_right (Nat.le_of_ble_eq_true rfl)))).trans ((k13' _ (Nat.ne_of_gt (Nat.lt_add_of_pos_right (Nat.le_of_ble_eq_true rfl)))).trans s13_3), (K13 _ (Nat.add_lt_add_left (Nat.le_of_ble_eq_true rfl) o) (Nat.ne_of_gt (Nat.lt_add_of_pos_right (Nat.le_of_ble_eq_true rfl)))).trans ((k13' _ (Nat.ne_of_gt (Nat.lt_add_of_pos_right (Nat.le_of_ble_eq_true rfl)))).trans s13_4), (K13 _ (Nat.add_lt_add_left (Nat.le_of_ble_eq_true rfl) o) (Nat.ne_of_gt (Nat.lt_add_of_pos_right (Nat.le_of_ble_eq_true rfl)))).trans ((k13' _ (Nat.ne_of_gt (Nat.lt_add_of_pos_right (Nat.le_of_ble_eq_true rfl)))).trans s13_5), (K13 _ (Nat.add_lt_add_left (Nat.le_of_ble_eq_true rfl) o) (Nat.ne_of_gt (Nat.lt_add_of_pos_right (Nat.le_of_ble_eq_true rfl)))).trans ((k13' _ (Nat.ne_of_gt (Nat.lt_add_of_pos_right (Nat.le_of_ble_eq_true rfl)))).trans s13_6), (K13 _ (Nat.add_lt_add_left (Nat.le_of_ble_eq_true rfl) o) (Nat.ne_of_gt (Nat.lt_add_of_pos_right (Nat.le_of_ble_eq_true rfl)))).trans ((k13' _ (Nat.ne_of_gt (Nat.lt_add_of_pos_right (Nat.le_of_ble_eq_true rfl)))).trans s13_7), (K13 _ (Nat.add_lt_add_left (Nat.le_of_ble_eq_true rfl) o) (Nat.ne_of_gt (Nat.lt_add_of_pos_right (Nat.le_of_ble_eq_true rfl)))).trans ((k13' _ (Nat.ne_of_gt (Nat.lt_add_of_pos_right (Nat.le_of_ble_eq_true rfl)))).trans s13_8), (K13 _ (Nat.add_lt_add_left (Nat.le_of_ble_eq_true rfl) o) (Nat.ne_of_gt (Nat.lt_add_of_pos_right (Nat.le_of_ble_eq_true rfl)))).trans ((k13' _ (Nat.ne_of_gt (Nat.lt_add_of_pos_right (Nat.le_of_ble_eq_true rfl)))).trans s13_9), (K13 _ (Nat.add_lt_add_left (Nat.le_of_ble_eq_true rfl) o) (Nat.ne_of_gt (Nat.lt_add_of_pos_right (Nat.le_of_ble_eq_true rfl)))).trans ((k13' _ (Nat.ne_of_gt (Nat.lt_add_of_pos_right (Nat.le_of_ble_eq_true rfl)))).trans s13_10), (K14 _ (Nat.add_lt_add_left (Nat.le_of_ble_eq_true rfl) o) (Nat.ne_of_gt (Nat.lt_add_of_pos_right (Nat.le_of_ble_eq_true rfl)))).trans ((k14' _ (Nat.ne_of_gt (Nat.lt_add_of_pos_right (Nat.le_of_ble_eq_true rfl)))).trans s14_0), (K14 _ (Nat.add_lt_add_left (Nat.le_of_ble_eq_true rfl) o) (Nat.ne_of_gt (Nat.lt_add_of_pos_right (Nat.le_of_ble_eq_true rfl)))).trans ((k14' _ (Nat.ne_of_gt (Nat.lt_add_of_pos_right (Nat.le_of_ble_eq_true rfl)))).trans s14_1), (K14 _ (Nat.add_lt_add_left (Nat.le_of_ble_eq_true rfl) o) (Nat.ne_of_gt (Nat.lt_add_of_pos_right (Nat.le_of_ble_eq_true rfl)))).trans ((k14' _ (Nat.ne_of_gt (Nat.lt_add_of_pos_right (Nat.le_of_ble_eq_true rfl)))).trans s14_2), (K14 _ (Nat.add_lt_add_left (Nat.le_of_ble_eq_true rfl) o) (Nat.ne_of_gt (Nat.lt_add_of_pos_right (Nat.le_of_ble_eq_true rfl)))).trans ((k14' _ (Nat.ne_of_gt (Nat.lt_add_of_pos_right (Nat.le_of_ble_eq_true rfl)))).trans s14_3), (K14 _ (Nat.add_lt_add_left (Nat.le_of_ble_eq_true rfl) o) (Nat.ne_of_gt (Nat.lt_add_of_pos_right (Nat.le_of_ble_eq_true rfl)))).trans ((k14' _ (Nat.ne_of_gt (Nat.lt_add_of_pos_right (Nat.le_of_ble_eq_true rfl)))).trans s14_4), (K14 _ (Nat.add_lt_add_left (Nat.le_of_ble_eq_true rfl) o) (Nat.ne_of_gt (Nat.lt_add_of_pos_right (Nat.le_of_ble_eq_true rfl)))).trans ((k14' _ (Nat.ne_of_gt (Nat.lt_add_of_pos_right (Nat.le_of_ble_eq_true rfl)))).trans s14_5), (K14 _ (Nat.add_lt_add_left (Nat.le_of_ble_eq_true rfl) o) (Nat.ne_of_gt (Nat.lt_add_of_pos_right (Nat.le_of_ble_eq_true rfl)))).trans ((k14' _ (Nat.ne_of_gt (Nat.lt_add_of_pos_right (Nat.le_of_ble_eq_true rfl)))).trans s14_6), (K14 _ (Nat.add_lt_add_left (Nat.le_of_ble_eq_true rfl) o) (Nat.ne_of_gt (Nat.lt_add_of_pos_right (Nat.le_of_ble_eq_true rfl)))).trans ((k14' _ (Nat.ne_of_gt (Nat.lt_add_of_pos_right (Nat.le_of_ble_eq_true rfl)))).trans s14_7), (K14 _ (Nat.add_lt_add_left (Nat.le_of_ble_eq_true rfl) o) (Nat.ne_of_gt (Nat.lt_add_of_pos_right (Nat.le_of_ble_eq_true rfl)))).trans ((k14' _ (Nat.ne_of_gt (Nat.lt_add_of_pos_right (Nat.le_of_ble_eq_true rfl)))).trans s14_8), (K14 _ (Nat.add_lt_add_left (Nat.le_of_ble_eq_true rfl) o) (Nat.ne_of_gt (Nat.lt_add_of_pos_right (Nat.le_of_ble_eq_true rfl)))).trans ((k14' _ (Nat.ne_of_gt (Nat.lt_add_of_pos_right (Nat.le_of_ble_eq_true rfl)))).trans s14_9), (K14 _ (Nat.add_lt_add_left (Nat.le_of_ble_eq_true rfl) o) (Nat.ne_of_gt (Nat.lt_add_of_pos_right (Nat.le_of_ble_eq_true rfl)))).trans ((k14' _ (Nat.ne_of_gt (Nat.lt_add_of_pos_right (Nat.le_of_ble_eq_true rfl)))).trans s14_10)⟩
  clear K0 K1 K2 K3 K4 K5 K6 K7 K8 K9 K10 K11 K12 K13 K14 U0 U1 U2 U3 U4 U5 U6 U7 U8 U9 U10 U11 U12 U13 U14
  unfold f_Mg_init
  rw [am_ck_of o0]
  rw [e1, b2s, f1, Option.bind_some, e2, b2s, f2, Option.bind_some, e3, b2s, f3, Option.bind_some, e4, b2s, f4, Option.bind_some, e5, b2s, f5, Option.bind_some, f6, Option.bind_some, f7, Option.bind_some, f8, Option.bind_some, f9, Option.bind_some, n9, e10, Option.bind_some, f10, Option.bind_some, n10, e11, Option.bind_some, f11, Option.bind_some, n11, e12]
  rw [Option.bind_some, f12, Option.bind_some, n12, e13, Option.bind_some, f13, Option.bind_some, n13, e14, Option.bind_some, f14, Option.bind_some]
