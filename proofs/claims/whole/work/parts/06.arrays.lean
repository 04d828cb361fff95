def am_ld (σ : am_S) (ty : FieldType) (a : Nat) (i : Int32) : Option Value := match σ.2.2 a with
  | some (.inl y) => if y.1 = ty ∧ ¬ i < 0 ∧ i.toNatClampNeg < y.2.1 then some (y.2.2 i.toNatClampNeg) else none
  | _ => none
def am_lI (σ : am_S) (ty : FieldType) (a : Nat) (i : Int32) : Option Int32 := match am_ld σ ty a i with
  | some (.int v) => some v
  | _ => none
def am_lL (σ : am_S) (a : Nat) (i : Int32) : Option Int64 := match am_ld σ .long a i with
  | some (.long v) => some v
  | _ => none
def am_lA (σ : am_S) (c : Nat) (a : Nat) (i : Int32) : Option Nat := match am_ld σ (.object (am_cn c)) a i with
  | some (.ref v) => some v
  | _ => none
def am_len (σ : am_S) (a : Nat) : Option Int32 := match σ.2.2 a with
  | some (.inl y) => some (Int32.ofNat y.2.1)
  | _ => none
def am_st (σ : am_S) (ty : FieldType) (a : Nat) (i : Int32) (v : Value) : Option am_S := match σ.2.2 a with
  | some (.inl y) => if y.1 = ty ∧ 8 ≤ a ∧ ¬ i < 0 ∧ i.toNatClampNeg < y.2.1 then some (am_put σ a (.inl (ty, y.2.1, updV y.2.2 i.toNatClampNeg v))) else none
  | _ => none
def am_sI (σ : am_S) (a : Nat) (i v : Int32) : Option am_S := am_st σ .int a i (.int v)
def am_sB (σ : am_S) (a : Nat) (i v : Int32) : Option am_S := am_st σ .byte a i (.int (am_i2b v))
def am_sZ (σ : am_S) (a : Nat) (i v : Int32) : Option am_S := am_st σ .boolean a i (.int (v &&& 1))
def am_sS (σ : am_S) (a : Nat) (i v : Int32) : Option am_S := am_st σ .short a i (.int (am_i2s v))
def am_sL (σ : am_S) (a : Nat) (i : Int32) (v : Int64) : Option am_S := am_st σ .long a i (.long v)
/-- a reference to an object of class c into an array of such -/
def am_sA (σ : am_S) (c : Nat) (a : Nat) (i : Int32) (v : Nat) : Option am_S := match σ.2.2 v with
  | some (.inr y) => if y.1 = c then am_st σ (.object (am_cn c)) a i (.ref v) else none
  | _ => none
theorem am_ld_some {σ : am_S} {ty : FieldType} {a : Nat} {i : Int32} {v : Value} (h : am_ld σ ty a i = some v) : ∃ (n : Nat) (f : Nat → Value), σ.2.2 a = some (.inl (ty, n, f)) ∧ ¬ i < 0 ∧ i.toNatClampNeg < n ∧ f i.toNatClampNeg = v := by
  unfold am_ld at h
  split at h
  · rename_i y hy
    split at h
    · rename_i hc
      obtain ⟨t, n, f⟩ := y
      obtain ⟨h1, h2, h3⟩ := hc
      subst h1
      cases h
      exact ⟨n, f, hy, h2, h3, rfl⟩
    · cases h
  · cases h
theorem am_st_some {σ σ1 : am_S} {ty : FieldType} {a : Nat} {i : Int32} {v : Value} (h : am_st σ ty a i v = some σ1) : ∃ (n : Nat) (f : Nat → Value), σ.2.2 a = some (.inl (ty, n, f)) ∧ 8 ≤ a ∧ ¬ i < 0 ∧ i.toNatClampNeg < n ∧ σ1 = am_put σ a (.inl (ty, n, updV f i.toNatClampNeg v)) := by
  unfold am_st at h
  split at h
  · rename_i y hy
    split at h
    · rename_i hc
      obtain ⟨t, n, f⟩ := y
      obtain ⟨h1, h0, h2, h3⟩ := hc
      subst h1
      cases h
      exact ⟨n, f, hy, h0, h2, h3, rfl⟩
    · cases h
  · cases h
theorem am_lI_some {σ : am_S} {ty : FieldType} {a : Nat} {i v : Int32} (h : am_lI σ ty a i = some v) : am_ld σ ty a i = some (.int v) := by
  unfold am_lI at h
  split at h
  · rename_i x hx; cases h; exact hx
  · cases h
theorem am_lL_some {σ : am_S} {a : Nat} {i : Int32} {v : Int64} (h : am_lL σ a i = some v) : am_ld σ .long a i = some (.long v) := by
  unfold am_lL at h
  split at h
  · rename_i x hx; cases h; exact hx
  · cases h
theorem am_lA_some {σ : am_S} {c a : Nat} {i : Int32} {v : Nat} (h : am_lA σ c a i = some v) : am_ld σ (.object (am_cn c)) a i = some (.ref v) := by
  unfold am_lA at h
  split at h
  · rename_i x hx; cases h; exact hx
  · cases h
theorem am_len_some {σ : am_S} {a : Nat} {v : Int32} (h : am_len σ a = some v) : ∃ (ty : FieldType) (n : Nat) (f : Nat → Value), σ.2.2 a = some (.inl (ty, n, f)) ∧ v = Int32.ofNat n := by
  unfold am_len at h
  split at h
  · rename_i y hy
    cases h
    exact ⟨y.1, y.2.1, y.2.2, hy, rfl⟩
  · cases h
/-- an array's cell behind a store -/
theorem am_at_st {g : am_G} {ty : FieldType} {n i a : Nat} {f : Nat → Value} {v : Value} {cell : Cell} {H1 : Heap} (q2 : g.1.isArrayOf cell ty) (q3 : am_ok g.1 cell.cls ty) (q4 : cell.vm ≠ .unknown) (q5 : n ≤ cell.slots.size ∧ cell.slots.size.toInt32 = Int32.ofNat n)
    (q6 : ∀ j, j < n → cell.slots[j]? = some (am_up g (f j)) ∧ fits ty (am_up g (f j)) = true) (hv : fits ty (am_up g v) = true) (e1 : H1[a]? = some (cell.setSlot i (am_up g v))) : am_at g a (.inl (ty, n, updV f i v)) H1 := by
  refine ⟨_, e1, q2, q3, q4, by simpa [Cell.setSlot] using q5, fun j hj => ?_⟩
  by_cases hji : j = i
  · subst hji
    rw [Cell.slots_setSlot_self _ (Nat.lt_of_lt_of_le hj q5.1)]
    simp [updV, hv]
  · rw [slot_ne _ _ (Ne.symm hji)]
    simpa [updV, hji] using q6 j hj
theorem am_fits_b (x : Int32) : fits .byte (.int (am_i2b x)) = true := by
  have h := lg_i2b_range x
  have h1 : (-128 : Int32) ≤ am_i2b x := by rw [Int32.le_iff_toInt_le]; exact h.1
  have h2 : am_i2b x ≤ (127 : Int32) := by rw [Int32.le_iff_toInt_le]; have := h.2; show (am_i2b x).toInt ≤ 127; unfold am_i2b; omega
  simp [fits, h1, h2]
theorem am_fits_s (x : Int32) : fits .short (.int (am_i2s x)) = true := by
  have h := lg_i2s_range x
  have h1 : (-32768 : Int32) ≤ am_i2s x := by rw [Int32.le_iff_toInt_le]; exact h.1
  have h2 : am_i2s x ≤ (32767 : Int32) := by rw [Int32.le_iff_toInt_le]; have := h.2; show (am_i2s x).toInt ≤ 32767; unfold am_i2s; omega
  simp [fits, h1, h2]
theorem am_and1 (x : Int32) : x &&& 1 = 0 ∨ x &&& 1 = 1 := by
  have h : (x.toBitVec &&& 1#32) = 0#32 ∨ (x.toBitVec &&& 1#32) = 1#32 := by
    have h1 : (x.toBitVec &&& 1#32).toNat = x.toBitVec.toNat % 2 := by
      rw [BitVec.toNat_and]
      exact Nat.and_one_is_mod _
    rcases Nat.mod_two_eq_zero_or_one x.toBitVec.toNat with h2 | h2
    · left; apply BitVec.eq_of_toNat_eq; rw [h1, h2]; rfl
    · right; apply BitVec.eq_of_toNat_eq; rw [h1, h2]; rfl
  rcases h with h | h
  · left; exact Int32.toBitVec_inj.mp h
  · right; exact Int32.toBitVec_inj.mp h
theorem am_fits_z (x : Int32) : fits .boolean (.int (x &&& 1)) = true := by
  rcases am_and1 x with h | h <;> rw [h] <;> rfl
