/-! ===== L3: running straight code by simp ===== -/
def xk {α : Type} (x : Option am_C) (c : Nat) (X : Option α) : Option α := match x with
  | some (.inr y) => if y.1 = c then X else none
  | _ => none
def xg (x : Option am_C) (c k : Nat) : Option Value := match x with
  | some (.inr y) => if y.1 = c then y.2[k]? else none
  | _ => none
def xi (x : Option Value) : Option Int32 := match x with
  | some (.int v) => some v
  | _ => none
def xa (x : Option Value) : Option Nat := match x with
  | some (.ref v) => some v
  | _ => none
def xl (x : Option am_C) (ty : FieldType) (i : Int32) : Option Value := match x with
  | some (.inl y) => if y.1 = ty ∧ ¬ i < 0 ∧ i.toNatClampNeg < y.2.1 then some (y.2.2 i.toNatClampNeg) else none
  | _ => none
def xn (x : Option am_C) : Option Int32 := match x with
  | some (.inl y) => some (Int32.ofNat y.2.1)
  | _ => none
def xp (σ : am_S) (a : Nat) (x : Option am_C) (c k : Nat) (v : Value) : Option am_S := match x with
  | some (.inr y) => if y.1 = c ∧ 8 ≤ a ∧ k < y.2.length then some (am_put σ a (.inr (c, y.2.set k v))) else none
  | _ => none
def xs (σ : am_S) (a : Nat) (x : Option am_C) (ty : FieldType) (i : Int32) (v : Value) : Option am_S := match x with
  | some (.inl y) => if y.1 = ty ∧ 8 ≤ a ∧ ¬ i < 0 ∧ i.toNatClampNeg < y.2.1 then some (am_put σ a (.inl (ty, y.2.1, updV y.2.2 i.toNatClampNeg v))) else none
  | _ => none
def xc (σ : am_S) (a : Nat) (x0 x : Option am_C) (ty : FieldType) (sp dp n : Int32) : Option am_S := match x0, x with
  | some (.inl x), some (.inl y) => if x.1 = ty ∧ y.1 = ty ∧ 8 ≤ a ∧ ¬ sp < 0 ∧ ¬ dp < 0 ∧ ¬ n < 0 ∧ sp.toNatClampNeg + n.toNatClampNeg ≤ x.2.1 ∧ dp.toNatClampNeg + n.toNatClampNeg ≤ y.2.1 then some (am_put σ a (.inl (ty, y.2.1, va_cpy x.2.2 y.2.2 sp.toNatClampNeg dp.toNatClampNeg n.toNatClampNeg))) else none
  | _, _ => none
section SXL
variable {σ : am_S} {a c k n i : Nat} {ty : FieldType} {fs : List Value} {f : Nat → Int32} {α : Type}
theorem sx_ck {X : Option α} : am_ck σ c a X = xk (σ.2.2 a) c X := by
  unfold am_ck am_isx xk
  split <;> simp_all
theorem xk_s {X : Option α} : xk (some (.inr (c, fs))) c X = X := by simp [xk]
theorem sx_gI : am_gI σ c k a = xi (xg (σ.2.2 a) c k) := rfl
theorem sx_gA : am_gA σ c k a = xa (xg (σ.2.2 a) c k) := rfl
theorem xg_s : xg (some (.inr (c, fs))) c k = fs[k]? := by simp [xg]
theorem xi_s {v : Int32} : xi (some (.int v)) = some v := rfl
theorem xa_s {v : Nat} : xa (some (.ref v)) = some v := rfl
theorem sx_lI {i : Int32} : am_lI σ ty a i = xi (xl (σ.2.2 a) ty i) := rfl
theorem sx_lA {i : Int32} : am_lA σ c a i = xa (xl (σ.2.2 a) (.object (am_cn c)) i) := rfl
theorem xl_s (hi : i < n) (hn : n < 2 ^ 31) : xl (some (.inl (ty, n, fun j => .int (f j)))) ty (nI i) = some (.int (f i)) := by
  have h1 : ¬ nI i < 0 := nI_pos (by omega)
  have h2 : (nI i).toNatClampNeg = i := nI_clamp (by omega)
  simp [xl, h1, h2, hi]
theorem xl_v {g : Nat → Value} (hi : i < n) (hn : n < 2 ^ 31) : xl (some (.inl (ty, n, g))) ty (nI i) = some (g i) := by
  have h1 : ¬ nI i < 0 := nI_pos (by omega)
  have h2 : (nI i).toNatClampNeg = i := nI_clamp (by omega)
  simp [xl, h1, h2, hi]
theorem sx_len : am_len σ a = xn (σ.2.2 a) := rfl
theorem xn_s {g : Nat → Value} : xn (some (.inl (ty, n, g))) = some (nI n) := rfl
theorem sx_pI {v : Int32} : am_pI σ c k a v = xp σ a (σ.2.2 a) c k (.int v) := rfl
theorem sx_pA {v : Nat} : am_pA σ c k a v = xp σ a (σ.2.2 a) c k (.ref v) := rfl
theorem sx_pZ {v : Int32} (hv : v = 0 ∨ v = 1) : am_pZ σ c k a v = xp σ a (σ.2.2 a) c k (.int v) := by
  unfold am_pZ; rw [if_pos hv]; rfl
theorem sx_pZ0 : am_pZ σ c k a 0 = xp σ a (σ.2.2 a) c k (.int 0) := sx_pZ (Or.inl rfl)
theorem sx_pZ1 : am_pZ σ c k a 1 = xp σ a (σ.2.2 a) c k (.int 1) := sx_pZ (Or.inr rfl)
theorem xp_s {v : Value} (h8 : 8 ≤ a) (hk : k < fs.length) : xp σ a (some (.inr (c, fs))) c k v = some (am_put σ a (.inr (c, fs.set k v))) := by simp [xp, h8, hk]
theorem sx_sI {i v : Int32} : am_sI σ a i v = xs σ a (σ.2.2 a) .int i (.int v) := rfl
theorem sx_sB {i v : Int32} : am_sB σ a i v = xs σ a (σ.2.2 a) .byte i (.int (am_i2b v)) := rfl
theorem sx_sZ {i v : Int32} : am_sZ σ a i v = xs σ a (σ.2.2 a) .boolean i (.int (v &&& 1)) := rfl
theorem sx_sS {i v : Int32} : am_sS σ a i v = xs σ a (σ.2.2 a) .short i (.int (am_i2s v)) := rfl
theorem xs_s {v : Int32} (h8 : 8 ≤ a) (hi : i < n) (hn : n < 2 ^ 31) : xs σ a (some (.inl (ty, n, fun j => .int (f j)))) ty (nI i) (.int v) = some (am_put σ a (.inl (ty, n, fun j => .int (uf f i v j)))) := by
  have h1 : ¬ nI i < 0 := nI_pos (by omega)
  have h2 : (nI i).toNatClampNeg = i := nI_clamp (by omega)
  simp [xs, h1, h2, hi, h8, uf_V]
theorem sx_cp {a0 : Nat} {sp dp n : Int32} : am_cp σ ty a0 sp a dp n = xc σ a (σ.2.2 a0) (σ.2.2 a) ty sp dp n := rfl
theorem xc_s {n0 n1 sp dp : Nat} {f0 f1 : Nat → Int32} (h8 : 8 ≤ a) (hs : sp + n ≤ n0) (hd : dp + n ≤ n1) (hn0 : n0 < 2 ^ 31) (hn1 : n1 < 2 ^ 31) :
    xc σ a (some (.inl (ty, n0, fun j => .int (f0 j)))) (some (.inl (ty, n1, fun j => .int (f1 j)))) ty (nI sp) (nI dp) (nI n) = some (am_put σ a (.inl (ty, n1, fun j => .int (va_cpy f0 f1 sp dp n j)))) := by
  have e1 : ¬ nI sp < 0 := nI_pos (by omega)
  have e2 : ¬ nI dp < 0 := nI_pos (by omega)
  have e3 : ¬ nI n < 0 := nI_pos (by omega)
  have c1 : (nI sp).toNatClampNeg = sp := nI_clamp (by omega)
  have c2 : (nI dp).toNatClampNeg = dp := nI_clamp (by omega)
  have c3 : (nI n).toNatClampNeg = n := nI_clamp (by omega)
  have ev : va_cpy (fun j => Value.int (f0 j)) (fun j => Value.int (f1 j)) sp dp n = fun j => Value.int (va_cpy f0 f1 sp dp n j) := by
    funext j
    unfold va_cpy
    split <;> rfl
  simp [xc, e1, e2, e3, c1, c2, c3, h8, hs, hd, ev]
theorem new_at {x : am_C} : (am_new σ n x).2.2 σ.1 = some x := by simp [am_new, am_upd]
theorem new_ne {x : am_C} (h : a ≠ σ.1) : (am_new σ n x).2.2 a = σ.2.2 a := by simp [am_new, am_upd, h]
theorem put_1 {x : am_C} : (am_put σ a x).1 = σ.1 := rfl
theorem put_2 {x : am_C} : (am_put σ a x).2.1 = σ.2.1 := rfl
theorem nI_addL (a n : Nat) : nI a + (no_index (OfNat.ofNat n) : Int32) = nI (a + OfNat.ofNat n) := nI_add a n
end SXL
