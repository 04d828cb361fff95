/-! ===== L3, base: reading and writing known cells; frames; small numbers ===== -/
abbrev cI (n : Nat) (f : Nat → Int32) : am_C := .inl (.int, n, fun j => .int (f j))
abbrev cB (n : Nat) (f : Nat → Int32) : am_C := .inl (.byte, n, fun j => .int (f j))
abbrev cZ (n : Nat) (f : Nat → Int32) : am_C := .inl (.boolean, n, fun j => .int (f j))
abbrev cS (n : Nat) (f : Nat → Int32) : am_C := .inl (.short, n, fun j => .int (f j))
abbrev cO (c : Nat) (fs : List Value) : am_C := .inr (c, fs)
def uf (f : Nat → Int32) (i : Nat) (v : Int32) : Nat → Int32 := fun j => if j = i then v else f j
theorem uf_same (f : Nat → Int32) (i : Nat) (v : Int32) : uf f i v i = v := by simp [uf]
theorem uf_ne {f : Nat → Int32} {i j : Nat} {v : Int32} (h : j ≠ i) : uf f i v j = f j := by simp [uf, h]
theorem uf_V (f : Nat → Int32) (i : Nat) (v : Int32) : updV (fun j => .int (f j)) i (.int v) = fun j => .int (uf f i v j) := by
  funext j
  by_cases h : j = i <;> simp [updV, uf, h]
theorem gI_of {σ : am_S} {c k a : Nat} {fs : List Value} {v : Int32} (h : σ.2.2 a = some (.inr (c, fs))) (hk : fs[k]? = some (.int v)) : am_gI σ c k a = some v := by
  unfold am_gI am_gf; rw [h]; simp [hk]
theorem gA_of {σ : am_S} {c k a r : Nat} {fs : List Value} (h : σ.2.2 a = some (.inr (c, fs))) (hk : fs[k]? = some (.ref r)) : am_gA σ c k a = some r := by
  unfold am_gA am_gf; rw [h]; simp [hk]
theorem pf_of {σ : am_S} {c k a : Nat} {fs : List Value} {v : Value} (h : σ.2.2 a = some (.inr (c, fs))) (h8 : 8 ≤ a) (hk : k < fs.length) : am_pf σ c k a v = some (am_put σ a (.inr (c, fs.set k v))) := by
  unfold am_pf; rw [h]; simp [h8, hk]
theorem pI_of {σ : am_S} {c k a : Nat} {fs : List Value} {v : Int32} (h : σ.2.2 a = some (.inr (c, fs))) (h8 : 8 ≤ a) (hk : k < fs.length) : am_pI σ c k a v = some (am_put σ a (.inr (c, fs.set k (.int v)))) := pf_of h h8 hk
theorem pA_of {σ : am_S} {c k a r : Nat} {fs : List Value} (h : σ.2.2 a = some (.inr (c, fs))) (h8 : 8 ≤ a) (hk : k < fs.length) : am_pA σ c k a r = some (am_put σ a (.inr (c, fs.set k (.ref r)))) := pf_of h h8 hk
theorem pZ_of {σ : am_S} {c k a : Nat} {fs : List Value} {v : Int32} (h : σ.2.2 a = some (.inr (c, fs))) (h8 : 8 ≤ a) (hk : k < fs.length) (hv : v = 0 ∨ v = 1) : am_pZ σ c k a v = some (am_put σ a (.inr (c, fs.set k (.int v)))) := by
  unfold am_pZ; rw [if_pos hv]; exact pf_of h h8 hk
theorem lI_of {σ : am_S} {ty : FieldType} {a n i : Nat} {f : Nat → Int32} (h : σ.2.2 a = some (.inl (ty, n, fun j => .int (f j)))) (hi : i < n) (hn : n < 2 ^ 31) : am_lI σ ty a (nI i) = some (f i) := by
  have h1 : ¬ nI i < 0 := nI_pos (by omega)
  have h2 : (nI i).toNatClampNeg = i := nI_clamp (by omega)
  unfold am_lI am_ld; rw [h]; simp [h1, h2, hi]
theorem st_of {σ : am_S} {ty : FieldType} {a n i : Nat} {f : Nat → Int32} {v : Int32} (h : σ.2.2 a = some (.inl (ty, n, fun j => .int (f j)))) (h8 : 8 ≤ a) (hi : i < n) (hn : n < 2 ^ 31) : am_st σ ty a (nI i) (.int v) = some (am_put σ a (.inl (ty, n, fun j => .int (uf f i v j)))) := by
  have h1 : ¬ nI i < 0 := nI_pos (by omega)
  have h2 : (nI i).toNatClampNeg = i := nI_clamp (by omega)
  unfold am_st; rw [h]; simp [h1, h2, hi, h8, uf_V]
theorem sI_of {σ : am_S} {a n i : Nat} {f : Nat → Int32} {v : Int32} (h : σ.2.2 a = some (cI n f)) (h8 : 8 ≤ a) (hi : i < n) (hn : n < 2 ^ 31) : am_sI σ a (nI i) v = some (am_put σ a (cI n (uf f i v))) := st_of h h8 hi hn
theorem sB_of {σ : am_S} {a n i : Nat} {f : Nat → Int32} {v : Int32} (h : σ.2.2 a = some (cB n f)) (h8 : 8 ≤ a) (hi : i < n) (hn : n < 2 ^ 31) : am_sB σ a (nI i) v = some (am_put σ a (cB n (uf f i (am_i2b v)))) := st_of h h8 hi hn
theorem sZ_of {σ : am_S} {a n i : Nat} {f : Nat → Int32} {v : Int32} (h : σ.2.2 a = some (cZ n f)) (h8 : 8 ≤ a) (hi : i < n) (hn : n < 2 ^ 31) : am_sZ σ a (nI i) v = some (am_put σ a (cZ n (uf f i (v &&& 1)))) := st_of h h8 hi hn
theorem sS_of {σ : am_S} {a n i : Nat} {f : Nat → Int32} {v : Int32} (h : σ.2.2 a = some (cS n f)) (h8 : 8 ≤ a) (hi : i < n) (hn : n < 2 ^ 31) : am_sS σ a (nI i) v = some (am_put σ a (cS n (uf f i (am_i2s v)))) := st_of h h8 hi hn
theorem lA_of {σ : am_S} {c a n i r : Nat} {f : Nat → Value} (h : σ.2.2 a = some (.inl (.object (am_cn c), n, f))) (hi : i < n) (hn : n < 2 ^ 31) (hr : f i = .ref r) : am_lA σ c a (nI i) = some r := by
  have h1 : ¬ nI i < 0 := nI_pos (by omega)
  have h2 : (nI i).toNatClampNeg = i := nI_clamp (by omega)
  unfold am_lA am_ld; rw [h]; simp [h1, h2, hi, hr]
theorem cp_of {σ : am_S} {ty : FieldType} {a0 a n0 n1 sp dp n : Nat} {f0 f1 : Nat → Int32} (h0 : σ.2.2 a0 = some (.inl (ty, n0, fun j => .int (f0 j)))) (h1 : σ.2.2 a = some (.inl (ty, n1, fun j => .int (f1 j)))) (h8 : 8 ≤ a) (hs : sp + n ≤ n0) (hd : dp + n ≤ n1) (hn0 : n0 < 2 ^ 31) (hn1 : n1 < 2 ^ 31) :
    am_cp σ ty a0 (nI sp) a (nI dp) (nI n) = some (am_put σ a (.inl (ty, n1, fun j => .int (va_cpy f0 f1 sp dp n j)))) := by
  have e1 : ¬ nI sp < 0 := nI_pos (by omega)
  have e2 : ¬ nI dp < 0 := nI_pos (by omega)
  have e3 : ¬ nI n < 0 := nI_pos (by omega)
  have c1 : (nI sp).toNatClampNeg = sp := nI_clamp (by omega)
  have c2 : (nI dp).toNatClampNeg = dp := nI_clamp (by omega)
  have c3 : (nI n).toNatClampNeg = n := nI_clamp (by omega)
  have ev : va_cpy (fun j => Value.int (f0 j)) (fun j => Value.int (f1 j)) sp dp n = fun j => Value.int (va_cpy f0 f1 sp dp n j) := by
    funext j
    unfold va_cpy
    split <;> rfl
  unfold am_cp; rw [h0, h1]; simp [e1, e2, e3, c1, c2, c3, h8, hs, hd, ev]
theorem put_at (σ : am_S) (a : Nat) (x : am_C) : (am_put σ a x).2.2 a = some x := by simp [am_put, am_upd]
theorem put_ne {σ : am_S} {a b : Nat} {x : am_C} (h : b ≠ a) : (am_put σ a x).2.2 b = σ.2.2 b := by simp [am_put, am_upd, h]
/-- nothing has changed but at S; nothing is new -/
def Fr (S : Nat → Prop) (σ σ' : am_S) : Prop := σ'.1 = σ.1 ∧ σ'.2.1 = σ.2.1 ∧ ∀ a, ¬ S a → σ'.2.2 a = σ.2.2 a
theorem Fr.refl (S : Nat → Prop) (σ : am_S) : Fr S σ σ := ⟨rfl, rfl, fun _ _ => rfl⟩
theorem Fr.trans {S : Nat → Prop} {σ σ1 σ2 : am_S} (h : Fr S σ σ1) (h' : Fr S σ1 σ2) : Fr S σ σ2 := ⟨h'.1.trans h.1, h'.2.1.trans h.2.1, fun a ha => (h'.2.2 a ha).trans (h.2.2 a ha)⟩
theorem Fr.mono {S S' : Nat → Prop} {σ σ1 : am_S} (h : Fr S σ σ1) (hs : ∀ a, S a → S' a) : Fr S' σ σ1 := ⟨h.1, h.2.1, fun a ha => h.2.2 a fun z => ha (hs a z)⟩
theorem Fr.put {S : Nat → Prop} {σ : am_S} {a : Nat} {x : am_C} (ha : S a) : Fr S σ (am_put σ a x) := ⟨rfl, rfl, fun b hb => put_ne fun e => hb (e ▸ ha)⟩
theorem Fr.at {S : Nat → Prop} {σ σ1 : am_S} (h : Fr S σ σ1) {a : Nat} {x : Option am_C} (ha : ¬ S a) (hx : σ.2.2 a = x) : σ1.2.2 a = x := (h.2.2 a ha).trans hx
/-- numbers -/
theorem nI_sub {a b : Nat} (h : b ≤ a) : nI a - nI b = nI (a - b) := by
  have e := nI_add (a - b) b
  rw [show a - b + b = a by omega] at e
  rw [← e, Int32.add_sub_cancel]
theorem nI_lit (n : Nat) : nI n = Int32.ofNat n := rfl
theorem nI_add_lit (a b : Nat) : nI a + Int32.ofNat b = nI (a + b) := nI_add a b
theorem nI_toNat {n : Nat} (h : n < 2 ^ 31) : (nI n).toNatClampNeg = n := nI_clamp h
