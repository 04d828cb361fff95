/-! ===== the heap: facts on am_R, then a row an instruction ===== -/
theorem am_ok_moved {u U : State} (hvm : u.vm.Alike U.vm) {cA : ClassId} {ty : FieldType} (h : am_ok u cA ty) : am_ok U cA ty := by
  cases ty with
  | object C =>
    obtain ⟨kA, comp, h1, h2, h3⟩ := h
    obtain ⟨k', hk', he⟩ := hvm.2.2 _ _ h1
    exact ⟨k', comp, hk', by rw [he]; exact h2, by rw [hvm.findClass]; exact h3⟩
  | _ => trivial
theorem am_r_ge {g : am_G} {k : Nat} (h : 8 ≤ k) : am_r g k = g.1.heap.size + (k - 8) := by
  unfold am_r; rw [if_neg (by omega)]
theorem am_r_ne {g : am_G} (hK : am_K g) {j a : Nat} (ha : 8 ≤ a) (h : j ≠ a) : am_r g j ≠ am_r g a := by
  rw [am_r_ge ha]
  unfold am_r
  split
  · rename_i hj
    have := hK.2.2.1 j hj
    omega
  · omega
theorem am_at.kept {g : am_G} {a : Nat} {x : am_C} {H H1 : Heap} (h : am_at g a x H) (hq : H1[a]? = H[a]?) : am_at g a x H1 := by
  cases x with
  | inl y =>
    obtain ⟨cell, h1, h2⟩ := h
    exact ⟨cell, hq.trans h1, h2⟩
  | inr y => exact t_OB.kept h hq
theorem am_at.lt {g : am_G} {a : Nat} {x : am_C} {H : Heap} (h : am_at g a x H) : a < H.size := by
  cases x with
  | inl y =>
    obtain ⟨cell, h1, h2⟩ := h
    exact (Array.getElem?_eq_some_iff.mp h1).1
  | inr y =>
    obtain ⟨cell, h1, h2⟩ := h
    exact (Array.getElem?_eq_some_iff.mp h1).1
def am_upd (h : Nat → Option am_C) (a : Nat) (x : am_C) : Nat → Option am_C := fun j => if j = a then some x else h j
def am_put (σ : am_S) (a : Nat) (x : am_C) : am_S := (σ.1, σ.2.1, am_upd σ.2.2 a x)
def am_new (σ : am_S) (n : Nat) (x : am_C) : am_S := (σ.1 + 1, σ.2.1 + n, am_upd σ.2.2 σ.1 x)
theorem am_R.put {g : am_G} (hK : am_K g) {σ : am_S} {H H1 : Heap} (h : am_R g σ H) {a : Nat} {x : am_C} (ha : 8 ≤ a) (hx : am_at g (am_r g a) x H1) (hz : H1.size = H.size) (ho : ∀ q, q ≠ am_r g a → H1[q]? = H[q]?) : am_R g (am_put σ a x) H1 := by
  refine ⟨fun j y hj => ?_, by rw [hz]; exact h.2.1, h.2.2.1, fun q hq => ?_⟩
  · by_cases hja : j = a
    · subst hja
      simp [am_put, am_upd] at hj
      subst hj
      exact hx
    · simp [am_put, am_upd, hja] at hj
      exact (h.1 j y hj).kept (ho _ (am_r_ne hK ha hja))
  · rw [ho q (by rw [am_r_ge ha]; omega)]
    exact h.2.2.2 q hq
theorem am_R.top {g : am_G} {σ : am_S} {H : Heap} (h : am_R g σ H) : am_r g σ.1 = H.size := by
  rw [am_r_ge h.2.2.1, h.2.1]
theorem am_R.new {g : am_G} {σ : am_S} {H H1 : Heap} (h : am_R g σ H) {n : Nat} {x : am_C} (hx : am_at g H.size x H1) (hz : H1.size = H.size + 1) (ho : ∀ q, q < H.size → H1[q]? = H[q]?) : am_R g (am_new σ n x) H1 := by
  have ht := h.top
  have h8 := h.2.2.1
  refine ⟨fun j y hj => ?_, ?_, ?_, fun q hq => ?_⟩
  · by_cases hja : j = σ.1
    · subst hja
      simp [am_new, am_upd] at hj
      subst hj
      rw [ht]
      exact hx
    · simp [am_new, am_upd, hja] at hj
      exact (h.1 j y hj).kept (ho _ (h.1 j y hj).lt)
  · show H1.size = _ + (σ.1 + 1 - 8)
    rw [hz, h.2.1]
    omega
  · show 8 ≤ σ.1 + 1
    omega
  · rw [ho q (by rw [h.2.1]; omega)]
    exact h.2.2.2 q hq
/-! the fields' words -/
def am_lay (c k : Nat) : Cond := if (am_fd c k).2.2.1 = true then .laysFinal (am_cn c) (am_cn c) (am_fd c k).1 (am_fd c k).2.1 else .lays (am_cn c) (am_cn c) (am_fd c k).1 (am_fd c k).2.1
theorem am_N_eq : ∀ c, c < am_NC → am_N c = (am_fl c).length := by decide +kernel
theorem am_ty_ok : ∀ c, c < am_NC → ∀ k, k < am_N c → parseFieldDescriptor (am_fd c k).2.1 = some (am_fd c k).2.2.2 := by decide +kernel
theorem am_nm_ok : ∀ c, c < am_NC → ∀ a, a < am_N c → ∀ b, b < am_N c → a ≠ b → (am_fd c a).1 ≠ (am_fd c b).1 := by decide +kernel
theorem am_lay_ok : ∀ c, c < am_NC → ∀ k, k < am_N c → am_lay c k ∈ lw_tbl := by decide +kernel
theorem am_lay_good (c k : Nat) : goodWord (am_lay c k) = true := by
  unfold am_lay
  split <;> rfl
