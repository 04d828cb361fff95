/-! ===== L3: the order of PATHS ===== -/
theorem and255 (x : Int32) : ∃ k : Nat, k ≤ 255 ∧ x &&& 255 = nI k := by
  refine ⟨x.toBitVec.toNat &&& 255, Nat.and_le_right, ?_⟩
  apply Int32.toBitVec_inj.mp
  apply BitVec.eq_of_toNat_eq
  have h : x.toBitVec.toNat &&& 255 ≤ 255 := Nat.and_le_right
  have h2 : (BitVec.ofNat 32 (x.toBitVec.toNat &&& 255)).toNat = x.toBitVec.toNat &&& 255 := by rw [BitVec.toNat_ofNat, Nat.mod_eq_of_lt (by omega)]
  have h3 : (x.toBitVec &&& 255#32).toNat = x.toBitVec.toNat &&& 255 := BitVec.toNat_and _ _
  exact h3.trans h2.symm
theorem byte_inj {x y : Int32} (hx : am_i2b x = x) (hy : am_i2b y = y) (h : x &&& 255 = y &&& 255) : x = y := by
  have e : ∀ z : Int32, (z &&& 255).toInt8 = z.toInt8 := fun z => by
    rw [Int32.toInt8_and]
    have : (255 : Int32).toInt8 = -1 := by decide
    rw [this]
    simp
  rw [← hx, ← hy]
  unfold am_i2b
  rw [← e x, ← e y, h]
theorem nI_sub_neg {a b : Nat} (ha : a < 2 ^ 30) (hb : b < 2 ^ 30) : (nI a - nI b < 0) ↔ a < b := by
  by_cases h : b ≤ a
  · rw [nI_sub h]
    constructor
    · intro z; exact absurd z (nI_pos (by omega))
    · intro z; omega
  · have hab : a < b := by omega
    constructor
    · intro _; exact hab
    · intro _
      have h1 : (nI a).toInt = (a : Int) := nI_toInt (by omega)
      have h2 : (nI b).toInt = (b : Int) := nI_toInt (by omega)
      have h0 : (0 : Int32).toInt = 0 := by decide
      rw [Int32.lt_iff_toInt_lt, h0, Int32.toInt_sub, h1, h2, Int.bmod_def]
      split <;> omega
theorem nI_sub_zero {a b : Nat} (ha : a < 2 ^ 30) (hb : b < 2 ^ 30) : (nI a - nI b = 0) ↔ a = b := by
  constructor
  · intro h
    have : nI a = nI b := by grind
    exact (nI_eq (by omega) (by omega)).mp this
  · rintro rfl
    grind
/-- rows of bytes -/
def isB (l : List Int32) : Prop := l.length < 2 ^ 30 ∧ ∀ x ∈ l, am_i2b x = x
theorem isB.tail {x : Int32} {l : List Int32} (h : isB (x :: l)) : isB l := ⟨by have := h.1; simp at this; omega, fun y hy => h.2 y (List.mem_cons_of_mem _ hy)⟩
def ltP (p q : List Int32) : Prop := cmpV p q < 0
theorem ltP_nil {p : List Int32} (h : isB p) : ¬ ltP p [] := by
  unfold ltP
  rw [cmpV_nil, nI_sub_neg h.1 (by omega)]
  omega
theorem ltP_nc {y : Int32} {q : List Int32} (h : isB (y :: q)) : ltP [] (y :: q) := by
  show nI 0 - nI (y :: q).length < 0
  rw [nI_sub_neg (by omega) h.1]
  simp
theorem ltP_cons {x y : Int32} {p q : List Int32} : ltP (x :: p) (y :: q) ↔ (x = y ∧ ltP p q) ∨ (x ≠ y ∧ (x &&& 255) - (y &&& 255) < 0) := by
  unfold ltP
  rw [cmpV]
  by_cases h : x = y <;> simp [h]
theorem cmp0 : ∀ {p q : List Int32}, isB p → isB q → (cmpV p q = 0 ↔ p = q)
  | [], [], _, _ => by
    show (nI 0 - nI 0 = 0) ↔ _
    rw [nI_sub_zero (by omega) (by omega)]
    simp
  | [], y :: q, _, hq => by
    show (nI 0 - nI (y :: q).length = 0) ↔ _
    rw [nI_sub_zero (by omega) hq.1]
    simp
  | x :: p, [], hp, _ => by
    rw [cmpV_nil, nI_sub_zero hp.1 (by omega)]
    simp
  | x :: p, y :: q, hp, hq => by
    rw [cmpV]
    by_cases h : x = y
    · rw [if_pos h, cmp0 hp.tail hq.tail, h]
      simp
    · rw [if_neg h]
      obtain ⟨a, ha, ea⟩ := and255 x
      obtain ⟨b, hb, eb⟩ := and255 y
      rw [ea, eb, nI_sub_zero (by omega) (by omega)]
      constructor
      · intro hab
        exact absurd (byte_inj (hp.2 x List.mem_cons_self) (hq.2 y List.mem_cons_self) (by rw [ea, eb, hab])) h
      · intro hz
        injection hz with h1 h2
        exact absurd h1 h
theorem ltP_irr {p : List Int32} (hp : isB p) : ¬ ltP p p := by
  unfold ltP
  rw [(cmp0 hp hp).mpr rfl]
  decide
theorem ltP_trans : ∀ {p q r : List Int32}, isB p → isB q → isB r → ltP p q → ltP q r → ltP p r
  | _, _, [], _, hq, _, _, h2 => absurd h2 (ltP_nil hq)
  | _, [], _ :: _, hp, _, _, h1, _ => absurd h1 (ltP_nil hp)
  | [], _ :: _, _ :: _, _, _, hr, _, _ => ltP_nc hr
  | x :: p, y :: q, z :: r, hp, hq, hr, h1, h2 => by
    rw [ltP_cons] at h1 h2 ⊢
    obtain ⟨a, ha, ea⟩ := and255 x
    obtain ⟨b, hb, eb⟩ := and255 y
    obtain ⟨c, hc, ec⟩ := and255 z
    rw [ea, eb, nI_sub_neg (by omega) (by omega)] at h1
    rw [eb, ec, nI_sub_neg (by omega) (by omega)] at h2
    rw [ea, ec, nI_sub_neg (by omega) (by omega)]
    rcases h1 with ⟨e1, h1⟩ | ⟨n1, h1⟩
    · subst e1
      rcases h2 with ⟨e2, h2⟩ | ⟨n2, h2⟩
      · exact Or.inl ⟨e2, ltP_trans hp.tail hq.tail hr.tail h1 h2⟩
      · have hab : a = b := (nI_eq (by omega) (by omega)).mp (ea.symm.trans eb)
        exact Or.inr ⟨n2, by omega⟩
    · rcases h2 with ⟨e2, h2⟩ | ⟨n2, h2⟩
      · subst e2
        have hbc : b = c := (nI_eq (by omega) (by omega)).mp (eb.symm.trans ec)
        exact Or.inr ⟨n1, by omega⟩
      · refine Or.inr ⟨fun e => ?_, by omega⟩
        subst e
        have hac : a = c := (nI_eq (by omega) (by omega)).mp (ea.symm.trans ec)
        omega
theorem ltP_tri : ∀ {p q : List Int32}, isB p → isB q → p ≠ q → ¬ ltP p q → ltP q p
  | [], [], _, _, h, _ => absurd rfl h
  | [], y :: q, _, hq, _, h => absurd (ltP_nc hq) h
  | x :: p, [], hp, _, _, _ => ltP_nc hp
  | x :: p, y :: q, hp, hq, hne, h => by
    rw [ltP_cons] at h ⊢
    obtain ⟨a, ha, ea⟩ := and255 x
    obtain ⟨b, hb, eb⟩ := and255 y
    rw [ea, eb, nI_sub_neg (by omega) (by omega)] at h
    rw [ea, eb, nI_sub_neg (by omega) (by omega)]
    by_cases e : x = y
    · subst e
      exact Or.inl ⟨rfl, ltP_tri hp.tail hq.tail (fun z => hne (by rw [z])) fun z => h (Or.inl ⟨rfl, z⟩)⟩
    · refine Or.inr ⟨fun z => e z.symm, ?_⟩
      have h1 : ¬ a < b := fun z => h (Or.inr ⟨e, z⟩)
      have h2 : a ≠ b := fun z => e (byte_inj (hp.2 x List.mem_cons_self) (hq.2 y List.mem_cons_self) (by rw [ea, eb, z]))
      omega
