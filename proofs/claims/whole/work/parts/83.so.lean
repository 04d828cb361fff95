/-! ===== L3: MAPS stay sorted ===== -/
theorem fnd_no {P : PL} {q : List Int32} (h : fnd P q = none) {i : Nat} (hi : i < P.length) : P[i].1 ≠ q := by
  unfold fnd at h
  rw [List.findIdx?_eq_none_iff] at h
  have := h P[i] (List.getElem_mem hi)
  simpa using this
theorem Srt.nil : Srt [] := ⟨fun k h => absurd h (by simp), fun i j h => absurd h (by simp)⟩
theorem Srt.set {P : PL} (h : Srt P) {i : Nat} (hi : i < P.length) (v : Int32) : Srt (P.set i (P[i].1, v)) := by
  have e : ∀ k (hk : k < (P.set i (P[i].1, v)).length), (P.set i (P[i].1, v))[k].1 = (P[k]'(by simpa using hk)).1 := by
    intro k hk
    rw [List.getElem_set]
    split
    · rename_i z; subst z; rfl
    · rfl
  constructor
  · intro k hk
    rw [e k hk]
    exact h.1 k _
  · intro a b ha hb hab
    rw [e a ha, e b hb]
    exact h.2 a b _ _ hab
theorem Srt.ins {P : PL} (h : Srt P) {q : List Int32} (hq : isB q) (hf : fnd P q = none) (v : Int32) : Srt (insP P (plc P q) (q, v)) := by
  obtain ⟨p1, p2⟩ := plc_lt h hq
  have hp := plc_le P q
  have lo : ∀ i (hi : i < P.length), i < plc P q → ltP P[i].1 q := p1
  have hi' : ∀ i (hi : i < P.length), plc P q ≤ i → ltP q P[i].1 := fun i hi hle => ltP_tri (h.1 i hi) hq (fnd_no hf hi) (p2 i hi hle)
  constructor
  · intro k hk
    rw [insP_get hp _ hk]
    split
    · exact h.1 _ _
    · split
      · exact hq
      · exact h.1 _ _
  · intro a b ha hb hab
    rw [insP_get hp _ ha, insP_get hp _ hb]
    rw [insP_len hp] at ha hb
    by_cases c1 : a < plc P q
    · rw [dif_pos c1]
      by_cases c2 : b < plc P q
      · rw [dif_pos c2]
        exact h.2 a b _ _ hab
      · rw [dif_neg c2]
        by_cases c3 : b = plc P q
        · rw [dif_pos c3]
          exact lo a (by omega) c1
        · rw [dif_neg c3]
          exact h.2 a (b - 1) _ _ (by omega)
    · rw [dif_neg c1, dif_neg (show ¬ b < plc P q by omega), dif_neg (show ¬ b = plc P q by omega)]
      by_cases c4 : a = plc P q
      · rw [dif_pos c4]
        exact hi' (b - 1) (by omega) (by omega)
      · rw [dif_neg c4]
        exact h.2 (a - 1) (b - 1) _ _ (by omega)
theorem Srt.asg {P : PL} (h : Srt P) {q : List Int32} (hq : isB q) (v : Int32) : Srt (asgP P q v) := by
  unfold asgP
  cases hf : fnd P q with
  | none => exact h.ins hq hf v
  | some i =>
    obtain ⟨-, e2, e3⟩ := fnd_plc h hq hf
    have := h.set e2 v
    rw [e3] at this
    exact this
theorem delP_get {P : PL} {k i : Nat} (hk : k < P.length) (hi : i < (delP P k).length) : (delP P k)[i] = if h : i < k then P[i]'(by omega) else P[i + 1]'(by rw [delP_len hk] at hi; omega) := by
  have h := delP_getq (i := i) hk
  rw [List.getElem?_eq_getElem hi] at h
  rw [delP_len hk] at hi
  by_cases c : i < k
  · rw [if_pos c, List.getElem?_eq_getElem (by omega)] at h
    rw [dif_pos c]
    exact Option.some.inj h
  · rw [if_neg c, List.getElem?_eq_getElem (by omega)] at h
    rw [dif_neg c]
    exact Option.some.inj h
theorem Srt.del {P : PL} (h : Srt P) {k : Nat} (hk : k < P.length) : Srt (delP P k) := by
  constructor
  · intro i hi
    rw [delP_get hk hi]
    split <;> exact h.1 _ _
  · intro a b ha hb hab
    rw [delP_get hk ha, delP_get hk hb]
    by_cases c1 : a < k
    · rw [dif_pos c1]
      split
      · exact h.2 _ _ _ _ hab
      · exact h.2 _ _ _ _ (by omega)
    · rw [dif_neg c1, dif_neg (by omega)]
      exact h.2 _ _ _ _ (by omega)
theorem insP_mem {P : PL} {k : Nat} {e x : List Int32 × Int32} : x ∈ insP P k e ↔ x = e ∨ x ∈ P := by
  unfold insP
  rw [List.mem_append, List.mem_cons]
  constructor
  · rintro (h | h | h)
    · exact Or.inr (List.mem_of_mem_take h)
    · exact Or.inl h
    · exact Or.inr (List.mem_of_mem_drop h)
  · rintro (h | h)
    · exact Or.inr (Or.inl h)
    · rw [← List.take_append_drop k P, List.mem_append] at h
      rcases h with h | h
      · exact Or.inl h
      · exact Or.inr (Or.inr h)
theorem delP_mem {P : PL} {k : Nat} {x : List Int32 × Int32} (h : x ∈ delP P k) : x ∈ P := by
  unfold delP at h
  rw [List.mem_append] at h
  rcases h with h | h
  · exact List.mem_of_mem_take h
  · exact List.mem_of_mem_drop h
/-- two sorted rows with the same members are one -/
theorem Srt.uniq : ∀ {P Q : PL}, Srt P → Srt Q → (∀ x, x ∈ P ↔ x ∈ Q) → P = Q
  | [], [], _, _, _ => rfl
  | [], q :: Q, _, _, h => absurd ((h q).mpr List.mem_cons_self) (by simp)
  | p :: P, [], _, _, h => absurd ((h p).mp List.mem_cons_self) (by simp)
  | p :: P, q :: Q, hP, hQ, h => by
    have tl : ∀ {x : List Int32 × Int32} {X : PL}, Srt (x :: X) → Srt X := fun {x X} hX => ⟨fun k hk => hX.1 (k + 1) (by simp; omega), fun i j hi hj hij => hX.2 (i + 1) (j + 1) (by simp; omega) (by simp; omega) (by omega)⟩
    have hd : ∀ {x y : List Int32 × Int32} {X : PL}, Srt (x :: X) → y ∈ X → ltP x.1 y.1 := fun {x y X} hX hy => by
      obtain ⟨i, hi, e⟩ := List.mem_iff_getElem.mp hy
      have := hX.2 0 (i + 1) (by simp) (by simp; omega) (by omega)
      simp only [List.getElem_cons_zero, List.getElem_cons_succ] at this
      rw [e] at this
      exact this
    have bP : isB p.1 := hP.1 0 (by simp)
    have bQ : isB q.1 := hQ.1 0 (by simp)
    have e : p = q := by
      rcases List.mem_cons.mp ((h p).mp List.mem_cons_self) with z | z
      · exact z
      · rcases List.mem_cons.mp ((h q).mpr List.mem_cons_self) with y | y
        · exact y.symm
        · exact absurd (ltP_trans bQ bP bQ (hd hQ z) (hd hP y)) (ltP_irr bQ)
    subst e
    congr 1
    refine Srt.uniq (tl hP) (tl hQ) fun x => ?_
    have h' := h x
    simp only [List.mem_cons] at h'
    constructor
    · intro hx
      rcases h'.mp (Or.inr hx) with z | z
      · subst z; exact absurd (hd hP hx) (ltP_irr bP)
      · exact z
    · intro hx
      rcases h'.mpr (Or.inr hx) with z | z
      · subst z; exact absurd (hd hQ hx) (ltP_irr bP)
      · exact z
theorem VB.mem {B : List (List Int32)} {P : PL} (hB : B.length ≤ 500) : VB B P ↔ ∀ x ∈ P, ∃ k, k < B.length ∧ x.2 = nI k := by
  constructor
  · intro h x hx
    obtain ⟨i, hi, e⟩ := List.mem_iff_getElem.mp hx
    obtain ⟨h1, h2⟩ := h i hi
    refine ⟨_, h1, ?_⟩
    rw [← e, ← valI_of hi]
    exact h2
  · intro h k hk
    obtain ⟨n, h1, h2⟩ := h P[k] (List.getElem_mem hk)
    have hv : valI P k = nI n := by rw [valI_of hk, h2]
    unfold valN
    rw [hv, nI_clamp (by omega)]
    exact ⟨h1, rfl⟩
theorem VB.nil (B : List (List Int32)) : VB B [] := fun k hk => absurd hk (by simp)
theorem VB.mono {B : List (List Int32)} {P : PL} (h : VB B P) {B' : List (List Int32)} (hl : B.length ≤ B'.length) : VB B' P := fun k hk => ⟨by have := (h k hk).1; omega, (h k hk).2⟩
theorem set_mem {P : PL} {i : Nat} {e x : List Int32 × Int32} (h : x ∈ P.set i e) : x = e ∨ x ∈ P := by
  rcases List.mem_or_eq_of_mem_set h with z | z
  · exact Or.inr z
  · exact Or.inl z
theorem VB.asg {B : List (List Int32)} {P : PL} (hB : B.length ≤ 500) (h : VB B P) {q : List Int32} {n : Nat} (hn : n < B.length) : VB B (asgP P q (nI n)) := by
  rw [VB.mem hB] at h ⊢
  intro x hx
  unfold asgP at hx
  have : x = (q, nI n) ∨ x ∈ P := by
    cases hf : fnd P q with
    | none => rw [hf] at hx; exact insP_mem.mp hx
    | some i => rw [hf] at hx; exact set_mem hx
  rcases this with z | z
  · subst z; exact ⟨n, hn, rfl⟩
  · exact h x z
theorem VB.del {B : List (List Int32)} {P : PL} (hB : B.length ≤ 500) (h : VB B P) (k : Nat) : VB B (delP P k) := by
  rw [VB.mem hB] at h ⊢
  exact fun x hx => h x (delP_mem hx)
