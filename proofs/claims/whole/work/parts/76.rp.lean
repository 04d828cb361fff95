/-! ===== L3: pairing, by itself ===== -/
/-- which COME a GONE is paired with and by what SCORE; which COME are taken -/
abbrev PSt : Type := (Nat → Option (Nat × Nat)) × (Nat → Bool)
def st0 : PSt := (fun _ => none, fun _ => false)
def joinS (s : PSt) (g c v : Nat) : PSt := (fun i => if i = g then some (c, v) else s.1 i, fun i => if i = c then true else s.2 i)
abbrev PAc : Type := Option (Nat × Nat) × Nat
def bstep (sc : Nat → Nat → Nat) (s : PSt) (g : Nat) (a : PAc) (c : Nat) : PAc := if s.2 c = false ∧ a.2 < sc g c then (some (g, c), sc g c) else a
def brow (sc : Nat → Nat → Nat) (s : PSt) (C : Nat) (a : PAc) (g : Nat) : PAc := if (s.1 g).isNone = true then (List.range' 0 C).foldl (bstep sc s g) a else a
def best (sc : Nat → Nat → Nat) (s : PSt) (G C : Nat) : PAc := (List.range' 0 G).foldl (brow sc s C) (none, 499)
def grd (sc : Nat → Nat → Nat) (G C : Nat) : Nat → PSt → PSt
  | 0, s => s
  | n + 1, s => match best sc s G C with
    | (some (g, c), v) => grd sc G C n (joinS s g c v)
    | (none, _) => s
theorem foldl_inv {α β : Type} {f : β → α → β} (I : β → Prop) : ∀ (l : List α) (a : β), I a → (∀ a x, x ∈ l → I a → I (f a x)) → I (l.foldl f a)
  | [], a, h, _ => h
  | x :: l, a, h, hs => foldl_inv I l (f a x) (hs a x List.mem_cons_self h) fun b y hy => hs b y (List.mem_cons_of_mem _ hy)
theorem foldl_fix {α β : Type} {f : β → α → β} (l : List α) (a : β) (h : ∀ x ∈ l, f a x = a) : l.foldl f a = a :=
  foldl_inv (fun b => b = a) l a rfl fun b x hx e => by rw [e]; exact h x hx
theorem mem_range' {k n i : Nat} : i ∈ List.range' k n ↔ k ≤ i ∧ i < k + n := by
  rw [List.mem_range']
  constructor
  · rintro ⟨j, h1, h2⟩; omega
  · rintro ⟨h1, h2⟩; exact ⟨i - k, by omega, by omega⟩
def AOK (sc : Nat → Nat → Nat) (s : PSt) (G C : Nat) (a : PAc) : Prop := (a.1 = none ∧ a.2 = 499) ∨ ∃ g c, a.1 = some (g, c) ∧ a.2 = sc g c ∧ g < G ∧ c < C ∧ s.1 g = none ∧ s.2 c = false ∧ 499 < sc g c
theorem AOK.ge {sc : Nat → Nat → Nat} {s : PSt} {G C : Nat} {a : PAc} (h : AOK sc s G C a) : 499 ≤ a.2 := by
  rcases h with h | ⟨g, c, h1, h2, h3, h4, h5, h6, h7⟩
  · omega
  · omega
theorem brow_ok {sc : Nat → Nat → Nat} {s : PSt} {G C : Nat} {a : PAc} {g : Nat} (hg : g < G) (h : AOK sc s G C a) : AOK sc s G C (brow sc s C a g) := by
  unfold brow
  split
  · rename_i hn
    refine foldl_inv (AOK sc s G C) _ a h fun b c hc hb => ?_
    unfold bstep
    split
    · rename_i hz
      have := hb.ge
      exact Or.inr ⟨g, c, rfl, rfl, hg, by have := mem_range'.mp hc; omega, Option.isNone_iff_eq_none.mp hn, hz.1, by omega⟩
    · exact hb
  · exact h
theorem best_ok (sc : Nat → Nat → Nat) (s : PSt) (G C : Nat) : AOK sc s G C (best sc s G C) :=
  foldl_inv (AOK sc s G C) _ _ (Or.inl ⟨rfl, rfl⟩) fun _ g hg ha => brow_ok (by have := mem_range'.mp hg; omega) ha
theorem best_le {sc : Nat → Nat → Nat} {s : PSt} {G C : Nat} (hsc : ∀ g c, sc g c ≤ 1000) : (best sc s G C).2 ≤ 1000 := by
  rcases best_ok sc s G C with h | ⟨g, c, h1, h2, -⟩
  · omega
  · rw [h2]; exact hsc g c
/-- how many GONE are free -/
def nfr (s : PSt) (G : Nat) : Nat := (flt (fun g => (s.1 g).isNone) G).length
theorem nfr_join {s : PSt} {g c v : Nat} (hs : s.1 g = none) : ∀ {G : Nat}, nfr (joinS s g c v) G = if g < G then nfr s G - 1 else nfr s G
  | 0 => by simp [nfr, flt_zero]
  | G + 1 => by
    have ih := nfr_join (c := c) (v := v) hs (G := G)
    have hpos : g < G → 0 < nfr s G := fun h => by
      have := flt_idx (fun g => (s.1 g).isNone) h (by simp [hs])
      have := (List.getElem?_eq_some_iff.mp this).1
      unfold nfr
      omega
    unfold nfr at *
    rw [flt_succ, flt_succ]
    by_cases e : g = G
    · subst e
      rw [if_neg (by omega)] at ih
      have e1 : ((joinS s g c v).1 g).isNone = false := by simp [joinS]
      have e2 : (s.1 g).isNone = true := by simp [hs]
      simp only [e1, e2, Bool.false_eq_true, if_false, if_true]
      rw [ih, if_pos (by omega), List.length_append]
      rfl
    · have e1 : ((joinS s g c v).1 G).isNone = (s.1 G).isNone := by simp [joinS, Ne.symm e]
      rw [e1]
      cases hn : (s.1 G).isNone with
      | true =>
        simp only [if_true, List.length_append, List.length_singleton]
        by_cases hg : g < G
        · have := hpos hg
          simp only [hg, show g < G + 1 by omega, if_true] at ih ⊢
          omega
        · simp only [hg, show ¬ g < G + 1 by omega, if_false] at ih ⊢
          omega
      | false =>
        simp only [Bool.false_eq_true, if_false]
        by_cases hg : g < G
        · simp only [hg, show g < G + 1 by omega, if_true] at ih ⊢
          exact ih
        · simp only [hg, show ¬ g < G + 1 by omega, if_false] at ih ⊢
          exact ih
theorem nfr_zero {s : PSt} {G : Nat} (h : nfr s G = 0) {g : Nat} (hg : g < G) : (s.1 g).isNone = false := by
  cases hn : (s.1 g).isNone with
  | false => rfl
  | true =>
    have := flt_idx (fun g => (s.1 g).isNone) hg hn
    have := (List.getElem?_eq_some_iff.mp this).1
    unfold nfr at h
    omega
theorem best_zero {sc : Nat → Nat → Nat} {s : PSt} {G C : Nat} (h : nfr s G = 0) : (best sc s G C).1 = none := by
  unfold best
  rw [foldl_fix]
  intro g hg
  unfold brow
  rw [nfr_zero h (by have := mem_range'.mp hg; omega)]
  rfl
/-- one after the other: each GONE takes the first free COME that is as it -/
def sqs (sc : Nat → Nat → Nat) (C : Nat) : List Nat → PSt → PSt
  | [], s => s
  | g :: l, s => sqs sc C l (match (List.range' 0 C).find? (fun c => !(s.2 c) && decide (sc g c = 1000)) with
    | some c => joinS s g c 1000
    | none => s)
theorem brow_none {sc : Nat → Nat → Nat} {s : PSt} {C g : Nat} {a : PAc} (h : (s.1 g).isNone = true → ∀ c, c < C → s.2 c = false → sc g c ≤ a.2) : brow sc s C a g = a := by
  unfold brow
  split
  · rename_i hn
    apply foldl_fix
    intro c hc
    unfold bstep
    rw [if_neg]
    intro z
    have := h hn c (by have := mem_range'.mp hc; omega) z.1
    omega
  · rfl
theorem bstep_first {sc : Nat → Nat → Nat} {s : PSt} {g : Nat} (h01 : ∀ c, sc g c = 0 ∨ sc g c = 1000) : ∀ (l : List Nat), l.foldl (bstep sc s g) (none, 499) = match l.find? (fun c => !(s.2 c) && decide (sc g c = 1000)) with
    | some c => (some (g, c), 1000)
    | none => (none, 499)
  | [] => rfl
  | c :: l => by
    rw [List.foldl_cons, List.find?_cons]
    by_cases hc : s.2 c = false ∧ sc g c = 1000
    · have e1 : bstep sc s g (none, 499) c = (some (g, c), 1000) := by
        unfold bstep
        rw [if_pos ⟨hc.1, by rw [hc.2]; decide⟩, hc.2]
      have e2 : (!(s.2 c) && decide (sc g c = 1000)) = true := by simp [hc.1, hc.2]
      rw [e1, e2]
      apply foldl_fix
      intro d _
      unfold bstep
      rw [if_neg]
      rintro ⟨-, z⟩
      have : (1000 : Nat) < sc g d := z
      rcases h01 d with h | h <;> omega
    · have e1 : bstep sc s g (none, 499) c = (none, 499) := by
        unfold bstep
        rw [if_neg]
        rintro ⟨z1, z2⟩
        have : (499 : Nat) < sc g c := z2
        rcases h01 c with h | h
        · omega
        · exact hc ⟨z1, h⟩
      have e2 : (!(s.2 c) && decide (sc g c = 1000)) = false := by
        cases hs : s.2 c with
        | true => rfl
        | false =>
          have : ¬ sc g c = 1000 := fun z => hc ⟨hs, z⟩
          simp [this]
      rw [e1, e2]
      exact bstep_first h01 l
theorem sqs_grd {sc : Nat → Nat → Nat} {G C : Nat} (h01 : ∀ g c, sc g c = 0 ∨ sc g c = 1000) : ∀ (d g n : Nat) (s : PSt), d = G - g → g ≤ G → d ≤ n → (∀ g', g' < g → (s.1 g').isNone = true → ∀ c, c < C → s.2 c = false → sc g' c ≤ 499) → (∀ g', g ≤ g' → s.1 g' = none) → grd sc G C n s = sqs sc C (List.range' g d) s
  | 0, g, n, s, hd, hg, hn, h1, h2 => by
    have e : g = G := by omega
    subst e
    have hb : best sc s g C = (none, 499) := by
      unfold best
      apply foldl_fix
      intro x hx
      exact brow_none (h1 x (by have := mem_range'.mp hx; omega))
    cases n with
    | zero => rfl
    | succ n =>
      unfold grd
      rw [hb]
      rfl
  | d + 1, g, n, s, hd, hg, hn, h1, h2 => by
    obtain ⟨n, rfl⟩ : ∃ k, n = k + 1 := ⟨n - 1, by omega⟩
    have hsplit : List.range' 0 G = List.range' 0 g ++ (g :: List.range' (g + 1) d) := by
      rw [← List.range'_succ, show G = g + (d + 1) by omega, ← List.range'_append_1]
      simp
    have hpre : (List.range' 0 g).foldl (brow sc s C) (none, 499) = (none, 499) := foldl_fix _ _ fun x hx => brow_none (h1 x (by have := mem_range'.mp hx; omega))
    have hrow : brow sc s C (none, 499) g = (List.range' 0 C).foldl (bstep sc s g) (none, 499) := by
      unfold brow
      rw [if_pos (by rw [h2 g (Nat.le_refl _)]; rfl)]
    have hr : List.range' g (d + 1) = g :: List.range' (g + 1) d := List.range'_succ
    rw [hr, sqs]
    cases hf : (List.range' 0 C).find? (fun c => !(s.2 c) && decide (sc g c = 1000)) with
    | some c =>
      have hb : best sc s G C = (some (g, c), 1000) := by
        unfold best
        rw [hsplit, List.foldl_append, hpre, List.foldl_cons, hrow, bstep_first (h01 g), hf]
        apply foldl_fix
        intro x _
        apply brow_none
        intro _ c' _ _
        show sc x c' ≤ 1000
        rcases h01 x c' with h | h <;> omega
      rw [grd, hb]
      apply sqs_grd h01 d (g + 1) n _ (by omega) (by omega) (by omega)
      · intro g' hg' hn' c' hc' hf'
        by_cases e : g' = g
        · subst e
          simp [joinS] at hn'
        · have e1 : (s.1 g').isNone = true := by
            simpa [joinS, e] using hn'
          have e2 : s.2 c' = false := by
            simp only [joinS] at hf'
            split at hf'
            · cases hf'
            · exact hf'
          exact h1 g' (by omega) e1 c' hc' e2
      · intro g' hg'
        simp only [joinS]
        rw [if_neg (by omega)]
        exact h2 g' (by omega)
    | none =>
      have hnone : ∀ c, c < C → s.2 c = false → sc g c ≤ 499 := by
        intro c hc hs
        have := List.find?_eq_none.mp hf c (mem_range'.mpr ⟨by omega, by omega⟩)
        rw [hs] at this
        simp at this
        rcases h01 g c with h | h
        · omega
        · exact absurd h this
      apply sqs_grd h01 d (g + 1) (n + 1) _ (by omega) (by omega) (by omega)
      · intro g' hg' hn' c' hc' hf'
        by_cases e : g' = g
        · subst e; exact hnone c' hc' hf'
        · exact h1 g' (by omega) hn' c' hc' hf'
      · intro g' hg'
        exact h2 g' (by omega)
theorem sqs_all {sc : Nat → Nat → Nat} {G C : Nat} (h01 : ∀ g c, sc g c = 0 ∨ sc g c = 1000) : grd sc G C G st0 = sqs sc C (List.range' 0 G) st0 :=
  sqs_grd h01 G 0 G st0 (by omega) (by omega) (Nat.le_refl _) (fun g' h => by omega) fun g' _ => rfl
