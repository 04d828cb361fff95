/-! ===== L3: MERGING by itself: each PATH stands in one group ===== -/
theorem nd_sum (f : Nat → Nat) : ∀ (n : Nat) (l : List Nat), l.Nodup → (∀ x ∈ l, x < n) → (l.map f).sum ≤ ((List.range' 0 n).map f).sum
  | 0, l, _, h => by
    cases l with
    | nil => exact Nat.le_refl _
    | cons x l => exact absurd (h x List.mem_cons_self) (by omega)
  | n + 1, l, hn, h => by
    have e : ((List.range' 0 (n + 1)).map f).sum = ((List.range' 0 n).map f).sum + f n := by
      rw [← List.range'_append_1]
      simp
    rw [e]
    by_cases c : n ∈ l
    · have hp := List.perm_cons_erase c
      have h1 : (l.map f).sum = f n + ((l.erase n).map f).sum := by
        rw [(hp.map f).sum_nat]
        rfl
      have h2 := nd_sum f n (l.erase n) (hn.erase n) fun x hx => by
        have := hn.mem_erase_iff.mp hx
        have := h x this.2
        omega
      omega
    · have := nd_sum f n l hn fun x hx => by
        have := h x hx
        have : x ≠ n := fun z => c (z ▸ hx)
        omega
      omega
/-- all of them, when there are so many -/
theorem nd_all {n : Nat} {l : List Nat} (hn : l.Nodup) (h : ∀ x ∈ l, x < n) (hl : n ≤ l.length) {i : Nat} (hi : i < n) : i ∈ l := by
  by_cases c : i ∈ l
  · exact c
  · exfalso
    have h1 := nd_sum (fun j => if j = i then 0 else 1) n l hn h
    have h2 : (l.map fun j => if j = i then 0 else 1).sum = l.length := by
      clear h1 hl h hn
      induction l with
      | nil => rfl
      | cons x l ih =>
        have hx : x ≠ i := fun z => c (by rw [z]; exact List.mem_cons_self)
        rw [List.map_cons, List.sum_cons, ih fun z => c (List.mem_cons_of_mem _ z), if_neg hx, List.length_cons]
        omega
    have h3 : ∀ m, ((List.range' 0 m).map fun j => if j = i then 0 else 1).sum = if i < m then m - 1 else m := by
      intro m
      induction m with
      | zero => rfl
      | succ m ih =>
        rw [← List.range'_append_1, List.map_append, List.sum_append_nat, ih]
        simp only [Nat.zero_add, List.range'_one, List.map_cons, List.map_nil, List.sum_cons, List.sum_nil]
        by_cases e1 : i < m
        · rw [if_pos e1, if_neg (by omega), if_pos (by omega)]; omega
        · rw [if_neg e1]
          by_cases e2 : m = i
          · rw [if_pos e2, if_pos (by omega)]; omega
          · rw [if_neg e2, if_neg (by omega)]; omega
    rw [h2, h3, if_pos hi] at h1
    omega
def pjI (s : PSt) : Prop := (∀ g c v, s.1 g = some (c, v) → s.2 c = true) ∧ ∀ g g' c v v', s.1 g = some (c, v) → s.1 g' = some (c, v') → g = g'
theorem pjI.join {s : PSt} (h : pjI s) {g c v : Nat} (hc : s.2 c = false) : pjI (joinS s g c v) := by
  constructor
  · intro g0 c0 v0 h0
    simp only [joinS] at h0 ⊢
    split at h0
    · cases h0; simp
    · have := h.1 g0 c0 v0 h0
      simp [this]
  · intro g0 g1 c0 v0 v1 h0 h1
    simp only [joinS] at h0 h1
    split at h0
    · rename_i e0
      cases h0
      split at h1
      · rename_i e1; omega
      · have := h.1 g1 c v1 h1
        rw [hc] at this
        cases this
    · split at h1
      · cases h1
        have := h.1 g0 c v0 h0
        rw [hc] at this
        cases this
      · exact h.2 g0 g1 c0 v0 v1 h0 h1
theorem rnS_inj {B : List (List Int32)} {P Q : PL} : pjI (rnS B P Q) := by
  have key : ∀ (f : Nat → Nat → Nat) (G C n : Nat) (s : PSt), pjI s → pjI (grd f G C n s) := by
    intro f G C n
    induction n with
    | zero => intro s hs; exact hs
    | succ n ih =>
      intro s hs
      rw [grd]
      have hok := best_ok f s G C
      cases hb : best f s G C with
      | mk a v =>
        rw [hb] at hok
        cases a with
        | none => exact hs
        | some gc =>
          obtain ⟨g, c⟩ := gc
          rcases hok with ⟨hz, -⟩ | ⟨g', c', e1, e2, e3, e4, e5, e6, -⟩
          · cases hz
          · cases e1
            exact ih _ (hs.join e6)
  exact key _ _ _ _ _ ⟨fun g c v h => (by cases h), fun g g' c v v' h => (by cases h)⟩
theorem fnd_at {P : PL} {q : List Int32} {i : Nat} (h : fnd P q = some i) : ∃ hi : i < P.length, P[i].1 = q := by
  unfold fnd at h
  rw [List.findIdx?_eq_some_iff_getElem] at h
  obtain ⟨h1, h2, -⟩ := h
  exact ⟨h1, by simpa using h2⟩
theorem Srt.inj {P : PL} (h : Srt P) {i j : Nat} (hi : i < P.length) (hj : j < P.length) (e : P[i].1 = P[j].1) : i = j := by
  rcases Nat.lt_trichotomy i j with c | c | c
  · have := h.2 i j hi hj c
    rw [e] at this
    exact absurd this (ltP_irr (h.1 j hj))
  · exact c
  · have := h.2 j i hj hi c
    rw [e] at this
    exact absurd this (ltP_irr (h.1 j hj))
theorem prt_inj {B : List (List Int32)} {P Q : PL} (hP : Srt P) {k k' j : Nat} (hk : k < P.length) (hk' : k' < P.length) (h : prt P Q (rnS B P Q) k = some j) (h' : prt P Q (rnS B P Q) k' = some j) : k = k' := by
  have ren : ∀ {k j : Nat}, k < P.length → fnd Q (pth P k) = none → (((rnS B P Q).1 (gL P Q k).length).map fun cv => (gA Q P).getD cv.1 0) = some j → ∃ c v, (rnS B P Q).1 (gL P Q k).length = some (c, v) ∧ ∃ hc : c < (gA Q P).length, (gA Q P)[c] = j := by
    intro k j hk hf h
    cases hs : (rnS B P Q).1 (gL P Q k).length with
    | none => rw [hs] at h; cases h
    | some cv =>
      obtain ⟨c, v⟩ := cv
      rw [hs] at h
      have hc := rnS_c _ c v hs
      simp only [Option.map_some, Option.some.injEq, gA_getD hc] at h
      exact ⟨c, v, rfl, hc, h⟩
  unfold prt at h h'
  cases hf : fnd Q (pth P k) with
  | some i =>
    rw [hf] at h
    cases h
    obtain ⟨h1, h2⟩ := fnd_at hf
    cases hf' : fnd Q (pth P k') with
    | some i' =>
      rw [hf'] at h'
      cases h'
      obtain ⟨h3, h4⟩ := fnd_at hf'
      rw [pth_of hk] at h2
      rw [pth_of hk'] at h4
      exact hP.inj hk hk' (h2.symm.trans h4)
    | none =>
      rw [hf'] at h'
      obtain ⟨c, v, -, hc, e⟩ := ren hk' hf' h'
      obtain ⟨m1, m2, -⟩ := gA_get hc
      rw [e] at m2
      have := isG_none m2
      rw [pth_of h1] at this
      have := fnd_no this hk
      rw [h2, pth_of hk] at this
      exact absurd rfl this
  | none =>
    rw [hf] at h
    obtain ⟨c, v, s1, hc, e⟩ := ren hk hf h
    cases hf' : fnd Q (pth P k') with
    | some i' =>
      rw [hf'] at h'
      cases h'
      obtain ⟨h3, h4⟩ := fnd_at hf'
      obtain ⟨m1, m2, -⟩ := gA_get hc
      rw [e] at m2
      have := isG_none m2
      rw [pth_of h3] at this
      have := fnd_no this hk'
      rw [h4, pth_of hk'] at this
      exact absurd rfl this
    | none =>
      rw [hf'] at h'
      obtain ⟨c', v', s1', hc', e'⟩ := ren hk' hf' h'
      have ec : c = c' := by
        obtain ⟨-, -, m3⟩ := gA_get hc
        obtain ⟨-, -, m3'⟩ := gA_get hc'
        rw [e] at m3
        rw [e'] at m3'
        omega
      subst ec
      have eg := rnS_inj.2 _ _ c v v' s1 s1'
      have i1 := flt_idx (isG P Q) hk (show isG P Q k = true by unfold isG; rw [hf]; rfl)
      have i2 := flt_idx (isG P Q) hk' (show isG P Q k' = true by unfold isG; rw [hf']; rfl)
      have eg' : (flt (isG P Q) k).length = (flt (isG P Q) k').length := eg
      rw [eg', i2] at i1
      exact (Option.some.inj i1).symm
def ua (l : List Gp) : List Nat := l.filterMap fun g => g.2.1
def ub (l : List Gp) : List Nat := l.filterMap fun g => g.2.2
def GNI (s : GSt) : Prop := (ua s.1).Nodup ∧ (ub s.1).Nodup ∧ (∀ a, s.2.1 a = true ↔ a ∈ ua s.1) ∧ ∀ b, s.2.2 b = true ↔ b ∈ ub s.1
theorem mrk_iff {u : Nat → Bool} {l : List Nat} (h : ∀ a, u a = true ↔ a ∈ l) (x : Option Nat) : ∀ a, mrk u x a = true ↔ a ∈ l ++ x.toList := by
  intro a
  cases x with
  | none => simp only [mrk, Option.toList_none, List.append_nil]; exact h a
  | some y =>
    simp only [mrk, Option.toList_some, List.mem_append, List.mem_singleton]
    by_cases e : a = y
    · rw [if_pos e]; simp [e]
    · rw [if_neg e, h a]; simp [e]
theorem fm_snoc {α β : Type} (f : α → Option β) (l : List α) (x : α) : (l ++ [x]).filterMap f = l.filterMap f ++ (f x).toList := by
  rw [List.filterMap_append]
  cases h : f x <;> simp [h]
theorem nd_snoc {l : List Nat} {x : Option Nat} (h : l.Nodup) (hx : ∀ a, x = some a → a ∉ l) : (l ++ x.toList).Nodup := by
  cases x with
  | none => simpa using h
  | some a =>
    rw [Option.toList_some, List.nodup_append]
    refine ⟨h, by simp, fun b hb c hc => ?_⟩
    rw [List.mem_singleton] at hc
    intro z
    exact hx a rfl (by rw [← hc, ← z]; exact hb)
theorem GNI.add {s : GSt} {g : Gp} (h : GNI s) (h1 : ∀ a, g.2.1 = some a → s.2.1 a = false) (h2 : ∀ b, g.2.2 = some b → s.2.2 b = false) : GNI (gadd s g) := by
  obtain ⟨n1, n2, m1, m2⟩ := h
  have e1 : ua (gadd s g).1 = ua s.1 ++ g.2.1.toList := fm_snoc _ _ _
  have e2 : ub (gadd s g).1 = ub s.1 ++ g.2.2.toList := fm_snoc _ _ _
  refine ⟨?_, ?_, ?_, ?_⟩
  · rw [e1]
    exact nd_snoc n1 fun a ha hm => by
      have := h1 a ha
      rw [(m1 a).mpr hm] at this
      cases this
  · rw [e2]
    exact nd_snoc n2 fun a ha hm => by
      have := h2 a ha
      rw [(m2 a).mpr hm] at this
      cases this
  · rw [e1]
    exact mrk_iff m1 g.2.1
  · rw [e2]
    exact mrk_iff m2 g.2.2
section GN
variable {B : List (List Int32)} {P0 P1 P2 : PL}
theorem gph0_s (n : Nat) : gph0 B P0 P1 P2 (n + 1) = gadd (gph0 B P0 P1 P2 n) (some n, prt P0 P1 (rnS B P0 P1) n, prt P0 P2 (rnS B P0 P2) n) := by
  unfold gph0
  rw [foldl_r']
  rfl
theorem gph1_s (n : Nat) : gph1 B P0 P1 P2 (n + 1) = gst1 P1 P2 (gph1 B P0 P1 P2 n) n := by
  unfold gph1
  rw [foldl_r']
theorem gph2_s (n : Nat) : gph2 B P0 P1 P2 (n + 1) = gst2 (gph2 B P0 P1 P2 n) n := by
  unfold gph2
  rw [foldl_r']
theorem gph0_in : ∀ n, (∀ a ∈ ua (gph0 B P0 P1 P2 n).1, ∃ p, p < n ∧ prt P0 P1 (rnS B P0 P1) p = some a) ∧ ∀ b ∈ ub (gph0 B P0 P1 P2 n).1, ∃ p, p < n ∧ prt P0 P2 (rnS B P0 P2) p = some b
  | 0 => ⟨fun a h => (by cases h), fun a h => (by cases h)⟩
  | n + 1 => by
    obtain ⟨h1, h2⟩ := gph0_in n
    rw [gph0_s]
    constructor
    · intro a ha
      have e : ua (gadd (gph0 B P0 P1 P2 n) (some n, prt P0 P1 (rnS B P0 P1) n, prt P0 P2 (rnS B P0 P2) n)).1 = ua (gph0 B P0 P1 P2 n).1 ++ (prt P0 P1 (rnS B P0 P1) n).toList := fm_snoc _ _ _
      rw [e, List.mem_append] at ha
      rcases ha with ha | ha
      · obtain ⟨p, hp, e⟩ := h1 a ha
        exact ⟨p, by omega, e⟩
      · exact ⟨n, by omega, by simpa using ha⟩
    · intro a ha
      have e : ub (gadd (gph0 B P0 P1 P2 n) (some n, prt P0 P1 (rnS B P0 P1) n, prt P0 P2 (rnS B P0 P2) n)).1 = ub (gph0 B P0 P1 P2 n).1 ++ (prt P0 P2 (rnS B P0 P2) n).toList := fm_snoc _ _ _
      rw [e, List.mem_append] at ha
      rcases ha with ha | ha
      · obtain ⟨p, hp, e⟩ := h2 a ha
        exact ⟨p, by omega, e⟩
      · exact ⟨n, by omega, by simpa using ha⟩
theorem gph0_ni (hs : Srt P0) : ∀ n, n ≤ P0.length → GNI (gph0 B P0 P1 P2 n)
  | 0, _ => ⟨by simp [gph0, gs0, ua], by simp [gph0, gs0, ub], fun a => by simp [gph0, gs0, ua], fun a => by simp [gph0, gs0, ub]⟩
  | n + 1, hn => by
    have h := gph0_ni hs n (by omega)
    obtain ⟨h1, h2⟩ := gph0_in (B := B) (P0 := P0) (P1 := P1) (P2 := P2) n
    rw [gph0_s]
    refine h.add (fun a ha => ?_) fun a ha => ?_
    · cases hu : (gph0 B P0 P1 P2 n).2.1 a with
      | false => rfl
      | true =>
        obtain ⟨p, hp, e⟩ := h1 a ((h.2.2.1 a).mp hu)
        have := prt_inj hs (show p < P0.length by omega) (show n < P0.length by omega) e ha
        omega
    · cases hu : (gph0 B P0 P1 P2 n).2.2 a with
      | false => rfl
      | true =>
        obtain ⟨p, hp, e⟩ := h2 a ((h.2.2.2 a).mp hu)
        have := prt_inj hs (show p < P0.length by omega) (show n < P0.length by omega) e ha
        omega
theorem gst1_ni {s : GSt} {a : Nat} (h : GNI s) : GNI (gst1 P1 P2 s a) := by
  unfold gst1
  split
  · exact h
  · rename_i hu
    refine h.add (fun x hx => ?_) fun x hx => ?_
    · cases hx; simpa using hu
    · simp only [gth] at hx
      split at hx
      · split at hx
        · cases hx
        · rename_i hb
          cases hx
          simpa using hb
      · cases hx
theorem gst2_ni {s : GSt} {b : Nat} (h : GNI s) : GNI (gst2 s b) := by
  unfold gst2
  split
  · exact h
  · rename_i hu
    refine h.add (fun x hx => by cases hx) fun x hx => ?_
    cases hx; simpa using hu
theorem gph1_ni (hs : Srt P0) : ∀ n, GNI (gph1 B P0 P1 P2 n)
  | 0 => gph0_ni hs _ (Nat.le_refl _)
  | n + 1 => by rw [gph1_s]; exact gst1_ni (gph1_ni hs n)
theorem gph2_ni (hs : Srt P0) : ∀ n, GNI (gph2 B P0 P1 P2 n)
  | 0 => gph1_ni hs _
  | n + 1 => by rw [gph2_s]; exact gst2_ni (gph2_ni hs n)
end GN
/-- an OUTCOME: its group, its PATH, UNMERGED, its BLOB or none, its TEXT -/
abbrev Og : Type := Gp × List Int32 × Bool × Option Nat × List Int32
def og (B : List (List Int32)) (P0 P1 P2 : PL) (g : Gp) : Option Og := (grec P0 P1 P2 g).map fun x => (g, x.1, gtxt B (gsrc P0 P1 P2 g) x.2)
def ogs (B : List (List Int32)) (P0 P1 P2 : PL) (gs : List Gp) : List Og := gs.filterMap (og B P0 P1 P2)
def ogP (O : List Og) : List (List Int32) := O.map fun e => e.2.1
/-- the new TEXTS -/
def frT (O : List Og) : List (List Int32) := O.filterMap fun e => match e.2.2.2.1 with
  | some _ => none
  | none => some e.2.2.2.2
theorem ogs_snoc (B : List (List Int32)) (P0 P1 P2 : PL) (gs : List Gp) (g : Gp) : ogs B P0 P1 P2 (gs ++ [g]) = ogs B P0 P1 P2 gs ++ (og B P0 P1 P2 g).toList := fm_snoc _ _ _
theorem frT_snoc (O : List Og) (e : Og) : frT (O ++ [e]) = frT O ++ (match e.2.2.2.1 with | some _ => none | none => some e.2.2.2.2 : Option (List Int32)).toList := fm_snoc _ _ _
theorem frT_app (O O' : List Og) : frT (O ++ O') = frT O ++ frT O' := List.filterMap_append
theorem grec_path {P0 P1 P2 : PL} {g : Gp} {x : List Int32 × Bool} (h : grec P0 P1 P2 g = some x) : (∃ a, g.2.1 = some a ∧ x.1 = pth P1 a) ∨ ∃ b, g.2.2 = some b ∧ x.1 = pth P2 b := by
  unfold grec at h
  split at h
  · cases h
  · split at h
    · cases h
    · cases h; exact Or.inl ⟨_, rfl, rfl⟩
  · split at h
    · cases h
    · cases h; exact Or.inr ⟨_, rfl, rfl⟩
  · split at h
    · cases h; exact Or.inl ⟨_, rfl, rfl⟩
    · split at h
      · cases h; exact Or.inr ⟨_, rfl, rfl⟩
      · cases h; exact Or.inl ⟨_, rfl, rfl⟩
theorem ogs_sum (B : List (List Int32)) (P0 P1 P2 : PL) : ∀ gs : List Gp, sl (ogP (ogs B P0 P1 P2 gs)) ≤ ((ua gs).map fun a => (pth P1 a).length).sum + ((ub gs).map fun b => (pth P2 b).length).sum
  | [] => Nat.zero_le _
  | g :: gs => by
    have ih := ogs_sum B P0 P1 P2 gs
    have e1 : ua (g :: gs) = g.2.1.toList ++ ua gs := by
      unfold ua
      rw [List.filterMap_cons]
      cases g.2.1 <;> rfl
    have e2 : ub (g :: gs) = g.2.2.toList ++ ub gs := by
      unfold ub
      rw [List.filterMap_cons]
      cases g.2.2 <;> rfl
    have e3 : ogs B P0 P1 P2 (g :: gs) = (og B P0 P1 P2 g).toList ++ ogs B P0 P1 P2 gs := by
      unfold ogs
      rw [List.filterMap_cons]
      cases og B P0 P1 P2 g <;> rfl
    rw [e1, e2, e3]
    unfold ogP at ih ⊢
    rw [List.map_append, List.map_append, List.map_append, sl_app, List.sum_append_nat, List.sum_append_nat]
    have hx : sl ((og B P0 P1 P2 g).toList.map fun e => e.2.1) ≤ (g.2.1.toList.map fun a => (pth P1 a).length).sum + (g.2.2.toList.map fun b => (pth P2 b).length).sum := by
      unfold og
      cases hg : grec P0 P1 P2 g with
      | none => exact Nat.zero_le _
      | some x =>
        simp only [Option.map_some, Option.toList_some, List.map_cons, List.map_nil, sl_one]
        rcases grec_path hg with ⟨a, h1, h2⟩ | ⟨a, h1, h2⟩
        · rw [h1, h2]; simp
        · rw [h1, h2]; simp
    omega
theorem pl_sum {P : PL} : ∀ n, n ≤ P.length → ((List.range' 0 n).map fun a => (pth P a).length).sum = sl ((P.map Prod.fst).take n)
  | 0, _ => by simp [sl]
  | n + 1, h => by
    rw [← List.range'_append_1, List.map_append, List.sum_append_nat, pl_sum n (by omega), sl_take_succ (show n < (P.map Prod.fst).length by rw [List.length_map]; omega)]
    simp [pth_of (show n < P.length by omega)]
theorem GNI.sum {B : List (List Int32)} {P0 P1 P2 : PL} {s : GSt} (h : GNI s) (hg : ∀ x ∈ s.1, gOK P0 P1 P2 x) : sl (ogP (ogs B P0 P1 P2 s.1)) ≤ pl P1 + pl P2 := by
  have h0 := ogs_sum B P0 P1 P2 s.1
  have h1 := nd_sum (fun a => (pth P1 a).length) P1.length (ua s.1) h.1 fun x hx => by
    obtain ⟨g, hm, e⟩ := List.mem_filterMap.mp hx
    exact (hg g hm).2.1 x e
  have h2 := nd_sum (fun a => (pth P2 a).length) P2.length (ub s.1) h.2.1 fun x hx => by
    obtain ⟨g, hm, e⟩ := List.mem_filterMap.mp hx
    exact (hg g hm).2.2 x e
  rw [pl_sum P1.length (Nat.le_refl _), List.take_of_length_le (by simp)] at h1
  rw [pl_sum P2.length (Nat.le_refl _), List.take_of_length_le (by simp)] at h2
  unfold pl
  omega
theorem ogs_len (B : List (List Int32)) (P0 P1 P2 : PL) (gs : List Gp) : (ogs B P0 P1 P2 gs).length ≤ gs.length := List.length_filterMap_le _ _
