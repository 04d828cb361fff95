/-! ===== L3: the reference: putting the OUTCOMES in order, by itself ===== -/
def op (O : List Og) (i : Nat) : List Int32 := (ogP O).getD i []
theorem op_of {O : List Og} {i : Nat} (h : i < O.length) : op O i = O[i].2.1 := by simp [op, ogP, h]
theorem ogP_len (O : List Og) : (ogP O).length = O.length := by simp [ogP]
theorem ogP_get {O : List Og} {i : Nat} (h : i < O.length) : (ogP O)[i]'(by rw [ogP_len]; exact h) = op O i := by rw [op_of h]; simp [ogP]
theorem op_sum {O : List Og} : ∀ n, n ≤ O.length → ((List.range' 0 n).map fun i => (op O i).length).sum = sl ((ogP O).take n)
  | 0, _ => by simp [sl]
  | n + 1, h => by
    rw [← List.range'_append_1, List.map_append, List.sum_append_nat, op_sum n (by omega), sl_take_succ (show n < (ogP O).length by rw [ogP_len]; omega), ogP_get (by omega)]
    simp
/-- behind the last of I -/
def cand (O : List Og) (I : List Nat) (i : Nat) : Prop := ∀ l, I.getLast? = some l → 0 < cmpV (op O i) (op O l)
def GI (O : List Og) (I : List Nat) : Prop := (∀ i ∈ I, i < O.length) ∧ (∀ j k (hj : j < I.length) (hk : k < I.length), j < k → ltP (op O I[j]) (op O I[k])) ∧ ∀ i, i < O.length → cand O I i ∨ ∃ j ∈ I, op O i = op O j
def ogB (O : List Og) : Prop := ∀ i, i < O.length → isB (op O i)
theorem gt_lt {p q : List Int32} (hp : isB p) (hq : isB q) : (0 < cmpV p q) ↔ ltP q p := by
  constructor
  · intro h
    have h1 : ¬ ltP p q := fun z => by
      have : cmpV p q < 0 := z
      exact absurd (Int32.lt_trans h this) (by decide)
    have h2 : p ≠ q := fun z => by
      have := (cmp0 hp hq).mpr z
      rw [this] at h
      exact absurd h (by decide)
    exact ltP_tri hp hq h2 h1
  · intro h
    have h1 : ¬ ltP p q := fun z => ltP_irr hp (ltP_trans hp hq hp z h)
    have h2 : cmpV p q ≠ 0 := fun z => by
      have := (cmp0 hp hq).mp z
      subst this
      exact ltP_irr hp h
    have h3 : ¬ cmpV p q < 0 := h1
    rcases Int32.lt_or_eq_of_le (Int32.not_lt.mp h3) with z | z
    · exact z
    · exact absurd z.symm h2
theorem GI.nil {O : List Og} : GI O [] := ⟨fun i h => (by cases h), fun j k hj => absurd hj (by simp), fun i _ => Or.inl fun l hl => (by cases hl)⟩
theorem GI.nodup {O : List Og} {I : List Nat} (h : GI O I) (hB : ogB O) : I.Nodup := by
  rw [List.nodup_iff_pairwise_ne, List.pairwise_iff_getElem]
  intro i j hi hj hij e
  have := h.2.1 i j hi hj hij
  rw [e] at this
  exact ltP_irr (hB _ (h.1 _ (List.getElem_mem hj))) this
theorem GI.sum {O : List Og} {I : List Nat} (h : GI O I) (hB : ogB O) : (I.map fun i => (op O i).length).sum ≤ sl (ogP O) := by
  have := nd_sum (fun i => (op O i).length) O.length I (h.nodup hB) h.1
  rw [op_sum O.length (Nat.le_refl _), List.take_of_length_le (by rw [ogP_len]; omega)] at this
  exact this
theorem GI.snoc {O : List Og} {I : List Nat} {c : Nat} (h : GI O I) (hB : ogB O) (hc : c < O.length) (hcc : cand O I c) (hm : ∀ i, i < O.length → cand O I i → ¬ ltP (op O i) (op O c)) : GI O (I ++ [c]) := by
  obtain ⟨h1, h2, h3⟩ := h
  have below : ∀ j (hj : j < I.length), ltP (op O I[j]) (op O c) := by
    intro j hj
    have hne : I ≠ [] := fun z => by rw [z] at hj; simp at hj
    have hl : I.getLast? = some I[I.length - 1] := by rw [List.getLast?_eq_getElem?, List.getElem?_eq_getElem (by omega)]
    have hlast := (gt_lt (hB c hc) (hB _ (h1 _ (List.getElem_mem (by omega))))).mp (hcc _ hl)
    by_cases e : j = I.length - 1
    · subst e; exact hlast
    · exact ltP_trans (hB _ (h1 _ (List.getElem_mem hj))) (hB _ (h1 _ (List.getElem_mem (by omega)))) (hB c hc) (h2 j (I.length - 1) hj (by omega) (by omega)) hlast
  refine ⟨fun i hi => ?_, fun j k hj hk hjk => ?_, fun i hi => ?_⟩
  · rw [List.mem_append, List.mem_singleton] at hi
    rcases hi with z | z
    · exact h1 i z
    · rw [z]; exact hc
  · rw [List.length_append, List.length_singleton] at hk
    have hj' : j < I.length := by omega
    rw [List.getElem_append_left hj']
    by_cases e : k < I.length
    · rw [List.getElem_append_left e]
      exact h2 j k hj' e hjk
    · have : k = I.length := by omega
      subst this
      rw [List.getElem_append_right (Nat.le_refl _)]
      simp only [Nat.sub_self, List.getElem_cons_zero]
      exact below j hj'
  · rcases h3 i hi with z | ⟨j, hj, e⟩
    · by_cases c1 : op O i = op O c
      · exact Or.inr ⟨c, by simp, c1⟩
      · refine Or.inl fun l hl => ?_
        rw [List.getLast?_append] at hl
        simp only [List.getLast?_singleton, Option.some_or, Option.some.injEq] at hl
        rw [← hl]
        exact (gt_lt (hB i hi) (hB c hc)).mpr (ltP_tri (hB i hi) (hB c hc) c1 (hm i hi z))
    · exact Or.inr ⟨j, List.mem_append_left _ hj, e⟩
/-- what placing one after the other keeps -/
def PLI (P : PL) (pre : List (List Int32)) : Prop := Srt P ∧ P.length = pre.length ∧ pl P = sl pre ∧ ∀ x, x ∈ P ↔ ∃ i, ∃ h : i < pre.length, x = (pre[i], nI i)
theorem PLI.snoc {P : PL} {pre : List (List Int32)} {q : List Int32} (h : PLI P pre) (hq : isB q) (hf : fnd P q = none) : PLI (asgP P q (nI P.length)) (pre ++ [q]) := by
  obtain ⟨h1, h2, h3, h4⟩ := h
  refine ⟨h1.asg hq _, ?_, ?_, fun x => ?_⟩
  · rw [asg_len, hf, List.length_append]
    simp [h2]
  · rw [asg_pl h1 hq, hf, sl_app, sl_one, h3]
    simp
  · have hA : asgP P q (nI P.length) = insP P (plc P q) (q, nI P.length) := by unfold asgP; rw [hf]
    rw [hA, insP_mem, h4]
    constructor
    · rintro (z | ⟨i, hi, z⟩)
      · exact ⟨pre.length, by simp, by rw [z, h2]; simp⟩
      · exact ⟨i, by rw [List.length_append]; omega, by rw [z, List.getElem_append_left hi]⟩
    · rintro ⟨i, hi, z⟩
      rw [List.length_append, List.length_singleton] at hi
      by_cases e : i < pre.length
      · exact Or.inr ⟨i, e, by rw [z, List.getElem_append_left e]⟩
      · have : i = pre.length := by omega
        subst this
        exact Or.inl (by rw [z, h2]; simp)
theorem adb_iff {P : PL} {q : List Int32} : adb P q = true ↔ fnd P q = none ∧ room P q = true := by
  unfold adb
  cases fnd P q <;> simp
theorem fit_facts {P : PL} (hs : Srt P) (h : fiB (mpE P) = true) : P.length ≤ 400 ∧ pl P ≤ 8192 ∧ nbn P := by
  obtain ⟨h1, h2, -⟩ := fiB_iff.mp h
  rw [mpE_len] at h1
  rw [sl_mpE] at h2
  exact ⟨h1, h2, (nbn_fit hs h1 h2).mp h⟩
theorem plcs_PLI : ∀ {qs : List (List Int32)} {P Pl : PL} {pre : List (List Int32)}, plcs P qs = some Pl → PLI P pre → (∀ q ∈ qs, isB q) → fiB (mpE P) = true → PLI Pl (pre ++ qs) ∧ fiB (mpE Pl) = true
  | [], P, Pl, pre, h, hP, _, hf => by
    rw [plcs] at h
    cases h
    rw [List.append_nil]
    exact ⟨hP, hf⟩
  | q :: qs, P, Pl, pre, h, hP, hB, hf => by
    rw [plcs] at h
    split at h
    · rename_i ha
      obtain ⟨a1, a2⟩ := adb_iff.mp ha
      have hq := hB q List.mem_cons_self
      obtain ⟨f1, f2, f3⟩ := fit_facts hP.1 hf
      have hf2 : fiB (mpE (asgP P q (nI P.length))) = true := by
        rw [fit_asg hP.1 f1 f2 f3 hq, a2, Bool.or_true]
      have := plcs_PLI h (hP.snoc hq a1) (fun x hx => hB x (List.mem_cons_of_mem _ hx)) hf2
      rw [List.append_assoc] at this
      exact this
    · cases h
theorem PLI.nil : PLI [] [] := ⟨Srt.nil, rfl, rfl, fun x => ⟨fun h => (by cases h), fun ⟨i, h, _⟩ => absurd h (by simp)⟩⟩
/-- when all FIT, placing succeeds -/
theorem plcs_ok : ∀ {qs : List (List Int32)} {P : PL} {pre : List (List Int32)}, PLI P pre → (∀ q ∈ qs, isB q) → (pre ++ qs).length ≤ 400 → sl (pre ++ qs) ≤ 8192 → (∀ i j (hi : i < (pre ++ qs).length) (hj : j < (pre ++ qs).length), i ≠ j → unB (pre ++ qs)[i] (pre ++ qs)[j] = false) → ∃ Pl, plcs P qs = some Pl
  | [], P, pre, _, _, _, _, _ => ⟨P, by rw [plcs]⟩
  | q :: qs, P, pre, hP, hB, hl, hs, hu => by
    have hq := hB q List.mem_cons_self
    have hpos : (pre ++ q :: qs)[pre.length]'(by rw [List.length_append, List.length_cons]; omega) = q := by
      rw [List.getElem_append_right (Nat.le_refl _)]
      simp
    have hmem : ∀ e ∈ P, unB e.1 q = false ∧ unB q e.1 = false := by
      intro e he
      obtain ⟨i, hi, z⟩ := (hP.2.2.2 e).mp he
      have h1 := hu i pre.length (by rw [List.length_append]; omega) (by rw [List.length_append, List.length_cons]; omega) (by omega)
      have h2 := hu pre.length i (by rw [List.length_append, List.length_cons]; omega) (by rw [List.length_append]; omega) (by omega)
      rw [hpos, List.getElem_append_left hi] at h1
      rw [hpos, List.getElem_append_left hi] at h2
      rw [z]
      exact ⟨h1, h2⟩
    have hf : fnd P q = none := by
      cases hf : fnd P q with
      | none => rfl
      | some i =>
        obtain ⟨h1, h2⟩ := fnd_at hf
        have := (hmem P[i] (List.getElem_mem h1)).1
        rw [unB_iff.mpr (Or.inl h2)] at this
        cases this
    have hr : room P q = true := by
      unfold room
      simp only [Bool.and_eq_true, decide_eq_true_eq, List.all_eq_true, Bool.not_eq_true', Bool.or_eq_false_iff]
      rw [List.length_append, List.length_cons] at hl
      rw [sl_app, sl_cons] at hs
      have := hP.2.1
      have := hP.2.2.1
      refine ⟨⟨by omega, by omega⟩, fun e he => ?_⟩
      obtain ⟨m1, m2⟩ := hmem e he
      constructor
      · cases hb : ben e.1 q with
        | false => rfl
        | true => rw [unB_iff.mpr (Or.inr hb)] at m2; cases m2
      · cases hb : ben q e.1 with
        | false => rfl
        | true => rw [unB_iff.mpr (Or.inr hb)] at m1; cases m1
    rw [plcs, if_pos (adb_iff.mpr ⟨hf, hr⟩)]
    have e : pre ++ [q] ++ qs = pre ++ q :: qs := by simp
    exact plcs_ok (hP.snoc hq hf) (fun x hx => hB x (List.mem_cons_of_mem _ hx)) (by rw [e]; exact hl) (by rw [e]; exact hs) (fun i j hi hj hij => by
      have := hu i j (by rw [← e]; exact hi) (by rw [← e]; exact hj) hij
      simp only [e]
      exact this)
def rQ (O : List Og) (I : List Nat) : List Pe := I.map fun i => setV ((oqA 0 O).getD i ([], (0, 0, 0), false)) 1 (nI i)
theorem rQ_len (O : List Og) (I : List Nat) : (rQ O I).length = I.length := by simp [rQ]
theorem oqA_op {O : List Og} {i : Nat} (h : i < O.length) : ((oqA 0 O).getD i ([], (0, 0, 0), false)) = (oqA 0 O)[i]'(by rw [oqA_len]; exact h) ∧ ((oqA 0 O)[i]'(by rw [oqA_len]; exact h)).1 = op O i := by
  have h' : i < (oqA 0 O).length := by rw [oqA_len]; exact h
  refine ⟨by simp [h'], ?_⟩
  rw [oqA_get O 0 i h, op_of h]
  rfl
theorem rQ_get {O : List Og} {I : List Nat} (hI : ∀ i ∈ I, i < O.length) {j : Nat} (h : j < I.length) : ((rQ O I)[j]'(by rw [rQ_len]; exact h)).1 = op O I[j] := by
  have hm := hI _ (List.getElem_mem h)
  simp only [rQ, List.getElem_map]
  unfold setV
  simp only
  rw [(oqA_op hm).1, (oqA_op hm).2]
theorem rQ_pts {O : List Og} {I : List Nat} (hI : ∀ i ∈ I, i < O.length) : pts (rQ O I) = I.map (op O) := by
  apply List.ext_getElem
  · rw [pts_len, rQ_len, List.length_map]
  · intro j h1 h2
    rw [List.length_map] at h2
    rw [pts_get (by rw [rQ_len]; exact h2), rQ_get hI h2, List.getElem_map]
theorem rQ_sl {O : List Og} {I : List Nat} (hI : ∀ i ∈ I, i < O.length) : sl (pts (rQ O I)) = (I.map fun i => (op O i).length).sum := by
  rw [rQ_pts hI]
  unfold sl
  rw [List.map_map]
  rfl
def iP (O : List Og) (I : List Nat) : PL := I.map fun i => (op O i, nI i)
section SM
variable {O : List Og} {I : List Nat}
theorem ogB_mem (hB : ogB O) : ∀ q ∈ ogP O, isB q := by
  intro q hq
  obtain ⟨i, hi, e⟩ := List.mem_iff_getElem.mp hq
  rw [ogP_len] at hi
  rw [← e, ogP_get hi]
  exact hB i hi
theorem fiB_nil : fiB (mpE []) = true := by decide
/-- none is left although some are wanting: two have one PATH -/
theorem sort_no (hB : ogB O) (h : GI O I) (hl : I.length < O.length) (hn : ∀ i, i < O.length → ¬ cand O I i) : plcs [] (ogP O) = none := by
  cases hp : plcs [] (ogP O) with
  | none => rfl
  | some Pl =>
    exfalso
    obtain ⟨⟨s1, s2, s3, s4⟩, -⟩ := plcs_PLI hp PLI.nil (ogB_mem hB) fiB_nil
    rw [List.nil_append] at s2 s4
    rw [ogP_len] at s2
    have all : ∀ i, i < O.length → i ∈ I := by
      intro i hi
      rcases h.2.2 i hi with z | ⟨j, hj, e⟩
      · exact absurd z (hn i hi)
      · have hjl := h.1 j hj
        obtain ⟨a, ha, ea⟩ := List.mem_iff_getElem.mp ((s4 (op O i, nI i)).mpr ⟨i, by rw [ogP_len]; exact hi, by rw [ogP_get hi]⟩)
        obtain ⟨b, hb, eb⟩ := List.mem_iff_getElem.mp ((s4 (op O j, nI j)).mpr ⟨j, by rw [ogP_len]; exact hjl, by rw [ogP_get hjl]⟩)
        have hab : a = b := s1.inj ha hb (by rw [ea, eb]; exact e)
        subst hab
        rw [ea] at eb
        have hij : nI i = nI j := (Prod.mk.inj eb).2
        have hls : O.length ≤ 400 := by
          have := fit_facts s1 (plcs_PLI hp PLI.nil (ogB_mem hB) fiB_nil).2
          omega
        have : i = j := (nI_eq (by omega) (by omega)).mp hij
        rw [this]; exact hj
    have hpm : I.Perm (List.range' 0 O.length) := (List.perm_ext_iff_of_nodup (h.nodup hB) (List.nodup_range' 1)).mpr fun a => by
      rw [mem_range']
      constructor
      · intro ha
        have := h.1 a ha
        omega
      · intro ha
        exact all a (by omega)
    have := hpm.length_eq
    simp at this
    omega
theorem sort_all (hB : ogB O) (h : GI O I) (hl : I.length = O.length) (hn : O.length < 2 ^ 31) : (fiB (rQ O I) = true ↔ ∃ Pl, plcs [] (ogP O) = some Pl) ∧ ∀ Pl, plcs [] (ogP O) = some Pl → Pl = iP O I := by
  have all : ∀ i, i < O.length → i ∈ I := fun i hi => nd_all (h.nodup hB) h.1 (by omega) hi
  have hs : Srt (iP O I) := by
    refine ⟨fun k hk => ?_, fun a b ha hb hab => ?_⟩
    · simp only [iP, List.getElem_map]
      exact hB _ (h.1 _ (List.getElem_mem _))
    · simp only [iP, List.getElem_map]
      exact h.2.1 a b _ _ hab
  have hmem : ∀ x, x ∈ iP O I ↔ ∃ i, ∃ h : i < (ogP O).length, x = ((ogP O)[i], nI i) := by
    intro x
    unfold iP
    rw [List.mem_map]
    constructor
    · rintro ⟨i, hi, e⟩
      have := h.1 i hi
      exact ⟨i, by rw [ogP_len]; exact this, by rw [ogP_get this, e]⟩
    · rintro ⟨i, hi, e⟩
      rw [ogP_len] at hi
      exact ⟨i, all i hi, by rw [e, ogP_get hi]⟩
  have huniq : ∀ Pl, plcs [] (ogP O) = some Pl → Pl = iP O I := by
    intro Pl hp
    obtain ⟨⟨s1, s2, s3, s4⟩, -⟩ := plcs_PLI hp PLI.nil (ogB_mem hB) fiB_nil
    rw [List.nil_append] at s4
    exact Srt.uniq s1 hs fun x => by rw [s4, hmem]
  have hpt : pts (mpE (iP O I)) = pts (rQ O I) := by
    rw [pts_mpE, rQ_pts h.1]
    unfold iP
    rw [List.map_map]
    rfl
  have hfi : fiB (mpE (iP O I)) = fiB (rQ O I) := by
    unfold fiB fiA fiR
    rw [hpt]
    have e : (mpE (iP O I)).length = (rQ O I).length := by rw [mpE_len, rQ_len]; simp [iP]
    rw [e]
  refine ⟨⟨fun hf => ?_, fun ⟨Pl, hp⟩ => ?_⟩, huniq⟩
  · obtain ⟨f1, f2, f3⟩ := fiB_iff.mp hf
    have hpm : I.Perm (List.range' 0 O.length) := (List.perm_ext_iff_of_nodup (h.nodup hB) (List.nodup_range' 1)).mpr fun a => by
      rw [mem_range']
      constructor
      · intro ha
        have := h.1 a ha
        omega
      · intro ha
        exact all a (by omega)
    have hsum : sl (ogP O) = sl (pts (rQ O I)) := by
      rw [rQ_sl h.1, (hpm.map _).sum_nat, op_sum O.length (Nat.le_refl _), List.take_of_length_le (by rw [ogP_len]; omega)]
    rw [rQ_len] at f1
    refine plcs_ok PLI.nil (ogB_mem hB) (by rw [List.nil_append, ogP_len]; omega) (by rw [List.nil_append]; omega) fun i j hi hj hij => ?_
    simp only [List.nil_append] at hi hj ⊢
    rw [ogP_len] at hi hj
    obtain ⟨a, ha, ea⟩ := List.mem_iff_getElem.mp (all i hi)
    obtain ⟨b, hb, eb⟩ := List.mem_iff_getElem.mp (all j hj)
    have hab : a ≠ b := fun z => by subst z; rw [ea] at eb; exact hij eb
    have := f3 a b (by rw [rQ_len]; exact ha) (by rw [rQ_len]; exact hb) hab
    rw [rQ_get h.1 ha, rQ_get h.1 hb, ea, eb] at this
    rw [ogP_get hi, ogP_get hj]
    exact this
  · obtain ⟨-, hf⟩ := plcs_PLI hp PLI.nil (ogB_mem hB) fiB_nil
    rw [huniq Pl hp, hfi] at hf
    exact hf
end SM
