/-! ===== L3: what stays as it must from call to call ===== -/
theorem okP_B {q : List Int32} (h : okPath q = true) (hb : ∀ x ∈ q, am_i2b x = x) : isB q := by
  unfold okPath at h
  simp only [Bool.and_eq_true, decide_eq_true_eq] at h
  exact ⟨by omega, hb⟩
theorem bAdd_le (B : List (List Int32)) (t : List Int32) : B.length ≤ (bAdd B t).length := by
  unfold bAdd
  split
  · exact Nat.le_refl _
  · simp
theorem bAdd_get {B : List (List Int32)} {t : List Int32} {k : Nat} (hk : k < B.length) : (bAdd B t)[k]'(Nat.lt_of_lt_of_le hk (bAdd_le B t)) = B[k] := by
  unfold bAdd
  split
  · rfl
  · exact List.getElem_append_left hk
theorem snOK.mono {B : List (List Int32)} {Pl : PL} {L : List Rc} (h : snOK B Pl L) (t : List Int32) : snOK (bAdd B t) Pl L := by
  intro i hi
  obtain ⟨r, hr, b, u, e1, e2, e3⟩ := h i hi
  refine ⟨r, hr, b, u, e1, e2, fun k hk => ?_⟩
  obtain ⟨h1, h2⟩ := e3 k hk
  exact ⟨Nat.lt_of_lt_of_le h1 (bAdd_le B t), by rw [bAdd_get h1]; exact h2⟩
theorem getD_mem {as : List (List Int32)} {i : Nat} (hi : i < as.length) : ∀ x ∈ as.getD i [], x ∈ as.flatten := by
  intro x hx
  rw [getD_of hi] at hx
  exact List.mem_flatten.mpr ⟨_, List.getElem_mem hi, hx⟩
section WS
variable {as : List (List Int32)} {inp : List Int32} {B : List (List Int32)} {P : Nat → PL} {R : PL × List Rc}
theorem MSW.nil (h : MSW (as, inp, B, P, R)) : MSW ([], inp, B, P, R) := ⟨fun x hx => h.1 x (List.mem_append_right _ (by simpa using hx)), h.2⟩
theorem MSW.feed {s : MSS} (h : MSW s) (a b c d e : Int32) : MSW (opFeed a b c d e s).2.2 := by
  unfold opFeed
  split
  · refine ⟨fun x hx => ?_, h.2⟩
    have b4 : ∀ v : Int32, ∀ x ∈ by4 v, am_i2b x = x := fun v x hx => by
      simp only [by4, List.mem_cons, List.not_mem_nil, or_false] at hx
      rcases hx with z | z | z | z <;> rw [z, i2b_i2b]
    simp only [List.mem_append] at hx
    rcases hx with z | z
    · exact h.1 x (List.mem_append_left _ z)
    · rcases z with ((((z | z) | z) | z) | z) | z
      · exact h.1 x (List.mem_append_right _ z)
      · exact b4 _ x z
      · exact b4 _ x z
      · exact b4 _ x z
      · exact b4 _ x z
      · exact b4 _ x z
  · exact h
theorem MSW.end {s : MSS} (h : MSW s) (n : Int32) : MSW (opEnd n s).2.2 := by
  unfold opEnd
  split
  · exact h
  · refine ⟨fun x hx => ?_, h.2⟩
    simp only [List.append_nil, List.flatten_append, List.mem_append, List.flatten_cons, List.flatten_nil] at hx
    rcases hx with z | z
    · apply h.1 x
      refine List.mem_append_left _ ?_
      split at z
      · obtain ⟨l, h1, h2⟩ := List.mem_flatten.mp z
        exact List.mem_flatten.mpr ⟨l, List.mem_of_mem_drop h1, h2⟩
      · exact z
    · exact h.1 x (List.mem_append_right _ (List.mem_of_mem_take z))
theorem MSW.put (h : MSW (as, inp, B, P, R)) (hz : MSZ (as, inp, B, P, R)) (m : Int32) : MSW (opPut m (as, inp, B, P, R)).2.2 := by
  unfold opPut
  simp only
  split
  · rename_i hc
    simp only [Bool.and_eq_true, decide_eq_true_eq] at hc
    obtain ⟨⟨hm, hl⟩, hp⟩ := hc
    split
    · rename_i hr
      split
      · rename_i hb
        obtain ⟨k, hk3, -, hmk⟩ := isM_lt hm
        rw [hmk] at hr ⊢
        have hq : isB (as.getD 0 []) := okP_B hp fun x hx => h.1 x (List.mem_append_left _ (getD_mem (as := as) (i := 0) (by omega) x hx))
        obtain ⟨t, v, nb⟩ := h.2.1 k hk3
        obtain ⟨z1, z2⟩ := hz.2.1 k hk3
        have zb := hz.2.2.2.2
        simp only at t v nb z1 z2 zb
        have hle := bAdd_le B (as.getD 1 [])
        have hn : (bfnd B (as.getD 1 [])).getD B.length < (bAdd B (as.getD 1 [])).length ∧ (bAdd B (as.getD 1 [])).length ≤ 500 := by
          cases hf : bfnd B (as.getD 1 []) with
          | some i =>
            obtain ⟨h1, -⟩ := bfnd_lt hf
            have e : bAdd B (as.getD 1 []) = B := by unfold bAdd; rw [hf]; rfl
            rw [e]
            exact ⟨h1, zb⟩
          | none =>
            rw [hf] at hb
            simp only [Option.isSome_none, Bool.false_or] at hb
            unfold bRoom at hb
            simp only [Bool.and_eq_true, decide_eq_true_eq] at hb
            rw [bfnd_bAdd hf]
            simp only [Option.getD_none, List.length_append, List.length_singleton]
            omega
        refine ⟨fun x hx => h.1 x (List.mem_append_right _ (by simpa using hx)), fun j hj => ?_, h.2.2.mono _⟩
        simp only [upP]
        obtain ⟨t', v', nb'⟩ := h.2.1 j hj
        simp only at t' v' nb'
        by_cases e : j = k
        · rw [if_pos e]
          refine ⟨t.asg hq _, VB.asg hn.2 (v.mono hle) hn.1, ?_⟩
          have hf := fit_asg t z1 z2 nb hq (nI ((bfnd B (as.getD 1 [])).getD B.length))
          rw [hr] at hf
          exact (fit_facts (t.asg hq _) hf).2.2
        · rw [if_neg e]
          exact ⟨t', v'.mono hle, nb'⟩
      · exact h.nil
    · exact h.nil
  · exact h.nil
theorem nbn.del {P : PL} (h : nbn P) {k : Nat} (hk : k < P.length) : nbn (delP P k) := by
  intro i j hi hj
  rw [delP_get hk hi, delP_get hk hj]
  split <;> split <;> exact h _ _ _ _
theorem MSW.drop (h : MSW (as, inp, B, P, R)) (hz : MSZ (as, inp, B, P, R)) (m : Int32) : MSW (opDrop m (as, inp, B, P, R)).2.2 := by
  unfold opDrop
  simp only
  split
  · rename_i hc
    simp only [Bool.and_eq_true, decide_eq_true_eq] at hc
    obtain ⟨⟨hm, hl⟩, hp⟩ := hc
    obtain ⟨k, hk3, -, hmk⟩ := isM_lt hm
    rw [hmk]
    split
    · rename_i i hf
      have hi := fnd_lt hf
      refine ⟨h.nil.1, fun j hj => ?_, h.2.2⟩
      simp only [upP]
      obtain ⟨t', v', nb'⟩ := h.2.1 j hj
      obtain ⟨t, v, nb⟩ := h.2.1 k hk3
      simp only at t' v' nb' t v nb
      by_cases e : j = k
      · rw [if_pos e]
        exact ⟨t.del hi, VB.del hz.2.2.2.2 v i, nb.del hi⟩
      · rw [if_neg e]
        exact ⟨t', v', nb'⟩
    · exact h.nil
  · exact h.nil
theorem MSW.copy (h : MSW (as, inp, B, P, R)) (a b : Int32) : MSW (opCopy a b (as, inp, B, P, R)).2.2 := by
  unfold opCopy
  simp only
  split
  · rename_i hc
    simp only [Bool.and_eq_true, decide_eq_true_eq] at hc
    obtain ⟨⟨ha, hb⟩, hl⟩ := hc
    obtain ⟨x, hx3, -, hx⟩ := isM_lt ha
    obtain ⟨y, hy3, -, hy⟩ := isM_lt hb
    rw [hx, hy]
    refine ⟨h.nil.1, fun j hj => ?_, h.2.2⟩
    simp only [upP]
    split
    · exact h.2.1 x hx3
    · exact h.2.1 j hj
  · exact h.nil
theorem MSW.merge (h : MSW (as, inp, B, P, R)) : MSW (opMerge (as, inp, B, P, R)).2.2 := by
  unfold opMerge
  simp only
  split
  · cases hm : mrgM B (P 0) (P 1) (P 2) with
    | none => exact h.nil
    | some x =>
      refine ⟨h.nil.1, h.2.1, ?_⟩
      obtain ⟨t0, v0, -⟩ := h.2.1 0 (by omega)
      obtain ⟨t1, v1, -⟩ := h.2.1 1 (by omega)
      obtain ⟨t2, v2, -⟩ := h.2.1 2 (by omega)
      simp only at t0 v0 t1 v1 t2 v2
      unfold mrgM at hm
      have hrq := rqs_ok (B := B) v0 v1 v2 t1 t2 (grps_ok (B := B) (P0 := P 0) (P1 := P 1) (P2 := P 2))
      generalize rqs (P 0) (P 1) (P 2) (grps B (P 0) (P 1) (P 2)) = rs at hm hrq
      cases hp : plcs [] (rs.map fun r => r.1) with
      | none => rw [hp] at hm; cases hm
      | some Pl =>
        rw [hp] at hm
        simp only at hm
        split at hm
        · cases hm
          obtain ⟨⟨s1, s2, s3, s4⟩, -⟩ := plcs_PLI hp PLI.nil (fun q hq => by
            obtain ⟨r, hr, e⟩ := List.mem_map.mp hq
            rw [← e]
            exact (hrq r hr).1) fiB_nil
          rw [List.nil_append] at s4
          intro i hi
          simp only at hi ⊢
          obtain ⟨j, hj, e⟩ := (s4 Pl[i]).mp (List.getElem_mem hi)
          rw [List.length_map] at hj
          refine ⟨j, by rw [List.length_map]; exact hj, (gtxt B rs[j].2.1 rs[j].2.2).2.1, (gtxt B rs[j].2.1 rs[j].2.2).2.2, by rw [e], by rw [List.getElem_map]; rfl, fun k hk => ?_⟩
          exact gtxt_ok (hrq _ (List.getElem_mem hj)).2 hk
        · cases hm
  · exact h.nil
end WS
theorem opRen_s (a b i w : Int32) (s : MSS) : (opRen a b i w s).2.2 = s := by
  obtain ⟨as, inp, B, P, R⟩ := s
  unfold opRen
  simp only
  split
  · split <;> rfl
  · rfl
theorem opOut_s (i w : Int32) (s : MSS) : (opOut i w s).2.2 = s := by
  unfold opOut
  split
  · split <;> rfl
  · rfl
theorem opLet_s (i w k : Int32) (s : MSS) : (opLet i w k s).2.2 = s := by
  unfold opLet
  split
  · split
    · split <;> rfl
    · rfl
  · rfl
theorem opBlob_s (m i : Int32) (s : MSS) : (opBlob m i s).2.2 = s := by
  unfold opBlob
  split
  · split <;> rfl
  · rfl
/-- the TEXTS seen are not too long -/
theorem MMI.sx {σ : am_S} {s : MSS} (h : MMI σ s) (hw : MSW s) : s.2.2.2.2.2.length ≤ 400 ∧ ∀ i, i < s.2.2.2.2.1.length → (rcT (snR s.2.2.2.2.1 s.2.2.2.2.2 i)).length ≤ 65536 := by
  have hz := h.sz
  obtain ⟨lt, sp, -, hO, -⟩ := h.2.2.2.2.2.2.2.2.1
  have hl := hO.len
  refine ⟨hl, fun i hi => ?_⟩
  obtain ⟨r, hr, e1, e2, e3, e4⟩ := sn_at hl hw.2.2 hi
  rw [e2]
  obtain ⟨un, so, tb, ts, tl, mb, hR, hW, hP, -, hf⟩ := hO
  obtain ⟨-, -, hT⟩ := hW r hr
  rw [e3] at hT
  cases hb : rcB s.2.2.2.2.2[r] with
  | some k =>
    obtain ⟨hk, ek⟩ := e4 k hb
    rw [← ek]
    have := hz.2.2.2.1 _ (List.getElem_mem hk)
    omega
  | none =>
    rw [hb] at hT
    obtain ⟨-, st, -, -, h3, -⟩ := hT
    omega
