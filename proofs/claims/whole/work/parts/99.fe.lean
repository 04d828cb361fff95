/-! ===== L3: the reference: feed, end ===== -/
theorem st_v {σ : am_S} {ty : FieldType} {a n i : Nat} {f : Nat → Value} {v : Value} (h : σ.2.2 a = some (.inl (ty, n, f))) (h8 : 8 ≤ a) (hi : i < n) (hn : n < 2 ^ 31) : am_st σ ty a (nI i) v = some (am_put σ a (.inl (ty, n, updV f i v))) := by
  have h1 : ¬ nI i < 0 := nI_pos (by omega)
  have h2 : (nI i).toNatClampNeg = i := nI_clamp (by omega)
  unfold am_st; rw [h]; simp [h1, h2, hi, h8]
theorem sA_of {σ : am_S} {c a n i v : Nat} {f : Nat → Value} {fs : List Value} (hv : σ.2.2 v = some (.inr (c, fs))) (h : σ.2.2 a = some (.inl (.object (am_cn c), n, f))) (h8 : 8 ≤ a) (hi : i < n) (hn : n < 2 ^ 31) : am_sA σ c a (nI i) v = some (am_put σ a (.inl (.object (am_cn c), n, updV f i (.ref v)))) := by
  unfold am_sA
  rw [hv]
  simp only [if_true]
  exact st_v h h8 hi hn
theorem Ro_ob {g : Gh} {σ : am_S} {r : Nat} {t : List Int32} (h : Ro g σ r t) : ∃ fs, σ.2.2 r = some (.inr (12, fs)) := by
  obtain ⟨a, f, h1, -⟩ := h
  exact ⟨_, h1⟩
section FE
variable {g : Gh} {σ : am_S} {F : Nat} {th bm gm cm fm : Int32} {s : MSS}
theorem Md_feedLoop {as : List (List Int32)} {kk : Int32 → am_S → Option am_S} (hc : Ce g σ 95 (MDC th bm (nI as.length) gm cm fm)) (hA : ARG g σ as) : ∀ (m k x : Nat), k ≤ as.length → as.length - k < m → f_Md_feed_l17 F 95 kk m (nI x) (nI k) σ = kk (nI (x + sl (as.drop k))) σ := by
  have h1 := hc.1
  unfold MDC at h1
  obtain ⟨A, f, a1, a2, a3, a4, a5, a6⟩ := hA
  intro m
  induction m with
  | zero => intro k _ _ hm; omega
  | succ m ih =>
    intro k x hk hm
    rw [f_Md_feed_l17, gI_of h1 (by rfl), Option.bind_some]
    by_cases c : as.length ≤ k
    · rw [if_pos (nI_le c (by omega)), List.drop_of_length_le c]
      rfl
    · have hk' : k < as.length := by omega
      rw [if_neg (nI_ge hk' (by omega)), gA_of h1 (by rfl), Option.bind_some, lA_of a1.1 (by omega) (by omega) (a2 k (by omega)).1, Option.bind_some, Ro_n (a4 k hk'), Option.bind_some, nI_add, nI_1, ih (k + 1) _ (by omega) (by omega), List.drop_eq_getElem_cons hk', sl_cons, Nat.add_assoc]
theorem Md_feed (h : MDI g σ th s) (a b c d e : Int32) (hin : sl s.1 + s.2.1.length ≤ 16384) (hF : 131072 < F) : ∃ g' σ', f_Md_feed F σ 95 a b c d e = some σ' ∧ MDI g' σ' (opFeed a b c d e s).1 (opFeed a b c d e s).2.2 ∧ Fo MT g σ g' σ' := by
  have hh := h
  obtain ⟨h1, h2, ⟨gm, cm, fm, h3⟩, h4, h5, h6, h7, h8, h9, ⟨Q, h10⟩, h11⟩ := h
  obtain ⟨σ1, q1, q2, q3⟩ := Md_th h3 0
  have r6 := h6.fo q3 (by omega)
  have r7 := h7.fo q3 fun a _ _ => by omega
  have hl := Md_feedLoop (F := F) (kk := fun y6 τ => f_Md_feed_j47 F 95 a b c d e y6 τ) q2 r7 F 0 s.2.1.length (Nat.zero_le _) (by obtain ⟨A, f, -, -, -, -, -, z⟩ := r7; omega)
  rw [List.drop_zero] at hl
  have h1' := h3.1
  have k1 := q2.1
  unfold MDC at h1' k1
  have e20 : nI (s.2.1.length + sl s.1) + 20 = nI (s.2.1.length + sl s.1 + 20) := nI_add _ 20
  have e16 : (nI (s.2.1.length + sl s.1 + 20) ≤ (16384 : Int32)) ↔ s.2.1.length + sl s.1 + 20 ≤ 16384 := nI_leI (b := 16384) (by omega) (by omega)
  unfold f_Md_feed opFeed
  rw [am_ck_of h1', q1, Option.bind_some, gA_of k1 (by rfl), Option.bind_some, Ro_n r6, Option.bind_some, ← nI_0, hl]
  unfold f_Md_feed_j47
  rw [e20]
  simp only [e16]
  by_cases hc : sl s.1 + s.2.1.length + 20 ≤ 16384
  · rw [if_pos (by omega), if_pos hc]
    obtain ⟨g2, σ2, a1, a2, a3⟩ := Ro_four (F := F) (v := a) r6 (by omega) hF
    obtain ⟨g3, σ3, b1, b2, b3⟩ := Ro_four (F := F) (v := b) a2 (by simp [by4]; omega) hF
    obtain ⟨g4, σ4, c1, c2, c3⟩ := Ro_four (F := F) (v := c) b2 (by simp [by4]; omega) hF
    obtain ⟨g5, σ5, d1, d2, d3⟩ := Ro_four (F := F) (v := d) c2 (by simp [by4]; omega) hF
    obtain ⟨g6, σ6, f1, f2, f3⟩ := Ro_four (F := F) (v := e) d2 (by simp [by4]; omega) hF
    have W := (((a3.trans b3).trans c3).trans d3).trans f3
    have W1 : Fo (fun x => x = 95 ∨ x = 118) g σ g6 σ6 := (q3.mono fun a ha => Or.inl ha).trans (W.mono fun a ha => Or.inr ha)
    refine ⟨g6, σ6, ?_, ⟨h1.fo W1, h2.fo h1 W1 fun a ha z => by omega, ⟨_, _, _, q2.fo W (by omega)⟩, h4.fo W1 (by omega), h5.fo W1 (by omega) (by omega), f2, h7.fo W1 fun a _ _ z => by omega, fun k hk => (h8 k hk).fo W1 fun a _ _ z => by omega, h9.fo W1 fun a _ _ z => by omega, ⟨Q, h10.fo W1 fun a _ _ z => by omega⟩, h11.fo W1 fun a _ _ z => by omega⟩, W1.mono fun a ha => ⟨by omega, by omega⟩⟩
    rw [gA_of k1 (by rfl), Option.bind_some]
    simp only [a1, b1, c1, d1, f1, am_b2, Option.bind_some]
  · rw [if_neg (by omega), if_neg hc]
    obtain ⟨σ2, a1, a2, a3⟩ := Md_bad (F := F) q2
    have W1 := q3.trans a3
    refine ⟨g, σ2, ?_, hh.rest W1 (fun a ha z => by omega) (bm' := 0) (gv' := 0) a2, W1.mono fun a ha => ⟨by omega, by omega⟩⟩
    rw [a1]; rfl
theorem ARG_push {as : List (List Int32)} {inp : List Int32} (hA : ARG g σ as) (h3 : as.length ≤ 3) (hi : Ro g σ 118 inp) (hl : inp.length ≤ 65536) (hF : 131072 < F) : ∃ r, (∀ c, σ.2.2 95 = some (.inr c) → True) ∧ am_lA σ 12 120 (nI as.length) = some r ∧ (r = 121 ∨ r = 123 ∨ r = 125 ∨ r = 127) ∧ ∃ g' σ', f_Ro_set F σ r 118 = some (r, σ') ∧ ARG g' σ' (as ++ [inp]) ∧ Fo (fun a => a = r) g σ g' σ' := by
  obtain ⟨A, f, a1, a2, a3, a4, a5, a6⟩ := hA
  obtain ⟨e1, e2⟩ := a2 as.length (by omega)
  obtain ⟨t, ht⟩ := a5 as.length (by omega)
  obtain ⟨g', σ', q1, q2, q3⟩ := Ro_set (F := F) ht hi (by omega) hl hF
  refine ⟨A as.length, fun _ _ => trivial, lA_of a1.1 (by omega) (by omega) e1, e2, g', σ', q1, ⟨A, f, a1.fo q3 (by omega), a2, a3, fun j hj => ?_, fun j hj => ?_, by simp; omega⟩, q3⟩
  · rw [List.length_append, List.length_singleton] at hj
    by_cases e : j = as.length
    · subst e
      simp only [List.getElem_append_right (Nat.le_refl _), Nat.sub_self, List.getElem_cons_zero]
      exact q2
    · have hj' : j < as.length := by omega
      simp only [List.getElem_append_left hj']
      exact (a4 j hj').fo q3 fun z => e (a3 j as.length (by omega) (by omega) z)
  · by_cases e : j = as.length
    · subst e; exact ⟨inp, q2⟩
    · obtain ⟨t', ht'⟩ := a5 j hj
      exact ⟨t', ht'.fo q3 fun z => e (a3 j as.length (by omega) (by omega) z)⟩
/-- the first one goes to the end -/
theorem ARG_rot {as : List (List Int32)} {gv : Int32} (hc : Ce g σ 95 (MDC th bm gv gm cm fm)) (hA : ARG g σ as) (h4 : as.length = 4) (hF : 131072 < F) : ∃ r, am_lA σ 12 120 (nI 0) = some r ∧ ∃ σ' σ2, (∀ kk : am_S → Option (Int32 × am_S), f_Md_end_l61 F 95 kk F (nI 0) σ = kk σ') ∧ am_sA σ' 12 120 (nI 3) r = some σ2 ∧ Fo (fun a => a = 120) g σ g σ' ∧ ARG g σ2 (as.drop 1) ∧ Fo (fun a => a = 120) g σ g σ2 := by
  have h1 := hc.1
  unfold MDC at h1
  obtain ⟨A, f, a1, a2, a3, a4, a5, a6⟩ := hA
  have obj : ∀ j, j < 4 → ∃ fs, σ.2.2 (A j) = some (.inr (12, fs)) := fun j hj => by
    obtain ⟨t, ht⟩ := a5 j hj
    exact Ro_ob ht
  have ad : ∀ j, j < 4 → A j ≠ 120 ∧ A j ≠ 95 := fun j hj => by have := (a2 j hj).2; omega
  obtain ⟨f1, o1⟩ := obj 1 (by omega)
  obtain ⟨f2, o2⟩ := obj 2 (by omega)
  obtain ⟨f3, o3⟩ := obj 3 (by omega)
  obtain ⟨f0, o0⟩ := obj 0 (by omega)
  have v0 := (a2 0 (by omega)).1
  have v1 := (a2 1 (by omega)).1
  have v2 := (a2 2 (by omega)).1
  have v3 := (a2 3 (by omega)).1
  have n1 := ad 1 (by omega)
  have n2 := ad 2 (by omega)
  have n3 := ad 3 (by omega)
  have n0 := ad 0 (by omega)
  refine ⟨A 0, lA_of a1.1 (by omega) (by omega) v0, ?_⟩
  obtain ⟨n, rfl⟩ : ∃ n, F = n + 1 + 1 + 1 + 1 := ⟨F - 4, by omega⟩
  -- the three steps
  have s1 : am_sA σ 12 120 (nI 0) (A 1) = some (am_put σ 120 (.inl (.object (am_cn 12), 4, updV f 0 (.ref (A 1))))) := sA_of o1 a1.1 (by omega) (by omega) (by omega)
  generalize hσ1 : am_put σ 120 (.inl (.object (am_cn 12), 4, updV f 0 (.ref (A 1)))) = σ1 at s1
  have w1 : Fr (fun a => a = 120) σ σ1 := hσ1 ▸ (Fr.refl (fun a => a = 120) _).p rfl
  have c1 := at_top hσ1
  have s2 : am_sA σ1 12 120 (nI 1) (A 2) = some (am_put σ1 120 (.inl (.object (am_cn 12), 4, updV (updV f 0 (.ref (A 1))) 1 (.ref (A 2))))) := sA_of (w1.at (a := A 2) n2.1 o2) c1 (by omega) (by omega) (by omega)
  generalize hσ2 : am_put σ1 120 (.inl (.object (am_cn 12), 4, updV (updV f 0 (.ref (A 1))) 1 (.ref (A 2)))) = σ2 at s2
  have w2 : Fr (fun a => a = 120) σ1 σ2 := hσ2 ▸ (Fr.refl (fun a => a = 120) _).p rfl
  have c2 := at_top hσ2
  have s3 : am_sA σ2 12 120 (nI 2) (A 3) = some (am_put σ2 120 (.inl (.object (am_cn 12), 4, updV (updV (updV f 0 (.ref (A 1))) 1 (.ref (A 2))) 2 (.ref (A 3))))) := sA_of (w2.at (a := A 3) n3.1 (w1.at (a := A 3) n3.1 o3)) c2 (by omega) (by omega) (by omega)
  generalize hσ3 : am_put σ2 120 (.inl (.object (am_cn 12), 4, updV (updV (updV f 0 (.ref (A 1))) 1 (.ref (A 2))) 2 (.ref (A 3)))) = σ3 at s3
  have w3 : Fr (fun a => a = 120) σ2 σ3 := hσ3 ▸ (Fr.refl (fun a => a = 120) _).p rfl
  have c3 := at_top hσ3
  have s4 : am_sA σ3 12 120 (nI 3) (A 0) = some (am_put σ3 120 (.inl (.object (am_cn 12), 4, updV (updV (updV (updV f 0 (.ref (A 1))) 1 (.ref (A 2))) 2 (.ref (A 3))) 3 (.ref (A 0))))) := sA_of (w3.at (a := A 0) n0.1 (w2.at (a := A 0) n0.1 (w1.at (a := A 0) n0.1 o0))) c3 (by omega) (by omega) (by omega)
  generalize hσ4 : am_put σ3 120 (.inl (.object (am_cn 12), 4, updV (updV (updV (updV f 0 (.ref (A 1))) 1 (.ref (A 2))) 2 (.ref (A 3))) 3 (.ref (A 0)))) = σ4 at s4
  have w4 : Fr (fun a => a = 120) σ3 σ4 := hσ4 ▸ (Fr.refl (fun a => a = 120) _).p rfl
  have c4 := at_top hσ4
  have W3 := (w1.trans w2).trans w3
  have W4 := W3.trans w4
  have fo3 : Fo (fun a => a = 120) g σ g σ3 := Fo.of W3 fun a _ ha => by rw [ha]; exact a1.2.1
  have fo4 : Fo (fun a => a = 120) g σ g σ4 := Fo.of W4 fun a _ ha => by rw [ha]; exact a1.2.1
  have k1 := w1.at (a := 95) (by omega) h1
  have k2 := w2.at (a := 95) (by omega) k1
  refine ⟨σ3, σ4, ?_, s4, fo3, ⟨fun j => if j = 3 then A 0 else A (j + 1), updV (updV (updV (updV f 0 (.ref (A 1))) 1 (.ref (A 2))) 2 (.ref (A 3))) 3 (.ref (A 0)), ⟨c4, fo4.2.1 120 a1.2.2 |>.trans a1.2.1, Nat.lt_of_lt_of_le a1.2.2 fo4.1⟩, fun j hj => ?_, fun i j hi hj he => ?_, fun j hj => ?_, fun j hj => ?_, by simp; omega⟩, fo4⟩
  · intro kk
    have l1 : am_lA σ 12 120 (nI 1) = some (A 1) := lA_of a1.1 (by omega) (by omega) v1
    have l2 : am_lA σ1 12 120 (nI 2) = some (A 2) := lA_of c1 (by omega) (by omega) (by simp [updV, v2])
    have l3 : am_lA σ2 12 120 (nI 3) = some (A 3) := lA_of c2 (by omega) (by omega) (by simp [updV, v3])
    have e3 : (3 : Int32) = nI 3 := rfl
    rw [f_Md_end_l61, if_neg (by decide), gA_of h1 (by rfl), Option.bind_some, Option.bind_some, nI_1, l1, Option.bind_some, s1, Option.bind_some, f_Md_end_l61, if_neg (by decide), gA_of k1 (by rfl), Option.bind_some, Option.bind_some, nI_1, l2, Option.bind_some, s2, Option.bind_some, f_Md_end_l61, if_neg (by decide), gA_of k2 (by rfl), Option.bind_some, Option.bind_some, nI_1, l3, Option.bind_some, s3, Option.bind_some, f_Md_end_l61, if_pos (by decide)]
  · have hj4 : j = 0 ∨ j = 1 ∨ j = 2 ∨ j = 3 := by omega
    rcases hj4 with rfl | rfl | rfl | rfl
    · exact ⟨by simp [updV], by simpa using (a2 1 (by omega)).2⟩
    · exact ⟨by simp [updV], by simpa using (a2 2 (by omega)).2⟩
    · exact ⟨by simp [updV], by simpa using (a2 3 (by omega)).2⟩
    · exact ⟨by simp [updV], by simpa using (a2 0 (by omega)).2⟩
  · simp only at he
    by_cases hi3 : i = 3
    · by_cases hj3 : j = 3
      · omega
      · rw [if_pos hi3, if_neg hj3] at he
        have := a3 0 (j + 1) (by omega) (by omega) he
        omega
    · by_cases hj3 : j = 3
      · rw [if_neg hi3, if_pos hj3] at he
        have := a3 (i + 1) 0 (by omega) (by omega) he
        omega
      · rw [if_neg hi3, if_neg hj3] at he
        have := a3 (i + 1) (j + 1) (by omega) (by omega) he
        omega
  · have hjl : j < 3 := by simp at hj; omega
    have e : (as.drop 1)[j] = as[j + 1]'(by omega) := by simp [Nat.add_comm]
    simp only
    rw [e, if_neg (by omega)]
    exact (a4 (j + 1) (by omega)).fo fo4 (ad (j + 1) (by omega)).1
  · simp only
    split
    · obtain ⟨t, ht⟩ := a5 0 (by omega)
      exact ⟨t, ht.fo fo4 n0.1⟩
    · obtain ⟨t, ht⟩ := a5 (j + 1) (by omega)
      exact ⟨t, ht.fo fo4 (ad (j + 1) (by omega)).1⟩
theorem Md_end (h : MDI g σ th s) (n : Int32) (hin : sl s.1 + s.2.1.length ≤ 16384) (hF : 131072 < F) : ∃ g' σ' v, f_Md_end F σ 95 n = some (v, σ') ∧ MDI g' σ' (opEnd n s).1 (opEnd n s).2.2 ∧ ((opEnd n s).1 = 0 → v = (opEnd n s).2.1) ∧ Fo MT g σ g' σ' := by
  have hh := h
  obtain ⟨h1, h2, ⟨gm, cm, fm, h3⟩, h4, h5, h6, h7, h8, h9, ⟨Q, h10⟩, h11⟩ := h
  obtain ⟨σ1, q1, q2, q3⟩ := Md_th h3 0
  have r6 := h6.fo q3 (by omega)
  have r7 := h7.fo q3 fun a _ _ => by omega
  have ha4 : s.1.length ≤ 4 := by obtain ⟨A, f, -, -, -, -, -, z⟩ := r7; exact z
  have h1' := h3.1
  have k1 := q2.1
  unfold MDC at h1' k1
  have bad : opEnd n s = (1, 0, s) → ∃ g' σ' v, f_Md_end_j26 F 95 σ1 = some (v, σ') ∧ MDI g' σ' (opEnd n s).1 (opEnd n s).2.2 ∧ ((opEnd n s).1 = 0 → v = (opEnd n s).2.1) ∧ Fo MT g σ g' σ' := by
    intro e
    rw [e]
    obtain ⟨σ2, a1, a2, a3⟩ := Md_bad (F := F) q2
    have W1 := q3.trans a3
    refine ⟨g, σ2, 0, ?_, hh.rest W1 (fun a ha z => by omega) (bm' := 0) (gv' := 0) a2, fun _ => rfl, W1.mono fun a ha => ⟨by omega, by omega⟩⟩
    unfold f_Md_end_j26
    rw [a1]; rfl
  unfold f_Md_end
  rw [am_ck_of h1', q1, Option.bind_some]
  by_cases c1 : n < 0
  · rw [if_pos c1]
    exact bad (by unfold opEnd; rw [if_pos (Or.inl c1)])
  · rw [if_neg c1]
    by_cases c2 : 19 < n
    · rw [if_pos c2]
      exact bad (by unfold opEnd; rw [if_pos (Or.inr (Or.inl c2))])
    · rw [if_neg c2, gA_of k1 (by rfl), Option.bind_some, Ro_n r6, Option.bind_some]
      by_cases c3 : n ≤ nI s.2.1.length
      · rw [if_pos c3]
        obtain ⟨k, hk, rfl⟩ := nI_of c1
        have hk2 : k ≤ s.2.1.length := (nI_leI hk (by omega)).mp c3
        have eo : opEnd (nI k) s = (0, nI ((if s.1.length = 4 then s.1.drop 1 else s.1) ++ [s.2.1.take (s.2.1.length - k)]).length, ((if s.1.length = 4 then s.1.drop 1 else s.1) ++ [s.2.1.take (s.2.1.length - k)], [], s.2.2)) := by
          unfold opEnd
          rw [if_neg (by rintro (z | z | z); exact c1 z; exact c2 z; exact z c3), nI_clamp hk]
        rw [eo]
        obtain ⟨σ2, b1, b2, b3⟩ := Ro_cut (n := s.2.1.length - k) r6 (by omega)
        have q2b := q2.fo b3 (by omega)
        have k2 := q2b.1
        unfold MDC at k2
        have r7b := r7.fo b3 fun a _ _ => by omega
        have hlt : (s.2.1.take (s.2.1.length - k)).length ≤ 65536 := by simp; omega
        -- the rest, from any state with room
        have fin : ∀ (τ : am_S) (as' : List (List Int32)), as'.length ≤ 3 → Ce g τ 95 (MDC 0 (nI s.2.2.1.length) (nI as'.length) gm cm fm) → ARG g τ as' → Ro g τ 118 (s.2.1.take (s.2.1.length - k)) → Fo (fun a => a = 95 ∨ a = 118 ∨ a = 120) g σ g τ → ∃ g' σ' v, f_Md_end_j98 F 95 τ = some (v, σ') ∧ MDI g' σ' 0 (as' ++ [s.2.1.take (s.2.1.length - k)], [], s.2.2) ∧ v = nI (as' ++ [s.2.1.take (s.2.1.length - k)]).length ∧ Fo MT g σ g' σ' := by
          intro τ as' ha3 hc hA hR hW
          obtain ⟨r, -, p1, p2, g3, σ3, p3, p4, p5⟩ := ARG_push (F := F) hA ha3 hR hlt hF
          have hc3 := hc.fo p5 (by omega)
          obtain ⟨σ4, t1, t2, t3⟩ := Md_gv hc3 (nI (as'.length + 1))
          have R4 := (hR.fo p5 (by omega)).fo t3 (by omega)
          obtain ⟨σ5, y1, y2, y3⟩ := Ro_clear (F := F) R4
          have hc5 := t2.fo y3 (by omega)
          have z0 := hc.1
          have z3 := hc3.1
          have z4 := t2.1
          have z5 := hc5.1
          unfold MDC at z0 z3 z4 z5
          have W5 : Fo (fun a => a = 95 ∨ a = 118 ∨ (120 ≤ a ∧ a ≤ 128)) g σ g3 σ5 := (hW.mono fun a ha => by omega).trans ((p5.mono fun a ha => by omega).trans ((t3.mono fun a ha => by omega).trans (y3.mono fun a ha => by omega)))
          refine ⟨g3, σ5, nI (as'.length + 1), ?_, ⟨h1.fo W5, h2.fo h1 W5 fun a ha z => by omega, ⟨gm, cm, fm, ?_⟩, h4.fo W5 (by omega), h5.fo W5 (by omega) (by omega), y2, (p4.fo t3 fun a _ _ => by omega).fo y3 fun a _ _ => by omega, fun k hk => (h8 k hk).fo W5 fun a _ _ z => by omega, h9.fo W5 fun a _ _ z => by omega, ⟨Q, h10.fo W5 fun a _ _ z => by omega⟩, h11.fo W5 fun a _ _ z => by omega⟩, by simp, W5.mono fun a ha => ⟨by omega, by omega⟩⟩
          · unfold f_Md_end_j98
            rw [gA_of z0 (by rfl), Option.bind_some, gI_of z0 (by rfl), Option.bind_some, p1, Option.bind_some, gA_of z0 (by rfl), Option.bind_some, p3]
            simp only [am_b2, Option.bind_some]
            rw [gI_of z3 (by rfl), Option.bind_some, nI_1, t1, Option.bind_some, gA_of z4 (by rfl), Option.bind_some, y1, Option.bind_some, gI_of z5 (by rfl), Option.bind_some]
          · simp only [List.length_append, List.length_singleton]
            exact hc5
        rw [Option.bind_some, Ro_n r6, Option.bind_some, nI_sub hk2, b1, Option.bind_some, gI_of k2 (by rfl), Option.bind_some]
        have e4 : (nI s.1.length = 4) ↔ s.1.length = 4 := nI_eq (b := 4) (by omega) (by omega)
        simp only [e4]
        have W2 : Fo (fun a => a = 95 ∨ a = 118 ∨ a = 120) g σ g σ2 := (q3.mono fun a ha => by omega).trans (b3.mono fun a ha => by omega)
        by_cases h44 : s.1.length = 4
        · rw [if_pos h44, if_pos h44]
          obtain ⟨r, l0, σ3, σ4, p1, p2, p3, p4, p5⟩ := ARG_rot (F := F) q2b r7b h44 hF
          have q4 := q2b.fo p5 (by omega)
          obtain ⟨σ5, t1, t2, t3⟩ := Md_gv q4 (nI 3)
          have hl3 : (s.1.drop 1).length = 3 := by simp; omega
          obtain ⟨g', σ', v, f1, f2, f3, f4⟩ := fin σ5 (s.1.drop 1) (by omega) (by rw [hl3]; exact t2) (p4.fo t3 fun a _ _ => by omega) ((b2.fo p5 (by omega)).fo t3 (by omega)) (W2.trans ((p5.mono fun a ha => by omega).trans (t3.mono fun a ha => by omega)))
          refine ⟨g', σ', v, ?_, f2, fun _ => f3, f4⟩
          have z3 := (q2b.fo p3 (by omega)).1
          unfold MDC at z3
          have n3 : nI 3 = 3 := rfl
          rw [n3] at p2 t1
          rw [nI_0] at l0
          have p1' := p1 (fun τ => f_Md_end_j86 F 95 r τ)
          rw [nI_0] at p1'
          rw [gA_of k2 (by rfl), Option.bind_some, l0, Option.bind_some, p1']
          unfold f_Md_end_j86
          rw [gA_of z3 (by rfl), Option.bind_some, p2, Option.bind_some, t1, Option.bind_some, f1]
        · rw [if_neg h44, if_neg h44]
          obtain ⟨g', σ', v, f1, f2, f3, f4⟩ := fin σ2 s.1 (by omega) q2b r7b b2 W2
          exact ⟨g', σ', v, f1, f2, fun _ => f3, f4⟩
      · rw [if_neg c3]
        exact bad (by unfold opEnd; rw [if_pos (Or.inr (Or.inr c3))])
end FE
