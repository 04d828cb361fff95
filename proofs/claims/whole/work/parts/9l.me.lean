/-! ===== L3: the reference: merging TEXTS ===== -/
def fulL (x : Ln) : Prop := ∃ a, x = a ++ [10] ∧ (10 : Int32) ∉ a
def taiL (x : Ln) : Prop := x ≠ [] ∧ (10 : Int32) ∉ x
def okL : List Ln → Prop
  | [] => True
  | [x] => fulL x ∨ taiL x
  | x :: y :: r => fulL x ∧ okL (y :: r)
theorem okL_cons {x : Ln} (hx : fulL x) : ∀ {r : List Ln}, okL r → okL (x :: r)
  | [], _ => Or.inl hx
  | _ :: _, hr => ⟨hx, hr⟩
theorem okL_inv {x : Ln} : ∀ {r : List Ln}, okL (x :: r) → (fulL x ∧ okL r) ∨ (taiL x ∧ r = [])
  | [], h => by
    rcases h with h | h
    · exact Or.inl ⟨h, trivial⟩
    · exact Or.inr ⟨h, rfl⟩
  | _ :: _, h => Or.inl h
theorem okL_lnA : ∀ (r acc : List Int32), (10 : Int32) ∉ acc → okL (lnA acc r)
  | [], acc, h => by
    unfold lnA
    split
    · exact trivial
    · rename_i hne
      exact Or.inr ⟨hne, h⟩
  | x :: xs, acc, h => by
    unfold lnA
    split
    · rename_i hx
      exact okL_cons ⟨acc, by rw [hx], h⟩ (okL_lnA xs [] (by simp))
    · rename_i hx
      exact okL_lnA xs (acc ++ [x]) (by
        rw [List.mem_append, List.mem_singleton]
        rintro (z | z)
        · exact h z
        · exact hx z.symm)
theorem okL_take : ∀ {X : List Ln} (j : Nat), okL X → okL (X.take j)
  | [], j, h => by rw [List.take_nil]; exact trivial
  | x :: r, 0, h => trivial
  | x :: r, j + 1, h => by
    rw [List.take_succ_cons]
    rcases okL_inv h with ⟨h1, h2⟩ | ⟨h1, h2⟩
    · exact okL_cons h1 (okL_take j h2)
    · subst h2
      rw [List.take_nil]
      exact Or.inr h1
theorem okL_drop : ∀ {X : List Ln} (j : Nat), okL X → okL (X.drop j)
  | [], j, h => by rw [List.drop_nil]; exact trivial
  | x :: r, 0, h => h
  | x :: r, j + 1, h => by
    rw [List.drop_succ_cons]
    rcases okL_inv h with ⟨h1, h2⟩ | ⟨h1, h2⟩
    · exact okL_drop j h2
    · subst h2
      rw [List.drop_nil]
      exact trivial
theorem cut10 : ∀ {a b r s : List Int32}, (10 : Int32) ∉ a → (10 : Int32) ∉ b → a ++ 10 :: r = b ++ 10 :: s → a = b ∧ r = s
  | [], [], r, s, _, _, h => ⟨rfl, (List.cons.inj h).2⟩
  | [], y :: b, r, s, _, hb, h => by
    have := (List.cons.inj h).1
    exact absurd (by rw [← this]; exact List.mem_cons_self) hb
  | x :: a, [], r, s, ha, _, h => by
    have := (List.cons.inj h).1
    exact absurd (by rw [this]; exact List.mem_cons_self) ha
  | x :: a, y :: b, r, s, ha, hb, h => by
    obtain ⟨h1, h2⟩ := List.cons.inj h
    obtain ⟨h3, h4⟩ := cut10 (fun z => ha (List.mem_cons_of_mem _ z)) (fun z => hb (List.mem_cons_of_mem _ z)) h2
    exact ⟨by rw [h1, h3], h4⟩
theorem okL_ne {x : Ln} {r : List Ln} (h : okL (x :: r)) : x ≠ [] := by
  rcases okL_inv h with ⟨⟨a, ha, _⟩, _⟩ | ⟨h1, _⟩
  · rw [ha]; simp
  · exact h1.1
theorem okL_inj : ∀ {X Y : List Ln}, okL X → okL Y → X.flatten = Y.flatten → X = Y
  | [], [], _, _, _ => rfl
  | [], y :: r, _, hY, h => by
    rw [List.flatten_nil, List.flatten_cons] at h
    exact absurd (List.append_eq_nil_iff.mp h.symm).1 (okL_ne hY)
  | x :: r, [], hX, _, h => by
    rw [List.flatten_nil, List.flatten_cons] at h
    exact absurd (List.append_eq_nil_iff.mp h).1 (okL_ne hX)
  | x :: r, y :: s, hX, hY, h => by
    rw [List.flatten_cons, List.flatten_cons] at h
    rcases okL_inv hX with ⟨⟨a, ha, ha'⟩, hr⟩ | ⟨hx, hr⟩
    · rcases okL_inv hY with ⟨⟨b, hb, hb'⟩, hs⟩ | ⟨hy, hs⟩
      · rw [ha, hb, List.append_assoc, List.append_assoc, List.singleton_append, List.singleton_append] at h
        obtain ⟨h1, h2⟩ := cut10 ha' hb' h
        rw [ha, hb, h1, okL_inj hr hs h2]
      · subst hs
        rw [List.flatten_nil, List.append_nil, ha] at h
        exact absurd (by rw [← h]; simp) hy.2
    · subst hr
      rcases okL_inv hY with ⟨⟨b, hb, hb'⟩, hs⟩ | ⟨hy, hs⟩
      · rw [List.flatten_nil, List.append_nil, hb] at h
        exact absurd (by rw [h]; simp) hx.2
      · subst hs
        rw [List.flatten_nil, List.append_nil, List.append_nil] at h
        rw [h]
theorem okL_tln (t : List Int32) : okL (tln t) := by
  unfold tln
  split
  · exact trivial
  · exact okL_lnA t [] (by simp)
theorem slc_inj {t u : List Int32} {i j k l : Nat} : ((slc (tln t) i j).flatten = (slc (tln u) k l).flatten) ↔ slc (tln t) i j = slc (tln u) k l :=
  ⟨fun h => okL_inj (okL_drop _ (okL_take _ (okL_tln t))) (okL_drop _ (okL_take _ (okL_tln u))) h, fun h => by rw [h]⟩
theorem slB_slc {t : List Int32} (h : rgh t = false) {i j : Nat} (hij : i ≤ j) : slB t (sl ((tln t).take i)) (sl ((tln t).take j)) = (slc (tln t) i j).flatten := by
  rw [← slc_bytes (tln_flat h) hij]
  unfold slB
  rw [List.drop_take]
theorem sl_mono {X : List Ln} {i j : Nat} (h : i ≤ j) : sl (X.take i) ≤ sl (X.take j) := by
  have := slc_sl (X := X) h
  omega
theorem bo_or2 (a b : Bool) : bo a ||| bo b = bo (a || b) := by cases a <;> cases b <;> decide
section ME
variable {g : Gh} {F : Nat} {ts : Nat → List Int32} {th bm gv gm cm fm : Int32}
/-- LINES i to j of TEXT x, ended -/
theorem Md_ended {σ : am_S} {x i j : Nat} {T : List Int32} (hc : Ce g σ 95 (MDC th bm gv gm cm fm)) (hL : LST g σ 3 ts) (hR : Ro g σ 164 T) (hx : x < 3) (hij : i ≤ j) (hj : j ≤ (tln (ts x)).length) (hT : T.length + (ts x).length < 65536) (hF : 131072 < F) :
    ∃ g' σ', f_Md_ended F σ 95 (nI x) (nI (sl ((tln (ts x)).take i))) (nI (sl ((tln (ts x)).take j))) 164 = some σ' ∧ Ro g' σ' 164 (T ++ endd (slc (tln (ts x)) i j).flatten) ∧ Fo (fun a => a = 164) g σ g' σ' := by
  have hr := (hL.2.choose_spec.choose_spec.2.2 x hx).2
  have hRx := hL.1.2 x hx
  have hat := hL.1.at hx
  have z := hc.1
  unfold MDC at z
  have hs := tln_sl hr j
  have hm := sl_mono (X := tln (ts x)) hij
  have hln := Ro_len hRx
  obtain ⟨g1, σ1, q1, q2, q3⟩ := Ro_addb (F := F) hR hRx (show 130 + 2 * x ≠ 164 by omega) hm hs (by omega) hF
  have eB : ((ts x).take (sl ((tln (ts x)).take j))).drop (sl ((tln (ts x)).take i)) = (slc (tln (ts x)) i j).flatten := slB_slc hr hij
  rw [eB] at q2
  unfold f_Md_ended
  rw [am_ck_of z, gA_of z (k := 8) rfl, Option.bind_some, hat, Option.bind_some, q1]
  simp only [am_b2, Option.bind_some]
  have hlen : (slc (tln (ts x)) i j).flatten.length = sl ((tln (ts x)).take j) - sl ((tln (ts x)).take i) := by
    rw [sl_flat]
    have := slc_sl (X := tln (ts x)) hij
    omega
  simp only [nI_leI (show sl ((tln (ts x)).take j) < 2 ^ 31 by omega) (show sl ((tln (ts x)).take i) < 2 ^ 31 by omega)]
  by_cases c : sl ((tln (ts x)).take j) ≤ sl ((tln (ts x)).take i)
  · rw [if_pos c]
    have e0 : (slc (tln (ts x)) i j).flatten = [] := List.length_eq_zero_iff.mp (by omega)
    have e1 : endd (slc (tln (ts x)) i j).flatten = (slc (tln (ts x)) i j).flatten := by
      unfold endd
      rw [if_pos (Or.inl e0)]
    rw [e1]
    exact ⟨g1, σ1, rfl, q2, q3⟩
  · rw [if_neg c]
    have hc1 := hc.fo q3 (by omega)
    have T1 := hL.1.fo q3 fun a _ _ => by omega
    have z1 := hc1.1
    unfold MDC at z1
    have hat1 := T1.at hx
    have hR1 := T1.2 x hx
    have hlt : sl ((tln (ts x)).take j) - 1 < (ts x).length := by omega
    have es : nI (sl ((tln (ts x)).take j)) - 1 = nI (sl ((tln (ts x)).take j) - 1) := nI_sub (b := 1) (by omega)
    have hb := Ro_by hRx _ (List.getElem_mem hlt)
    rw [gA_of z1 (k := 8) rfl, Option.bind_some, hat1, Option.bind_some, es, Ro_get hR1 hlt, Option.bind_some]
    simp only [and10 hb]
    have hlast : (slc (tln (ts x)) i j).flatten.getLast? = some (ts x)[sl ((tln (ts x)).take j) - 1] := by
      rw [List.getLast?_eq_getElem?, hlen, ← slB_slc hr hij, slB_get (by omega), show sl ((tln (ts x)).take i) + (sl ((tln (ts x)).take j) - sl ((tln (ts x)).take i) - 1) = sl ((tln (ts x)).take j) - 1 by omega, List.getElem?_eq_getElem hlt]
    have hne : (slc (tln (ts x)) i j).flatten ≠ [] := fun z => by rw [z] at hlen; simp at hlen; omega
    by_cases c10 : (ts x)[sl ((tln (ts x)).take j) - 1] = 10
    · rw [if_pos c10]
      have e1 : endd (slc (tln (ts x)) i j).flatten = (slc (tln (ts x)) i j).flatten := by
        unfold endd
        rw [if_pos (Or.inr (by rw [hlast, c10]))]
      rw [e1]
      exact ⟨g1, σ1, rfl, q2, q3⟩
    · rw [if_neg c10]
      have e1 : endd (slc (tln (ts x)) i j).flatten = (slc (tln (ts x)) i j).flatten ++ [10] := by
        unfold endd
        rw [if_neg]
        rintro (z | z)
        · exact hne z
        · rw [hlast] at z; exact c10 (Option.some.inj z)
      obtain ⟨g2, σ2, r1, r2, r3⟩ := Ro_add (F := F) (x := 10) q2 (by rw [List.length_append, hlen]; omega) hF
      rw [i2b_10, List.append_assoc, ← e1] at r2
      rw [r1]
      exact ⟨g2, σ2, rfl, r2, q3.trans r3⟩
/-- a part -/
theorem Md_part {σ : am_S} {a0 a1 b0 b1 c0 c1 : Nat} {T : List Int32} (hg : gW g σ) (hm : MkS σ) (hc : Ce g σ 95 (MDC th bm gv gm cm fm)) (hL : LST g σ 3 ts) (hR : Ro g σ 164 T) (ha : a0 ≤ a1) (ha' : a1 ≤ (tln (ts 0)).length) (hb : b0 ≤ b1) (hb' : b1 ≤ (tln (ts 1)).length) (hcc : c0 ≤ c1) (hcc' : c1 ≤ (tln (ts 2)).length) (hl : ∀ x, x < 3 → (ts x).length ≤ 4096) (hT : T.length ≤ 40000) (hF : 131072 < F) :
    ∃ g' σ', f_Md_part F σ 95 (nI a0) (nI a1) (nI b0) (nI b1) (nI c0) (nI c1) 164 = some (bo (prtT (slc (tln (ts 0)) a0 a1) (slc (tln (ts 1)) b0 b1) (slc (tln (ts 2)) c0 c1)).2, σ') ∧ Ro g' σ' 164 (T ++ (prtT (slc (tln (ts 0)) a0 a1) (slc (tln (ts 1)) b0 b1) (slc (tln (ts 2)) c0 c1)).1) ∧ Fo (fun a => a = 164) g σ g' σ' := by
  obtain ⟨st, ct, -, -, hns⟩ := hL.2
  have r0 := (hns 0 (by omega)).2
  have r1 := (hns 1 (by omega)).2
  have r2 := (hns 2 (by omega)).2
  have l0 := hl 0 (by omega)
  have l1 := hl 1 (by omega)
  have l2 := hl 2 (by omega)
  have z := hc.1
  unfold MDC at z
  have n0 : nI 0 = 0 := rfl
  have n1 : nI 1 = 1 := rfl
  have n2 : nI 2 = 2 := rfl
  have s1 := Md_start (F := F) hc hL (by omega) (j := 0) (k := a0) (by omega) (by omega)
  have s2 := Md_start (F := F) hc hL (by omega) (j := 0) (k := a1) (by omega) (by omega)
  have s3 := Md_start (F := F) hc hL (by omega) (j := 1) (k := b0) (by omega) (by omega)
  have s4 := Md_start (F := F) hc hL (by omega) (j := 1) (k := b1) (by omega) (by omega)
  have s5 := Md_start (F := F) hc hL (by omega) (j := 2) (k := c0) (by omega) (by omega)
  have s6 := Md_start (F := F) hc hL (by omega) (j := 2) (k := c1) (by omega) (by omega)
  rw [n0] at s1 s2
  rw [n1] at s3 s4
  rw [n2] at s5 s6
  have t0 := hL.1.at (j := 0) (by omega)
  have t1 := hL.1.at (j := 1) (by omega)
  have t2 := hL.1.at (j := 2) (by omega)
  rw [n0] at t0
  rw [n1] at t1
  rw [n2] at t2
  have R0 := hL.1.2 0 (by omega)
  have R1 := hL.1.2 1 (by omega)
  have R2 := hL.1.2 2 (by omega)
  have m0 := sl_mono (X := tln (ts 0)) ha
  have m1 := sl_mono (X := tln (ts 1)) hb
  have m2 := sl_mono (X := tln (ts 2)) hcc
  have w0 := tln_sl r0 a1
  have w1 := tln_sl r1 b1
  have w2 := tln_sl r2 c1
  have e01 := Md_sameb (F := F) R0 R1 m0 w0 m1 w1 hF
  have e02 := Md_sameb (F := F) R0 R2 m0 w0 m2 w2 hF
  have e12 := Md_sameb (F := F) R1 R2 m1 w1 m2 w2 hF
  rw [slB_slc r0 ha, slB_slc r1 hb] at e01
  rw [slB_slc r0 ha, slB_slc r2 hcc] at e02
  rw [slB_slc r1 hb, slB_slc r2 hcc] at e12
  simp only [slc_inj] at e01 e02 e12
  rw [show 130 + 2 * 0 = 130 from rfl] at t0 e01 e02
  rw [show 130 + 2 * 1 = 132 from rfl] at t1 e01 e12
  rw [show 130 + 2 * 2 = 134 from rfl] at t2 e02 e12
  have g8 : am_gA σ 10 8 95 = some 129 := gA_of z (k := 8) rfl
  unfold f_Md_part
  rw [am_ck_of z]
  simp only [s1, s2, s3, s4, s5, s6, g8, t0, t1, t2, Option.bind_some, e01, e02, e12, bo_0, decide_eq_false_iff_not]
  have take2 : ∃ g' σ', f_Md_part_j148 F 95 164 (nI (sl ((tln (ts 1)).take b0))) (nI (sl ((tln (ts 1)).take b1))) σ = some (bo false, σ') ∧ Ro g' σ' 164 (T ++ (slc (tln (ts 1)) b0 b1).flatten) ∧ Fo (fun a => a = 164) g σ g' σ' := by
    obtain ⟨g1, σ1, q1, q2, q3⟩ := Ro_addb (F := F) hR R1 (show 130 + 2 * 1 ≠ 164 by omega) m1 w1 (by omega) hF
    have eB : ((ts 1).take (sl ((tln (ts 1)).take b1))).drop (sl ((tln (ts 1)).take b0)) = (slc (tln (ts 1)) b0 b1).flatten := slB_slc r1 hb
    rw [eB] at q2
    unfold f_Md_part_j148
    rw [g8, Option.bind_some, t1, Option.bind_some, show (132 : Nat) = 130 + 2 * 1 from rfl, q1]
    exact ⟨g1, σ1, rfl, q2, q3⟩
  by_cases k1 : slc (tln (ts 0)) a0 a1 = slc (tln (ts 1)) b0 b1
  · rw [if_neg (fun q => q k1)]
    have ep : prtT (slc (tln (ts 0)) a0 a1) (slc (tln (ts 1)) b0 b1) (slc (tln (ts 2)) c0 c1) = ((slc (tln (ts 2)) c0 c1).flatten, false) := by
      unfold prtT
      rw [if_pos k1.symm]
    obtain ⟨g1, σ1, q1, q2, q3⟩ := Ro_addb (F := F) hR R2 (show 130 + 2 * 2 ≠ 164 by omega) m2 w2 (by omega) hF
    have eB : ((ts 2).take (sl ((tln (ts 2)).take c1))).drop (sl ((tln (ts 2)).take c0)) = (slc (tln (ts 2)) c0 c1).flatten := slB_slc r2 hcc
    rw [eB] at q2
    rw [show (134 : Nat) = 130 + 2 * 2 from rfl, q1, ep]
    exact ⟨g1, σ1, rfl, q2, q3⟩
  · rw [if_pos k1]
    by_cases k2 : slc (tln (ts 0)) a0 a1 = slc (tln (ts 2)) c0 c1
    · rw [if_neg (fun q => q k2)]
      have ep : prtT (slc (tln (ts 0)) a0 a1) (slc (tln (ts 1)) b0 b1) (slc (tln (ts 2)) c0 c1) = ((slc (tln (ts 1)) b0 b1).flatten, false) := by
        unfold prtT
        rw [if_neg (fun q => k1 q.symm), if_pos (Or.inl k2.symm)]
      rw [ep]
      exact take2
    · rw [if_pos k2]
      by_cases k3 : slc (tln (ts 1)) b0 b1 = slc (tln (ts 2)) c0 c1
      · rw [if_neg (fun q => q k3)]
        have ep : prtT (slc (tln (ts 0)) a0 a1) (slc (tln (ts 1)) b0 b1) (slc (tln (ts 2)) c0 c1) = ((slc (tln (ts 1)) b0 b1).flatten, false) := by
          unfold prtT
          rw [if_neg (fun q => k1 q.symm), if_pos (Or.inr k3.symm)]
        rw [ep]
        exact take2
      · rw [if_pos k3]
        have ep : prtT (slc (tln (ts 0)) a0 a1) (slc (tln (ts 1)) b0 b1) (slc (tln (ts 2)) c0 c1) = (mkL 2 ++ endd (slc (tln (ts 1)) b0 b1).flatten ++ mkL 3 ++ endd (slc (tln (ts 2)) c0 c1).flatten ++ mkL 4, true) := by
          unfold prtT
          rw [if_neg (fun q => k1 q.symm), if_neg]
          rintro (q | q)
          · exact k2 q.symm
          · exact k3 q.symm
        have ml := mk_len
        have f1 : (slc (tln (ts 1)) b0 b1).flatten.length ≤ 4096 := by
          rw [sl_flat]
          have := slc_sl (X := tln (ts 1)) hb
          omega
        have f2 : (slc (tln (ts 2)) c0 c1).flatten.length ≤ 4096 := by
          rw [sl_flat]
          have := slc_sl (X := tln (ts 2)) hcc
          omega
        have en1 := endd_len (slc (tln (ts 1)) b0 b1).flatten
        have en2 := endd_len (slc (tln (ts 2)) c0 c1).flatten
        obtain ⟨g1, σ1, p1, p2, p3⟩ := Ro_addd (F := F) (i := 2) hR (by decide) hg hm (by omega) hF
        have hg1 := hg.fo p3
        have hm1 := hm.fo hg p3 fun a ha => by omega
        obtain ⟨g2, σ2, q1, q2, q3⟩ := Md_ended (F := F) (x := 1) (hc.fo p3 (by omega)) (hL.fo p3 fun a _ _ => by omega) p2 (by omega) hb hb' (by simp only [List.length_append]; omega) hF
        have hg2 := hg1.fo q3
        have hm2 := hm1.fo hg1 q3 fun a ha => by omega
        obtain ⟨g3, σ3, u1, u2, u3⟩ := Ro_addd (F := F) (i := 3) q2 (by decide) hg2 hm2 (by simp only [List.length_append]; omega) hF
        have hg3 := hg2.fo u3
        have hm3 := hm2.fo hg2 u3 fun a ha => by omega
        obtain ⟨g4, σ4, v1, v2, v3⟩ := Md_ended (F := F) (x := 2) (((hc.fo p3 (by omega)).fo q3 (by omega)).fo u3 (by omega)) (((hL.fo p3 fun a _ _ => by omega).fo q3 fun a _ _ => by omega).fo u3 fun a _ _ => by omega) u2 (by omega) hcc hcc' (by simp only [List.length_append]; omega) hF
        have hg4 := hg3.fo v3
        have hm4 := hm3.fo hg3 v3 fun a ha => by omega
        obtain ⟨g5, σ5, w1, w2, w3⟩ := Ro_addd (F := F) (i := 4) v2 (by decide) hg4 hm4 (by simp only [List.length_append]; omega) hF
        rw [n1] at q1
        rw [n2] at v1
        rw [p1, ep]
        simp only [am_b2, Option.bind_some, q1, u1, v1, w1]
        refine ⟨g5, σ5, rfl, ?_, (((p3.trans q3).trans u3).trans v3).trans w3⟩
        simpa only [List.append_assoc] using w2
end ME
