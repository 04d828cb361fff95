/-! ===== L3: Inbox ===== -/
theorem i2b_i2b (x : Int32) : am_i2b (am_i2b x) = am_i2b x := by
  unfold am_i2b
  exact lg_i2b_small (lg_i2b_range x).1 (lg_i2b_range x).2
def sl (as : List (List Int32)) : Nat := (as.map List.length).sum
theorem sl_flat (as : List (List Int32)) : as.flatten.length = sl as := by rw [List.length_flatten]; rfl
theorem sl_app (as bs : List (List Int32)) : sl (as ++ bs) = sl as + sl bs := by simp [sl]
theorem sl_one (a : List Int32) : sl [a] = a.length := by simp [sl]
theorem sl_cons (a : List Int32) (as : List (List Int32)) : sl (a :: as) = a.length + sl as := by simp [sl]
def InR (σ : am_S) (o : Nat) (bs es : Nat → Int32) (na ln : Nat) : Prop := σ.2.2 o = some (cO 1 [.ref (o + 1), .ref (o + 2), .int (nI na), .int (nI ln)]) ∧ σ.2.2 (o + 1) = some (cB 16384 bs) ∧ σ.2.2 (o + 2) = some (cI 4 es)
/-- the ARGUMENTS and INPUT that the object at o holds -/
def In (σ : am_S) (o : Nat) (as : List (List Int32)) (inp : List Int32) : Prop :=
  as.length ≤ 4 ∧ sl as + inp.length ≤ 16384 ∧ ∃ bs es : Nat → Int32, InR σ o bs es as.length (sl as + inp.length) ∧ (∀ j, j < sl as + inp.length → (as.flatten ++ inp)[j]? = some (bs j)) ∧ ∀ k, k < as.length → es k = nI (sl (as.take (k + 1)))
abbrev InS (o : Nat) : Nat → Prop := fun a => o ≤ a ∧ a < o + 3
theorem In.fr {σ σ1 : am_S} {o : Nat} {as : List (List Int32)} {inp : List Int32} {S : Nat → Prop} (h : In σ o as inp) (hf : Fr S σ σ1) (hd : ∀ a, o ≤ a → a < o + 3 → ¬ S a) : In σ1 o as inp := by
  obtain ⟨h1, h2, bs, es, ⟨h3, h4, h5⟩, h6⟩ := h
  exact ⟨h1, h2, bs, es, ⟨hf.at (hd _ (by omega) (by omega)) h3, hf.at (hd _ (by omega) (by omega)) h4, hf.at (hd _ (by omega) (by omega)) h5⟩, h6⟩
theorem In_hasRoom {σ : am_S} {o F : Nat} {as : List (List Int32)} {inp : List Int32} (h : In σ o as inp) : f_In_hasRoomFor F σ o 20 = some (if sl as + inp.length + 20 ≤ 16384 then 1 else 0) := by
  obtain ⟨h1, h2, bs, es, ⟨h3, h4, h5⟩, h6⟩ := h
  unfold f_In_hasRoomFor
  rw [am_ck_of h3, gI_of h3 rfl]
  simp only [Option.bind_some]
  have e : nI (sl as + inp.length) + 20 = nI (sl as + inp.length + 20) := nI_add _ 20
  have e2 : ((16384 : Int32) < nI (sl as + inp.length + 20)) ↔ 16384 < sl as + inp.length + 20 := nI_ltI (a := 16384) (by omega) (by omega)
  rw [e]
  by_cases hc : sl as + inp.length + 20 ≤ 16384
  · rw [if_neg (by rw [e2]; omega), if_pos hc]
  · rw [if_pos (by rw [e2]; omega), if_neg hc]
theorem In_count {σ : am_S} {o F : Nat} {as : List (List Int32)} {inp : List Int32} (h : In σ o as inp) : f_In_argumentCount F σ o = some (nI as.length) := by
  obtain ⟨h1, h2, bs, es, ⟨h3, h4, h5⟩, h6⟩ := h
  unfold f_In_argumentCount
  rw [am_ck_of h3, gI_of h3 rfl]
  rfl
theorem In_bytes {σ : am_S} {o F : Nat} {as : List (List Int32)} {inp : List Int32} (h : In σ o as inp) : f_In_bytes F σ o = some (o + 1) := by
  obtain ⟨h1, h2, bs, es, ⟨h3, h4, h5⟩, h6⟩ := h
  unfold f_In_bytes
  rw [am_ck_of h3, gA_of h3 rfl]
  rfl
theorem In_start {σ : am_S} {o F k : Nat} {as : List (List Int32)} {inp : List Int32} (h : In σ o as inp) (hk : k ≤ as.length) : f_In_argumentStart F σ o (nI k) = some (nI (sl (as.take k))) := by
  obtain ⟨h1, h2, bs, es, ⟨h3, h4, h5⟩, h6, h7⟩ := h
  unfold f_In_argumentStart
  rw [am_ck_of h3]
  by_cases h0 : k = 0
  · subst h0
    rw [if_pos (by decide)]
    rfl
  · rw [if_neg (nI_ne0 (by omega) (by omega)), gA_of h3 rfl]
    simp only [Option.bind_some]
    have e : nI k - 1 = nI (k - 1) := nI_sub (a := k) (b := 1) (by omega)
    rw [e, lI_of h5 (by omega) (by omega), Option.bind_some, h7 (k - 1) (by omega), show k - 1 + 1 = k by omega]
theorem In_len {σ : am_S} {o F : Nat} {as : List (List Int32)} {inp : List Int32} (h : In σ o as inp) : f_In_inputLength F σ o = some (nI inp.length) := by
  have hs := In_start (F := F) h (Nat.le_refl _)
  obtain ⟨h1, h2, bs, es, ⟨h3, h4, h5⟩, h6, h7⟩ := h
  unfold f_In_inputLength
  rw [am_ck_of h3, gI_of h3 rfl]
  simp only [Option.bind_some]
  rw [gI_of h3 rfl]
  simp only [Option.bind_some]
  rw [hs, Option.bind_some, List.take_length, nI_sub (by omega), show sl as + inp.length - sl as = inp.length by omega]
theorem sl_take_le (as : List (List Int32)) (k : Nat) : sl (as.take k) ≤ sl as := by
  have h := sl_app (as.take k) (as.drop k)
  rw [List.take_append_drop] at h
  omega
theorem sl_take_succ {as : List (List Int32)} {k : Nat} (hk : k < as.length) : sl (as.take (k + 1)) = sl (as.take k) + as[k].length := by
  rw [List.take_succ_eq_append_getElem hk, sl_app, sl_one]
theorem In_alen {σ : am_S} {o F k : Nat} {as : List (List Int32)} {inp : List Int32} (h : In σ o as inp) (hk : k < as.length) : f_In_argumentLength F σ o (nI k) = some (nI as[k].length) := by
  have hs := In_start (F := F) h (Nat.le_of_lt hk)
  obtain ⟨h1, h2, bs, es, ⟨h3, h4, h5⟩, h6, h7⟩ := h
  unfold f_In_argumentLength
  rw [am_ck_of h3, gA_of h3 rfl]
  simp only [Option.bind_some]
  rw [lI_of h5 (by omega) (by omega), Option.bind_some, hs, Option.bind_some, h7 k hk, sl_take_succ hk, nI_sub (by omega), show sl (as.take k) + as[k].length - sl (as.take k) = as[k].length by omega]
theorem In_cut {σ : am_S} {o F n : Nat} {as : List (List Int32)} {inp : List Int32} (h : In σ o as inp) (h8 : 8 ≤ o) (hn : n ≤ inp.length) : ∃ σ', f_In_cutInput F σ o (nI n) = some σ' ∧ In σ' o as (inp.take (inp.length - n)) ∧ Fr (InS o) σ σ' := by
  obtain ⟨h1, h2, bs, es, ⟨h3, h4, h5⟩, h6, h7⟩ := h
  unfold f_In_cutInput
  rw [am_ck_of h3, gI_of h3 rfl]
  simp only [Option.bind_some]
  rw [nI_sub (by omega), pI_of h3 h8 (by simp)]
  simp only [Option.bind_some]
  have hl : (inp.take (inp.length - n)).length = inp.length - n := by rw [List.length_take]; omega
  refine ⟨_, rfl, ⟨h1, by omega, bs, es, ⟨?_, ?_, ?_⟩, fun j hj => ?_, h7⟩, Fr.put ⟨by omega, by omega⟩⟩
  · rw [put_at, hl, show sl as + inp.length - n = sl as + (inp.length - n) by omega]
    rfl
  · rw [put_ne (by omega)]; exact h4
  · rw [put_ne (by omega)]; exact h5
  · rw [hl] at hj
    rw [← h6 j (by omega)]
    by_cases hc : j < as.flatten.length
    · rw [List.getElem?_append_left hc, List.getElem?_append_left hc]
    · rw [List.getElem?_append_right (by omega), List.getElem?_append_right (by omega), List.getElem?_take, if_pos (by rw [sl_flat] at *; omega)]
theorem In_addStep {σ : am_S} {o F n : Nat} {v x2 : Int32} {as : List (List Int32)} {inp : List Int32} (h : In σ o as inp) (h8 : 8 ≤ o) (hr : sl as + inp.length < 16384) (hx : ¬ x2 < 0) :
    ∃ σ', f_In_addNumber_l3 F o v (n + 1) x2 σ = f_In_addNumber_l3 F o v n (x2 + (-8)) σ' ∧ In σ' o as (inp ++ [am_i2b (am_ushr v x2)]) ∧ Fr (InS o) σ σ' := by
  obtain ⟨h1, h2, bs, es, ⟨h3, h4, h5⟩, h6, h7⟩ := h
  rw [f_In_addNumber_l3, if_neg hx, gA_of h3 rfl]
  simp only [Option.bind_some]
  rw [gI_of h3 rfl]
  simp only [Option.bind_some]
  rw [sB_of h4 (by omega) hr (by omega)]
  simp only [Option.bind_some]
  have g3 : (am_put σ (o + 1) (cB 16384 (uf bs (sl as + inp.length) (am_i2b (am_i2b (am_ushr v x2)))))).2.2 o = some (cO 1 [.ref (o + 1), .ref (o + 2), .int (nI as.length), .int (nI (sl as + inp.length))]) := by rw [put_ne (by omega)]; exact h3
  rw [gI_of g3 rfl]
  simp only [Option.bind_some]
  rw [pI_of g3 h8 (by simp)]
  simp only [Option.bind_some]
  refine ⟨_, rfl, ⟨h1, by simp; omega, uf bs (sl as + inp.length) (am_i2b (am_ushr v x2)), es, ⟨?_, ?_, ?_⟩, fun j hj => ?_, h7⟩, (Fr.put ⟨by omega, by omega⟩).trans (Fr.put ⟨by omega, by omega⟩)⟩
  · rw [put_at, nI_1]
    simp [Nat.add_assoc]
  · rw [put_ne (by omega), put_at, i2b_i2b]
  · rw [put_ne (by omega), put_ne (by omega)]; exact h5
  · rw [List.length_append] at hj
    simp only [List.length_cons, List.length_nil] at hj
    rw [← List.append_assoc]
    by_cases hc : j < sl as + inp.length
    · rw [List.getElem?_append_left (by rw [List.length_append, sl_flat]; exact hc), uf_ne (by omega)]
      exact h6 j hc
    · have : j = sl as + inp.length := by omega
      subst this
      rw [List.getElem?_append_right (by rw [List.length_append, sl_flat]; omega), uf_same, List.length_append, sl_flat, Nat.sub_self]
      rfl
def by4 (v : Int32) : List Int32 := [am_i2b (am_ushr v 24), am_i2b (am_ushr v 16), am_i2b (am_ushr v 8), am_i2b (am_ushr v 0)]
theorem In_add {σ : am_S} {o F : Nat} {v : Int32} {as : List (List Int32)} {inp : List Int32} (hF : 5 ≤ F) (h : In σ o as inp) (h8 : 8 ≤ o) (hr : sl as + inp.length + 4 ≤ 16384) :
    ∃ σ', f_In_addNumber F σ o v = some σ' ∧ In σ' o as (inp ++ by4 v) ∧ Fr (InS o) σ σ' := by
  obtain ⟨n, rfl⟩ : ∃ n, F = n + 1 + 1 + 1 + 1 + 1 := ⟨F - 5, by omega⟩
  have h3 : ∃ fs, σ.2.2 o = some (.inr (1, fs)) := by
    obtain ⟨_, _, bs, es, ⟨h3, -⟩, -⟩ := h
    exact ⟨_, h3⟩
  obtain ⟨fs, h3⟩ := h3
  unfold f_In_addNumber
  rw [am_ck_of h3]
  obtain ⟨σ1, e1, i1, f1⟩ := In_addStep (F := n + 1 + 1 + 1 + 1 + 1) (n := n + 1 + 1 + 1 + 1) (v := v) (x2 := 24) h h8 (by omega) (by decide)
  obtain ⟨σ2, e2, i2, f2⟩ := In_addStep (F := n + 1 + 1 + 1 + 1 + 1) (n := n + 1 + 1 + 1) (v := v) (x2 := 16) i1 h8 (by simp; omega) (by decide)
  obtain ⟨σ3, e3, i3, f3⟩ := In_addStep (F := n + 1 + 1 + 1 + 1 + 1) (n := n + 1 + 1) (v := v) (x2 := 8) i2 h8 (by simp; omega) (by decide)
  obtain ⟨σ4, e4, i4, f4⟩ := In_addStep (F := n + 1 + 1 + 1 + 1 + 1) (n := n + 1) (v := v) (x2 := 0) i3 h8 (by simp; omega) (by decide)
  refine ⟨σ4, ?_, ?_, ((f1.trans f2).trans f3).trans f4⟩
  · rw [e1, show (24 : Int32) + -8 = 16 by decide, e2, show (16 : Int32) + -8 = 8 by decide, e3, show (8 : Int32) + -8 = 0 by decide, e4, show (0 : Int32) + -8 = -8 by decide, f_In_addNumber_l3, if_pos (by decide)]
  · simpa [by4] using i4
/-- the raw picture: n bytes xs, and the numbers -/
def InW (σ : am_S) (o : Nat) (xs : List Int32) (es : Nat → Int32) (na : Nat) : Prop := xs.length ≤ 16384 ∧ ∃ bs : Nat → Int32, InR σ o bs es na xs.length ∧ ∀ j, j < xs.length → xs[j]? = some (bs j)
theorem InW_remove {σ : am_S} {o F g na : Nat} {xs : List Int32} {es : Nat → Int32} (h : InW σ o xs es na) (h8 : 8 ≤ o) (hg : g ≤ xs.length) : ∃ σ', f_In_removeFront F σ o (nI g) = some σ' ∧ InW σ' o (xs.drop g) es na ∧ Fr (InS o) σ σ' := by
  obtain ⟨h2, bs, ⟨h3, h4, h5⟩, h6⟩ := h
  unfold f_In_removeFront
  rw [am_ck_of h3, gA_of h3 rfl]
  simp only [Option.bind_some]
  rw [gI_of h3 rfl]
  simp only [Option.bind_some]
  rw [nI_sub hg, ← nI_0, cp_of (dp := 0) h4 h4 (by omega) (by omega) (by omega) (by omega) (by omega)]
  simp only [Option.bind_some]
  have g3 : (am_put σ (o + 1) (cB 16384 (va_cpy bs bs g 0 (xs.length - g)))).2.2 o = some (cO 1 [.ref (o + 1), .ref (o + 2), .int (nI na), .int (nI xs.length)]) := by rw [put_ne (by omega)]; exact h3
  rw [gI_of g3 rfl]
  simp only [Option.bind_some]
  rw [nI_sub hg, pI_of g3 h8 (by simp)]
  simp only [Option.bind_some]
  refine ⟨_, rfl, ⟨by rw [List.length_drop]; omega, va_cpy bs bs g 0 (xs.length - g), ⟨?_, ?_, ?_⟩, fun j hj => ?_⟩, (Fr.put ⟨by omega, by omega⟩).trans (Fr.put ⟨by omega, by omega⟩)⟩
  · rw [put_at, List.length_drop]
    rfl
  · rw [put_ne (by omega), put_at]
  · rw [put_ne (by omega), put_ne (by omega)]; exact h5
  · rw [List.length_drop] at hj
    rw [List.getElem?_drop, h6 (g + j) (by omega)]
    unfold va_cpy
    rw [if_pos ⟨by omega, by omega⟩, Nat.sub_zero]
theorem In.w {σ : am_S} {o : Nat} {as : List (List Int32)} {inp : List Int32} (h : In σ o as inp) : ∃ es, InW σ o (as.flatten ++ inp) es as.length ∧ ∀ k, k < as.length → es k = nI (sl (as.take (k + 1))) := by
  obtain ⟨h1, h2, bs, es, h3, h6, h7⟩ := h
  have hl : (as.flatten ++ inp).length = sl as + inp.length := by rw [List.length_append, sl_flat]
  exact ⟨es, ⟨by rw [hl]; exact h2, bs, by rw [hl]; exact h3, fun j hj => h6 j (by rw [← hl]; exact hj)⟩, h7⟩
theorem In.of_w {σ : am_S} {o : Nat} {as : List (List Int32)} {inp : List Int32} {es : Nat → Int32} (h : InW σ o (as.flatten ++ inp) es as.length) (h1 : as.length ≤ 4) (h7 : ∀ k, k < as.length → es k = nI (sl (as.take (k + 1)))) : In σ o as inp := by
  obtain ⟨h2, bs, h3, h6⟩ := h
  have hl : (as.flatten ++ inp).length = sl as + inp.length := by rw [List.length_append, sl_flat]
  rw [hl] at h2 h3 h6
  exact ⟨h1, h2, bs, es, h3, h6, h7⟩
theorem In_take {σ : am_S} {o F : Nat} {as : List (List Int32)} {inp : List Int32} (h : In σ o as inp) (h8 : 8 ≤ o) : ∃ σ', f_In_takeArguments F σ o = some σ' ∧ In σ' o [] inp ∧ Fr (InS o) σ σ' := by
  have hs := In_start (F := F) h (Nat.le_refl _)
  obtain ⟨es, hw, h7⟩ := h.w
  have hl : (as.flatten ++ inp).length = sl as + inp.length := by rw [List.length_append, sl_flat]
  obtain ⟨σ1, e1, w1, f1⟩ := InW_remove (F := F) (g := sl as) hw h8 (by rw [hl]; omega)
  obtain ⟨h1, h2, bs, es', ⟨h3, h4, h5⟩, h6⟩ := h
  unfold f_In_takeArguments
  rw [am_ck_of h3, gI_of h3 rfl]
  simp only [Option.bind_some]
  rw [hs]
  simp only [Option.bind_some]
  rw [List.take_length, e1]
  simp only [Option.bind_some]
  have hd : (as.flatten ++ inp).drop (sl as) = inp := by rw [← sl_flat, List.drop_left]
  rw [hd] at w1
  obtain ⟨w2, bs1, ⟨w3, w4, w5⟩, w6⟩ := w1
  rw [pI_of w3 h8 (by simp)]
  simp only [Option.bind_some]
  refine ⟨_, rfl, In.of_w (es := es) ⟨w2, bs1, ⟨?_, ?_, ?_⟩, w6⟩ (by simp) (fun k hk => by cases hk), f1.trans (Fr.put ⟨by omega, by omega⟩)⟩
  · rw [put_at]
    rfl
  · rw [put_ne (by omega)]; exact w4
  · rw [put_ne (by omega)]; exact w5
/-- the ends move by g -/
theorem InW_ends {o F g N : Nat} (h8 : 8 ≤ o) (hN : N ≤ 3) {xs : List Int32} : ∀ (n i : Nat) (σ : am_S) (es : Nat → Int32), N - i < n → i ≤ N → InW σ o xs es N → ∃ (σ' : am_S) (es' : Nat → Int32), f_In_dropFirstArgument_l24 F o (nI g) n (nI i) σ = some σ' ∧ InW σ' o xs es' N ∧ Fr (InS o) σ σ' ∧ (∀ k, k < i → es' k = es k) ∧ ∀ k, i ≤ k → k < N → es' k = es (k + 1) - nI g := by
  intro n
  induction n with
  | zero => intro i σ es h; omega
  | succ n ih =>
    intro i σ es hn hi h
    obtain ⟨h2, bs, ⟨h3, h4, h5⟩, h6⟩ := id h
    rw [f_In_dropFirstArgument_l24, gI_of h3 rfl]
    simp only [Option.bind_some]
    by_cases hc : N ≤ i
    · rw [if_pos (nI_le hc (by omega))]
      exact ⟨σ, es, rfl, h, Fr.refl _ _, fun _ _ => rfl, fun k h1 h2 => by omega⟩
    · rw [if_neg (nI_ge (by omega) (by omega)), gA_of h3 rfl]
      simp only [Option.bind_some]
      rw [nI_1, lI_of h5 (by omega) (by omega)]
      simp only [Option.bind_some]
      rw [sI_of h5 (by omega) (by omega) (by omega)]
      simp only [Option.bind_some]
      have w1 : InW (am_put σ (o + 2) (cI 4 (uf es i (es (i + 1) - nI g)))) o xs (uf es i (es (i + 1) - nI g)) N := by
        refine ⟨h2, bs, ⟨?_, ?_, ?_⟩, h6⟩
        · rw [put_ne (by omega)]; exact h3
        · rw [put_ne (by omega)]; exact h4
        · rw [put_at]
      obtain ⟨σ', es', e, w, f, p1, p2⟩ := ih (i + 1) _ _ (by omega) (by omega) w1
      refine ⟨σ', es', e, w, (Fr.put ⟨by omega, by omega⟩).trans f, fun k hk => ?_, fun k hk1 hk2 => ?_⟩
      · rw [p1 k (by omega), uf_ne (by omega)]
      · by_cases hki : k = i
        · subst hki
          rw [p1 k (by omega), uf_same]
        · rw [p2 k (by omega) hk2, uf_ne (by omega)]
theorem In_dropFirst {σ : am_S} {o F : Nat} {a : List Int32} {as : List (List Int32)} {inp : List Int32} (hF : 5 ≤ F) (h : In σ o (a :: as) inp) (h8 : 8 ≤ o) : ∃ σ', f_In_dropFirstArgument F σ o = some σ' ∧ In σ' o as inp ∧ Fr (InS o) σ σ' := by
  obtain ⟨es, hw, h7⟩ := h.w
  have hl : ((a :: as).flatten ++ inp).length = a.length + (sl as + inp.length) := by rw [List.length_append, sl_flat, sl_cons]; omega
  obtain ⟨σ1, e1, w1, f1⟩ := InW_remove (F := F) (g := a.length) hw h8 (by rw [hl]; omega)
  obtain ⟨h1, h2, bs, es', ⟨h3, h4, h5⟩, h6, h7'⟩ := h
  simp only [List.length_cons] at h1 h3 h7 h7' w1
  unfold f_In_dropFirstArgument
  rw [am_ck_of h3, gA_of h3 rfl]
  simp only [Option.bind_some]
  rw [← nI_0, lI_of h5 (by omega) (by omega)]
  simp only [Option.bind_some]
  rw [h7' 0 (by omega), show sl ((a :: as).take (0 + 1)) = a.length by simp [sl], e1]
  simp only [Option.bind_some]
  have hd : ((a :: as).flatten ++ inp).drop a.length = as.flatten ++ inp := by rw [List.flatten_cons, List.append_assoc, List.drop_left]
  rw [hd] at w1
  obtain ⟨w2, bs1, ⟨w3, w4, w5⟩, w6⟩ := w1
  rw [gI_of w3 rfl]
  simp only [Option.bind_some]
  rw [nI_pred, pI_of w3 h8 (by simp)]
  simp only [Option.bind_some]
  have w7 : InW (am_put σ1 o (cO 1 [.ref (o + 1), .ref (o + 2), .int (nI as.length), .int (nI (as.flatten ++ inp).length)])) o (as.flatten ++ inp) es as.length := by
    refine ⟨w2, bs1, ⟨?_, ?_, ?_⟩, w6⟩
    · rw [put_at]
    · rw [put_ne (by omega)]; exact w4
    · rw [put_ne (by omega)]; exact w5
  obtain ⟨σ', es2, e, w, f, p1, p2⟩ := InW_ends (F := F) (g := a.length) (N := as.length) h8 (by omega) F 0 _ es (by omega) (by omega) w7
  refine ⟨σ', e, In.of_w w (by omega) fun k hk => ?_, (f1.trans (Fr.put ⟨by omega, by omega⟩)).trans f⟩
  rw [p2 k (by omega) hk, h7 (k + 1) (by omega), List.take_succ_cons, sl_cons, nI_sub (by omega)]
  congr 1
  omega
theorem In_push {σ : am_S} {o F : Nat} {as : List (List Int32)} {inp : List Int32} (h : In σ o as inp) (h8 : 8 ≤ o) (h3 : as.length ≤ 3) : ∃ σ', f_In_makeArgument_j12 F o σ = some σ' ∧ In σ' o (as ++ [inp]) [] ∧ Fr (InS o) σ σ' := by
  obtain ⟨h1, h2, bs, es, ⟨i3, i4, i5⟩, h6, h7⟩ := h
  unfold f_In_makeArgument_j12
  rw [gA_of i3 rfl]
  simp only [Option.bind_some]
  rw [gI_of i3 rfl]
  simp only [Option.bind_some]
  rw [gI_of i3 rfl]
  simp only [Option.bind_some]
  rw [sI_of i5 (by omega) (by omega) (by omega)]
  simp only [Option.bind_some]
  have g3 : (am_put σ (o + 2) (cI 4 (uf es as.length (nI (sl as + inp.length))))).2.2 o = some (cO 1 [.ref (o + 1), .ref (o + 2), .int (nI as.length), .int (nI (sl as + inp.length))]) := by rw [put_ne (by omega)]; exact i3
  rw [gI_of g3 rfl]
  simp only [Option.bind_some]
  rw [nI_1, pI_of g3 h8 (by simp)]
  simp only [Option.bind_some]
  have hsl : sl (as ++ [inp]) = sl as + inp.length := by rw [sl_app, sl_one]
  refine ⟨_, rfl, ⟨by simp; omega, by rw [hsl]; simpa using h2, bs, uf es as.length (nI (sl as + inp.length)), ⟨?_, ?_, ?_⟩, fun j hj => ?_, fun k hk => ?_⟩, (Fr.put ⟨by omega, by omega⟩).trans (Fr.put ⟨by omega, by omega⟩)⟩
  · rw [put_at, hsl]
    simp
  · rw [put_ne (by omega), put_ne (by omega)]; exact i4
  · rw [put_ne (by omega), put_at]
  · rw [hsl] at hj
    simpa using h6 j (by simpa using hj)
  · rw [List.length_append] at hk
    simp only [List.length_cons, List.length_nil] at hk
    by_cases hc : k = as.length
    · subst hc
      rw [uf_same, List.take_of_length_le (by simp), hsl]
    · rw [uf_ne hc, h7 k (by omega), List.take_append_of_le_length (by omega)]
theorem In_make {σ : am_S} {o F : Nat} {as : List (List Int32)} {inp : List Int32} (hF : 5 ≤ F) (h : In σ o as inp) (h8 : 8 ≤ o) : ∃ σ', f_In_makeArgument F σ o = some σ' ∧ In σ' o ((if as.length = 4 then as.drop 1 else as) ++ [inp]) [] ∧ Fr (InS o) σ σ' := by
  obtain ⟨h1, h2, bs, es, ⟨i3, i4, i5⟩, h6, h7⟩ := id h
  unfold f_In_makeArgument
  rw [am_ck_of i3, gI_of i3 rfl]
  simp only [Option.bind_some]
  by_cases hc : as.length = 4
  · rw [if_pos (by rw [hc]; decide), if_pos hc]
    cases as with
    | nil => simp at hc
    | cons a as =>
      obtain ⟨σ1, e1, w1, f1⟩ := In_dropFirst (F := F) hF h h8
      obtain ⟨σ2, e2, w2, f2⟩ := In_push (F := F) w1 h8 (by simp at hc; omega)
      exact ⟨σ2, by rw [e1, Option.bind_some, e2], by simpa using w2, f1.trans f2⟩
  · rw [if_neg (by
      intro hz
      exact hc ((nI_eq (a := as.length) (b := 4) (by omega) (by omega)).mp hz)), if_neg hc]
    exact In_push (F := F) h h8 (by omega)
