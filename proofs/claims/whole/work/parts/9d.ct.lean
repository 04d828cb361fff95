/-! ===== L3: the reference: cutting TEXTS into LINES ===== -/
theorem d00_dec : ∀ k : Fin 256, decide (nI k.val = 0) = decide (am_i2b (nI k.val) = 0) := by decide +kernel
theorem d10_dec : ∀ k : Fin 256, decide (nI k.val = 10) = decide (am_i2b (nI k.val) = 10) := by decide +kernel
theorem and00 {x : Int32} (hx : am_i2b x = x) : (x &&& 255 = 0) ↔ x = 0 := by
  obtain ⟨k, hk, e1, e2⟩ := byte_k hx
  have := d00_dec ⟨k, hk⟩
  rw [e1]
  conv => rhs; rw [e2]
  exact decide_eq_decide.mp this
theorem and10 {x : Int32} (hx : am_i2b x = x) : (x &&& 255 = 10) ↔ x = 10 := by
  obtain ⟨k, hk, e1, e2⟩ := byte_k hx
  have := d10_dec ⟨k, hk⟩
  rw [e1]
  conv => rhs; rw [e2]
  exact decide_eq_decide.mp this
def LNS (st ct : Nat → Int32) (x : Nat) (t : List Int32) : Prop := ct x = (if rgh t = true then -1 else nI (tln t).length) ∧ (rgh t = false → ∀ k, k ≤ (tln t).length → st (202 * x + k) = nI (sl ((tln t).take k)))
theorem LNS.other {st ct st' ct' : Nat → Int32} {x y : Nat} {t : List Int32} (h : LNS st ct y t) (hxy : y ≠ x) (h1 : ∀ j, j ≠ x → ct' j = ct j) (h2 : ∀ j, j < 202 * x ∨ 202 * x + 202 ≤ j → st' j = st j) : LNS st' ct' y t := by
  refine ⟨by rw [h1 y hxy]; exact h.1, fun hr k hk => ?_⟩
  have hl := lcn_le t
  rw [← tln_len] at hl
  rw [h2 _ (by omega)]
  exact h.2 hr k hk
section CT
variable {g : Gh} {F r x : Nat} {t : List Int32} {th bm gv gm cm fm : Int32}
theorem Md_cutLoop (hx : x < 3) (ht : t.length ≤ 65536) (hby : ∀ y ∈ t, am_i2b y = y) : ∀ (m i : Nat) (ls : List (List Int32)) (σ : am_S) (st ct : Nat → Int32), Ce g σ 95 (MDC th bm gv gm cm fm) → Ro g σ r t → r ≠ 136 → r ≠ 138 → Ce g σ 136 (cI 606 st) → Ce g σ 138 (cI 3 ct) → ct x = -1 → ls.length ≤ 200 → sl ls ≤ i → i ≤ t.length → (i = t.length → sl ls = i) → lns t = ls ++ lnA (slB t (sl ls) i) (t.drop i) → (0 : Int32) ∉ t.take i → (∀ k, k ≤ ls.length → st (202 * x + k) = nI (sl (ls.take k))) → t.length - i < m →
    ∃ σ' st' ct', f_Md_cut_l30 F 95 (nI x) r m (nI ls.length) (nI i) σ = some σ' ∧ Ce g σ' 136 (cI 606 st') ∧ Ce g σ' 138 (cI 3 ct') ∧ LNS st' ct' x t ∧ (∀ j, j ≠ x → ct' j = ct j) ∧ (∀ j, j < 202 * x ∨ 202 * x + 202 ≤ j → st' j = st j) ∧ Fo (fun a => a = 136 ∨ a = 138) g σ g σ' := by
  intro m
  induction m with
  | zero => intro i _ _ _ _ _ _ _ _ _ _ _ _ _ _ _ _ _ _ h; omega
  | succ m ih =>
    intro i ls σ st ct hc hR hr1 hr2 hs hct h1 h2 h3 h4 h5 h6 h7 h8 h9
    have z := hc.1
    unfold MDC at z
    have hn := Ro_n hR
    rw [f_Md_cut_l30, hn, Option.bind_some]
    have early : rgh t = true → ∃ σ' st' ct', (some σ : Option am_S) = some σ' ∧ Ce g σ' 136 (cI 606 st') ∧ Ce g σ' 138 (cI 3 ct') ∧ LNS st' ct' x t ∧ (∀ j, j ≠ x → ct' j = ct j) ∧ (∀ j, j < 202 * x ∨ 202 * x + 202 ≤ j → st' j = st j) ∧ Fo (fun a => a = 136 ∨ a = 138) g σ g σ' := fun hrg =>
      ⟨σ, st, ct, rfl, hs, hct, ⟨by rw [if_pos hrg]; exact h1, fun z => by rw [hrg] at z; cases z⟩, fun _ _ => rfl, fun _ _ => rfl, Fo.refl _ _ _⟩
    by_cases ce : t.length ≤ i
    · have e : i = t.length := by omega
      rw [if_pos (nI_le ce (by omega))]
      have hsl := h5 e
      rw [List.drop_of_length_le ce] at h6
      have hacc : slB t (sl ls) i = [] := by rw [hsl]; exact slB_nil _ _
      rw [hacc] at h6
      have hls : lns t = ls := by simpa [lnA] using h6
      have hrg : rgh t = false := by
        unfold rgh
        rw [List.take_of_length_le ce] at h7
        rw [hls, decide_eq_false h7, decide_eq_false (by omega)]
        rfl
      have htl : tln t = ls := by unfold tln; rw [hrg]; exact hls
      have m2 := hct.1
      rw [gA_of z (by rfl), Option.bind_some, sI_of m2 (by omega) hx (by omega), Option.bind_some]
      have hf : Fo (fun a => a = 136 ∨ a = 138) g σ g (am_put σ 138 (cI 3 (uf ct x (nI ls.length)))) := (Fo.refl _ _ _).put fun _ => by rw [hct.2.1]; exact Or.inr rfl
      refine ⟨_, st, uf ct x (nI ls.length), rfl, ⟨by rw [put_ne (by omega)]; exact hs.1, hs.2.1, hs.2.2⟩, ⟨put_at _ _ _, hct.2.1, hct.2.2⟩, ⟨by rw [uf_same, if_neg (by rw [hrg]; decide), htl], fun _ k hk => ?_⟩, fun j hj => uf_ne hj, fun _ _ => rfl, hf⟩
      rw [htl] at hk ⊢
      exact h8 k hk
    · have hi : i < t.length := by omega
      have hb := hby _ (List.getElem_mem hi)
      rw [if_neg (nI_ge hi (by omega)), Ro_get hR hi, Option.bind_some, Option.bind_some]
      simp only [and00 hb, and10 hb]
      by_cases c0 : t[i] = 0
      · rw [if_pos c0]
        refine early ?_
        unfold rgh
        rw [decide_eq_true (show (0 : Int32) ∈ t by rw [← c0]; exact List.getElem_mem hi)]
        rfl
      · rw [if_neg c0]
        have hdr : t.drop i = t[i] :: t.drop (i + 1) := List.drop_eq_getElem_cons hi
        have hsn : slB t (sl ls) (i + 1) = slB t (sl ls) i ++ [t[i]] := slB_snoc h3 hi
        have h7' : (0 : Int32) ∉ t.take (i + 1) := by
          rw [List.take_succ_eq_append_getElem hi, List.mem_append, List.mem_singleton]
          rintro (z | z)
          · exact h7 z
          · exact c0 z.symm
        -- a whole LINE
        have line : lns t = ls ++ (slB t (sl ls) (i + 1) :: lnA [] (t.drop (i + 1))) → ∃ σ' st' ct', f_Md_cut_j74 F 95 (nI x) (nI ls.length) (nI i) (fun y3 y4 τ => f_Md_cut_l30 F 95 (nI x) r m y3 y4 τ) σ = some σ' ∧ Ce g σ' 136 (cI 606 st') ∧ Ce g σ' 138 (cI 3 ct') ∧ LNS st' ct' x t ∧ (∀ j, j ≠ x → ct' j = ct j) ∧ (∀ j, j < 202 * x ∨ 202 * x + 202 ≤ j → st' j = st j) ∧ Fo (fun a => a = 136 ∨ a = 138) g σ g σ' := by
          intro hl
          unfold f_Md_cut_j74
          have e200 : (nI ls.length = 200) ↔ ls.length = 200 := nI_eq (b := 200) (by omega) (by omega)
          simp only [e200]
          by_cases c200 : ls.length = 200
          · rw [if_pos c200]
            refine early ?_
            unfold rgh
            rw [decide_eq_true (show 200 < (lns t).length by rw [hl]; simp; omega), Bool.or_true]
          · rw [if_neg c200]
            have m1 := hs.1
            have ea : 202 * nI x + (nI ls.length + 1) = nI (202 * x + (ls.length + 1)) := by
              have : 202 * nI x = nI (202 * x) := nI_mul 202 x
              rw [this, nI_1, nI_add]
            rw [gA_of z (by rfl), Option.bind_some, ea, nI_1, sI_of m1 (by omega) (by omega) (by omega), Option.bind_some, nI_1]
            have hf : Fo (fun a => a = 136 ∨ a = 138) g σ g (am_put σ 136 (cI 606 (uf st (202 * x + (ls.length + 1)) (nI (i + 1))))) := (Fo.refl _ _ _).put fun _ => by rw [hs.2.1]; exact Or.inl rfl
            have hsl' : sl (ls ++ [slB t (sl ls) (i + 1)]) = i + 1 := by
              rw [sl_app, sl_one, slB_len (by omega)]
              omega
            obtain ⟨σ', st', ct', q1, q2, q3, q4, q5, q6, q7⟩ := ih (i + 1) (ls ++ [slB t (sl ls) (i + 1)]) _ (uf st (202 * x + (ls.length + 1)) (nI (i + 1))) ct (⟨by rw [put_ne (by omega)]; exact hc.1, hc.2.1, hc.2.2⟩ : Ce g (am_put σ 136 (cI 606 (uf st (202 * x + (ls.length + 1)) (nI (i + 1))))) 95 (MDC th bm gv gm cm fm)) (hR.fo hf (by omega)) hr1 hr2 ⟨put_at _ _ _, hs.2.1, hs.2.2⟩ ⟨by rw [put_ne (by omega)]; exact hct.1, hct.2.1, hct.2.2⟩ h1 (by simp; omega) (by omega) (by omega) (fun _ => hsl') (by rw [hsl', slB_nil, hl]; simp) h7' (fun k hk => by
              rw [List.length_append, List.length_singleton] at hk
              by_cases e : k = ls.length + 1
              · subst e
                rw [uf_same, List.take_of_length_le (by simp), hsl']
              · rw [uf_ne (by omega), h8 k (by omega), List.take_append_of_le_length (by omega)]) (by omega)
            rw [List.length_append, List.length_singleton] at q1
            exact ⟨σ', st', ct', q1, q2, q3, q4, q5, fun j hj => by rw [q6 j hj, uf_ne (by omega)], hf.trans q7⟩
        by_cases c10 : t[i] = 10
        · rw [if_pos c10]
          exact line (by rw [h6, hdr, lnA, if_pos c10, hsn])
        · rw [if_neg c10]
          have ep : nI t.length - 1 = nI (t.length - 1) := nI_sub (a := t.length) (b := 1) (by omega)
          rw [Option.bind_some, ep]
          simp only [nI_leI (show t.length - 1 < 2 ^ 31 by omega) (show i < 2 ^ 31 by omega)]
          by_cases cl : t.length - 1 ≤ i
          · rw [if_pos cl]
            have hd0 : t.drop (i + 1) = [] := List.drop_of_length_le (by omega)
            refine line ?_
            have hne : ¬ slB t (sl ls) (i + 1) = [] := by
              intro z
              have := congrArg List.length z
              rw [slB_len (by omega)] at this
              simp at this
              omega
            have e1 : lnA (slB t (sl ls) i) [t[i]] = [slB t (sl ls) (i + 1)] := by
              rw [lnA, if_neg c10, ← hsn, lnA, if_neg hne]
            have e2 : lnA [] [] = [] := rfl
            rw [h6, hdr, hd0, e1, e2]
          · rw [if_neg cl, nI_1]
            obtain ⟨σ', st', ct', q1, q2⟩ := ih (i + 1) ls σ st ct hc hR hr1 hr2 hs hct h1 h2 (by omega) (by omega) (fun e => by omega) (by rw [h6, hdr, lnA, if_neg c10, hsn]) h7' h8 (by omega)
            exact ⟨σ', st', ct', q1, q2⟩
/-- the three TEXTS' rows -/
def TX3 (g : Gh) (σ : am_S) (ts : Nat → List Int32) : Prop := (∃ f : Nat → Value, Ce g σ 129 (.inl (.object (am_cn 12), 3, f)) ∧ ∀ j, j < 3 → f j = .ref (130 + 2 * j)) ∧ ∀ j, j < 3 → Ro g σ (130 + 2 * j) (ts j)
theorem TX3.fo {T : Nat → Prop} {g1 : Gh} {σ σ1 : am_S} {ts : Nat → List Int32} (h : TX3 g σ ts) (hf : Fo T g σ g1 σ1) (hT : ∀ a, 129 ≤ a → a ≤ 135 → ¬ T a) : TX3 g1 σ1 ts := by
  obtain ⟨⟨f, h1, h2⟩, h3⟩ := h
  exact ⟨⟨f, h1.fo hf (hT _ (by omega) (by omega)), h2⟩, fun j hj => (h3 j hj).fo hf (hT _ (by omega) (by omega))⟩
theorem TX3.at {σ : am_S} {ts : Nat → List Int32} (h : TX3 g σ ts) {j : Nat} (hj : j < 3) : am_lA σ 12 129 (nI j) = some (130 + 2 * j) := by
  obtain ⟨⟨f, h1, h2⟩, h3⟩ := h
  exact lA_of h1.1 hj (by omega) (h2 j hj)
theorem TXA.t3 {σ : am_S} (h : TXA g σ) : ∃ ts, TX3 g σ ts := by
  obtain ⟨h1, h2⟩ := h
  obtain ⟨t0, r0⟩ := h2 0 (by omega)
  obtain ⟨t1, r1⟩ := h2 1 (by omega)
  obtain ⟨t2, r2⟩ := h2 2 (by omega)
  refine ⟨fun j => if j = 0 then t0 else if j = 1 then t1 else t2, h1, fun j hj => ?_⟩
  have : j = 0 ∨ j = 1 ∨ j = 2 := by omega
  rcases this with rfl | rfl | rfl
  · exact r0
  · exact r1
  · exact r2
theorem TX3.a {σ : am_S} {ts : Nat → List Int32} (h : TX3 g σ ts) : TXA g σ := ⟨h.1, fun j hj => ⟨_, h.2 j hj⟩⟩
theorem Md_cut {σ : am_S} {ts : Nat → List Int32} {st ct : Nat → Int32} (hc : Ce g σ 95 (MDC th bm gv gm cm fm)) (hT : TX3 g σ ts) (hx : x < 3) (hl : (ts x).length ≤ 65536) (hs : Ce g σ 136 (cI 606 st)) (hct : Ce g σ 138 (cI 3 ct)) (hF : 131072 < F) :
    ∃ σ' st' ct', f_Md_cut F σ 95 (nI x) = some σ' ∧ Ce g σ' 136 (cI 606 st') ∧ Ce g σ' 138 (cI 3 ct') ∧ LNS st' ct' x (ts x) ∧ (∀ j, j ≠ x → ct' j = ct j) ∧ (∀ j, j < 202 * x ∨ 202 * x + 202 ≤ j → st' j = st j) ∧ Fo (fun a => a = 136 ∨ a = 138) g σ g σ' := by
  have z := hc.1
  unfold MDC at z
  have hR := hT.2 x hx
  have hat := hT.at hx
  have m1 := hs.1
  have m2 := hct.1
  have ea : 202 * nI x = nI (202 * x) := nI_mul 202 x
  have s1 := sI_of (v := 0) m1 (by omega) (show 202 * x < 606 by omega) (by omega)
  generalize hσ1 : am_put σ 136 (cI 606 (uf st (202 * x) 0)) = σ1 at s1
  have w1 : Fo (fun a => a = 136 ∨ a = 138) g σ g σ1 := hσ1 ▸ (Fo.refl _ _ _).put fun _ => by rw [hs.2.1]; exact Or.inl rfl
  have c1 : Ce g σ1 136 (cI 606 (uf st (202 * x) 0)) := ⟨at_top hσ1, hs.2.1, by rw [← hσ1]; exact hs.2.2⟩
  have d1 : Ce g σ1 138 (cI 3 ct) := ⟨at_ne hσ1 (by omega) m2, hct.2.1, by rw [← hσ1]; exact hct.2.2⟩
  have s2 := sI_of (v := -1) d1.1 (by omega) hx (by omega)
  generalize hσ2 : am_put σ1 138 (cI 3 (uf ct x (-1))) = σ2 at s2
  have w2 : Fo (fun a => a = 136 ∨ a = 138) g σ1 g σ2 := hσ2 ▸ (Fo.refl _ _ _).put fun _ => by rw [d1.2.1]; exact Or.inr rfl
  have c2 : Ce g σ2 136 (cI 606 (uf st (202 * x) 0)) := ⟨at_ne hσ2 (by omega) c1.1, c1.2.1, by rw [← hσ2]; exact c1.2.2⟩
  have d2 : Ce g σ2 138 (cI 3 (uf ct x (-1))) := ⟨at_top hσ2, d1.2.1, by rw [← hσ2]; exact d1.2.2⟩
  have W := w1.trans w2
  have hc1 := hc.fo w1 (by omega)
  have z1 := hc1.1
  unfold MDC at z1
  have hlr := lcn_le (ts x)
  obtain ⟨σ', st', ct', q1, q2, q3, q4, q5, q6, q7⟩ := Md_cutLoop (F := F) (r := 130 + 2 * x) hx hl (Ro_by hR) F 0 [] σ2 _ _ (hc.fo W (by omega)) (hR.fo W (by omega)) (by omega) (by omega) c2 d2 (uf_same _ _ _) (by simp) (Nat.zero_le _) (Nat.zero_le _) (fun _ => rfl) (by rw [show sl ([] : List (List Int32)) = 0 from rfl, slB_nil]; rfl) (by simp) (fun k hk => by
    have : k = 0 := by simpa using hk
    subst this
    rw [Nat.add_zero, uf_same]; rfl) (by omega)
  refine ⟨σ', st', ct', ?_, q2, q3, q4, fun j hj => by rw [q5 j hj, uf_ne hj], fun j hj => by rw [q6 j hj, uf_ne (by omega)], W.trans q7⟩
  unfold f_Md_cut
  rw [am_ck_of z, gA_of z (by rfl), Option.bind_some, hat, Option.bind_some, gA_of z (by rfl), Option.bind_some, ea, s1, Option.bind_some, gA_of z1 (by rfl), Option.bind_some, s2, Option.bind_some]
  exact q1
end CT
