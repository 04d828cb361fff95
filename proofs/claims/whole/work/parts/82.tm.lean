/-! ===== L3: TextMerger: a whole TEXT ===== -/
section TM
variable {o bl F x y : Nat} {B : List (List Int32)} {t : Option Nat}
abbrev TbS (o : Nat) : Nat → Prop := fun a => a = o ∨ a = o + 4 ∨ a = o + 5 ∨ a = o + 6 ∨ a = o + 7
theorem tOK_some {x : Nat} (h : x < B.length) : tOK B (some x) := fun k hk => by cases hk; exact h
theorem lnT_some {x : Nat} (h : x < B.length) : lnT B (some x) = tln B[x] := by rw [lnT, bT_some h]
theorem PaC.fr {σ σ1 : am_S} {a : Nat} {q i j : Int32} {S : Nat → Prop} (h : PaC σ a bl q i j) (hf : Fr S σ σ1) (hd : ¬ S a) : PaC σ1 a bl q i j := hf.at hd h
theorem TmA.cf {σ : am_S} {T : List Int32} {cf : Bool} (h : TmA σ o bl T cf) (h8 : 8 ≤ o) : ∃ σ', am_pZ σ 7 9 o 1 = some σ' ∧ TmA σ' o bl T true ∧ Fr (TaS o) σ σ' := by
  obtain ⟨tx, h0, h4, h5⟩ := h
  unfold TmC at h0
  simp (disch := first | omega | (simp only [List.length_cons, List.length_nil] <;> omega)) only [sx_ck, xk_s, sx_gI, sx_gA, xg_s, xi_s, xa_s, List.getElem?_cons_zero, List.getElem?_cons_succ, sx_lI, sx_lA, xl_s, xl_v, sx_pI, sx_pA, xp_s, List.set_cons_zero, List.set_cons_succ, sx_sI, sx_sB, sx_sZ, sx_sS, xs_s, sx_cp, xc_s, put_at, put_ne, new_at, new_ne, Option.bind_some, am_b2, sx_len, xn_s, sx_pZ1, h0]
  exact ⟨_, rfl, ⟨tx, by unfold TmC; simp (disch := omega) only [put_at, put_ne, new_at, new_ne]; rfl, by simp (disch := omega) only [put_at, put_ne, new_at, new_ne, h4], h5⟩, (Fr.refl _ _).p (Or.inl rfl)⟩
theorem Tm_addPart {σ : am_S} {T : List Int32} {cf : Bool} {i0 j0 i1 j1 i2 j2 : Nat} (h8 : 8 ≤ bl) (hb : bl + 13 ≤ o) (hB : Bl σ bl B) (hm : MkS σ) (h : TmA σ o bl T cf) (ht : tOK B t) (hx : x < B.length) (hy : y < B.length) (hrx : rgh B[x] = false) (hry : rgh B[y] = false)
    (p0 : PaC σ (o + 5) bl (oI t) (nI i0) (nI j0)) (p1 : PaC σ (o + 6) bl (nI x) (nI i1) (nI j1)) (p2 : PaC σ (o + 7) bl (nI y) (nI i2) (nI j2)) (l0 : i0 ≤ j0) (m0 : j0 ≤ (lnT B t).length) (l1 : i1 ≤ j1) (m1 : j1 ≤ (tln B[x]).length) (l2 : i2 ≤ j2) (m2 : j2 ≤ (tln B[y]).length) (hF : 512 < F)
    (hT : T.length + sl (slc (tln B[x]) i1 j1) + sl (slc (tln B[y]) i2 j2) + 38 ≤ 65536) :
    ∃ σ', f_Tm_addPart F σ o = some σ' ∧ TmA σ' o bl (T ++ (prtT (slc (lnT B t) i0 j0) (slc (tln B[x]) i1 j1) (slc (tln B[y]) i2 j2)).1) (cf || (prtT (slc (lnT B t) i0 j0) (slc (tln B[x]) i1 j1) (slc (tln B[y]) i2 j2)).2) ∧ Fr (TaS o) σ σ' := by
  have a1 := Pa_isAs (F := F) (t := some x) (u := t) hB (tOK_some hx) ht p1 p0 l1 (by rw [lnT_some hx]; exact m1) l0 m0 hF
  have a2 := Pa_isAs (F := F) (t := some y) (u := t) hB (tOK_some hy) ht p2 p0 l2 (by rw [lnT_some hy]; exact m2) l0 m0 hF
  have a3 := Pa_isAs (F := F) (t := some y) (u := some x) hB (tOK_some hy) (tOK_some hx) p2 p1 l2 (by rw [lnT_some hy]; exact m2) l1 (by rw [lnT_some hx]; exact m1) hF
  rw [lnT_some hx] at a1 a3
  rw [lnT_some hy] at a2 a3
  have f1 := Pa_first (F := F) hB p1 hx hrx (by omega)
  have f2 := Pa_first (F := F) hB p2 hy hry (by omega)
  have g1 := Pa_behind (F := F) hB p1 hx hrx m1
  have g2 := Pa_behind (F := F) hB p2 hy hry m2
  have h' := h
  obtain ⟨tx, h0, h4, h5⟩ := h
  unfold TmC at h0
  unfold f_Tm_addPart
  simp (disch := first | omega | (simp only [List.length_cons, List.length_nil] <;> omega)) only [sx_ck, xk_s, sx_gI, sx_gA, xg_s, xi_s, xa_s, List.getElem?_cons_zero, List.getElem?_cons_succ, sx_lI, sx_lA, xl_s, xl_v, sx_pI, sx_pA, xp_s, List.set_cons_zero, List.set_cons_succ, sx_sI, sx_sB, sx_sZ, sx_sS, xs_s, sx_cp, xc_s, put_at, put_ne, new_at, new_ne, Option.bind_some, am_b2, sx_len, xn_s, h0, a1, a2, a3]
  simp only [bo_0, decide_eq_false_iff_not]
  have ours : ∃ σ', f_Tm_addPart_j63 F o σ = some σ' ∧ TmA σ' o bl (T ++ (slc (tln B[x]) i1 j1).flatten) cf ∧ Fr (TaS o) σ σ' := by
    unfold f_Tm_addPart_j63
    simp (disch := first | omega | (simp only [List.length_cons, List.length_nil] <;> omega)) only [sx_ck, xk_s, sx_gI, sx_gA, xg_s, xi_s, xa_s, List.getElem?_cons_zero, List.getElem?_cons_succ, sx_lI, sx_lA, xl_s, xl_v, sx_pI, sx_pA, xp_s, List.set_cons_zero, List.set_cons_succ, sx_sI, sx_sB, sx_sZ, sx_sS, xs_s, sx_cp, xc_s, put_at, put_ne, new_at, new_ne, Option.bind_some, am_b2, sx_len, xn_s, h0, f1, g1]
    obtain ⟨σ', q1, q2, q3⟩ := Tm_addLines (F := F) h8 hb hB h' hx hrx l1 (by omega)
    rw [q1]
    exact ⟨σ', rfl, q2, q3⟩
  unfold prtT
  by_cases c1 : slc (tln B[x]) i1 j1 = slc (lnT B t) i0 j0
  · rw [if_neg (by simpa using c1), if_pos c1, f2, Option.bind_some, g2, Option.bind_some]
    obtain ⟨σ', q1, q2, q3⟩ := Tm_addLines (F := F) h8 hb hB h' hy hry l2 (by omega)
    rw [q1]
    exact ⟨σ', rfl, by rw [Bool.or_false]; exact q2, q3⟩
  · rw [if_pos c1, if_neg c1]
    by_cases c2 : slc (tln B[y]) i2 j2 = slc (lnT B t) i0 j0
    · rw [if_neg (by simpa using c2), if_pos (Or.inl c2), Bool.or_false]
      exact ours
    · rw [if_pos c2]
      by_cases c3 : slc (tln B[y]) i2 j2 = slc (tln B[x]) i1 j1
      · rw [if_neg (by simpa using c3), if_pos (Or.inr c3), Bool.or_false]
        exact ours
      · rw [if_pos c3, if_neg (by rintro (z | z); exact c2 z; exact c3 z), Bool.or_true]
        obtain ⟨n1, n2, n3⟩ := mk_len
        obtain ⟨k1, k2⟩ := mk_end
        have s1 := sl_flat (slc (tln B[x]) i1 j1)
        have s2 := sl_flat (slc (tln B[y]) i2 j2)
        have s3 := endd_len (slc (tln B[x]) i1 j1).flatten
        have s4 := endd_len (slc (tln B[y]) i2 j2).flatten
        have nt : ∀ τ : am_S, Fr (TaS o) σ τ → MkS τ ∧ Bl τ bl B ∧ PaC τ (o + 6) bl (nI x) (nI i1) (nI j1) ∧ PaC τ (o + 7) bl (nI y) (nI i2) (nI j2) := fun τ hf => ⟨hm.fr hf fun a ha => by omega, hB.fr hf fun a _ _ => by omega, hf.at (by omega) p1, hf.at (by omega) p2⟩
        obtain ⟨σ1, e1, t1, w1⟩ := h'.cf (by omega)
        obtain ⟨σ2, e2, t2, w2⟩ := Tm_addMark (F := F) (i := 2) (by omega) (by decide) t1 (nt _ w1).1 (by omega) hF
        have W2 := w1.trans w2
        obtain ⟨-, B2, P2, -⟩ := nt _ W2
        obtain ⟨σ3, e3, t3, w3⟩ := Tm_addLines (F := F) h8 hb B2 t2 hx hrx l1 (by rw [List.length_append]; omega)
        have W3 := W2.trans w3
        obtain ⟨σ4, e4, t4, w4⟩ := Tm_endLine (F := F) (by omega) t3 (by simp only [List.length_append]; omega)
        have W4 := W3.trans w4
        rw [endd_app k1] at t4
        obtain ⟨M4, -⟩ := nt _ W4
        obtain ⟨σ5, e5, t5, w5⟩ := Tm_addMark (F := F) (i := 3) (by omega) (by decide) t4 M4 (by simp only [List.length_append]; omega) hF
        have W5 := W4.trans w5
        obtain ⟨-, B5, -, P5⟩ := nt _ W5
        obtain ⟨σ6, e6, t6, w6⟩ := Tm_addLines (F := F) h8 hb B5 t5 hy hry l2 (by simp only [List.length_append]; omega)
        have W6 := W5.trans w6
        obtain ⟨σ7, e7, t7, w7⟩ := Tm_endLine (F := F) (by omega) t6 (by simp only [List.length_append]; omega)
        have W7 := W6.trans w7
        rw [endd_app k2] at t7
        obtain ⟨M7, -⟩ := nt _ W7
        obtain ⟨σ8, e8, t8, w8⟩ := Tm_addMark (F := F) (i := 4) (by omega) (by decide) t7 M7 (by simp only [List.length_append]; omega) hF
        have F2 := Pa_first (F := F) B2 P2 hx hrx (by omega)
        have G2 := Pa_behind (F := F) B2 P2 hx hrx m1
        have F5 := Pa_first (F := F) B5 P5 hy hry (by omega)
        have G5 := Pa_behind (F := F) B5 P5 hy hry m2
        have c2 : xa (xg (σ2.2.2 o) 7 2) = some (o + 6) := by obtain ⟨_, z, -⟩ := t2; exact gA_of z rfl
        have c5 : xa (xg (σ5.2.2 o) 7 3) = some (o + 7) := by obtain ⟨_, z, -⟩ := t5; exact gA_of z rfl
        refine ⟨σ8, ?_, by simpa only [List.append_assoc] using t8, W7.trans w8⟩
        rw [e1, Option.bind_some, e2, Option.bind_some, c2, Option.bind_some, F2, Option.bind_some, Option.bind_some, G2, Option.bind_some, e3, Option.bind_some, e4, Option.bind_some, e5, Option.bind_some, c5, Option.bind_some, F5, Option.bind_some, Option.bind_some, G5, Option.bind_some, e6, Option.bind_some, e7, Option.bind_some, e8, Option.bind_some]
/-- how it stands before LINE k of base -/
def StI (σ : am_S) (o bl : Nat) (t : Option Nat) (x y : Nat) (s : MSt) : Prop := TmA σ o bl s.1 s.2.1 ∧ (∃ j, PaC σ (o + 5) bl (oI t) (nI s.2.2.1) j) ∧ (∃ j, PaC σ (o + 6) bl (nI x) (nI s.2.2.2.1) j) ∧ (∃ j, PaC σ (o + 7) bl (nI y) (nI s.2.2.2.2) j)
theorem Pa_reach {σ : am_S} {a : Nat} {q i j : Int32} (h8 : 8 ≤ a) (h : PaC σ a bl q i j) (v : Int32) : ∃ σ', f_Pa_reachTo F σ a v = some σ' ∧ PaC σ' a bl q i v ∧ Fr (fun b => b = a) σ σ' := by
  unfold PaC at h
  unfold f_Pa_reachTo
  simp (disch := first | omega | (simp only [List.length_cons, List.length_nil] <;> omega)) only [sx_ck, xk_s, sx_gI, sx_gA, xg_s, xi_s, xa_s, List.getElem?_cons_zero, List.getElem?_cons_succ, sx_lI, sx_lA, xl_s, xl_v, sx_pI, sx_pA, xp_s, List.set_cons_zero, List.set_cons_succ, sx_sI, sx_sB, sx_sZ, sx_sS, xs_s, sx_cp, xc_s, put_at, put_ne, new_at, new_ne, Option.bind_some, am_b2, sx_len, xn_s, h]
  exact ⟨_, rfl, put_at _ _ _, (Fr.refl _ _).p rfl⟩
theorem Pa_go {σ : am_S} {a : Nat} {q i : Int32} {j : Nat} (h8 : 8 ≤ a) (h : PaC σ a bl q i (nI j)) : ∃ σ', f_Pa_goBehindStable F σ a = some σ' ∧ PaC σ' a bl q (nI (j + 1)) (nI j) ∧ Fr (fun b => b = a) σ σ' := by
  unfold PaC at h
  unfold f_Pa_goBehindStable
  simp (disch := first | omega | (simp only [List.length_cons, List.length_nil] <;> omega)) only [sx_ck, xk_s, sx_gI, sx_gA, xg_s, xi_s, xa_s, List.getElem?_cons_zero, List.getElem?_cons_succ, sx_lI, sx_lA, xl_s, xl_v, sx_pI, sx_pA, xp_s, List.set_cons_zero, List.set_cons_succ, sx_sI, sx_sB, sx_sZ, sx_sS, xs_s, sx_cp, xc_s, put_at, put_ne, new_at, new_ne, Option.bind_some, am_b2, sx_len, xn_s, h]
  refine ⟨_, rfl, ?_, (Fr.refl _ _).p rfl⟩
  rw [nI_1]
  exact put_at _ _ _
theorem Pa_end {σ : am_S} {a : Nat} {u : Option Nat} {i j : Int32} (h8 : 8 ≤ a) (hB : Bl σ bl B) (hu : tOK B u) (h : PaC σ a bl (oI u) i j) : ∃ σ', f_Pa_reachToEnd F σ a = some σ' ∧ PaC σ' a bl (oI u) i (nI (lnT B u).length) ∧ Fr (fun b => b = a) σ σ' := by
  have c := Bl_lineCountT (F := F) hB hu
  unfold PaC at h
  unfold f_Pa_reachToEnd
  simp (disch := first | omega | (simp only [List.length_cons, List.length_nil] <;> omega)) only [sx_ck, xk_s, sx_gI, sx_gA, xg_s, xi_s, xa_s, List.getElem?_cons_zero, List.getElem?_cons_succ, sx_lI, sx_lA, xl_s, xl_v, sx_pI, sx_pA, xp_s, List.set_cons_zero, List.set_cons_succ, sx_sI, sx_sB, sx_sZ, sx_sS, xs_s, sx_cp, xc_s, put_at, put_ne, new_at, new_ne, Option.bind_some, am_b2, sx_len, xn_s, h, c]
  exact ⟨_, rfl, put_at _ _ _, (Fr.refl _ _).p rfl⟩
theorem gA_TmA {σ : am_S} {T : List Int32} {cf : Bool} (h : TmA σ o bl T cf) : am_gA σ 7 1 o = some (o + 5) ∧ am_gA σ 7 2 o = some (o + 6) ∧ am_gA σ 7 3 o = some (o + 7) ∧ am_gA σ 7 5 o = some (o + 2) ∧ am_gA σ 7 6 o = some (o + 3) := by
  obtain ⟨_, z, -⟩ := h
  exact ⟨gA_of z rfl, gA_of z rfl, gA_of z rfl, gA_of z rfl, gA_of z rfl⟩
theorem TmA.fr {σ σ1 : am_S} {T : List Int32} {cf : Bool} {S : Nat → Prop} (h : TmA σ o bl T cf) (hf : Fr S σ σ1) (hd : ¬ S o) (hd' : ¬ S (o + 4)) : TmA σ1 o bl T cf := by
  obtain ⟨tx, h1, h2, h3⟩ := h
  exact ⟨tx, hf.at hd h1, hf.at hd' h2, h3⟩
theorem Tm_stable (h8 : 8 ≤ bl) (hb : bl + 13 ≤ o) (ht : tOK B t) (hx : x < B.length) (hy : y < B.length) (hrx : rgh B[x] = false) (hry : rgh B[y] = false) (hF : 512 < F) {op tp : Nat → Int32} (hop : ∀ k, k < (lnT B t).length → op k = oI ((prL (lnT B t) (tln B[x]) 0).getD k none)) (htp : ∀ k, k < (lnT B t).length → tp k = oI ((prL (lnT B t) (tln B[y]) 0).getD k none))
    (hlx : B[x].length ≤ 4096) (hly : B[y].length ≤ 4096) : ∀ (m k : Nat) (σ : am_S), Bl σ bl B → MkS σ → σ.2.2 (o + 2) = some (cI 200 op) → σ.2.2 (o + 3) = some (cI 200 tp) → StI σ o bl t x y (mall (lnT B t) (tln B[x]) (tln B[y]) k) → k ≤ (lnT B t).length → (lnT B t).length - k < m →
    ∃ σ', f_Tm_addStableLines_l2 F o (nI (lnT B t).length) m (nI k) σ = some σ' ∧ StI σ' o bl t x y (mall (lnT B t) (tln B[x]) (tln B[y]) (lnT B t).length) ∧ Fr (TbS o) σ σ' := by
  have hlt := lnT_len (B := B) t
  have hl1 : (tln B[x]).length ≤ 200 := by rw [tln_len]; exact lcn_le _
  have hl2 : (tln B[y]).length ≤ 200 := by rw [tln_len]; exact lcn_le _
  intro m
  induction m with
  | zero => intro k _ _ _ _ _ _ _ h; omega
  | succ m ih =>
    intro k σ hB hm ho2 ho3 hI hk hkm
    rw [f_Tm_addStableLines_l2]
    by_cases hc : (lnT B t).length ≤ k
    · have e : k = (lnT B t).length := by omega
      subst e
      rw [if_pos (nI_le hc (by omega))]
      exact ⟨σ, rfl, hI, Fr.refl _ _⟩
    · rw [if_neg (nI_ge (by omega) (by omega))]
      have hk' : k < (lnT B t).length := by omega
      obtain ⟨I1, I2, I3, I4, I5, I6⟩ := mall_in (lnT B t) (tln B[x]) (tln B[y]) k hk
      have hI' := hI
      obtain ⟨hA, ⟨q0, P0⟩, ⟨q1, P1⟩, ⟨q2, P2⟩⟩ := hI
      have hms := mall_succ (lnT B t) (tln B[x]) (tln B[y]) k
      generalize hS : mall (lnT B t) (tln B[x]) (tln B[y]) k = s at *
      obtain ⟨-, -, -, gA5, gA6⟩ := gA_TmA hA
      have e5 := hop k hk'
      have e6 := htp k hk'
      rw [gA5, Option.bind_some, lI_of ho2 (by omega) (by omega), Option.bind_some, gA6, Option.bind_some, lI_of ho3 (by omega) (by omega), Option.bind_some, e5, e6]
      have keep : mstep (lnT B t) (tln B[x]) (tln B[y]) s k = s → ∃ σ', f_Tm_addStableLines_l2 F o (nI (lnT B t).length) m (nI k + 1) σ = some σ' ∧ StI σ' o bl t x y (mall (lnT B t) (tln B[x]) (tln B[y]) (lnT B t).length) ∧ Fr (TbS o) σ σ' := by
        intro z
        rw [z] at hms
        rw [nI_1]
        exact ih (k + 1) σ hB hm ho2 ho3 (by rw [hms]; exact hI') (by omega) (by omega)
      cases hi : (prL (lnT B t) (tln B[x]) 0).getD k none with
      | none =>
        rw [if_pos (show oI none < 0 by decide)]
        exact keep (by unfold mstep; rw [hi])
      | some i =>
        obtain ⟨u1, u2, u3⟩ := prL_get hi
        rw [if_neg (show ¬ oI (some i) < 0 from nI_pos (by omega))]
        cases hj : (prL (lnT B t) (tln B[y]) 0).getD k none with
        | none =>
          rw [if_pos (show oI none < 0 by decide)]
          exact keep (by unfold mstep; rw [hi, hj])
        | some j =>
          obtain ⟨v1, v2, v3⟩ := prL_get hj
          rw [if_neg (show ¬ oI (some j) < 0 from nI_pos (by omega))]
          have w1 := I4 k i (Nat.le_refl _) hi
          have w2 := I5 k j (Nat.le_refl _) hj
          have b1 := slc_sl (X := tln B[x]) w1
          have b2 := slc_sl (X := tln B[y]) w2
          have b3 := max_sl hrx i
          have b4 := max_sl hry j
          have b5 := max_sl hrx (i + 1)
          have b6 := sl_take_succ u2
          have b7 := prtT_len (slc (lnT B t) s.2.2.1 k) (slc (tln B[x]) s.2.2.2.1 i) (slc (tln B[y]) s.2.2.2.2 j)
          -- reach
          obtain ⟨σ1, r1, R1, fr1⟩ := Pa_reach (F := F) (by omega) P0 (nI k)
          have A1 := hA.fr fr1 (by omega) (by omega)
          have P1' := P1.fr fr1 (by omega)
          have P2' := P2.fr fr1 (by omega)
          obtain ⟨σ2, r2, R2, fr2⟩ := Pa_reach (F := F) (by omega) P1' (nI i)
          have A2 := A1.fr fr2 (by omega) (by omega)
          have P0' := R1.fr fr2 (by omega)
          have P2'' := P2'.fr fr2 (by omega)
          obtain ⟨σ3, r3, R3, fr3⟩ := Pa_reach (F := F) (by omega) P2'' (nI j)
          have A3 := A2.fr fr3 (by omega) (by omega)
          have P0'' := P0'.fr fr3 (by omega)
          have P1'' := R2.fr fr3 (by omega)
          have W3 : Fr (TbS o) σ σ3 := (fr1.mono fun a ha => by omega).trans ((fr2.mono fun a ha => by omega).trans (fr3.mono fun a ha => by omega))
          have B3 := hB.fr W3 fun a _ _ => by omega
          have M3 := hm.fr W3 fun a _ => by omega
          obtain ⟨σ4, r4, A4, fr4⟩ := Tm_addPart (F := F) h8 hb B3 M3 A3 ht hx hy hrx hry P0'' P1'' R3 I1 hk w1 (by omega) w2 (by omega) hF (by omega)
          have W4 : Fr (TbS o) σ σ4 := W3.trans (fr4.mono fun a ha => by omega)
          have B4 := hB.fr W4 fun a _ _ => by omega
          have M4 := hm.fr W4 fun a _ => by omega
          have P14 := P1''.fr fr4 (by omega)
          have g4 := Pa_behind (F := F) B4 P14 hx hrx (by omega)
          have s4 := Pa_stable (F := F) B4 P14 hx hrx u2
          have eS : slc (tln B[x]) i (i + 1) = [(tln B[x])[i]] := by
            unfold slc
            rw [List.take_succ_eq_append_getElem u2, List.drop_append_of_le_length (by simp; omega), List.drop_of_length_le (by simp; omega), List.nil_append]
          obtain ⟨σ5, r5, A5, fr5⟩ := Tm_addLines (F := F) (i := i) (j := i + 1) h8 hb B4 A4 hx hrx (by omega) (by
            rw [eS]
            have : sl [(tln B[x])[i]] = (tln B[x])[i].length := by simp [sl]
            rw [this, List.length_append]
            omega)
          have P05 := (P0''.fr fr4 (by omega)).fr fr5 (by omega)
          have P15 := P14.fr fr5 (by omega)
          have P25 := (R3.fr fr4 (by omega)).fr fr5 (by omega)
          obtain ⟨σ6, r6, R6, fr6⟩ := Pa_go (F := F) (by omega) P05
          have A6 := A5.fr fr6 (by omega) (by omega)
          obtain ⟨σ7, r7, R7, fr7⟩ := Pa_go (F := F) (by omega) (P15.fr fr6 (by omega))
          have A7 := A6.fr fr7 (by omega) (by omega)
          obtain ⟨σ8, r8, R8, fr8⟩ := Pa_go (F := F) (by omega) ((P25.fr fr6 (by omega)).fr fr7 (by omega))
          have A8 := A7.fr fr8 (by omega) (by omega)
          have W8 : Fr (TbS o) σ σ8 := W4.trans ((fr5.mono fun a ha => by omega).trans ((fr6.mono fun a ha => by omega).trans ((fr7.mono fun a ha => by omega).trans (fr8.mono fun a ha => by omega))))
          obtain ⟨σ', i1, i2, i3⟩ := ih (k + 1) σ8 (hB.fr W8 fun a _ _ => by omega) (hm.fr W8 fun a _ => by omega) (W8.at (by omega) ho2) (W8.at (by omega) ho3) (by
            rw [hms]
            unfold mstep
            rw [hi, hj]
            have e0 : (lnT B t).getD k [] = (slc (tln B[x]) i (i + 1)).flatten := by
              rw [eS]
              simp [hk', u3]
            refine ⟨?_, ⟨_, (R6.fr fr7 (by omega)).fr fr8 (by omega)⟩, ⟨_, R7.fr fr8 (by omega)⟩, ⟨_, R8⟩⟩
            simp only [e0]
            exact A8) (by omega) (by omega)
          refine ⟨σ', ?_, i2, W8.trans i3⟩
          rw [(gA_TmA hA).1, Option.bind_some, r1, Option.bind_some, (gA_TmA A1).2.1, Option.bind_some, (gA_TmA A1).2.2.2.1, Option.bind_some, lI_of (fr1.at (by omega) ho2) (by omega) (by omega), Option.bind_some, e5, hi, oI_some, r2, Option.bind_some, (gA_TmA A2).2.2.1, Option.bind_some, (gA_TmA A2).2.2.2.2, Option.bind_some, lI_of (fr2.at (by omega) (fr1.at (by omega) ho3)) (by omega) (by omega), Option.bind_some, e6, hj, oI_some, r3, Option.bind_some, r4, Option.bind_some, (gA_TmA A4).2.1, Option.bind_some, g4, Option.bind_some, Option.bind_some, s4, Option.bind_some, r5, Option.bind_some, (gA_TmA A5).1, Option.bind_some, r6, Option.bind_some, (gA_TmA A6).2.1, Option.bind_some, r7, Option.bind_some, (gA_TmA A7).2.2.1, Option.bind_some, r8, Option.bind_some, nI_1]
          exact i1
def Tm (σ : am_S) (o bl : Nat) : Prop := (∃ n cf tl, TmC σ o bl n cf tl) ∧ (∃ lg, σ.2.2 (o + 1) = some (cI 40401 lg)) ∧ (∃ p, σ.2.2 (o + 2) = some (cI 200 p)) ∧ (∃ p, σ.2.2 (o + 3) = some (cI 200 p)) ∧ (∃ tx, σ.2.2 (o + 4) = some (cB 65536 tx)) ∧ (∃ q i j, PaC σ (o + 5) bl q i j) ∧ (∃ q i j, PaC σ (o + 6) bl q i j) ∧ (∃ q i j, PaC σ (o + 7) bl q i j)
abbrev TmS (o : Nat) : Nat → Prop := fun a => o ≤ a ∧ a ≤ o + 7
theorem Tm.fr {σ σ1 : am_S} {S : Nat → Prop} (h : Tm σ o bl) (hf : Fr S σ σ1) (hd : ∀ a, o ≤ a → a ≤ o + 7 → ¬ S a) : Tm σ1 o bl := by
  obtain ⟨⟨n, cf, tl, h0⟩, ⟨lg, h1⟩, ⟨p, h2⟩, ⟨p', h3⟩, ⟨tx, h4⟩, ⟨q, i, j, h5⟩, ⟨q', i', j', h6⟩, ⟨q'', i'', j'', h7⟩⟩ := h
  exact ⟨⟨n, cf, tl, hf.at (hd _ (by omega) (by omega)) h0⟩, ⟨lg, hf.at (hd _ (by omega) (by omega)) h1⟩, ⟨p, hf.at (hd _ (by omega) (by omega)) h2⟩, ⟨p', hf.at (hd _ (by omega) (by omega)) h3⟩, ⟨tx, hf.at (hd _ (by omega) (by omega)) h4⟩, ⟨q, i, j, hf.at (hd _ (by omega) (by omega)) h5⟩, ⟨q', i', j', hf.at (hd _ (by omega) (by omega)) h6⟩, ⟨q'', i'', j'', hf.at (hd _ (by omega) (by omega)) h7⟩⟩
theorem Tm_start {σ : am_S} {n cf tl : Int32} {tx : Nat → Int32} (h8 : 8 ≤ o) (h : TmC σ o bl n cf tl) (h4 : σ.2.2 (o + 4) = some (cB 65536 tx)) : ∃ σ', f_Tm_startText F σ o = some σ' ∧ TmA σ' o bl [] false ∧ Fr (fun a => a = o) σ σ' := by
  unfold TmC at h
  unfold f_Tm_startText
  simp (disch := first | omega | (simp only [List.length_cons, List.length_nil] <;> omega)) only [sx_ck, xk_s, sx_gI, sx_gA, xg_s, xi_s, xa_s, List.getElem?_cons_zero, List.getElem?_cons_succ, sx_lI, sx_lA, xl_s, xl_v, sx_pI, sx_pA, xp_s, List.set_cons_zero, List.set_cons_succ, sx_sI, sx_sB, sx_sZ, sx_sS, xs_s, sx_cp, xc_s, put_at, put_ne, new_at, new_ne, Option.bind_some, am_b2, sx_len, xn_s, sx_pZ0, h]
  exact ⟨_, rfl, ⟨tx, by unfold TmC; simp (disch := omega) only [put_at, put_ne, new_at, new_ne]; rfl, by simp (disch := omega) only [put_at, put_ne, new_at, new_ne, h4], rfl⟩, (((Fr.refl (fun a => a = o) _).p rfl).p rfl).p rfl⟩
theorem Pa_beg {σ : am_S} {a : Nat} {q i j : Int32} (h8 : 8 ≤ a) (h : PaC σ a bl q i j) (v : Int32) : ∃ σ', f_Pa_begin F σ a v = some σ' ∧ PaC σ' a bl v (nI 0) (nI 0) ∧ Fr (fun b => b = a) σ σ' := by
  unfold PaC at h
  unfold f_Pa_begin
  simp (disch := first | omega | (simp only [List.length_cons, List.length_nil] <;> omega)) only [sx_ck, xk_s, sx_gI, sx_gA, xg_s, xi_s, xa_s, List.getElem?_cons_zero, List.getElem?_cons_succ, sx_lI, sx_lA, xl_s, xl_v, sx_pI, sx_pA, xp_s, List.set_cons_zero, List.set_cons_succ, sx_sI, sx_sB, sx_sZ, sx_sS, xs_s, sx_cp, xc_s, put_at, put_ne, new_at, new_ne, Option.bind_some, am_b2, sx_len, xn_s, h]
  exact ⟨_, rfl, put_at _ _ _, (((Fr.refl (fun b => b = a) _).p rfl).p rfl).p rfl⟩
theorem Tm_rough {σ : am_S} (h8 : 8 ≤ bl) (hb : bl + 13 ≤ o) (hB : Bl σ bl B) (hx : x < B.length) (hlx : B[x].length ≤ 4096) {T : List Int32} {cf : Bool} (h : TmA σ o bl T cf) :
    ∃ σ', f_Tm_mergeTexts_j121 F o (nI x) σ = some σ' ∧ TmA σ' o bl B[x] true ∧ Fr (TaS o) σ σ' := by
  obtain ⟨tx, h0, h4, -⟩ := id h
  obtain ⟨σ1, r1, A1, fr1⟩ := Tm_start (F := F) (by omega) h0 h4
  have B1 := hB.fr fr1 fun a _ _ => by omega
  have s1 := Bl_start (F := F) B1 (k := x) (by omega)
  have l1 := Bl_len (F := F) B1 hx
  obtain ⟨by_, b1, b2⟩ := Bl_slice B1
  obtain ⟨b3, b4⟩ := b2 x hx
  obtain ⟨σ2, r2, A2, fr2⟩ := Tm_addBytes (F := F) (s := sl (B.take x)) (n := B[x].length) h8 hb B1 A1 b1 b3 (by simp; omega)
  rw [b4, List.nil_append] at A2
  obtain ⟨σ3, r3, A3, fr3⟩ := A2.cf (by omega)
  refine ⟨σ3, ?_, A3, (fr1.mono fun a ha => Or.inl ha).trans (fr2.trans fr3)⟩
  have g0 : am_gA σ1 7 0 o = some bl := by obtain ⟨_, z, -⟩ := A1; exact gA_of z rfl
  unfold f_Tm_mergeTexts_j121
  simp only [r1, g0, s1, l1, Option.bind_some, nI_add, r2, r3]
theorem Tm_merge {σ : am_S} (h8 : 8 ≤ bl) (hb : bl + 13 ≤ o) (hB : Bl σ bl B) (hm : MkS σ) (h : Tm σ o bl) (ht : tOK B t) (hx : x < B.length) (hy : y < B.length) (hF : 512 < F) :
    ∃ σ', f_Tm_mergeTexts F σ o (oI t) (nI x) (nI y) = some σ' ∧ Tm σ' o bl ∧ TmA σ' o bl (mrgT (bT B t) B[x] B[y]).1 (mrgT (bT B t) B[x] B[y]).2 ∧ (mrgT (bT B t) B[x] B[y]).1.length ≤ 20000 ∧ Fr (TmS o) σ σ' := by
  have hlx : B[x].length ≤ 4096 ∧ B[y].length ≤ 4096 := by
    obtain ⟨by_, st, ro, fl, lc, wt, ls, ll, lk, lh, lch, -, -, ⟨-, -, w, -⟩, -⟩ := hB
    exact ⟨w _ hx, w _ hy⟩
  have hlt := lnT_len (B := B) t
  have hl1 : (tln B[x]).length ≤ 200 := by rw [tln_len]; exact lcn_le _
  have hl2 : (tln B[y]).length ≤ 200 := by rw [tln_len]; exact lcn_le _
  have hh := h
  obtain ⟨⟨n, cf, tl, h0⟩, ⟨lg, h1⟩, ⟨p, h2⟩, ⟨p', h3⟩, ⟨tx, h4⟩, ⟨q, i, j, h5⟩, ⟨q', i', j', h6⟩, ⟨q'', i'', j'', h7⟩⟩ := h
  obtain ⟨σ1, r1, A1, fr1⟩ := Tm_start (F := F) (by omega) h0 h4
  have B1 := hB.fr fr1 fun a _ _ => by omega
  have M1 := hm.fr fr1 fun a _ => by omega
  have g0 : am_gA σ1 7 0 o = some bl := by obtain ⟨_, z, -⟩ := A1; exact gA_of z rfl
  have R0 := Bl_isRoughT (F := F) B1 ht
  have R1 := Bl_isRough (F := F) B1 hx
  have R2 := Bl_isRough (F := F) B1 hy
  have keepT : ∀ τ : am_S, Fr (TmS o) σ τ → (∀ a, o + 1 ≤ a → a ≤ o + 7 → a ≠ o + 4 → τ.2.2 a = σ.2.2 a) → ∀ T c, TmA τ o bl T c → Tm τ o bl := by
    intro τ _ hk T c hA
    obtain ⟨tx', z0, z4, -⟩ := hA
    exact ⟨⟨_, _, _, z0⟩, ⟨lg, (hk _ (by omega) (by omega) (by omega)).trans h1⟩, ⟨p, (hk _ (by omega) (by omega) (by omega)).trans h2⟩, ⟨p', (hk _ (by omega) (by omega) (by omega)).trans h3⟩, ⟨tx', z4⟩, ⟨q, i, j, (hk _ (by omega) (by omega) (by omega)).trans h5⟩, ⟨q', i', j', (hk _ (by omega) (by omega) (by omega)).trans h6⟩, ⟨q'', i'', j'', (hk _ (by omega) (by omega) (by omega)).trans h7⟩⟩
  have rough : (rgh (bT B t) || rgh B[x] || rgh B[y]) = true → ∃ σ', f_Tm_mergeTexts_j37 F o (oI t) (nI x) (nI y) σ1 = some σ' ∧ Tm σ' o bl ∧ TmA σ' o bl (mrgT (bT B t) B[x] B[y]).1 (mrgT (bT B t) B[x] B[y]).2 ∧ (mrgT (bT B t) B[x] B[y]).1.length ≤ 20000 ∧ Fr (TmS o) σ σ' := by
    intro hr
    obtain ⟨σ2, e2, A2, fr2⟩ := Tm_rough (F := F) h8 hb B1 hx hlx.1 A1
    unfold f_Tm_mergeTexts_j37 f_Tm_mergeTexts_j42 f_Tm_mergeTexts_j109
    rw [if_neg (by decide), if_neg (by decide), e2]
    have e : mrgT (bT B t) B[x] B[y] = (B[x], true) := by unfold mrgT; rw [if_pos hr]
    rw [e]
    have W : Fr (TaS o) σ σ2 := (fr1.mono fun a ha => Or.inl ha).trans fr2
    have W' : Fr (TmS o) σ σ2 := W.mono fun a ha => by rcases ha with z | z <;> exact ⟨by omega, by omega⟩
    exact ⟨σ2, rfl, keepT σ2 W' (fun a _ _ _ => W.2.2 a (by omega)) _ _ A2, A2, by simp only; omega, W'⟩
  unfold f_Tm_mergeTexts
  rw [am_ck_of h0, r1, Option.bind_some, g0, Option.bind_some, R0, Option.bind_some, Option.bind_some, R1, Option.bind_some, Option.bind_some, R2, Option.bind_some]
  simp only [bo_0]
  by_cases c0 : rgh (bT B t) = false
  · rw [if_pos c0]
    by_cases c1 : rgh B[x] = false
    · rw [if_pos c1]
      by_cases c2 : rgh B[y] = false
      · rw [if_pos c2]
        have P5 := PaC.fr h5 fr1 (by omega)
        have P6 := PaC.fr h6 fr1 (by omega)
        have P7 := PaC.fr h7 fr1 (by omega)
        obtain ⟨σ2, r2, P5', fr2⟩ := Pa_beg (F := F) (by omega) P5 (oI t)
        have A2 := A1.fr fr2 (by omega) (by omega)
        obtain ⟨σ3, r3, P6', fr3⟩ := Pa_beg (F := F) (by omega) (P6.fr fr2 (by omega)) (nI x)
        have A3 := A2.fr fr3 (by omega) (by omega)
        obtain ⟨σ4, r4, P7', fr4⟩ := Pa_beg (F := F) (by omega) ((P7.fr fr2 (by omega)).fr fr3 (by omega)) (nI y)
        have A4 := A3.fr fr4 (by omega) (by omega)
        have W4 : Fr (TbS o) σ σ4 := (fr1.mono fun a ha => by omega).trans ((fr2.mono fun a ha => by omega).trans ((fr3.mono fun a ha => by omega).trans (fr4.mono fun a ha => by omega)))
        have B4 := hB.fr W4 fun a _ _ => by omega
        obtain ⟨tx4, z0, z4, z5⟩ := id A4
        obtain ⟨σ5, lg5, op, r5, L5, O5, hop, fr5⟩ := Tm_pair (F := F) (a := o + 2) (t := t) (u := some x) h8 hb (Or.inl rfl) ht (tOK_some hx) hF B4 z0 (W4.at (by omega) h1) (W4.at (by omega) h2)
        have A5 := A4.fr fr5 (by omega) (by omega)
        have B5 := B4.fr fr5 fun a _ _ => by omega
        obtain ⟨tx5, y0, y4, y5⟩ := id A5
        obtain ⟨σ6, lg6, tp, r6, L6, O6, htp, fr6⟩ := Tm_pair (F := F) (a := o + 3) (t := t) (u := some y) h8 hb (Or.inr rfl) ht (tOK_some hy) hF B5 y0 L5 (fr5.at (by omega) (W4.at (by omega) h3))
        have A6 := A5.fr fr6 (by omega) (by omega)
        have B6 := B5.fr fr6 fun a _ _ => by omega
        rw [lnT_some hx] at hop
        rw [lnT_some hy] at htp
        have M6 := ((hm.fr W4 fun a _ => by omega).fr fr5 fun a _ => by omega).fr fr6 fun a _ => by omega
        have lc6 := Bl_lineCountT (F := F) B6 ht
        have O56 := fr6.at (a := o + 2) (by omega) O5
        obtain ⟨σ7, r7, I7, fr7⟩ := Tm_stable (F := F) h8 hb ht hx hy c1 c2 hF hop htp hlx.1 hlx.2 F 0 σ6 B6 M6 O56 O6 ⟨A6, ⟨_, (((P5'.fr fr3 (by omega)).fr fr4 (by omega)).fr fr5 (by omega)).fr fr6 (by omega)⟩, ⟨_, ((P6'.fr fr4 (by omega)).fr fr5 (by omega)).fr fr6 (by omega)⟩, ⟨_, (P7'.fr fr5 (by omega)).fr fr6 (by omega)⟩⟩ (by omega) (by omega)
        obtain ⟨A7, ⟨d0, D0⟩, ⟨d1, D1⟩, ⟨d2, D2⟩⟩ := I7
        obtain ⟨I1, I2, I3, I4, I5, I6⟩ := mall_in (lnT B t) (tln B[x]) (tln B[y]) (lnT B t).length (Nat.le_refl _)
        have em : mrgT (bT B t) B[x] B[y] = mrgL (lnT B t) (tln B[x]) (tln B[y]) := by unfold mrgT; rw [c0, c1, c2]; rfl
        rw [em]
        unfold mrgL
        generalize hS : mall (lnT B t) (tln B[x]) (tln B[y]) (lnT B t).length = s at *
        have B7 := B6.fr fr7 fun a _ _ => by omega
        have M7 := M6.fr fr7 fun a _ => by omega
        obtain ⟨σ8, r8, D0', fr8⟩ := Pa_end (F := F) (u := t) (by omega) B7 ht D0
        have A8 := A7.fr fr8 (by omega) (by omega)
        have B8 := B7.fr fr8 fun a _ _ => by omega
        obtain ⟨σ9, r9, D1', fr9⟩ := Pa_end (F := F) (u := some x) (by omega) B8 (tOK_some hx) (D1.fr fr8 (by omega))
        have A9 := A8.fr fr9 (by omega) (by omega)
        have B9 := B8.fr fr9 fun a _ _ => by omega
        obtain ⟨σa, ra, D2', fra⟩ := Pa_end (F := F) (u := some y) (by omega) B9 (tOK_some hy) ((D2.fr fr8 (by omega)).fr fr9 (by omega))
        have Aa := A9.fr fra (by omega) (by omega)
        have Ba := B9.fr fra fun a _ _ => by omega
        have Ma := ((M7.fr fr8 fun a _ => by omega).fr fr9 fun a _ => by omega).fr fra fun a _ => by omega
        rw [lnT_some hx] at D1'
        rw [lnT_some hy] at D2'
        have m1 := max_sl c1 (tln B[x]).length
        have m2 := max_sl c2 (tln B[y]).length
        have s1 := slc_sl (X := tln B[x]) I2
        have s2 := slc_sl (X := tln B[y]) I3
        have s3 := prtT_len (slc (lnT B t) s.2.2.1 (lnT B t).length) (slc (tln B[x]) s.2.2.2.1 (tln B[x]).length) (slc (tln B[y]) s.2.2.2.2 (tln B[y]).length)
        have D0a := (D0'.fr fr9 (by omega)).fr fra (by omega)
        have D1a := D1'.fr fra (by omega)
        obtain ⟨σb, rb, Ab, frb⟩ := Tm_addPart (F := F) h8 hb Ba Ma Aa ht hx hy c1 c2 D0a D1a D2' I1 (Nat.le_refl _) I2 (Nat.le_refl _) I3 (Nat.le_refl _) hF (by omega)
        have Wb : Fr (TmS o) σ σb := (W4.mono fun a ha => ⟨by omega, by omega⟩).trans ((fr5.mono fun a ha => ⟨by omega, by omega⟩).trans ((fr6.mono fun a ha => ⟨by omega, by omega⟩).trans ((fr7.mono fun a ha => ⟨by omega, by omega⟩).trans ((fr8.mono fun a ha => ⟨by omega, by omega⟩).trans ((fr9.mono fun a ha => ⟨by omega, by omega⟩).trans ((fra.mono fun a ha => ⟨by omega, by omega⟩).trans (frb.mono fun a ha => ⟨by omega, by omega⟩)))))))
        have rest : ∀ a, a = o + 1 ∨ a = o + 2 ∨ a = o + 3 → σb.2.2 a = σ6.2.2 a := fun a ha => by
          rw [frb.2.2 a (by omega), fra.2.2 a (by omega), fr9.2.2 a (by omega), fr8.2.2 a (by omega), fr7.2.2 a (by omega)]
        refine ⟨σb, ?_, ?_, Ab, ?_, Wb⟩
        · unfold f_Tm_mergeTexts_j42
          rw [if_pos rfl, (gA_TmA A1).1, Option.bind_some, r2, Option.bind_some, (gA_TmA A2).2.1, Option.bind_some, r3, Option.bind_some, (gA_TmA A3).2.2.1, Option.bind_some, r4, Option.bind_some, (gA_TmA A4).2.2.2.1, Option.bind_some]
          rw [oI_some] at r5 r6
          have g06 : am_gA σ6 7 0 o = some bl := by obtain ⟨_, z, -⟩ := A6; exact gA_of z rfl
          rw [r5, Option.bind_some, (gA_TmA A5).2.2.2.2, Option.bind_some, r6, Option.bind_some, g06, Option.bind_some, lc6, Option.bind_some]
          unfold f_Tm_addStableLines f_Tm_addLastPart f_Tm_mergeTexts_j109
          obtain ⟨_, k6, -⟩ := id A6
          obtain ⟨_, k7, -⟩ := id A7
          obtain ⟨_, kb, -⟩ := id Ab
          unfold TmC at k6 k7 kb
          rw [am_ck_of k6, ← nI_0, r7, Option.bind_some, am_ck_of k7, (gA_TmA A7).1, Option.bind_some, r8, Option.bind_some, (gA_TmA A8).2.1, Option.bind_some, r9, Option.bind_some, (gA_TmA A9).2.2.1, Option.bind_some, ra, Option.bind_some, rb, Option.bind_some, Option.bind_some, nI_0, if_pos rfl]
          simp (disch := first | omega | (simp only [List.length_cons, List.length_nil] <;> omega)) only [sx_ck, xk_s, sx_gI, sx_gA, xg_s, xi_s, xa_s, List.getElem?_cons_zero, List.getElem?_cons_succ, sx_lI, sx_lA, xl_s, xl_v, sx_pI, sx_pA, xp_s, List.set_cons_zero, List.set_cons_succ, sx_sI, sx_sB, sx_sZ, sx_sS, xs_s, sx_cp, xc_s, put_at, put_ne, new_at, new_ne, Option.bind_some, am_b2, sx_len, xn_s, kb]
          rw [if_pos trivial]
        · obtain ⟨txb, k0, k4, -⟩ := id Ab
          exact ⟨⟨_, _, _, k0⟩, ⟨lg6, (rest _ (Or.inl rfl)).trans L6⟩, ⟨op, (rest _ (Or.inr (Or.inl rfl))).trans O56⟩, ⟨tp, (rest _ (Or.inr (Or.inr rfl))).trans O6⟩, ⟨txb, k4⟩, ⟨_, _, _, D0a.fr frb (by omega)⟩, ⟨_, _, _, D1a.fr frb (by omega)⟩, ⟨_, _, _, D2'.fr frb (by omega)⟩⟩
        · simp only [List.length_append]
          omega
      · rw [if_neg c2]
        exact rough (by simp [c2])
    · rw [if_neg c1]
      exact rough (by simp [c1])
  · rw [if_neg c0]
    exact rough (by simp [c0])
end TM
