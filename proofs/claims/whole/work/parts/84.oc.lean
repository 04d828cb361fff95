/-! ===== L3: Outcomes ===== -/
/-- a record: UNMERGED or not; the three numbers; once it has one: its BLOB, if it is one, and its TEXT -/
abbrev Rc : Type := Bool × Int32 × Int32 × Int32 × Option (Option Nat × List Int32)
def frL : Option (Option Nat × List Int32) → Nat
  | some (none, t) => t.length
  | _ => 0
def frS (L : List Rc) : Nat := (L.map fun r => frL r.2.2.2.2).sum
def uct (L : List Rc) : Nat := (L.map fun r => if r.1 = true then 1 else 0).sum
theorem sum_set {f : Rc → Nat} : ∀ (L : List Rc) (r : Nat) (h : r < L.length) (x : Rc), ((L.set r x).map f).sum + f L[r] = (L.map f).sum + f x
  | [], r, h, x => absurd h (by simp)
  | y :: L, 0, h, x => by simp; omega
  | y :: L, r + 1, h, x => by
    have := sum_set L r (by simpa using h) x (f := f)
    simp only [List.set_cons_succ, List.map_cons, List.sum_cons, List.getElem_cons_succ]
    omega
theorem frS_app (L M : List Rc) : frS (L ++ M) = frS L + frS M := by simp [frS]
theorem uct_app (L M : List Rc) : uct (L ++ M) = uct L + uct M := by simp [uct]
theorem uct_le (L : List Rc) : uct L ≤ L.length := by
  induction L with
  | nil => exact Nat.le_refl _
  | cons x L ih =>
    unfold uct at *
    simp only [List.map_cons, List.sum_cons, List.length_cons]
    split <;> omega
def OcT (bt : Option (Option Nat × List Int32)) (b s n : Int32) (mb : Nat → Int32) (ml : Nat) : Prop := match bt with
  | none => b = -1
  | some (some k, _) => b = nI k
  | some (none, t) => b = -1 ∧ ∃ st, s = nI st ∧ n = nI t.length ∧ st + t.length ≤ ml ∧ sli mb st t.length = t
def OcW (L : List Rc) (un so tb ts tl mb : Nat → Int32) (ml : Nat) : Prop := ∀ r (h : r < L.length), un r = bo L[r].1 ∧ (so (r * 3) = L[r].2.1 ∧ so (r * 3 + 1) = L[r].2.2.1 ∧ so (r * 3 + 2) = L[r].2.2.2.1) ∧ OcT L[r].2.2.2.2 (tb r) (ts r) (tl r) mb ml
def OcR (σ : am_S) (o bl : Nat) (un so tb ts tl mb : Nat → Int32) (ml uc : Int32) : Prop :=
  σ.2.2 o = some (cO 9 [.ref bl, .ref (o + 1), .ref (o + 5), .ref (o + 6), .ref (o + 7), .ref (o + 8), .ref (o + 9), .ref (o + 10), .int ml, .int uc]) ∧ σ.2.2 (o + 5) = some (cZ 400 un) ∧ σ.2.2 (o + 6) = some (cI 1200 so) ∧ σ.2.2 (o + 7) = some (cI 400 tb) ∧ σ.2.2 (o + 8) = some (cI 400 ts) ∧ σ.2.2 (o + 9) = some (cI 400 tl) ∧ σ.2.2 (o + 10) = some (cB 65536 mb)
def Oc (σ : am_S) (o bl : Nat) (Pl : PL) (L : List Rc) : Prop := ∃ un so tb ts tl mb, OcR σ o bl un so tb ts tl mb (nI (frS L)) (nI (uct L)) ∧ OcW L un so tb ts tl mb (frS L) ∧ Pm σ (o + 1) Pl ∧ L.length = Pl.length ∧ frS L ≤ 65536
abbrev OcS (o : Nat) : Nat → Prop := fun a => o ≤ a ∧ a ≤ o + 10
theorem OcR.fr {σ σ1 : am_S} {o bl : Nat} {un so tb ts tl mb : Nat → Int32} {ml uc : Int32} {S : Nat → Prop} (h : OcR σ o bl un so tb ts tl mb ml uc) (hf : Fr S σ σ1) (hd : ∀ a, o ≤ a → a ≤ o + 10 → (a < o + 1 ∨ o + 4 < a) → ¬ S a) : OcR σ1 o bl un so tb ts tl mb ml uc := by
  obtain ⟨h1, h2, h3, h4, h5, h6, h7⟩ := h
  exact ⟨hf.at (hd _ (by omega) (by omega) (by omega)) h1, hf.at (hd _ (by omega) (by omega) (by omega)) h2, hf.at (hd _ (by omega) (by omega) (by omega)) h3, hf.at (hd _ (by omega) (by omega) (by omega)) h4, hf.at (hd _ (by omega) (by omega) (by omega)) h5, hf.at (hd _ (by omega) (by omega) (by omega)) h6, hf.at (hd _ (by omega) (by omega) (by omega)) h7⟩
theorem Oc.fr {σ σ1 : am_S} {o bl : Nat} {Pl : PL} {L : List Rc} {S : Nat → Prop} (h : Oc σ o bl Pl L) (hf : Fr S σ σ1) (hd : ∀ a, o ≤ a → a ≤ o + 10 → ¬ S a) : Oc σ1 o bl Pl L := by
  obtain ⟨un, so, tb, ts, tl, mb, hR, hW, hP, h⟩ := h
  exact ⟨un, so, tb, ts, tl, mb, hR.fr hf fun a h1 h2 _ => hd a h1 h2, hW, hP.fr hf fun a h1 h2 => hd a (by omega) (by omega), h⟩
theorem OcT.mono {bt : Option (Option Nat × List Int32)} {b s n : Int32} {mb mb' : Nat → Int32} {ml ml' : Nat} (h : OcT bt b s n mb ml) (hl : ml ≤ ml') (hm : ∀ st k, st + k ≤ ml → sli mb' st k = sli mb st k) : OcT bt b s n mb' ml' := by
  match bt, h with
  | none, h => exact h
  | some (some k, _), h => exact h
  | some (none, t), h =>
    obtain ⟨h1, st, h2, h3, h4, h5⟩ := h
    exact ⟨h1, st, h2, h3, by omega, by rw [hm st _ h4]; exact h5⟩
section OC
variable {σ : am_S} {o bl F : Nat} {Pl : PL} {L : List Rc}
theorem Oc.len (h : Oc σ o bl Pl L) : L.length ≤ 400 := by
  obtain ⟨un, so, tb, ts, tl, mb, hR, hW, hP, h1, -⟩ := h
  have := hP.lt
  omega
theorem Oc.pm (h : Oc σ o bl Pl L) : Pm σ (o + 1) Pl ∧ L.length = Pl.length := by
  obtain ⟨un, so, tb, ts, tl, mb, hR, hW, hP, h1, -⟩ := h
  exact ⟨hP, h1⟩
theorem Oc_clear (h : Oc σ o bl Pl L) (h8 : 8 ≤ o) : ∃ σ', f_Oc_clear F σ o = some σ' ∧ Oc σ' o bl [] [] ∧ Fr (OcS o) σ σ' := by
  obtain ⟨un, so, tb, ts, tl, mb, hR, hW, hP, h1, h2⟩ := h
  obtain ⟨r1, -⟩ := id hR
  obtain ⟨σ1, q1, q2, q3⟩ := Pm_clear (F := F) hP (by omega)
  have hR1 := hR.fr q3 fun a _ _ z => by omega
  obtain ⟨t1, t2, t3, t4, t5, t6, t7⟩ := hR1
  unfold f_Oc_clear
  simp (disch := first | omega | (simp only [List.length_cons, List.length_nil] <;> omega)) only [sx_ck, xk_s, sx_gI, sx_gA, xg_s, xi_s, xa_s, List.getElem?_cons_zero, List.getElem?_cons_succ, sx_lI, sx_lA, xl_s, xl_v, sx_pI, sx_pA, xp_s, List.set_cons_zero, List.set_cons_succ, sx_sI, sx_sB, sx_sZ, sx_sS, xs_s, sx_cp, xc_s, put_at, put_ne, new_at, new_ne, Option.bind_some, am_b2, sx_len, xn_s, r1, q1, t1]
  generalize hτ : am_put _ _ _ = τ
  have hf : Fr (fun a => a = o) σ1 τ := hτ ▸ ((Fr.refl (fun a => a = o) _).p rfl).p rfl
  refine ⟨τ, rfl, ⟨un, so, tb, ts, tl, mb, ⟨by subst hτ; simp (disch := omega) only [put_at, put_ne, new_at, new_ne] <;> rfl, hf.at (by omega) t2, hf.at (by omega) t3, hf.at (by omega) t4, hf.at (by omega) t5, hf.at (by omega) t6, hf.at (by omega) t7⟩, fun r hr => absurd hr (by simp), q2.fr hf fun a _ _ => by omega, rfl, by simp [frS]⟩, (q3.mono fun a ha => ⟨by omega, by omega⟩).trans (hf.mono fun a ha => ⟨by omega, by omega⟩)⟩
theorem Oc_open {o2 j : Nat} {Q : PL} (h : Oc σ o bl Pl L) (h8 : 8 ≤ o) (hs : Srt Pl) (hQ : Pm σ o2 Q) (hs' : Srt Q) (hj : j < Q.length) (hne : o + 11 ≤ o2 ∨ o2 + 4 ≤ o) (hF : 8192 < F) :
    if (!(fnd Pl Q[j].1).isSome && room Pl Q[j].1) = true then ∃ σ' s0 s1 s2, f_Oc_open F σ o o2 (nI j) = some (nI L.length, σ') ∧ Oc σ' o bl (asgP Pl Q[j].1 (nI L.length)) (L ++ [(false, s0, s1, s2, none)]) ∧ Fr (OcS o) σ σ'
    else ∃ σ', f_Oc_open F σ o o2 (nI j) = some (-1, σ') ∧ Oc σ' o bl Pl L ∧ Fr (OcS o) σ σ' := by
  have hl := h.len
  obtain ⟨un, so, tb, ts, tl, mb, hR, hW, hP, h1, h2⟩ := h
  obtain ⟨r1, -⟩ := id hR
  have hz := Pm_size (F := F) hP
  obtain ⟨σ1, q1, q2, q3⟩ := Pm_addPath (F := F) (v := nI L.length) hP hs (by omega) hQ hs' hj (by omega) hF
  have hR1 := hR.fr q3 fun a _ _ z => by omega
  have q3' : Fr (OcS o) σ σ1 := q3.mono fun a ha => ⟨by omega, by omega⟩
  unfold f_Oc_open
  simp (disch := first | omega | (simp only [List.length_cons, List.length_nil] <;> omega)) only [sx_ck, xk_s, sx_gI, sx_gA, xg_s, xi_s, xa_s, List.getElem?_cons_zero, List.getElem?_cons_succ, sx_lI, sx_lA, xl_s, xl_v, sx_pI, sx_pA, xp_s, List.set_cons_zero, List.set_cons_succ, sx_sI, sx_sB, sx_sZ, sx_sS, xs_s, sx_cp, xc_s, put_at, put_ne, new_at, new_ne, Option.bind_some, am_b2, sx_len, xn_s, r1, hz]
  rw [← h1, q1]
  split
  · rename_i hc
    rw [if_pos hc] at q2
    rw [hc]
    simp only [Option.bind_some]
    rw [if_neg (show ¬ bo true = 0 by decide)]
    have hroom : Pl.length < 400 := by
      simp only [Bool.and_eq_true] at hc
      have := hc.2
      unfold room at this
      simp only [Bool.and_eq_true, decide_eq_true_eq] at this
      exact this.1.1
    have hasg : (asgP Pl Q[j].1 (nI L.length)).length = Pl.length + 1 := by
      simp only [Bool.and_eq_true, Bool.not_eq_true', Option.isSome_eq_false_iff, Option.isNone_iff_eq_none] at hc
      unfold asgP
      rw [hc.1, insP_len (plc_le _ _)]
    obtain ⟨t1, t2, t3, t4, t5, t6, t7⟩ := hR1
    simp (disch := first | omega | (simp only [List.length_cons, List.length_nil] <;> omega)) only [sx_ck, xk_s, sx_gI, sx_gA, xg_s, xi_s, xa_s, List.getElem?_cons_zero, List.getElem?_cons_succ, sx_lI, sx_lA, xl_s, xl_v, sx_pI, sx_pA, xp_s, List.set_cons_zero, List.set_cons_succ, sx_sI, sx_sB, sx_sZ, sx_sS, xs_s, sx_cp, xc_s, put_at, put_ne, new_at, new_ne, Option.bind_some, am_b2, sx_len, xn_s, t1, t2, t4]
    generalize hτ : am_put _ _ _ = τ
    have hf : Fr (fun a => a = o + 5 ∨ a = o + 7) σ1 τ := hτ ▸ ((Fr.refl _ _).p (Or.inl rfl)).p (Or.inr rfl)
    refine ⟨τ, so (L.length * 3), so (L.length * 3 + 1), so (L.length * 3 + 2), rfl, ⟨uf un L.length 0, so, uf tb L.length (-1), ts, tl, mb, ⟨?_, by subst hτ; simp (disch := omega) only [put_at, put_ne, new_at, new_ne] <;> rfl, hf.at (by omega) t3, by subst hτ; simp (disch := omega) only [put_at, put_ne, new_at, new_ne], hf.at (by omega) t5, hf.at (by omega) t6, hf.at (by omega) t7⟩, fun r hr => ?_, q2.fr hf fun a _ _ => by omega, by rw [hasg]; simp [h1], by rw [frS_app]; simpa [frS, frL] using h2⟩, q3'.trans (hf.mono fun a ha => ⟨by omega, by omega⟩)⟩
    · rw [frS_app, uct_app]
      have e1 : frS [(false, so (L.length * 3), so (L.length * 3 + 1), so (L.length * 3 + 2), none)] = 0 := rfl
      have e2 : uct [(false, so (L.length * 3), so (L.length * 3 + 1), so (L.length * 3 + 2), none)] = 0 := rfl
      rw [e1, e2, Nat.add_zero, Nat.add_zero]
      exact hf.at (by omega) t1
    · rw [List.length_append, List.length_singleton] at hr
      by_cases e : r = L.length
      · subst e
        simp only [List.getElem_append_right (Nat.le_refl _), Nat.sub_self, List.getElem_cons_zero]
        exact ⟨by rw [uf_same]; rfl, ⟨by trivial, by trivial, by trivial⟩, by rw [uf_same]; rfl⟩
      · have hr' : r < L.length := by omega
        obtain ⟨a1, a2, a3⟩ := hW r hr'
        simp only [List.getElem_append_left hr']
        refine ⟨by rw [uf_ne e]; exact a1, a2, ?_⟩
        rw [uf_ne e, frS_app]
        exact a3.mono (by omega) fun _ _ _ => rfl
  · rename_i hc
    rw [if_neg hc] at q2
    have hc' : (!(fnd Pl Q[j].1).isSome && room Pl Q[j].1) = false := by simpa using hc
    rw [hc']
    simp only [Option.bind_some]
    rw [if_pos (show bo false = 0 by decide)]
    exact ⟨σ1, rfl, ⟨un, so, tb, ts, tl, mb, hR1, hW, q2, h1, h2⟩, q3'⟩
theorem get_set {L : List Rc} {r r' : Nat} {x : Rc} (h : r' < (L.set r x).length) : (L.set r x)[r'] = if r = r' then x else L[r']'(by simpa using h) := List.getElem_set h
theorem Oc_setSources {r : Nat} (h : Oc σ o bl Pl L) (h8 : 8 ≤ o) (hr : r < L.length) (a b c : Int32) : ∃ σ', f_Oc_setSources F σ o (nI r) a b c = some σ' ∧ Oc σ' o bl Pl (L.set r (L[r].1, a, b, c, L[r].2.2.2.2)) ∧ Fr (OcS o) σ σ' := by
  have hl := h.len
  obtain ⟨un, so, tb, ts, tl, mb, ⟨r1, r2, r3, r4, r5, r6, r7⟩, hW, hP, h1, h2⟩ := h
  have e0 : nI (r * 3) + 0 = nI (r * 3) := by rw [Int32.add_zero]
  unfold f_Oc_setSources
  simp (disch := first | omega | (simp only [List.length_cons, List.length_nil] <;> omega)) only [sx_ck, xk_s, sx_gI, sx_gA, xg_s, xi_s, xa_s, List.getElem?_cons_zero, List.getElem?_cons_succ, sx_lI, sx_lA, xl_s, xl_v, sx_pI, sx_pA, xp_s, List.set_cons_zero, List.set_cons_succ, sx_sI, sx_sB, sx_sZ, sx_sS, xs_s, sx_cp, xc_s, put_at, put_ne, new_at, new_ne, Option.bind_some, am_b2, sx_len, xn_s, r1, r3, nI_mulL, e0, nI_addL]
  generalize hτ : am_put _ _ _ = τ
  have hf : Fr (fun a => a = o + 6) σ τ := hτ ▸ (((Fr.refl (fun a => a = o + 6) _).p rfl).p rfl).p rfl
  have es : frS (L.set r (L[r].1, a, b, c, L[r].2.2.2.2)) = frS L := by
    have := sum_set (f := fun r => frL r.2.2.2.2) L r hr (L[r].1, a, b, c, L[r].2.2.2.2)
    unfold frS
    simp only at this ⊢
    omega
  have eu : uct (L.set r (L[r].1, a, b, c, L[r].2.2.2.2)) = uct L := by
    have := sum_set (f := fun r => if r.1 = true then 1 else 0) L r hr (L[r].1, a, b, c, L[r].2.2.2.2)
    unfold uct
    simp only at this ⊢
    omega
  refine ⟨τ, rfl, ⟨un, uf (uf (uf so (r * 3) a) (r * 3 + 1) b) (r * 3 + 2) c, tb, ts, tl, mb, ⟨by rw [es, eu]; exact hf.at (by omega) r1, hf.at (by omega) r2, by subst hτ; simp (disch := omega) only [put_at, put_ne, new_at, new_ne] <;> rfl, hf.at (by omega) r4, hf.at (by omega) r5, hf.at (by omega) r6, hf.at (by omega) r7⟩, fun r' hr' => ?_, hP.fr hf fun a _ _ => by omega, by simpa using h1, by rw [es]; exact h2⟩, hf.mono fun a ha => ⟨by omega, by omega⟩⟩
  have hr'' : r' < L.length := by simpa using hr'
  obtain ⟨a1, ⟨a2, a3, a4⟩, a5⟩ := hW r' hr''
  rw [get_set hr', es]
  split
  · rename_i e
    subst e
    refine ⟨a1, ⟨?_, ?_, ?_⟩, a5⟩
    · rw [uf_ne (by omega), uf_ne (by omega), uf_same]
    · rw [uf_ne (by omega), uf_same]
    · rw [uf_same]
  · rename_i e
    refine ⟨a1, ⟨?_, ?_, ?_⟩, a5⟩
    · rw [uf_ne (by omega), uf_ne (by omega), uf_ne (by omega)]; exact a2
    · rw [uf_ne (by omega), uf_ne (by omega), uf_ne (by omega)]; exact a3
    · rw [uf_ne (by omega), uf_ne (by omega), uf_ne (by omega)]; exact a4
theorem Oc_setU {r : Nat} (h : Oc σ o bl Pl L) (h8 : 8 ≤ o) (hr : r < L.length) : ∃ σ', f_Oc_setUnmerged F σ o (nI r) = some σ' ∧ Oc σ' o bl Pl (L.set r (true, L[r].2)) ∧ Fr (OcS o) σ σ' := by
  have hl := h.len
  have hh := h
  obtain ⟨un, so, tb, ts, tl, mb, ⟨r1, r2, r3, r4, r5, r6, r7⟩, hW, hP, h1, h2⟩ := h
  have hw := (hW r hr).1
  unfold f_Oc_setUnmerged
  simp (disch := first | omega | (simp only [List.length_cons, List.length_nil] <;> omega)) only [sx_ck, xk_s, sx_gI, sx_gA, xg_s, xi_s, xa_s, List.getElem?_cons_zero, List.getElem?_cons_succ, sx_lI, sx_lA, xl_s, xl_v, sx_pI, sx_pA, xp_s, List.set_cons_zero, List.set_cons_succ, sx_sI, sx_sB, sx_sZ, sx_sS, xs_s, sx_cp, xc_s, put_at, put_ne, new_at, new_ne, Option.bind_some, am_b2, sx_len, xn_s, r1, r2, hw]
  have es : frS (L.set r (true, L[r].2)) = frS L := by
    have := sum_set (f := fun r => frL r.2.2.2.2) L r hr (true, L[r].2)
    unfold frS
    simp only at this ⊢
    omega
  cases hu : L[r].1 with
  | true =>
    rw [if_neg (show ¬ bo true = 0 by decide)]
    have e : L.set r (true, L[r].2) = L := by
      have : (true, L[r].2) = L[r] := by rw [← hu]
      rw [this, List.set_getElem_self]
    rw [e]
    exact ⟨σ, rfl, hh, Fr.refl _ _⟩
  | false =>
    rw [if_pos (show bo false = 0 by decide)]
    have eu : uct (L.set r (true, L[r].2)) = uct L + 1 := by
      have := sum_set (f := fun r => if r.1 = true then 1 else 0) L r hr (true, L[r].2)
      unfold uct
      simp only [hu, Bool.false_eq_true, if_false, if_true] at this ⊢
      omega
    simp (disch := first | omega | (simp only [List.length_cons, List.length_nil] <;> omega)) only [sx_ck, xk_s, sx_gI, sx_gA, xg_s, xi_s, xa_s, List.getElem?_cons_zero, List.getElem?_cons_succ, sx_lI, sx_lA, xl_s, xl_v, sx_pI, sx_pA, xp_s, List.set_cons_zero, List.set_cons_succ, sx_sI, sx_sB, sx_sZ, sx_sS, xs_s, sx_cp, xc_s, put_at, put_ne, new_at, new_ne, Option.bind_some, am_b2, sx_len, xn_s, r1, nI_1]
    generalize hτ : am_put _ _ _ = τ
    have hf : Fr (fun a => a = o ∨ a = o + 5) σ τ := hτ ▸ ((Fr.refl _ _).p (Or.inr rfl)).p (Or.inl rfl)
    refine ⟨τ, rfl, ⟨uf un r (1 &&& 1), so, tb, ts, tl, mb, ⟨by rw [es, eu]; subst hτ; simp (disch := omega) only [put_at, put_ne, new_at, new_ne], by subst hτ; simp (disch := omega) only [put_at, put_ne, new_at, new_ne], hf.at (by omega) r3, hf.at (by omega) r4, hf.at (by omega) r5, hf.at (by omega) r6, hf.at (by omega) r7⟩, fun r' hr' => ?_, hP.fr hf fun a _ _ => by omega, by simpa using h1, by rw [es]; exact h2⟩, hf.mono fun a ha => ⟨by omega, by omega⟩⟩
    have hr'' : r' < L.length := by simpa using hr'
    obtain ⟨a1, a2, a5⟩ := hW r' hr''
    rw [get_set hr', es]
    split
    · rename_i e
      subst e
      exact ⟨by rw [uf_same]; rfl, a2, a5⟩
    · rename_i e
      exact ⟨by rw [uf_ne (Ne.symm e)]; exact a1, a2, a5⟩
theorem Oc_setBlob {r k : Nat} {t : List Int32} (h : Oc σ o bl Pl L) (h8 : 8 ≤ o) (hr : r < L.length) (hb : L[r].2.2.2.2 = none) : ∃ σ', f_Oc_setBlob F σ o (nI r) (nI k) = some σ' ∧ Oc σ' o bl Pl (L.set r (L[r].1, L[r].2.1, L[r].2.2.1, L[r].2.2.2.1, some (some k, t))) ∧ Fr (OcS o) σ σ' := by
  have hl := h.len
  obtain ⟨un, so, tb, ts, tl, mb, ⟨r1, r2, r3, r4, r5, r6, r7⟩, hW, hP, h1, h2⟩ := h
  unfold f_Oc_setBlob
  simp (disch := first | omega | (simp only [List.length_cons, List.length_nil] <;> omega)) only [sx_ck, xk_s, sx_gI, sx_gA, xg_s, xi_s, xa_s, List.getElem?_cons_zero, List.getElem?_cons_succ, sx_lI, sx_lA, xl_s, xl_v, sx_pI, sx_pA, xp_s, List.set_cons_zero, List.set_cons_succ, sx_sI, sx_sB, sx_sZ, sx_sS, xs_s, sx_cp, xc_s, put_at, put_ne, new_at, new_ne, Option.bind_some, am_b2, sx_len, xn_s, r1, r4]
  generalize hτ : am_put _ _ _ = τ
  have hf : Fr (fun a => a = o + 7) σ τ := hτ ▸ (Fr.refl (fun a => a = o + 7) _).p rfl
  have es : frS (L.set r (L[r].1, L[r].2.1, L[r].2.2.1, L[r].2.2.2.1, some (some k, t))) = frS L := by
    have := sum_set (f := fun r => frL r.2.2.2.2) L r hr (L[r].1, L[r].2.1, L[r].2.2.1, L[r].2.2.2.1, some (some k, t))
    unfold frS
    simp only [hb, frL] at this ⊢
    omega
  have eu : uct (L.set r (L[r].1, L[r].2.1, L[r].2.2.1, L[r].2.2.2.1, some (some k, t))) = uct L := by
    have := sum_set (f := fun r => if r.1 = true then 1 else 0) L r hr (L[r].1, L[r].2.1, L[r].2.2.1, L[r].2.2.2.1, some (some k, t))
    unfold uct
    simp only at this ⊢
    omega
  refine ⟨τ, rfl, ⟨un, so, uf tb r (nI k), ts, tl, mb, ⟨by rw [es, eu]; exact hf.at (by omega) r1, hf.at (by omega) r2, hf.at (by omega) r3, by subst hτ; simp (disch := omega) only [put_at, put_ne, new_at, new_ne], hf.at (by omega) r5, hf.at (by omega) r6, hf.at (by omega) r7⟩, fun r' hr' => ?_, hP.fr hf fun a _ _ => by omega, by simpa using h1, by rw [es]; exact h2⟩, hf.mono fun a ha => ⟨by omega, by omega⟩⟩
  have hr'' : r' < L.length := by simpa using hr'
  obtain ⟨a1, a2, a5⟩ := hW r' hr''
  rw [get_set hr', es]
  split
  · rename_i e
    subst e
    exact ⟨a1, a2, by rw [uf_same]; rfl⟩
  · rename_i e
    exact ⟨a1, a2, by rw [uf_ne (Ne.symm e)]; exact a5⟩
theorem Oc_keep {r a n N : Nat} {tx : Nat → Int32} {t : List Int32} (h : Oc σ o bl Pl L) (h8 : 8 ≤ o) (hr : r < L.length) (hb : L[r].2.2.2.2 = none) (ha : σ.2.2 a = some (cB N tx)) (hao : ¬ (o ≤ a ∧ a ≤ o + 10)) (hn : t.length ≤ N) (hN : N < 2 ^ 30) (ht : sli tx 0 t.length = t) :
    if frS L + t.length ≤ 65536 then ∃ σ', f_Oc_keepText F σ o (nI r) a (nI t.length) = some (1, σ') ∧ Oc σ' o bl Pl (L.set r (L[r].1, L[r].2.1, L[r].2.2.1, L[r].2.2.2.1, some (none, t))) ∧ Fr (OcS o) σ σ'
    else f_Oc_keepText F σ o (nI r) a (nI t.length) = some (0, σ) := by
  have hl := h.len
  obtain ⟨un, so, tb, ts, tl, mb, ⟨r1, r2, r3, r4, r5, r6, r7⟩, hW, hP, h1, h2⟩ := h
  unfold f_Oc_keepText
  have e6 : (65536 : Int32) = nI 65536 := rfl
  simp (disch := first | omega | (simp only [List.length_cons, List.length_nil] <;> omega)) only [sx_ck, xk_s, sx_gI, sx_gA, xg_s, xi_s, xa_s, List.getElem?_cons_zero, List.getElem?_cons_succ, sx_lI, sx_lA, xl_s, xl_v, sx_pI, sx_pA, xp_s, List.set_cons_zero, List.set_cons_succ, sx_sI, sx_sB, sx_sZ, sx_sS, xs_s, sx_cp, xc_s, put_at, put_ne, new_at, new_ne, Option.bind_some, am_b2, sx_len, xn_s, r1, nI_add]
  rw [e6]
  simp (disch := omega) only [nI_leI]
  split
  · rename_i hc
    rw [← nI_0]
    simp (disch := first | omega | (simp only [List.length_cons, List.length_nil] <;> omega)) only [sx_ck, xk_s, sx_gI, sx_gA, xg_s, xi_s, xa_s, List.getElem?_cons_zero, List.getElem?_cons_succ, sx_lI, sx_lA, xl_s, xl_v, sx_pI, sx_pA, xp_s, List.set_cons_zero, List.set_cons_succ, sx_sI, sx_sB, sx_sZ, sx_sS, xs_s, sx_cp, xc_s, put_at, put_ne, new_at, new_ne, Option.bind_some, am_b2, sx_len, xn_s, r1, r7, ha, r5, r6, nI_add]
    generalize hτ : am_put _ _ _ = τ
    have hf : Fr (fun a => a = o ∨ a = o + 8 ∨ a = o + 9 ∨ a = o + 10) σ τ := hτ ▸ ((((Fr.refl _ _).p (Or.inr (Or.inr (Or.inr rfl)))).p (Or.inr (Or.inl rfl))).p (Or.inr (Or.inr (Or.inl rfl)))).p (Or.inl rfl)
    have es : frS (L.set r (L[r].1, L[r].2.1, L[r].2.2.1, L[r].2.2.2.1, some (none, t))) = frS L + t.length := by
      have := sum_set (f := fun r => frL r.2.2.2.2) L r hr (L[r].1, L[r].2.1, L[r].2.2.1, L[r].2.2.2.1, some (none, t))
      unfold frS
      simp only [hb, frL] at this ⊢
      omega
    have eu : uct (L.set r (L[r].1, L[r].2.1, L[r].2.2.1, L[r].2.2.2.1, some (none, t))) = uct L := by
      have := sum_set (f := fun r => if r.1 = true then 1 else 0) L r hr (L[r].1, L[r].2.1, L[r].2.2.1, L[r].2.2.2.1, some (none, t))
      unfold uct
      simp only at this ⊢
      omega
    refine ⟨τ, rfl, ⟨un, so, tb, uf ts r (nI (frS L)), uf tl r (nI t.length), va_cpy tx mb 0 (frS L) t.length, ⟨by rw [es, eu]; subst hτ; simp (disch := omega) only [put_at, put_ne, new_at, new_ne], hf.at (by omega) r2, hf.at (by omega) r3, hf.at (by omega) r4, by subst hτ; simp (disch := omega) only [put_at, put_ne, new_at, new_ne], by subst hτ; simp (disch := omega) only [put_at, put_ne, new_at, new_ne], by subst hτ; simp (disch := omega) only [put_at, put_ne, new_at, new_ne]⟩, fun r' hr' => ?_, hP.fr hf fun a _ _ => by omega, by simpa using h1, by rw [es]; exact hc⟩, hf.mono fun a ha => ⟨by omega, by omega⟩⟩
    have hr'' : r' < L.length := by simpa using hr'
    obtain ⟨a1, a2, a5⟩ := hW r' hr''
    rw [get_set hr', es]
    split
    · rename_i e
      subst e
      refine ⟨a1, a2, ?_, frS L, by rw [uf_same], by rw [uf_same], by omega, ?_⟩
      · rw [hb] at a5
        exact a5
      · rw [sli_cpy, ht]
    · rename_i e
      refine ⟨a1, a2, ?_⟩
      rw [uf_ne (Ne.symm e), uf_ne (Ne.symm e)]
      exact a5.mono (by omega) fun st k hk => sli_cpy_ne (Or.inl hk)
  · rfl
theorem Oc_src {r : Nat} (h : Oc σ o bl Pl L) (hr : r < L.length) : f_Oc_sourceOf F σ o (nI r) 0 = some L[r].2.1 ∧ f_Oc_sourceOf F σ o (nI r) 1 = some L[r].2.2.1 ∧ f_Oc_sourceOf F σ o (nI r) 2 = some L[r].2.2.2.1 := by
  have hl := h.len
  obtain ⟨un, so, tb, ts, tl, mb, ⟨r1, r2, r3, r4, r5, r6, r7⟩, hW, hP, h1, h2⟩ := h
  obtain ⟨a1, ⟨a2, a3, a4⟩, a5⟩ := hW r hr
  have e0 : nI (r * 3) + 0 = nI (r * 3) := by rw [Int32.add_zero]
  unfold f_Oc_sourceOf
  refine ⟨?_, ?_, ?_⟩
  · simp (disch := first | omega | (simp only [List.length_cons, List.length_nil] <;> omega)) only [sx_ck, xk_s, sx_gI, sx_gA, xg_s, xi_s, xa_s, List.getElem?_cons_zero, List.getElem?_cons_succ, sx_lI, sx_lA, xl_s, xl_v, sx_pI, sx_pA, xp_s, List.set_cons_zero, List.set_cons_succ, sx_sI, sx_sB, sx_sZ, sx_sS, xs_s, sx_cp, xc_s, put_at, put_ne, new_at, new_ne, Option.bind_some, am_b2, sx_len, xn_s, r1, r3, nI_mulL, e0, nI_addL]
    rw [a2]
  · simp (disch := first | omega | (simp only [List.length_cons, List.length_nil] <;> omega)) only [sx_ck, xk_s, sx_gI, sx_gA, xg_s, xi_s, xa_s, List.getElem?_cons_zero, List.getElem?_cons_succ, sx_lI, sx_lA, xl_s, xl_v, sx_pI, sx_pA, xp_s, List.set_cons_zero, List.set_cons_succ, sx_sI, sx_sB, sx_sZ, sx_sS, xs_s, sx_cp, xc_s, put_at, put_ne, new_at, new_ne, Option.bind_some, am_b2, sx_len, xn_s, r1, r3, nI_mulL, e0, nI_addL]
    rw [a3]
  · simp (disch := first | omega | (simp only [List.length_cons, List.length_nil] <;> omega)) only [sx_ck, xk_s, sx_gI, sx_gA, xg_s, xi_s, xa_s, List.getElem?_cons_zero, List.getElem?_cons_succ, sx_lI, sx_lA, xl_s, xl_v, sx_pI, sx_pA, xp_s, List.set_cons_zero, List.set_cons_succ, sx_sI, sx_sB, sx_sZ, sx_sS, xs_s, sx_cp, xc_s, put_at, put_ne, new_at, new_ne, Option.bind_some, am_b2, sx_len, xn_s, r1, r3, nI_mulL, e0, nI_addL]
    rw [a4]
theorem bo_or (b : Bool) : bo b = 0 ∨ bo b = 1 := by cases b <;> decide
theorem Oc_recU {r : Nat} (h : Oc σ o bl Pl L) (hr : r < L.length) : f_Oc_recordIsUnmerged F σ o (nI r) = some (bo L[r].1) := by
  have hl := h.len
  obtain ⟨un, so, tb, ts, tl, mb, ⟨r1, r2, r3, r4, r5, r6, r7⟩, hW, hP, h1, h2⟩ := h
  have a1 := (hW r hr).1
  unfold f_Oc_recordIsUnmerged
  simp (disch := first | omega | (simp only [List.length_cons, List.length_nil] <;> omega)) only [sx_ck, xk_s, sx_gI, sx_gA, xg_s, xi_s, xa_s, List.getElem?_cons_zero, List.getElem?_cons_succ, sx_lI, sx_lA, xl_s, xl_v, sx_pI, sx_pA, xp_s, List.set_cons_zero, List.set_cons_succ, sx_sI, sx_sB, sx_sZ, sx_sS, xs_s, sx_cp, xc_s, put_at, put_ne, new_at, new_ne, Option.bind_some, am_b2, sx_len, xn_s, r1, r2, a1]
  rw [if_pos (bo_or _)]
theorem Oc_size (h : Oc σ o bl Pl L) : f_Oc_size F σ o = some (nI Pl.length) := by
  obtain ⟨un, so, tb, ts, tl, mb, ⟨r1, -⟩, hW, hP, h1, h2⟩ := h
  have := Pm_size (F := F) hP
  unfold f_Oc_size
  simp (disch := first | omega | (simp only [List.length_cons, List.length_nil] <;> omega)) only [sx_ck, xk_s, sx_gI, sx_gA, xg_s, xi_s, xa_s, List.getElem?_cons_zero, List.getElem?_cons_succ, sx_lI, sx_lA, xl_s, xl_v, sx_pI, sx_pA, xp_s, List.set_cons_zero, List.set_cons_succ, sx_sI, sx_sB, sx_sZ, sx_sS, xs_s, sx_cp, xc_s, put_at, put_ne, new_at, new_ne, Option.bind_some, am_b2, sx_len, xn_s, r1, this]
theorem Oc_uc (h : Oc σ o bl Pl L) : f_Oc_unmergedCount F σ o = some (nI (uct L)) := by
  obtain ⟨un, so, tb, ts, tl, mb, ⟨r1, -⟩, -⟩ := h
  unfold f_Oc_unmergedCount
  simp (disch := first | omega | (simp only [List.length_cons, List.length_nil] <;> omega)) only [sx_ck, xk_s, sx_gI, sx_gA, xg_s, xi_s, xa_s, List.getElem?_cons_zero, List.getElem?_cons_succ, sx_lI, sx_lA, xl_s, xl_v, sx_pI, sx_pA, xp_s, List.set_cons_zero, List.set_cons_succ, sx_sI, sx_sB, sx_sZ, sx_sS, xs_s, sx_cp, xc_s, put_at, put_ne, new_at, new_ne, Option.bind_some, am_b2, sx_len, xn_s, r1]
theorem Oc_has (h : Oc σ o bl Pl L) (i : Int32) : f_Oc_has F σ o i = some (bo (decide (¬ i < 0 ∧ i.toNatClampNeg < Pl.length))) := by
  obtain ⟨un, so, tb, ts, tl, mb, ⟨r1, -⟩, hW, hP, h1, h2⟩ := h
  have := Pm_has (F := F) hP i
  unfold f_Oc_has
  simp (disch := first | omega | (simp only [List.length_cons, List.length_nil] <;> omega)) only [sx_ck, xk_s, sx_gI, sx_gA, xg_s, xi_s, xa_s, List.getElem?_cons_zero, List.getElem?_cons_succ, sx_lI, sx_lA, xl_s, xl_v, sx_pI, sx_pA, xp_s, List.set_cons_zero, List.set_cons_succ, sx_sI, sx_sB, sx_sZ, sx_sS, xs_s, sx_cp, xc_s, put_at, put_ne, new_at, new_ne, Option.bind_some, am_b2, sx_len, xn_s, r1, this]
  rw [if_pos (bo_or _)]
theorem Oc_pathLength (h : Oc σ o bl Pl L) {i : Nat} (hi : i < Pl.length) : f_Oc_pathLength F σ o (nI i) = some (nI Pl[i].1.length) := by
  obtain ⟨un, so, tb, ts, tl, mb, ⟨r1, -⟩, hW, hP, h1, h2⟩ := h
  have := Pm_length (F := F) hP hi
  unfold f_Oc_pathLength
  simp (disch := first | omega | (simp only [List.length_cons, List.length_nil] <;> omega)) only [sx_ck, xk_s, sx_gI, sx_gA, xg_s, xi_s, xa_s, List.getElem?_cons_zero, List.getElem?_cons_succ, sx_lI, sx_lA, xl_s, xl_v, sx_pI, sx_pA, xp_s, List.set_cons_zero, List.set_cons_succ, sx_sI, sx_sB, sx_sZ, sx_sS, xs_s, sx_cp, xc_s, put_at, put_ne, new_at, new_ne, Option.bind_some, am_b2, sx_len, xn_s, r1, this]
theorem Oc_pathByte (h : Oc σ o bl Pl L) {i k : Nat} (hi : i < Pl.length) (hk : k < Pl[i].1.length) : f_Oc_pathByte F σ o (nI i) (nI k) = some (Pl[i].1[k] &&& 255) := by
  obtain ⟨un, so, tb, ts, tl, mb, ⟨r1, -⟩, hW, hP, h1, h2⟩ := h
  have := Pm_letter (F := F) hP hi hk
  unfold f_Oc_pathByte
  simp (disch := first | omega | (simp only [List.length_cons, List.length_nil] <;> omega)) only [sx_ck, xk_s, sx_gI, sx_gA, xg_s, xi_s, xa_s, List.getElem?_cons_zero, List.getElem?_cons_succ, sx_lI, sx_lA, xl_s, xl_v, sx_pI, sx_pA, xp_s, List.set_cons_zero, List.set_cons_succ, sx_sI, sx_sB, sx_sZ, sx_sS, xs_s, sx_cp, xc_s, put_at, put_ne, new_at, new_ne, Option.bind_some, am_b2, sx_len, xn_s, r1, this]
theorem Oc_isU (h : Oc σ o bl Pl L) {i r : Nat} (hi : i < Pl.length) (hr : r < L.length) (hv : Pl[i].2 = nI r) : f_Oc_isUnmerged F σ o (nI i) = some (bo L[r].1) := by
  have hl := h.len
  obtain ⟨un, so, tb, ts, tl, mb, ⟨r1, r2, r3, r4, r5, r6, r7⟩, hW, hP, h1, h2⟩ := h
  have a1 := (hW r hr).1
  have hz := Pm_value (F := F) hP hi
  rw [hv] at hz
  unfold f_Oc_isUnmerged
  simp (disch := first | omega | (simp only [List.length_cons, List.length_nil] <;> omega)) only [sx_ck, xk_s, sx_gI, sx_gA, xg_s, xi_s, xa_s, List.getElem?_cons_zero, List.getElem?_cons_succ, sx_lI, sx_lA, xl_s, xl_v, sx_pI, sx_pA, xp_s, List.set_cons_zero, List.set_cons_succ, sx_sI, sx_sB, sx_sZ, sx_sS, xs_s, sx_cp, xc_s, put_at, put_ne, new_at, new_ne, Option.bind_some, am_b2, sx_len, xn_s, r1, r2, hz, a1]
  rw [if_pos (bo_or _)]
theorem Oc_stage (h : Oc σ o bl Pl L) {i r : Nat} (hi : i < Pl.length) (hr : r < L.length) (hv : Pl[i].2 = nI r) : f_Oc_stageOf F σ o (nI i) 0 = some (if L[r].1 = true then L[r].2.1 else -1) ∧ f_Oc_stageOf F σ o (nI i) 1 = some (if L[r].1 = true then L[r].2.2.1 else -1) ∧ f_Oc_stageOf F σ o (nI i) 2 = some (if L[r].1 = true then L[r].2.2.2.1 else -1) := by
  have hU := Oc_isU (F := F) h hi hr hv
  obtain ⟨s0, s1, s2⟩ := Oc_src (F := F) h hr
  obtain ⟨un, so, tb, ts, tl, mb, ⟨r1, r2, r3, r4, r5, r6, r7⟩, hW, hP, h1, h2⟩ := h
  have hz := Pm_value (F := F) hP hi
  rw [hv] at hz
  unfold f_Oc_stageOf
  simp (disch := first | omega | (simp only [List.length_cons, List.length_nil] <;> omega)) only [sx_ck, xk_s, sx_gI, sx_gA, xg_s, xi_s, xa_s, List.getElem?_cons_zero, List.getElem?_cons_succ, sx_lI, sx_lA, xl_s, xl_v, sx_pI, sx_pA, xp_s, List.set_cons_zero, List.set_cons_succ, sx_sI, sx_sB, sx_sZ, sx_sS, xs_s, sx_cp, xc_s, put_at, put_ne, new_at, new_ne, Option.bind_some, am_b2, sx_len, xn_s, r1, hU, hz, s0, s1, s2]
  simp only [bo_0]
  cases L[r].1 <;> simp
theorem Oc_blob (h : Oc σ o bl Pl L) {i r : Nat} (hi : i < Pl.length) (hr : r < L.length) (hv : Pl[i].2 = nI r) {b : Option Nat} {t : List Int32} (hb : L[r].2.2.2.2 = some (b, t)) : f_Oc_blobOf F σ o (nI i) = some (oI b) := by
  have hl := h.len
  obtain ⟨un, so, tb, ts, tl, mb, ⟨r1, r2, r3, r4, r5, r6, r7⟩, hW, hP, h1, h2⟩ := h
  have a1 := (hW r hr).2.2
  have hz := Pm_value (F := F) hP hi
  rw [hv] at hz
  rw [hb] at a1
  unfold f_Oc_blobOf
  simp (disch := first | omega | (simp only [List.length_cons, List.length_nil] <;> omega)) only [sx_ck, xk_s, sx_gI, sx_gA, xg_s, xi_s, xa_s, List.getElem?_cons_zero, List.getElem?_cons_succ, sx_lI, sx_lA, xl_s, xl_v, sx_pI, sx_pA, xp_s, List.set_cons_zero, List.set_cons_succ, sx_sI, sx_sB, sx_sZ, sx_sS, xs_s, sx_cp, xc_s, put_at, put_ne, new_at, new_ne, Option.bind_some, am_b2, sx_len, xn_s, r1, hz, r4]
  cases b with
  | none => rw [a1.1]; rfl
  | some k => rw [show tb r = nI k from a1]; rfl
theorem Oc_textLen {B : List (List Int32)} (h : Oc σ o bl Pl L) (hB : Bl σ bl B) {i r : Nat} (hi : i < Pl.length) (hr : r < L.length) (hv : Pl[i].2 = nI r) {b : Option Nat} {t : List Int32} (hb : L[r].2.2.2.2 = some (b, t)) (hbt : ∀ k, b = some k → ∃ hk : k < B.length, B[k] = t) : f_Oc_textLength F σ o (nI i) = some (nI t.length) := by
  have hl := h.len
  have hB5 : B.length ≤ 500 := by
    obtain ⟨by_, st, ro, fl, lc, wt, ls, ll, lk, lh, lch, -, -, ⟨w, -⟩, -⟩ := hB
    exact w
  obtain ⟨un, so, tb, ts, tl, mb, ⟨r1, r2, r3, r4, r5, r6, r7⟩, hW, hP, h1, h2⟩ := h
  have a1 := (hW r hr).2.2
  have hz := Pm_value (F := F) hP hi
  rw [hv] at hz
  rw [hb] at a1
  unfold f_Oc_textLength
  cases b with
  | none =>
    obtain ⟨x1, st, x2, x3, x4, x5⟩ := a1
    simp (disch := first | omega | (simp only [List.length_cons, List.length_nil] <;> omega)) only [sx_ck, xk_s, sx_gI, sx_gA, xg_s, xi_s, xa_s, List.getElem?_cons_zero, List.getElem?_cons_succ, sx_lI, sx_lA, xl_s, xl_v, sx_pI, sx_pA, xp_s, List.set_cons_zero, List.set_cons_succ, sx_sI, sx_sB, sx_sZ, sx_sS, xs_s, sx_cp, xc_s, put_at, put_ne, new_at, new_ne, Option.bind_some, am_b2, sx_len, xn_s, r1, hz, r4, x1]
    rw [if_pos (by decide)]
    simp (disch := first | omega | (simp only [List.length_cons, List.length_nil] <;> omega)) only [sx_ck, xk_s, sx_gI, sx_gA, xg_s, xi_s, xa_s, List.getElem?_cons_zero, List.getElem?_cons_succ, sx_lI, sx_lA, xl_s, xl_v, sx_pI, sx_pA, xp_s, List.set_cons_zero, List.set_cons_succ, sx_sI, sx_sB, sx_sZ, sx_sS, xs_s, sx_cp, xc_s, put_at, put_ne, new_at, new_ne, Option.bind_some, am_b2, sx_len, xn_s, r6, x3]
  | some k =>
    have x1 : tb r = nI k := a1
    obtain ⟨hk, e⟩ := hbt k rfl
    have hL := Bl_len (F := F) hB hk
    simp (disch := first | omega | (simp only [List.length_cons, List.length_nil] <;> omega)) only [sx_ck, xk_s, sx_gI, sx_gA, xg_s, xi_s, xa_s, List.getElem?_cons_zero, List.getElem?_cons_succ, sx_lI, sx_lA, xl_s, xl_v, sx_pI, sx_pA, xp_s, List.set_cons_zero, List.set_cons_succ, sx_sI, sx_sB, sx_sZ, sx_sS, xs_s, sx_cp, xc_s, put_at, put_ne, new_at, new_ne, Option.bind_some, am_b2, sx_len, xn_s, r1, hz, r4, x1, hL]
    rw [if_neg (nI_pos (by omega)), e]
theorem Oc_textByte {B : List (List Int32)} (h : Oc σ o bl Pl L) (hB : Bl σ bl B) {i r k : Nat} (hi : i < Pl.length) (hr : r < L.length) (hv : Pl[i].2 = nI r) {b : Option Nat} {t : List Int32} (hb : L[r].2.2.2.2 = some (b, t)) (hbt : ∀ k, b = some k → ∃ hk : k < B.length, B[k] = t) (hk : k < t.length) : f_Oc_textByte F σ o (nI i) (nI k) = some (t[k] &&& 255) := by
  have hl := h.len
  have hB5 : B.length ≤ 500 := by
    obtain ⟨by_, st, ro, fl, lc, wt, ls, ll, lk, lh, lch, -, -, ⟨w, -⟩, -⟩ := hB
    exact w
  obtain ⟨un, so, tb, ts, tl, mb, ⟨r1, r2, r3, r4, r5, r6, r7⟩, hW, hP, h1, h2⟩ := h
  have a1 := (hW r hr).2.2
  have hz := Pm_value (F := F) hP hi
  rw [hv] at hz
  rw [hb] at a1
  unfold f_Oc_textByte
  cases b with
  | none =>
    obtain ⟨x1, st, x2, x3, x4, x5⟩ := a1
    simp (disch := first | omega | (simp only [List.length_cons, List.length_nil] <;> omega)) only [sx_ck, xk_s, sx_gI, sx_gA, xg_s, xi_s, xa_s, List.getElem?_cons_zero, List.getElem?_cons_succ, sx_lI, sx_lA, xl_s, xl_v, sx_pI, sx_pA, xp_s, List.set_cons_zero, List.set_cons_succ, sx_sI, sx_sB, sx_sZ, sx_sS, xs_s, sx_cp, xc_s, put_at, put_ne, new_at, new_ne, Option.bind_some, am_b2, sx_len, xn_s, r1, hz, r4, x1]
    rw [if_pos (by decide)]
    simp (disch := first | omega | (simp only [List.length_cons, List.length_nil] <;> omega)) only [sx_ck, xk_s, sx_gI, sx_gA, xg_s, xi_s, xa_s, List.getElem?_cons_zero, List.getElem?_cons_succ, sx_lI, sx_lA, xl_s, xl_v, sx_pI, sx_pA, xp_s, List.set_cons_zero, List.set_cons_succ, sx_sI, sx_sB, sx_sZ, sx_sS, xs_s, sx_cp, xc_s, put_at, put_ne, new_at, new_ne, Option.bind_some, am_b2, sx_len, xn_s, r5, x2, nI_add, r7]
    have e : mb (st + k) = t[k] := by
      have : (sli mb st t.length)[k]? = some (mb (st + k)) := by simp [sli, hk]
      rw [x5, List.getElem?_eq_getElem hk] at this
      exact (Option.some.inj this).symm
    rw [e]
  | some q =>
    have x1 : tb r = nI q := a1
    obtain ⟨hq, e⟩ := hbt q rfl
    have hL := Bl_byteAt (F := F) hB hq (j := k) (by rw [e]; exact hk)
    simp (disch := first | omega | (simp only [List.length_cons, List.length_nil] <;> omega)) only [sx_ck, xk_s, sx_gI, sx_gA, xg_s, xi_s, xa_s, List.getElem?_cons_zero, List.getElem?_cons_succ, sx_lI, sx_lA, xl_s, xl_v, sx_pI, sx_pA, xp_s, List.set_cons_zero, List.set_cons_succ, sx_sI, sx_sB, sx_sZ, sx_sS, xs_s, sx_cp, xc_s, put_at, put_ne, new_at, new_ne, Option.bind_some, am_b2, sx_len, xn_s, r1, hz, r4, x1, hL]
    rw [if_neg (nI_pos (by omega))]
    simp only [e]
end OC
