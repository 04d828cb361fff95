/-! ===== L3: Renames: GONE and COME ===== -/
def pth (P : PL) (k : Nat) : List Int32 := (P.getD k ([], 0)).1
def valI (P : PL) (k : Nat) : Int32 := (P.getD k ([], 0)).2
def valN (P : PL) (k : Nat) : Nat := (valI P k).toNatClampNeg
theorem pth_of {P : PL} {k : Nat} (h : k < P.length) : pth P k = P[k].1 := by simp [pth, List.getD, h]
theorem valI_of {P : PL} {k : Nat} (h : k < P.length) : valI P k = P[k].2 := by simp [valI, List.getD, h]
/-- every number is a BLOB's -/
def VB (B : List (List Int32)) (P : PL) : Prop := ∀ k, k < P.length → valN P k < B.length ∧ valI P k = nI (valN P k)
def flt (p : Nat → Bool) (n : Nat) : List Nat := (List.range n).filter p
theorem flt_succ (p : Nat → Bool) (n : Nat) : flt p (n + 1) = if p n = true then flt p n ++ [n] else flt p n := by
  unfold flt
  rw [List.range_succ, List.filter_append]
  by_cases h : p n = true
  · simp [h]
  · simp [h]
theorem flt_zero (p : Nat → Bool) : flt p 0 = [] := rfl
theorem flt_len (p : Nat → Bool) : ∀ n, (flt p n).length ≤ n
  | 0 => Nat.le_refl _
  | n + 1 => by
    have := flt_len p n
    rw [flt_succ]
    split
    · simp; omega
    · omega
theorem flt_mem {p : Nat → Bool} {n k : Nat} : k ∈ flt p n ↔ k < n ∧ p k = true := by simp [flt]
theorem flt_get (p : Nat → Bool) : ∀ (n g : Nat) (h : g < (flt p n).length), (flt p n)[g] < n ∧ p (flt p n)[g] = true ∧ (flt p (flt p n)[g]).length = g
  | 0, g, h => absurd h (by simp [flt_zero])
  | n + 1, g, h => by
    have hs := flt_succ p n
    by_cases hp : p n = true
    · rw [if_pos hp] at hs
      by_cases hg : g < (flt p n).length
      · have e : (flt p (n + 1))[g] = (flt p n)[g] := by simp only [hs, List.getElem_append_left hg]
        obtain ⟨h1, h2, h3⟩ := flt_get p n g hg
        rw [e]
        exact ⟨by omega, h2, h3⟩
      · have hl : (flt p (n + 1)).length = (flt p n).length + 1 := by rw [hs]; simp
        have hg2 : g = (flt p n).length := by omega
        have e : (flt p (n + 1))[g] = n := by simp only [hs, hg2, List.getElem_append_right (Nat.le_refl _), Nat.sub_self, List.getElem_cons_zero]
        rw [e]
        exact ⟨by omega, hp, hg2.symm⟩
    · rw [if_neg hp] at hs
      have e : (flt p (n + 1))[g] = (flt p n)[g]'(by rw [hs] at h; exact h) := by simp only [hs]
      obtain ⟨h1, h2, h3⟩ := flt_get p n g (by rw [hs] at h; exact h)
      rw [e]
      exact ⟨by omega, h2, h3⟩
theorem flt_mono (p : Nat → Bool) {m n : Nat} (h : m ≤ n) : (flt p m).length ≤ (flt p n).length := by
  induction n with
  | zero => rw [Nat.le_zero.mp h]; exact Nat.le_refl _
  | succ n ih =>
    by_cases e : m = n + 1
    · rw [e]; exact Nat.le_refl _
    · have := ih (by omega)
      rw [flt_succ]
      split
      · simp; omega
      · exact this
theorem flt_idx (p : Nat → Bool) : ∀ {n k : Nat}, k < n → p k = true → (flt p n)[(flt p k).length]? = some k
  | 0, k, h, _ => absurd h (by omega)
  | n + 1, k, h, hp => by
    rw [flt_succ]
    by_cases e : k = n
    · subst e
      rw [if_pos hp, List.getElem?_append_right (Nat.le_refl _), Nat.sub_self]
      rfl
    · have ih := flt_idx p (n := n) (k := k) (by omega) hp
      split
      · rw [List.getElem?_append_left (List.getElem?_eq_some_iff.mp ih).1]
        exact ih
      · exact ih
def isG (P Q : PL) (k : Nat) : Bool := (fnd Q (pth P k)).isNone
/-- the GONE PATHS among the first n -/
def gL (P Q : PL) (n : Nat) : List Nat := flt (isG P Q) n
abbrev gA (P Q : PL) : List Nat := gL P Q P.length
def RnR (σ : am_S) (o bl : Nat) (ge co ct sc pa ps : Nat → Int32) (g c : Nat) : Prop :=
  σ.2.2 o = some (cO 5 [.ref bl, .ref (o + 1), .ref (o + 2), .ref (o + 3), .ref (o + 4), .ref (o + 5), .ref (o + 6), .int (nI g), .int (nI c)]) ∧ σ.2.2 (o + 1) = some (cI 400 ge) ∧ σ.2.2 (o + 2) = some (cI 400 co) ∧ σ.2.2 (o + 3) = some (cZ 400 ct) ∧ σ.2.2 (o + 4) = some (cI 2500 sc) ∧ σ.2.2 (o + 5) = some (cI 400 pa) ∧ σ.2.2 (o + 6) = some (cI 400 ps)
def Rn (σ : am_S) (o bl : Nat) : Prop := ∃ ge co ct sc pa ps g c, RnR σ o bl ge co ct sc pa ps g c
abbrev RnS (o : Nat) : Nat → Prop := fun a => o ≤ a ∧ a ≤ o + 6
theorem Rn.fr {σ σ1 : am_S} {o bl : Nat} {S : Nat → Prop} (h : Rn σ o bl) (hf : Fr S σ σ1) (hd : ∀ a, o ≤ a → a ≤ o + 6 → ¬ S a) : Rn σ1 o bl := by
  obtain ⟨ge, co, ct, sc, pa, ps, g, c, h1, h2, h3, h4, h5, h6, h7⟩ := h
  exact ⟨ge, co, ct, sc, pa, ps, g, c, hf.at (hd _ (by omega) (by omega)) h1, hf.at (hd _ (by omega) (by omega)) h2, hf.at (hd _ (by omega) (by omega)) h3, hf.at (hd _ (by omega) (by omega)) h4, hf.at (hd _ (by omega) (by omega)) h5, hf.at (hd _ (by omega) (by omega)) h6, hf.at (hd _ (by omega) (by omega)) h7⟩
theorem RnR.fr {σ σ1 : am_S} {o bl g c : Nat} {ge co ct sc pa ps : Nat → Int32} {S : Nat → Prop} (h : RnR σ o bl ge co ct sc pa ps g c) (hf : Fr S σ σ1) (hd : ∀ a, o ≤ a → a ≤ o + 6 → ¬ S a) : RnR σ1 o bl ge co ct sc pa ps g c := by
  obtain ⟨h1, h2, h3, h4, h5, h6, h7⟩ := h
  exact ⟨hf.at (hd _ (by omega) (by omega)) h1, hf.at (hd _ (by omega) (by omega)) h2, hf.at (hd _ (by omega) (by omega)) h3, hf.at (hd _ (by omega) (by omega)) h4, hf.at (hd _ (by omega) (by omega)) h5, hf.at (hd _ (by omega) (by omega)) h6, hf.at (hd _ (by omega) (by omega)) h7⟩
theorem Pm.lt {σ : am_S} {p : Nat} {P : PL} (h : Pm σ p P) : P.length ≤ 400 := by
  obtain ⟨_, _, _, _, w, -⟩ := h
  exact w
/-- a row that holds this list -/
def hol (f : Nat → Int32) (l : List Nat) : Prop := ∀ k (h : k < l.length), f k = nI l[k]
theorem hol.snoc {f : Nat → Int32} {l : List Nat} (h : hol f l) (x : Nat) : hol (uf f l.length (nI x)) (l ++ [x]) := by
  intro k hk
  rw [List.length_append, List.length_singleton] at hk
  by_cases e : k = l.length
  · subst e
    rw [uf_same]
    simp
  · rw [uf_ne e, h k (by omega)]
    have : (l ++ [x])[k] = l[k] := List.getElem_append_left (by omega)
    rw [this]
section RN1
variable {o bl p1 p2 F : Nat} {P Q : PL} {sc : Nat → Int32}
theorem Rn_cmpNext {σ : am_S} (hP : Pm σ p1 P) (hQ : Pm σ p2 Q) {i j : Nat} (hi : i ≤ P.length) (hj : j ≤ Q.length) (hF : 8192 < F) : f_Rn_compareNext F σ p1 (nI i) p2 (nI j) = some (if h : i < P.length then (if h' : j < Q.length then cmpV P[i].1 Q[j].1 else -1) else 1) := by
  have hl1 := hP.lt
  have hl2 := hQ.lt
  unfold f_Rn_compareNext
  rw [Pm_size hP, Option.bind_some]
  by_cases h1 : i < P.length
  · rw [if_pos (nI_lt h1 (by omega)), dif_pos h1, Pm_size hQ, Option.bind_some]
    by_cases h2 : j < Q.length
    · rw [if_pos (nI_lt h2 (by omega)), dif_pos h2, Pm_cmpPaths hP hQ h1 h2 hF, Option.bind_some]
    · rw [if_neg (nI_nlt (by omega) (by omega)), dif_neg h2]
  · rw [if_neg (nI_nlt (by omega) (by omega)), dif_neg h1]
def LcI (σ : am_S) (o bl : Nat) (P Q : PL) (sc : Nat → Int32) (i j : Nat) : Prop := ∃ ge co ct pa ps, RnR σ o bl ge co ct sc pa ps (gL P Q i).length (gL Q P j).length ∧ hol ge (gL P Q i) ∧ hol co (gL Q P j) ∧ (∀ k, k < (gL Q P j).length → ct k = 0) ∧ ∀ k, k < i → pa k = oI (fnd Q (pth P k))
theorem Rn_listLoop (hs : Srt P) (hs' : Srt Q) (h8 : 8 ≤ o) (hp1 : p1 + 4 ≤ o) (hp2 : p2 + 4 ≤ o) (hF : 8192 < F) : ∀ (m i j : Nat) (σ : am_S), Pm σ p1 P → Pm σ p2 Q → LcI σ o bl P Q sc i j → i ≤ P.length → j ≤ Q.length → (∀ a b (ha : a < P.length) (hb : b < Q.length), a < i → j ≤ b → ltP P[a].1 Q[b].1) → (∀ a b (ha : a < P.length) (hb : b < Q.length), i ≤ a → b < j → ltP Q[b].1 P[a].1) → (P.length - i) + (Q.length - j) < m →
    ∃ σ', f_Rn_listChanges_l15 F o p1 p2 m (nI i) (nI j) σ = some σ' ∧ LcI σ' o bl P Q sc P.length Q.length ∧ Fr (RnS o) σ σ' := by
  intro m
  induction m with
  | zero => intro i j _ _ _ _ _ _ _ _ h; omega
  | succ m ih =>
    intro i j σ hP hQ hI hi hj o1 o2 hm
    have hl1 := hP.lt
    have hl2 := hQ.lt
    rw [f_Rn_listChanges_l15, Pm_size hP, Option.bind_some, Pm_size hQ, Option.bind_some]
    simp (disch := omega) only [nI_ltI, nI_leI]
    have hmain : i < P.length ∨ j < Q.length → ∃ σ', f_Rn_listChanges_j32 F o p1 p2 (nI i) (nI j) (fun y3 y4 τ => f_Rn_listChanges_l15 F o p1 p2 m y3 y4 τ) σ = some σ' ∧ LcI σ' o bl P Q sc P.length Q.length ∧ Fr (RnS o) σ σ' := by
      intro hor
      obtain ⟨ge, co, ct, pa, ps, ⟨r1, r2, r3, r4, r5, r6, r7⟩, g1, g2, g3, g4⟩ := hI
      have hlg := flt_len (isG P Q) i
      have hlc := flt_len (isG Q P) j
      unfold f_Rn_listChanges_j32
      rw [Rn_cmpNext hP hQ hi hj hF, Option.bind_some]
      generalize hV : (if h : i < P.length then (if h' : j < Q.length then cmpV P[i].1 Q[j].1 else -1) else 1 : Int32) = V
      have goneCase : (hh : i < P.length) → (∀ b (hb : b < Q.length), j ≤ b → ltP P[i].1 Q[b].1) → ∃ σ', ((f_Rn_addGone F σ o (nI i)).bind fun σ8 => f_Rn_listChanges_l15 F o p1 p2 m (nI i + 1) (nI j) σ8) = some σ' ∧ LcI σ' o bl P Q sc P.length Q.length ∧ Fr (RnS o) σ σ' := by
        intro hh hlt
        have hgone : fnd Q (pth P i) = none := by
          apply fnd_none
          intro b hb he
          rw [pth_of hh] at he
          by_cases hbj : j ≤ b
          · have := hlt b hb hbj
            rw [he] at this
            exact ltP_irr (hs.1 _ hh) this
          · have := o2 i b hh hb (Nat.le_refl _) (by omega)
            rw [he] at this
            exact ltP_irr (hs.1 _ hh) this
        have hgs : gL P Q (i + 1) = gL P Q i ++ [i] := by
          unfold gL
          rw [flt_succ, if_pos]
          unfold isG
          rw [hgone]; rfl
        unfold f_Rn_addGone
        have hlg' : (gL P Q i).length ≤ i := hlg
        simp (disch := first | omega | (simp only [List.length_cons, List.length_nil] <;> omega)) only [sx_ck, xk_s, sx_gI, sx_gA, xg_s, xi_s, xa_s, List.getElem?_cons_zero, List.getElem?_cons_succ, sx_lI, sx_lA, xl_s, xl_v, sx_pI, sx_pA, xp_s, List.set_cons_zero, List.set_cons_succ, sx_sI, sx_sB, sx_sZ, sx_sS, xs_s, sx_cp, xc_s, put_at, put_ne, new_at, new_ne, Option.bind_some, am_b2, sx_len, xn_s, r1, r2, r3, r4, r5, r6, r7, nI_1]
        generalize hτ : am_put _ _ _ = τ
        have hfr : Fr (RnS o) σ τ := hτ ▸ (((Fr.refl _ _).p ⟨by omega, by omega⟩).p ⟨by omega, by omega⟩).p ⟨by omega, by omega⟩
        obtain ⟨σ', q1, q2, q3⟩ := ih (i + 1) j τ (hP.fr hfr fun a h1 h2 => by omega) (hQ.fr hfr fun a h1 h2 => by omega) ⟨_, _, _, _, _, ⟨by subst hτ; simp (disch := omega) only [put_at, put_ne, new_at, new_ne]; rw [hgs, List.length_append]; rfl, by subst hτ; simp (disch := omega) only [put_at, put_ne, new_at, new_ne] <;> rfl, by subst hτ; simp (disch := omega) only [put_at, put_ne, new_at, new_ne, r3] <;> rfl, by subst hτ; simp (disch := omega) only [put_at, put_ne, new_at, new_ne, r4] <;> rfl, by subst hτ; simp (disch := omega) only [put_at, put_ne, new_at, new_ne, r5], by subst hτ; simp (disch := omega) only [put_at, put_ne, new_at, new_ne] <;> rfl, by subst hτ; simp (disch := omega) only [put_at, put_ne, new_at, new_ne, r7] <;> rfl⟩, by rw [hgs]; exact g1.snoc i, g2, g3, fun k hk => by
          by_cases e : k = i
          · subst e
            rw [uf_same, hgone]; rfl
          · rw [uf_ne e, g4 k (by omega)]⟩ (by omega) hj (fun a b ha hb h1 h2 => by
            by_cases e : a = i
            · subst e; exact hlt b hb h2
            · exact o1 a b ha hb (by omega) h2) (fun a b ha hb h1 h2 => o2 a b ha hb (by omega) h2) (by omega)
        exact ⟨σ', q1, q2, hfr.trans q3⟩
      have comeCase : (hh : j < Q.length) → (∀ a (ha : a < P.length), i ≤ a → ltP Q[j].1 P[a].1) → ∃ σ', ((f_Rn_addCome F σ o (nI j)).bind fun σ8 => f_Rn_listChanges_l15 F o p1 p2 m (nI i) (nI j + 1) σ8) = some σ' ∧ LcI σ' o bl P Q sc P.length Q.length ∧ Fr (RnS o) σ σ' := by
        intro hh hlt
        have hgone : fnd P (pth Q j) = none := by
          apply fnd_none
          intro b hb he
          rw [pth_of hh] at he
          by_cases hbj : i ≤ b
          · have := hlt b hb hbj
            rw [he] at this
            exact ltP_irr (hs'.1 _ hh) this
          · have := o1 b j hb hh (by omega) (Nat.le_refl _)
            rw [he] at this
            exact ltP_irr (hs'.1 _ hh) this
        have hgs : gL Q P (j + 1) = gL Q P j ++ [j] := by
          unfold gL
          rw [flt_succ, if_pos]
          unfold isG
          rw [hgone]; rfl
        unfold f_Rn_addCome
        have hlc' : (gL Q P j).length ≤ j := hlc
        simp (disch := first | omega | (simp only [List.length_cons, List.length_nil] <;> omega)) only [sx_ck, xk_s, sx_gI, sx_gA, xg_s, xi_s, xa_s, List.getElem?_cons_zero, List.getElem?_cons_succ, sx_lI, sx_lA, xl_s, xl_v, sx_pI, sx_pA, xp_s, List.set_cons_zero, List.set_cons_succ, sx_sI, sx_sB, sx_sZ, sx_sS, xs_s, sx_cp, xc_s, put_at, put_ne, new_at, new_ne, Option.bind_some, am_b2, sx_len, xn_s, r1, r2, r3, r4, r5, r6, r7, nI_1]
        generalize hτ : am_put _ _ _ = τ
        have hfr : Fr (RnS o) σ τ := hτ ▸ (((Fr.refl _ _).p ⟨by omega, by omega⟩).p ⟨by omega, by omega⟩).p ⟨by omega, by omega⟩
        obtain ⟨σ', q1, q2, q3⟩ := ih i (j + 1) τ (hP.fr hfr fun a h1 h2 => by omega) (hQ.fr hfr fun a h1 h2 => by omega) ⟨_, _, _, _, _, ⟨by subst hτ; simp (disch := omega) only [put_at, put_ne, new_at, new_ne]; rw [hgs, List.length_append]; rfl, by subst hτ; simp (disch := omega) only [put_at, put_ne, new_at, new_ne, r2] <;> rfl, by subst hτ; simp (disch := omega) only [put_at, put_ne, new_at, new_ne] <;> rfl, by subst hτ; simp (disch := omega) only [put_at, put_ne, new_at, new_ne] <;> rfl, by subst hτ; simp (disch := omega) only [put_at, put_ne, new_at, new_ne, r5], by subst hτ; simp (disch := omega) only [put_at, put_ne, new_at, new_ne, r6] <;> rfl, by subst hτ; simp (disch := omega) only [put_at, put_ne, new_at, new_ne, r7] <;> rfl⟩, g1, by rw [hgs]; exact g2.snoc j, fun k hk => by
          rw [hgs, List.length_append, List.length_singleton] at hk
          by_cases e : k = (gL Q P j).length
          · subst e
            rw [uf_same]; rfl
          · rw [uf_ne e, g3 k (by omega)], g4⟩ hi (by omega) (fun a b ha hb h1 h2 => o1 a b ha hb h1 (by omega)) (fun a b ha hb h1 h2 => by
            by_cases e : b = j
            · subst e; exact hlt a ha h1
            · exact o2 a b ha hb h1 (by omega)) (by omega)
        exact ⟨σ', q1, q2, hfr.trans q3⟩
      by_cases c1 : i < P.length
      · rw [dif_pos c1] at hV
        by_cases c2 : j < Q.length
        · rw [dif_pos c2] at hV
          by_cases c3 : ltP P[i].1 Q[j].1
          · have : ¬ (0 : Int32) ≤ V := fun z => by
              rw [← hV] at z
              exact (Int32.not_lt.mpr z) c3
            rw [if_neg this]
            exact goneCase c1 fun b hb hjb => by
              by_cases e : b = j
              · subst e; exact c3
              · exact ltP_trans (hs.1 _ c1) (hs'.1 _ c2) (hs'.1 _ hb) c3 (hs'.2 j b c2 hb (by omega))
          · have hv0 : (0 : Int32) ≤ V := by
              rw [← hV]
              exact Int32.not_lt.mp c3
            rw [if_pos hv0]
            by_cases c4 : P[i].1 = Q[j].1
            · have : V = 0 := by rw [← hV]; exact (cmp0 (hs.1 _ c1) (hs'.1 _ c2)).mpr c4
              rw [this, if_pos (by decide)]
              have hf : fnd Q (pth P i) = some j := by
                rw [pth_of c1]
                exact (fnd_some hs' (hs.1 _ c1) c2 c4.symm).2
              have hf' : fnd P (pth Q j) = some i := by
                rw [pth_of c2]
                exact (fnd_some hs (hs'.1 _ c2) c1 c4).2
              have hgs : gL P Q (i + 1) = gL P Q i := by
                unfold gL
                rw [flt_succ, if_neg]
                unfold isG
                rw [hf]; simp
              have hgs' : gL Q P (j + 1) = gL Q P j := by
                unfold gL
                rw [flt_succ, if_neg]
                unfold isG
                rw [hf']; simp
              simp (disch := first | omega | (simp only [List.length_cons, List.length_nil] <;> omega)) only [sx_ck, xk_s, sx_gI, sx_gA, xg_s, xi_s, xa_s, List.getElem?_cons_zero, List.getElem?_cons_succ, sx_lI, sx_lA, xl_s, xl_v, sx_pI, sx_pA, xp_s, List.set_cons_zero, List.set_cons_succ, sx_sI, sx_sB, sx_sZ, sx_sS, xs_s, sx_cp, xc_s, put_at, put_ne, new_at, new_ne, Option.bind_some, am_b2, sx_len, xn_s, r1, r6, nI_1]
              generalize hτ : am_put _ _ _ = τ
              have hfr : Fr (RnS o) σ τ := hτ ▸ (Fr.refl _ _).p ⟨by omega, by omega⟩
              obtain ⟨σ', q1, q2, q3⟩ := ih (i + 1) (j + 1) τ (hP.fr hfr fun a h1 h2 => by omega) (hQ.fr hfr fun a h1 h2 => by omega) ⟨_, _, _, _, _, ⟨by subst hτ; simp (disch := omega) only [put_at, put_ne, new_at, new_ne, r1]; rw [hgs, hgs'], by subst hτ; simp (disch := omega) only [put_at, put_ne, new_at, new_ne, r2] <;> rfl, by subst hτ; simp (disch := omega) only [put_at, put_ne, new_at, new_ne, r3] <;> rfl, by subst hτ; simp (disch := omega) only [put_at, put_ne, new_at, new_ne, r4] <;> rfl, by subst hτ; simp (disch := omega) only [put_at, put_ne, new_at, new_ne, r5], by subst hτ; simp (disch := omega) only [put_at, put_ne, new_at, new_ne] <;> rfl, by subst hτ; simp (disch := omega) only [put_at, put_ne, new_at, new_ne, r7] <;> rfl⟩, by rw [hgs]; exact g1, by rw [hgs']; exact g2, by rw [hgs']; exact g3, fun k hk => by
                by_cases e : k = i
                · subst e
                  rw [uf_same, hf]; rfl
                · rw [uf_ne e, g4 k (by omega)]⟩ (by omega) (by omega) (fun a b ha hb h1 h2 => by
                  by_cases e : a = i
                  · subst e
                    rw [c4]
                    exact hs'.2 j b c2 hb (by omega)
                  · exact o1 a b ha hb (by omega) (by omega)) (fun a b ha hb h1 h2 => by
                  by_cases e : b = j
                  · subst e
                    rw [← c4]
                    exact hs.2 i a c1 ha (by omega)
                  · exact o2 a b ha hb (by omega) (by omega)) (by omega)
              exact ⟨σ', q1, q2, hfr.trans q3⟩
            · have hgt := ltP_tri (hs.1 _ c1) (hs'.1 _ c2) c4 c3
              have hv1 : ¬ V ≤ 0 := fun z => by
                have : V = 0 := Int32.le_antisymm z hv0
                rw [← hV] at this
                exact c4 ((cmp0 (hs.1 _ c1) (hs'.1 _ c2)).mp this)
              rw [if_neg hv1]
              exact comeCase c2 fun a ha hia => by
                by_cases e : a = i
                · subst e; exact hgt
                · exact ltP_trans (hs'.1 _ c2) (hs.1 _ c1) (hs.1 _ ha) hgt (hs.2 i a c1 ha (by omega))
        · rw [dif_neg c2] at hV
          subst hV
          rw [if_neg (by decide)]
          exact goneCase c1 fun b hb hjb => by omega
      · rw [dif_neg c1] at hV
        subst hV
        rw [if_pos (by decide), if_neg (by decide)]
        exact comeCase (by omega) fun a ha hia => by omega
    by_cases c1 : i < P.length
    · rw [if_pos c1]
      exact hmain (Or.inl c1)
    · rw [if_neg c1]
      by_cases c2 : Q.length ≤ j
      · rw [if_pos c2]
        have e1 : i = P.length := by omega
        have e2 : j = Q.length := by omega
        subst e1 e2
        exact ⟨σ, rfl, hI, Fr.refl _ _⟩
      · rw [if_neg c2]
        exact hmain (Or.inr (by omega))
theorem Rn_list {σ : am_S} (h : Rn σ o bl) (hP : Pm σ p1 P) (hQ : Pm σ p2 Q) (hs : Srt P) (hs' : Srt Q) (h8 : 8 ≤ o) (hp1 : p1 + 4 ≤ o) (hp2 : p2 + 4 ≤ o) (hF : 8192 < F) :
    ∃ σ' sc, f_Rn_listChanges F σ o p1 p2 = some σ' ∧ LcI σ' o bl P Q sc P.length Q.length ∧ Fr (RnS o) σ σ' := by
  obtain ⟨ge, co, ct, sc, pa, ps, g, c, r1, r2, r3, r4, r5, r6, r7⟩ := h
  have hl1 := hP.lt
  have hl2 := hQ.lt
  unfold f_Rn_listChanges
  simp (disch := first | omega | (simp only [List.length_cons, List.length_nil] <;> omega)) only [sx_ck, xk_s, sx_gI, sx_gA, xg_s, xi_s, xa_s, List.getElem?_cons_zero, List.getElem?_cons_succ, sx_lI, sx_lA, xl_s, xl_v, sx_pI, sx_pA, xp_s, List.set_cons_zero, List.set_cons_succ, sx_sI, sx_sB, sx_sZ, sx_sS, xs_s, sx_cp, xc_s, put_at, put_ne, new_at, new_ne, Option.bind_some, am_b2, sx_len, xn_s, r1]
  generalize hτ : am_put _ _ _ = τ
  have hfr : Fr (RnS o) σ τ := hτ ▸ ((Fr.refl _ _).p ⟨by omega, by omega⟩).p ⟨by omega, by omega⟩
  rw [← nI_0]
  obtain ⟨σ', q1, q2, q3⟩ := Rn_listLoop (F := F) (sc := sc) (bl := bl) hs hs' h8 hp1 hp2 hF F 0 0 τ (hP.fr hfr fun a h1 h2 => by omega) (hQ.fr hfr fun a h1 h2 => by omega) ⟨ge, co, ct, pa, ps, ⟨by subst hτ; simp (disch := omega) only [put_at, put_ne, new_at, new_ne] <;> rfl, by subst hτ; simp (disch := omega) only [put_at, put_ne, new_at, new_ne, r2], by subst hτ; simp (disch := omega) only [put_at, put_ne, new_at, new_ne, r3], by subst hτ; simp (disch := omega) only [put_at, put_ne, new_at, new_ne, r4], by subst hτ; simp (disch := omega) only [put_at, put_ne, new_at, new_ne, r5], by subst hτ; simp (disch := omega) only [put_at, put_ne, new_at, new_ne, r6], by subst hτ; simp (disch := omega) only [put_at, put_ne, new_at, new_ne, r7]⟩, fun k hk => absurd hk (by simp [gL, flt_zero]), fun k hk => absurd hk (by simp [gL, flt_zero]), fun k hk => absurd hk (by simp [gL, flt_zero]), fun k hk => by omega⟩ (by omega) (by omega) (fun a b _ _ h _ => by omega) (fun a b _ _ _ h => by omega) (by omega)
  exact ⟨σ', sc, q1, q2, hfr.trans q3⟩
end RN1
