/-! ===== L3: Renames: pairing in the class ===== -/
/-- SCORE of GONE number g and COME number c, 0 with an empty TEXT -/
def rsc (B : List (List Int32)) (P Q : PL) (few : Bool) (g c : Nat) : Nat :=
  if (B.getD (valN P ((gA P Q).getD g 0)) []).length = 0 ∨ (B.getD (valN Q ((gA Q P).getD c 0)) []).length = 0 then 0 else
    if few = true then scr B (valN P ((gA P Q).getD g 0)) (valN Q ((gA Q P).getD c 0)) else if valN P ((gA P Q).getD g 0) = valN Q ((gA Q P).getD c 0) then 1000 else 0
def few (P Q : PL) : Bool := decide ((gA P Q).length ≤ 50) && decide ((gA Q P).length ≤ 50)
def rnS (B : List (List Int32)) (P Q : PL) : PSt := grd (rsc B P Q (few P Q)) (gA P Q).length (gA Q P).length (gA P Q).length st0
theorem scr_le {B : List (List Int32)} {x y : Nat} : scr B x y ≤ 1000 := by
  unfold scr
  split
  · omega
  · split
    · omega
    · split
      · omega
      · rename_i h
        have h1 : comL B (tln (B.getD x [])) (tln (B.getD y [])) ≤ (B.getD y []).length := Nat.le_trans (clen_le _ _ _) (sl_tln_le _)
        have h2 : comL B (tln (B.getD x [])) (tln (B.getD y [])) ≤ max (B.getD x []).length (B.getD y []).length := Nat.le_trans h1 (Nat.le_max_right _ _)
        apply Nat.div_le_of_le_mul
        rw [Nat.mul_comm]
        exact Nat.mul_le_mul_right _ h2
theorem rsc_le {B : List (List Int32)} {P Q : PL} {f : Bool} (g c : Nat) : rsc B P Q f g c ≤ 1000 := by
  unfold rsc
  split
  · omega
  · split
    · exact scr_le
    · split <;> omega
theorem rsc_01 {B : List (List Int32)} {P Q : PL} (g c : Nat) : rsc B P Q false g c = 0 ∨ rsc B P Q false g c = 1000 := by
  unfold rsc
  split
  · exact Or.inl rfl
  · simp only [Bool.false_eq_true, if_false]
    split
    · exact Or.inr rfl
    · exact Or.inl rfl
/-- whom PATH k of the first became -/
def prt (P Q : PL) (s : PSt) (k : Nat) : Option Nat := match fnd Q (pth P k) with
  | some j => some j
  | none => (s.1 (gL P Q k).length).map fun cv => (gA Q P).getD cv.1 0
def RnI (σ : am_S) (o bl : Nat) (P Q : PL) (sc : Nat → Int32) (s : PSt) : Prop := ∃ ge co ct pa ps, RnR σ o bl ge co ct sc pa ps (gA P Q).length (gA Q P).length ∧ hol ge (gA P Q) ∧ hol co (gA Q P) ∧ (∀ k, k < (gA Q P).length → ct k = bo (s.2 k)) ∧ (∀ k, k < P.length → pa k = oI (prt P Q s k)) ∧ ∀ g (h : g < (gA P Q).length) c v, s.1 g = some (c, v) → ps (gA P Q)[g] = nI v
theorem RnI.fr {σ σ1 : am_S} {o bl : Nat} {P Q : PL} {sc : Nat → Int32} {s : PSt} {S : Nat → Prop} (h : RnI σ o bl P Q sc s) (hf : Fr S σ σ1) (hd : ∀ a, o ≤ a → a ≤ o + 6 → ¬ S a) : RnI σ1 o bl P Q sc s := by
  obtain ⟨ge, co, ct, pa, ps, hR, h⟩ := h
  exact ⟨ge, co, ct, pa, ps, hR.fr hf hd, h⟩
theorem LcI.st0 {σ : am_S} {o bl : Nat} {P Q : PL} {sc : Nat → Int32} (h : LcI σ o bl P Q sc P.length Q.length) : RnI σ o bl P Q sc st0 := by
  obtain ⟨ge, co, ct, pa, ps, hR, h1, h2, h3, h4⟩ := h
  refine ⟨ge, co, ct, pa, ps, hR, h1, h2, fun k hk => h3 k hk, fun k hk => ?_, fun g _ c v hz => by cases hz⟩
  rw [h4 k hk]
  unfold prt
  cases fnd Q (pth P k) <;> rfl
theorem gA_get {P Q : PL} {g : Nat} (h : g < (gA P Q).length) : (gA P Q)[g] < P.length ∧ isG P Q (gA P Q)[g] = true ∧ (gL P Q (gA P Q)[g]).length = g := flt_get (isG P Q) P.length g h
theorem gA_len {P Q : PL} : (gA P Q).length ≤ P.length := flt_len _ _
theorem isG_none {P Q : PL} {k : Nat} (h : isG P Q k = true) : fnd Q (pth P k) = none := Option.isNone_iff_eq_none.mp h
theorem prt_gone {P Q : PL} {s : PSt} {g : Nat} (h : g < (gA P Q).length) : prt P Q s (gA P Q)[g] = (s.1 g).map fun cv => (gA Q P).getD cv.1 0 := by
  obtain ⟨h1, h2, h3⟩ := gA_get h
  unfold prt
  rw [isG_none h2, h3]
theorem prt_lt {P Q : PL} {s : PSt} {k j : Nat} (hC : ∀ g c v, s.1 g = some (c, v) → c < (gA Q P).length) (h : prt P Q s k = some j) : j < Q.length := by
  unfold prt at h
  split at h
  · rename_i i hi
    cases h
    exact fnd_lt hi
  · cases hs : s.1 (gL P Q k).length with
    | none => rw [hs] at h; cases h
    | some cv =>
      obtain ⟨c, v⟩ := cv
      rw [hs] at h
      have hc := hC _ c v hs
      have e : (gA Q P).getD c 0 = (gA Q P)[c] := by simp [hc]
      simp only [Option.map_some, Option.some.injEq, e] at h
      rw [← h]
      exact (gA_get hc).1
theorem joinS_c {s : PSt} {g c v C : Nat} (hC : ∀ g c v, s.1 g = some (c, v) → c < C) (hc : c < C) : ∀ g' c' v', (joinS s g c v).1 g' = some (c', v') → c' < C := by
  intro g' c' v' h
  simp only [joinS] at h
  split at h
  · cases h; exact hc
  · exact hC g' c' v' h
theorem nI_mulL (a n : Nat) : nI a * (no_index (OfNat.ofNat n) : Int32) = nI (a * OfNat.ofNat n) := nI_mul a n
theorem nI_rem50 {a : Nat} (h : a < 2 ^ 31) : am_rem (nI a) 50 = nI (a % 50) := by
  unfold am_rem
  have e : nI a / 50 = nI (a / 50) := nI_div (b := 50) h (by omega) (by omega)
  rw [e]
  have e2 : nI (a / 50) * 50 = nI (a / 50 * 50) := nI_mul _ 50
  rw [e2, nI_sub (by omega)]
  congr 1
  omega
section RJ
variable {o bl p1 p2 F : Nat} {P Q : PL} {sc : Nat → Int32} {B : List (List Int32)}
theorem Rn_join {σ : am_S} {s : PSt} (h : RnI σ o bl P Q sc s) (h8 : 8 ≤ o) (hl : P.length ≤ 400) (hl2 : Q.length ≤ 400) {g c v : Nat} (hg : g < (gA P Q).length) (hc : c < (gA Q P).length) : ∃ σ', f_Rn_join F σ o (nI g) (nI c) (nI v) = some σ' ∧ RnI σ' o bl P Q sc (joinS s g c v) ∧ Fr (RnS o) σ σ' := by
  obtain ⟨ge, co, ct, pa, ps, ⟨r1, r2, r3, r4, r5, r6, r7⟩, h1, h2, h3, h4, h5⟩ := h
  obtain ⟨k1, k2, k3⟩ := gA_get hg
  have n1 := gA_len (P := P) (Q := Q)
  have n2 := gA_len (P := Q) (Q := P)
  have eg := h1 g hg
  have ec := h2 c hc
  unfold f_Rn_join
  simp (disch := first | omega | (simp only [List.length_cons, List.length_nil] <;> omega)) only [sx_ck, xk_s, sx_gI, sx_gA, xg_s, xi_s, xa_s, List.getElem?_cons_zero, List.getElem?_cons_succ, sx_lI, sx_lA, xl_s, xl_v, sx_pI, sx_pA, xp_s, List.set_cons_zero, List.set_cons_succ, sx_sI, sx_sB, sx_sZ, sx_sS, xs_s, sx_cp, xc_s, put_at, put_ne, new_at, new_ne, Option.bind_some, am_b2, sx_len, xn_s, r1, r2, r3, r4, r6, r7, eg, ec]
  refine ⟨_, rfl, ⟨ge, co, uf ct c ((1 : Int32) &&& 1), uf pa (gA P Q)[g] (nI (gA Q P)[c]), uf ps (gA P Q)[g] (nI v), ⟨by simp (disch := omega) only [put_at, put_ne, new_at, new_ne, r1], by simp (disch := omega) only [put_at, put_ne, new_at, new_ne, r2], by simp (disch := omega) only [put_at, put_ne, new_at, new_ne, r3], by simp (disch := omega) only [put_at, put_ne, new_at, new_ne], by simp (disch := omega) only [put_at, put_ne, new_at, new_ne, r5], by simp (disch := omega) only [put_at, put_ne, new_at, new_ne], by simp (disch := omega) only [put_at, put_ne, new_at, new_ne]⟩, h1, h2, fun k hk => ?_, fun k hk => ?_, fun g' hg' c' v' hz => ?_⟩, (((Fr.refl _ _).p ⟨by omega, by omega⟩).p ⟨by omega, by omega⟩).p ⟨by omega, by omega⟩⟩
  · simp only [joinS]
    by_cases e : k = c
    · subst e
      rw [uf_same, if_pos rfl]; rfl
    · rw [uf_ne e, if_neg e, h3 k hk]
  · by_cases e : k = (gA P Q)[g]
    · subst e
      rw [uf_same, prt_gone hg]
      simp [joinS, hc, oI]
    · rw [uf_ne e, h4 k hk]
      congr 1
      unfold prt
      cases hf : fnd Q (pth P k) with
      | some j => rfl
      | none =>
        have hne : (gL P Q k).length ≠ g := by
          intro z
          have hi := flt_idx (isG P Q) hk (show isG P Q k = true by unfold isG; rw [hf]; rfl)
          have z' : (flt (isG P Q) k).length = g := z
          rw [z'] at hi
          obtain ⟨_, hi2⟩ := List.getElem?_eq_some_iff.mp hi
          exact e hi2.symm
        simp [joinS, hne]
  · simp only [joinS] at hz
    by_cases e : g' = g
    · subst e
      rw [if_pos rfl] at hz
      cases hz
      exact uf_same _ _ _
    · rw [if_neg e] at hz
      have hne : (gA P Q)[g'] ≠ (gA P Q)[g] := by
        intro z
        obtain ⟨-, -, k3'⟩ := gA_get hg'
        have hh : (gL P Q (gA P Q)[g']).length = (gL P Q (gA P Q)[g]).length := by rw [z]
        rw [k3, k3'] at hh
        exact e hh
      rw [uf_ne hne]
      exact h5 g' hg' c' v' hz
def eI (a : Option (Nat × Nat)) : Int32 := match a with
  | some (g, c) => nI (g * 50 + c)
  | none => -1
theorem eI_none : eI none = -1 := by simp [eI]
theorem eI_some (g c : Nat) : eI (some (g, c)) = nI (g * 50 + c) := by simp [eI]
/-- the SCORES lie there -/
def scH (sc : Nat → Int32) (f : Nat → Nat → Nat) (G C : Nat) : Prop := ∀ g c, g < G → c < C → sc (g * 50 + c) = nI (f g c)
theorem Rn_bestRow {σ : am_S} {s : PSt} {f : Nat → Nat → Nat} (h : RnI σ o bl P Q sc s) (hf : ∀ g c, f g c ≤ 1000) (hsc : scH sc f (gA P Q).length (gA Q P).length) (hG : (gA P Q).length ≤ 50) (hC : (gA Q P).length ≤ 50) {g : Nat} (hg : g < (gA P Q).length) {kk : Int32 → Int32 → Option Int32} : ∀ (m c : Nat) (a : PAc), a.2 ≤ 1000 → c ≤ (gA Q P).length → (gA Q P).length - c < m →
    f_Rn_bestFreePair_l40 σ F o (nI g) 1 kk m (eI a.1) (nI a.2) (nI c) = kk (eI ((List.range' c ((gA Q P).length - c)).foldl (bstep f s g) a).1) (nI ((List.range' c ((gA Q P).length - c)).foldl (bstep f s g) a).2) := by
  obtain ⟨ge, co, ct, pa, ps, ⟨r1, r2, r3, r4, r5, r6, r7⟩, h1, h2, h3, h4, h5⟩ := h
  intro m
  induction m with
  | zero => intro c a _ _ h; omega
  | succ m ih =>
    intro c a ha h6 h7
    rw [f_Rn_bestFreePair_l40]
    by_cases hc : (gA Q P).length ≤ c
    · simp (disch := first | omega | (simp only [List.length_cons, List.length_nil] <;> omega)) only [sx_ck, xk_s, sx_gI, sx_gA, xg_s, xi_s, xa_s, List.getElem?_cons_zero, List.getElem?_cons_succ, sx_lI, sx_lA, xl_s, xl_v, sx_pI, sx_pA, xp_s, List.set_cons_zero, List.set_cons_succ, sx_sI, sx_sB, sx_sZ, sx_sS, xs_s, sx_cp, xc_s, put_at, put_ne, new_at, new_ne, Option.bind_some, am_b2, sx_len, xn_s, r1]
      rw [if_pos (nI_le hc (by omega)), show (gA Q P).length - c = 0 by omega]
      rfl
    · have hc' : c < (gA Q P).length := by omega
      have hs := hsc g c hg hc'
      have hfl := hf g c
      simp (disch := first | omega | (simp only [List.length_cons, List.length_nil] <;> omega)) only [sx_ck, xk_s, sx_gI, sx_gA, xg_s, xi_s, xa_s, List.getElem?_cons_zero, List.getElem?_cons_succ, sx_lI, sx_lA, xl_s, xl_v, sx_pI, sx_pA, xp_s, List.set_cons_zero, List.set_cons_succ, sx_sI, sx_sB, sx_sZ, sx_sS, xs_s, sx_cp, xc_s, put_at, put_ne, new_at, new_ne, Option.bind_some, am_b2, sx_len, xn_s, r1, r4, r5, nI_mulL, nI_add, hs, nI_1, nI_leI]
      rw [if_neg (by omega), if_neg (by decide), h3 c hc']
      obtain ⟨d, hd⟩ : ∃ d, (gA Q P).length - c = d + 1 := ⟨(gA Q P).length - c - 1, by omega⟩
      have hd2 : (gA Q P).length - (c + 1) = d := by omega
      rw [hd, List.range'_succ, List.foldl_cons]
      have i1 := ih (c + 1) a ha (by omega) (by omega)
      have i2 := ih (c + 1) (some (g, c), f g c) hfl (by omega) (by omega)
      rw [hd2] at i1 i2
      cases ht : s.2 c with
      | true =>
        rw [if_neg (show ¬ bo true = 0 by decide), i1]
        have : bstep f s g a c = a := by unfold bstep; rw [if_neg (fun z => by rw [ht] at z; cases z.1)]
        rw [this]
      | false =>
        rw [if_pos (show bo false = 0 by decide)]
        by_cases hle : f g c ≤ a.2
        · have : bstep f s g a c = a := by unfold bstep; rw [if_neg (fun z => by have := z.2; omega)]
          rw [if_pos hle, i1, this]
        · have : bstep f s g a c = (some (g, c), f g c) := by unfold bstep; rw [if_pos ⟨ht, by omega⟩]
          rw [if_neg hle, this, ← i2]
          rfl
theorem Rn_bestLoop {σ : am_S} {s : PSt} {f : Nat → Nat → Nat} (h : RnI σ o bl P Q sc s) (hf : ∀ g c, f g c ≤ 1000) (hsc : scH sc f (gA P Q).length (gA Q P).length) (hG : (gA P Q).length ≤ 50) (hC : (gA Q P).length ≤ 50) (hl : P.length ≤ 400) (hcl : ∀ g c v, s.1 g = some (c, v) → c < (gA Q P).length) (hl2 : Q.length ≤ 400) (hF : 8192 < F) : ∀ (m g : Nat) (a : PAc), a.2 ≤ 1000 → g ≤ (gA P Q).length → (gA P Q).length - g < m →
    f_Rn_bestFreePair_l8 σ F o m (eI a.1) (nI a.2) (nI g) = some (eI ((List.range' g ((gA P Q).length - g)).foldl (brow f s (gA Q P).length) a).1) := by
  have hrow := fun (g : Nat) (hg : g < (gA P Q).length) (kk : Int32 → Int32 → Option Int32) (a : PAc) (ha : a.2 ≤ 1000) => Rn_bestRow (F := F) h hf hsc hG hC hg (kk := kk) F 0 a ha (by omega) (by omega)
  obtain ⟨ge, co, ct, pa, ps, ⟨r1, r2, r3, r4, r5, r6, r7⟩, h1, h2, h3, h4, h5⟩ := h
  intro m
  induction m with
  | zero => intro g a _ _ h; omega
  | succ m ih =>
    intro g a ha h6 h7
    rw [f_Rn_bestFreePair_l8]
    by_cases hc : (gA P Q).length ≤ g
    · simp (disch := first | omega | (simp only [List.length_cons, List.length_nil] <;> omega)) only [sx_ck, xk_s, sx_gI, sx_gA, xg_s, xi_s, xa_s, List.getElem?_cons_zero, List.getElem?_cons_succ, sx_lI, sx_lA, xl_s, xl_v, sx_pI, sx_pA, xp_s, List.set_cons_zero, List.set_cons_succ, sx_sI, sx_sB, sx_sZ, sx_sS, xs_s, sx_cp, xc_s, put_at, put_ne, new_at, new_ne, Option.bind_some, am_b2, sx_len, xn_s, r1]
      rw [if_pos (nI_le hc (by omega)), show (gA P Q).length - g = 0 by omega]
      rfl
    · have hg : g < (gA P Q).length := by omega
      obtain ⟨k1, k2, k3⟩ := gA_get hg
      have eg := h1 g hg
      have ep := h4 _ k1
      simp (disch := first | omega | (simp only [List.length_cons, List.length_nil] <;> omega)) only [sx_ck, xk_s, sx_gI, sx_gA, xg_s, xi_s, xa_s, List.getElem?_cons_zero, List.getElem?_cons_succ, sx_lI, sx_lA, xl_s, xl_v, sx_pI, sx_pA, xp_s, List.set_cons_zero, List.set_cons_succ, sx_sI, sx_sB, sx_sZ, sx_sS, xs_s, sx_cp, xc_s, put_at, put_ne, new_at, new_ne, Option.bind_some, am_b2, sx_len, xn_s, r1, r2, r6, eg, ep, nI_leI]
      rw [if_neg (by omega), prt_gone hg]
      obtain ⟨d, hd⟩ : ∃ d, (gA P Q).length - g = d + 1 := ⟨(gA P Q).length - g - 1, by omega⟩
      have hd2 : (gA P Q).length - (g + 1) = d := by omega
      rw [hd, List.range'_succ, List.foldl_cons]
      unfold f_Rn_bestFreePair_j35 f_Rn_bestFreePair_j101
      have e0 : ∀ kk : Int32 → Int32 → Option Int32, f_Rn_bestFreePair_l40 σ F o (nI g) 0 kk F (eI a.1) (nI a.2) 0 = kk (eI a.1) (nI a.2) := fun kk => by
        obtain ⟨F', rfl⟩ : ∃ F', F = F' + 1 := ⟨F - 1, by omega⟩
        rw [f_Rn_bestFreePair_l40]
        simp (disch := first | omega | (simp only [List.length_cons, List.length_nil] <;> omega)) only [sx_ck, xk_s, sx_gI, sx_gA, xg_s, xi_s, xa_s, List.getElem?_cons_zero, List.getElem?_cons_succ, sx_lI, sx_lA, xl_s, xl_v, sx_pI, sx_pA, xp_s, List.set_cons_zero, List.set_cons_succ, sx_sI, sx_sB, sx_sZ, sx_sS, xs_s, sx_cp, xc_s, put_at, put_ne, new_at, new_ne, Option.bind_some, am_b2, sx_len, xn_s, r1]
        split
        · rfl
        · simp
      cases hs : s.1 g with
      | some cv =>
        obtain ⟨c, v⟩ := cv
        have hlt := hcl g c v hs
        have hlt2 := (gA_get hlt).1
        have e1 : (gA Q P).getD c 0 = (gA Q P)[c] := by simp [hlt]
        have hp : (0 : Int32) ≤ oI (some ((gA Q P).getD c 0)) := by rw [e1]; exact nI_pos' (by omega)
        simp only [Option.map_some]
        rw [if_pos hp, e0, nI_1, ih (g + 1) a ha (by omega) (by omega), hd2]
        have : brow f s (gA Q P).length a g = a := by unfold brow; rw [hs]; rfl
        rw [this]
      | none =>
        simp only [Option.map_none]
        rw [if_neg (show ¬ (0 : Int32) ≤ oI none by decide), ← nI_0, hrow g hg _ a ha, Nat.sub_zero]
        have hb : brow f s (gA Q P).length a g = (List.range' 0 (gA Q P).length).foldl (bstep f s g) a := by unfold brow; rw [hs]; rfl
        rw [← hb, nI_1]
        have hle : (brow f s (gA Q P).length a g).2 ≤ 1000 := by
          rw [hb]
          refine foldl_inv (fun b : PAc => b.2 ≤ 1000) _ a ha fun b c _ hb => ?_
          unfold bstep
          split
          · exact hf g c
          · exact hb
        rw [ih (g + 1) _ hle (by omega) (by omega), hd2]
theorem Rn_best {σ : am_S} {s : PSt} {f : Nat → Nat → Nat} (h : RnI σ o bl P Q sc s) (hf : ∀ g c, f g c ≤ 1000) (hsc : scH sc f (gA P Q).length (gA Q P).length) (hG : (gA P Q).length ≤ 50) (hC : (gA Q P).length ≤ 50) (hl : P.length ≤ 400) (hcl : ∀ g c v, s.1 g = some (c, v) → c < (gA Q P).length) (hl2 : Q.length ≤ 400) (hF : 8192 < F) : f_Rn_bestFreePair F σ o = some (eI (best f s (gA P Q).length (gA Q P).length).1) := by
  have hb := Rn_bestLoop (F := F) h hf hsc hG hC hl hcl hl2 hF F 0 (none, 499) (show (499 : Nat) ≤ 1000 by omega) (by omega) (by omega)
  obtain ⟨ge, co, ct, pa, ps, ⟨r1, -⟩, -⟩ := h
  unfold f_Rn_bestFreePair best
  rw [am_ck_of r1]
  exact hb
theorem Rn_byScore {f : Nat → Nat → Nat} (hf : ∀ g c, f g c ≤ 1000) (hsc : scH sc f (gA P Q).length (gA Q P).length) (hG : (gA P Q).length ≤ 50) (hC : (gA Q P).length ≤ 50) (hl : P.length ≤ 400) (hl2 : Q.length ≤ 400) (h8 : 8 ≤ o) (hF : 8192 < F) : ∀ (m r : Nat) (σ : am_S) (s : PSt), RnI σ o bl P Q sc s → (∀ g c v, s.1 g = some (c, v) → c < (gA Q P).length) → r ≤ (gA P Q).length → (gA P Q).length - r < m →
    ∃ σ', f_Rn_pairByScore_l2 F o m (nI r) σ = some σ' ∧ RnI σ' o bl P Q sc (grd f (gA P Q).length (gA Q P).length ((gA P Q).length - r) s) ∧ Fr (RnS o) σ σ' := by
  intro m
  induction m with
  | zero => intro r _ _ _ _ _ h; omega
  | succ m ih =>
    intro r σ s hI hcl h6 h7
    have hb := Rn_best (F := F) hI hf hsc hG hC hl hcl hl2 hF
    obtain ⟨ge, co, ct, pa, ps, ⟨r1, r2, r3, r4, r5, r6, r7⟩, -⟩ := id hI
    rw [f_Rn_pairByScore_l2]
    by_cases hc : (gA P Q).length ≤ r
    · simp (disch := first | omega | (simp only [List.length_cons, List.length_nil] <;> omega)) only [sx_ck, xk_s, sx_gI, sx_gA, xg_s, xi_s, xa_s, List.getElem?_cons_zero, List.getElem?_cons_succ, sx_lI, sx_lA, xl_s, xl_v, sx_pI, sx_pA, xp_s, List.set_cons_zero, List.set_cons_succ, sx_sI, sx_sB, sx_sZ, sx_sS, xs_s, sx_cp, xc_s, put_at, put_ne, new_at, new_ne, Option.bind_some, am_b2, sx_len, xn_s, r1]
      rw [if_pos (nI_le hc (by omega)), show (gA P Q).length - r = 0 by omega]
      exact ⟨σ, rfl, hI, Fr.refl _ _⟩
    · rw [hb]
      simp (disch := first | omega | (simp only [List.length_cons, List.length_nil] <;> omega)) only [sx_ck, xk_s, sx_gI, sx_gA, xg_s, xi_s, xa_s, List.getElem?_cons_zero, List.getElem?_cons_succ, sx_lI, sx_lA, xl_s, xl_v, sx_pI, sx_pA, xp_s, List.set_cons_zero, List.set_cons_succ, sx_sI, sx_sB, sx_sZ, sx_sS, xs_s, sx_cp, xc_s, put_at, put_ne, new_at, new_ne, Option.bind_some, am_b2, sx_len, xn_s, r1, r5, nI_leI]
      rw [if_neg hc]
      obtain ⟨d, hd⟩ : ∃ d, (gA P Q).length - r = d + 1 := ⟨(gA P Q).length - r - 1, by omega⟩
      have hok := best_ok f s (gA P Q).length (gA Q P).length
      rw [hd, grd]
      cases hbb : best f s (gA P Q).length (gA Q P).length with
      | mk a v =>
        rw [hbb] at hok
        cases a with
        | none =>
          simp only [eI_none]
          rw [if_neg (by decide)]
          exact ⟨σ, rfl, hI, Fr.refl _ _⟩
        | some gc =>
          obtain ⟨g, c⟩ := gc
          rcases hok with ⟨hz, -⟩ | ⟨g', c', e1, e2, e3, e4, e5, e6, e7⟩
          · cases hz
          · cases e1
            simp only [eI_some]
            have hgc : g * 50 + c < 2500 := by omega
            have hsv := hsc g c e3 e4
            have ev : nI (f g c) = nI v := by rw [← e2]
            have ediv : nI (g * 50 + c) / 50 = nI g := by
              have e := nI_div (a := g * 50 + c) (b := 50) (by omega) (by omega) (by omega)
              have e' : (g * 50 + c) / 50 = g := by omega
              rw [e'] at e
              exact e
            have erem : am_rem (nI (g * 50 + c)) 50 = nI c := by
              rw [nI_rem50 (by omega)]
              congr 1
              omega
            rw [if_pos (nI_pos' (n := g * 50 + c) (by omega))]
            simp (disch := first | omega | (simp only [List.length_cons, List.length_nil] <;> omega)) only [sx_ck, xk_s, sx_gI, sx_gA, xg_s, xi_s, xa_s, List.getElem?_cons_zero, List.getElem?_cons_succ, sx_lI, sx_lA, xl_s, xl_v, sx_pI, sx_pA, xp_s, List.set_cons_zero, List.set_cons_succ, sx_sI, sx_sB, sx_sZ, sx_sS, xs_s, sx_cp, xc_s, put_at, put_ne, new_at, new_ne, Option.bind_some, am_b2, sx_len, xn_s, hsv, ediv, erem, ev]
            obtain ⟨σ1, q1, q2, q3⟩ := Rn_join (F := F) (v := v) hI h8 hl hl2 e3 e4
            rw [q1, Option.bind_some, nI_1]
            obtain ⟨σ', p1, p2, p3⟩ := ih (r + 1) σ1 (joinS s g c v) q2 (joinS_c hcl e4) (by omega) (by omega)
            rw [show (gA P Q).length - (r + 1) = d by omega] at p2
            exact ⟨σ', p1, p2, q3.trans p3⟩
end RJ
