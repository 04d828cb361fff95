/-! ===== L3: the reference: pairing GONE with COME ===== -/
def aG (a : PAc) : Int32 := match a.1 with
  | some (g, _) => nI g
  | none => -1
def aC (a : PAc) : Int32 := match a.1 with
  | some (_, c) => nI c
  | none => -1
/-- an empty TEXT, by where its bytes begin and end -/
theorem BLK.at {g : Gh} {σ : am_S} {B : List (List Int32)} (h : BLK g σ B) {k : Nat} (hk : k < B.length) : ∃ u v : Nat, am_lI σ .int 117 (nI k) = some (nI u) ∧ am_lI σ .int 117 (nI (k + 1)) = some (nI v) ∧ u < 2 ^ 31 ∧ v < 2 ^ 31 ∧ (u = v ↔ B[k].length = 0) := by
  obtain ⟨b1, b2, bf, b3, b4⟩ := h
  have hl := Ro_len b1
  have hs := sl_flat B
  have e1 := b4 k (by omega)
  have e2 := b4 (k + 1) (by omega)
  have su := sl_take_succ hk
  have h1 := sl_take_le (k := k + 1) B
  refine ⟨_, _, by rw [lI_of b3.1 (by omega) (by omega), e1], by rw [lI_of b3.1 (by omega) (by omega), e2], by omega, by omega, by omega⟩
section RG
variable {g : Gh} {F p1 p2 ra : Nat} {P Q : PL} {B : List (List Int32)} {th bm gv fm : Int32} {s : PSt} {N : Nat → Nat → Prop} {fw : Bool}
theorem Md_r278 {σ : am_S} (hI : RI g σ th bm gv fm p1 p2 ra B P Q s N) (hN : fw = true → (∀ i c, N i c) ∧ (gA P Q).length ≤ 50 ∧ (gA Q P).length ≤ 50) (hl : P.length ≤ 400) (hl2 : Q.length ≤ 400) (hVP : VB B P) (hVQ : VB B Q) {i : Nat} (hi : i < (gA P Q).length) {kk : Int32 → Int32 → Int32 → am_S → Option am_S} : ∀ (m c : Nat) (a : PAc), a.2 ≤ 1000 → c ≤ (gA Q P).length → (gA Q P).length - c < m →
    f_Md_renames_l278 F 95 p1 p2 (bo fw) (nI i) kk m (nI a.2) (aG a) (aC a) (nI c) σ = (let a' := if (s.1 i).isNone = true then (List.range' c ((gA Q P).length - c)).foldl (bstep (rsc B P Q fw) s i) a else a; kk (nI a'.2) (aG a') (aC a') σ) := by
  obtain ⟨hc, hP, hQ, hS, hT, hB, ⟨ge, c1, c2⟩, ⟨co, d1, d2⟩, ⟨ar, e1, e2⟩, ⟨an, f1, f2⟩, sc, s1, s2⟩ := hI
  have z := hc.1
  unfold MDC at z
  have n1 := gA_len (P := P) (Q := Q)
  have n2 := gA_len (P := Q) (Q := P)
  have hb5 := hB.2.1
  intro m
  induction m with
  | zero => intro c a _ _ h; omega
  | succ m ih =>
    intro c a ha hc0 hm
    rw [f_Md_renames_l278, gI_of z (k := 19) rfl, Option.bind_some]
    by_cases cc : (gA Q P).length ≤ c
    · rw [if_pos (nI_le cc (by omega)), show (gA Q P).length - c = 0 by omega]
      simp
    · have hc' : c < (gA Q P).length := by omega
      rw [if_neg (nI_ge hc' (by omega))]
      obtain ⟨d, hd⟩ : ∃ d, (gA Q P).length - c = d + 1 := ⟨(gA Q P).length - c - 1, by omega⟩
      have hd2 : (gA Q P).length - (c + 1) = d := by omega
      have ih1 := ih (c + 1)
      rw [hd2] at ih1
      obtain ⟨k1, k2, k3⟩ := gA_get hi
      obtain ⟨l1, l2, l3⟩ := gA_get hc'
      have ege := c2 i hi
      have eco := d2 c hc'
      have lge := lI_of c1.1 (i := i) (by omega) (by omega)
      have lco := lI_of d1.1 (i := c) (by omega) (by omega)
      rw [ege] at lge
      rw [eco] at lco
      rw [gA_of z (k := 15) rfl, Option.bind_some, lge, Option.bind_some]
      cases hs : (s.1 i).isNone with
      | false =>
        rw [if_neg Bool.false_ne_true, if_pos (show (-1 : Int32) < 0 by decide), nI_1, ih1 a ha (by omega) (by omega), hs]
        simp
      | true =>
        rw [if_pos rfl, if_neg (nI_pos (by omega)), gA_of z (k := 16) rfl, Option.bind_some, lco, Option.bind_some, hd, List.range'_succ, List.foldl_cons, if_pos rfl]
        rw [hs] at lge
        rw [if_pos rfl] at lge
        have keep : bstep (rsc B P Q fw) s i a c = a → f_Md_renames_l278 F 95 p1 p2 (bo fw) (nI i) kk m (nI a.2) (aG a) (aC a) (nI c + 1) σ = (let a' := (List.range' (c + 1) d).foldl (bstep (rsc B P Q fw) s i) (bstep (rsc B P Q fw) s i a c); kk (nI a'.2) (aG a') (aC a') σ) := by
          intro hk
          rw [hk, nI_1, ih1 a ha (by omega) (by omega), hs]
          simp
        cases hs2 : s.2 c with
        | true =>
          rw [if_pos rfl, if_neg (show ¬ (0 : Int32) ≤ -1 by decide)]
          exact keep (by unfold bstep; rw [if_neg (fun q => by rw [hs2] at q; cases q.1)])
        | false =>
          rw [hs2, if_neg Bool.false_ne_true] at lco
          rw [if_neg Bool.false_ne_true, if_pos (nI_pos' (by omega))]
          obtain ⟨v1, v2⟩ := Md_gval hP hVP k1
          obtain ⟨w1, w2⟩ := Md_gval hQ hVQ l1
          have hx := (hVP _ k1).1
          have hy := (hVQ _ l1).1
          obtain ⟨ux, vx, x1, x2, x3, x4, x5⟩ := hB.at hx
          obtain ⟨uy, vy, y1, y2, y3, y4, y5⟩ := hB.at hy
          have m3 : ∀ n : Nat, (3 : Int32) * nI n = nI (3 * n) := fun n => nI_mul 3 n
          simp only [v1, gA_of z (k := 15) rfl, lge, m3, v2, w1, gA_of z (k := 16) rfl, lco, w2, gA_of z (k := 3) rfl, x1, x2, y1, y2, Option.bind_some, nI_1]
          simp only [nI_eq x3 x4, nI_eq y3 y4, x5, y5]
          have hrs : ∀ f : Bool, rsc B P Q f i c = if B[valN P (gA P Q)[i]].length = 0 ∨ B[valN Q (gA Q P)[c]].length = 0 then 0 else if f = true then scr B (valN P (gA P Q)[i]) (valN Q (gA Q P)[c]) else if valN P (gA P Q)[i] = valN Q (gA Q P)[c] then 1000 else 0 := by
            intro f
            cases f with
            | true => rw [rsc_T hVP hVQ hi hc']; simp
            | false => rw [rsc_F hVP hVQ hi hc']; simp
          have hrl := rsc_le (B := B) (P := P) (Q := Q) (f := fw) i c
          by_cases cx : B[valN P (gA P Q)[i]].length = 0
          · rw [if_pos cx, ← nI_1]
            exact keep (by unfold bstep; rw [if_neg (fun q => by have := q.2; rw [hrs, if_pos (Or.inl cx)] at this; omega)])
          · rw [if_neg cx]
            by_cases cy : B[valN Q (gA Q P)[c]].length = 0
            · rw [if_pos cy, ← nI_1]
              exact keep (by unfold bstep; rw [if_neg (fun q => by have := q.2; rw [hrs, if_pos (Or.inr cy)] at this; omega)])
            · rw [if_neg cy]
              have go : ∀ v : Nat, v = rsc B P Q fw i c → f_Md_renames_j418 F (nI a.2) (aG a) (aC a) (nI i) (nI c) (nI v) (fun y6 y7 y8 y10 τ => f_Md_renames_l278 F 95 p1 p2 (bo fw) (nI i) kk m y6 y7 y8 y10 τ) σ = (let a' := (List.range' (c + 1) d).foldl (bstep (rsc B P Q fw) s i) (bstep (rsc B P Q fw) s i a c); kk (nI a'.2) (aG a') (aC a') σ) := by
                intro v hv
                unfold f_Md_renames_j418
                by_cases hlt : a.2 < rsc B P Q fw i c
                · have hb : bstep (rsc B P Q fw) s i a c = (some (i, c), rsc B P Q fw i c) := by unfold bstep; rw [if_pos ⟨hs2, hlt⟩]
                  rw [if_pos (nI_lt (by omega) (by omega)), nI_1, hb, hv]
                  have := ih1 (some (i, c), rsc B P Q fw i c) hrl (by omega) (by omega)
                  rw [hs, if_pos rfl] at this
                  exact this
                · rw [if_neg (nI_nlt (by omega) (by omega))]
                  exact keep (by unfold bstep; rw [if_neg (fun q => hlt q.2)])
              rw [hrs, if_neg (by rintro (q | q); exact cx q; exact cy q)] at go
              simp only [bo_0, nI_eq (show valN P (gA P Q)[i] < 2 ^ 31 by omega) (show valN Q (gA Q P)[c] < 2 ^ 31 by omega)]
              cases hfw : fw with
              | false =>
                rw [hfw] at go
                rw [if_pos rfl]
                by_cases ce : valN P (gA P Q)[i] = valN Q (gA Q P)[c]
                · rw [if_pos ce]
                  exact go 1000 (by rw [if_neg Bool.false_ne_true, if_pos ce])
                · rw [if_neg ce]
                  exact go 0 (by rw [if_neg Bool.false_ne_true, if_neg ce])
              | true =>
                rw [hfw] at go
                obtain ⟨hN1, hN2, hN3⟩ := hN hfw
                rw [if_neg (by decide)]
                have idx : nI i * 50 + nI c = nI (i * 50 + c) := by rw [nI_mulL, nI_add]
                have es := s2 i c hi hc' (hN1 i c)
                rw [gA_getD hi, gA_getD hc'] at es
                rw [gA_of z (k := 17) rfl, Option.bind_some, idx, lI_of s1.1 (by omega) (by omega), Option.bind_some, es]
                exact go _ (by rw [if_pos rfl])
theorem Md_r266 {σ : am_S} (hI : RI g σ th bm gv fm p1 p2 ra B P Q s N) (hN : fw = true → (∀ i c, N i c) ∧ (gA P Q).length ≤ 50 ∧ (gA Q P).length ≤ 50) (hl : P.length ≤ 400) (hl2 : Q.length ≤ 400) (hVP : VB B P) (hVQ : VB B Q) (hF : 131072 < F) {kk : Int32 → Int32 → Int32 → am_S → Option am_S} : ∀ (m i : Nat) (a : PAc), a.2 ≤ 1000 → i ≤ (gA P Q).length → (gA P Q).length - i < m →
    f_Md_renames_l266 F 95 p1 p2 (bo fw) kk m (nI a.2) (aG a) (aC a) (nI i) σ = (let a' := (List.range' i ((gA P Q).length - i)).foldl (brow (rsc B P Q fw) s (gA Q P).length) a; kk (nI a'.2) (aG a') (aC a') σ) := by
  have n1 := gA_len (P := P) (Q := Q)
  have n2 := gA_len (P := Q) (Q := P)
  have hI' := id hI
  obtain ⟨hc, -⟩ := hI
  have z := hc.1
  unfold MDC at z
  intro m
  induction m with
  | zero => intro i a _ _ h; omega
  | succ m ih =>
    intro i a ha hi0 hm
    rw [f_Md_renames_l266, gI_of z (k := 18) rfl, Option.bind_some]
    by_cases cc : (gA P Q).length ≤ i
    · rw [if_pos (nI_le cc (by omega)), show (gA P Q).length - i = 0 by omega]
      simp
    · have hi : i < (gA P Q).length := by omega
      rw [if_neg (nI_ge hi (by omega))]
      obtain ⟨d, hd⟩ : ∃ d, (gA P Q).length - i = d + 1 := ⟨(gA P Q).length - i - 1, by omega⟩
      have hd2 : (gA P Q).length - (i + 1) = d := by omega
      have h0 := Md_r278 (F := F) hI' hN hl hl2 hVP hVQ hi (kk := fun y6 y7 y8 τ => f_Md_renames_j448 F y6 y7 y8 (nI i) (fun y6 y7 y8 y9 τ => f_Md_renames_l266 F 95 p1 p2 (bo fw) kk m y6 y7 y8 y9 τ) τ) F 0 a ha (by omega) (by omega)
      rw [nI_0, Nat.sub_zero] at h0
      have hb : brow (rsc B P Q fw) s (gA Q P).length a i = if (s.1 i).isNone = true then (List.range' 0 (gA Q P).length).foldl (bstep (rsc B P Q fw) s i) a else a := rfl
      rw [← hb] at h0
      rw [h0]
      simp only
      unfold f_Md_renames_j448
      have hle : (brow (rsc B P Q fw) s (gA Q P).length a i).2 ≤ 1000 := by
        rw [hb]
        split
        · refine foldl_inv (fun b : PAc => b.2 ≤ 1000) _ a ha fun b c _ hb => ?_
          unfold bstep
          split
          · exact rsc_le i c
          · exact hb
        · exact ha
      rw [nI_1]
      refine (ih (i + 1) _ hle (by omega) (by omega)).trans ?_
      rw [hd, List.range'_succ, List.foldl_cons, hd2]
theorem RI.join {σ : am_S} (hI : RI g σ th bm gv fm p1 p2 ra B P Q s N) (hp1 : 97 ≤ p1 ∧ p1 + 5 ≤ 114) (hp2 : 97 ≤ p2 ∧ p2 + 5 ≤ 114) (hra : ra = 157 ∨ ra = 158) (hl : P.length ≤ 400) (hl2 : Q.length ≤ 400) {i c v : Nat} (hi : i < (gA P Q).length) (hc' : c < (gA Q P).length) (hs1 : s.1 i = none) (hs2 : s.2 c = false) {kk : am_S → Option am_S} :
    ∃ σ', f_Md_renames_j454 F 95 ra 159 (nI v) (nI i) (nI c) kk σ = kk σ' ∧ RI g σ' th bm gv fm p1 p2 ra B P Q (joinS s i c v) N ∧ Fo (RNT ra) g σ g σ' := by
  obtain ⟨hc, hP, hQ, hS, hT, hB, ⟨ge, c1, c2⟩, ⟨co, d1, d2⟩, ⟨ar, e1, e2⟩, ⟨an, f1, f2⟩, sc, s1, s2⟩ := hI
  have z := hc.1
  unfold MDC at z
  have n1 := gA_len (P := P) (Q := Q)
  have n2 := gA_len (P := Q) (Q := P)
  obtain ⟨k1, k2, k3⟩ := gA_get hi
  obtain ⟨l1, l2, l3⟩ := gA_get hc'
  have lge := lI_of c1.1 (i := i) (by omega) (by omega)
  have lco := lI_of d1.1 (i := c) (by omega) (by omega)
  rw [c2 i hi, hs1, if_pos (show (none : Option (Nat × Nat)).isNone = true from rfl)] at lge
  rw [d2 c hc', hs2, if_neg Bool.false_ne_true] at lco
  obtain ⟨σ1, q1, q2, q3⟩ := e1.si (v := nI (gA Q P)[c]) (by omega) (show (gA P Q)[i] < 1700 by omega) (by omega)
  have f1a := f1.fo q3 (by omega)
  have c1a := c1.fo q3 (by omega)
  have d1a := d1.fo q3 (by omega)
  obtain ⟨σ2, r1, r2, r3⟩ := f1a.si (v := nI v) (by omega) (show (gA P Q)[i] < 1700 by omega) (by omega)
  have c1b := c1a.fo r3 (by omega)
  have d1b := d1a.fo r3 (by omega)
  obtain ⟨σ3, t1, t2, t3⟩ := c1b.si (v := -1) (by omega) (show i < 400 by omega) (by omega)
  have d1c := d1b.fo t3 (by omega)
  obtain ⟨σ4, u1, u2, u3⟩ := d1c.si (v := -1) (by omega) (show c < 400 by omega) (by omega)
  have z1 := (hc.fo q3 (by omega)).1
  have z2 := ((hc.fo q3 (by omega)).fo r3 (by omega)).1
  have z3 := (((hc.fo q3 (by omega)).fo r3 (by omega)).fo t3 (by omega)).1
  unfold MDC at z1 z2 z3
  have lge1 := lI_of c1a.1 (i := i) (by omega) (by omega)
  rw [c2 i hi, hs1, if_pos (show (none : Option (Nat × Nat)).isNone = true from rfl)] at lge1
  unfold f_Md_renames_j454
  rw [if_pos (nI_pos' (by omega))]
  simp only [gA_of z (k := 15) rfl, lge, gA_of z (k := 16) rfl, lco, q1, gA_of z1 (k := 15) rfl, lge1, r1, gA_of z2 (k := 15) rfl, t1, gA_of z3 (k := 16) rfl, u1, Option.bind_some]
  have W1 : Fo (RNT ra) g σ g σ1 := q3.mono fun a ha => by unfold RNT; omega
  have W2 : Fo (RNT ra) g σ1 g σ2 := r3.mono fun a ha => by unfold RNT; omega
  have W3 : Fo (RNT ra) g σ2 g σ3 := t3.mono fun a ha => by unfold RNT; omega
  have W4 : Fo (RNT ra) g σ3 g σ4 := u3.mono fun a ha => by unfold RNT; omega
  have W := (W1.trans W2).trans (W3.trans W4)
  have hS1 : SCA g σ1 := by
    rcases hra with rfl | rfl
    · exact hS.w q3 rfl q2
    · exact hS.w q3 rfl q2
  refine ⟨σ4, rfl, ⟨?_, ?_, ?_, ((hS1.w r3 rfl r2).w t3 rfl t2).w u3 rfl u2, ?_, ?_, ⟨_, t2.fo u3 (by omega), ?_⟩, ⟨_, u2, ?_⟩, ⟨_, ((q2.fo r3 (by omega)).fo t3 (by omega)).fo u3 (by omega), ?_⟩, ⟨_, (r2.fo t3 (by omega)).fo u3 (by omega), ?_⟩, sc, ?_, s2⟩, W⟩
  · exact (((hc.fo q3 (by omega)).fo r3 (by omega)).fo t3 (by omega)).fo u3 (by omega)
  · exact (((hP.fo q3 fun a _ _ => by omega).fo r3 fun a _ _ => by omega).fo t3 fun a _ _ => by omega).fo u3 fun a _ _ => by omega
  · exact (((hQ.fo q3 fun a _ _ => by omega).fo r3 fun a _ _ => by omega).fo t3 fun a _ _ => by omega).fo u3 fun a _ _ => by omega
  · exact (((hT.fo q3 fun a _ _ => by omega).fo r3 fun a _ _ => by omega).fo t3 fun a _ _ => by omega).fo u3 fun a _ _ => by omega
  · exact (((hB.fo q3 (by omega) (by omega)).fo r3 (by omega) (by omega)).fo t3 (by omega) (by omega)).fo u3 (by omega) (by omega)
  · intro k hk
    by_cases e : k = i
    · subst e
      rw [uf_same]
      simp [joinS]
    · rw [uf_ne e, c2 k hk]
      simp [joinS, e]
  · intro k hk
    by_cases e : k = c
    · subst e
      rw [uf_same]
      simp [joinS]
    · rw [uf_ne e, d2 k hk]
      simp [joinS, e]
  · intro k hk
    by_cases e : k = (gA P Q)[i]
    · subst e
      rw [uf_same]
      unfold prR
      rw [if_pos k2, k3]
      simp [joinS, hc', oI]
    · rw [uf_ne e, e2 k hk]
      congr 1
      unfold prR
      by_cases hg : isG P Q k = true
      · rw [if_pos hg, if_pos hg]
        have hne : (gL P Q k).length ≠ i := by
          intro z
          have hi2 := flt_idx (isG P Q) hk hg
          have z' : (flt (isG P Q) k).length = i := z
          rw [z'] at hi2
          obtain ⟨_, hi3⟩ := List.getElem?_eq_some_iff.mp hi2
          exact e hi3.symm
        simp [joinS, hne]
      · rw [if_neg hg, if_neg hg]
  · intro i' hi' c'' v' hz
    simp only [joinS] at hz
    by_cases e : i' = i
    · subst e
      rw [if_pos rfl] at hz
      cases hz
      exact uf_same _ _ _
    · rw [if_neg e] at hz
      have hne : (gA P Q)[i'] ≠ (gA P Q)[i] := by
        intro z
        obtain ⟨-, -, k3'⟩ := gA_get hi'
        have hh : (gL P Q (gA P Q)[i']).length = (gL P Q (gA P Q)[i]).length := by rw [z]
        rw [k3, k3'] at hh
        exact e hh
      rw [uf_ne hne]
      exact f2 i' hi' c'' v' hz
  · exact (((s1.fo q3 (by omega)).fo r3 (by omega)).fo t3 (by omega)).fo u3 (by omega)
theorem Md_r252 (hN : fw = true → (∀ i c, N i c) ∧ (gA P Q).length ≤ 50 ∧ (gA Q P).length ≤ 50) (hp1 : 97 ≤ p1 ∧ p1 + 5 ≤ 114) (hp2 : 97 ≤ p2 ∧ p2 + 5 ≤ 114) (hra : ra = 157 ∨ ra = 158) (hl : P.length ≤ 400) (hl2 : Q.length ≤ 400) (hVP : VB B P) (hVQ : VB B Q) (hF : 131072 < F) : ∀ (m n : Nat) (s : PSt) (σ : am_S), RI g σ th bm gv fm p1 p2 ra B P Q s N → nfr s (gA P Q).length < m → nfr s (gA P Q).length ≤ n →
    ∃ σ', f_Md_renames_l252 F 95 p1 p2 ra 159 (bo fw) m σ = some σ' ∧ RI g σ' th bm gv fm p1 p2 ra B P Q (grd (rsc B P Q fw) (gA P Q).length (gA Q P).length n s) N ∧ Fo (RNT ra) g σ g σ' := by
  intro m
  induction m with
  | zero => intro n s σ _ h; omega
  | succ m ih =>
    intro n s σ hI hm hn
    have n1 := gA_len (P := P) (Q := Q)
    rw [f_Md_renames_l252]
    have h0 := Md_r266 (F := F) hI hN hl hl2 hVP hVQ hF (kk := fun y6 y7 y8 τ => f_Md_renames_j454 F 95 ra 159 y6 y7 y8 (fun τ => f_Md_renames_l252 F 95 p1 p2 ra 159 (bo fw) m τ) τ) F 0 (none, 499) (show 499 ≤ 1000 by omega) (by omega) (by omega)
    rw [Nat.sub_zero] at h0
    have hb : (List.range' 0 (gA P Q).length).foldl (brow (rsc B P Q fw) s (gA Q P).length) (none, 499) = best (rsc B P Q fw) s (gA P Q).length (gA Q P).length := rfl
    rw [hb] at h0
    rw [show f_Md_renames_l266 F 95 p1 p2 (bo fw) (fun y6 y7 y8 τ => f_Md_renames_j454 F 95 ra 159 y6 y7 y8 (fun τ => f_Md_renames_l252 F 95 p1 p2 ra 159 (bo fw) m τ) τ) F 499 (-1) (-1) 0 σ = _ from h0]
    have hok := best_ok (rsc B P Q fw) s (gA P Q).length (gA Q P).length
    have hz0 : nfr s (gA P Q).length = 0 → (best (rsc B P Q fw) s (gA P Q).length (gA Q P).length).1 = none := best_zero
    cases hbb : best (rsc B P Q fw) s (gA P Q).length (gA Q P).length with
    | mk a v =>
      rw [hbb] at hok hz0
      cases a with
      | none =>
        simp only [aG, aC]
        unfold f_Md_renames_j454
        rw [if_neg (by decide)]
        refine ⟨σ, rfl, ?_, Fo.refl _ _ _⟩
        cases n with
        | zero => exact hI
        | succ n => rw [grd, hbb]; exact hI
      | some gc =>
        obtain ⟨i, c⟩ := gc
        rcases hok with ⟨hz, -⟩ | ⟨i', c', x1, x2, x3, x4, x5, x6, x7⟩
        · cases hz
        · cases x1
          have hpos : nfr s (gA P Q).length ≠ 0 := fun q => by cases hz0 q
          obtain ⟨n', rfl⟩ : ∃ n', n = n' + 1 := ⟨n - 1, by omega⟩
          simp only [aG, aC]
          obtain ⟨σ1, q1, q2, q3⟩ := hI.join (F := F) (v := v) hp1 hp2 hra hl hl2 x3 x4 x5 x6 (kk := fun τ => f_Md_renames_l252 F 95 p1 p2 ra 159 (bo fw) m τ)
          have hnj := nfr_join (s := s) (c := c) (v := v) x5 (G := (gA P Q).length)
          rw [if_pos x3] at hnj
          obtain ⟨σ', r1, r2, r3⟩ := ih n' (joinS s i c v) σ1 q2 (by omega) (by omega)
          rw [q1, grd, hbb]
          exact ⟨σ', r1, r2, q3.trans r3⟩
theorem nfr_le (s : PSt) (G : Nat) : nfr s G ≤ G := flt_len _ _
theorem Md_renames {σ : am_S} {gm cm : Int32} (hc : Ce g σ 95 (MDC th bm gv gm cm fm)) (hP : Ps g σ p1 (mpE P)) (hQ : Ps g σ p2 (mpE Q)) (hS : SCA g σ) (hT : TXA g σ) (hB : BLK g σ B) (hp1 : 97 ≤ p1 ∧ p1 + 5 ≤ 114) (hp2 : 97 ≤ p2 ∧ p2 + 5 ≤ 114) (hra : ra = 157 ∨ ra = 158) (hl : P.length ≤ 400) (hl2 : Q.length ≤ 400) (hVP : VB B P) (hVQ : VB B Q) (hBl : ∀ t ∈ B, t.length ≤ 4096) (hF : 131072 < F) :
    ∃ g' σ' N, f_Md_renames F σ 95 p1 p2 ra 159 = some σ' ∧ RI g' σ' th bm gv fm p1 p2 ra B P Q (rnS B P Q) N ∧ Fo (RNT ra) g σ g' σ' := by
  have n1 := gA_len (P := P) (Q := Q)
  have n2 := gA_len (P := Q) (Q := P)
  have z := hc.1
  unfold MDC at z
  obtain ⟨σ1, q1, q2, q3⟩ := Md_gm hc 0
  obtain ⟨σ2, r1, r2, r3⟩ := Md_cm q2 0
  have W : Fo (fun a => a = 95) g σ g σ2 := q3.trans r3
  have hP2 := hP.fo W fun a _ _ => by omega
  have hQ2 := hQ.fo W fun a _ _ => by omega
  have hS2 := hS.fo W fun a _ => by omega
  obtain ⟨ge, e1⟩ := hS2 142 .int 400 rfl
  obtain ⟨co, e2⟩ := hS2 143 .int 400 rfl
  obtain ⟨ar, e3⟩ : ∃ ar, Ce g σ2 ra (cI 1700 ar) := by
    rcases hra with rfl | rfl
    · exact hS2 157 .int 1700 rfl
    · exact hS2 158 .int 1700 rfl
  obtain ⟨σ3, t1, t2, t3⟩ := Md_r13 (F := F) hp1 hp2 hra hl hl2 (kk := fun τ => f_Md_renames_j67 F 95 p1 p2 ra 159 τ) hF F 0 σ2 ⟨r2, hP2, hQ2, hS2, ⟨ge, e1, fun k hk => by simp [gL, flt_zero] at hk⟩, ⟨co, e2, fun k hk => by simp [gL, flt_zero] at hk⟩, ar, e3, fun k hk => by omega⟩ (by omega) (by omega)
  obtain ⟨σ4, u1, u2, u3⟩ := Md_r70 (F := F) hp1 hp2 hra hl hl2 (kk := fun τ => f_Md_renames_j119 F 95 p1 p2 ra 159 τ) hF F 0 σ3 t2 (by omega) (by omega)
  rw [nI_0] at t1 u1
  have W4 : Fo (RN0 ra) g σ g σ4 := (W.mono fun a ha => Or.inl ha).trans (t3.trans u3)
  obtain ⟨hc4, hP4, hQ4, hS4, ⟨ge4, c1, c2⟩, ⟨co4, d1, d2⟩, ar4, x1, x2⟩ := u2
  obtain ⟨an, y1⟩ := hS4 159 .int 1700 rfl
  obtain ⟨sc, w1⟩ := hS4 144 .short 2500 rfl
  have hT4 := hT.fo W4 fun a _ _ => by omega
  have hB4 := hB.fo W4 (by omega) (by omega)
  have R4 : RI g σ4 th bm gv fm p1 p2 ra B P Q st0 (fun _ _ => False) := ⟨hc4, hP4, hQ4, hS4, hT4, hB4, ⟨ge4, c1, fun k hk => by rw [c2 k hk]; rfl⟩, ⟨co4, d1, fun k hk => by rw [d2 k hk]; rfl⟩, ⟨ar4, x1, fun k hk => by
    rw [x2 k hk]
    unfold prR
    split <;> rfl⟩, ⟨an, y1, fun i hi c v hz => by cases hz⟩, sc, w1, fun i c _ _ hz => hz.elim⟩
  have W5 : Fo (RNT ra) g σ g σ4 := W4.mono fun a ha => by unfold RNT; omega
  have z4 := hc4.1
  unfold MDC at z4
  unfold f_Md_renames
  rw [am_ck_of z, q1, Option.bind_some, r1, Option.bind_some, t1]
  unfold f_Md_renames_j67
  rw [u1]
  unfold f_Md_renames_j119
  rw [gI_of z4 (k := 18) rfl, Option.bind_some]
  have hard : few P Q = false → ∃ g' σ' N, f_Md_renames_j141 F 95 p1 p2 ra 159 σ4 = some σ' ∧ RI g' σ' th bm gv fm p1 p2 ra B P Q (rnS B P Q) N ∧ Fo (RNT ra) g σ g' σ' := by
    intro hfew
    obtain ⟨F', rfl⟩ : ∃ F', F = F' + 1 := ⟨F - 1, by omega⟩
    unfold f_Md_renames_j141 f_Md_renames_j142
    rw [f_Md_renames_l147, if_pos rfl]
    obtain ⟨σ5, k1, k2, k3⟩ := Md_r252 (F := F' + 1) (fw := false) (fun q => by cases q) hp1 hp2 hra hl hl2 hVP hVQ hF (F' + 1) (gA P Q).length st0 σ4 R4 (by have := nfr_le st0 (gA P Q).length; omega) (nfr_le _ _)
    refine ⟨g, σ5, fun _ _ => False, k1, ?_, W5.trans k3⟩
    unfold rnS
    rw [hfew]
    exact k2
  by_cases h1 : 50 < (gA P Q).length
  · rw [if_pos (show (50 : Int32) < nI (gA P Q).length from nI_lt (a := 50) h1 (by omega))]
    exact hard (by unfold few; simp; omega)
  · rw [if_neg (show ¬ (50 : Int32) < nI (gA P Q).length from nI_nlt (a := 50) (b := (gA P Q).length) (by omega) (by omega)), gI_of z4 (k := 19) rfl, Option.bind_some]
    by_cases h2 : 50 < (gA Q P).length
    · rw [if_pos (show (50 : Int32) < nI (gA Q P).length from nI_lt (a := 50) h2 (by omega))]
      exact hard (by unfold few; simp; omega)
    · rw [if_neg (show ¬ (50 : Int32) < nI (gA Q P).length from nI_nlt (a := 50) (b := (gA Q P).length) (by omega) (by omega))]
      unfold f_Md_renames_j142
      obtain ⟨g5, σ5, k1, k2, k3⟩ := Md_r147 (F := F) hp1 hp2 hra hl hl2 hVP hVQ hBl (by omega) (by omega) (kk := fun τ => f_Md_renames_l252 F 95 p1 p2 ra 159 1 F τ) hF F 0 g σ4 (by
        obtain ⟨m1, m2, m3, m4, m5, m6, m7, m8, m9, m10, sc, m11, m12⟩ := R4
        exact ⟨m1, m2, m3, m4, m5, m6, m7, m8, m9, m10, sc, m11, fun i c _ _ q => by omega⟩) (by omega) (by omega)
      rw [nI_0] at k1
      rw [k1]
      obtain ⟨σ6, l1, l2, l3⟩ := Md_r252 (F := F) (fw := true) (fun _ => ⟨fun _ _ => trivial, by omega, by omega⟩) hp1 hp2 hra hl hl2 hVP hVQ hF F (gA P Q).length st0 σ5 k2 (by have := nfr_le st0 (gA P Q).length; omega) (nfr_le _ _)
      have hfew : few P Q = true := by unfold few; simp; omega
      refine ⟨g5, σ6, fun _ _ => True, l1, ?_, (W5.trans k3).trans l3⟩
      unfold rnS
      rw [hfew]
      exact l2
end RG
