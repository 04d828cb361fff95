/-! ===== L3: the reference: GONE, COME and their SCORES ===== -/
theorem Ce.si {g : Gh} {σ : am_S} {a n i : Nat} {f : Nat → Int32} {v : Int32} (h : Ce g σ a (cI n f)) (h8 : 8 ≤ a) (hi : i < n) (hn : n < 2 ^ 31) : ∃ σ', am_sI σ a (nI i) v = some σ' ∧ Ce g σ' a (cI n (uf f i v)) ∧ Fo (fun b => b = a) g σ g σ' :=
  ⟨_, sI_of h.1 h8 hi hn, ⟨put_at _ _ _, h.2.1, h.2.2⟩, (Fo.refl _ _ _).put fun _ => h.2.1⟩
theorem SCA.w {g g' : Gh} {σ σ' : am_S} {a n : Nat} {ty : FieldType} {f : Nat → Int32} (h : SCA g σ) (hf : Fo (fun b => b = a) g σ g' σ') (ha : scT a = some (ty, n)) (hc : Ce g' σ' a (.inl (ty, n, fun j => .int (f j)))) : SCA g' σ' := by
  intro b ty' n' hb
  by_cases e : b = a
  · subst e
    rw [ha] at hb
    cases hb
    exact ⟨f, hc⟩
  · obtain ⟨f1, c1⟩ := h b ty' n' hb
    exact ⟨f1, c1.fo hf e⟩
theorem Md_gm {g : Gh} {σ : am_S} {th bm gv gm cm fm : Int32} (h : Ce g σ 95 (MDC th bm gv gm cm fm)) (v : Int32) : ∃ σ', am_pI σ 10 18 95 v = some σ' ∧ Ce g σ' 95 (MDC th bm gv v cm fm) ∧ Fo (fun a => a = 95) g σ g σ' := by
  obtain ⟨h1, h2, h3⟩ := h
  unfold MDC at h1 ⊢
  simp (disch := first | omega | (simp only [List.length_cons, List.length_nil] <;> omega)) only [sx_ck, xk_s, sx_gI, sx_gA, xg_s, xi_s, xa_s, List.getElem?_cons_zero, List.getElem?_cons_succ, sx_lI, sx_lA, xl_s, xl_v, sx_pI, sx_pA, xp_s, List.set_cons_zero, List.set_cons_succ, sx_sI, sx_sB, sx_sZ, sx_sS, xs_s, sx_cp, xc_s, put_at, put_ne, new_at, new_ne, Option.bind_some, am_b2, sx_len, xn_s, h1]
  exact ⟨_, rfl, ⟨put_at _ _ _, h2, h3⟩, (Fo.refl _ _ _).put fun _ => h2⟩
theorem Md_cm {g : Gh} {σ : am_S} {th bm gv gm cm fm : Int32} (h : Ce g σ 95 (MDC th bm gv gm cm fm)) (v : Int32) : ∃ σ', am_pI σ 10 19 95 v = some σ' ∧ Ce g σ' 95 (MDC th bm gv gm v fm) ∧ Fo (fun a => a = 95) g σ g σ' := by
  obtain ⟨h1, h2, h3⟩ := h
  unfold MDC at h1 ⊢
  simp (disch := first | omega | (simp only [List.length_cons, List.length_nil] <;> omega)) only [sx_ck, xk_s, sx_gI, sx_gA, xg_s, xi_s, xa_s, List.getElem?_cons_zero, List.getElem?_cons_succ, sx_lI, sx_lA, xl_s, xl_v, sx_pI, sx_pA, xp_s, List.set_cons_zero, List.set_cons_succ, sx_sI, sx_sB, sx_sZ, sx_sS, xs_s, sx_cp, xc_s, put_at, put_ne, new_at, new_ne, Option.bind_some, am_b2, sx_len, xn_s, h1]
  exact ⟨_, rfl, ⟨put_at _ _ _, h2, h3⟩, (Fo.refl _ _ _).put fun _ => h2⟩
theorem Md_fm {g : Gh} {σ : am_S} {th bm gv gm cm fm : Int32} (h : Ce g σ 95 (MDC th bm gv gm cm fm)) (v : Int32) : ∃ σ', am_pI σ 10 33 95 v = some σ' ∧ Ce g σ' 95 (MDC th bm gv gm cm v) ∧ Fo (fun a => a = 95) g σ g σ' := by
  obtain ⟨h1, h2, h3⟩ := h
  unfold MDC at h1 ⊢
  simp (disch := first | omega | (simp only [List.length_cons, List.length_nil] <;> omega)) only [sx_ck, xk_s, sx_gI, sx_gA, xg_s, xi_s, xa_s, List.getElem?_cons_zero, List.getElem?_cons_succ, sx_lI, sx_lA, xl_s, xl_v, sx_pI, sx_pA, xp_s, List.set_cons_zero, List.set_cons_succ, sx_sI, sx_sB, sx_sZ, sx_sS, xs_s, sx_cp, xc_s, put_at, put_ne, new_at, new_ne, Option.bind_some, am_b2, sx_len, xn_s, h1]
  exact ⟨_, rfl, ⟨put_at _ _ _, h2, h3⟩, (Fo.refl _ _ _).put fun _ => h2⟩
theorem i2s_dec : ∀ k : Fin 1001, am_i2s (nI k.val) = nI k.val := by decide +kernel
theorem i2s_nI {k : Nat} (h : k ≤ 1000) : am_i2s (nI k) = nI k := i2s_dec ⟨k, by omega⟩
theorem scr_self {B : List (List Int32)} {x : Nat} : scr B x x = 1000 := by unfold scr; rw [if_pos rfl]
abbrev RNT (ra : Nat) : Nat → Prop := fun a => a = 95 ∨ (129 ≤ a ∧ a ≤ 138) ∨ (142 ≤ a ∧ a ≤ 144) ∨ a = ra ∨ a = 159
abbrev RN0 (ra : Nat) : Nat → Prop := fun a => a = 95 ∨ a = 142 ∨ a = 143 ∨ a = ra
/-- whom a GONE became -/
def prR (P Q : PL) (s : PSt) (k : Nat) : Option Nat := if isG P Q k = true then (s.1 (gL P Q k).length).map fun cv => (gA Q P).getD cv.1 0 else none
def R13 (g : Gh) (σ : am_S) (th bm gv fm : Int32) (p1 p2 ra : Nat) (P Q : PL) (i j : Nat) : Prop := Ce g σ 95 (MDC th bm gv (nI (gL P Q i).length) (nI (gL Q P j).length) fm) ∧ Ps g σ p1 (mpE P) ∧ Ps g σ p2 (mpE Q) ∧ SCA g σ ∧ (∃ ge, Ce g σ 142 (cI 400 ge) ∧ hol ge (gL P Q i)) ∧ (∃ co, Ce g σ 143 (cI 400 co) ∧ hol co (gL Q P j)) ∧ ∃ ar, Ce g σ ra (cI 1700 ar) ∧ ∀ k, k < i → ar k = -1
def RI (g : Gh) (σ : am_S) (th bm gv fm : Int32) (p1 p2 ra : Nat) (B : List (List Int32)) (P Q : PL) (s : PSt) (N : Nat → Nat → Prop) : Prop := Ce g σ 95 (MDC th bm gv (nI (gA P Q).length) (nI (gA Q P).length) fm) ∧ Ps g σ p1 (mpE P) ∧ Ps g σ p2 (mpE Q) ∧ SCA g σ ∧ TXA g σ ∧ BLK g σ B ∧ (∃ ge, Ce g σ 142 (cI 400 ge) ∧ ∀ k (h : k < (gA P Q).length), ge k = if (s.1 k).isNone = true then nI (gA P Q)[k] else -1) ∧ (∃ co, Ce g σ 143 (cI 400 co) ∧ ∀ k (h : k < (gA Q P).length), co k = if s.2 k = true then -1 else nI (gA Q P)[k]) ∧ (∃ ar, Ce g σ ra (cI 1700 ar) ∧ ∀ k, k < P.length → ar k = oI (prR P Q s k)) ∧ (∃ an, Ce g σ 159 (cI 1700 an) ∧ ∀ i (h : i < (gA P Q).length) c v, s.1 i = some (c, v) → an (gA P Q)[i] = nI v) ∧ ∃ sc, Ce g σ 144 (cS 2500 sc) ∧ ∀ i c, i < (gA P Q).length → c < (gA Q P).length → N i c → sc (i * 50 + c) = nI (scr B (valN P ((gA P Q).getD i 0)) (valN Q ((gA Q P).getD c 0)))
section RE
variable {g : Gh} {F p1 p2 ra : Nat} {P Q : PL} {B : List (List Int32)} {th bm gv fm : Int32}
theorem Md_r13 (hp1 : 97 ≤ p1 ∧ p1 + 5 ≤ 114) (hp2 : 97 ≤ p2 ∧ p2 + 5 ≤ 114) (hra : ra = 157 ∨ ra = 158) (hl : P.length ≤ 400) (hl2 : Q.length ≤ 400) {kk : am_S → Option am_S} (hF : 131072 < F) : ∀ (m i : Nat) (σ : am_S), R13 g σ th bm gv fm p1 p2 ra P Q i 0 → i ≤ P.length → P.length - i < m →
    ∃ σ', f_Md_renames_l13 F 95 p1 p2 ra kk m (nI i) σ = kk σ' ∧ R13 g σ' th bm gv fm p1 p2 ra P Q P.length 0 ∧ Fo (RN0 ra) g σ g σ' := by
  intro m
  induction m with
  | zero => intro i _ _ _ h; omega
  | succ m ih =>
    intro i σ hI hi hm
    have hI' := id hI
    obtain ⟨hc, hP, hQ, hS, ⟨ge, c1, c2⟩, ⟨co, d1, d2⟩, ar, e1, e2⟩ := hI
    rw [f_Md_renames_l13, Ps_n hP, Option.bind_some, mpE_len]
    by_cases cc : P.length ≤ i
    · have e : i = P.length := by omega
      rw [if_pos (nI_le cc (by omega))]
      subst e
      exact ⟨σ, rfl, hI', Fo.refl _ _ _⟩
    · have hi' : i < P.length := by omega
      rw [if_neg (nI_ge hi' (by omega))]
      obtain ⟨σ1, q1, q2, q3⟩ := e1.si (v := -1) (by omega) (show i < 1700 by omega) (by omega)
      have hc1 := hc.fo q3 (by omega)
      have hP1 := hP.fo q3 fun a _ _ => by omega
      have hQ1 := hQ.fo q3 fun a _ _ => by omega
      have hS1 : SCA g σ1 := by
        rcases hra with rfl | rfl
        · exact hS.w q3 rfl q2
        · exact hS.w q3 rfl q2
      have fb := Ps_findb (F := F) hQ1 hP1 (j := i) (by rw [mpE_len]; exact hi') hF
      rw [pfd_mpE, mpE_get hi'] at fb
      simp only at fb
      rw [q1, Option.bind_some, fb, Option.bind_some]
      have W1 : Fo (RN0 ra) g σ g σ1 := q3.mono fun a ha => Or.inr (Or.inr (Or.inr ha))
      have ar1 : ∀ k, k < i + 1 → uf ar i (-1) k = -1 := fun k hk => by
        by_cases e : k = i
        · subst e; exact uf_same _ _ _
        · rw [uf_ne e]; exact e2 k (by omega)
      have hlg : (gL P Q i).length ≤ i := flt_len (isG P Q) i
      cases hf : fnd Q P[i].1 with
      | some j =>
        have hj : j < Q.length := fnd_lt hf
        have hgs : gL P Q (i + 1) = gL P Q i := by
          unfold gL
          rw [flt_succ, if_neg]
          unfold isG
          rw [pth_of hi', hf]; simp
        rw [oI_some, if_neg (nI_pos (by omega)), nI_1]
        obtain ⟨σ', r1, r2, r3⟩ := ih (i + 1) σ1 ⟨by rw [hgs]; exact hc1, hP1, hQ1, hS1, ⟨ge, c1.fo q3 (by omega), by rw [hgs]; exact c2⟩, ⟨co, d1.fo q3 (by omega), d2⟩, _, q2, ar1⟩ (by omega) (by omega)
        exact ⟨σ', r1, r2, W1.trans r3⟩
      | none =>
        have hgs : gL P Q (i + 1) = gL P Q i ++ [i] := by
          unfold gL
          rw [flt_succ, if_pos]
          unfold isG
          rw [pth_of hi', hf]; rfl
        rw [if_pos (show oI none < 0 by decide)]
        have z1 := hc1.1
        unfold MDC at z1
        obtain ⟨σ2, t1, t2, t3⟩ := (c1.fo q3 (show ¬ 142 = ra by omega)).si (v := nI i) (i := (gL P Q i).length) (by omega) (by omega) (by omega)
        have hc2 := hc1.fo t3 (by omega)
        have z2 := hc2.1
        unfold MDC at z2
        obtain ⟨σ3, u1, u2, u3⟩ := Md_gm hc2 (nI ((gL P Q i).length + 1))
        have g3 := gI_of z1 (k := 18) rfl
        have g4 := gI_of z2 (k := 18) rfl
        simp only [gA_of z1 (k := 15) rfl, g3, t1, g4, Option.bind_some, nI_1, u1]
        have X1 : Fo (RN0 ra) g σ g σ3 := W1.trans ((t3.mono fun a ha => by unfold RN0; omega).trans (u3.mono fun a ha => by unfold RN0; omega))
        obtain ⟨σ', r1, r2, r3⟩ := ih (i + 1) σ3 ⟨by rw [hgs, List.length_append]; exact u2, (hP1.fo t3 fun a _ _ => by omega).fo u3 fun a _ _ => by omega, (hQ1.fo t3 fun a _ _ => by omega).fo u3 fun a _ _ => by omega, (hS1.w t3 rfl t2).fo u3 fun a ha => by omega, ⟨_, t2.fo u3 (by omega), by rw [hgs]; exact c2.snoc i⟩, ⟨co, ((d1.fo q3 (by omega)).fo t3 (by omega)).fo u3 (by omega), d2⟩, _, (q2.fo t3 (by omega)).fo u3 (by omega), ar1⟩ (by omega) (by omega)
        exact ⟨σ', r1, r2, X1.trans r3⟩
theorem Md_r70 (hp1 : 97 ≤ p1 ∧ p1 + 5 ≤ 114) (hp2 : 97 ≤ p2 ∧ p2 + 5 ≤ 114) (hra : ra = 157 ∨ ra = 158) (hl : P.length ≤ 400) (hl2 : Q.length ≤ 400) {kk : am_S → Option am_S} (hF : 131072 < F) : ∀ (m i : Nat) (σ : am_S), R13 g σ th bm gv fm p1 p2 ra P Q P.length i → i ≤ Q.length → Q.length - i < m →
    ∃ σ', f_Md_renames_l70 F 95 p1 p2 kk m (nI i) σ = kk σ' ∧ R13 g σ' th bm gv fm p1 p2 ra P Q P.length Q.length ∧ Fo (RN0 ra) g σ g σ' := by
  intro m
  induction m with
  | zero => intro i _ _ _ h; omega
  | succ m ih =>
    intro i σ hI hi hm
    have hI' := id hI
    obtain ⟨hc, hP, hQ, hS, ⟨ge, c1, c2⟩, ⟨co, d1, d2⟩, ar, e1, e2⟩ := hI
    rw [f_Md_renames_l70, Ps_n hQ, Option.bind_some, mpE_len]
    by_cases cc : Q.length ≤ i
    · have e : i = Q.length := by omega
      rw [if_pos (nI_le cc (by omega))]
      subst e
      exact ⟨σ, rfl, hI', Fo.refl _ _ _⟩
    · have hi' : i < Q.length := by omega
      rw [if_neg (nI_ge hi' (by omega))]
      have fb := Ps_findb (F := F) hP hQ (j := i) (by rw [mpE_len]; exact hi') hF
      rw [pfd_mpE, mpE_get hi'] at fb
      simp only at fb
      rw [fb, Option.bind_some]
      have hlg : (gL Q P i).length ≤ i := flt_len (isG Q P) i
      cases hf : fnd P Q[i].1 with
      | some j =>
        have hj : j < P.length := fnd_lt hf
        have hgs : gL Q P (i + 1) = gL Q P i := by
          unfold gL
          rw [flt_succ, if_neg]
          unfold isG
          rw [pth_of hi', hf]; simp
        rw [oI_some, if_neg (nI_pos (by omega)), nI_1]
        exact ih (i + 1) σ ⟨by rw [hgs]; exact hc, hP, hQ, hS, ⟨ge, c1, c2⟩, ⟨co, d1, by rw [hgs]; exact d2⟩, _, e1, e2⟩ (by omega) (by omega)
      | none =>
        have hgs : gL Q P (i + 1) = gL Q P i ++ [i] := by
          unfold gL
          rw [flt_succ, if_pos]
          unfold isG
          rw [pth_of hi', hf]; rfl
        rw [if_pos (show oI none < 0 by decide)]
        have z1 := hc.1
        unfold MDC at z1
        obtain ⟨σ2, t1, t2, t3⟩ := d1.si (v := nI i) (i := (gL Q P i).length) (by omega) (by omega) (by omega)
        have hc2 := hc.fo t3 (by omega)
        have z2 := hc2.1
        unfold MDC at z2
        obtain ⟨σ3, u1, u2, u3⟩ := Md_cm hc2 (nI ((gL Q P i).length + 1))
        have g3 := gI_of z1 (k := 19) rfl
        have g4 := gI_of z2 (k := 19) rfl
        simp only [gA_of z1 (k := 16) rfl, g3, t1, g4, Option.bind_some, nI_1, u1]
        have X1 : Fo (RN0 ra) g σ g σ3 := ((t3.mono fun a ha => by unfold RN0; omega).trans (u3.mono fun a ha => by unfold RN0; omega))
        obtain ⟨σ', r1, r2, r3⟩ := ih (i + 1) σ3 ⟨by rw [hgs, List.length_append]; exact u2, (hP.fo t3 fun a _ _ => by omega).fo u3 fun a _ _ => by omega, (hQ.fo t3 fun a _ _ => by omega).fo u3 fun a _ _ => by omega, (hS.w t3 rfl t2).fo u3 fun a ha => by omega, ⟨_, (c1.fo t3 (by omega)).fo u3 (by omega), c2⟩, ⟨_, t2.fo u3 (by omega), by rw [hgs]; exact d2.snoc i⟩, _, (e1.fo t3 (by omega)).fo u3 (by omega), e2⟩ (by omega) (by omega)
        exact ⟨σ', r1, r2, X1.trans r3⟩
/-- the number of a GONE's BLOB -/
theorem Md_gval {σ : am_S} {k : Nat} {p : Nat} (hP : Ps g σ p (mpE P)) (hV : VB B P) (hk : k < P.length) : am_gA σ 11 2 p = some (p + 4) ∧ am_lI σ .int (p + 4) (nI (3 * k)) = some (nI (valN P k)) := by
  obtain ⟨a1, a2, -⟩ := Ps_val hP (k := k) (by rw [mpE_len]; exact hk)
  rw [mpE_get hk] at a2
  refine ⟨a1, ?_⟩
  rw [a2]
  simp only
  rw [← valI_of hk, (hV k hk).2]
theorem Md_r164 {i : Nat} (hp1 : 97 ≤ p1 ∧ p1 + 5 ≤ 114) (hp2 : 97 ≤ p2 ∧ p2 + 5 ≤ 114) (hra : ra = 157 ∨ ra = 158) (hl : P.length ≤ 400) (hl2 : Q.length ≤ 400) (hVP : VB B P) (hVQ : VB B Q) (hBl : ∀ t ∈ B, t.length ≤ 4096) (hG : (gA P Q).length ≤ 50) (hC : (gA Q P).length ≤ 50) (hi : i < (gA P Q).length) {kk : am_S → Option am_S} (hF : 131072 < F) : ∀ (m c : Nat) (g : Gh) (σ : am_S), RI g σ th bm gv fm p1 p2 ra B P Q st0 (fun i' c' => i' < i ∨ i' = i ∧ c' < c) → c ≤ (gA Q P).length → (gA Q P).length - c < m →
    ∃ g' σ', f_Md_renames_l164 F 95 p1 p2 (nI i) kk m (nI c) σ = kk σ' ∧ RI g' σ' th bm gv fm p1 p2 ra B P Q st0 (fun i' c' => i' < i + 1) ∧ Fo (RNT ra) g σ g' σ' := by
  intro m
  induction m with
  | zero => intro c _ _ _ _ h; omega
  | succ m ih =>
    intro c g σ hI hc0 hm
    have hI' := id hI
    obtain ⟨hc, hP, hQ, hS, hT, hB, ⟨ge, c1, c2⟩, ⟨co, d1, d2⟩, ⟨ar, e1, e2⟩, ⟨an, f1, f2⟩, sc, s1, s2⟩ := hI
    have z := hc.1
    unfold MDC at z
    rw [f_Md_renames_l164, gI_of z (k := 19) rfl, Option.bind_some]
    by_cases cc : (gA Q P).length ≤ c
    · rw [if_pos (nI_le cc (by omega))]
      exact ⟨g, σ, rfl, ⟨hc, hP, hQ, hS, hT, hB, ⟨ge, c1, c2⟩, ⟨co, d1, d2⟩, ⟨ar, e1, e2⟩, ⟨an, f1, f2⟩, sc, s1, fun i' c' h1 h2 h3 => s2 i' c' h1 h2 (by omega)⟩, Fo.refl _ _ _⟩
    · have hc' : c < (gA Q P).length := by omega
      rw [if_neg (nI_ge hc' (by omega))]
      obtain ⟨k1, k2, k3⟩ := gA_get hi
      obtain ⟨l1, l2, l3⟩ := gA_get hc'
      obtain ⟨b1, -, -⟩ := id hB
      have hb5 := hB.2.1
      obtain ⟨v1, v2⟩ := Md_gval hP hVP k1
      obtain ⟨w1, w2⟩ := Md_gval hQ hVQ l1
      have ege := c2 i hi
      have eco := d2 c hc'
      rw [show st0.1 i = none from rfl, if_pos (show (none : Option (Nat × Nat)).isNone = true from rfl)] at ege
      rw [show st0.2 c = false from rfl, if_neg Bool.false_ne_true] at eco
      have lge := lI_of c1.1 (i := i) (by omega) (by omega)
      have lco := lI_of d1.1 (i := c) (by omega) (by omega)
      rw [ege] at lge
      rw [eco] at lco
      have m3 : ∀ n : Nat, (3 : Int32) * nI n = nI (3 * n) := fun n => nI_mul 3 n
      have hx := (hVP _ k1).1
      have hy := (hVQ _ l1).1
      have idx : nI i * 50 + nI c = nI (i * 50 + c) := by rw [nI_mulL, nI_add]
      simp only [v1, gA_of z (k := 15) rfl, lge, m3, v2, w1, gA_of z (k := 16) rfl, lco, w2, gA_of z (k := 17) rfl, Option.bind_some, idx]
      simp only [nI_eq (show valN P (gA P Q)[i] < 2 ^ 31 by omega) (show valN Q (gA Q P)[c] < 2 ^ 31 by omega)]
      have fin : ∀ (g1 : Gh) (σ1 : am_S), RI g1 σ1 th bm gv fm p1 p2 ra B P Q st0 (fun i' c' => i' < i ∨ i' = i ∧ c' < c) → Fo (RNT ra) g σ g1 σ1 → ∀ v : Nat, v ≤ 1000 → v = scr B (valN P (gA P Q)[i]) (valN Q (gA Q P)[c]) →
          ∃ g' σ', ((am_sS σ1 144 (nI (i * 50 + c)) (am_i2s (nI v))).bind fun σ34 => f_Md_renames_l164 F 95 p1 p2 (nI i) kk m (nI c + 1) σ34) = kk σ' ∧ RI g' σ' th bm gv fm p1 p2 ra B P Q st0 (fun i' c' => i' < i + 1) ∧ Fo (RNT ra) g σ g' σ' := by
        intro g1 σ1 hI1 hW v hv1 hv2
        obtain ⟨hc, hP, hQ, hS, hT, hB, ⟨ge, c1, c2⟩, ⟨co, d1, d2⟩, ⟨ar, e1, e2⟩, ⟨an, f1, f2⟩, sc, s1, s2⟩ := hI1
        have hs := sS_of (v := nI v) s1.1 (i := i * 50 + c) (by omega) (by omega) (by omega)
        rw [i2s_nI hv1] at hs
        rw [i2s_nI hv1, hs, Option.bind_some, nI_1]
        generalize hτ : am_put σ1 144 (cS 2500 (uf sc (i * 50 + c) (nI v))) = σ2
        have W2 : Fo (fun b => b = 144) g1 σ1 g1 σ2 := hτ ▸ (Fo.refl _ _ _).put fun _ => s1.2.1
        have S2 : Ce g1 σ2 144 (cS 2500 (uf sc (i * 50 + c) (nI v))) := ⟨at_top hτ, s1.2.1, by rw [← hτ]; exact s1.2.2⟩
        obtain ⟨g', σ', r1, r2, r3⟩ := ih (c + 1) g1 σ2 ⟨hc.fo W2 (by omega), hP.fo W2 fun a _ _ => by omega, hQ.fo W2 fun a _ _ => by omega, hS.w W2 rfl S2, hT.fo W2 fun a _ _ => by omega, hB.fo W2 (by omega) (by omega), ⟨ge, c1.fo W2 (by omega), c2⟩, ⟨co, d1.fo W2 (by omega), d2⟩, ⟨ar, e1.fo W2 (by omega), e2⟩, ⟨an, f1.fo W2 (by omega), f2⟩, _, S2, fun i' c' h1 h2 h3 => by
          by_cases e : i' = i ∧ c' = c
          · obtain ⟨rfl, rfl⟩ := e
            rw [uf_same, gA_getD h1, gA_getD h2, hv2]
          · rw [uf_ne (by omega)]
            exact s2 i' c' h1 h2 (by omega)⟩ (by omega) (by omega)
        exact ⟨g', σ', r1, r2, (hW.trans (W2.mono fun a ha => by unfold RNT; omega)).trans r3⟩
      by_cases ce : valN P (gA P Q)[i] = valN Q (gA Q P)[c]
      · rw [if_pos ce]
        exact fin g σ hI' (Fo.refl _ _ _) 1000 (by omega) (by rw [ce, scr_self])
      · rw [if_neg ce]
        obtain ⟨g1, σ1, q1, q2, q3, q4⟩ := Md_score (F := F) hc hB hT hS hx hy hBl hF
        rw [q1]
        simp only [am_b2, Option.bind_some]
        have es := scr_2 hx hy ce
        refine fin g1 σ1 ⟨hc.fo q4 (by omega), hP.fo q4 fun a _ _ => by omega, hQ.fo q4 fun a _ _ => by omega, q3, q2, hB.fo q4 (by omega) (by omega), ⟨ge, c1.fo q4 (by omega), c2⟩, ⟨co, d1.fo q4 (by omega), d2⟩, ⟨ar, e1.fo q4 (by omega), e2⟩, ⟨an, f1.fo q4 (by omega), f2⟩, sc, s1.fo q4 (by omega), s2⟩ (q4.mono fun a ha => by unfold RNT; omega) _ (by rw [← es]; exact scr_le) es.symm
theorem Md_r147 (hp1 : 97 ≤ p1 ∧ p1 + 5 ≤ 114) (hp2 : 97 ≤ p2 ∧ p2 + 5 ≤ 114) (hra : ra = 157 ∨ ra = 158) (hl : P.length ≤ 400) (hl2 : Q.length ≤ 400) (hVP : VB B P) (hVQ : VB B Q) (hBl : ∀ t ∈ B, t.length ≤ 4096) (hG : (gA P Q).length ≤ 50) (hC : (gA Q P).length ≤ 50) {kk : am_S → Option am_S} (hF : 131072 < F) : ∀ (m i : Nat) (g : Gh) (σ : am_S), RI g σ th bm gv fm p1 p2 ra B P Q st0 (fun i' c' => i' < i) → i ≤ (gA P Q).length → (gA P Q).length - i < m →
    ∃ g' σ', f_Md_renames_l147 F 95 p1 p2 1 kk m (nI i) σ = kk σ' ∧ RI g' σ' th bm gv fm p1 p2 ra B P Q st0 (fun i' c' => True) ∧ Fo (RNT ra) g σ g' σ' := by
  intro m
  induction m with
  | zero => intro i _ _ _ _ h; omega
  | succ m ih =>
    intro i g σ hI hi0 hm
    have hI' := id hI
    obtain ⟨hc, hP, hQ, hS, hT, hB, ⟨ge, c1, c2⟩, ⟨co, d1, d2⟩, ⟨ar, e1, e2⟩, ⟨an, f1, f2⟩, sc, s1, s2⟩ := hI
    have z := hc.1
    unfold MDC at z
    rw [f_Md_renames_l147, if_neg (by decide), gI_of z (k := 18) rfl, Option.bind_some]
    by_cases cc : (gA P Q).length ≤ i
    · rw [if_pos (nI_le cc (by omega))]
      exact ⟨g, σ, rfl, ⟨hc, hP, hQ, hS, hT, hB, ⟨ge, c1, c2⟩, ⟨co, d1, d2⟩, ⟨ar, e1, e2⟩, ⟨an, f1, f2⟩, sc, s1, fun i' c' h1 h2 h3 => s2 i' c' h1 h2 (by omega)⟩, Fo.refl _ _ _⟩
    · have hi : i < (gA P Q).length := by omega
      rw [if_neg (nI_ge hi (by omega))]
      obtain ⟨g1, σ1, q1, q2, q3⟩ := Md_r164 (F := F) hp1 hp2 hra hl hl2 hVP hVQ hBl hG hC hi (kk := fun τ => f_Md_renames_j246 F (nI i) (fun y6 τ => f_Md_renames_l147 F 95 p1 p2 1 kk m y6 τ) τ) hF F 0 g σ ⟨hc, hP, hQ, hS, hT, hB, ⟨ge, c1, c2⟩, ⟨co, d1, d2⟩, ⟨ar, e1, e2⟩, ⟨an, f1, f2⟩, sc, s1, fun i' c' h1 h2 h3 => s2 i' c' h1 h2 (by omega)⟩ (by omega) (by omega)
      rw [nI_0] at q1
      rw [q1]
      unfold f_Md_renames_j246
      rw [nI_1]
      obtain ⟨g', σ', r1, r2, r3⟩ := ih (i + 1) g1 σ1 q2 (by omega) (by omega)
      exact ⟨g', σ', r1, r2, q3.trans r3⟩
end RE
