/-! ===== L3: the reference: what it holds; feed, end ===== -/
def MDC (th bm gv gm cm fm : Int32) : am_C := cO 10 [.int th, .ref 96, .ref 115, .ref 117, .int bm, .ref 118, .ref 120, .int gv, .ref 129, .ref 136, .ref 137, .ref 138, .ref 139, .ref 140, .ref 141, .ref 142, .ref 143, .ref 144, .int gm, .int cm, .ref 97, .ref 103, .ref 109, .ref 145, .ref 151, .ref 157, .ref 158, .ref 159, .ref 160, .ref 161, .ref 162, .ref 164, .ref 166, .int fm, .ref 167, .ref 168, .ref 169, .ref 170, .ref 176, .ref 182, .ref 184, .ref 185]
/-- the scratch arrays -/
def scT : Nat → Option (FieldType × Nat)
  | 136 => some (.int, 606)
  | 137 => some (.int, 600)
  | 138 => some (.int, 3)
  | 139 => some (.int, 600)
  | 140 => some (.int, 202)
  | 141 => some (.int, 202)
  | 142 => some (.int, 400)
  | 143 => some (.int, 400)
  | 144 => some (.short, 2500)
  | 157 => some (.int, 1700)
  | 158 => some (.int, 1700)
  | 159 => some (.int, 1700)
  | 160 => some (.boolean, 1700)
  | 161 => some (.boolean, 1700)
  | 166 => some (.int, 1700)
  | 167 => some (.int, 1700)
  | 168 => some (.int, 1700)
  | 169 => some (.int, 1700)
  | _ => none
def SCA (g : Gh) (σ : am_S) : Prop := ∀ (a : Nat) (ty : FieldType) (n : Nat), scT a = some (ty, n) → ∃ f : Nat → Int32, Ce g σ a (.inl (ty, n, fun j => .int (f j)))
theorem scT_in {a n : Nat} {ty : FieldType} (h : scT a = some (ty, n)) : (136 ≤ a ∧ a ≤ 144) ∨ (157 ≤ a ∧ a ≤ 161) ∨ (166 ≤ a ∧ a ≤ 169) := by
  unfold scT at h
  split at h <;> first | omega | cases h
theorem SCA.fo {T : Nat → Prop} {g g1 : Gh} {σ σ1 : am_S} (h : SCA g σ) (hf : Fo T g σ g1 σ1) (hT : ∀ a, (136 ≤ a ∧ a ≤ 144) ∨ (157 ≤ a ∧ a ≤ 161) ∨ (166 ≤ a ∧ a ≤ 169) → ¬ T a) : SCA g1 σ1 := fun a ty n ha => by
  obtain ⟨f, h1⟩ := h a ty n ha
  exact ⟨f, h1.fo hf (hT a (scT_in ha))⟩
/-- one scratch array written -/
theorem SCA.put {g : Gh} {σ : am_S} {a n : Nat} {ty : FieldType} {f : Nat → Int32} (h : SCA g σ) (ha : scT a = some (ty, n)) : SCA g (am_put σ a (.inl (ty, n, fun j => .int (f j)))) ∧ Fo (fun b => b = a) g σ g (am_put σ a (.inl (ty, n, fun j => .int (f j)))) ∧ Ce g (am_put σ a (.inl (ty, n, fun j => .int (f j)))) a (.inl (ty, n, fun j => .int (f j))) := by
  obtain ⟨f0, c0⟩ := h a ty n ha
  have hf : Fo (fun b => b = a) g σ g (am_put σ a (.inl (ty, n, fun j => .int (f j)))) := (Fo.refl _ _ _).put fun _ => c0.2.1
  refine ⟨fun b ty' n' hb => ?_, hf, put_at _ _ _, c0.2.1, c0.2.2⟩
  by_cases e : b = a
  · subst e
    rw [ha] at hb
    cases hb
    exact ⟨f, put_at _ _ _, c0.2.1, c0.2.2⟩
  · obtain ⟨f1, c1⟩ := h b ty' n' hb
    exact ⟨f1, c1.fo hf e⟩
def ARG (g : Gh) (σ : am_S) (as : List (List Int32)) : Prop := ∃ (A : Nat → Nat) (f : Nat → Value), Ce g σ 120 (.inl (.object (am_cn 12), 4, f)) ∧ (∀ j, j < 4 → f j = .ref (A j) ∧ (A j = 121 ∨ A j = 123 ∨ A j = 125 ∨ A j = 127)) ∧ (∀ i j, i < 4 → j < 4 → A i = A j → i = j) ∧ (∀ j (h : j < as.length), Ro g σ (A j) as[j]) ∧ (∀ j, j < 4 → ∃ t, Ro g σ (A j) t) ∧ as.length ≤ 4
theorem ARG.fo {T : Nat → Prop} {g g1 : Gh} {σ σ1 : am_S} {as : List (List Int32)} (h : ARG g σ as) (hf : Fo T g σ g1 σ1) (hT : ∀ a, 120 ≤ a → a ≤ 128 → ¬ T a) : ARG g1 σ1 as := by
  obtain ⟨A, f, h1, h2, h3, h4, h5, h6⟩ := h
  refine ⟨A, f, h1.fo hf (hT _ (by omega) (by omega)), h2, h3, fun j hj => ?_, fun j hj => ?_, h6⟩
  · have := (h2 j (by omega)).2
    exact (h4 j hj).fo hf (hT _ (by omega) (by omega))
  · have := (h2 j hj).2
    obtain ⟨t, ht⟩ := h5 j hj
    exact ⟨t, ht.fo hf (hT _ (by omega) (by omega))⟩
def TXA (g : Gh) (σ : am_S) : Prop := (∃ f : Nat → Value, Ce g σ 129 (.inl (.object (am_cn 12), 3, f)) ∧ ∀ j, j < 3 → f j = .ref (130 + 2 * j)) ∧ ∀ j, j < 3 → ∃ t, Ro g σ (130 + 2 * j) t
theorem TXA.fo {T : Nat → Prop} {g g1 : Gh} {σ σ1 : am_S} (h : TXA g σ) (hf : Fo T g σ g1 σ1) (hT : ∀ a, 129 ≤ a → a ≤ 135 → ¬ T a) : TXA g1 σ1 := by
  obtain ⟨⟨f, h1, h2⟩, h3⟩ := h
  refine ⟨⟨f, h1.fo hf (hT _ (by omega) (by omega)), h2⟩, fun j hj => ?_⟩
  obtain ⟨t, ht⟩ := h3 j hj
  exact ⟨t, ht.fo hf (hT _ (by omega) (by omega))⟩
def BLK (g : Gh) (σ : am_S) (B : List (List Int32)) : Prop := Ro g σ 115 B.flatten ∧ B.length ≤ 500 ∧ ∃ bf, Ce g σ 117 (cI 502 bf) ∧ ∀ k, k ≤ B.length → bf k = nI (sl (B.take k))
theorem BLK.fo {T : Nat → Prop} {g g1 : Gh} {σ σ1 : am_S} {B : List (List Int32)} (h : BLK g σ B) (hf : Fo T g σ g1 σ1) (h1 : ¬ T 115) (h2 : ¬ T 117) : BLK g1 σ1 B := by
  obtain ⟨b1, b2, bf, b3, b4⟩ := h
  exact ⟨b1.fo hf h1, b2, bf, b3.fo hf h2, b4⟩
def MPA (g : Gh) (σ : am_S) : Prop := ∃ f : Nat → Value, Ce g σ 96 (.inl (.object (am_cn 11), 3, f)) ∧ ∀ j, j < 3 → f j = .ref (97 + 6 * j)
def SEr (e : Pe) (q : List Int32) (r : Rc) (T : List Int32) (f b : Int32) : Prop := e.1 = q ∧ e.2.2 = r.1 ∧ e.2.1 = (if r.1 = true then (r.2.1, r.2.2.1, r.2.2.2.1) else (-1, -1, -1)) ∧ match rcB r with
  | some k => b = nI k ∧ k < 500
  | none => b = -1 - nI (rcT r).length ∧ ∃ st, f = nI st ∧ st + (rcT r).length ≤ T.length ∧ slB T st (st + (rcT r).length) = rcT r
def SEE (g : Gh) (σ : am_S) (Pl : PL) (L : List Rc) : Prop := ∃ Q T sf sb, Ps g σ 176 Q ∧ Ro g σ 182 T ∧ Ce g σ 184 (cI 1700 sf) ∧ Ce g σ 185 (cI 1700 sb) ∧ Q.length = Pl.length ∧ ∀ i (h : i < Pl.length) (h' : i < Q.length), SEr Q[i] Pl[i].1 (snR Pl L i) T (sf i) (sb i)
theorem SEE.fo {T : Nat → Prop} {g g1 : Gh} {σ σ1 : am_S} {Pl : PL} {L : List Rc} (h : SEE g σ Pl L) (hf : Fo T g σ g1 σ1) (hT : ∀ a, 176 ≤ a → a ≤ 185 → ¬ T a) : SEE g1 σ1 Pl L := by
  obtain ⟨Q, Tx, sf, sb, h1, h2, h3, h4, h5⟩ := h
  exact ⟨Q, Tx, sf, sb, h1.fo hf fun a _ _ => hT a (by omega) (by omega), h2.fo hf (hT _ (by omega) (by omega)), h3.fo hf (hT _ (by omega) (by omega)), h4.fo hf (hT _ (by omega) (by omega)), h5⟩
def mpE (P : PL) : List Pe := P.map fun e => (e.1, (e.2, -1, -1), false)
/-- scratch -/
def SCR (g : Gh) (σ : am_S) : Prop := SCA g σ ∧ TXA g σ ∧ (∃ Q, Ps g σ 145 Q) ∧ (∃ Q, Ps g σ 151 Q) ∧ (∃ t, Ro g σ 162 t) ∧ (∃ t, Ro g σ 164 t)
theorem SCR.fo {T : Nat → Prop} {g g1 : Gh} {σ σ1 : am_S} (h : SCR g σ) (hf : Fo T g σ g1 σ1) (hT : ∀ a, 129 ≤ a → a ≤ 169 → ¬ T a) : SCR g1 σ1 := by
  obtain ⟨h1, h2, ⟨Q1, h3⟩, ⟨Q2, h4⟩, ⟨t1, h5⟩, ⟨t2, h6⟩⟩ := h
  exact ⟨h1.fo hf fun a ha => hT a (by omega) (by omega), h2.fo hf fun a _ _ => hT a (by omega) (by omega), ⟨Q1, h3.fo hf fun a _ _ => hT a (by omega) (by omega)⟩, ⟨Q2, h4.fo hf fun a _ _ => hT a (by omega) (by omega)⟩, ⟨t1, h5.fo hf (hT _ (by omega) (by omega))⟩, ⟨t2, h6.fo hf (hT _ (by omega) (by omega))⟩⟩
def MDI (g : Gh) (σ : am_S) (th : Int32) (s : MSS) : Prop := gW g σ ∧ MkS σ ∧ (∃ gm cm fm, Ce g σ 95 (MDC th (nI s.2.2.1.length) (nI s.1.length) gm cm fm)) ∧ MPA g σ ∧ BLK g σ s.2.2.1 ∧ Ro g σ 118 s.2.1 ∧ ARG g σ s.1 ∧ (∀ k, k < 3 → Ps g σ (97 + 6 * k) (mpE (s.2.2.2.1 k))) ∧ SCR g σ ∧ (∃ Q, Ps g σ 170 Q) ∧ SEE g σ s.2.2.2.2.1 s.2.2.2.2.2
abbrev MT : Nat → Prop := fun a => 95 ≤ a ∧ a < 186
theorem MPA.fo {T : Nat → Prop} {g g1 : Gh} {σ σ1 : am_S} (h : MPA g σ) (hf : Fo T g σ g1 σ1) (hT : ¬ T 96) : MPA g1 σ1 := by
  obtain ⟨f, h1, h2⟩ := h
  exact ⟨f, h1.fo hf hT, h2⟩
section MI
variable {g : Gh} {σ : am_S} {F : Nat} {th bm gv gm cm fm : Int32} {s : MSS}
/-- 95's own fields -/
theorem Md_th (h : Ce g σ 95 (MDC th bm gv gm cm fm)) (v : Int32) : ∃ σ', am_pI σ 10 0 95 v = some σ' ∧ Ce g σ' 95 (MDC v bm gv gm cm fm) ∧ Fo (fun a => a = 95) g σ g σ' := by
  obtain ⟨h1, h2, h3⟩ := h
  unfold MDC at h1 ⊢
  simp (disch := first | omega | (simp only [List.length_cons, List.length_nil] <;> omega)) only [sx_ck, xk_s, sx_gI, sx_gA, xg_s, xi_s, xa_s, List.getElem?_cons_zero, List.getElem?_cons_succ, sx_lI, sx_lA, xl_s, xl_v, sx_pI, sx_pA, xp_s, List.set_cons_zero, List.set_cons_succ, sx_sI, sx_sB, sx_sZ, sx_sS, xs_s, sx_cp, xc_s, put_at, put_ne, new_at, new_ne, Option.bind_some, am_b2, sx_len, xn_s, h1]
  exact ⟨_, rfl, ⟨put_at _ _ _, h2, h3⟩, (Fo.refl _ _ _).put fun _ => h2⟩
theorem Md_gv (h : Ce g σ 95 (MDC th bm gv gm cm fm)) (v : Int32) : ∃ σ', am_pI σ 10 7 95 v = some σ' ∧ Ce g σ' 95 (MDC th bm v gm cm fm) ∧ Fo (fun a => a = 95) g σ g σ' := by
  obtain ⟨h1, h2, h3⟩ := h
  unfold MDC at h1 ⊢
  simp (disch := first | omega | (simp only [List.length_cons, List.length_nil] <;> omega)) only [sx_ck, xk_s, sx_gI, sx_gA, xg_s, xi_s, xa_s, List.getElem?_cons_zero, List.getElem?_cons_succ, sx_lI, sx_lA, xl_s, xl_v, sx_pI, sx_pA, xp_s, List.set_cons_zero, List.set_cons_succ, sx_sI, sx_sB, sx_sZ, sx_sS, xs_s, sx_cp, xc_s, put_at, put_ne, new_at, new_ne, Option.bind_some, am_b2, sx_len, xn_s, h1]
  exact ⟨_, rfl, ⟨put_at _ _ _, h2, h3⟩, (Fo.refl _ _ _).put fun _ => h2⟩
theorem Md_bm (h : Ce g σ 95 (MDC th bm gv gm cm fm)) (v : Int32) : ∃ σ', am_pI σ 10 4 95 v = some σ' ∧ Ce g σ' 95 (MDC th v gv gm cm fm) ∧ Fo (fun a => a = 95) g σ g σ' := by
  obtain ⟨h1, h2, h3⟩ := h
  unfold MDC at h1 ⊢
  simp (disch := first | omega | (simp only [List.length_cons, List.length_nil] <;> omega)) only [sx_ck, xk_s, sx_gI, sx_gA, xg_s, xi_s, xa_s, List.getElem?_cons_zero, List.getElem?_cons_succ, sx_lI, sx_lA, xl_s, xl_v, sx_pI, sx_pA, xp_s, List.set_cons_zero, List.set_cons_succ, sx_sI, sx_sB, sx_sZ, sx_sS, xs_s, sx_cp, xc_s, put_at, put_ne, new_at, new_ne, Option.bind_some, am_b2, sx_len, xn_s, h1]
  exact ⟨_, rfl, ⟨put_at _ _ _, h2, h3⟩, (Fo.refl _ _ _).put fun _ => h2⟩
theorem Md_bad (h : Ce g σ 95 (MDC th bm gv gm cm fm)) : ∃ σ', f_Md_bad F σ 95 = some (0, σ') ∧ Ce g σ' 95 (MDC 1 bm gv gm cm fm) ∧ Fo (fun a => a = 95) g σ g σ' := by
  obtain ⟨σ', q1, q2, q3⟩ := Md_th h 1
  unfold f_Md_bad
  rw [am_ck_of (show σ.2.2 95 = some (.inr (10, _)) from h.1), q1]
  exact ⟨σ', rfl, q2, q3⟩
theorem Md_refused (h : Ce g σ 95 (MDC th bm gv gm cm fm)) : ∃ σ', f_Md_refused F σ 95 = some (0, σ') ∧ Ce g σ' 95 (MDC 2 bm gv gm cm fm) ∧ Fo (fun a => a = 95) g σ g σ' := by
  obtain ⟨σ', q1, q2, q3⟩ := Md_th h 2
  unfold f_Md_refused
  rw [am_ck_of (show σ.2.2 95 = some (.inr (10, _)) from h.1), q1]
  exact ⟨σ', rfl, q2, q3⟩
theorem Md_thrown (h : Ce g σ 95 (MDC th bm gv gm cm fm)) : f_Md_thrown F σ 95 = some th := by
  have h1 := h.1
  unfold MDC at h1
  unfold f_Md_thrown
  simp (disch := first | omega | (simp only [List.length_cons, List.length_nil] <;> omega)) only [sx_ck, xk_s, sx_gI, sx_gA, xg_s, xi_s, xa_s, List.getElem?_cons_zero, List.getElem?_cons_succ, sx_lI, sx_lA, xl_s, xl_v, sx_pI, sx_pA, xp_s, List.set_cons_zero, List.set_cons_succ, sx_sI, sx_sB, sx_sZ, sx_sS, xs_s, sx_cp, xc_s, put_at, put_ne, new_at, new_ne, Option.bind_some, am_b2, sx_len, xn_s, h1]
theorem Md_take (h : Ce g σ 95 (MDC th bm gv gm cm fm)) : ∃ σ', f_Md_takeAll F σ 95 = some (gv, σ') ∧ Ce g σ' 95 (MDC th bm 0 gm cm fm) ∧ Fo (fun a => a = 95) g σ g σ' := by
  obtain ⟨σ', q1, q2, q3⟩ := Md_gv h 0
  have h1 := h.1
  unfold MDC at h1
  unfold f_Md_takeAll
  rw [am_ck_of h1, gI_of h1 (by rfl), Option.bind_some, q1]
  exact ⟨σ', rfl, q2, q3⟩
/-- all but 95 and what T has -/
theorem MDI.rest {g1 : Gh} {σ1 : am_S} {T : Nat → Prop} (h : MDI g σ th s) (hf : Fo T g σ g1 σ1) (hT : ∀ a, (a < 8 ∨ 96 ≤ a ∧ a < 186) → ¬ T a) {th' bm' gv' gm' cm' fm' : Int32} (hc : Ce g1 σ1 95 (MDC th' (nI s.2.2.1.length) (nI s.1.length) gm' cm' fm')) : MDI g1 σ1 th' s := by
  obtain ⟨h1, h2, -, h4, h5, h6, h7, h8, h9, ⟨Q, h10⟩, h11⟩ := h
  exact ⟨h1.fo hf, h2.fo h1 hf fun a ha => hT a (by omega), ⟨_, _, _, hc⟩, h4.fo hf (hT _ (by omega)), h5.fo hf (hT _ (by omega)) (hT _ (by omega)), h6.fo hf (hT _ (by omega)), h7.fo hf fun a _ _ => hT a (by omega), fun k hk => (h8 k hk).fo hf fun a _ _ => hT a (by omega), h9.fo hf fun a _ _ => hT a (by omega), ⟨Q, h10.fo hf fun a _ _ => hT a (by omega)⟩, h11.fo hf fun a _ _ => hT a (by omega)⟩
end MI
