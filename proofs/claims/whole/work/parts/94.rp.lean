/-! ===== L3: the reference's rows: adding many; its Paths: reads ===== -/
theorem slB_succ {u : List Int32} {k j : Nat} (hk : k < j) (hj : j ≤ u.length) : (u.take j).drop k = u[k] :: (u.take j).drop (k + 1) := by
  have hl : k < (u.take j).length := by simp; omega
  rw [List.drop_eq_getElem_cons hl]
  simp
def gW (g : Gh) (σ : am_S) : Prop := 187 ≤ σ.1 ∧ ∀ a, a < 95 ∨ a = 186 → g.1 a = a
theorem gW.fo {T : Nat → Prop} {g g1 : Gh} {σ σ1 : am_S} (h : gW g σ) (hf : Fo T g σ g1 σ1) : gW g1 σ1 := ⟨by have := hf.1; have := h.1; omega, fun a ha => by
  have := h.1
  rw [hf.2.1 a (by omega)]; exact h.2 a ha⟩
theorem MkS.fo {T : Nat → Prop} {g g1 : Gh} {σ σ1 : am_S} (hm : MkS σ) (h : gW g σ) (hf : Fo T g σ g1 σ1) (hT : ∀ a, a < 8 → ¬ T a) : MkS σ1 := by
  have h1 := h.1
  obtain ⟨m1, m2, m3⟩ := hm
  have key : ∀ {a : Nat} {x : Option am_C}, a < 8 → σ.2.2 a = x → σ1.2.2 a = x := fun {a x} ha hx => (hf.2.2.1 a (by omega) (by rw [h.2 a (by omega)]; exact hT a ha)).trans hx
  exact ⟨key (by omega) m1, key (by omega) m2, key (by omega) m3⟩
section RP
variable {F r r2 : Nat} {u : List Int32}
theorem Ro_addbLoop {j : Nat} (hne : r2 ≠ r) (hj : j ≤ u.length) (hF : 131072 < F) : ∀ (m k : Nat) (g : Gh) (σ : am_S) (t : List Int32), Ro g σ r t → Ro g σ r2 u → k ≤ j → t.length + (j - k) ≤ 65536 → j - k < m →
    ∃ g' σ', f_Ro_addb_l3 F r r2 (nI j) m (nI k) σ = some (r, σ') ∧ Ro g' σ' r (t ++ (u.take j).drop k) ∧ Fo (fun a => a = r) g σ g' σ' := by
  intro m
  induction m with
  | zero => intro k _ _ _ _ _ _ _ h; omega
  | succ m ih =>
    intro k g σ t h h2 hk hl hm
    have hu := Ro_len h2
    rw [f_Ro_addb_l3]
    by_cases hc : j ≤ k
    · rw [if_pos (nI_le hc (by omega)), List.drop_of_length_le (by simp; omega), List.append_nil]
      exact ⟨g, σ, rfl, h, Fo.refl _ _ _⟩
    · rw [if_neg (nI_ge (by omega) (by omega))]
      obtain ⟨a, f, N, e1, e2, e3, e4, e5⟩ := Ro_at h2
      have e6 := e5 k (by omega)
      rw [e1, Option.bind_some, lI_of e2 (by omega) (by omega), Option.bind_some, e6]
      obtain ⟨g1, σ1, q1, q2, q3⟩ := Ro_add (F := F) (x := u[k]) h (by omega) hF
      have hn : am_i2b u[k] = u[k] := by
        obtain ⟨_, _, -, -, -, -, -, -, -, z, -⟩ := h2
        exact z _ (List.getElem_mem _)
      rw [hn] at q2
      obtain ⟨g', σ', i1, i2, i3⟩ := ih (k + 1) g1 σ1 _ q2 (h2.fo q3 hne) (by omega) (by simp; omega) (by omega)
      rw [q1]
      simp only [am_b2, Option.bind_some]
      rw [nI_1]
      refine ⟨g', σ', i1, ?_, q3.trans i3⟩
      rw [List.append_assoc, List.singleton_append, ← slB_succ (by omega) hj] at i2
      exact i2
variable {g : Gh} {σ : am_S} {t : List Int32}
theorem Ro_addb {i j : Nat} (h : Ro g σ r t) (h2 : Ro g σ r2 u) (hne : r2 ≠ r) (hij : i ≤ j) (hj : j ≤ u.length) (hl : t.length + (j - i) ≤ 65536) (hF : 131072 < F) : ∃ g' σ', f_Ro_addb F σ r r2 (nI i) (nI j) = some (r, σ') ∧ Ro g' σ' r (t ++ (u.take j).drop i) ∧ Fo (fun a => a = r) g σ g' σ' := by
  have hu := Ro_len h2
  obtain ⟨a, f, h1, -⟩ := id h
  unfold f_Ro_addb
  rw [am_ck_of h1]
  exact Ro_addbLoop hne hj hF F i g σ t h h2 hij hl (by omega)
theorem Ro_addc (h : Ro g σ r t) (h2 : Ro g σ r2 u) (hne : r2 ≠ r) (hl : t.length + u.length ≤ 65536) (hF : 131072 < F) : ∃ g' σ', f_Ro_addc F σ r r2 = some (r, σ') ∧ Ro g' σ' r (t ++ u) ∧ Fo (fun a => a = r) g σ g' σ' := by
  obtain ⟨g', σ', q1, q2, q3⟩ := Ro_addb (i := 0) h h2 hne (Nat.zero_le _) (Nat.le_refl _) (by omega) hF
  rw [List.take_length, List.drop_zero] at q2
  have hn := Ro_n h2
  obtain ⟨a, f, h1, -⟩ := id h
  refine ⟨g', σ', ?_, q2, q3⟩
  rw [nI_0] at q1
  unfold f_Ro_addc
  rw [am_ck_of h1, hn, Option.bind_some, q1]
  rfl
theorem Ro_set (h : Ro g σ r t) (h2 : Ro g σ r2 u) (hne : r2 ≠ r) (hl : u.length ≤ 65536) (hF : 131072 < F) : ∃ g' σ', f_Ro_set F σ r r2 = some (r, σ') ∧ Ro g' σ' r u ∧ Fo (fun a => a = r) g σ g' σ' := by
  obtain ⟨σ1, c1, c2, c3⟩ := Ro_clear (F := F) h
  obtain ⟨g', σ', q1, q2, q3⟩ := Ro_addc c2 (h2.fo c3 hne) hne (by simpa using hl) hF
  obtain ⟨a, f, h1, -⟩ := id h
  refine ⟨g', σ', ?_, q2, c3.trans q3⟩
  unfold f_Ro_set
  rw [am_ck_of h1, c1, Option.bind_some, q1]
  rfl
theorem Ro_adddLoop {i : Nat} (hi : i ∈ [2, 3, 4]) (hr : 8 ≤ r) (hF : 131072 < F) : ∀ (m j : Nat) (g : Gh) (σ : am_S) (t : List Int32), Ro g σ r t → gW g σ → MkS σ → j ≤ (mkL i).length → t.length + ((mkL i).length - j) ≤ 65536 → (mkL i).length - j < m →
    ∃ g' σ', f_Ro_addd_l2 F r i m (nI j) σ = some (r, σ') ∧ Ro g' σ' r (t ++ (mkL i).drop j) ∧ Fo (fun a => a = r) g σ g' σ' := by
  have hl : (mkL i).length ≤ 15 := by
    have := mk_len
    simp only [List.mem_cons, List.not_mem_nil, or_false] at hi
    rcases hi with rfl | rfl | rfl <;> omega
  intro m
  induction m with
  | zero => intro j _ _ _ _ _ _ _ _ h; omega
  | succ m ih =>
    intro j g σ t h hg hm h1 h2 h3
    rw [f_Ro_addd_l2, St_len hm hi, Option.bind_some]
    by_cases hj : (mkL i).length ≤ j
    · rw [if_pos (nI_le hj (by omega)), List.drop_of_length_le hj, List.append_nil]
      exact ⟨g, σ, rfl, h, Fo.refl _ _ _⟩
    · have hj' : j < (mkL i).length := by omega
      rw [if_neg (nI_ge hj' (by omega)), St_char hm hi hj', Option.bind_some]
      obtain ⟨g1, σ1, q1, q2, q3⟩ := Ro_add (F := F) (x := am_chr (mkL i)[j]) h (by omega) hF
      have hc := (mk_chr i hi _ (List.getElem_mem hj')).1
      rw [i2b_i2b] at hc
      rw [hc] at q2
      obtain ⟨g', σ', p1, p2, p3⟩ := ih (j + 1) g1 σ1 _ q2 (hg.fo q3) (hm.fo hg q3 fun a ha => by omega) (by omega) (by rw [List.length_append, List.length_singleton]; omega) (by omega)
      rw [q1]
      simp only [am_b2, Option.bind_some]
      rw [nI_1]
      refine ⟨g', σ', p1, ?_, q3.trans p3⟩
      rw [List.append_assoc, List.singleton_append, ← List.drop_eq_getElem_cons hj'] at p2
      exact p2
theorem Ro_addd {i : Nat} (h : Ro g σ r t) (hi : i ∈ [2, 3, 4]) (hg : gW g σ) (hm : MkS σ) (hl : t.length + (mkL i).length ≤ 65536) (hF : 131072 < F) : ∃ g' σ', f_Ro_addd F σ r i = some (r, σ') ∧ Ro g' σ' r (t ++ mkL i) ∧ Fo (fun a => a = r) g σ g' σ' := by
  have hr := h.own.2.2
  have := Ro_adddLoop (F := F) hi hr hF F 0 g σ t h hg hm (Nat.zero_le _) (by omega) (by
    have := mk_len
    simp only [List.mem_cons, List.not_mem_nil, or_false] at hi
    rcases hi with rfl | rfl | rfl <;> omega)
  obtain ⟨a, f, h1, -⟩ := id h
  unfold f_Ro_addd
  rw [am_ck_of h1]
  exact this
theorem ushr_0 (v : Int32) : am_ushr v 0 = v := by
  unfold am_ushr
  have e : (Int32.toUInt32 0 &&& Int32.toUInt32 31) = 0 := by decide
  rw [e]
  simp
theorem Ro_four {v : Int32} (h : Ro g σ r t) (hl : t.length + 4 ≤ 65536) (hF : 131072 < F) : ∃ g' σ', f_Ro_four F σ r v = some (r, σ') ∧ Ro g' σ' r (t ++ by4 v) ∧ Fo (fun a => a = r) g σ g' σ' := by
  obtain ⟨g1, σ1, a1, a2, a3⟩ := Ro_add (F := F) (x := am_ushr v 24) h (by omega) hF
  obtain ⟨g2, σ2, b1, b2, b3⟩ := Ro_add (F := F) (x := am_ushr v 16) a2 (by simp; omega) hF
  obtain ⟨g3, σ3, c1, c2, c3⟩ := Ro_add (F := F) (x := am_ushr v 8) b2 (by simp; omega) hF
  obtain ⟨g4, σ4, d1, d2, d3⟩ := Ro_add (F := F) (x := v) c2 (by simp; omega) hF
  obtain ⟨a, f, h1, -⟩ := id h
  refine ⟨g4, σ4, ?_, ?_, ((a3.trans b3).trans c3).trans d3⟩
  · unfold f_Ro_four
    rw [am_ck_of h1]
    simp only [a1, b1, c1, d1, am_b2, Option.bind_some]
  · simpa [by4, ushr_0] using d2
end RP
/-- an entry: PATH, the three numbers, UNMERGED -/
abbrev Pe : Type := List Int32 × (Int32 × Int32 × Int32) × Bool
def pts (Q : List Pe) : List (List Int32) := Q.map fun e => e.1
theorem pts_len (Q : List Pe) : (pts Q).length = Q.length := by simp [pts]
theorem pts_get {Q : List Pe} {k : Nat} (h : k < Q.length) : (pts Q)[k]'(by rw [pts_len]; exact h) = Q[k].1 := by simp [pts]
def Ps (g : Gh) (σ : am_S) (p : Nat) (Q : List Pe) : Prop := ∃ fr bl un, Ce g σ p (cO 11 [.ref (p + 1), .ref (p + 3), .ref (p + 4), .ref (p + 5), .int (nI Q.length)]) ∧ Ro g σ (p + 1) (pts Q).flatten ∧ Ce g σ (p + 3) (cI 1700 fr) ∧ Ce g σ (p + 4) (cI 5100 bl) ∧ Ce g σ (p + 5) (cZ 1700 un) ∧ 8 ≤ p ∧ Q.length < 1700 ∧ (∀ k, k ≤ Q.length → fr k = nI (sl ((pts Q).take k))) ∧ ∀ k (h : k < Q.length), (bl (3 * k) = Q[k].2.1.1 ∧ bl (3 * k + 1) = Q[k].2.1.2.1 ∧ bl (3 * k + 2) = Q[k].2.1.2.2) ∧ un k = bo Q[k].2.2
abbrev PsT (p : Nat) : Nat → Prop := fun a => p ≤ a ∧ a ≤ p + 5
theorem Ps.fo {T : Nat → Prop} {g g1 : Gh} {σ σ1 : am_S} {p : Nat} {Q : List Pe} (h : Ps g σ p Q) (hf : Fo T g σ g1 σ1) (hT : ∀ a, p ≤ a → a ≤ p + 5 → ¬ T a) : Ps g1 σ1 p Q := by
  obtain ⟨fr, bl, un, h1, h2, h3, h4, h5, h⟩ := h
  exact ⟨fr, bl, un, h1.fo hf (hT _ (by omega) (by omega)), h2.fo hf (hT _ (by omega) (by omega)), h3.fo hf (hT _ (by omega) (by omega)), h4.fo hf (hT _ (by omega) (by omega)), h5.fo hf (hT _ (by omega) (by omega)), h⟩
theorem flat_get {Q : List (List Int32)} {k j : Nat} (hk : k < Q.length) (hj : j < Q[k].length) : Q.flatten[sl (Q.take k) + j]? = some Q[k][j] := by
  have e0 : Q.flatten = (Q.take k).flatten ++ (Q[k] ++ (Q.drop (k + 1)).flatten) := by
    conv => lhs; rw [← List.take_append_drop k Q]
    rw [List.flatten_append, List.drop_eq_getElem_cons hk, List.flatten_cons]
  have hl := sl_flat (Q.take k)
  rw [e0, List.getElem?_append_right (by omega), hl, Nat.add_sub_cancel_left, List.getElem?_append_left hj, List.getElem?_eq_getElem hj]
/-- where two rows differ by their bytes from 0 to 255 -/
theorem cmpV_step {p q : List Int32} (hp : isB p) (hq : isB q) : ∀ k (h1 : k < p.length) (h2 : k < q.length), p.take k = q.take k → (p[k] &&& 255) ≠ (q[k] &&& 255) → cmpV p q = (p[k] &&& 255) - (q[k] &&& 255) := by
  intro k
  induction k generalizing p q with
  | zero =>
    intro h1 h2 _ hne
    match p, q, h1, h2 with
    | x :: p, y :: q, _, _ =>
      simp only [List.getElem_cons_zero] at hne ⊢
      unfold cmpV
      rw [if_neg]
      intro e
      exact hne (by rw [e])
  | succ k ih =>
    intro h1 h2 he hne
    match p, q, h1, h2, hp, hq with
    | x :: p, y :: q, h1, h2, hp, hq =>
      simp only [List.take_succ_cons, List.cons.injEq] at he
      simp only [List.getElem_cons_succ] at hne ⊢
      unfold cmpV
      rw [if_pos he.1]
      exact ih hp.tail hq.tail _ _ he.2 hne
theorem cmpV_end : ∀ {p q : List Int32} {k : Nat}, p.take k = q.take k → (p.length ≤ k ∨ q.length ≤ k) → k ≤ p.length → k ≤ q.length → cmpV p q = nI p.length - nI q.length
  | [], [], _, _, _, _, _ => rfl
  | [], y :: q, k, _, _, h1, _ => by
    have : k = 0 := by simpa using h1
    unfold cmpV
    rfl
  | x :: p, [], _, _, _, _, _ => by rw [cmpV_nil]; rfl
  | x :: p, y :: q, 0, _, h, _, _ => by simp at h
  | x :: p, y :: q, k + 1, he, h, h1, h2 => by
    simp only [List.take_succ_cons, List.cons.injEq] at he
    simp only [List.length_cons] at h h1 h2
    have ih := cmpV_end (p := p) (q := q) (k := k) he.2 (by omega) (by omega) (by omega)
    unfold cmpV
    rw [if_pos he.1, ih, List.length_cons, List.length_cons, nI_succ, nI_succ]
    grind
