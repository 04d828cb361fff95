/-! ===== L3: the reference's rows ===== -/
/-- whose an address is; how long a row's array is -/
abbrev Gh : Type := (Nat → Nat) × (Nat → Nat)
def RL : List Nat := [98, 104, 110, 115, 118, 121, 123, 125, 127, 130, 132, 134, 146, 152, 162, 164, 171, 177, 182]
def csum (c : Nat → Nat) : Nat := (RL.map c).sum
def updN (c : Nat → Nat) (r v : Nat) : Nat → Nat := fun i => if i = r then v else c i
theorem updN_same (c : Nat → Nat) (r v : Nat) : updN c r v r = v := by simp [updN]
theorem updN_ne {c : Nat → Nat} {r v i : Nat} (h : i ≠ r) : updN c r v i = c i := by simp [updN, h]
theorem map_updN {c : Nat → Nat} {r v : Nat} : ∀ {l : List Nat}, r ∉ l → l.map (updN c r v) = l.map c
  | [], _ => rfl
  | x :: l, h => by
    rw [List.map_cons, List.map_cons, map_updN (fun z => h (List.mem_cons_of_mem _ z)), updN_ne (fun z => h (by rw [z]; exact List.mem_cons_self))]
theorem sum_updN {c : Nat → Nat} {r v : Nat} : ∀ {l : List Nat}, l.Nodup → r ∈ l → (l.map (updN c r v)).sum + c r = (l.map c).sum + v
  | [], _, h => absurd h (by simp)
  | x :: l, hn, h => by
    rw [List.nodup_cons] at hn
    by_cases e : x = r
    · subst e
      rw [List.map_cons, List.map_cons, map_updN hn.1, updN_same, List.sum_cons, List.sum_cons]
      omega
    · have hm : r ∈ l := by
        rcases List.mem_cons.mp h with z | z
        · exact absurd z.symm e
        · exact z
      have := sum_updN (c := c) (v := v) hn.2 hm
      rw [List.map_cons, List.map_cons, updN_ne e, List.sum_cons, List.sum_cons]
      omega
theorem RL_nodup : RL.Nodup := by decide
theorem csum_upd {c : Nat → Nat} {r v : Nat} (h : r ∈ RL) : csum (updN c r v) + c r = csum c + v := sum_updN RL_nodup h
/-- what may have changed: what is T's, and new cells -/
def Fo (T : Nat → Prop) (g : Gh) (σ : am_S) (g' : Gh) (σ' : am_S) : Prop := σ.1 ≤ σ'.1 ∧ (∀ a, a < σ.1 → g'.1 a = g.1 a) ∧ (∀ a, a < σ.1 → ¬ T (g.1 a) → σ'.2.2 a = σ.2.2 a) ∧ (∀ r, ¬ T r → g'.2 r = g.2 r) ∧ σ'.2.1 + 2 * csum g.2 = σ.2.1 + 2 * csum g'.2 ∧ 16 * σ'.1 + σ.2.1 ≤ 16 * σ.1 + σ'.2.1
theorem Fo.refl (T : Nat → Prop) (g : Gh) (σ : am_S) : Fo T g σ g σ := ⟨Nat.le_refl _, fun _ _ => rfl, fun _ _ _ => rfl, fun _ _ => rfl, rfl, Nat.le_refl _⟩
theorem Fo.trans {T : Nat → Prop} {g g1 g2 : Gh} {σ σ1 σ2 : am_S} (h : Fo T g σ g1 σ1) (h' : Fo T g1 σ1 g2 σ2) : Fo T g σ g2 σ2 := by
  obtain ⟨a1, a2, a3, a4, a5, a6⟩ := h
  obtain ⟨b1, b2, b3, b4, b5, b6⟩ := h'
  refine ⟨by omega, fun a ha => (b2 a (by omega)).trans (a2 a ha), fun a ha hT => ?_, fun r hr => (b4 r hr).trans (a4 r hr), by omega, by omega⟩
  rw [b3 a (by omega) (by rw [a2 a ha]; exact hT), a3 a ha hT]
theorem Fo.mono {T T' : Nat → Prop} {g g1 : Gh} {σ σ1 : am_S} (h : Fo T g σ g1 σ1) (hT : ∀ a, T a → T' a) : Fo T' g σ g1 σ1 :=
  ⟨h.1, h.2.1, fun a ha z => h.2.2.1 a ha fun y => z (hT _ y), fun r hr => h.2.2.2.1 r fun y => hr (hT _ y), h.2.2.2.2.1, h.2.2.2.2.2⟩
/-- a put to what is T's -/
theorem Fo.put {T : Nat → Prop} {g g1 : Gh} {σ σ1 : am_S} {a : Nat} {x : am_C} (h : Fo T g σ g1 σ1) (ha : a < σ.1 → T (g.1 a)) : Fo T g σ g1 (am_put σ1 a x) := by
  obtain ⟨a1, a2, a3, a4, a5, a6⟩ := h
  refine ⟨a1, a2, fun b hb hT => ?_, a4, a5, a6⟩
  rw [put_ne fun e => hT (by rw [e] at hb ⊢; exact ha hb), a3 b hb hT]
theorem Fo.of {T S : Nat → Prop} {g : Gh} {σ σ' : am_S} (h : Fr S σ σ') (hd : ∀ a, a < σ.1 → S a → T (g.1 a)) : Fo T g σ g σ' :=
  ⟨by rw [h.1]; exact Nat.le_refl _, fun _ _ => rfl, fun a ha hT => h.2.2 a fun z => hT (hd a ha z), fun _ _ => rfl, by rw [h.2.1], by rw [h.1, h.2.1]; exact Nat.le_refl _⟩
/-- a cell of its own -/
def Ce (g : Gh) (σ : am_S) (a : Nat) (x : am_C) : Prop := σ.2.2 a = some x ∧ g.1 a = a ∧ a < σ.1
theorem Ce.fo {T : Nat → Prop} {g g1 : Gh} {σ σ1 : am_S} {a : Nat} {x : am_C} (h : Ce g σ a x) (hf : Fo T g σ g1 σ1) (hT : ¬ T a) : Ce g1 σ1 a x :=
  ⟨(hf.2.2.1 a h.2.2 (by rw [h.2.1]; exact hT)).trans h.1, (hf.2.1 a h.2.2).trans h.2.1, Nat.lt_of_lt_of_le h.2.2 hf.1⟩
/-- a Row -/
def Ro (g : Gh) (σ : am_S) (r : Nat) (t : List Int32) : Prop := ∃ (a : Nat) (f : Nat → Int32), σ.2.2 r = some (cO 12 [.ref a, .int (nI t.length)]) ∧ σ.2.2 a = some (cB (g.2 r) f) ∧ sli f 0 t.length = t ∧ (g.1 r = r ∧ r < σ.1 ∧ g.1 a = r ∧ a < σ.1 ∧ a ≠ r ∧ 8 ≤ a ∧ 8 ≤ r) ∧ t.length ≤ g.2 r ∧ 16 ≤ g.2 r ∧ g.2 r ≤ 131072 ∧ (∀ x ∈ t, am_i2b x = x) ∧ r ∈ RL
theorem Ro.fo {T : Nat → Prop} {g g1 : Gh} {σ σ1 : am_S} {r : Nat} {t : List Int32} (h : Ro g σ r t) (hf : Fo T g σ g1 σ1) (hT : ¬ T r) : Ro g1 σ1 r t := by
  obtain ⟨a, f, h1, h2, h3, ⟨o1, o2, o3, o4, o5, o6, o7⟩, h4, h5, h6, h7, h8⟩ := h
  obtain ⟨a1, a2, a3, a4, a5, a6⟩ := hf
  have e := a4 r hT
  refine ⟨a, f, (a3 r o2 (by rw [o1]; exact hT)).trans h1, ?_, h3, ⟨(a2 r o2).trans o1, by omega, (a2 a o4).trans o3, by omega, o5, o6, o7⟩, by rw [e]; exact h4, by rw [e]; exact h5, by rw [e]; exact h6, h7, h8⟩
  rw [e, a3 a o4 (by rw [o3]; exact hT)]
  exact h2
theorem Ro.own {g : Gh} {σ : am_S} {r : Nat} {t : List Int32} (h : Ro g σ r t) : g.1 r = r ∧ r < σ.1 ∧ 8 ≤ r := by
  obtain ⟨a, f, h1, h2, h3, ⟨o1, o2, o3, o4, o5, o6, o7⟩, -⟩ := h
  exact ⟨o1, o2, o7⟩
section RO
variable {F : Nat} {g : Gh} {σ : am_S} {r : Nat} {t : List Int32}
theorem Ro_get (h : Ro g σ r t) {j : Nat} (hj : j < t.length) : f_Ro_get F σ r (nI j) = some (t[j] &&& 255) := by
  obtain ⟨a, f, h1, h2, h3, o, h4, h5, h6, h7, h8⟩ := h
  have e : f j = t[j] := by
    have : (sli f 0 t.length)[j]? = some (f (0 + j)) := sli_get hj
    rw [h3, List.getElem?_eq_getElem hj, Nat.zero_add] at this
    exact (Option.some.inj this).symm
  unfold f_Ro_get
  simp (disch := first | omega | (simp only [List.length_cons, List.length_nil] <;> omega)) only [sx_ck, xk_s, sx_gI, sx_gA, xg_s, xi_s, xa_s, List.getElem?_cons_zero, List.getElem?_cons_succ, sx_lI, sx_lA, xl_s, xl_v, sx_pI, sx_pA, xp_s, List.set_cons_zero, List.set_cons_succ, sx_sI, sx_sB, sx_sZ, sx_sS, xs_s, sx_cp, xc_s, put_at, put_ne, new_at, new_ne, Option.bind_some, am_b2, sx_len, xn_s, h1, h2]
  rw [e]
theorem Ro_n (h : Ro g σ r t) : am_gI σ 12 1 r = some (nI t.length) := by
  obtain ⟨a, f, h1, -⟩ := h
  exact gI_of h1 rfl
theorem Ro_len (h : Ro g σ r t) : t.length ≤ 131072 := by
  obtain ⟨a, f, h1, h2, h3, o, h4, h5, h6, h7, h8⟩ := h
  omega
/-- a raw read -/
theorem Ro_at (h : Ro g σ r t) : ∃ (a : Nat) (f : Nat → Int32) (N : Nat), am_gA σ 12 0 r = some a ∧ σ.2.2 a = some (cB N f) ∧ N ≤ 131072 ∧ t.length ≤ N ∧ ∀ j (hj : j < t.length), f j = t[j] := by
  obtain ⟨a, f, h1, h2, h3, o, h4, h5, h6, h7, h8⟩ := h
  refine ⟨a, f, _, gA_of h1 rfl, h2, h6, h4, fun j hj => ?_⟩
  have : (sli f 0 t.length)[j]? = some (f (0 + j)) := sli_get hj
  rw [h3, List.getElem?_eq_getElem hj, Nat.zero_add] at this
  exact (Option.some.inj this).symm
theorem Ro_copy {a b n N : Nat} {f : Nat → Int32} {c : Nat} {kk : am_S → Option (Nat × am_S)} (hn : n ≤ 131072) (hc : c ≤ 131072) (hN : N ≤ 262144) (hnc : n ≤ c) (hnN : n ≤ N) (hba : b ≠ a) (hbr : b ≠ r) (h8 : 8 ≤ b) (hf : ∀ i, i < n → am_i2b (f i) = f i) : ∀ (m j : Nat) (τ : am_S) (h : Nat → Int32), τ.2.2 r = some (cO 12 [.ref a, .int (nI n)]) → τ.2.2 a = some (cB c f) → τ.2.2 b = some (cB N h) → (∀ i, i < j → h i = f i) → j ≤ n → n - j < m →
    ∃ τ' h', f_Ro_adda_l23 F r b kk m (nI j) τ = kk τ' ∧ τ'.2.2 b = some (cB N h') ∧ (∀ i, i < n → h' i = f i) ∧ Fr (fun x => x = b) τ τ' := by
  intro m
  induction m with
  | zero => intro j _ _ _ _ _ _ _ h; omega
  | succ m ih =>
    intro j τ h h1 h2 h3 h4 h5 h6
    rw [f_Ro_adda_l23]
    simp (disch := first | omega | (simp only [List.length_cons, List.length_nil] <;> omega)) only [sx_ck, xk_s, sx_gI, sx_gA, xg_s, xi_s, xa_s, List.getElem?_cons_zero, List.getElem?_cons_succ, sx_lI, sx_lA, xl_s, xl_v, sx_pI, sx_pA, xp_s, List.set_cons_zero, List.set_cons_succ, sx_sI, sx_sB, sx_sZ, sx_sS, xs_s, sx_cp, xc_s, put_at, put_ne, new_at, new_ne, Option.bind_some, am_b2, sx_len, xn_s, h1]
    by_cases hj : n ≤ j
    · rw [if_pos (nI_le hj (by omega))]
      exact ⟨τ, h, rfl, h3, fun i hi => h4 i (by omega), Fr.refl _ _⟩
    · rw [if_neg (nI_ge (by omega) (by omega))]
      simp (disch := first | omega | (simp only [List.length_cons, List.length_nil] <;> omega)) only [sx_ck, xk_s, sx_gI, sx_gA, xg_s, xi_s, xa_s, List.getElem?_cons_zero, List.getElem?_cons_succ, sx_lI, sx_lA, xl_s, xl_v, sx_pI, sx_pA, xp_s, List.set_cons_zero, List.set_cons_succ, sx_sI, sx_sB, sx_sZ, sx_sS, xs_s, sx_cp, xc_s, put_at, put_ne, new_at, new_ne, Option.bind_some, am_b2, sx_len, xn_s, h2, h3, nI_1]
      generalize hτ : am_put _ _ _ = τ1
      have w : Fr (fun x => x = b) τ τ1 := hτ ▸ (Fr.refl (fun x => x = b) _).p rfl
      obtain ⟨τ', h', q1, q2, q3, q4⟩ := ih (j + 1) τ1 (uf h j (am_i2b (f j))) (w.at (Ne.symm hbr) h1) (w.at (Ne.symm hba) h2) (at_top hτ) (fun i hi => by
        by_cases e : i = j
        · subst e; rw [uf_same, hf i (by omega)]
        · rw [uf_ne e]; exact h4 i (by omega)) (by omega) (by omega)
      exact ⟨τ', h', q1, q2, q3, w.trans q4⟩
theorem Ro_end {a N : Nat} {f : Nat → Int32} {x : Int32} (h1 : σ.2.2 r = some (cO 12 [.ref a, .int (nI t.length)])) (h2 : σ.2.2 a = some (cB N f)) (hl : t.length < N) (hN : N ≤ 131072) (har : a ≠ r) (h8a : 8 ≤ a) (h8r : 8 ≤ r) : f_Ro_adda_j51 F r x σ = some (r, am_put (am_put σ a (cB N (uf f t.length (am_i2b (am_i2b x))))) r (cO 12 [.ref a, .int (nI (t.length + 1))])) := by
  unfold f_Ro_adda_j51
  have har' : r ≠ a := Ne.symm har
  simp (disch := first | omega | (simp only [List.length_cons, List.length_nil] <;> omega)) only [sx_ck, xk_s, sx_gI, sx_gA, xg_s, xi_s, xa_s, List.getElem?_cons_zero, List.getElem?_cons_succ, sx_lI, sx_lA, xl_s, xl_v, sx_pI, sx_pA, xp_s, List.set_cons_zero, List.set_cons_succ, sx_sI, sx_sB, sx_sZ, sx_sS, xs_s, sx_cp, xc_s, put_at, put_ne, new_at, new_ne, Option.bind_some, am_b2, sx_len, xn_s, h1, h2, nI_1]
theorem Ro_add {x : Int32} (h : Ro g σ r t) (hl : t.length < 65536) (hF : 131072 < F) : ∃ g' σ', f_Ro_adda F σ r x = some (r, σ') ∧ Ro g' σ' r (t ++ [am_i2b x]) ∧ Fo (fun a => a = r) g σ g' σ' := by
  obtain ⟨a, f, h1, h2, h3, ⟨o1, o2, o3, o4, o5, o6, o7⟩, h4, h5, h6, h7, h8⟩ := h
  have hsl : ∀ j (hj : j < t.length), f j = t[j] := fun j hj => by
    have : (sli f 0 t.length)[j]? = some (f (0 + j)) := sli_get hj
    rw [h3, List.getElem?_eq_getElem hj, Nat.zero_add] at this
    exact (Option.some.inj this).symm
  have hnew : ∀ y ∈ t ++ [am_i2b x], am_i2b y = y := by
    intro y hy
    rw [List.mem_append, List.mem_singleton] at hy
    rcases hy with z | z
    · exact h7 y z
    · rw [z]; exact i2b_i2b x
  have hcat : ∀ q : Nat → Int32, (∀ j, j < t.length → q j = f j) → sli (uf q t.length (am_i2b (am_i2b x))) 0 (t ++ [am_i2b x]).length = t ++ [am_i2b x] := by
    intro q hq
    rw [List.length_append, List.length_singleton, sli_succ, sli_uf (Or.inr (by omega)), Nat.zero_add, uf_same, i2b_i2b, ← h3]
    congr 1
    simp only [sli_len]
    exact sli_congr fun j hj => by rw [Nat.zero_add]; exact hq j hj
  have hlen : (t ++ [am_i2b x]).length = t.length + 1 := by simp
  unfold f_Ro_adda
  simp (disch := first | omega | (simp only [List.length_cons, List.length_nil] <;> omega)) only [sx_ck, xk_s, sx_gI, sx_gA, xg_s, xi_s, xa_s, List.getElem?_cons_zero, List.getElem?_cons_succ, sx_lI, sx_lA, xl_s, xl_v, sx_pI, sx_pA, xp_s, List.set_cons_zero, List.set_cons_succ, sx_sI, sx_sB, sx_sZ, sx_sS, xs_s, sx_cp, xc_s, put_at, put_ne, new_at, new_ne, Option.bind_some, am_b2, sx_len, xn_s, h1, h2]
  by_cases hc : t.length = g.2 r
  · rw [if_pos (by rw [hc])]
    have e2 : 2 * nI t.length = nI (2 * t.length) := nI_mul 2 t.length
    have hna : am_na σ .byte (nI (2 * t.length)) = some (σ.1, am_new σ (2 * t.length) (cB (2 * t.length) fun _ => 0)) := by
      unfold am_na
      rw [nI_clamp (by omega), if_neg (by rintro (z | z); exact nI_pos (by omega) z; omega)]
      rfl
    rw [e2, hna]
    simp only [Option.bind_some]
    obtain ⟨τ', h', q1, q2, q3, q4⟩ := Ro_copy (F := F) (r := r) (a := a) (b := σ.1) (n := t.length) (N := 2 * t.length) (f := f) (c := g.2 r) (kk := fun τ => f_Ro_adda_j46 F r x σ.1 τ) (by omega) h6 (by omega) h4 (by omega) (by omega) (by omega) (by omega) (fun i hi => by rw [hsl i hi]; exact h7 _ (List.getElem_mem hi)) F 0 (am_new σ (2 * t.length) (cB (2 * t.length) fun _ => 0)) (fun _ => 0) (by rw [new_ne (by omega)]; exact h1) (by rw [new_ne (by omega)]; exact h2) new_at (fun _ h => by omega) (by omega) (by omega)
    rw [nI_0] at q1
    rw [q1]
    have r1 : τ'.2.2 r = some (cO 12 [.ref a, .int (nI t.length)]) := q4.at (by omega) (by rw [new_ne (by omega)]; exact h1)
    unfold f_Ro_adda_j46
    simp (disch := first | omega | (simp only [List.length_cons, List.length_nil] <;> omega)) only [sx_ck, xk_s, sx_gI, sx_gA, xg_s, xi_s, xa_s, List.getElem?_cons_zero, List.getElem?_cons_succ, sx_lI, sx_lA, xl_s, xl_v, sx_pI, sx_pA, xp_s, List.set_cons_zero, List.set_cons_succ, sx_sI, sx_sB, sx_sZ, sx_sS, xs_s, sx_cp, xc_s, put_at, put_ne, new_at, new_ne, Option.bind_some, am_b2, sx_len, xn_s, r1]
    have hrr : r ≠ σ.1 := by omega
    rw [Ro_end (F := F) (t := t) (a := σ.1) (N := 2 * t.length) (f := h') (put_at _ _ _) (by rw [put_ne (Ne.symm hrr)]; exact q2) (by omega) (by omega) (Ne.symm hrr) (by omega) o7]
    refine ⟨(updN g.1 σ.1 r, updN g.2 r (2 * t.length)), _, rfl, ⟨σ.1, uf h' t.length (am_i2b (am_i2b x)), by rw [hlen]; exact put_at _ _ _, ?_, hcat h' q3, ⟨(updN_ne hrr).trans o1, ?_, updN_same _ _ _, ?_, Ne.symm hrr, by omega, o7⟩, ?_, ?_, ?_, hnew, h8⟩, ⟨?_, fun b hb => updN_ne (by omega), fun b hb hT => ?_, fun q hq => updN_ne hq, ?_, ?_⟩⟩
    · show _ = some (cB (updN g.2 r (2 * t.length) r) _)
      rw [put_ne (Ne.symm hrr), put_at, updN_same]
    · show r < τ'.1
      rw [q4.1]
      show r < σ.1 + 1
      omega
    · show σ.1 < τ'.1
      rw [q4.1]
      show σ.1 < σ.1 + 1
      omega
    · show _ ≤ updN g.2 r (2 * t.length) r
      rw [hlen, updN_same]; omega
    · show 16 ≤ updN g.2 r (2 * t.length) r
      rw [updN_same]; omega
    · show updN g.2 r (2 * t.length) r ≤ 131072
      rw [updN_same]; omega
    · show σ.1 ≤ τ'.1
      rw [q4.1]
      show σ.1 ≤ σ.1 + 1
      omega
    · have hbr : b ≠ r := fun z => hT (by rw [z, o1])
      rw [put_ne hbr, put_ne (by omega), put_ne hbr, q4.2.2 b (by omega), new_ne (by omega)]
    · show τ'.2.1 + 2 * csum g.2 = σ.2.1 + 2 * csum (updN g.2 r (2 * t.length))
      have := csum_upd (c := g.2) (v := 2 * t.length) h8
      rw [q4.2.1]
      show σ.2.1 + 2 * t.length + 2 * csum g.2 = _
      omega
    · show 16 * τ'.1 + σ.2.1 ≤ 16 * σ.1 + τ'.2.1
      rw [q4.1, q4.2.1]
      show 16 * (σ.1 + 1) + σ.2.1 ≤ 16 * σ.1 + (σ.2.1 + 2 * t.length)
      omega
  · rw [if_neg (by rw [nI_eq (by omega) (by omega)]; exact hc), Ro_end h1 h2 (by omega) h6 o5 o6 o7]
    refine ⟨g, _, rfl, ⟨a, uf f t.length (am_i2b (am_i2b x)), by rw [hlen]; exact put_at _ _ _, by rw [put_ne o5]; exact put_at _ _ _, hcat f fun j hj => rfl, ⟨o1, o2, o3, o4, o5, o6, o7⟩, by rw [hlen]; omega, h5, h6, hnew, h8⟩, ((Fo.refl _ _ _).put fun _ => o3).put fun _ => o1⟩
theorem Ro_clear (h : Ro g σ r t) : ∃ σ', f_Ro_clear F σ r = some σ' ∧ Ro g σ' r [] ∧ Fo (fun a => a = r) g σ g σ' := by
  obtain ⟨a, f, h1, h2, h3, ⟨o1, o2, o3, o4, o5, o6, o7⟩, h4, h5, h6, h7, h8⟩ := h
  unfold f_Ro_clear
  simp (disch := first | omega | (simp only [List.length_cons, List.length_nil] <;> omega)) only [sx_ck, xk_s, sx_gI, sx_gA, xg_s, xi_s, xa_s, List.getElem?_cons_zero, List.getElem?_cons_succ, sx_lI, sx_lA, xl_s, xl_v, sx_pI, sx_pA, xp_s, List.set_cons_zero, List.set_cons_succ, sx_sI, sx_sB, sx_sZ, sx_sS, xs_s, sx_cp, xc_s, put_at, put_ne, new_at, new_ne, Option.bind_some, am_b2, sx_len, xn_s, h1]
  exact ⟨_, rfl, ⟨a, f, put_at _ _ _, by rw [put_ne o5]; exact h2, rfl, ⟨o1, o2, o3, o4, o5, o6, o7⟩, Nat.zero_le _, h5, h6, fun x hx => absurd hx (by simp), h8⟩, (Fo.refl _ _ _).put fun _ => o1⟩
/-- cutting the end off -/
theorem Ro_cut {n : Nat} (h : Ro g σ r t) (hn : n ≤ t.length) : ∃ σ', am_pI σ 12 1 r (nI n) = some σ' ∧ Ro g σ' r (t.take n) ∧ Fo (fun a => a = r) g σ g σ' := by
  obtain ⟨a, f, h1, h2, h3, ⟨o1, o2, o3, o4, o5, o6, o7⟩, h4, h5, h6, h7, h8⟩ := h
  simp (disch := first | omega | (simp only [List.length_cons, List.length_nil] <;> omega)) only [sx_ck, xk_s, sx_gI, sx_gA, xg_s, xi_s, xa_s, List.getElem?_cons_zero, List.getElem?_cons_succ, sx_lI, sx_lA, xl_s, xl_v, sx_pI, sx_pA, xp_s, List.set_cons_zero, List.set_cons_succ, sx_sI, sx_sB, sx_sZ, sx_sS, xs_s, sx_cp, xc_s, put_at, put_ne, new_at, new_ne, Option.bind_some, am_b2, sx_len, xn_s, h1]
  have hl : (t.take n).length = n := by simp; omega
  refine ⟨_, rfl, ⟨a, f, by rw [hl]; exact put_at _ _ _, by rw [put_ne o5]; exact h2, ?_, ⟨o1, o2, o3, o4, o5, o6, o7⟩, by rw [hl]; omega, h5, h6, fun x hx => h7 x (List.mem_of_mem_take hx), h8⟩, (Fo.refl _ _ _).put fun _ => o1⟩
  rw [hl]
  conv => rhs; rw [← h3]
  rw [sli_take hn]
end RO
