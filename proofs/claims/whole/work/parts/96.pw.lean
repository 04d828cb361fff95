/-! ===== L3: the reference's Paths: writes ===== -/
section PW
variable {F p p2 r : Nat} {g : Gh} {σ : am_S} {Q Q2 : List Pe} {u : List Int32}
theorem pts_app (Q Q2 : List Pe) : pts (Q ++ Q2) = pts Q ++ pts Q2 := by simp [pts]
theorem Ps_clear (h : Ps g σ p Q) : ∃ σ', f_Ps_clear F σ p = some σ' ∧ Ps g σ' p [] ∧ Fo (PsT p) g σ g σ' := by
  obtain ⟨fr, bl, un, h1, h2, h3, h4, h5, h8, h9, h10, h11⟩ := h
  have f1 : Fo (PsT p) g σ g (am_put σ p (cO 11 [.ref (p + 1), .ref (p + 3), .ref (p + 4), .ref (p + 5), .int 0])) := (Fo.refl _ _ _).put fun _ => by rw [h1.2.1]; exact ⟨by omega, by omega⟩
  have k1 : ¬ (p + 1 = p) := by omega
  have f1' : Fo (fun a => a = p) g σ g (am_put σ p (cO 11 [.ref (p + 1), .ref (p + 3), .ref (p + 4), .ref (p + 5), .int 0])) := (Fo.refl _ _ _).put fun _ => h1.2.1
  obtain ⟨σ2, c1, c2, c3⟩ := Ro_clear (F := F) (h2.fo f1' (by omega))
  have c3' : Fo (PsT p) g _ g σ2 := c3.mono fun a ha => by omega
  have W := f1.trans c3'
  have n0 : Ce g σ2 p (cO 11 [.ref (p + 1), .ref (p + 3), .ref (p + 4), .ref (p + 5), .int 0]) := Ce.fo ⟨put_at _ _ _, h1.2.1, h1.2.2⟩ c3 (by omega)
  have n3 := (h3.fo f1' (by omega)).fo c3 (by omega)
  have n4 := (h4.fo f1' (by omega)).fo c3 (by omega)
  have n5 := (h5.fo f1' (by omega)).fo c3 (by omega)
  have m0 := n0.1
  have m3 := n3.1
  unfold f_Ps_clear
  simp (disch := first | omega | (simp only [List.length_cons, List.length_nil] <;> omega)) only [sx_ck, xk_s, sx_gI, sx_gA, xg_s, xi_s, xa_s, List.getElem?_cons_zero, List.getElem?_cons_succ, sx_lI, sx_lA, xl_s, xl_v, sx_pI, sx_pA, xp_s, List.set_cons_zero, List.set_cons_succ, sx_sI, sx_sB, sx_sZ, sx_sS, xs_s, sx_cp, xc_s, put_at, put_ne, new_at, new_ne, Option.bind_some, am_b2, sx_len, xn_s, h1.1]
  rw [c1, Option.bind_some, ← nI_0]
  simp (disch := first | omega | (simp only [List.length_cons, List.length_nil] <;> omega)) only [sx_ck, xk_s, sx_gI, sx_gA, xg_s, xi_s, xa_s, List.getElem?_cons_zero, List.getElem?_cons_succ, sx_lI, sx_lA, xl_s, xl_v, sx_pI, sx_pA, xp_s, List.set_cons_zero, List.set_cons_succ, sx_sI, sx_sB, sx_sZ, sx_sS, xs_s, sx_cp, xc_s, put_at, put_ne, new_at, new_ne, Option.bind_some, am_b2, sx_len, xn_s, m0, m3]
  have f3 : Fo (fun a => a = p + 3) g σ2 g (am_put σ2 (p + 3) (cI 1700 (uf fr 0 (nI 0)))) := (Fo.refl _ _ _).put fun _ => n3.2.1
  refine ⟨_, rfl, ⟨uf fr 0 (nI 0), bl, un, n0.fo f3 (by omega), c2.fo f3 (by omega), ⟨put_at _ _ _, n3.2.1, n3.2.2⟩, n4.fo f3 (by omega), n5.fo f3 (by omega), h8, by simp, fun k hk => ?_, fun k hk => absurd hk (by simp)⟩, W.trans (f3.mono fun a ha => by omega)⟩
  have : k = 0 := by simpa using hk
  subst this
  rw [uf_same]
  rfl
theorem Ps_add {i j : Nat} (h : Ps g σ p Q) (h2 : Ro g σ r u) (hr : r < p ∨ p + 5 < r) (hij : i ≤ j) (hj : j ≤ u.length) (hn : Q.length + 1 < 1700) (hl : sl (pts Q) + (j - i) ≤ 65536) (hF : 131072 < F) :
    ∃ g' σ', f_Ps_add F σ p r (nI i) (nI j) = some (nI Q.length, σ') ∧ Ps g' σ' p (Q ++ [((u.take j).drop i, (-1, -1, -1), false)]) ∧ Fo (PsT p) g σ g' σ' := by
  obtain ⟨fr, bl, un, h1, h2', h3, h4, h5, h8, h9, h10, h11⟩ := h
  obtain ⟨g1, σ1, a1, a2, a3⟩ := Ro_addb (F := F) h2' h2 (by omega) hij hj (by rw [sl_flat]; exact hl) hF
  have c1 := h1.fo a3 (by omega)
  have c3 := h3.fo a3 (by omega)
  have c4 := h4.fo a3 (by omega)
  have c5 := h5.fo a3 (by omega)
  have m1 := c1.1
  have m3 := c3.1
  have m4 := c4.1
  have m5 := c5.1
  have hrl := Ro_len a2
  have hrn := Ro_n a2
  have hfl : (pts Q).flatten ++ (u.take j).drop i = (pts (Q ++ [((u.take j).drop i, ((-1 : Int32), (-1 : Int32), (-1 : Int32)), false)])).flatten := by
    rw [pts_app, List.flatten_append]
    simp [pts]
  rw [hfl] at a2 hrn
  have e3 : 3 * nI (Q.length + 1) = nI (3 * (Q.length + 1)) := nI_mul 3 _
  have e4 : nI (Q.length + 1) - 1 = nI Q.length := nI_pred _
  have e5 : nI (3 * (Q.length + 1)) - 3 = nI (3 * Q.length) := by
    have := nI_sub (a := 3 * (Q.length + 1)) (b := 3) (by omega)
    rw [show (3 : Int32) = nI 3 from rfl, this]
    congr 1
  have e6 : nI (3 * (Q.length + 1)) - 2 = nI (3 * Q.length + 1) := by
    have := nI_sub (a := 3 * (Q.length + 1)) (b := 2) (by omega)
    rw [show (2 : Int32) = nI 2 from rfl, this]
    congr 1
  have e7 : nI (3 * (Q.length + 1)) - 1 = nI (3 * Q.length + 2) := by
    have := nI_sub (a := 3 * (Q.length + 1)) (b := 1) (by omega)
    rw [show (1 : Int32) = nI 1 from rfl, this]
    congr 1
  have hrow : ∃ ra : Nat, σ1.2.2 (p + 1) = some (cO 12 [.ref ra, .int (nI (pts (Q ++ [((u.take j).drop i, ((-1 : Int32), (-1 : Int32), (-1 : Int32)), false)])).flatten.length)]) := by
    obtain ⟨ra, f, z, -⟩ := a2
    exact ⟨ra, z⟩
  obtain ⟨ra, mr⟩ := hrow
  unfold f_Ps_add
  rw [am_ck_of h1.1, gA_of h1.1 (by rfl), Option.bind_some, a1]
  simp only [am_b2, Option.bind_some]
  simp (disch := first | omega | (simp only [List.length_cons, List.length_nil] <;> omega)) only [sx_ck, xk_s, sx_gI, sx_gA, xg_s, xi_s, xa_s, List.getElem?_cons_zero, List.getElem?_cons_succ, sx_lI, sx_lA, xl_s, xl_v, sx_pI, sx_pA, xp_s, List.set_cons_zero, List.set_cons_succ, sx_sI, sx_sB, sx_sZ, sx_sS, xs_s, sx_cp, xc_s, put_at, put_ne, new_at, new_ne, Option.bind_some, am_b2, sx_len, xn_s, m1, m3, m4, m5, mr, nI_1, e3, e4, e5, e6, e7]
  generalize hτ : am_put _ _ _ = τ
  have q1 := c1.2.1
  have q3 := c3.2.1
  have q4 := c4.2.1
  have q5 := c5.2.1
  have hf : Fo (fun a => a = p ∨ a = p + 3 ∨ a = p + 4 ∨ a = p + 5) g1 σ1 g1 τ := hτ ▸ ((((((Fo.refl _ _ _).put fun _ => by rw [q1]; exact Or.inl rfl).put fun _ => by rw [q3]; exact Or.inr (Or.inl rfl)).put fun _ => by rw [q5]; exact Or.inr (Or.inr (Or.inr rfl))).put fun _ => by rw [q4]; exact Or.inr (Or.inr (Or.inl rfl))).put fun _ => by rw [q4]; exact Or.inr (Or.inr (Or.inl rfl))).put fun _ => by rw [q4]; exact Or.inr (Or.inr (Or.inl rfl))
  have hs1 : τ.1 = σ1.1 := by subst hτ; rfl
  refine ⟨g1, τ, rfl, ⟨uf fr (Q.length + 1) (nI (pts (Q ++ [((u.take j).drop i, ((-1 : Int32), (-1 : Int32), (-1 : Int32)), false)])).flatten.length), uf (uf (uf bl (3 * Q.length) (-1)) (3 * Q.length + 1) (-1)) (3 * Q.length + 2) (-1), uf un Q.length (0 &&& 1), ⟨by rw [List.length_append]; subst hτ; simp (disch := omega) only [put_at, put_ne, new_at, new_ne]; rfl, q1, by rw [hs1]; exact c1.2.2⟩, a2.fo hf (by omega), ⟨by subst hτ; simp (disch := omega) only [put_at, put_ne, new_at, new_ne], q3, by rw [hs1]; exact c3.2.2⟩, ⟨by subst hτ; simp (disch := omega) only [put_at, put_ne, new_at, new_ne], q4, by rw [hs1]; exact c4.2.2⟩, ⟨by subst hτ; simp (disch := omega) only [put_at, put_ne, new_at, new_ne], q5, by rw [hs1]; exact c5.2.2⟩, h8, by simp; omega, fun k hk => ?_, fun k hk => ?_⟩, (a3.mono fun a ha => by omega).trans (hf.mono fun a ha => by omega)⟩
  · rw [List.length_append, List.length_singleton] at hk
    by_cases e : k = Q.length + 1
    · subst e
      have hh : (pts (Q ++ [((u.take j).drop i, ((-1 : Int32), (-1 : Int32), (-1 : Int32)), false)])).take (Q.length + 1) = pts (Q ++ [((u.take j).drop i, ((-1 : Int32), (-1 : Int32), (-1 : Int32)), false)]) := List.take_of_length_le (by rw [pts_len]; simp)
      rw [uf_same, hh, sl_flat]
    · rw [uf_ne e, h10 k (by omega), pts_app, List.take_append_of_le_length (by rw [pts_len]; omega)]
  · rw [List.length_append, List.length_singleton] at hk
    by_cases e : k = Q.length
    · subst e
      simp only [List.getElem_append_right (Nat.le_refl _), Nat.sub_self, List.getElem_cons_zero]
      refine ⟨⟨?_, ?_, ?_⟩, by rw [uf_same]; rfl⟩
      · rw [uf_ne (by omega), uf_ne (by omega), uf_same]
      · rw [uf_ne (by omega), uf_same]
      · rw [uf_same]
    · have hk' : k < Q.length := by omega
      obtain ⟨⟨z1, z2, z3⟩, z4⟩ := h11 k hk'
      simp only [List.getElem_append_left hk']
      refine ⟨⟨?_, ?_, ?_⟩, by rw [uf_ne e]; exact z4⟩
      · rw [uf_ne (by omega), uf_ne (by omega), uf_ne (by omega)]; exact z1
      · rw [uf_ne (by omega), uf_ne (by omega), uf_ne (by omega)]; exact z2
      · rw [uf_ne (by omega), uf_ne (by omega), uf_ne (by omega)]; exact z3
/-- numbers set -/
def setV (e : Pe) (c : Nat) (v : Int32) : Pe := (e.1, (if c = 0 then v else e.2.1.1, if c = 1 then v else e.2.1.2.1, if c = 2 then v else e.2.1.2.2), e.2.2)
theorem setV_pts {k : Nat} {e : Pe} (hk : k < Q.length) (he : e.1 = Q[k].1) : pts (Q.set k e) = pts Q := by
  unfold pts
  rw [List.map_set]
  apply List.ext_getElem?
  intro j
  by_cases c : j = k
  · subst c
    rw [List.getElem?_set_self (by simpa using hk)]
    simp [hk, he]
  · rw [List.getElem?_set_ne (Ne.symm c)]
theorem Ps_setV {k c : Nat} {v : Int32} (h : Ps g σ p Q) (hk : k < Q.length) (hc : c < 3) : am_gA σ 11 2 p = some (p + 4) ∧ ∃ σ', am_sI σ (p + 4) (nI (3 * k + c)) v = some σ' ∧ Ps g σ' p (Q.set k (setV Q[k] c v)) ∧ Fo (fun a => a = p + 4) g σ g σ' := by
  obtain ⟨fr, bl, un, h1, h2, h3, h4, h5, h8, h9, h10, h11⟩ := h
  refine ⟨gA_of h1.1 rfl, ?_⟩
  have m4 := h4.1
  simp (disch := first | omega | (simp only [List.length_cons, List.length_nil] <;> omega)) only [sx_ck, xk_s, sx_gI, sx_gA, xg_s, xi_s, xa_s, List.getElem?_cons_zero, List.getElem?_cons_succ, sx_lI, sx_lA, xl_s, xl_v, sx_pI, sx_pA, xp_s, List.set_cons_zero, List.set_cons_succ, sx_sI, sx_sB, sx_sZ, sx_sS, xs_s, sx_cp, xc_s, put_at, put_ne, new_at, new_ne, Option.bind_some, am_b2, sx_len, xn_s, m4]
  have hf : Fo (fun a => a = p + 4) g σ g (am_put σ (p + 4) (cI 5100 (uf bl (3 * k + c) v))) := (Fo.refl _ _ _).put fun _ => h4.2.1
  have hp := setV_pts (Q := Q) (e := setV Q[k] c v) hk rfl
  refine ⟨_, rfl, ⟨fr, uf bl (3 * k + c) v, un, ?_, by rw [hp]; exact h2.fo hf (by omega), h3.fo hf (by omega), ⟨put_at _ _ _, h4.2.1, h4.2.2⟩, h5.fo hf (by omega), h8, by rw [List.length_set]; exact h9, fun j hj => ?_, fun j hj => ?_⟩, hf⟩
  · rw [List.length_set]; exact h1.fo hf (by omega)
  · rw [List.length_set] at hj
    rw [hp]; exact h10 j hj
  · have hj' : j < Q.length := by simpa using hj
    obtain ⟨⟨z1, z2, z3⟩, z4⟩ := h11 j hj'
    rw [List.getElem_set]
    split
    · rename_i e
      subst e
      unfold setV
      refine ⟨⟨?_, ?_, ?_⟩, z4⟩
      · by_cases e : c = 0
        · subst e; rw [Nat.add_zero, uf_same, if_pos rfl]
        · rw [uf_ne (by omega), if_neg e]; exact z1
      · by_cases e : c = 1
        · subst e; rw [uf_same, if_pos rfl]
        · rw [uf_ne (by omega), if_neg e]; exact z2
      · by_cases e : c = 2
        · subst e; rw [uf_same, if_pos rfl]
        · rw [uf_ne (by omega), if_neg e]; exact z3
    · exact ⟨⟨by rw [uf_ne (by omega)]; exact z1, by rw [uf_ne (by omega)]; exact z2, by rw [uf_ne (by omega)]; exact z3⟩, z4⟩
theorem Ps_setU {k : Nat} {v : Bool} (h : Ps g σ p Q) (hk : k < Q.length) : am_gA σ 11 3 p = some (p + 5) ∧ ∃ σ', am_sZ σ (p + 5) (nI k) (bo v) = some σ' ∧ Ps g σ' p (Q.set k (Q[k].1, Q[k].2.1, v)) ∧ Fo (fun a => a = p + 5) g σ g σ' := by
  obtain ⟨fr, bl, un, h1, h2, h3, h4, h5, h8, h9, h10, h11⟩ := h
  refine ⟨gA_of h1.1 rfl, ?_⟩
  have m5 := h5.1
  simp (disch := first | omega | (simp only [List.length_cons, List.length_nil] <;> omega)) only [sx_ck, xk_s, sx_gI, sx_gA, xg_s, xi_s, xa_s, List.getElem?_cons_zero, List.getElem?_cons_succ, sx_lI, sx_lA, xl_s, xl_v, sx_pI, sx_pA, xp_s, List.set_cons_zero, List.set_cons_succ, sx_sI, sx_sB, sx_sZ, sx_sS, xs_s, sx_cp, xc_s, put_at, put_ne, new_at, new_ne, Option.bind_some, am_b2, sx_len, xn_s, m5, bo_and]
  have hf : Fo (fun a => a = p + 5) g σ g (am_put σ (p + 5) (cZ 1700 (uf un k (bo v)))) := (Fo.refl _ _ _).put fun _ => h5.2.1
  have hp := setV_pts (Q := Q) (e := (Q[k].1, Q[k].2.1, v)) hk rfl
  refine ⟨_, rfl, ⟨fr, bl, uf un k (bo v), ?_, by rw [hp]; exact h2.fo hf (by omega), h3.fo hf (by omega), h4.fo hf (by omega), ⟨put_at _ _ _, h5.2.1, h5.2.2⟩, h8, by rw [List.length_set]; exact h9, fun j hj => ?_, fun j hj => ?_⟩, hf⟩
  · rw [List.length_set]; exact h1.fo hf (by omega)
  · rw [List.length_set] at hj
    rw [hp]; exact h10 j hj
  · have hj' : j < Q.length := by simpa using hj
    obtain ⟨⟨z1, z2, z3⟩, z4⟩ := h11 j hj'
    rw [List.getElem_set]
    split
    · rename_i e
      subst e
      exact ⟨⟨z1, z2, z3⟩, by rw [uf_same]⟩
    · rename_i e
      exact ⟨⟨z1, z2, z3⟩, by rw [uf_ne (Ne.symm e)]; exact z4⟩
theorem Ps_val (h : Ps g σ p Q) {k : Nat} (hk : k < Q.length) : am_gA σ 11 2 p = some (p + 4) ∧ am_lI σ .int (p + 4) (nI (3 * k)) = some Q[k].2.1.1 ∧ am_lI σ .int (p + 4) (nI (3 * k + 1)) = some Q[k].2.1.2.1 ∧ am_lI σ .int (p + 4) (nI (3 * k + 2)) = some Q[k].2.1.2.2 ∧ am_gA σ 11 3 p = some (p + 5) ∧ am_lI σ .boolean (p + 5) (nI k) = some (bo Q[k].2.2) := by
  obtain ⟨fr, bl, un, h1, h2, h3, h4, h5, h8, h9, h10, h11⟩ := h
  obtain ⟨⟨z1, z2, z3⟩, z4⟩ := h11 k hk
  refine ⟨gA_of h1.1 rfl, ?_, ?_, ?_, gA_of h1.1 rfl, ?_⟩
  · rw [lI_of h4.1 (by omega) (by omega), z1]
  · rw [lI_of h4.1 (by omega) (by omega), z2]
  · rw [lI_of h4.1 (by omega) (by omega), z3]
  · rw [lI_of h5.1 (by omega) (by omega), z4]
theorem mid_row (A M Z : List Int32) : ((A ++ (M ++ Z)).take (A.length + M.length)).drop A.length = M := by
  rw [← List.append_assoc, List.take_append_of_le_length (by simp), List.take_of_length_le (by simp), List.drop_append_of_le_length (Nat.le_refl _), List.drop_length, List.nil_append]
theorem slB_row {k : Nat} (hk : k < Q2.length) : (((pts Q2).flatten.take (sl ((pts Q2).take (k + 1)))).drop (sl ((pts Q2).take k))) = Q2[k].1 := by
  have hk' : k < (pts Q2).length := by rw [pts_len]; exact hk
  have e0 : (pts Q2).flatten = ((pts Q2).take k).flatten ++ ((pts Q2)[k] ++ ((pts Q2).drop (k + 1)).flatten) := by
    conv => lhs; rw [← List.take_append_drop k (pts Q2)]
    rw [List.flatten_append, List.drop_eq_getElem_cons hk', List.flatten_cons]
  have l1 := sl_flat ((pts Q2).take k)
  have l2 := pts_succ hk
  have l3 : (pts Q2)[k] = Q2[k].1 := pts_get hk
  rw [e0, l3, l2, ← l1]
  exact mid_row _ _ _
theorem Ps_take {k : Nat} (h : Ps g σ p Q) (h2 : Ps g σ p2 Q2) (hne : p2 + 5 < p ∨ p + 5 < p2) (hk : k < Q2.length) (hn : Q.length + 1 < 1700) (hl : sl (pts Q) + Q2[k].1.length ≤ 65536) (hF : 131072 < F) :
    ∃ g' σ', f_Ps_take F σ p p2 (nI k) = some σ' ∧ Ps g' σ' p (Q ++ [Q2[k]]) ∧ Fo (PsT p) g σ g' σ' := by
  obtain ⟨e1, e2⟩ := Ps_from h2 (k := k) (by omega)
  obtain ⟨-, e3⟩ := Ps_from h2 (k := k + 1) (by omega)
  have g0 : am_gA σ 11 0 p2 = some (p2 + 1) := gA_of (Ps_ob h2).1 rfl
  have hs := pts_succ hk
  have hrow := Ps_row h2
  have hl2 := (Ps_ob h2).2
  obtain ⟨g1, σ1, a1, a2, a3⟩ := Ps_add (F := F) (i := sl ((pts Q2).take k)) (j := sl ((pts Q2).take (k + 1))) h hrow (by omega) (by omega) (by rw [sl_flat]; exact sl_take_le _ _) hn (by omega) hF
  rw [slB_row hk] at a2
  have h2a := h2.fo a3 fun a _ _ => by omega
  have hlen : Q.length < (Q ++ [(Q2[k].1, ((-1 : Int32), (-1 : Int32), (-1 : Int32)), false)]).length := by simp
  obtain ⟨v1, v2, v3, v4, v5, v6⟩ := Ps_val h2a hk
  obtain ⟨w0, σ2, b1, b2, b3⟩ := Ps_setV (c := 0) (v := Q2[k].2.1.1) a2 hlen (by omega)
  have h2b := h2a.fo b3 fun a _ _ => by omega
  obtain ⟨v1b, v2b, v3b, v4b, v5b, v6b⟩ := Ps_val h2b hk
  have hset : ∀ e e' : Pe, (Q ++ [e]).set Q.length e' = Q ++ [e'] := fun e e' => by simp
  have hget : ∀ (e : Pe) (hh : Q.length < (Q ++ [e]).length), (Q ++ [e])[Q.length] = e := fun e hh => by simp
  rw [hget _ hlen, hset] at b2
  obtain ⟨w0b, σ3, c1, c2, c3⟩ := Ps_setV (k := Q.length) (c := 1) (v := Q2[k].2.1.2.1) b2 (by simp) (by omega)
  rw [hget, hset] at c2
  have h2c := h2b.fo c3 fun a _ _ => by omega
  obtain ⟨v1c, v2c, v3c, v4c, v5c, v6c⟩ := Ps_val h2c hk
  obtain ⟨w0c, σ4, d1, d2, d3⟩ := Ps_setV (k := Q.length) (c := 2) (v := Q2[k].2.1.2.2) c2 (by simp) (by omega)
  rw [hget, hset] at d2
  have h2d := h2c.fo d3 fun a _ _ => by omega
  obtain ⟨v1d, v2d, v3d, v4d, v5d, v6d⟩ := Ps_val h2d hk
  obtain ⟨w0d, σ5, f1, f2, f3⟩ := Ps_setU (k := Q.length) (v := Q2[k].2.2) d2 (by simp)
  rw [hget, hset] at f2
  refine ⟨g1, σ5, ?_, ?_, a3.trans ((b3.mono fun a ha => by omega).trans ((c3.mono fun a ha => by omega).trans ((d3.mono fun a ha => by omega).trans (f3.mono fun a ha => by omega))))⟩
  · unfold f_Ps_take
    rw [am_ck_of (Ps_ob h).1]
    simp only [g0, e1, e2, nI_1, e3, a1, am_b2, Option.bind_some]
    obtain ⟨n, rfl⟩ : ∃ n, F = n + 1 + 1 + 1 + 1 := ⟨F - 4, by omega⟩
    have m2 : ∀ x : Nat, 3 * nI x = nI (3 * x) := fun x => nI_mul 3 x
    have a0 : ∀ x : Nat, nI x + 0 = nI x := fun x => by rw [Int32.add_zero]
    rw [f_Ps_take_l26, if_neg (by decide), w0, Option.bind_some, v1, Option.bind_some, m2, m2, a0, a0, v2, Option.bind_some]
    rw [show 3 * Q.length + 0 = 3 * Q.length from rfl] at b1
    rw [b1, Option.bind_some, f_Ps_take_l26, if_neg (by decide), w0b, Option.bind_some, v1b, Option.bind_some, m2, m2, show (0 : Int32) + 1 = 1 by decide, nI_1, nI_1, v3b, Option.bind_some, c1, Option.bind_some, f_Ps_take_l26, if_neg (by decide), w0c, Option.bind_some, v1c, Option.bind_some, m2, m2, show (1 : Int32) + 1 = 2 by decide]
    have a2' : ∀ x : Nat, nI x + 2 = nI (x + 2) := fun x => nI_add x 2
    rw [a2', a2', v4c, Option.bind_some, d1, Option.bind_some, f_Ps_take_l26, if_pos (by decide)]
    unfold f_Ps_take_j60
    rw [w0d, Option.bind_some, v5d, Option.bind_some, v6d, Option.bind_some, f1, Option.bind_some]
  · have : (Q2[k].1, (Q2[k].2.1.1, Q2[k].2.1.2.1, Q2[k].2.1.2.2), Q2[k].2.2) = Q2[k] := rfl
    simpa [setV] using f2
theorem Ps_setLoop (hne : p2 + 5 < p ∨ p + 5 < p2) (hl : sl (pts Q2) ≤ 65536) (hF : 131072 < F) : ∀ (m k : Nat) (g : Gh) (σ : am_S), Ps g σ p (Q2.take k) → Ps g σ p2 Q2 → k ≤ Q2.length → Q2.length - k < m →
    ∃ g' σ', f_Ps_set_l6 F p p2 m (nI k) σ = some σ' ∧ Ps g' σ' p Q2 ∧ Fo (PsT p) g σ g' σ' := by
  intro m
  induction m with
  | zero => intro k _ _ _ _ _ h; omega
  | succ m ih =>
    intro k g σ h h2 hk hm
    have hl2 := (Ps_ob h2).2
    rw [f_Ps_set_l6, Ps_n h2, Option.bind_some]
    by_cases c : Q2.length ≤ k
    · rw [if_pos (nI_le c (by omega))]
      rw [List.take_of_length_le c] at h
      exact ⟨g, σ, rfl, h, Fo.refl _ _ _⟩
    · have hk' : k < Q2.length := by omega
      have hlk : (Q2.take k).length = k := by simp; omega
      have hpt : sl (pts (Q2.take k)) + Q2[k].1.length ≤ 65536 := by
        have e : pts (Q2.take k) = (pts Q2).take k := by unfold pts; rw [List.map_take]
        have := pts_succ hk'
        have := sl_take_le (pts Q2) (k + 1)
        rw [e]
        omega
      obtain ⟨g1, σ1, q1, q2, q3⟩ := Ps_take (F := F) h h2 hne hk' (by rw [hlk]; omega) hpt hF
      rw [← List.take_succ_eq_append_getElem hk'] at q2
      obtain ⟨g', σ', i1, i2, i3⟩ := ih (k + 1) g1 σ1 q2 (h2.fo q3 fun a _ _ => by omega) (by omega) (by omega)
      rw [if_neg (nI_ge hk' (by omega)), q1, Option.bind_some, nI_1]
      exact ⟨g', σ', i1, i2, q3.trans i3⟩
theorem Ps_set (h : Ps g σ p Q) (h2 : Ps g σ p2 Q2) (hne : p2 + 5 < p ∨ p + 5 < p2) (hl : sl (pts Q2) ≤ 65536) (hF : 131072 < F) : ∃ g' σ', f_Ps_set F σ p p2 = some σ' ∧ Ps g' σ' p Q2 ∧ Fo (PsT p) g σ g' σ' := by
  obtain ⟨σ1, c1, c2, c3⟩ := Ps_clear (F := F) h
  have hl2 := (Ps_ob h2).2
  obtain ⟨g', σ', q1, q2, q3⟩ := Ps_setLoop (F := F) hne hl hF F 0 g σ1 (by simpa using c2) (h2.fo c3 fun a _ _ => by omega) (Nat.zero_le _) (by omega)
  refine ⟨g', σ', ?_, q2, c3.trans q3⟩
  unfold f_Ps_set
  rw [am_ck_of (Ps_ob h).1, c1, Option.bind_some, ← nI_0, q1]
end PW
