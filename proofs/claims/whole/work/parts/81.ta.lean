/-! ===== L3: TextMerger: parts, adding ===== -/
def PaC (σ : am_S) (a bl : Nat) (t i j : Int32) : Prop := σ.2.2 a = some (cO 8 [.ref bl, .int t, .int i, .int j])
def MkS (σ : am_S) : Prop := σ.2.2 5 = some (cB 13 fun j => (mkL 2).getD j 0) ∧ σ.2.2 6 = some (cB 8 fun j => (mkL 3).getD j 0) ∧ σ.2.2 7 = some (cB 15 fun j => (mkL 4).getD j 0)
theorem MkS.fr {σ σ1 : am_S} {S : Nat → Prop} (h : MkS σ) (hf : Fr S σ σ1) (hd : ∀ a, a < 8 → ¬ S a) : MkS σ1 :=
  ⟨hf.at (hd _ (by omega)) h.1, hf.at (hd _ (by omega)) h.2.1, hf.at (hd _ (by omega)) h.2.2⟩
def TmA (σ : am_S) (o bl : Nat) (T : List Int32) (cf : Bool) : Prop := ∃ tx, TmC σ o bl (nI T.length) (bo cf) 0 ∧ σ.2.2 (o + 4) = some (cB 65536 tx) ∧ sli tx 0 T.length = T
abbrev TaS (o : Nat) : Nat → Prop := fun a => a = o ∨ a = o + 4
theorem sli_sub {f : Nat → Int32} {s N a n : Nat} {t : List Int32} (h : sli f s N = t) (ha : a + n ≤ N) : sli f (s + a) n = (t.drop a).take n := by
  obtain ⟨r, rfl⟩ : ∃ r, N = a + (n + r) := ⟨N - (a + n), by omega⟩
  rw [sli_app, sli_app] at h
  subst h
  rw [List.drop_append_of_le_length (by rw [sli_len]; omega), List.drop_of_length_le (by rw [sli_len]; omega), List.nil_append, List.take_append_of_le_length (by rw [sli_len]; omega), List.take_of_length_le (by rw [sli_len]; omega)]
theorem slc_bytes {X : List Ln} {t : List Int32} (h : X.flatten = t) {i j : Nat} (hij : i ≤ j) : (t.drop (sl (X.take i))).take (sl (X.take j) - sl (X.take i)) = (slc X i j).flatten := by
  have e1 := slc_flat (X := X) hij
  have e2 := slc_sl (X := X) hij
  have e : t = (X.take i).flatten ++ ((slc X i j).flatten ++ (X.drop j).flatten) := by
    rw [← List.append_assoc, e1, ← List.flatten_append, List.take_append_drop, h]
  have l1 := sl_flat (X.take i)
  have l2 := sl_flat (slc X i j)
  rw [e, List.drop_append_of_le_length (by omega), List.drop_of_length_le (by omega), List.nil_append, List.take_append_of_le_length (by omega), List.take_of_length_le (by omega)]
theorem Bl_slice {σ : am_S} {bl : Nat} {B : List (List Int32)} (hB : Bl σ bl B) : ∃ by_, σ.2.2 (bl + 1) = some (cB 32768 by_) ∧ ∀ k (hk : k < B.length), sl (B.take k) + B[k].length ≤ 32768 ∧ sli by_ (sl (B.take k)) B[k].length = B[k] := by
  obtain ⟨by_, st, ro, fl, lc, wt, ls, ll, lk, lh, lch, ⟨b1, b2, -⟩, -, ⟨w1, w2, w3, w4, -⟩, -⟩ := hB
  refine ⟨by_, b2, fun k hk => ⟨?_, ?_⟩⟩
  · have := sl_get_le hk
    omega
  · have := flat_row w4 hk
    rwa [Nat.zero_add] at this
theorem max_sl {t : List Int32} (h : rgh t = false) (i : Nat) : sl ((tln t).take i) ≤ t.length := by
  have h1 := sl_split (tln t) i
  have h2 := sl_flat (tln t)
  rw [tln_flat h] at h2
  omega
theorem i2b_10 : am_i2b 10 = 10 := by decide
theorem mk_chr : ∀ i ∈ [2, 3, 4], ∀ b ∈ mkL i, am_i2b (am_i2b (am_chr b)) = b ∧ am_i2b b = b := by decide
section TA
variable {o bl F : Nat} {B : List (List Int32)}
theorem Tm_addBytes {σ : am_S} {by_ : Nat → Int32} {T : List Int32} {cf : Bool} {s n : Nat} (h8 : 8 ≤ bl) (hb : bl + 13 ≤ o) (hB : Bl σ bl B) (h : TmA σ o bl T cf) (hby : σ.2.2 (bl + 1) = some (cB 32768 by_)) (hs : s + n ≤ 32768) (hT : T.length + n ≤ 65536) :
    ∃ σ', f_Tm_addBytes F σ o (nI s) (nI (s + n)) = some σ' ∧ TmA σ' o bl (T ++ sli by_ s n) cf ∧ Fr (TaS o) σ σ' := by
  obtain ⟨tx, h0, h4, h5⟩ := h
  unfold TmC at h0
  have hbb := Bl_bytes (F := F) hB
  have e1 : nI T.length + nI (s + n) - nI s = nI (T.length + n) := by rw [nI_add, nI_sub (by omega)]; congr 1; omega
  have e2 : nI (s + n) - nI s = nI n := by rw [nI_sub (by omega)]; congr 1; omega
  have e3 : nI (T.length + n) ≤ (65536 : Int32) := nI_le (b := 65536) (by omega) (by omega)
  unfold f_Tm_addBytes
  simp (disch := first | omega | (simp only [List.length_cons, List.length_nil] <;> omega)) only [sx_ck, xk_s, sx_gI, sx_gA, xg_s, xi_s, xa_s, List.getElem?_cons_zero, List.getElem?_cons_succ, sx_lI, sx_lA, xl_s, xl_v, sx_pI, sx_pA, xp_s, List.set_cons_zero, List.set_cons_succ, sx_sI, sx_sB, sx_sZ, sx_sS, xs_s, sx_cp, xc_s, put_at, put_ne, new_at, new_ne, Option.bind_some, am_b2, sx_len, xn_s, h0]
  rw [e1, e2, if_pos e3, hbb, Option.bind_some]
  simp (disch := first | omega | (simp only [List.length_cons, List.length_nil] <;> omega)) only [sx_ck, xk_s, sx_gI, sx_gA, xg_s, xi_s, xa_s, List.getElem?_cons_zero, List.getElem?_cons_succ, sx_lI, sx_lA, xl_s, xl_v, sx_pI, sx_pA, xp_s, List.set_cons_zero, List.set_cons_succ, sx_sI, sx_sB, sx_sZ, sx_sS, xs_s, sx_cp, xc_s, put_at, put_ne, new_at, new_ne, Option.bind_some, am_b2, sx_len, xn_s, h0, h4, hby, nI_add]
  refine ⟨_, rfl, ⟨va_cpy by_ tx s T.length n, by unfold TmC; simp (disch := omega) only [put_at, put_ne, new_at, new_ne]; rw [List.length_append, sli_len], by simp (disch := omega) only [put_at, put_ne, new_at, new_ne], ?_⟩, ((Fr.refl _ _).p (Or.inr rfl)).p (Or.inl rfl)⟩
  rw [List.length_append, sli_len, sli_app, Nat.zero_add, sli_cpy, sli_cpy_ne (Or.inl (by omega)), h5]
theorem Tm_addLines {σ : am_S} {T : List Int32} {cf : Bool} {x i j : Nat} (h8 : 8 ≤ bl) (hb : bl + 13 ≤ o) (hB : Bl σ bl B) (h : TmA σ o bl T cf) (hx : x < B.length) (hr : rgh B[x] = false) (hij : i ≤ j) (hT : T.length + sl (slc (tln B[x]) i j) ≤ 65536) :
    ∃ σ', f_Tm_addBytes F σ o (nI (sl (B.take x) + sl ((tln B[x]).take i))) (nI (sl (B.take x) + sl ((tln B[x]).take j))) = some σ' ∧ TmA σ' o bl (T ++ (slc (tln B[x]) i j).flatten) cf ∧ Fr (TaS o) σ σ' := by
  obtain ⟨by_, b1, b2⟩ := Bl_slice hB
  obtain ⟨b3, b4⟩ := b2 x hx
  have e1 := slc_sl (X := tln B[x]) hij
  have e2 := max_sl hr j
  have e3 : sl (B.take x) + sl ((tln B[x]).take j) = (sl (B.take x) + sl ((tln B[x]).take i)) + sl (slc (tln B[x]) i j) := by omega
  obtain ⟨σ', q1, q2, q3⟩ := Tm_addBytes (F := F) (s := sl (B.take x) + sl ((tln B[x]).take i)) (n := sl (slc (tln B[x]) i j)) h8 hb hB h b1 (by omega) hT
  refine ⟨σ', by rw [e3]; exact q1, ?_, q3⟩
  have e4 : sli by_ (sl (B.take x) + sl ((tln B[x]).take i)) (sl (slc (tln B[x]) i j)) = (slc (tln B[x]) i j).flatten := by
    rw [sli_sub b4 (by omega), ← slc_bytes (tln_flat hr) hij]
    congr 1
    omega
  rw [e4] at q2
  exact q2
theorem Tm_addByte {σ : am_S} {T : List Int32} {cf : Bool} {v : Int32} (h8 : 8 ≤ o) (h : TmA σ o bl T cf) (hT : T.length < 65536) : ∃ σ', f_Tm_addByte F σ o v = some σ' ∧ TmA σ' o bl (T ++ [am_i2b (am_i2b v)]) cf ∧ Fr (TaS o) σ σ' := by
  obtain ⟨tx, h0, h4, h5⟩ := h
  unfold TmC at h0
  have e3 : nI T.length < (65536 : Int32) := nI_lt (b := 65536) hT (by omega)
  unfold f_Tm_addByte
  simp (disch := first | omega | (simp only [List.length_cons, List.length_nil] <;> omega)) only [sx_ck, xk_s, sx_gI, sx_gA, xg_s, xi_s, xa_s, List.getElem?_cons_zero, List.getElem?_cons_succ, sx_lI, sx_lA, xl_s, xl_v, sx_pI, sx_pA, xp_s, List.set_cons_zero, List.set_cons_succ, sx_sI, sx_sB, sx_sZ, sx_sS, xs_s, sx_cp, xc_s, put_at, put_ne, new_at, new_ne, Option.bind_some, am_b2, sx_len, xn_s, h0]
  rw [if_pos e3]
  simp (disch := first | omega | (simp only [List.length_cons, List.length_nil] <;> omega)) only [sx_ck, xk_s, sx_gI, sx_gA, xg_s, xi_s, xa_s, List.getElem?_cons_zero, List.getElem?_cons_succ, sx_lI, sx_lA, xl_s, xl_v, sx_pI, sx_pA, xp_s, List.set_cons_zero, List.set_cons_succ, sx_sI, sx_sB, sx_sZ, sx_sS, xs_s, sx_cp, xc_s, put_at, put_ne, new_at, new_ne, Option.bind_some, am_b2, sx_len, xn_s, h0, h4, nI_1]
  refine ⟨_, rfl, ⟨uf tx T.length (am_i2b (am_i2b v)), by unfold TmC; simp (disch := omega) only [put_at, put_ne, new_at, new_ne]; rw [List.length_append, List.length_singleton], by simp (disch := omega) only [put_at, put_ne, new_at, new_ne], ?_⟩, ((Fr.refl _ _).p (Or.inr rfl)).p (Or.inl rfl)⟩
  rw [List.length_append, List.length_singleton, sli_app, sli_uf (Or.inr (by omega)), h5, Nat.zero_add]
  congr 1
  simp [sli, uf_same]
theorem St_len {σ : am_S} (h : MkS σ) {i : Nat} (hi : i ∈ [2, 3, 4]) : f_St_length σ i = some (nI (mkL i).length) := by
  obtain ⟨h1, h2, h3⟩ := h
  simp only [List.mem_cons, List.not_mem_nil, or_false] at hi
  rcases hi with rfl | rfl | rfl
  · unfold f_St_length
    rw [if_pos (by omega)]
    simp (disch := first | omega | (simp only [List.length_cons, List.length_nil] <;> omega)) only [sx_ck, xk_s, sx_gI, sx_gA, xg_s, xi_s, xa_s, List.getElem?_cons_zero, List.getElem?_cons_succ, sx_lI, sx_lA, xl_s, xl_v, sx_pI, sx_pA, xp_s, List.set_cons_zero, List.set_cons_succ, sx_sI, sx_sB, sx_sZ, sx_sS, xs_s, sx_cp, xc_s, put_at, put_ne, new_at, new_ne, Option.bind_some, am_b2, sx_len, xn_s, h1]
    decide
  · unfold f_St_length
    rw [if_pos (by omega)]
    simp (disch := first | omega | (simp only [List.length_cons, List.length_nil] <;> omega)) only [sx_ck, xk_s, sx_gI, sx_gA, xg_s, xi_s, xa_s, List.getElem?_cons_zero, List.getElem?_cons_succ, sx_lI, sx_lA, xl_s, xl_v, sx_pI, sx_pA, xp_s, List.set_cons_zero, List.set_cons_succ, sx_sI, sx_sB, sx_sZ, sx_sS, xs_s, sx_cp, xc_s, put_at, put_ne, new_at, new_ne, Option.bind_some, am_b2, sx_len, xn_s, h2]
    decide
  · unfold f_St_length
    rw [if_pos (by omega)]
    simp (disch := first | omega | (simp only [List.length_cons, List.length_nil] <;> omega)) only [sx_ck, xk_s, sx_gI, sx_gA, xg_s, xi_s, xa_s, List.getElem?_cons_zero, List.getElem?_cons_succ, sx_lI, sx_lA, xl_s, xl_v, sx_pI, sx_pA, xp_s, List.set_cons_zero, List.set_cons_succ, sx_sI, sx_sB, sx_sZ, sx_sS, xs_s, sx_cp, xc_s, put_at, put_ne, new_at, new_ne, Option.bind_some, am_b2, sx_len, xn_s, h3]
    decide
theorem mk_nar : ∀ i ∈ [2, 3, 4], ∀ j, j < (mkL i).length → narrow .char (.int (am_chr ((mkL i).getD j 0))) = .int (am_chr ((mkL i).getD j 0)) := by decide
theorem St_lat {σ : am_S} {a n : Nat} {f : Nat → Int32} (h : σ.2.2 a = some (cB n f)) {j : Nat} (hj : j < n) (hn : n < 2 ^ 31) (hc : narrow .char (.int (am_chr (f j))) = .int (am_chr (f j))) : f_St_lat σ a (nI j) = some (am_chr (f j)) := by
  unfold f_St_lat
  simp (disch := first | omega | (simp only [List.length_cons, List.length_nil] <;> omega)) only [sx_ck, xk_s, sx_gI, sx_gA, xg_s, xi_s, xa_s, List.getElem?_cons_zero, List.getElem?_cons_succ, sx_lI, sx_lA, xl_s, xl_v, sx_pI, sx_pA, xp_s, List.set_cons_zero, List.set_cons_succ, sx_sI, sx_sB, sx_sZ, sx_sS, xs_s, sx_cp, xc_s, put_at, put_ne, new_at, new_ne, Option.bind_some, am_b2, sx_len, xn_s, h]
  rw [if_pos ⟨nI_pos (by omega), nI_lt hj hn⟩]
  unfold am_chr'
  rw [if_pos hc]
theorem St_char {σ : am_S} (h : MkS σ) {i j : Nat} (hi : i ∈ [2, 3, 4]) (hj : j < (mkL i).length) : f_St_charAt σ i (nI j) = some (am_chr (mkL i)[j]) := by
  have hc := mk_nar i hi j hj
  obtain ⟨h1, h2, h3⟩ := h
  have ed : (mkL i).getD j 0 = (mkL i)[j] := by simp [hj]
  simp only [List.mem_cons, List.not_mem_nil, or_false] at hi
  have hl := mk_len
  rcases hi with rfl | rfl | rfl
  · unfold f_St_charAt
    rw [if_pos (by omega), St_lat h1 (by omega) (by omega) hc, Option.bind_some, if_pos hc, ed]
  · unfold f_St_charAt
    rw [if_pos (by omega), St_lat h2 (by omega) (by omega) hc, Option.bind_some, if_pos hc, ed]
  · unfold f_St_charAt
    rw [if_pos (by omega), St_lat h3 (by omega) (by omega) hc, Option.bind_some, if_pos hc, ed]
theorem Tm_markLoop {i : Nat} (h8 : 8 ≤ o) (hi : i ∈ [2, 3, 4]) : ∀ (m j : Nat) (σ : am_S) (T : List Int32) (cf : Bool), TmA σ o bl T cf → MkS σ → j ≤ (mkL i).length → T.length + ((mkL i).length - j) ≤ 65536 → (mkL i).length - j < m →
    ∃ σ', f_Tm_addMark_l2 F o i m (nI j) σ = some σ' ∧ TmA σ' o bl (T ++ (mkL i).drop j) cf ∧ Fr (TaS o) σ σ' := by
  have hl : (mkL i).length ≤ 15 := by
    have := mk_len
    simp only [List.mem_cons, List.not_mem_nil, or_false] at hi
    rcases hi with rfl | rfl | rfl <;> omega
  intro m
  induction m with
  | zero => intro j _ _ _ _ _ _ _ h; omega
  | succ m ih =>
    intro j σ T cf h hm h1 h2 h3
    rw [f_Tm_addMark_l2, St_len hm hi, Option.bind_some]
    by_cases hj : (mkL i).length ≤ j
    · rw [if_pos (nI_le hj (by omega)), List.drop_of_length_le hj, List.append_nil]
      exact ⟨σ, rfl, h, Fr.refl _ _⟩
    · have hj' : j < (mkL i).length := by omega
      rw [if_neg (nI_ge hj' (by omega)), St_char hm hi hj', Option.bind_some]
      obtain ⟨σ1, q1, q2, q3⟩ := Tm_addByte (F := F) (v := am_chr (mkL i)[j]) h8 h (by omega)
      rw [q1, Option.bind_some, nI_1]
      rw [(mk_chr i hi _ (List.getElem_mem hj')).1] at q2
      obtain ⟨σ', p1, p2, p3⟩ := ih (j + 1) σ1 _ cf q2 (hm.fr q3 fun a ha => by omega) (by omega) (by rw [List.length_append, List.length_singleton]; omega) (by omega)
      refine ⟨σ', p1, ?_, q3.trans p3⟩
      rw [List.append_assoc, List.singleton_append, ← List.drop_eq_getElem_cons hj'] at p2
      exact p2
theorem Tm_addMark {σ : am_S} {T : List Int32} {cf : Bool} {i : Nat} (h8 : 8 ≤ o) (hi : i ∈ [2, 3, 4]) (h : TmA σ o bl T cf) (hm : MkS σ) (hT : T.length + (mkL i).length ≤ 65536) (hF : 512 < F) : ∃ σ', f_Tm_addMark F σ o i = some σ' ∧ TmA σ' o bl (T ++ mkL i) cf ∧ Fr (TaS o) σ σ' := by
  have hl : (mkL i).length ≤ 15 := by
    have := mk_len
    simp only [List.mem_cons, List.not_mem_nil, or_false] at hi
    rcases hi with rfl | rfl | rfl <;> omega
  have := Tm_markLoop (F := F) h8 hi F 0 σ T cf h hm (by omega) (by omega) (by omega)
  obtain ⟨tx, h0, -⟩ := h
  unfold f_Tm_addMark
  rw [am_ck_of h0]
  exact this
theorem Tm_endLine {σ : am_S} {T : List Int32} {cf : Bool} (h8 : 8 ≤ o) (h : TmA σ o bl T cf) (hT : T.length < 65536) : ∃ σ', f_Tm_endLine F σ o = some σ' ∧ TmA σ' o bl (endd T) cf ∧ Fr (TaS o) σ σ' := by
  have h' := h
  obtain ⟨tx, h0, h4, h5⟩ := h
  unfold TmC at h0
  unfold f_Tm_endLine endd
  simp (disch := first | omega | (simp only [List.length_cons, List.length_nil] <;> omega)) only [sx_ck, xk_s, sx_gI, sx_gA, xg_s, xi_s, xa_s, List.getElem?_cons_zero, List.getElem?_cons_succ, sx_lI, sx_lA, xl_s, xl_v, sx_pI, sx_pA, xp_s, List.set_cons_zero, List.set_cons_succ, sx_sI, sx_sB, sx_sZ, sx_sS, xs_s, sx_cp, xc_s, put_at, put_ne, new_at, new_ne, Option.bind_some, am_b2, sx_len, xn_s, h0]
  by_cases hz : T.length = 0
  · have e : T = [] := List.length_eq_zero_iff.mp hz
    rw [if_pos (show nI T.length ≤ 0 by rw [hz]; decide), if_pos (Or.inl e)]
    exact ⟨σ, rfl, h', Fr.refl _ _⟩
  · rw [if_neg (nI_nle (by omega) (by omega))]
    obtain ⟨n, hn⟩ : ∃ n, T.length = n + 1 := ⟨T.length - 1, by omega⟩
    have el : T.getLast? = some (tx n) := by
      rw [List.getLast?_eq_getElem?, hn, Nat.add_sub_cancel, ← h5]
      simp [sli, hn]
    have e1 : nI T.length - 1 = nI n := by rw [hn]; exact nI_pred n
    rw [e1]
    simp (disch := first | omega | (simp only [List.length_cons, List.length_nil] <;> omega)) only [sx_ck, xk_s, sx_gI, sx_gA, xg_s, xi_s, xa_s, List.getElem?_cons_zero, List.getElem?_cons_succ, sx_lI, sx_lA, xl_s, xl_v, sx_pI, sx_pA, xp_s, List.set_cons_zero, List.set_cons_succ, sx_sI, sx_sB, sx_sZ, sx_sS, xs_s, sx_cp, xc_s, put_at, put_ne, new_at, new_ne, Option.bind_some, am_b2, sx_len, xn_s, h4]
    rw [el]
    have hne : ¬ T = [] := fun z => hz (by rw [z]; rfl)
    by_cases ht : tx n = 10
    · rw [if_pos ht, if_pos (Or.inr (by rw [ht]))]
      exact ⟨σ, rfl, h', Fr.refl _ _⟩
    · rw [if_neg ht, if_neg (by rintro (z | z); exact hne z; exact ht (Option.some.inj z))]
      obtain ⟨σ1, q1, q2, q3⟩ := Tm_addByte (F := F) (v := 10) h8 h' hT
      rw [i2b_10, i2b_10] at q2
      rw [q1]
      exact ⟨σ1, rfl, q2, q3⟩
theorem Pa_first {σ : am_S} {a x i : Nat} {j : Int32} (hB : Bl σ bl B) (h : PaC σ a bl (nI x) (nI i) j) (hx : x < B.length) (hr : rgh B[x] = false) (hi : i ≤ (tln B[x]).length) : f_Pa_firstByte F σ a = some (nI (sl (B.take x) + sl ((tln B[x]).take i))) := by
  unfold PaC at h
  unfold f_Pa_firstByte
  simp (disch := first | omega | (simp only [List.length_cons, List.length_nil] <;> omega)) only [sx_ck, xk_s, sx_gI, sx_gA, xg_s, xi_s, xa_s, List.getElem?_cons_zero, List.getElem?_cons_succ, sx_lI, sx_lA, xl_s, xl_v, sx_pI, sx_pA, xp_s, List.set_cons_zero, List.set_cons_succ, sx_sI, sx_sB, sx_sZ, sx_sS, xs_s, sx_cp, xc_s, put_at, put_ne, new_at, new_ne, Option.bind_some, am_b2, sx_len, xn_s, h]
  rw [Bl_lineStart hB hx hr hi]; rfl
theorem Pa_behind {σ : am_S} {a x j : Nat} {i : Int32} (hB : Bl σ bl B) (h : PaC σ a bl (nI x) i (nI j)) (hx : x < B.length) (hr : rgh B[x] = false) (hj : j ≤ (tln B[x]).length) : f_Pa_byteBehind F σ a = some (nI (sl (B.take x) + sl ((tln B[x]).take j))) := by
  unfold PaC at h
  unfold f_Pa_byteBehind
  simp (disch := first | omega | (simp only [List.length_cons, List.length_nil] <;> omega)) only [sx_ck, xk_s, sx_gI, sx_gA, xg_s, xi_s, xa_s, List.getElem?_cons_zero, List.getElem?_cons_succ, sx_lI, sx_lA, xl_s, xl_v, sx_pI, sx_pA, xp_s, List.set_cons_zero, List.set_cons_succ, sx_sI, sx_sB, sx_sZ, sx_sS, xs_s, sx_cp, xc_s, put_at, put_ne, new_at, new_ne, Option.bind_some, am_b2, sx_len, xn_s, h]
  rw [Bl_lineStart hB hx hr hj]; rfl
theorem Pa_stable {σ : am_S} {a x j : Nat} {i : Int32} (hB : Bl σ bl B) (h : PaC σ a bl (nI x) i (nI j)) (hx : x < B.length) (hr : rgh B[x] = false) (hj : j < (tln B[x]).length) : f_Pa_byteBehindStable F σ a = some (nI (sl (B.take x) + sl ((tln B[x]).take (j + 1)))) := by
  unfold PaC at h
  unfold f_Pa_byteBehindStable
  simp (disch := first | omega | (simp only [List.length_cons, List.length_nil] <;> omega)) only [sx_ck, xk_s, sx_gI, sx_gA, xg_s, xi_s, xa_s, List.getElem?_cons_zero, List.getElem?_cons_succ, sx_lI, sx_lA, xl_s, xl_v, sx_pI, sx_pA, xp_s, List.set_cons_zero, List.set_cons_succ, sx_sI, sx_sB, sx_sZ, sx_sS, xs_s, sx_cp, xc_s, put_at, put_ne, new_at, new_ne, Option.bind_some, am_b2, sx_len, xn_s, h]
  rw [nI_1, Bl_lineStart hB hx hr (by omega)]; rfl
theorem Pa_asLoop {σ : am_S} {a a' i j i' j' : Nat} {t u : Option Nat} (hB : Bl σ bl B) (ht : tOK B t) (hu : tOK B u) (h : PaC σ a bl (oI t) (nI i) (nI j)) (h' : PaC σ a' bl (oI u) (nI i') (nI j')) (hij : i ≤ j) (hj : j ≤ (lnT B t).length) (hij' : i' ≤ j') (hj' : j' ≤ (lnT B u).length) (he : j - i = j' - i') : ∀ (m k : Nat), k ≤ j - i → j - i - k < m →
    f_Pa_isAs_l27 σ F a a' (nI (j - i)) m (nI k) = some (bo (decide ((slc (lnT B t) i j).drop k = (slc (lnT B u) i' j').drop k))) := by
  have hlt := lnT_len (B := B) t
  have hlu := lnT_len (B := B) u
  have L1 := slc_len (i := i) hj
  have L2 := slc_len (i := i') hj'
  unfold PaC at h h'
  intro m
  induction m with
  | zero => intro k _ hm; omega
  | succ m ih =>
    intro k hk hm
    rw [f_Pa_isAs_l27]
    by_cases hc : j - i ≤ k
    · rw [if_pos (nI_le hc (by omega)), List.drop_of_length_le (by omega), List.drop_of_length_le (by omega)]
      simp [bo]
    · rw [if_neg (nI_ge (by omega) (by omega))]
      have k1 := Bl_kindT (F := F) hB ht (j := i + k) (by omega)
      have k2 := Bl_kindT (F := F) hB hu (j := i' + k) (by omega)
      have hx := ixI_eq hB (lnT_mem ht (List.getElem_mem (show i + k < (lnT B t).length by omega))) (lnT_mem hu (List.getElem_mem (show i' + k < (lnT B u).length by omega)))
      have d1 : (slc (lnT B t) i j).drop k = (lnT B t)[i + k] :: (slc (lnT B t) i j).drop (k + 1) := by
        rw [List.drop_eq_getElem_cons (by omega)]
        congr 1
        have := slc_get (X := lnT B t) (i := i) (j := j) (k := k) (by omega)
        rw [List.getElem?_eq_getElem (by omega), List.getElem?_eq_getElem (by omega)] at this
        exact Option.some.inj this
      have d2 : (slc (lnT B u) i' j').drop k = (lnT B u)[i' + k] :: (slc (lnT B u) i' j').drop (k + 1) := by
        rw [List.drop_eq_getElem_cons (by omega)]
        congr 1
        have := slc_get (X := lnT B u) (i := i') (j := j') (k := k) (by omega)
        rw [List.getElem?_eq_getElem (by omega), List.getElem?_eq_getElem (by omega)] at this
        exact Option.some.inj this
      simp (disch := first | omega | (simp only [List.length_cons, List.length_nil] <;> omega)) only [sx_ck, xk_s, sx_gI, sx_gA, xg_s, xi_s, xa_s, List.getElem?_cons_zero, List.getElem?_cons_succ, sx_lI, sx_lA, xl_s, xl_v, sx_pI, sx_pA, xp_s, List.set_cons_zero, List.set_cons_succ, sx_sI, sx_sB, sx_sZ, sx_sS, xs_s, sx_cp, xc_s, put_at, put_ne, new_at, new_ne, Option.bind_some, am_b2, sx_len, xn_s, h, h', nI_add, k1, k2]
      simp only [hx]
      by_cases hq : (lnT B t)[i + k] = (lnT B u)[i' + k]
      · rw [if_pos hq, nI_1, ih (k + 1) (by omega) (by omega), d1, d2, hq]
        simp
      · rw [if_neg hq, d1, d2]
        simp [hq, bo]
theorem Pa_isAs {σ : am_S} {a a' i j i' j' : Nat} {t u : Option Nat} (hB : Bl σ bl B) (ht : tOK B t) (hu : tOK B u) (h : PaC σ a bl (oI t) (nI i) (nI j)) (h' : PaC σ a' bl (oI u) (nI i') (nI j')) (hij : i ≤ j) (hj : j ≤ (lnT B t).length) (hij' : i' ≤ j') (hj' : j' ≤ (lnT B u).length) (hF : 512 < F) :
    f_Pa_isAs F σ a a' = some (bo (decide (slc (lnT B t) i j = slc (lnT B u) i' j'))) := by
  have hlt := lnT_len (B := B) t
  have hlu := lnT_len (B := B) u
  have hL := Pa_asLoop (F := F) hB ht hu h h' hij hj hij' hj'
  unfold PaC at h h'
  unfold f_Pa_isAs
  simp (disch := first | omega | (simp only [List.length_cons, List.length_nil] <;> omega)) only [sx_ck, xk_s, sx_gI, sx_gA, xg_s, xi_s, xa_s, List.getElem?_cons_zero, List.getElem?_cons_succ, sx_lI, sx_lA, xl_s, xl_v, sx_pI, sx_pA, xp_s, List.set_cons_zero, List.set_cons_succ, sx_sI, sx_sB, sx_sZ, sx_sS, xs_s, sx_cp, xc_s, put_at, put_ne, new_at, new_ne, Option.bind_some, am_b2, sx_len, xn_s, h, h', nI_sub]
  by_cases he : j - i = j' - i'
  · rw [if_pos (by rw [he]), ← nI_0, hL he F 0 (by omega) (by omega)]
    rfl
  · rw [if_neg (by rw [nI_eq (by omega) (by omega)]; exact he), decide_eq_false]
    · rfl
    · intro z
      have := congrArg List.length z
      rw [slc_len hj, slc_len hj'] at this
      exact he this
end TA
