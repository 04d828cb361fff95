/-! ===== L3: rows of bytes; PathMap's other reads ===== -/
theorem Fr.p {S : Nat → Prop} {σ σ1 : am_S} {a : Nat} {x : am_C} (h : Fr S σ σ1) (ha : S a) : Fr S σ (am_put σ1 a x) := h.trans (Fr.put ha)
theorem at_top {σ τ : am_S} {a : Nat} {x : am_C} (h : am_put σ a x = τ) : τ.2.2 a = some x := by rw [← h]; exact put_at _ _ _
theorem at_ne {σ τ : am_S} {a b : Nat} {x : am_C} {y : Option am_C} (h : am_put σ a x = τ) (hb : b ≠ a) (hy : σ.2.2 b = y) : τ.2.2 b = y := by rw [← h, put_ne hb]; exact hy
theorem sli_app (f : Nat → Int32) (s n : Nat) : ∀ m, sli f s (n + m) = sli f s n ++ sli f (s + n) m
  | 0 => by rw [sli_zero, List.append_nil]; rfl
  | m + 1 => by rw [← Nat.add_assoc, sli_succ, sli_app f s n m, sli_succ, List.append_assoc, Nat.add_assoc]
theorem sli_congr {f g : Nat → Int32} {s t n : Nat} (h : ∀ j, j < n → f (s + j) = g (t + j)) : sli f s n = sli g t n := by
  unfold sli
  apply List.map_congr_left
  intro j hj
  exact h j (List.mem_range.mp hj)
theorem sli_cpy (f g : Nat → Int32) (sp dp n : Nat) : sli (va_cpy f g sp dp n) dp n = sli f sp n := by
  apply sli_congr
  intro j hj
  unfold va_cpy
  rw [if_pos (by omega)]
  congr 1
  omega
theorem sli_cpy_ne {f g : Nat → Int32} {sp dp n s m : Nat} (h : s + m ≤ dp ∨ dp + n ≤ s) : sli (va_cpy f g sp dp n) s m = sli g s m := by
  apply sli_congr
  intro j hj
  unfold va_cpy
  rw [if_neg (by omega)]
theorem sli_uf {f : Nat → Int32} {i s m : Nat} {v : Int32} (h : i < s ∨ s + m ≤ i) : sli (uf f i v) s m = sli f s m := by
  apply sli_congr
  intro j hj
  exact uf_ne (by omega)
theorem sli_full {f : Nat → Int32} {l : List Int32} : (∀ j, j < l.length → l[j]? = some (f j)) ↔ sli f 0 l.length = l := by
  constructor
  · intro h
    exact sli_of fun j hj => by rw [Nat.zero_add]; exact h j hj
  · intro h j hj
    rw [← h, sli_get hj, Nat.zero_add]
theorem PmW.ltrE {P : PL} {ls ss vs : Nat → Int32} (h : PmW P ls ss vs) : sli ls 0 (pl P) = ltr P := by
  have := h.2.2.1
  rw [← ltr_len] at this ⊢
  exact sli_full.mp this
theorem cpl_le : ∀ (p q : List Int32), cpl p q ≤ p.length
  | [], q => by simp [cpl]
  | x :: p, [] => by simp [cpl]
  | x :: p, y :: q => by
    have := cpl_le p q
    unfold cpl
    split <;> simp <;> omega
theorem cpl_eq : ∀ {p q : List Int32}, p.length = q.length → (cpl p q = p.length ↔ p = q)
  | [], [], _ => by simp [cpl]
  | x :: p, y :: q, h => by
    have ih := cpl_eq (p := p) (q := q) (by simpa using h)
    unfold cpl
    by_cases e : x = y
    · simp [e, ih]
    · simp [e]
/-- q is BENEATH p -/
def ben (p q : List Int32) : Bool := decide (p.length < q.length ∧ q.take p.length = p ∧ q[p.length]? = some 47)
theorem and47 {x : Int32} (h : am_i2b x = x) : (x &&& 255 = 47) ↔ x = 47 := by
  constructor
  · intro e
    exact byte_inj h (by decide) (e.trans (by decide))
  · rintro rfl
    decide
theorem isB.mem {l : List Int32} (h : isB l) {j : Nat} (hj : j < l.length) : am_i2b l[j] = l[j] := h.2 _ (List.getElem_mem hj)
section PR
variable {σ : am_S} {o F : Nat} {P : PL} {b N st n : Nat} {g : Nat → Int32}
theorem Pm_ben (h : Pm σ o P) {k : Nat} (hk : k < P.length) (hp : isB P[k].1) (hb : σ.2.2 b = some (cB N g)) (hs : st + n ≤ N) (hN : N < 2 ^ 31) (hF : 8192 < F) : f_Pm_isBeneathOrAbove F σ o (nI k) b (nI st) (nI n) = some (bo (ben P[k].1 (sli g st n) || ben (sli g st n) P[k].1)) := by
  have hlen := Pm_length (F := F) h hk
  have hlet := fun j hj => Pm_letter (F := F) h (j := j) hk hj
  obtain ⟨ls, ss, vs, ⟨h1, h2, h3, h4⟩, hw⟩ := h
  have hr := hw.row hk
  obtain ⟨w1, w2, w3, w4, w5⟩ := hw
  have hs2 := pl_take_succ hk
  have ht := pl_split P (k + 1)
  unfold f_Pm_isBeneathOrAbove
  rw [hlen]
  have hm1 : min P[k].1.length n ≤ P[k].1.length := Nat.min_le_left _ _
  have hm2 : min P[k].1.length n ≤ n := Nat.min_le_right _ _
  simp (disch := first | omega | (simp only [List.length_cons, List.length_nil] <;> omega)) only [sx_ck, xk_s, sx_gI, sx_gA, xg_s, xi_s, xa_s, List.getElem?_cons_zero, List.getElem?_cons_succ, sx_lI, sx_lA, xl_s, xl_v, sx_pI, sx_pA, xp_s, List.set_cons_zero, List.set_cons_succ, sx_sI, sx_sB, sx_sZ, sx_sS, xs_s, sx_cp, xc_s, put_at, put_ne, new_at, new_ne, Option.bind_some, am_b2, sx_len, xn_s, h1, h3, w4]
  simp (disch := omega) only [nI_eq]
  by_cases hl : P[k].1.length = n
  · rw [if_pos hl]
    have e1 : ben P[k].1 (sli g st n) = false := by simp [ben, sli_len, hl]
    have e2 : ben (sli g st n) P[k].1 = false := by simp [ben, sli_len, hl]
    rw [e1, e2]; rfl
  · rw [if_neg hl, min_nI (by omega) (by omega), Rw_cb h2 hb (by omega) (by omega) (by omega) hN (by omega)]
    simp only [Option.bind_some]
    have e1 : sli ls (pl (P.take k)) (min P[k].1.length n) = P[k].1.take (min P[k].1.length n) := by
      have e := sli_take (f := ls) (s := pl (P.take k)) hm1
      rw [hr] at e
      exact e.symm
    have e2 : sli g st (min P[k].1.length n) = (sli g st n).take (min P[k].1.length n) := (sli_take hm2).symm
    rw [e1, e2]
    have hcl := cpl_le (P[k].1.take (min P[k].1.length n)) ((sli g st n).take (min P[k].1.length n))
    have hce := cpl_eq (p := P[k].1.take (min P[k].1.length n)) (q := (sli g st n).take (min P[k].1.length n)) (by rw [List.length_take, List.length_take, sli_len]; omega)
    rw [List.length_take] at hcl hce
    simp (disch := omega) only [nI_leI]
    generalize hc : cpl (List.take (min P[k].1.length n) P[k].1) (List.take (min P[k].1.length n) (sli g st n)) = c at *
    by_cases hlt : P[k].1.length ≤ n
    · have hmin : min P[k].1.length n = P[k].1.length := by omega
      have f2 : ben (sli g st n) P[k].1 = false := by simp [ben, sli_len]; omega
      rw [hmin] at hce hcl ⊢
      rw [List.take_length, Nat.min_self] at hce
      by_cases hcc : P[k].1.length ≤ c
      · have he := hce.mp (by omega)
        rw [if_pos hcc, if_pos hlt]
        simp (disch := first | omega | (simp only [List.length_cons, List.length_nil] <;> omega)) only [sx_ck, xk_s, sx_gI, sx_gA, xg_s, xi_s, xa_s, List.getElem?_cons_zero, List.getElem?_cons_succ, sx_lI, sx_lA, xl_s, xl_v, sx_pI, sx_pA, xp_s, List.set_cons_zero, List.set_cons_succ, sx_sI, sx_sB, sx_sZ, sx_sS, xs_s, sx_cp, xc_s, put_at, put_ne, new_at, new_ne, Option.bind_some, am_b2, sx_len, xn_s, nI_add, hb]
        have e3 : (sli g st n)[P[k].1.length]? = some (g (st + P[k].1.length)) := sli_get (by omega)
        have f1 : ben P[k].1 (sli g st n) = decide (g (st + P[k].1.length) = 47) := by
          unfold ben
          rw [sli_len, e3, ← he]
          simp
          omega
        rw [f1, f2]
        by_cases hz : g (st + P[k].1.length) = 47
        · simp [hz, bo]
        · simp [hz, bo]
      · rw [if_neg hcc]
        have f1 : ben P[k].1 (sli g st n) = false := by
          unfold ben
          simp only [decide_eq_false_iff_not]
          intro hz
          exact hcc (by rw [hce.mpr hz.2.1.symm] ; omega)
        rw [f1, f2]; rfl
    · have hmin : min P[k].1.length n = n := by omega
      have f1 : ben P[k].1 (sli g st n) = false := by simp [ben, sli_len]; omega
      rw [hmin] at hce hcl ⊢
      have hfl : (sli g st n).take n = sli g st n := List.take_of_length_le (by rw [sli_len]; omega)
      rw [hfl, Nat.min_eq_left (by omega)] at hce
      by_cases hcc : n ≤ c
      · have he := hce.mp (by omega)
        rw [if_pos hcc, if_neg hlt, hlet n (by omega)]
        simp only [Option.bind_some]
        have f2 : ben (sli g st n) P[k].1 = decide (P[k].1[n] = 47) := by
          unfold ben
          rw [sli_len, he, List.getElem?_eq_getElem (by omega)]
          simp
          omega
        rw [f1, f2]
        simp only [and47 (hp.mem (show n < P[k].1.length by omega))]
        by_cases hz : P[k].1[n] = 47
        · simp [hz, bo]
        · simp [hz, bo]
      · rw [if_neg hcc]
        have f2 : ben (sli g st n) P[k].1 = false := by
          unfold ben
          rw [sli_len]
          simp only [decide_eq_false_iff_not]
          intro hz
          exact hcc (by rw [hce.mpr hz.2.1]; omega)
        rw [f1, f2]; rfl
/-- the PATH q could be added -/
def room (P : PL) (q : List Int32) : Bool := decide (P.length < 400) && decide (pl P + q.length ≤ 8192) && P.all fun e => !(ben e.1 q || ben q e.1)
theorem Pm_roomLoop (h : Pm σ o P) (hs : Srt P) (hb : σ.2.2 b = some (cB N g)) (hn : st + n ≤ N) (hN : N < 2 ^ 31) (hF : 8192 < F) : ∀ (m k : Nat), k ≤ P.length → P.length - k < m → f_Pm_hasRoomFor_l32 σ F o b (nI st) (nI n) m (nI k) = some (bo ((P.drop k).all fun e => !(ben e.1 (sli g st n) || ben (sli g st n) e.1))) := by
  obtain ⟨ls, ss, vs, ⟨h1, -⟩, hw⟩ := id h
  have hl := hw.1
  intro m
  induction m with
  | zero => intro k _ hk; omega
  | succ m ih =>
    intro k hk hm
    rw [f_Pm_hasRoomFor_l32]
    simp (disch := first | omega | (simp only [List.length_cons, List.length_nil] <;> omega)) only [sx_ck, xk_s, sx_gI, sx_gA, xg_s, xi_s, xa_s, List.getElem?_cons_zero, List.getElem?_cons_succ, sx_lI, sx_lA, xl_s, xl_v, sx_pI, sx_pA, xp_s, List.set_cons_zero, List.set_cons_succ, sx_sI, sx_sB, sx_sZ, sx_sS, xs_s, sx_cp, xc_s, put_at, put_ne, new_at, new_ne, Option.bind_some, am_b2, sx_len, xn_s, nI_add, nI_1, nI_sub, nI_addL, nI_leI, nI_ltI, nI_eq, h1]
    by_cases hc : P.length ≤ k
    · rw [if_pos hc, List.drop_eq_nil_of_le hc]; rfl
    · rw [if_neg hc, Pm_ben h (by omega) (hs.1 _ (by omega)) hb hn hN hF, Option.bind_some, List.drop_eq_getElem_cons (by omega), List.all_cons]
      cases hz : (ben P[k].1 (sli g st n) || ben (sli g st n) P[k].1) with
      | true => rw [if_neg (show ¬ bo true = 0 by decide)]; rfl
      | false => rw [if_pos (show bo false = 0 by decide), ih _ (by omega) (by omega)]; rfl
theorem Pm_room (h : Pm σ o P) (hs : Srt P) (hb : σ.2.2 b = some (cB N g)) (hn : st + n ≤ N) (hN : N < 2 ^ 30) (hF : 8192 < F) : f_Pm_hasRoomFor F σ o b (nI st) (nI n) = some (bo (room P (sli g st n))) := by
  have hl := Pm_roomLoop h hs hb hn (by omega) hF F 0 (by omega) (by obtain ⟨_, _, _, _, hw⟩ := h; have := hw.1; omega)
  obtain ⟨ls, ss, vs, ⟨h1, h2, h3, h4⟩, w1, w2, w3, w4, w5⟩ := h
  unfold f_Pm_hasRoomFor
  simp (disch := first | omega | (simp only [List.length_cons, List.length_nil] <;> omega)) only [sx_ck, xk_s, sx_gI, sx_gA, xg_s, xi_s, xa_s, List.getElem?_cons_zero, List.getElem?_cons_succ, sx_lI, sx_lA, xl_s, xl_v, sx_pI, sx_pA, xp_s, List.set_cons_zero, List.set_cons_succ, sx_sI, sx_sB, sx_sZ, sx_sS, xs_s, sx_cp, xc_s, put_at, put_ne, new_at, new_ne, Option.bind_some, am_b2, sx_len, xn_s, h1, h3]
  rw [← nI_0, hl, w4 _ (Nat.le_refl _), List.take_length, nI_add]
  have e1 : ((400 : Int32) ≤ nI P.length) ↔ 400 ≤ P.length := nI_leI (a := 400) (by omega) (by omega)
  have e2 : (nI (pl P + n) ≤ (8192 : Int32)) ↔ pl P + n ≤ 8192 := nI_leI (b := 8192) (by omega) (by omega)
  simp only [e1, e2]
  unfold room
  rw [sli_len]
  by_cases c1 : 400 ≤ P.length
  · rw [if_pos c1, decide_eq_false (by omega)]; rfl
  · rw [if_neg c1, decide_eq_true (by omega)]
    by_cases c2 : pl P + n ≤ 8192
    · rw [if_pos c2, decide_eq_true c2]; simp
    · rw [if_neg c2, decide_eq_false c2]; rfl
theorem oI_pos {i : Option Nat} (h : ∀ k, i = some k → k < 2 ^ 31) : (0 ≤ oI i) ↔ i.isSome = true := by
  cases i with
  | none => simp [oI]
  | some k => simp [oI, nI_pos' (h k rfl)]
theorem oI_neg {i : Option Nat} (h : ∀ k, i = some k → k < 2 ^ 31) : (oI i < 0) ↔ i.isSome = false := by
  cases i with
  | none => simp [oI]
  | some k => simp [oI, nI_pos (h k rfl)]
theorem fnd_lt {P : PL} {q : List Int32} {k : Nat} (h : fnd P q = some k) : k < P.length := by
  unfold fnd at h
  rw [List.findIdx?_eq_some_iff_getElem] at h
  exact h.1
theorem Pm_fit (h : Pm σ o P) (hs : Srt P) (hb : σ.2.2 b = some (cB N g)) (hn : st + n ≤ N) (hN : N < 2 ^ 30) (hF : 8192 < F) (hq : isB (sli g st n)) : f_Pm_wouldFit F σ o b (nI st) (nI n) = some (bo ((fnd P (sli g st n)).isSome || room P (sli g st n))) := by
  have hr := Pm_room h hs hb hn hN hF
  have hf := Pm_find h hs hb hn (by omega) hF hq
  obtain ⟨ls, ss, vs, ⟨h1, -⟩, w, -⟩ := h
  unfold f_Pm_wouldFit f_Pm_wouldFit_j20
  rw [hr, hf]
  simp (disch := first | omega | (simp only [List.length_cons, List.length_nil] <;> omega)) only [sx_ck, xk_s, sx_gI, sx_gA, xg_s, xi_s, xa_s, List.getElem?_cons_zero, List.getElem?_cons_succ, sx_lI, sx_lA, xl_s, xl_v, sx_pI, sx_pA, xp_s, List.set_cons_zero, List.set_cons_succ, sx_sI, sx_sB, sx_sZ, sx_sS, xs_s, sx_cp, xc_s, put_at, put_ne, new_at, new_ne, Option.bind_some, am_b2, sx_len, xn_s, h1]
  simp only [oI_pos (i := fnd P (sli g st n)) fun k hk => by have := fnd_lt hk; omega]
  cases hz : (fnd P (sli g st n)).isSome with
  | true => rfl
  | false =>
    cases hy : room P (sli g st n) with
    | true => rfl
    | false => rfl
theorem Pm_cmpPaths {o2 : Nat} {Q : PL} (h : Pm σ o P) (h' : Pm σ o2 Q) {i j : Nat} (hi : i < P.length) (hj : j < Q.length) (hF : 8192 < F) : f_Pm_comparePaths F σ o (nI i) o2 (nI j) = some (cmpV P[i].1 Q[j].1) := by
  have hl := Pm_length (F := F) h' hj
  obtain ⟨ls, ss, vs, ⟨h1, h2, h3, h4⟩, hw⟩ := id h'
  have hr := hw.row hj
  have hs2 := pl_take_succ hj
  have ht := pl_split Q (j + 1)
  obtain ⟨w1, w2, w3, w4, w5⟩ := hw
  have hc := Pm_compare (F := F) h hi h2 (st := pl (Q.take j)) (n := Q[j].1.length) (by omega) (by omega) hF
  obtain ⟨ls', ss', vs', ⟨g1, -⟩, -⟩ := id h
  unfold f_Pm_comparePaths
  simp (disch := first | omega | (simp only [List.length_cons, List.length_nil] <;> omega)) only [sx_ck, xk_s, sx_gI, sx_gA, xg_s, xi_s, xa_s, List.getElem?_cons_zero, List.getElem?_cons_succ, sx_lI, sx_lA, xl_s, xl_v, sx_pI, sx_pA, xp_s, List.set_cons_zero, List.set_cons_succ, sx_sI, sx_sB, sx_sZ, sx_sS, xs_s, sx_cp, xc_s, put_at, put_ne, new_at, new_ne, Option.bind_some, am_b2, sx_len, xn_s, h1, h3, g1]
  rw [hl, w4 j (by omega)]
  simp (disch := first | omega | (simp only [List.length_cons, List.length_nil] <;> omega)) only [sx_ck, xk_s, sx_gI, sx_gA, xg_s, xi_s, xa_s, List.getElem?_cons_zero, List.getElem?_cons_succ, sx_lI, sx_lA, xl_s, xl_v, sx_pI, sx_pA, xp_s, List.set_cons_zero, List.set_cons_succ, sx_sI, sx_sB, sx_sZ, sx_sS, xs_s, sx_cp, xc_s, put_at, put_ne, new_at, new_ne, Option.bind_some, am_b2, sx_len, xn_s, hc, hr]
theorem Pm_findPath {o2 : Nat} {Q : PL} (h : Pm σ o P) (hs : Srt P) (h' : Pm σ o2 Q) (hs' : Srt Q) {j : Nat} (hj : j < Q.length) (hF : 8192 < F) : f_Pm_findPathOf F σ o o2 (nI j) = some (oI (fnd P Q[j].1)) := by
  have hl := Pm_length (F := F) h' hj
  obtain ⟨ls, ss, vs, ⟨h1, h2, h3, h4⟩, hw⟩ := id h'
  have hr := hw.row hj
  have hs2 := pl_take_succ hj
  have ht := pl_split Q (j + 1)
  obtain ⟨w1, w2, w3, w4, w5⟩ := hw
  have hc := Pm_find (F := F) h hs h2 (st := pl (Q.take j)) (n := Q[j].1.length) (by omega) (by omega) hF (by rw [hr]; exact hs'.1 _ hj)
  obtain ⟨ls', ss', vs', ⟨g1, -⟩, -⟩ := id h
  unfold f_Pm_findPathOf
  simp (disch := first | omega | (simp only [List.length_cons, List.length_nil] <;> omega)) only [sx_ck, xk_s, sx_gI, sx_gA, xg_s, xi_s, xa_s, List.getElem?_cons_zero, List.getElem?_cons_succ, sx_lI, sx_lA, xl_s, xl_v, sx_pI, sx_pA, xp_s, List.set_cons_zero, List.set_cons_succ, sx_sI, sx_sB, sx_sZ, sx_sS, xs_s, sx_cp, xc_s, put_at, put_ne, new_at, new_ne, Option.bind_some, am_b2, sx_len, xn_s, h1, h3, g1]
  rw [hl, w4 j (by omega)]
  simp (disch := first | omega | (simp only [List.length_cons, List.length_nil] <;> omega)) only [sx_ck, xk_s, sx_gI, sx_gA, xg_s, xi_s, xa_s, List.getElem?_cons_zero, List.getElem?_cons_succ, sx_lI, sx_lA, xl_s, xl_v, sx_pI, sx_pA, xp_s, List.set_cons_zero, List.set_cons_succ, sx_sI, sx_sB, sx_sZ, sx_sS, xs_s, sx_cp, xc_s, put_at, put_ne, new_at, new_ne, Option.bind_some, am_b2, sx_len, xn_s, hc, hr]
end PR
