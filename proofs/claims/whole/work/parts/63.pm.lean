/-! ===== L3: PathMap, what is read ===== -/
abbrev PL : Type := List (List Int32 × Int32)
def pl (P : PL) : Nat := sl (P.map Prod.fst)
def ltr (P : PL) : List Int32 := (P.map Prod.fst).flatten
theorem ltr_len (P : PL) : (ltr P).length = pl P := sl_flat _
theorem pl_app (P Q : PL) : pl (P ++ Q) = pl P + pl Q := by simp [pl, sl_app]
theorem pl_cons (q : List Int32 × Int32) (P : PL) : pl (q :: P) = q.1.length + pl P := by simp [pl, sl_cons]
theorem pl_nil : pl [] = 0 := rfl
theorem pl_split (P : PL) (k : Nat) : pl P = pl (P.take k) + pl (P.drop k) := by
  have h := pl_app (P.take k) (P.drop k)
  rw [List.take_append_drop] at h
  exact h
theorem pl_take_succ {P : PL} {k : Nat} (h : k < P.length) : pl (P.take (k + 1)) = pl (P.take k) + P[k].1.length := by
  rw [List.take_succ_eq_append_getElem h, pl_app, pl_cons, pl_nil]
  omega
theorem ltr_app (P Q : PL) : ltr (P ++ Q) = ltr P ++ ltr Q := by simp [ltr]
theorem ltr_cons (q : List Int32 × Int32) (P : PL) : ltr (q :: P) = q.1 ++ ltr P := by simp [ltr]
/-- the PATHS and numbers that the object at o holds; sz, sn: how many it has room for -/
def PmR (σ : am_S) (o : Nat) (ls ss vs : Nat → Int32) (n : Nat) : Prop := σ.2.2 o = some (cO 4 [.ref (o + 1), .ref (o + 2), .ref (o + 3), .int (nI n)]) ∧ σ.2.2 (o + 1) = some (cB 8192 ls) ∧ σ.2.2 (o + 2) = some (cI 401 ss) ∧ σ.2.2 (o + 3) = some (cI 400 vs)
def PmW (P : PL) (ls ss vs : Nat → Int32) : Prop := P.length ≤ 400 ∧ pl P ≤ 8192 ∧ (∀ j, j < pl P → (ltr P)[j]? = some (ls j)) ∧ (∀ k, k ≤ P.length → ss k = nI (pl (P.take k))) ∧ ∀ k (h : k < P.length), vs k = P[k].2
def Pm (σ : am_S) (o : Nat) (P : PL) : Prop := ∃ ls ss vs : Nat → Int32, PmR σ o ls ss vs P.length ∧ PmW P ls ss vs
abbrev PmS (o : Nat) : Nat → Prop := fun a => o ≤ a ∧ a < o + 4
theorem Pm.fr {σ σ1 : am_S} {o : Nat} {P : PL} {S : Nat → Prop} (h : Pm σ o P) (hf : Fr S σ σ1) (hd : ∀ a, o ≤ a → a < o + 4 → ¬ S a) : Pm σ1 o P := by
  obtain ⟨ls, ss, vs, ⟨h1, h2, h3, h4⟩, hw⟩ := h
  exact ⟨ls, ss, vs, ⟨hf.at (hd _ (by omega) (by omega)) h1, hf.at (hd _ (by omega) (by omega)) h2, hf.at (hd _ (by omega) (by omega)) h3, hf.at (hd _ (by omega) (by omega)) h4⟩, hw⟩
theorem PmW.row {P : PL} {ls ss vs : Nat → Int32} (h : PmW P ls ss vs) {k : Nat} (hk : k < P.length) : sli ls (pl (P.take k)) P[k].1.length = P[k].1 := by
  apply sli_of
  intro j hj
  have hs := pl_take_succ hk
  have ht := pl_split P (k + 1)
  have hj2 : pl (P.take k) + j < pl P := by omega
  rw [← h.2.2.1 _ hj2]
  have e : ltr P = ltr (P.take k) ++ (P[k].1 ++ ltr (P.drop (k + 1))) := by
    conv => lhs; rw [← List.take_append_drop k P]
    rw [ltr_app, List.drop_eq_getElem_cons hk, ltr_cons]
  rw [e, List.getElem?_append_right (by rw [ltr_len]; omega), ltr_len, show pl (P.take k) + j - pl (P.take k) = j by omega, List.getElem?_append_left hj]
section PM
variable {σ : am_S} {o F : Nat} {P : PL}
theorem Pm_size (h : Pm σ o P) : f_Pm_size F σ o = some (nI P.length) := by
  obtain ⟨ls, ss, vs, ⟨h1, h2, h3, h4⟩, hw⟩ := h
  unfold f_Pm_size
  rw [am_ck_of h1, gI_of h1 rfl]
  rfl
theorem Pm_length (h : Pm σ o P) {k : Nat} (hk : k < P.length) : f_Pm_lengthOf F σ o (nI k) = some (nI P[k].1.length) := by
  obtain ⟨ls, ss, vs, ⟨h1, h2, h3, h4⟩, w1, w2, w3, w4, w5⟩ := h
  unfold f_Pm_lengthOf
  rw [am_ck_of h1, gA_of h1 rfl]
  simp only [Option.bind_some]
  rw [nI_1, lI_of h3 (by omega) (by omega)]
  simp only [Option.bind_some]
  rw [lI_of h3 (by omega) (by omega)]
  simp only [Option.bind_some]
  rw [w4 (k + 1) (by omega), w4 k (by omega), pl_take_succ hk, nI_sub (by omega)]
  congr 2
  omega
theorem Pm_value (h : Pm σ o P) {k : Nat} (hk : k < P.length) : f_Pm_valueAt F σ o (nI k) = some P[k].2 := by
  obtain ⟨ls, ss, vs, ⟨h1, h2, h3, h4⟩, w1, w2, w3, w4, w5⟩ := h
  unfold f_Pm_valueAt
  rw [am_ck_of h1, gA_of h1 rfl]
  simp only [Option.bind_some]
  rw [lI_of h4 (by omega) (by omega)]
  simp only [Option.bind_some]
  rw [w5 k hk]
theorem Pm_letter (h : Pm σ o P) {k j : Nat} (hk : k < P.length) (hj : j < P[k].1.length) : f_Pm_letterAt F σ o (nI k) (nI j) = some (P[k].1[j] &&& 255) := by
  obtain ⟨ls, ss, vs, ⟨h1, h2, h3, h4⟩, hw⟩ := h
  have hr := hw.row hk
  obtain ⟨w1, w2, w3, w4, w5⟩ := hw
  have hs := pl_take_succ hk
  have ht := pl_split P (k + 1)
  unfold f_Pm_letterAt
  rw [am_ck_of h1, gA_of h1 rfl]
  simp only [Option.bind_some]
  rw [gA_of h1 rfl]
  simp only [Option.bind_some]
  rw [lI_of h3 (by omega) (by omega)]
  simp only [Option.bind_some]
  rw [w4 k (by omega), nI_add, lI_of h2 (by omega) (by omega)]
  simp only [Option.bind_some]
  have e := sli_get (f := ls) (s := pl (P.take k)) hj
  rw [hr, List.getElem?_eq_getElem hj] at e
  rw [Option.some.inj e]
theorem Pm_has (h : Pm σ o P) (i : Int32) : f_Pm_has F σ o i = some (bo (decide (¬ i < 0 ∧ i.toNatClampNeg < P.length))) := by
  obtain ⟨ls, ss, vs, ⟨h1, h2, h3, h4⟩, w1, w2, w3, w4, w5⟩ := h
  unfold f_Pm_has
  rw [am_ck_of h1]
  by_cases hi : i < 0
  · rw [if_pos hi]
    have : decide (¬ i < 0 ∧ i.toNatClampNeg < P.length) = false := by simp [hi]
    rw [this]; rfl
  · rw [if_neg hi, gI_of h1 rfl]
    simp only [Option.bind_some]
    obtain ⟨j, hj, rfl⟩ := nI_of hi
    rw [nI_clamp hj]
    by_cases hc : j < P.length
    · rw [if_neg (nI_ge hc (by omega)), decide_eq_true (⟨hi, hc⟩ : ¬ nI j < 0 ∧ j < P.length)]; rfl
    · rw [if_pos (nI_le (by omega) hj), decide_eq_false (fun z : ¬ nI j < 0 ∧ j < P.length => hc z.2)]; rfl
end PM
/-- how two rows compare: the difference of the first bytes that differ, or of the lengths -/
def cmpV : List Int32 → List Int32 → Int32
  | x :: xs, y :: ys => if x = y then cmpV xs ys else (x &&& 255) - (y &&& 255)
  | xs, ys => nI xs.length - nI ys.length
theorem cmpV_nil (xs : List Int32) : cmpV xs [] = nI xs.length - nI 0 := by cases xs <;> rfl
theorem cmpV_cpl : ∀ (p q : List Int32) (m : Nat), m = min p.length q.length → cpl (p.take m) (q.take m) ≤ m ∧ (cpl (p.take m) (q.take m) = m → cmpV p q = nI p.length - nI q.length) ∧ ∀ (h1 : cpl (p.take m) (q.take m) < p.length) (h2 : cpl (p.take m) (q.take m) < q.length), cpl (p.take m) (q.take m) < m → cmpV p q = (p[cpl (p.take m) (q.take m)] &&& 255) - (q[cpl (p.take m) (q.take m)] &&& 255)
  | [], q, m, hm => by
    have : m = 0 := by simp at hm; exact hm
    subst this
    refine ⟨by simp [cpl], fun _ => by cases q <;> rfl, fun _ _ h => by omega⟩
  | x :: p, [], m, hm => by
    have : m = 0 := by simp at hm; exact hm
    subst this
    refine ⟨by simp [cpl], fun _ => rfl, fun _ _ h => by omega⟩
  | x :: p, y :: q, m, hm => by
    obtain ⟨d, rfl⟩ : ∃ d, m = d + 1 := ⟨min p.length q.length, by simp at hm; omega⟩
    have hd : d = min p.length q.length := by simp at hm; omega
    obtain ⟨i1, i2, i3⟩ := cmpV_cpl p q d hd
    simp only [List.take_succ_cons, cpl, cmpV]
    by_cases he : x = y
    · simp only [if_pos he]
      refine ⟨by omega, fun h => ?_, fun h1 h2 h3 => ?_⟩
      · rw [i2 (by omega), List.length_cons, List.length_cons, nI_succ, nI_succ]
        grind
      · simp only [List.getElem_cons_succ]
        exact i3 (by simp at h1; omega) (by simp at h2; omega) (by omega)
    · simp only [if_neg he]
      exact ⟨by omega, fun h => by omega, fun h1 h2 h3 => by simp⟩
theorem min_nI {a b : Nat} (ha : a < 2 ^ 31) (hb : b < 2 ^ 31) : am_min (nI a) (nI b) = nI (min a b) := by
  unfold am_min
  by_cases h : b < a
  · rw [if_pos (nI_lt h ha), Nat.min_eq_right (by omega)]
  · rw [if_neg (nI_nlt (by omega) hb), Nat.min_eq_left (by omega)]
theorem sli_take {f : Nat → Int32} {s n m : Nat} (h : m ≤ n) : (sli f s n).take m = sli f s m := by
  apply List.ext_getElem?
  intro j
  by_cases hj : j < m
  · rw [List.getElem?_take, if_pos hj, sli_get (by omega), sli_get hj]
  · rw [List.getElem?_take, if_neg hj, List.getElem?_eq_none (by rw [sli_len]; omega)]
theorem Pm_compare {σ : am_S} {o F : Nat} {P : PL} (h : Pm σ o P) {k b N st n : Nat} {g : Nat → Int32} (hk : k < P.length) (hb : σ.2.2 b = some (cB N g)) (hs : st + n ≤ N) (hN : N < 2 ^ 31) (hF : 8192 < F) : f_Pm_compareAt F σ o (nI k) b (nI st) (nI n) = some (cmpV P[k].1 (sli g st n)) := by
  have hlen := Pm_length (F := F) h hk
  have hlet := fun j hj => Pm_letter (F := F) h (j := j) hk hj
  obtain ⟨ls, ss, vs, ⟨h1, h2, h3, h4⟩, hw⟩ := h
  have hr := hw.row hk
  obtain ⟨w1, w2, w3, w4, w5⟩ := hw
  have hs2 := pl_take_succ hk
  have ht := pl_split P (k + 1)
  unfold f_Pm_compareAt
  rw [am_ck_of h1, hlen]
  simp only [Option.bind_some]
  rw [gA_of h1 rfl]
  simp only [Option.bind_some]
  rw [gA_of h1 rfl]
  simp only [Option.bind_some]
  rw [lI_of h3 (by omega) (by omega)]
  simp only [Option.bind_some]
  have hm1 : min P[k].1.length n ≤ P[k].1.length := Nat.min_le_left _ _
  have hm2 : min P[k].1.length n ≤ n := Nat.min_le_right _ _
  rw [w4 k (by omega), min_nI (by omega) (by omega), Rw_cb h2 hb (by omega) (by omega) (by omega) hN (by omega)]
  simp only [Option.bind_some]
  have e1 : sli ls (pl (P.take k)) (min P[k].1.length n) = P[k].1.take (min P[k].1.length n) := by
    have e := sli_take (f := ls) (s := pl (P.take k)) hm1
    rw [hr] at e
    exact e.symm
  have e2 : sli g st (min P[k].1.length n) = (sli g st n).take (min P[k].1.length n) := (sli_take hm2).symm
  rw [e1, e2]
  obtain ⟨i1, i2, i3⟩ := cmpV_cpl P[k].1 (sli g st n) (min P[k].1.length n) (by rw [sli_len])
  generalize hc : cpl (List.take (min P[k].1.length n) P[k].1) (List.take (min P[k].1.length n) (sli g st n)) = c at *
  by_cases hcm : c = min P[k].1.length n
  · rw [if_pos (by rw [hcm]), i2 hcm, sli_len]
  · rw [if_neg (fun z => hcm ((nI_eq (by omega) (by omega)).mp z)), hlet c (by omega)]
    simp only [Option.bind_some]
    rw [nI_add, lI_of hb (by omega) hN]
    simp only [Option.bind_some]
    rw [i3 (by omega) (by rw [sli_len]; omega) (by omega)]
    have e3 := sli_get (f := g) (s := st) (n := n) (j := c) (by omega)
    rw [List.getElem?_eq_getElem (by rw [sli_len]; omega)] at e3
    rw [Option.some.inj e3]
