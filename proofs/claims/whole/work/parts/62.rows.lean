/-! ===== L3: Rows (what can be said of rows of bytes alone) ===== -/
def sli (f : Nat → Int32) (s n : Nat) : List Int32 := (List.range n).map fun j => f (s + j)
theorem sli_len (f : Nat → Int32) (s n : Nat) : (sli f s n).length = n := by simp [sli]
theorem sli_get {f : Nat → Int32} {s n j : Nat} (h : j < n) : (sli f s n)[j]? = some (f (s + j)) := by simp [sli, h]
theorem sli_succ (f : Nat → Int32) (s n : Nat) : sli f s (n + 1) = sli f s n ++ [f (s + n)] := by simp [sli, List.range_succ]
theorem sli_zero (f : Nat → Int32) (s : Nat) : sli f s 0 = [] := rfl
theorem sli_cons (f : Nat → Int32) (s n : Nat) : sli f s (n + 1) = f s :: sli f (s + 1) n := by
  apply List.ext_getElem?
  intro j
  cases j with
  | zero => rw [sli_get (by omega)]; rfl
  | succ j =>
    rw [List.getElem?_cons_succ]
    by_cases h : j < n
    · rw [sli_get (by omega), sli_get h, show s + (j + 1) = s + 1 + j by omega]
    · rw [List.getElem?_eq_none (by rw [sli_len]; omega), List.getElem?_eq_none (by rw [sli_len]; omega)]
theorem sli_of {f : Nat → Int32} {s : Nat} {l : List Int32} (h : ∀ j, j < l.length → l[j]? = some (f (s + j))) : sli f s l.length = l := by
  apply List.ext_getElem?
  intro j
  by_cases hj : j < l.length
  · rw [sli_get hj, h j hj]
  · rw [List.getElem?_eq_none (by rw [sli_len]; omega), List.getElem?_eq_none (by omega)]
def bo (b : Bool) : Int32 := if b = true then 1 else 0
theorem bo_t : bo true = 1 := rfl
theorem bo_f : bo false = 0 := rfl
def dotsB (l : List Int32) : Bool := decide (l = [46]) || decide (l = [46, 46])
def okByte (x : Int32) : Bool := decide (¬ x < 33) && decide (x ≤ 126)
def okName (l : List Int32) : Bool := decide (1 ≤ l.length) && decide (l.length ≤ 100) && !dotsB l && l.all okByte
/-- what is left of a PATH, the NAME under way, how many NAMES are behind it -/
def goP : List Int32 → List Int32 → Nat → Bool
  | [], cur, n => okName cur && decide (n + 1 ≤ 20)
  | x :: t, cur, n => if x = 47 then okName cur && goP t [] (n + 1) else goP t (cur ++ [x]) n
def okPath (l : List Int32) : Bool := decide (1 ≤ l.length) && decide (l.length ≤ 255) && goP l [] 0
section RW
variable {σ : am_S} {a N : Nat} {f : Nat → Int32}
theorem Rw_dots {F s n : Nat} (h : σ.2.2 a = some (cB N f)) (hs : s + n ≤ N) (hN : N < 2 ^ 31) : f_Rw_isDots F σ a (nI s) (nI n) = some (bo (dotsB (sli f s n))) := by
  unfold f_Rw_isDots
  by_cases h1 : n = 1
  · subst h1
    rw [if_pos (by decide), lI_of h (by omega) hN, Option.bind_some]
    have e : sli f s 1 = [f s] := by simp [sli]
    rw [e]
    by_cases h2 : f s = 46
    · rw [if_pos h2, h2]; rfl
    · rw [if_neg h2]
      have : dotsB [f s] = false := by simp [dotsB, h2]
      rw [this]; rfl
  · have n1 : ¬ nI n = 1 := fun z => h1 ((nI_eq (a := n) (b := 1) (by omega) (by omega)).mp z)
    rw [if_neg n1]
    by_cases h2 : n = 2
    · subst h2
      rw [if_pos (by decide), lI_of h (by omega) hN, Option.bind_some]
      have e : sli f s 2 = [f s, f (s + 1)] := by simp [sli, List.range_succ]
      rw [e]
      by_cases h3 : f s = 46
      · rw [if_pos h3, nI_1, lI_of h (by omega) hN, Option.bind_some]
        by_cases h4 : f (s + 1) = 46
        · rw [if_pos h4, h3, h4]; rfl
        · rw [if_neg h4]
          have : dotsB [f s, f (s + 1)] = false := by simp [dotsB, h4]
          rw [this]; rfl
      · rw [if_neg h3]
        have : dotsB [f s, f (s + 1)] = false := by simp [dotsB, h3]
        rw [this]; rfl
    · have n2 : ¬ nI n = 2 := fun z => h2 ((nI_eq (a := n) (b := 2) (by omega) (by omega)).mp z)
      rw [if_neg n2]
      have : dotsB (sli f s n) = false := by
        have hl := sli_len f s n
        simp only [dotsB, Bool.or_eq_false_iff, decide_eq_false_iff_not]
        exact ⟨fun z => by rw [z] at hl; simp at hl; omega, fun z => by rw [z] at hl; simp at hl; omega⟩
      rw [this]; rfl
theorem Rw_nameLoop {F s n : Nat} (h : σ.2.2 a = some (cB N f)) (hs : s + n ≤ N) (hN : N < 2 ^ 31) : ∀ (m i : Nat), s ≤ i → i ≤ s + n → s + n - i < m → f_Rw_isName_l24 σ F a (nI s) (nI n) m (nI i) = some (bo ((sli f i (s + n - i)).all okByte)) := by
  intro m
  induction m with
  | zero => intro i _ _ h; omega
  | succ m ih =>
    intro i h1 h2 h3
    rw [f_Rw_isName_l24, nI_add]
    by_cases hc : s + n ≤ i
    · rw [if_pos (nI_le hc (by omega)), show s + n - i = 0 by omega]
      rfl
    · rw [if_neg (nI_ge (by omega) (by omega)), lI_of h (by omega) hN, Option.bind_some]
      obtain ⟨d, hd⟩ : ∃ d, s + n - i = d + 1 := ⟨s + n - i - 1, by omega⟩
      have hd2 : s + n - (i + 1) = d := by omega
      rw [hd, sli_cons, List.all_cons]
      by_cases h4 : f i < 33
      · rw [if_pos h4]
        have : okByte (f i) = false := by simp [okByte, h4]
        rw [this]; rfl
      · rw [if_neg h4, Option.bind_some]
        by_cases h5 : f i ≤ 126
        · rw [if_pos h5, nI_1, ih (i + 1) (by omega) (by omega) (by omega), hd2]
          have : okByte (f i) = true := by simp [okByte, h4, h5]
          rw [this, Bool.true_and]
        · rw [if_neg h5]
          have : okByte (f i) = false := by simp [okByte, h5]
          rw [this]; rfl
theorem Rw_name {F s n : Nat} (h : σ.2.2 a = some (cB N f)) (hs : s + n ≤ N) (hN : N < 2 ^ 31) (hF : n < F) : f_Rw_isName F σ a (nI s) (nI n) = some (bo (okName (sli f s n))) := by
  unfold f_Rw_isName okName
  rw [sli_len]
  have e1 : (nI n < 1) ↔ n < 1 := nI_ltI (b := 1) (by omega) (by omega)
  have e2 : ((100 : Int32) < nI n) ↔ 100 < n := nI_ltI (a := 100) (by omega) (by omega)
  by_cases h1 : n < 1
  · rw [if_pos (e1.mpr h1)]
    have : decide (1 ≤ n) = false := by simp; omega
    rw [this]; rfl
  · rw [if_neg (fun z => h1 (e1.mp z))]
    by_cases h2 : 100 < n
    · rw [if_pos (e2.mpr h2)]
      have : decide (n ≤ 100) = false := by simp; omega
      rw [this]; simp [bo]
    · rw [if_neg (fun z => h2 (e2.mp z)), Rw_dots h hs hN, Option.bind_some]
      have c1 : decide (1 ≤ n) = true := by simp; omega
      have c2 : decide (n ≤ 100) = true := by simp; omega
      rw [c1, c2]
      cases hd : dotsB (sli f s n) with
      | true => rw [if_neg (by decide)]; rfl
      | false =>
        rw [if_pos (by decide), Rw_nameLoop h hs hN F s (by omega) (by omega) (by omega), show s + n - s = n by omega]
        simp
theorem Rw_pathLoop {F s n : Nat} (h : σ.2.2 a = some (cB N f)) (hs : s + n ≤ N) (hN : N + 2 < 2 ^ 31) (hF : n < F) : ∀ (m i ns c : Nat), s ≤ ns → ns ≤ i → i ≤ s + n → s + n - i + 1 < m → c ≤ i - s → f_Rw_isPath_l27 σ F a (nI (s + n)) (fun y3 => f_Rw_isPath_j81 σ F y3) m (nI c) (nI ns) (nI i) = some (bo (goP (sli f i (s + n - i)) (sli f ns (i - ns)) c)) := by
  intro m
  induction m with
  | zero => intro i ns c _ _ _ h; omega
  | succ m ih =>
    intro i ns c h1 h2 h3 h4 h5
    rw [f_Rw_isPath_l27, if_neg (nI_nlt (by omega) (by omega))]
    have hj : ∀ k : Int32 → Int32 → Int32 → Option Int32, f_Rw_isPath_j50 σ F a (nI c) (nI ns) (nI i) k = if okName (sli f ns (i - ns)) = true then k (nI (c + 1)) (nI (i + 1)) (nI (i + 1)) else some 0 := by
      intro k
      unfold f_Rw_isPath_j50
      rw [nI_sub h2, Rw_name h (by omega) (by omega) (by omega), Option.bind_some, nI_1, nI_1]
      cases okName (sli f ns (i - ns)) with
      | true => rw [if_neg (by decide), if_pos rfl]
      | false => rw [if_pos (by decide), if_neg (by decide)]
    by_cases hc : i = s + n
    · subst hc
      rw [if_pos rfl, hj, show s + n - (s + n) = 0 by omega, sli_zero, goP]
      cases hk : okName (sli f ns (s + n - ns)) with
      | false => rfl
      | true =>
        rw [if_pos rfl, Bool.true_and]
        obtain ⟨m', rfl⟩ : ∃ m', m = m' + 1 := ⟨m - 1, by omega⟩
        rw [f_Rw_isPath_l27, if_pos (nI_lt (by omega) (by omega))]
        unfold f_Rw_isPath_j81
        have e2 : ((20 : Int32) < nI (c + 1)) ↔ 20 < c + 1 := nI_ltI (a := 20) (by omega) (by omega)
        by_cases h20 : c + 1 ≤ 20
        · rw [if_neg (fun z => by have := e2.mp z; omega), decide_eq_true h20]; rfl
        · rw [if_pos (e2.mpr (by omega)), decide_eq_false h20]; rfl
    · rw [if_neg (fun z => hc ((nI_eq (by omega) (by omega)).mp z)), lI_of h (by omega) (by omega), Option.bind_some]
      obtain ⟨d, hd⟩ : ∃ d, s + n - i = d + 1 := ⟨s + n - i - 1, by omega⟩
      have hd2 : s + n - (i + 1) = d := by omega
      rw [hd, sli_cons, goP]
      by_cases h47 : f i = 47
      · rw [if_pos h47, if_pos h47, hj]
        cases hk : okName (sli f ns (i - ns)) with
        | false => rfl
        | true =>
          rw [if_pos rfl, Bool.true_and, ih (i + 1) (i + 1) (c + 1) (by omega) (by omega) (by omega) (by omega) (by omega), hd2, show i + 1 - (i + 1) = 0 by omega, sli_zero]
      · rw [if_neg h47, if_neg h47, nI_1, ih (i + 1) ns c (by omega) (by omega) (by omega) (by omega) (by omega), hd2, show i + 1 - ns = (i - ns) + 1 by omega, sli_succ, show ns + (i - ns) = i by omega]
theorem Rw_path {F s n : Nat} (h : σ.2.2 a = some (cB N f)) (hs : s + n ≤ N) (hN : N + 2 < 2 ^ 31) (hF : n + 1 < F) : f_Rw_isPath F σ a (nI s) (nI n) = some (bo (okPath (sli f s n))) := by
  unfold f_Rw_isPath okPath
  rw [sli_len]
  have e1 : (nI n < 1) ↔ n < 1 := nI_ltI (b := 1) (by omega) (by omega)
  have e2 : (nI n ≤ 255) ↔ n ≤ 255 := nI_leI (b := 255) (by omega) (by omega)
  by_cases h1 : n < 1
  · rw [if_pos (e1.mpr h1)]
    have : decide (1 ≤ n) = false := by simp; omega
    rw [this]; rfl
  · rw [if_neg (fun z => h1 (e1.mp z))]
    by_cases h2 : n ≤ 255
    · rw [if_pos (e2.mpr h2), nI_add, ← nI_0, Rw_pathLoop h hs hN (by omega) F s s 0 (by omega) (by omega) (by omega) (by omega) (by omega)]
      have c1 : decide (1 ≤ n) = true := by simp; omega
      have c2 : decide (n ≤ 255) = true := by simp; omega
      rw [c1, c2, show s + n - s = n by omega, show s - s = 0 by omega, sli_zero]
      simp
    · rw [if_neg (fun z => h2 (e2.mp z))]
      have : decide (n ≤ 255) = false := by simp; omega
      rw [this]; simp [bo]
/-- how many bytes two rows begin with alike -/
def cpl : List Int32 → List Int32 → Nat
  | x :: xs, y :: ys => if x = y then cpl xs ys + 1 else 0
  | _, _ => 0
theorem Rw_cbLoop {F b N' xs ys most : Nat} {g : Nat → Int32} (h : σ.2.2 a = some (cB N f)) (h' : σ.2.2 b = some (cB N' g)) (hs : xs + most ≤ N) (hs' : ys + most ≤ N') (hN : N < 2 ^ 31) (hN' : N' < 2 ^ 31) : ∀ (m k : Nat), k ≤ most → most - k < m → f_Rw_commonBeginning_l3 σ F a (nI xs) b (nI ys) (nI most) m (nI k) = some (nI (k + cpl (sli f (xs + k) (most - k)) (sli g (ys + k) (most - k)))) := by
  intro m
  induction m with
  | zero => intro k _ h; omega
  | succ m ih =>
    intro k h1 h2
    rw [f_Rw_commonBeginning_l3]
    by_cases hc : most ≤ k
    · rw [if_pos (nI_le hc (by omega)), show most - k = 0 by omega, sli_zero, sli_zero, show most = k by omega]
      rfl
    · rw [if_neg (nI_ge (by omega) (by omega)), nI_add, nI_add, lI_of h (by omega) hN, Option.bind_some, lI_of h' (by omega) hN', Option.bind_some]
      obtain ⟨d, hd⟩ : ∃ d, most - k = d + 1 := ⟨most - k - 1, by omega⟩
      have hd2 : most - (k + 1) = d := by omega
      rw [hd, sli_cons, sli_cons, cpl]
      by_cases he : f (xs + k) = g (ys + k)
      · rw [if_pos he, if_pos he, nI_1, ih (k + 1) (by omega) (by omega), hd2, show xs + (k + 1) = xs + k + 1 by omega, show ys + (k + 1) = ys + k + 1 by omega]
        congr 2
        omega
      · rw [if_neg he, if_neg he]
        rfl
theorem Rw_cb {F b N' xs ys most : Nat} {g : Nat → Int32} (h : σ.2.2 a = some (cB N f)) (h' : σ.2.2 b = some (cB N' g)) (hs : xs + most ≤ N) (hs' : ys + most ≤ N') (hN : N < 2 ^ 31) (hN' : N' < 2 ^ 31) (hF : most < F) : f_Rw_commonBeginning F σ a (nI xs) b (nI ys) (nI most) = some (nI (cpl (sli f xs most) (sli g ys most))) := by
  unfold f_Rw_commonBeginning
  rw [← nI_0, Rw_cbLoop h h' hs hs' hN hN' F 0 (by omega) (by omega)]
  simp
end RW
