/-! ===== L3: merging TEXTS, by itself ===== -/
abbrev Ln : Type := List Int32
/-- how long the longest common row is -/
def lcN : List Ln → List Ln → Nat
  | [], _ => 0
  | _ :: _, [] => 0
  | x :: xs, y :: ys => if x = y then lcN xs ys + 1 else max (lcN xs (y :: ys)) (lcN (x :: xs) ys)
termination_by xs ys => xs.length + ys.length
theorem lcN_nl (ys : List Ln) : lcN [] ys = 0 := by rw [lcN]
theorem lcN_nr (xs : List Ln) : lcN xs [] = 0 := by cases xs <;> rw [lcN]
theorem lcN_c (x y : Ln) (xs ys : List Ln) : lcN (x :: xs) (y :: ys) = if x = y then lcN xs ys + 1 else max (lcN xs (y :: ys)) (lcN (x :: xs) ys) := by rw [lcN]
theorem lcN_le : ∀ (n : Nat) (xs ys : List Ln), xs.length + ys.length ≤ n → lcN xs ys ≤ xs.length
  | _, [], ys, _ => by rw [lcN_nl]; exact Nat.zero_le _
  | _, x :: xs, [], _ => by rw [lcN_nr]; exact Nat.zero_le _
  | 0, x :: xs, y :: ys, h => by simp at h
  | n + 1, x :: xs, y :: ys, h => by
    simp only [List.length_cons] at h
    have h1 := lcN_le n xs ys (by omega)
    have h2 := lcN_le n xs (y :: ys) (by simp only [List.length_cons]; omega)
    have h3 := lcN_le n (x :: xs) ys (by simp only [List.length_cons]; omega)
    simp only [List.length_cons] at h3
    rw [lcN_c]
    simp only [List.length_cons]
    split <;> omega
/-- whom each LINE of the first is in a pair with -/
def prL : List Ln → List Ln → Nat → List (Option Nat)
  | [], _, _ => []
  | _ :: xs, [], j => none :: prL xs [] j
  | x :: xs, y :: ys, j => if x = y then some j :: prL xs ys (j + 1) else if lcN xs (y :: ys) < lcN (x :: xs) ys then prL (x :: xs) ys (j + 1) else none :: prL xs (y :: ys) j
termination_by xs ys => xs.length + ys.length
theorem prL_nl (ys : List Ln) (j : Nat) : prL [] ys j = [] := by rw [prL]
theorem prL_nr (xs : List Ln) (j : Nat) : prL xs [] j = List.replicate xs.length none := by
  induction xs with
  | nil => rw [prL]; rfl
  | cons x xs ih => rw [prL, ih]; rfl
theorem prL_c (x y : Ln) (xs ys : List Ln) (j : Nat) : prL (x :: xs) (y :: ys) j = if x = y then some j :: prL xs ys (j + 1) else if lcN xs (y :: ys) < lcN (x :: xs) ys then prL (x :: xs) ys (j + 1) else none :: prL xs (y :: ys) j := by rw [prL]
theorem prL_ok : ∀ (n : Nat) (xs ys : List Ln) (j : Nat), xs.length + ys.length ≤ n → (prL xs ys j).length = xs.length ∧ (∀ (k i : Nat), (prL xs ys j)[k]? = some (some i) → j ≤ i ∧ i - j < ys.length ∧ xs[k]? = ys[i - j]?) ∧ ∀ (k k' i i' : Nat), k < k' → (prL xs ys j)[k]? = some (some i) → (prL xs ys j)[k']? = some (some i') → i < i'
  | _, [], ys, j, _ => by rw [prL_nl]; exact ⟨rfl, fun k i h => by simp at h, fun k k' i i' _ h => by simp at h⟩
  | _, x :: xs, [], j, _ => by
    rw [prL_nr]
    refine ⟨by simp, fun k i h => ?_, fun k k' i i' _ h => ?_⟩
    · rw [List.getElem?_replicate] at h
      split at h <;> simp at h
    · rw [List.getElem?_replicate] at h
      split at h <;> simp at h
  | 0, x :: xs, y :: ys, j, h => by simp at h
  | n + 1, x :: xs, y :: ys, j, h => by
    simp only [List.length_cons] at h
    rw [prL_c]
    split
    · rename_i he
      obtain ⟨h1, h2, h3⟩ := prL_ok n xs ys (j + 1) (by omega)
      refine ⟨by simp only [List.length_cons, h1], fun k i hk => ?_, fun k k' i i' hkk hk hk' => ?_⟩
      · cases k with
        | zero =>
          simp only [List.getElem?_cons_zero, Option.some.injEq] at hk
          subst hk
          exact ⟨Nat.le_refl _, by simp, by simp [he]⟩
        | succ k =>
          simp only [List.getElem?_cons_succ] at hk
          obtain ⟨a1, a2, a3⟩ := h2 k i hk
          refine ⟨by omega, by simp only [List.length_cons]; omega, ?_⟩
          rw [List.getElem?_cons_succ, a3, show i - j = (i - (j + 1)) + 1 by omega, List.getElem?_cons_succ]
      · cases k' with
        | zero => omega
        | succ k' =>
          simp only [List.getElem?_cons_succ] at hk'
          cases k with
          | zero =>
            simp only [List.getElem?_cons_zero, Option.some.injEq] at hk
            have := (h2 k' i' hk').1
            omega
          | succ k =>
            simp only [List.getElem?_cons_succ] at hk
            exact h3 k k' i i' (by omega) hk hk'
    · split
      · obtain ⟨h1, h2, h3⟩ := prL_ok n (x :: xs) ys (j + 1) (by simp only [List.length_cons]; omega)
        refine ⟨h1, fun k i hk => ?_, h3⟩
        obtain ⟨a1, a2, a3⟩ := h2 k i hk
        refine ⟨by omega, by simp only [List.length_cons]; omega, ?_⟩
        rw [a3, show i - j = (i - (j + 1)) + 1 by omega, List.getElem?_cons_succ]
      · obtain ⟨h1, h2, h3⟩ := prL_ok n xs (y :: ys) j (by simp only [List.length_cons]; omega)
        refine ⟨by simp only [List.length_cons, h1], fun k i hk => ?_, fun k k' i i' hkk hk hk' => ?_⟩
        · cases k with
          | zero => simp at hk
          | succ k =>
            simp only [List.getElem?_cons_succ] at hk
            obtain ⟨a1, a2, a3⟩ := h2 k i hk
            exact ⟨a1, a2, by rw [List.getElem?_cons_succ, a3]⟩
        · cases k' with
          | zero => omega
          | succ k' =>
            simp only [List.getElem?_cons_succ] at hk'
            cases k with
            | zero => simp at hk
            | succ k =>
              simp only [List.getElem?_cons_succ] at hk
              exact h3 k k' i i' (by omega) hk hk'
/-- the marks -/
def mkL (i : Nat) : List Int32 := sm_byt.getD (i - 2) []
def endd (t : List Int32) : List Int32 := if t = [] ∨ t.getLast? = some 10 then t else t ++ [10]
theorem endd_len (t : List Int32) : (endd t).length ≤ t.length + 1 := by
  unfold endd
  split
  · omega
  · simp
theorem endd_app {m : List Int32} (hm : m.getLast? = some 10) (T u : List Int32) : endd (T ++ m ++ u) = T ++ m ++ endd u := by
  unfold endd
  have hne : m ≠ [] := fun z => by rw [z] at hm; cases hm
  by_cases hu : u = []
  · subst hu
    have : (T ++ m ++ []).getLast? = some 10 := by rw [List.append_nil, List.getLast?_append, hm]; rfl
    rw [if_pos (Or.inr this), if_pos (Or.inl rfl)]
  · have e : (T ++ m ++ u).getLast? = u.getLast? := by
      rw [List.getLast?_append]
      cases h : u.getLast? with
      | none => exact absurd (List.getLast?_eq_none_iff.mp h) hu
      | some v => rfl
    have e2 : T ++ m ++ u ≠ [] := by simp [hu]
    rw [e]
    simp only [e2, hu, false_or]
    split
    · rfl
    · rw [List.append_assoc (T ++ m)]
/-- what becomes of a part, and whether it's a conflict -/
def prtT (a b c : List Ln) : List Int32 × Bool := if b = a then (c.flatten, false) else if c = a ∨ c = b then (b.flatten, false) else (mkL 2 ++ endd b.flatten ++ mkL 3 ++ endd c.flatten ++ mkL 4, true)
theorem mk_len : (mkL 2).length = 13 ∧ (mkL 3).length = 8 ∧ (mkL 4).length = 15 := by decide
theorem mk_end : (mkL 2).getLast? = some 10 ∧ (mkL 3).getLast? = some 10 := by decide
theorem prtT_len (a b c : List Ln) : (prtT a b c).1.length ≤ sl b + sl c + 38 := by
  unfold prtT
  obtain ⟨h1, h2, h3⟩ := mk_len
  have h4 := endd_len b.flatten
  have h5 := endd_len c.flatten
  have h6 := sl_flat b
  have h7 := sl_flat c
  split
  · simp only; omega
  · split
    · simp only; omega
    · simp only [List.length_append]; omega
def slc (X : List Ln) (i j : Nat) : List Ln := (X.take j).drop i
theorem slc_len {X : List Ln} {i j : Nat} (hj : j ≤ X.length) : (slc X i j).length = j - i := by simp [slc]; omega
theorem slc_get {X : List Ln} {i j k : Nat} (h : i + k < j) : (slc X i j)[k]? = X[i + k]? := by
  unfold slc
  rw [List.getElem?_drop, List.getElem?_take_of_lt h]
theorem slc_sl {X : List Ln} {i j : Nat} (h : i ≤ j) : sl (X.take i) + sl (slc X i j) = sl (X.take j) := by
  have e : X.take j = X.take i ++ slc X i j := by
    unfold slc
    have := List.take_append_drop i (X.take j)
    rw [List.take_take, Nat.min_eq_left h] at this
    exact this.symm
  rw [e, sl_app]
theorem slc_flat {X : List Ln} {i j : Nat} (h : i ≤ j) : (X.take i).flatten ++ (slc X i j).flatten = (X.take j).flatten := by
  have e : X.take j = X.take i ++ slc X i j := by
    unfold slc
    have := List.take_append_drop i (X.take j)
    rw [List.take_take, Nat.min_eq_left h] at this
    exact this.symm
  rw [e, List.flatten_append]
abbrev MSt : Type := List Int32 × Bool × Nat × Nat × Nat
def mstep (X0 X1 X2 : List Ln) (s : MSt) (k : Nat) : MSt := match (prL X0 X1 0).getD k none, (prL X0 X2 0).getD k none with
  | some i, some j => (s.1 ++ (prtT (slc X0 s.2.2.1 k) (slc X1 s.2.2.2.1 i) (slc X2 s.2.2.2.2 j)).1 ++ X0.getD k [], s.2.1 || (prtT (slc X0 s.2.2.1 k) (slc X1 s.2.2.2.1 i) (slc X2 s.2.2.2.2 j)).2, k + 1, i + 1, j + 1)
  | _, _ => s
def mall (X0 X1 X2 : List Ln) (n : Nat) : MSt := (List.range' 0 n).foldl (mstep X0 X1 X2) ([], false, 0, 0, 0)
def mrgL (X0 X1 X2 : List Ln) : List Int32 × Bool :=
  ((mall X0 X1 X2 X0.length).1 ++ (prtT (slc X0 (mall X0 X1 X2 X0.length).2.2.1 X0.length) (slc X1 (mall X0 X1 X2 X0.length).2.2.2.1 X1.length) (slc X2 (mall X0 X1 X2 X0.length).2.2.2.2 X2.length)).1,
   (mall X0 X1 X2 X0.length).2.1 || (prtT (slc X0 (mall X0 X1 X2 X0.length).2.2.1 X0.length) (slc X1 (mall X0 X1 X2 X0.length).2.2.2.1 X1.length) (slc X2 (mall X0 X1 X2 X0.length).2.2.2.2 X2.length)).2)
def mrgT (a b c : List Int32) : List Int32 × Bool := if rgh a || rgh b || rgh c then (b, true) else mrgL (tln a) (tln b) (tln c)
theorem mall_succ (X0 X1 X2 : List Ln) (n : Nat) : mall X0 X1 X2 (n + 1) = mstep X0 X1 X2 (mall X0 X1 X2 n) n := by
  unfold mall
  rw [← List.range'_append_1]
  simp
theorem prL_get {X Y : List Ln} {k i : Nat} (h : (prL X Y 0).getD k none = some i) : ∃ (hk : k < X.length) (hi : i < Y.length), X[k] = Y[i] := by
  obtain ⟨h1, h2, h3⟩ := prL_ok _ X Y 0 (Nat.le_refl _)
  have hq : (prL X Y 0)[k]? = some (some i) := by
    rw [List.getD_eq_getElem?_getD] at h
    cases hz : (prL X Y 0)[k]? with
    | none => rw [hz] at h; cases h
    | some v => rw [hz] at h; simp at h; rw [h]
  obtain ⟨a1, a2, a3⟩ := h2 k i hq
  have hk : k < X.length := by rw [← h1]; exact (List.getElem?_eq_some_iff.mp hq).1
  refine ⟨hk, by omega, ?_⟩
  rw [Nat.sub_zero, List.getElem?_eq_getElem hk, List.getElem?_eq_getElem (by omega)] at a3
  exact Option.some.inj a3
theorem prL_lt {X Y : List Ln} {k k' i i' : Nat} (hk : k < k') (h : (prL X Y 0).getD k none = some i) (h' : (prL X Y 0).getD k' none = some i') : i < i' := by
  obtain ⟨h1, h2, h3⟩ := prL_ok _ X Y 0 (Nat.le_refl _)
  have hq : ∀ k i, (prL X Y 0).getD k none = some i → (prL X Y 0)[k]? = some (some i) := fun k i h => by
    rw [List.getD_eq_getElem?_getD] at h
    cases hz : (prL X Y 0)[k]? with
    | none => rw [hz] at h; cases h
    | some v => rw [hz] at h; simp at h; rw [h]
  exact h3 k k' i i' hk (hq k i h) (hq k' i' h')
/-- what holds before LINE k -/
def MIn (X0 X1 X2 : List Ln) (k : Nat) (s : MSt) : Prop := s.2.2.1 ≤ k ∧ s.2.2.2.1 ≤ X1.length ∧ s.2.2.2.2 ≤ X2.length ∧ (∀ k' i, k ≤ k' → (prL X0 X1 0).getD k' none = some i → s.2.2.2.1 ≤ i) ∧ (∀ k' i, k ≤ k' → (prL X0 X2 0).getD k' none = some i → s.2.2.2.2 ≤ i) ∧ s.1.length ≤ sl (X1.take s.2.2.2.1) + sl (X2.take s.2.2.2.2) + 38 * k
theorem mall_in (X0 X1 X2 : List Ln) : ∀ k, k ≤ X0.length → MIn X0 X1 X2 k (mall X0 X1 X2 k)
  | 0, _ => ⟨Nat.le_refl _, Nat.zero_le _, Nat.zero_le _, fun _ _ _ _ => Nat.zero_le _, fun _ _ _ _ => Nat.zero_le _, Nat.zero_le _⟩
  | k + 1, h => by
    obtain ⟨h1, h2, h3, h4, h5, h6⟩ := mall_in X0 X1 X2 k (by omega)
    rw [mall_succ]
    generalize mall X0 X1 X2 k = s at *
    unfold mstep
    split
    · rename_i i j hi hj
      obtain ⟨q1, q2, q3⟩ := prL_get hi
      obtain ⟨r1, r2, r3⟩ := prL_get hj
      refine ⟨Nat.le_refl _, by simp only; omega, by simp only; omega, fun k' i' hk' hz => ?_, fun k' i' hk' hz => ?_, ?_⟩
      · have := prL_lt (show k < k' by omega) hi hz
        simp only; omega
      · have := prL_lt (show k < k' by omega) hj hz
        simp only; omega
      · have e1 := h4 k i (Nat.le_refl _) hi
        have e2 := h5 k j (Nat.le_refl _) hj
        have e3 := slc_sl (X := X1) e1
        have e4 := slc_sl (X := X2) e2
        have e5 := sl_take_succ q2
        have e6 := sl_take_succ r2
        have e7 := prtT_len (slc X0 s.2.2.1 k) (slc X1 s.2.2.2.1 i) (slc X2 s.2.2.2.2 j)
        have e8 : (X0.getD k []).length = X1[i].length := by
          rw [← q3]
          simp [q1]
        simp only [List.length_append]
        rw [e8]
        omega
    · exact ⟨by omega, h2, h3, fun k' i hk' => h4 k' i (by omega), fun k' i hk' => h5 k' i (by omega), by omega⟩
