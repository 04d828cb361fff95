/-! ===== L3: LineTable ===== -/
def hB (q : List Int32) : Int32 := q.foldl (fun m x => m * 31 + x) (nI q.length)
def hX (q : List Int32) : Int32 := (hB q ^^^ am_ushr (hB q) 12) &&& 4095
def hsh (q : List Int32) : Nat := (hX q).toNatClampNeg
theorem and4095 (x : Int32) : ∃ k : Nat, k ≤ 4095 ∧ x &&& 4095 = nI k := by
  refine ⟨(x &&& 4095).toNatClampNeg, ?_, ?_⟩
  · have h : (x &&& 4095).toBitVec.toNat ≤ 4095 := by
      show (x.toBitVec &&& 4095#32).toNat ≤ 4095
      rw [BitVec.toNat_and]
      exact Nat.and_le_right
    have h2 : (x &&& 4095).toInt = ((x &&& 4095).toBitVec.toNat : Int) := by
      show (x &&& 4095).toBitVec.toInt = _
      rw [BitVec.toInt_eq_toNat_of_lt (by omega)]
    show (x &&& 4095).toInt.toNat ≤ 4095
    rw [h2]
    simpa using h
  · have h : (x &&& 4095).toBitVec.toNat ≤ 4095 := by
      show (x.toBitVec &&& 4095#32).toNat ≤ 4095
      rw [BitVec.toNat_and]
      exact Nat.and_le_right
    have h2 : (x &&& 4095).toInt = ((x &&& 4095).toBitVec.toNat : Int) := by
      show (x &&& 4095).toBitVec.toInt = _
      rw [BitVec.toInt_eq_toNat_of_lt (by omega)]
    have h3 : (x &&& 4095).toNatClampNeg = (x &&& 4095).toBitVec.toNat := by
      show (x &&& 4095).toInt.toNat = _
      rw [h2]; simp
    apply Int32.toInt_inj.mp
    rw [h3, nI_toInt (by omega), h2]
theorem hX_eq (q : List Int32) : hX q = nI (hsh q) ∧ hsh q < 4096 := by
  obtain ⟨k, h1, h2⟩ := and4095 (hB q ^^^ am_ushr (hB q) 12)
  have e : hX q = nI k := h2
  unfold hsh
  rw [e, nI_clamp (by omega)]
  exact ⟨rfl, by omega⟩
/-- the number of the first line that is q -/
def ix (T : List (List Int32)) (q : List Int32) : Nat := T.findIdx fun t => decide (t = q)
theorem ix_le (T : List (List Int32)) (q : List Int32) : ix T q ≤ T.length := List.findIdx_le_length
theorem ix_get {T : List (List Int32)} {q : List Int32} (h : ix T q < T.length) : T[ix T q] = q := by
  have := List.findIdx_getElem (w := h)
  exact of_decide_eq_true this
theorem ix_mem {T : List (List Int32)} {q : List Int32} : ix T q < T.length ↔ q ∈ T := by
  unfold ix
  rw [List.findIdx_lt_length]
  simp
theorem ix_first {T : List (List Int32)} {q : List Int32} {j : Nat} (hj : j < T.length) (h : j < ix T q) : T[j] ≠ q := by
  have := List.not_of_lt_findIdx (p := fun t => decide (t = q)) (xs := T) h
  simpa using this
theorem ix_app {T : List (List Int32)} {q : List Int32} (t : List Int32) (h : q ∈ T) : ix (T ++ [t]) q = ix T q := by
  unfold ix
  rw [List.findIdx_append, if_pos]
  rw [List.findIdx_lt_length]
  exact ⟨q, h, by simp⟩
theorem ix_new {T : List (List Int32)} {q : List Int32} : ix (T ++ [q]) q = ix T q := by
  by_cases h : q ∈ T
  · exact ix_app q h
  · have h1 : ix T q = T.length := by
      have := ix_le T q
      have : ¬ ix T q < T.length := fun z => h (ix_mem.mp z)
      omega
    have h2 : ¬ List.findIdx (fun t => decide (t = q)) T < T.length := fun z => h (ix_mem.mp z)
    rw [h1]
    unfold ix
    rw [List.findIdx_append, if_neg h2]
    simp [List.findIdx_cons]
/-- the kinds in a bucket, the newest first -/
def kB (T : List (List Int32)) (b j : Nat) : Bool := match T[j]? with
  | some q => decide (ix T q = j ∧ hsh q = b)
  | none => false
def KL (T : List (List Int32)) (b : Nat) : List Nat := (List.range T.length).reverse.filter (kB T b)
theorem kB_of {T : List (List Int32)} {b j : Nat} (h : j < T.length) : kB T b j = true ↔ ix T T[j] = j ∧ hsh T[j] = b := by
  unfold kB
  rw [List.getElem?_eq_getElem h]
  simp
theorem KL_mem {T : List (List Int32)} {b j : Nat} : j ∈ KL T b ↔ ∃ h : j < T.length, ix T T[j] = j ∧ hsh T[j] = b := by
  unfold KL
  rw [List.mem_filter, List.mem_reverse, List.mem_range]
  constructor
  · rintro ⟨h, h2⟩
    exact ⟨h, (kB_of h).mp h2⟩
  · rintro ⟨h, h2⟩
    exact ⟨h, (kB_of h).mpr h2⟩
theorem KL_len (T : List (List Int32)) (b : Nat) : (KL T b).length ≤ T.length := by
  unfold KL
  have := List.length_filter_le (kB T b) (List.range T.length).reverse
  simpa using this
theorem KL_snoc (T : List (List Int32)) (q : List Int32) (b : Nat) : KL (T ++ [q]) b = if q ∉ T ∧ hsh q = b then T.length :: KL T b else KL T b := by
  unfold KL
  rw [List.length_append, List.length_singleton, List.range_succ, List.reverse_append, List.reverse_singleton, List.singleton_append]
  have hrest : List.filter (kB (T ++ [q]) b) (List.range T.length).reverse = List.filter (kB T b) (List.range T.length).reverse := by
    apply List.filter_congr
    intro j hj
    have hj' : j < T.length := by simpa using hj
    unfold kB
    rw [List.getElem?_append_left hj', List.getElem?_eq_getElem hj']
    simp only [ix_app _ (List.getElem_mem hj')]
  have hhead : kB (T ++ [q]) b T.length = true ↔ q ∉ T ∧ hsh q = b := by
    rw [kB_of (by simp)]
    simp only [List.getElem_append_right (Nat.le_refl _), Nat.sub_self, List.getElem_cons_zero, ix_new]
    have h1 := ix_le T q
    have h2 := ix_mem (T := T) (q := q)
    constructor
    · rintro ⟨h3, h4⟩
      exact ⟨fun z => by have := h2.mpr z; omega, h4⟩
    · rintro ⟨h3, h4⟩
      refine ⟨?_, h4⟩
      have : ¬ ix T q < T.length := fun z => h3 (h2.mp z)
      omega
  by_cases hc : q ∉ T ∧ hsh q = b
  · rw [if_pos hc, List.filter_cons_of_pos (hhead.mpr hc), hrest]
  · rw [if_neg hc, List.filter_cons_of_neg (fun z => hc (hhead.mp z)), hrest]
/-- a chain -/
def Chn (lc : Nat → Int32) : Int32 → List Nat → Prop
  | p, [] => p = 0
  | p, j :: l => p = nI (j + 1) ∧ Chn lc (lc j) l
theorem Chn.congr {lc lc' : Nat → Int32} : ∀ {l : List Nat} {p : Int32}, (∀ j ∈ l, lc' j = lc j) → Chn lc p l → Chn lc' p l
  | [], _, _, h => h
  | j :: l, p, hc, h => ⟨h.1, by rw [hc j List.mem_cons_self]; exact Chn.congr (fun i hi => hc i (List.mem_cons_of_mem _ hi)) h.2⟩
def LtW (by_ ls ll lk lh lc : Nat → Int32) (T : List (List Int32)) (M : Nat) : Prop :=
  T.length ≤ M ∧ (∀ i (h : i < T.length), ∃ s, ls i = nI s ∧ s + T[i].length ≤ M ∧ ll i = nI T[i].length ∧ sli by_ s T[i].length = T[i]) ∧ (∀ i (h : i < T.length), lk i = nI (ix T T[i])) ∧ ∀ b, b < 4096 → Chn lc (lh b) (KL T b)
/-- o is the Blobs' address; the LineTable is at o + 6 -/
def LtR (σ : am_S) (o : Nat) (by_ ls ll lk lh lc : Nat → Int32) (n : Nat) : Prop :=
  σ.2.2 (o + 6) = some (cO 3 [.ref (o + 1), .ref (o + 7), .ref (o + 8), .ref (o + 9), .ref (o + 10), .ref (o + 11), .int (nI n)]) ∧ σ.2.2 (o + 1) = some (cB 32768 by_) ∧ σ.2.2 (o + 7) = some (cI 32768 ls) ∧ σ.2.2 (o + 8) = some (cI 32768 ll) ∧ σ.2.2 (o + 9) = some (cI 32768 lk) ∧ σ.2.2 (o + 10) = some (cI 4096 lh) ∧ σ.2.2 (o + 11) = some (cI 32768 lc)
section LT
variable {σ : am_S} {o F : Nat} {by_ ls ll lk lh lc : Nat → Int32} {T : List (List Int32)} {s n M : Nat}
theorem Lt_bucketLoop {x0 a : Nat} (h6 : am_gA σ 3 0 x0 = some a) (hb : σ.2.2 a = some (cB 32768 by_)) (hs : s + n ≤ 32768) {kk : Int32 → Option Int32} : ∀ (m k : Nat) (x : Int32), k ≤ n → n - k < m → f_Lt_bucketOf_l5 σ F x0 (nI s) (nI n) kk m x (nI k) = kk ((sli by_ (s + k) (n - k)).foldl (fun m x => m * 31 + x) x) := by
  intro m
  induction m with
  | zero => intro k x _ h; omega
  | succ m ih =>
    intro k x h1 h2
    rw [f_Lt_bucketOf_l5]
    by_cases hc : n ≤ k
    · rw [if_pos (nI_le hc (by omega)), show n - k = 0 by omega, sli_zero]
      rfl
    · rw [if_neg (nI_ge (by omega) (by omega)), h6]
      simp (disch := first | omega | (simp only [List.length_cons, List.length_nil] <;> omega)) only [sx_ck, xk_s, sx_gI, sx_gA, xg_s, xi_s, xa_s, List.getElem?_cons_zero, List.getElem?_cons_succ, sx_lI, sx_lA, xl_s, xl_v, sx_pI, sx_pA, xp_s, List.set_cons_zero, List.set_cons_succ, sx_sI, sx_sB, sx_sZ, sx_sS, xs_s, sx_cp, xc_s, put_at, put_ne, new_at, new_ne, Option.bind_some, am_b2, sx_len, xn_s, nI_add, hb, nI_1]
      obtain ⟨d, hd⟩ : ∃ d, n - k = d + 1 := ⟨n - k - 1, by omega⟩
      rw [ih (k + 1) _ (by omega) (by omega), hd, sli_cons, List.foldl_cons, show n - (k + 1) = d by omega, Nat.add_assoc]
theorem Lt_bucket (h : LtR σ o by_ ls ll lk lh lc M) (hs : s + n ≤ 32768) (hF : n < F) : f_Lt_bucketOf F σ (o + 6) (nI s) (nI n) = some (nI (hsh (sli by_ s n))) := by
  obtain ⟨h1, h2, -⟩ := h
  unfold f_Lt_bucketOf
  have hg : am_gA σ 3 0 (o + 6) = some (o + 1) := gA_of h1 rfl
  rw [am_ck_of h1, ← nI_0, Lt_bucketLoop hg h2 hs F 0 _ (by omega) (by omega)]
  unfold f_Lt_bucketOf_j32
  have := (hX_eq (sli by_ s n)).1
  unfold hX hB at this
  rw [sli_len] at this
  rw [← this]
  simp
theorem Lt_findLoop (h : LtR σ o by_ ls ll lk lh lc T.length) (hw : LtW by_ ls ll lk lh lc T M) (hM : M ≤ 32768) (hs : s + n ≤ 32768) (hF : 32768 < F) : ∀ (m : Nat) (l : List Nat) (x : Int32) (k : Nat), (∀ j ∈ l, j < T.length) → Chn lc x l → k + l.length ≤ T.length → l.length < m → f_Lt_findKind_l11 σ F (o + 6) (nI s) (nI n) m x (nI k) = some (oI (l.find? fun j => decide (T[j]? = some (sli by_ s n)))) := by
  obtain ⟨h1, h2, h3, h4, h5, h6, h7⟩ := h
  obtain ⟨w0, w1, w2, w3⟩ := hw
  intro m
  induction m with
  | zero => intro l x k _ _ _ h; omega
  | succ m ih =>
    intro l x k hl hc hk hm
    rw [f_Lt_findKind_l11]
    cases l with
    | nil =>
      have : x = 0 := hc
      subst this
      simp (disch := first | omega | (simp only [List.length_cons, List.length_nil] <;> omega)) only [sx_ck, xk_s, sx_gI, sx_gA, xg_s, xi_s, xa_s, List.getElem?_cons_zero, List.getElem?_cons_succ, sx_lI, sx_lA, xl_s, xl_v, sx_pI, sx_pA, xp_s, List.set_cons_zero, List.set_cons_succ, sx_sI, sx_sB, sx_sZ, sx_sS, xs_s, sx_cp, xc_s, put_at, put_ne, new_at, new_ne, Option.bind_some, am_b2, sx_len, xn_s, h1]
      by_cases hz : nI T.length ≤ nI k
      · rw [if_pos hz]; rfl
      · rw [if_neg hz, if_pos (by decide)]; rfl
    | cons j l =>
      obtain ⟨rfl, hc2⟩ := hc
      simp only [List.length_cons] at hk hm
      have hj := hl j List.mem_cons_self
      have e1 : nI (j + 1) - 1 = nI j := nI_pred j
      obtain ⟨s', q1, q2, q3, q4⟩ := w1 j hj
      have hcb := Rw_cb (F := F) h2 h2 (xs := s') (ys := s) (most := n)
      unfold f_Lt_findKind_j69
      simp (disch := first | omega | (simp only [List.length_cons, List.length_nil] <;> omega)) only [sx_ck, xk_s, sx_gI, sx_gA, xg_s, xi_s, xa_s, List.getElem?_cons_zero, List.getElem?_cons_succ, sx_lI, sx_lA, xl_s, xl_v, sx_pI, sx_pA, xp_s, List.set_cons_zero, List.set_cons_succ, sx_sI, sx_sB, sx_sZ, sx_sS, xs_s, sx_cp, xc_s, put_at, put_ne, new_at, new_ne, Option.bind_some, am_b2, sx_len, xn_s, h1, h4, h3, h7, e1, q1, q3]
      rw [if_neg (nI_ge (by omega) (by omega)), if_neg (nI_nle (by omega) (by omega)), List.find?_cons, List.getElem?_eq_getElem hj]
      have hrec := ih l (lc j) (k + 1) (fun i hi => hl i (List.mem_cons_of_mem _ hi)) hc2 (by omega) (by omega)
      rw [nI_1, hrec]
      simp (disch := omega) only [nI_eq]
      by_cases hn : T[j].length = n
      · rw [if_pos hn, hcb (by omega) (by omega) (by omega) (by omega) (by omega), Option.bind_some]
        have hle := cpl_le (sli by_ s' n) (sli by_ s n)
        have heq := cpl_eq (p := sli by_ s' n) (q := sli by_ s n) (by rw [sli_len, sli_len])
        rw [sli_len] at hle heq
        simp (disch := omega) only [nI_eq, heq]
        rw [hn] at q4
        rw [q4]
        by_cases he : T[j] = sli by_ s n
        · rw [if_pos he]
          simp [he, oI]
        · rw [if_neg he]
          simp [he]
      · rw [if_neg hn]
        have : ¬ T[j] = sli by_ s n := fun z => hn (by rw [z, sli_len])
        simp [this]
theorem KL_find (T : List (List Int32)) (q : List Int32) : (KL T (hsh q)).find? (fun j => decide (T[j]? = some q)) = if q ∈ T then some (ix T q) else none := by
  by_cases h : q ∈ T
  · rw [if_pos h]
    have hi := ix_mem.mpr h
    have hm : ix T q ∈ KL T (hsh q) := KL_mem.mpr ⟨hi, by rw [ix_get hi], by rw [ix_get hi]⟩
    cases hf : (KL T (hsh q)).find? (fun j => decide (T[j]? = some q)) with
    | none =>
      have := List.find?_eq_none.mp hf _ hm
      rw [List.getElem?_eq_getElem hi, ix_get hi] at this
      simp at this
    | some j =>
      have h1 := List.find?_some hf
      have h2 := List.mem_of_find?_eq_some hf
      obtain ⟨hj, h3, -⟩ := KL_mem.mp h2
      rw [List.getElem?_eq_getElem hj] at h1
      have h4 : T[j] = q := by simpa using h1
      rw [h4] at h3
      rw [h3]
  · rw [if_neg h]
    apply List.find?_eq_none.mpr
    intro j hj
    obtain ⟨hj, -, -⟩ := KL_mem.mp hj
    rw [List.getElem?_eq_getElem hj]
    simp only [decide_eq_true_eq, Option.some.injEq]
    intro z
    exact h (z ▸ List.getElem_mem hj)
theorem Lt_findKind (h : LtR σ o by_ ls ll lk lh lc T.length) (hw : LtW by_ ls ll lk lh lc T M) (hM : M ≤ 32768) (hs : s + n ≤ 32768) (hF : 32768 < F) : f_Lt_findKind F σ (o + 6) (nI (hsh (sli by_ s n))) (nI s) (nI n) = some (oI (if sli by_ s n ∈ T then some (ix T (sli by_ s n)) else none)) := by
  have hb := (hX_eq (sli by_ s n)).2
  have hkl := KL_len T (hsh (sli by_ s n))
  have hl := Lt_findLoop h hw hM hs hF F (KL T (hsh (sli by_ s n))) (lh (hsh (sli by_ s n))) 0 (fun j hj => (KL_mem.mp hj).1) (hw.2.2.2 _ hb) (by omega) (by have := hw.1; omega)
  obtain ⟨h1, h2, h3, h4, h5, h6, h7⟩ := h
  unfold f_Lt_findKind
  simp (disch := first | omega | (simp only [List.length_cons, List.length_nil] <;> omega)) only [sx_ck, xk_s, sx_gI, sx_gA, xg_s, xi_s, xa_s, List.getElem?_cons_zero, List.getElem?_cons_succ, sx_lI, sx_lA, xl_s, xl_v, sx_pI, sx_pA, xp_s, List.set_cons_zero, List.set_cons_succ, sx_sI, sx_sB, sx_sZ, sx_sS, xs_s, sx_cp, xc_s, put_at, put_ne, new_at, new_ne, Option.bind_some, am_b2, sx_len, xn_s, h1, h6]
  rw [← nI_0, hl, KL_find]
end LT
