/-! ===== L3: PathMap, searching ===== -/
def Srt (P : PL) : Prop := (∀ k (h : k < P.length), isB P[k].1) ∧ ∀ i j (hi : i < P.length) (hj : j < P.length), i < j → ltP P[i].1 P[j].1
/-- how many PATHS are before q -/
def plc (P : PL) (q : List Int32) : Nat := (P.takeWhile fun e => decide (cmpV e.1 q < 0)).length
theorem plc_le (P : PL) (q : List Int32) : plc P q ≤ P.length := (List.takeWhile_sublist _).length_le
theorem plc_of : ∀ {P : PL} {q : List Int32} {m : Nat}, m ≤ P.length → (∀ i (h : i < P.length), i < m → ltP P[i].1 q) → (∀ i (h : i < P.length), m ≤ i → ¬ ltP P[i].1 q) → plc P q = m
  | [], q, m, hm, _, _ => by
    have : m = 0 := by simpa using hm
    rw [this]; rfl
  | e :: P, q, m, hm, h1, h2 => by
    unfold plc
    by_cases hc : cmpV e.1 q < 0
    · rw [List.takeWhile_cons_of_pos (by simpa using hc), List.length_cons]
      cases m with
      | zero => exact absurd hc (h2 0 (by simp) (by omega))
      | succ m =>
        have := plc_of (P := P) (q := q) (m := m) (by simpa using hm) (fun i hi hlt => by have := h1 (i + 1) (by simpa using hi) (by omega); simpa using this) (fun i hi hle => by have := h2 (i + 1) (by simpa using hi) (by omega); simpa using this)
        unfold plc at this
        rw [this]
    · rw [List.takeWhile_cons_of_neg (by simpa using hc)]
      cases m with
      | zero => rfl
      | succ m => exact absurd (h1 0 (by simp) (by omega)) hc
theorem Srt.down {P : PL} (h : Srt P) {q : List Int32} (hq : isB q) {i j : Nat} (hi : i < P.length) (hj : j < P.length) (hij : i ≤ j) (hl : ltP P[j].1 q) : ltP P[i].1 q := by
  by_cases e : i = j
  · subst e; exact hl
  · exact ltP_trans (h.1 i hi) (h.1 j hj) hq (h.2 i j hi hj (by omega)) hl
theorem plc_lt {P : PL} (h : Srt P) {q : List Int32} (hq : isB q) : (∀ i (hi : i < P.length), i < plc P q → ltP P[i].1 q) ∧ ∀ i (hi : i < P.length), plc P q ≤ i → ¬ ltP P[i].1 q := by
  have key : ∃ m, m ≤ P.length ∧ (∀ i (hi : i < P.length), i < m → ltP P[i].1 q) ∧ ∀ i (hi : i < P.length), m ≤ i → ¬ ltP P[i].1 q := by
    have step : ∀ n, n ≤ P.length → ∃ m, m ≤ n ∧ (∀ i (hi : i < P.length), i < m → ltP P[i].1 q) ∧ ∀ i (hi : i < P.length), m ≤ i → i < n → ¬ ltP P[i].1 q := by
      intro n
      induction n with
      | zero => intro _; exact ⟨0, by omega, fun i _ h => by omega, fun i _ _ h => by omega⟩
      | succ n ih =>
        intro hn
        obtain ⟨m, m1, m2, m3⟩ := ih (by omega)
        by_cases hc : ltP P[n].1 q
        · exact ⟨n + 1, by omega, fun i hi hlt => h.down hq hi (by omega) (by omega) hc, fun i _ h1 h2 => by omega⟩
        · refine ⟨m, by omega, m2, fun i hi h1 h2 => ?_⟩
          by_cases e : i = n
          · subst e; exact hc
          · exact m3 i hi h1 (by omega)
    obtain ⟨m, m1, m2, m3⟩ := step P.length (Nat.le_refl _)
    exact ⟨m, m1, m2, fun i hi hle => m3 i hi hle hi⟩
  obtain ⟨m, m1, m2, m3⟩ := key
  rw [plc_of m1 m2 m3]
  exact ⟨m2, m3⟩
theorem nI_div2 {a : Nat} (h : a < 2 ^ 31) : nI a / 2 = nI (a / 2) := by
  apply Int32.toInt_inj.mp
  rw [lg_idiv_nonneg (by rw [nI_toInt h]; omega) (by decide), nI_toInt h, nI_toInt (by omega)]
  have : (2 : Int32).toInt = 2 := by decide
  rw [this]
  omega
section PF
variable {σ : am_S} {o F : Nat} {P : PL} {b N st n : Nat} {g : Nat → Int32}
theorem Pm_placeLoop (h : Pm σ o P) (hs : Srt P) (hb : σ.2.2 b = some (cB N g)) (hn : st + n ≤ N) (hN : N < 2 ^ 31) (hF : 8192 < F) (hq : isB (sli g st n)) : ∀ (m lo hi : Nat), lo ≤ hi → hi ≤ P.length → hi - lo < m → (∀ i (h : i < P.length), i < lo → ltP P[i].1 (sli g st n)) → (∀ i (h : i < P.length), hi ≤ i → ¬ ltP P[i].1 (sli g st n)) → f_Pm_placeFor_l9 σ F o b (nI st) (nI n) m (nI lo) (nI hi) = some (nI (plc P (sli g st n))) := by
  have hlen : P.length ≤ 400 := by
    obtain ⟨ls, ss, vs, -, w, -⟩ := h
    exact w
  intro m
  induction m with
  | zero => intro lo hi _ _ h; omega
  | succ m ih =>
    intro lo hi h1 h2 h3 h4 h5
    rw [f_Pm_placeFor_l9]
    by_cases hc : hi ≤ lo
    · rw [if_pos (nI_le hc (by omega))]
      have : lo = hi := by omega
      subst this
      rw [plc_of h2 h4 h5]
    · rw [if_neg (nI_ge (by omega) (by omega)), nI_add, nI_div2 (by omega), Pm_compare h (by omega) hb hn hN hF, Option.bind_some]
      by_cases hz : ltP P[(lo + hi) / 2].1 (sli g st n)
      · have hz' : ¬ (0 : Int32) ≤ cmpV P[(lo + hi) / 2].1 (sli g st n) := fun z => by
          have : ¬ cmpV P[(lo + hi) / 2].1 (sli g st n) < 0 := Int32.not_lt.mpr z
          exact this hz
        rw [if_neg hz', nI_1]
        exact ih _ _ (by omega) h2 (by omega) (fun i hi hlt => hs.down hq hi (by omega) (by omega) hz) h5
      · have hz' : (0 : Int32) ≤ cmpV P[(lo + hi) / 2].1 (sli g st n) := Int32.not_lt.mp hz
        rw [if_pos hz']
        exact ih _ _ (by omega) (by omega) (by omega) h4 (fun i hi hle z => hz (hs.down hq (by omega) hi hle z))
theorem Pm_place (h : Pm σ o P) (hs : Srt P) (hb : σ.2.2 b = some (cB N g)) (hn : st + n ≤ N) (hN : N < 2 ^ 31) (hF : 8192 < F) (hq : isB (sli g st n)) : f_Pm_placeFor F σ o b (nI st) (nI n) = some (nI (plc P (sli g st n))) := by
  obtain ⟨ls, ss, vs, ⟨h1, h2, h3, h4⟩, hw⟩ := id h
  unfold f_Pm_placeFor
  rw [am_ck_of h1, gI_of h1 rfl]
  simp only [Option.bind_some]
  rw [← nI_0]
  have := hw.1
  exact Pm_placeLoop h hs hb hn hN hF hq F 0 P.length (by omega) (Nat.le_refl _) (by omega) (fun i _ h => by omega) (fun i h h' => by omega)
/-- where q is, if it is there -/
def fnd (P : PL) (q : List Int32) : Option Nat := P.findIdx? fun e => decide (e.1 = q)
theorem fnd_some {P : PL} (hs : Srt P) {q : List Int32} (hq : isB q) {i : Nat} (hi : i < P.length) (he : P[i].1 = q) : plc P q = i ∧ fnd P q = some i := by
  obtain ⟨p1, p2⟩ := plc_lt hs hq
  have hirr := ltP_irr hq
  have e1 : plc P q = i := by
    have a1 : ¬ i < plc P q := fun z => hirr (by have := p1 i hi z; rw [he] at this; exact this)
    have a2 : ¬ plc P q < i := fun z => by
      have l1 := hs.2 (plc P q) i (by omega) hi z
      rw [he] at l1
      exact p2 (plc P q) (by omega) (Nat.le_refl _) l1
    omega
  refine ⟨e1, ?_⟩
  unfold fnd
  rw [List.findIdx?_eq_some_iff_getElem]
  refine ⟨hi, by simpa using he, fun j hj => ?_⟩
  have l1 := hs.2 j i (by omega) hi hj
  rw [he] at l1
  simp only [decide_eq_true_eq]
  intro z
  rw [z] at l1
  exact hirr l1
theorem fnd_none {P : PL} {q : List Int32} (h : ∀ i (hi : i < P.length), P[i].1 ≠ q) : fnd P q = none := by
  unfold fnd
  rw [List.findIdx?_eq_none_iff]
  intro x hx
  obtain ⟨i, hi, rfl⟩ := List.getElem_of_mem hx
  simpa using h i hi
theorem Pm_isAt (h : Pm σ o P) (hs : Srt P) (hb : σ.2.2 b = some (cB N g)) (hn : st + n ≤ N) (hN : N < 2 ^ 31) (hF : 8192 < F) (hq : isB (sli g st n)) : f_Pm_isAt F σ o (nI (plc P (sli g st n))) b (nI st) (nI n) = some (bo (fnd P (sli g st n)).isSome) := by
  obtain ⟨ls, ss, vs, ⟨h1, h2, h3, h4⟩, hw⟩ := id h
  have hle := plc_le P (sli g st n)
  have hlen := hw.1
  unfold f_Pm_isAt
  rw [am_ck_of h1, gI_of h1 rfl]
  simp only [Option.bind_some]
  by_cases hc : plc P (sli g st n) < P.length
  · rw [if_neg (nI_ge hc (by omega)), Pm_compare h hc hb hn hN hF, Option.bind_some]
    by_cases he : P[plc P (sli g st n)].1 = sli g st n
    · rw [if_pos ((cmp0 (hs.1 _ hc) hq).mpr he), (fnd_some hs hq hc he).2]; rfl
    · rw [if_neg (fun z => he ((cmp0 (hs.1 _ hc) hq).mp z))]
      rw [fnd_none fun i hi z => he (by
        have e := (fnd_some hs hq hi z).1
        subst e
        exact z)]
      rfl
  · rw [if_pos (nI_le (by omega) (by omega)), fnd_none fun i hi z => hc (by have := (fnd_some hs hq hi z).1; omega)]
    rfl
theorem fnd_plc {P : PL} (hs : Srt P) {q : List Int32} (hq : isB q) {i : Nat} (h : fnd P q = some i) : i = plc P q ∧ ∃ hi : i < P.length, P[i].1 = q := by
  have h' := h
  unfold fnd at h'
  rw [List.findIdx?_eq_some_iff_getElem] at h'
  obtain ⟨hi, he, -⟩ := h'
  have he' : P[i].1 = q := by simpa using he
  exact ⟨(fnd_some hs hq hi he').1.symm, hi, he'⟩
def oI : Option Nat → Int32
  | some i => nI i
  | none => -1
theorem Pm_find (h : Pm σ o P) (hs : Srt P) (hb : σ.2.2 b = some (cB N g)) (hn : st + n ≤ N) (hN : N < 2 ^ 31) (hF : 8192 < F) (hq : isB (sli g st n)) : f_Pm_find F σ o b (nI st) (nI n) = some (oI (fnd P (sli g st n))) := by
  obtain ⟨ls, ss, vs, ⟨h1, -⟩, -⟩ := id h
  unfold f_Pm_find
  rw [am_ck_of h1, Pm_place h hs hb hn hN hF hq, Option.bind_some, Pm_isAt h hs hb hn hN hF hq, Option.bind_some]
  cases hf : fnd P (sli g st n) with
  | none => rw [if_pos (by decide)]; rfl
  | some i => rw [Option.isSome_some, if_neg (show ¬ bo true = 0 by decide), (fnd_plc hs hq hf).1]; rfl
end PF
