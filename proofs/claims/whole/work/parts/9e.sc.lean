/-! ===== L3: the reference: kinds of LINES, SCORES ===== -/
/-- how much of the second is among the first -/
def cmL : List Ln → List Ln → Nat
  | _, [] => 0
  | X, q :: ys => if q ∈ X then q.length + cmL (X.erase q) ys else cmL X ys
theorem cmL_no {q : Ln} : ∀ (X Y : List Ln), q ∉ X → cmL (q :: Y) X = cmL Y X
  | [], _, _ => rfl
  | a :: X, Y, h => by
    have hne : a ≠ q := fun z => h (by rw [z]; exact List.mem_cons_self)
    have hq : q ∉ X := fun z => h (List.mem_cons_of_mem _ z)
    rw [cmL, cmL]
    by_cases c : a ∈ Y
    · rw [if_pos (List.mem_cons_of_mem _ c), if_pos c, List.erase_cons_tail (by simpa using Ne.symm hne), cmL_no X _ hq]
    · rw [if_neg (by rw [List.mem_cons]; rintro (z | z); exact hne z; exact c z), if_neg c, cmL_no X _ hq]
theorem cmL_yes {q : Ln} : ∀ (X Y : List Ln), q ∈ X → cmL (q :: Y) X = q.length + cmL Y (X.erase q)
  | [], _, h => absurd h (by simp)
  | a :: X, Y, h => by
    by_cases e : a = q
    · subst e
      rw [cmL, if_pos List.mem_cons_self, List.erase_cons_head, List.erase_cons_head]
    · have hq : q ∈ X := by
        rcases List.mem_cons.mp h with z | z
        · exact absurd z.symm e
        · exact z
      rw [List.erase_cons_tail (by simpa using e), cmL, cmL]
      by_cases c : a ∈ Y
      · rw [if_pos (List.mem_cons_of_mem _ c), if_pos c, List.erase_cons_tail (by simpa using Ne.symm e), cmL_yes X _ hq]
        omega
      · rw [if_neg (by rw [List.mem_cons]; rintro (z | z); exact e z; exact c z), if_neg c, cmL_yes X _ hq]
theorem cmL_nil : ∀ X : List Ln, cmL [] X = 0
  | [] => rfl
  | a :: X => by rw [cmL, if_neg (by simp), cmL_nil X]
theorem cmL_symm : ∀ (Y X : List Ln), cmL X Y = cmL Y X
  | [], X => by rw [cmL_nil]; rfl
  | q :: Y, X => by
    rw [cmL]
    by_cases c : q ∈ X
    · rw [if_pos c, cmL_yes X Y c, cmL_symm Y]
    · rw [if_neg c, cmL_no X Y c, cmL_symm Y]
theorem clen_cmL {T : List Ln} {kf : Ln → Nat} (hk : ∀ p ∈ T, ∀ q ∈ T, kf p = kf q → p = q) : ∀ (ys : List Ln) (w : Nat → Nat) (Z : List Ln), (∀ q ∈ T, w (kf q) = Z.count q) → (∀ q ∈ ys, q ∈ T) → clen kf w ys = cmL Z ys
  | [], _, _, _, _ => rfl
  | q :: ys, w, Z, h, hs => by
    have hq := hs q List.mem_cons_self
    rw [clen, cmL, h q hq]
    by_cases c : q ∈ Z
    · have hpos := List.count_pos_iff.mpr c
      rw [if_neg (by omega), if_pos c]
      congr 1
      refine clen_cmL hk ys _ _ (fun p hp => ?_) fun p hp => hs p (List.mem_cons_of_mem _ hp)
      by_cases e : p = q
      · subst e
        rw [if_pos rfl, h p hp, List.count_erase_self]
      · rw [if_neg (fun z => e (hk p hp q hq z)), h p hp, List.count_erase_of_ne e]
    · rw [if_pos (List.count_eq_zero.mpr c), if_neg c]
      exact clen_cmL hk ys w Z h fun p hp => hs p (List.mem_cons_of_mem _ hp)
theorem comL_cmL {B : List (List Int32)} {X Y : List Ln} (hX : ∀ q ∈ X, q ∈ tls B) (hY : ∀ q ∈ Y, q ∈ tls B) : comL B X Y = cmL X Y := by
  have hk : ∀ p ∈ tls B, ∀ q ∈ tls B, ix (tls B) p = ix (tls B) q → p = q := fun p hp q hq h => (ix_inj hp hq).mp h
  unfold comL
  refine clen_cmL hk Y _ _ (fun q hq => ?_) hY
  unfold kct
  induction X with
  | nil => rfl
  | cons a X ih =>
    rw [List.map_cons, List.count_cons, List.count_cons, ih fun p hp => hX p (List.mem_cons_of_mem _ hp)]
    congr 1
    by_cases e : a = q
    · subst e; simp
    · have : ix (tls B) a ≠ ix (tls B) q := fun z => e (hk a (hX a List.mem_cons_self) q hq z)
      simp [e, this]
/-- each LINE counts while the other has more of it than came before -/
def sS (Y : List Ln) : List Ln → List Ln → Nat
  | _, [] => 0
  | seen, q :: X => (if seen.count q < Y.count q then q.length else 0) + sS Y (seen ++ [q]) X
theorem sS_cmL {Y : List Ln} : ∀ (X seen Z : List Ln), (∀ q, Z.count q = Y.count q - seen.count q) → sS Y seen X = cmL Z X
  | [], _, _, _ => rfl
  | q :: X, seen, Z, h => by
    rw [sS, cmL]
    have hq := h q
    have hz := List.count_pos_iff (a := q) (l := Z)
    by_cases c : seen.count q < Y.count q
    · rw [if_pos c, if_pos (hz.mp (by omega))]
      congr 1
      refine sS_cmL X _ _ fun p => ?_
      rw [List.count_append]
      by_cases e : p = q
      · subst e
        rw [List.count_erase_self, hq]
        simp
        omega
      · rw [List.count_erase_of_ne e, h p]
        have : List.count p [q] = 0 := by simp [Ne.symm e]
        rw [this, Nat.add_zero]
    · rw [if_neg c, if_neg (fun z => by have := hz.mpr z; omega), Nat.zero_add]
      refine sS_cmL X _ _ fun p => ?_
      rw [List.count_append]
      by_cases e : p = q
      · subst e
        rw [hq]
        simp
        omega
      · have : List.count p [q] = 0 := by simp [Ne.symm e]
        rw [this, Nat.add_zero, h p]
theorem sS_le {Y : List Ln} : ∀ (X seen : List Ln), sS Y seen X ≤ sl X
  | [], _ => Nat.le_refl _
  | q :: X, seen => by
    have := sS_le (Y := Y) X (seen ++ [q])
    rw [sS, sl_cons]
    split <;> omega
section SM
variable {g : Gh} {σ : am_S} {F r r2 : Nat} {t u : List Int32} {th bm gv gm cm fm : Int32}
theorem Md_samebLoop {s n s2 : Nat} (h : Ro g σ r t) (h2 : Ro g σ r2 u) (hs : s + n ≤ t.length) (hs2 : s2 + n ≤ u.length) : ∀ (m k : Nat), k ≤ n → n - k < m → f_Md_sameb_l16 σ F r (nI s) (nI (s + n)) r2 (nI s2) m (nI k) = some (bo (decide (slB t (s + k) (s + n) = slB u (s2 + k) (s2 + n)))) := by
  have hl := Ro_len h
  have hl2 := Ro_len h2
  obtain ⟨a, f, N, e1, e2, e3, e4, e5⟩ := Ro_at h
  obtain ⟨a', f', N', d1, d2, d3, d4, d5⟩ := Ro_at h2
  have en : nI (s + n) - nI s = nI n := by rw [nI_sub (by omega)]; congr 1; omega
  intro m
  induction m with
  | zero => intro k _ hm; omega
  | succ m ih =>
    intro k hk hm
    rw [f_Md_sameb_l16, en]
    by_cases c : n ≤ k
    · have e : k = n := by omega
      rw [if_pos (nI_le c (by omega)), e, slB_nil, slB_nil]
      rfl
    · rw [if_neg (nI_ge (by omega) (by omega)), e1, Option.bind_some, nI_add, lI_of e2 (by omega) (by omega), Option.bind_some, d1, Option.bind_some, nI_add, lI_of d2 (by omega) (by omega), Option.bind_some, e5 (s + k) (by omega), d5 (s2 + k) (by omega), slB_cons (show s + k < s + n by omega) hs, slB_cons (show s2 + k < s2 + n by omega) hs2]
      by_cases e : t[s + k] = u[s2 + k]
      · rw [if_pos e, nI_1, ih (k + 1) (by omega) (by omega), e]
        simp only [List.cons.injEq, true_and, Nat.add_assoc]
      · rw [if_neg e, decide_eq_false]
        · rfl
        · intro z
          exact e (List.cons.inj z).1
theorem Md_sameb {s e s2 e2 : Nat} (h : Ro g σ r t) (h2 : Ro g σ r2 u) (hs : s ≤ e) (he : e ≤ t.length) (hs2 : s2 ≤ e2) (he2 : e2 ≤ u.length) (hF : 131072 < F) : f_Md_sameb F σ r (nI s) (nI e) r2 (nI s2) (nI e2) = some (bo (decide (slB t s e = slB u s2 e2))) := by
  have hl := Ro_len h
  have hl2 := Ro_len h2
  unfold f_Md_sameb
  rw [nI_sub hs, nI_sub hs2]
  simp only [nI_eq (show e - s < 2 ^ 31 by omega) (show e2 - s2 < 2 ^ 31 by omega)]
  by_cases c : e - s = e2 - s2
  · have := Md_samebLoop (F := F) (s := s) (n := e - s) (s2 := s2) h h2 (by omega) (by omega) F 0 (Nat.zero_le _) (by omega)
    rw [show s + (e - s) = e by omega, show s2 + (e - s) = e2 by omega, Nat.add_zero, Nat.add_zero] at this
    rw [if_pos c, ← nI_0, this]
  · rw [if_neg c, decide_eq_false]
    · rfl
    · intro z
      have := congrArg List.length z
      rw [slB_len he, slB_len he2] at this
      exact c this
/-- TEXTS cut into LINES -/
def LST (g : Gh) (σ : am_S) (n : Nat) (ts : Nat → List Int32) : Prop := TX3 g σ ts ∧ ∃ st ct, Ce g σ 136 (cI 606 st) ∧ Ce g σ 138 (cI 3 ct) ∧ ∀ j, j < n → LNS st ct j (ts j) ∧ rgh (ts j) = false
theorem LST.fo {T : Nat → Prop} {g1 : Gh} {σ1 : am_S} {n : Nat} {ts : Nat → List Int32} (h : LST g σ n ts) (hf : Fo T g σ g1 σ1) (hT : ∀ a, 129 ≤ a → a ≤ 136 ∨ a = 138 → ¬ T a) : LST g1 σ1 n ts := by
  obtain ⟨h1, st, ct, h2, h3, h4⟩ := h
  exact ⟨h1.fo hf fun a _ _ => hT a (by omega) (by omega), st, ct, h2.fo hf (hT _ (by omega) (by omega)), h3.fo hf (hT _ (by omega) (by omega)), h4⟩
theorem Md_start {n : Nat} {ts : Nat → List Int32} (hc : Ce g σ 95 (MDC th bm gv gm cm fm)) (h : LST g σ n ts) (hn : n ≤ 3) {j k : Nat} (hj : j < n) (hk : k ≤ (tln (ts j)).length) : f_Md_start F σ 95 (nI j) (nI k) = some (nI (sl ((tln (ts j)).take k))) := by
  have z := hc.1
  unfold MDC at z
  obtain ⟨h1, st, ct, h2, h3, h4⟩ := h
  obtain ⟨⟨-, l2⟩, hr⟩ := h4 j hj
  have hl := lcn_le (ts j)
  rw [← tln_len] at hl
  have e : 202 * nI j + nI k = nI (202 * j + k) := by
    have : 202 * nI j = nI (202 * j) := nI_mul 202 j
    rw [this, nI_add]
  unfold f_Md_start
  rw [am_ck_of z, gA_of z (by rfl), Option.bind_some, e, lI_of h2.1 (by omega) (by omega), Option.bind_some, l2 hr k hk]
theorem Md_cnt {n : Nat} {ts : Nat → List Int32} (h : LST g σ n ts) (hn : n ≤ 3) {j : Nat} (hj : j < n) : am_lI σ .int 138 (nI j) = some (nI (tln (ts j)).length) := by
  obtain ⟨h1, st, ct, h2, h3, h4⟩ := h
  obtain ⟨⟨l1, l2⟩, hr⟩ := h4 j hj
  rw [lI_of h3.1 (by omega) (by omega), l1, if_neg (by rw [hr]; decide)]
theorem slB_tln {t : List Int32} (h : rgh t = false) {k : Nat} (hk : k < (tln t).length) : slB t (sl ((tln t).take k)) (sl ((tln t).take (k + 1))) = (tln t)[k] := by
  have := slB_flat (B := tln t) hk
  rw [tln_flat h] at this
  exact this
theorem tln_sl {t : List Int32} (h : rgh t = false) (k : Nat) : sl ((tln t).take k) ≤ t.length := max_sl h k
theorem Md_sameLine {n : Nat} {ts : Nat → List Int32} (hc : Ce g σ 95 (MDC th bm gv gm cm fm)) (h : LST g σ n ts) (hn : n ≤ 3) {j k j' k' : Nat} (hj : j < n) (hk : k < (tln (ts j)).length) (hj' : j' < n) (hk' : k' < (tln (ts j')).length) (hF : 131072 < F) : f_Md_sameLine F σ 95 (nI j) (nI k) (nI j') (nI k') = some (bo (decide ((tln (ts j))[k] = (tln (ts j'))[k']))) := by
  have z := hc.1
  unfold MDC at z
  have hT := h.1
  obtain ⟨-, st, ct, -, -, h4⟩ := id h
  have r1 := (h4 j hj).2
  have r2 := (h4 j' hj').2
  have s1 := tln_sl r1 (k + 1)
  have s2 := tln_sl r2 (k' + 1)
  have u1 := sl_take_succ hk
  have u2 := sl_take_succ hk'
  have a8 : am_gA σ 10 8 95 = some 129 := gA_of z rfl
  unfold f_Md_sameLine
  rw [am_ck_of z]
  simp only [a8, hT.at (show j < 3 by omega), hT.at (show j' < 3 by omega), nI_1, Md_start hc h hn hj (Nat.le_of_lt hk), Md_start hc h hn hj (show k + 1 ≤ _ from hk), Md_start hc h hn hj' (Nat.le_of_lt hk'), Md_start hc h hn hj' (show k' + 1 ≤ _ from hk'), Option.bind_some]
  rw [Md_sameb (hT.2 j (by omega)) (hT.2 j' (by omega)) (by omega) s1 (by omega) s2 hF, Option.bind_some, slB_tln r1 hk, slB_tln r2 hk', if_pos (bo_or _)]
end SM
/-- the first place of a LINE -/
def fdL (X : List Ln) (q : Ln) : Option Nat := X.findIdx? fun l => decide (l = q)
def repF (X : Nat → List Ln) (q : Ln) : Nat → Nat → Option Nat
  | _, 0 => none
  | a, n + 1 => match fdL (X a) q with
    | some i => some (a * 200 + i)
    | none => repF X q (a + 1) n
theorem fdL_some {X : List Ln} {q : Ln} {i : Nat} (h : fdL X q = some i) : ∃ hi : i < X.length, X[i] = q := by
  unfold fdL at h
  rw [List.findIdx?_eq_some_iff_getElem] at h
  obtain ⟨h1, h2, -⟩ := h
  exact ⟨h1, of_decide_eq_true h2⟩
theorem fdL_mem {X : List Ln} {q : Ln} (h : q ∈ X) : ∃ i, fdL X q = some i := by
  cases hf : fdL X q with
  | some i => exact ⟨i, rfl⟩
  | none =>
    unfold fdL at hf
    rw [List.findIdx?_eq_none_iff] at hf
    have := hf q h
    simp at this
theorem repF_ok {X : Nat → List Ln} (hX : ∀ j, (X j).length ≤ 200) {q : Ln} : ∀ {n a c : Nat}, repF X q a n = some c → ∃ j i, a ≤ j ∧ j < a + n ∧ c = j * 200 + i ∧ ∃ hi : i < (X j).length, (X j)[i] = q
  | 0, _, _, h => by cases h
  | n + 1, a, c, h => by
    rw [repF] at h
    cases hf : fdL (X a) q with
    | some i =>
      rw [hf] at h
      cases h
      obtain ⟨hi, e⟩ := fdL_some hf
      exact ⟨a, i, by omega, by omega, rfl, hi, e⟩
    | none =>
      rw [hf] at h
      obtain ⟨j, i, h1, h2, h3⟩ := repF_ok hX h
      exact ⟨j, i, by omega, by omega, h3⟩
theorem repF_mem {X : Nat → List Ln} {q : Ln} : ∀ {n a j : Nat}, a ≤ j → j < a + n → q ∈ X j → ∃ c, repF X q a n = some c
  | 0, _, _, h1, h2, _ => by omega
  | n + 1, a, j, h1, h2, hq => by
    rw [repF]
    cases hf : fdL (X a) q with
    | some i => exact ⟨_, rfl⟩
    | none =>
      by_cases e : j = a
      · subst e
        obtain ⟨i, hi⟩ := fdL_mem hq
        rw [hf] at hi
        cases hi
      · exact repF_mem (by omega) (by omega) hq
/-- one number for one LINE -/
theorem repF_inj {X : Nat → List Ln} (hX : ∀ j, (X j).length ≤ 200) {p q : Ln} {n c : Nat} (hp : repF X p 0 n = some c) (hq : repF X q 0 n = some c) : p = q := by
  obtain ⟨j, i, h1, h2, h3, h4, h5⟩ := repF_ok hX hp
  obtain ⟨j', i', k1, k2, k3, k4, k5⟩ := repF_ok hX hq
  have l1 := hX j
  have l2 := hX j'
  have e : j = j' := by omega
  subst e
  have e : i = i' := by omega
  subst e
  rw [← h5, ← k5]
def rpN (X : Nat → List Ln) (n : Nat) (q : Ln) : Nat := (repF X q 0 n).getD 0
def KND (g : Gh) (σ : am_S) (n : Nat) (X : Nat → List Ln) : Prop := ∃ kd, Ce g σ 137 (cI 600 kd) ∧ ∀ j k (_ : j < n) (hk : k < (X j).length), kd (j * 200 + k) = nI (rpN X n (X j)[k])
theorem rpN_lt {X : Nat → List Ln} (hX : ∀ j, (X j).length ≤ 200) {n : Nat} (hn : n ≤ 3) (q : Ln) : rpN X n q < 600 := by
  unfold rpN
  cases h : repF X q 0 n with
  | none => simp
  | some c =>
    obtain ⟨j, i, h1, h2, h3, h4, h5⟩ := repF_ok hX h
    have := hX j
    simp only [Option.getD_some]
    omega
theorem rpN_eq {X : Nat → List Ln} (hX : ∀ j, (X j).length ≤ 200) {n j j' : Nat} (hn : n ≤ 3) {p q : Ln} (hj : j < n) (hp : p ∈ X j) (hj' : j' < n) (hq : q ∈ X j') : (nI (rpN X n p) = nI (rpN X n q)) ↔ p = q := by
  have l1 := rpN_lt hX hn p
  have l2 := rpN_lt hX hn q
  rw [nI_eq (by omega) (by omega)]
  constructor
  · intro h
    obtain ⟨c, hc⟩ := repF_mem (n := n) (a := 0) (Nat.zero_le j) (by omega) hp
    obtain ⟨d, hd⟩ := repF_mem (n := n) (a := 0) (Nat.zero_le j') (by omega) hq
    unfold rpN at h
    rw [hc, hd] at h
    simp only [Option.getD_some] at h
    subst h
    exact repF_inj hX hc hd
  · rintro rfl; rfl
