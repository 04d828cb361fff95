/-! ===== L3: the reference's Paths: reads ===== -/
section PS
variable {F p p2 r : Nat} {g g2 : Gh} {σ : am_S} {Q Q2 : List Pe} {u : List Int32}
theorem Ps_ob (h : Ps g σ p Q) : σ.2.2 p = some (cO 11 [.ref (p + 1), .ref (p + 3), .ref (p + 4), .ref (p + 5), .int (nI Q.length)]) ∧ Q.length < 1700 := by
  obtain ⟨fr, bl, un, h1, h2, h3, h4, h5, h8, h9, -⟩ := h
  exact ⟨h1.1, h9⟩
theorem Ps_n (h : Ps g σ p Q) : am_gI σ 11 4 p = some (nI Q.length) := gI_of (Ps_ob h).1 rfl
theorem Ps_fr (h : Ps g σ p Q) : ∃ fr, am_gA σ 11 1 p = some (p + 3) ∧ σ.2.2 (p + 3) = some (cI 1700 fr) ∧ ∀ k, k ≤ Q.length → fr k = nI (sl ((pts Q).take k)) := by
  obtain ⟨fr, bl, un, h1, h2, h3, h4, h5, h8, h9, h10, h11⟩ := h
  exact ⟨fr, gA_of h1.1 rfl, h3.1, h10⟩
theorem Ps_from (h : Ps g σ p Q) {k : Nat} (hk : k ≤ Q.length) : (am_gA σ 11 1 p) = some (p + 3) ∧ am_lI σ .int (p + 3) (nI k) = some (nI (sl ((pts Q).take k))) := by
  have hl := (Ps_ob h).2
  obtain ⟨fr, e1, e2, e3⟩ := Ps_fr h
  refine ⟨e1, ?_⟩
  rw [lI_of e2 (by omega) (by omega), e3 k hk]
theorem pts_succ {k : Nat} (hk : k < Q.length) : sl ((pts Q).take (k + 1)) = sl ((pts Q).take k) + Q[k].1.length := by
  rw [sl_take_succ (by rw [pts_len]; exact hk), pts_get hk]
theorem Ps_row (h : Ps g σ p Q) : Ro g σ (p + 1) (pts Q).flatten := by
  obtain ⟨fr, bl, un, h1, h2, -⟩ := h
  exact h2
theorem Ps_len (h : Ps g σ p Q) {k : Nat} (hk : k < Q.length) : f_Ps_length F σ p (nI k) = some (nI Q[k].1.length) := by
  have hl := (Ps_ob h).2
  obtain ⟨e1, e2⟩ := Ps_from h (k := k) (by omega)
  obtain ⟨-, e3⟩ := Ps_from h (k := k + 1) (by omega)
  have := pts_succ hk
  unfold f_Ps_length
  rw [am_ck_of (Ps_ob h).1, e1, Option.bind_some, nI_1, e3, Option.bind_some, Option.bind_some, e2, Option.bind_some, nI_sub (by omega), this, Nat.add_sub_cancel_left]
theorem Ps_lenle (h : Ps g σ p Q) {k : Nat} (hk : k < Q.length) : sl ((pts Q).take k) + Q[k].1.length ≤ 131072 := by
  have h1 := Ro_len (Ps_row h)
  rw [sl_flat] at h1
  have h2 := pts_succ hk
  have h3 := sl_take_le (pts Q) (k + 1)
  omega
theorem Ps_isB (h : Ps g σ p Q) {k : Nat} (hk : k < Q.length) : isB Q[k].1 := by
  have h1 := Ps_lenle h hk
  refine ⟨by omega, fun x hx => ?_⟩
  obtain ⟨a, f, -, -, -, -, -, -, -, z, -⟩ := Ps_row h
  refine z x ?_
  rw [List.mem_flatten]
  exact ⟨Q[k].1, by rw [← pts_get hk]; exact List.getElem_mem _, hx⟩
theorem Ps_byte (h : Ps g σ p Q) {k j : Nat} (hk : k < Q.length) (hj : j < Q[k].1.length) : f_Ro_get F σ (p + 1) (nI (sl ((pts Q).take k)) + nI j) = some (Q[k].1[j] &&& 255) := by
  have hg := flat_get (Q := pts Q) (k := k) (j := j) (by rw [pts_len]; exact hk) (by rw [pts_get hk]; exact hj)
  obtain ⟨hlt, hg2⟩ := List.getElem?_eq_some_iff.mp hg
  rw [nI_add, Ro_get (Ps_row h) hlt, hg2]
  simp only [pts_get hk]
theorem take_succ_eq {p q : List Int32} {k : Nat} (h1 : k < p.length) (h2 : k < q.length) (h : p.take k = q.take k) (he : p[k] = q[k]) : p.take (k + 1) = q.take (k + 1) := by
  rw [List.take_succ_eq_append_getElem h1, List.take_succ_eq_append_getElem h2, h, he]
theorem Ps_cmpLoop {i j : Nat} (h : Ps g σ p Q) (h2 : Ps g2 σ p2 Q2) (hi : i < Q.length) (hj : j < Q2.length) : ∀ (m k : Nat), k ≤ Q[i].1.length → k ≤ Q2[j].1.length → Q[i].1.take k = Q2[j].1.take k → Q[i].1.length - k < m →
    f_Ps_comparea_l17 σ F p (nI i) p2 (nI j) (nI Q[i].1.length) (nI Q2[j].1.length) m (nI k) = some (cmpV Q[i].1 Q2[j].1) := by
  have l1 := Ps_lenle h hi
  have l2 := Ps_lenle h2 hj
  have b1 := Ps_isB h hi
  have b2 := Ps_isB h2 hj
  intro m
  induction m with
  | zero => intro k _ _ _ hm; omega
  | succ m ih =>
    intro k k1 k2 he hm
    rw [f_Ps_comparea_l17]
    by_cases c1 : Q[i].1.length ≤ k
    · rw [if_pos (nI_le c1 (by omega)), cmpV_end he (Or.inl c1) k1 k2]
    · rw [if_neg (nI_ge (by omega) (by omega))]
      by_cases c2 : Q2[j].1.length ≤ k
      · rw [if_pos (nI_le c2 (by omega)), cmpV_end he (Or.inr c2) k1 k2]
      · rw [if_neg (nI_ge (by omega) (by omega))]
        have k1' : k < Q[i].1.length := by omega
        have k2' : k < Q2[j].1.length := by omega
        obtain ⟨e1, e2⟩ := Ps_from h (k := i) (by omega)
        obtain ⟨e3, e4⟩ := Ps_from h2 (k := j) (by omega)
        have g1 : am_gA σ 11 0 p = some (p + 1) := gA_of (Ps_ob h).1 rfl
        have g2' : am_gA σ 11 0 p2 = some (p2 + 1) := gA_of (Ps_ob h2).1 rfl
        simp only [g1, g2', e1, e2, e3, e4, Ps_byte h hi k1', Ps_byte h2 hj k2', Option.bind_some]
        by_cases hc : (Q[i].1[k] &&& 255) = (Q2[j].1[k] &&& 255)
        · rw [if_pos hc, nI_1]
          have := byte_inj (b1.mem k1') (b2.mem k2') hc
          exact ih (k + 1) (by omega) (by omega) (take_succ_eq k1' k2' he this) (by omega)
        · rw [if_neg hc, cmpV_step b1 b2 k k1' k2' he hc]
theorem Ps_cmp {i j : Nat} (h : Ps g σ p Q) (h2 : Ps g2 σ p2 Q2) (hi : i < Q.length) (hj : j < Q2.length) (hF : 131072 < F) : f_Ps_comparea F σ p (nI i) p2 (nI j) = some (cmpV Q[i].1 Q2[j].1) := by
  have l1 := Ps_lenle h hi
  unfold f_Ps_comparea
  rw [am_ck_of (Ps_ob h).1, Ps_len h hi, Option.bind_some, Ps_len h2 hj, Option.bind_some]
  exact Ps_cmpLoop h h2 hi hj F 0 (by omega) (by omega) rfl (by omega)
theorem Ps_cmpbLoop {i : Nat} (h : Ps g σ p Q) (h2 : Ro g2 σ r u) (hu : isB u) (hi : i < Q.length) : ∀ (m k : Nat), k ≤ Q[i].1.length → k ≤ u.length → Q[i].1.take k = u.take k → Q[i].1.length - k < m →
    f_Ps_compareb_l9 σ F p (nI i) r (nI Q[i].1.length) m (nI k) = some (cmpV Q[i].1 u) := by
  have l1 := Ps_lenle h hi
  have l2 := Ro_len h2
  have b1 := Ps_isB h hi
  have hn := Ro_n h2
  intro m
  induction m with
  | zero => intro k _ _ _ hm; omega
  | succ m ih =>
    intro k k1 k2 he hm
    rw [f_Ps_compareb_l9, hn, Option.bind_some, Option.bind_some]
    by_cases c1 : Q[i].1.length ≤ k
    · rw [if_pos (nI_le c1 (by omega)), cmpV_end he (Or.inl c1) k1 k2]
    · rw [if_neg (nI_ge (by omega) (by omega))]
      by_cases c2 : u.length ≤ k
      · rw [if_pos (nI_le c2 (by omega)), cmpV_end he (Or.inr c2) k1 k2]
      · rw [if_neg (nI_ge (by omega) (by omega))]
        have k1' : k < Q[i].1.length := by omega
        have k2' : k < u.length := by omega
        obtain ⟨e1, e2⟩ := Ps_from h (k := i) (by omega)
        have g1 : am_gA σ 11 0 p = some (p + 1) := gA_of (Ps_ob h).1 rfl
        simp only [g1, e1, e2, Ps_byte h hi k1', Ro_get h2 k2', Option.bind_some]
        by_cases hc : (Q[i].1[k] &&& 255) = (u[k] &&& 255)
        · rw [if_pos hc, nI_1]
          have := byte_inj (b1.mem k1') (hu.mem k2') hc
          exact ih (k + 1) (by omega) (by omega) (take_succ_eq k1' k2' he this) (by omega)
        · rw [if_neg hc, cmpV_step b1 hu k k1' k2' he hc]
theorem Ps_cmpb {i : Nat} (h : Ps g σ p Q) (h2 : Ro g2 σ r u) (hu : isB u) (hi : i < Q.length) (hF : 131072 < F) : f_Ps_compareb F σ p (nI i) r = some (cmpV Q[i].1 u) := by
  have l1 := Ps_lenle h hi
  unfold f_Ps_compareb
  rw [am_ck_of (Ps_ob h).1, Ps_len h hi, Option.bind_some]
  exact Ps_cmpbLoop h h2 hu hi F 0 (by omega) (by omega) rfl (by omega)
/-- the first with this PATH -/
def pfd (Q : List Pe) (q : List Int32) : Option Nat := Q.findIdx? fun e => decide (e.1 = q)
theorem pfd_drop {q : List Int32} {k : Nat} (hk : k < Q.length) : ((Q.drop k).findIdx? fun e => decide (e.1 = q)).map (k + ·) = if Q[k].1 = q then some k else ((Q.drop (k + 1)).findIdx? fun e => decide (e.1 = q)).map (k + 1 + ·) := by
  rw [List.drop_eq_getElem_cons hk, List.findIdx?_cons]
  by_cases c : Q[k].1 = q
  · simp [c]
  · simp only [c, decide_false, Bool.false_eq_true, if_false]
    rw [Option.map_map]
    congr 1
    funext x
    simp only [Function.comp]
    omega
theorem Ps_findbLoop {j : Nat} (h : Ps g σ p Q) (h2 : Ps g2 σ p2 Q2) (hj : j < Q2.length) (hF : 131072 < F) : ∀ (m k : Nat), k ≤ Q.length → Q.length - k < m → f_Ps_findb_l2 σ F p p2 (nI j) m (nI k) = some (oI (((Q.drop k).findIdx? fun e => decide (e.1 = Q2[j].1)).map (k + ·))) := by
  have hl := (Ps_ob h).2
  intro m
  induction m with
  | zero => intro k _ hm; omega
  | succ m ih =>
    intro k hk hm
    rw [f_Ps_findb_l2, Ps_n h, Option.bind_some]
    by_cases c : Q.length ≤ k
    · rw [if_pos (nI_le c (by omega)), List.drop_of_length_le c]
      rfl
    · have hk' : k < Q.length := by omega
      rw [if_neg (nI_ge hk' (by omega)), Ps_cmp h h2 hk' hj hF, Option.bind_some, pfd_drop hk']
      simp only [cmp0 (Ps_isB h hk') (Ps_isB h2 hj)]
      by_cases e : Q[k].1 = Q2[j].1
      · rw [if_pos e, if_pos e]; rfl
      · rw [if_neg e, if_neg e, nI_1, ih (k + 1) (by omega) (by omega)]
theorem Ps_findb {j : Nat} (h : Ps g σ p Q) (h2 : Ps g2 σ p2 Q2) (hj : j < Q2.length) (hF : 131072 < F) : f_Ps_findb F σ p p2 (nI j) = some (oI (pfd Q Q2[j].1)) := by
  have hl := (Ps_ob h).2
  have := Ps_findbLoop (F := F) h h2 hj hF F 0 (Nat.zero_le _) (by omega)
  unfold f_Ps_findb
  rw [am_ck_of (Ps_ob h).1, ← nI_0, this]
  simp [pfd]
theorem Ps_findaLoop (h : Ps g σ p Q) (h2 : Ro g2 σ r u) (hu : isB u) (hF : 131072 < F) : ∀ (m k : Nat), k ≤ Q.length → Q.length - k < m → f_Ps_finda_l2 σ F p r m (nI k) = some (oI (((Q.drop k).findIdx? fun e => decide (e.1 = u)).map (k + ·))) := by
  have hl := (Ps_ob h).2
  intro m
  induction m with
  | zero => intro k _ hm; omega
  | succ m ih =>
    intro k hk hm
    rw [f_Ps_finda_l2, Ps_n h, Option.bind_some]
    by_cases c : Q.length ≤ k
    · rw [if_pos (nI_le c (by omega)), List.drop_of_length_le c]
      rfl
    · have hk' : k < Q.length := by omega
      rw [if_neg (nI_ge hk' (by omega)), Ps_cmpb h h2 hu hk' hF, Option.bind_some, pfd_drop hk']
      simp only [cmp0 (Ps_isB h hk') hu]
      by_cases e : Q[k].1 = u
      · rw [if_pos e, if_pos e]; rfl
      · rw [if_neg e, if_neg e, nI_1, ih (k + 1) (by omega) (by omega)]
theorem Ps_finda (h : Ps g σ p Q) (h2 : Ro g2 σ r u) (hu : isB u) (hF : 131072 < F) : f_Ps_finda F σ p r = some (oI (pfd Q u)) := by
  have hl := (Ps_ob h).2
  have := Ps_findaLoop (F := F) h h2 hu hF F 0 (Nat.zero_le _) (by omega)
  unfold f_Ps_finda
  rw [am_ck_of (Ps_ob h).1, ← nI_0, this]
  simp [pfd]
/-- p is q or beneath it -/
def unB (p q : List Int32) : Bool := decide (q.length ≤ p.length ∧ p.take q.length = q ∧ (p.length = q.length ∨ p[q.length]? = some 47))
theorem Ps_underLoop {i j : Nat} {kk : Option Int32} (h : Ps g σ p Q) (h2 : Ps g2 σ p2 Q2) (hi : i < Q.length) (hj : j < Q2.length) (hle : Q2[j].1.length ≤ Q[i].1.length) : ∀ (m k : Nat), k ≤ Q2[j].1.length → Q[i].1.take k = Q2[j].1.take k → Q2[j].1.length - k < m →
    f_Ps_under_l22 σ F p (nI i) p2 (nI j) (nI Q2[j].1.length) kk m (nI k) = if Q[i].1.take Q2[j].1.length = Q2[j].1 then kk else some 0 := by
  have l1 := Ps_lenle h hi
  have l2 := Ps_lenle h2 hj
  have b1 := Ps_isB h hi
  have b2 := Ps_isB h2 hj
  intro m
  induction m with
  | zero => intro k _ _ hm; omega
  | succ m ih =>
    intro k k2 he hm
    rw [f_Ps_under_l22]
    by_cases c2 : Q2[j].1.length ≤ k
    · have ek : k = Q2[j].1.length := by omega
      rw [if_pos (nI_le c2 (by omega))]
      subst ek
      rw [List.take_length] at he
      rw [if_pos he]
    · rw [if_neg (nI_ge (by omega) (by omega))]
      have k1' : k < Q[i].1.length := by omega
      have k2' : k < Q2[j].1.length := by omega
      obtain ⟨e1, e2⟩ := Ps_from h (k := i) (by omega)
      obtain ⟨e3, e4⟩ := Ps_from h2 (k := j) (by omega)
      have g1 : am_gA σ 11 0 p = some (p + 1) := gA_of (Ps_ob h).1 rfl
      have g2' : am_gA σ 11 0 p2 = some (p2 + 1) := gA_of (Ps_ob h2).1 rfl
      simp only [g1, g2', e1, e2, e3, e4, Ps_byte h hi k1', Ps_byte h2 hj k2', Option.bind_some]
      by_cases hc : (Q[i].1[k] &&& 255) = (Q2[j].1[k] &&& 255)
      · rw [if_pos hc, nI_1]
        have := byte_inj (b1.mem k1') (b2.mem k2') hc
        exact ih (k + 1) (by omega) (take_succ_eq k1' k2' he this) (by omega)
      · rw [if_neg hc, if_neg]
        intro z
        apply hc
        have : (Q[i].1.take Q2[j].1.length)[k]? = Q2[j].1[k]? := by rw [z]
        rw [List.getElem?_take_of_lt k2', List.getElem?_eq_getElem k1', List.getElem?_eq_getElem k2'] at this
        rw [Option.some.inj this]
theorem Ps_under {i j : Nat} (h : Ps g σ p Q) (h2 : Ps g2 σ p2 Q2) (hi : i < Q.length) (hj : j < Q2.length) (hF : 131072 < F) : f_Ps_under F σ p (nI i) p2 (nI j) = some (bo (unB Q[i].1 Q2[j].1)) := by
  have l1 := Ps_lenle h hi
  have l2 := Ps_lenle h2 hj
  have b1 := Ps_isB h hi
  unfold f_Ps_under unB
  rw [am_ck_of (Ps_ob h).1, Ps_len h2 hj, Option.bind_some, Ps_len h hi, Option.bind_some]
  by_cases c : Q2[j].1.length ≤ Q[i].1.length
  · rw [if_pos (nI_le c (by omega)), ← nI_0, Ps_underLoop h h2 hi hj c F 0 (by omega) rfl (by omega)]
    by_cases c2 : Q[i].1.take Q2[j].1.length = Q2[j].1
    · rw [if_pos c2]
      unfold f_Ps_under_j72 f_Ps_under_j103
      rw [Ps_len h hi, Option.bind_some]
      simp only [nI_eq (show Q[i].1.length < 2 ^ 31 by omega) (show Q2[j].1.length < 2 ^ 31 by omega)]
      by_cases c3 : Q[i].1.length = Q2[j].1.length
      · rw [if_pos c3, decide_eq_true ⟨c, c2, Or.inl c3⟩]; rfl
      · rw [if_neg c3]
        have hlt : Q2[j].1.length < Q[i].1.length := by omega
        obtain ⟨e1, e2⟩ := Ps_from h (k := i) (by omega)
        have g1 : am_gA σ 11 0 p = some (p + 1) := gA_of (Ps_ob h).1 rfl
        simp only [g1, e1, e2, Ps_byte h hi hlt, Option.bind_some, and47 (b1.mem hlt)]
        by_cases c4 : Q[i].1[Q2[j].1.length] = 47
        · rw [if_pos c4, decide_eq_true ⟨c, c2, Or.inr (by rw [List.getElem?_eq_getElem hlt, c4])⟩]; rfl
        · rw [if_neg c4, decide_eq_false]
          · rfl
          · rintro ⟨-, -, z | z⟩
            · exact c3 z
            · rw [List.getElem?_eq_getElem hlt] at z
              exact c4 (Option.some.inj z)
    · rw [if_neg c2, decide_eq_false (fun z => c2 z.2.1)]; rfl
  · rw [if_neg (nI_ge (by omega) (by omega)), decide_eq_false (fun z => c z.1)]; rfl
def fiR (Q : List Pe) (i k n : Nat) : Bool := (List.range' k n).all fun j => decide (i = j) || !unB (pts Q)[i]! (pts Q)[j]!
def fiA (Q : List Pe) (k n : Nat) : Bool := (List.range' k n).all fun i => fiR Q i 0 Q.length
def fiB (Q : List Pe) : Bool := decide (Q.length ≤ 400) && decide (sl (pts Q) ≤ 8192) && fiA Q 0 Q.length
theorem pts_bang {k : Nat} (h : k < Q.length) : (pts Q)[k]! = Q[k].1 := by
  have : k < (pts Q).length := by rw [pts_len]; exact h
  rw [List.getElem!_eq_getElem?_getD, List.getElem?_eq_getElem this, Option.getD_some, pts_get h]
theorem Ps_fitRow {i : Nat} {kk : Option Int32} (h : Ps g σ p Q) (hi : i < Q.length) (hF : 131072 < F) : ∀ (m k : Nat), k ≤ Q.length → Q.length - k < m → f_Ps_fits_l37 σ F p (nI i) kk m (nI k) = if fiR Q i k (Q.length - k) = true then kk else some 0 := by
  have hl := (Ps_ob h).2
  intro m
  induction m with
  | zero => intro k _ hm; omega
  | succ m ih =>
    intro k hk hm
    rw [f_Ps_fits_l37, Ps_n h, Option.bind_some]
    by_cases c : Q.length ≤ k
    · rw [if_pos (nI_le c (by omega)), show Q.length - k = 0 by omega, if_pos (show fiR Q i k 0 = true from rfl)]
    · have hk' : k < Q.length := by omega
      rw [if_neg (nI_ge hk' (by omega))]
      obtain ⟨d, hd⟩ : ∃ d, Q.length - k = d + 1 := ⟨Q.length - k - 1, by omega⟩
      have ih' := ih (k + 1) (by omega) (by omega)
      rw [show Q.length - (k + 1) = d by omega] at ih'
      have er : fiR Q i k (d + 1) = ((decide (i = k) || !unB Q[i].1 Q[k].1) && fiR Q i (k + 1) d) := by
        unfold fiR
        rw [List.range'_succ, List.all_cons, pts_bang hi, pts_bang hk']
      rw [hd, er]
      simp only [nI_eq (show i < 2 ^ 31 by omega) (show k < 2 ^ 31 by omega)]
      by_cases e : i = k
      · rw [if_pos e, nI_1, ih']
        simp [e]
      · rw [if_neg e, Ps_under h h hi hk' hF, Option.bind_some]
        simp only [bo_0]
        cases hu : unB Q[i].1 Q[k].1 with
        | false => rw [if_pos rfl, nI_1, ih']; simp
        | true => rw [if_neg (by decide)]; simp [e]
theorem Ps_fitLoop (h : Ps g σ p Q) (hF : 131072 < F) : ∀ (m k : Nat), k ≤ Q.length → Q.length - k < m → f_Ps_fits_l27 σ F p m (nI k) = some (bo (fiA Q k (Q.length - k))) := by
  have hl := (Ps_ob h).2
  intro m
  induction m with
  | zero => intro k _ hm; omega
  | succ m ih =>
    intro k hk hm
    rw [f_Ps_fits_l27, Ps_n h, Option.bind_some]
    by_cases c : Q.length ≤ k
    · rw [if_pos (nI_le c (by omega)), show Q.length - k = 0 by omega]
      rfl
    · have hk' : k < Q.length := by omega
      obtain ⟨d, hd⟩ : ∃ d, Q.length - k = d + 1 := ⟨Q.length - k - 1, by omega⟩
      have ih' := ih (k + 1) (by omega) (by omega)
      rw [show Q.length - (k + 1) = d by omega] at ih'
      rw [if_neg (nI_ge hk' (by omega)), ← nI_0, Ps_fitRow h hk' hF F 0 (by omega) (by omega), Nat.sub_zero]
      unfold f_Ps_fits_j68
      simp only [nI_1, ih', hd]
      have er : fiA Q k (d + 1) = (fiR Q k 0 Q.length && fiA Q (k + 1) d) := by
        unfold fiA
        rw [List.range'_succ, List.all_cons]
      rw [er]
      cases fiR Q k 0 Q.length with
      | true => rw [if_pos rfl, Bool.true_and]
      | false => rw [if_neg Bool.false_ne_true]; rfl
theorem Ps_fits (h : Ps g σ p Q) (hF : 131072 < F) : f_Ps_fits F σ p = some (bo (fiB Q)) := by
  have hl := (Ps_ob h).2
  have hrow := Ps_row h
  have hrl := Ro_len hrow
  have hrn := Ro_n hrow
  rw [sl_flat] at hrl hrn
  have g1 : am_gA σ 11 0 p = some (p + 1) := gA_of (Ps_ob h).1 rfl
  have e4 : ((400 : Int32) < nI Q.length) ↔ 400 < Q.length := nI_ltI (a := 400) (by omega) (by omega)
  have e8 : (nI (sl (pts Q)) ≤ (8192 : Int32)) ↔ sl (pts Q) ≤ 8192 := nI_leI (b := 8192) (by omega) (by omega)
  unfold f_Ps_fits fiB
  rw [am_ck_of (Ps_ob h).1, Ps_n h, Option.bind_some]
  simp only [e4]
  by_cases c1 : 400 < Q.length
  · rw [if_pos c1, decide_eq_false (by omega)]; rfl
  · rw [if_neg c1, g1, Option.bind_some, hrn, Option.bind_some, decide_eq_true (show Q.length ≤ 400 by omega)]
    simp only [e8]
    by_cases c2 : sl (pts Q) ≤ 8192
    · rw [if_pos c2, ← nI_0, Ps_fitLoop h hF F 0 (by omega) (by omega), decide_eq_true c2, Nat.sub_zero]
      rfl
    · rw [if_neg c2, decide_eq_false c2]; rfl
end PS
