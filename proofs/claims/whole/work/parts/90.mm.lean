/-! ===== L3: MapMerger: what it holds; feed, end, put, drop, copy ===== -/
/-- ARGUMENTS, INPUT, BLOBS, MAPS, the latest OUTCOMES (PATHS with record numbers; records) -/
abbrev MSS : Type := List (List Int32) × List Int32 × List (List Int32) × (Nat → PL) × PL × List Rc
def upP (P : Nat → PL) (k : Nat) (X : PL) : Nat → PL := fun j => if j = k then X else P j
/-- the heap alone -/
def Fh (S : Nat → Prop) (σ σ' : am_S) : Prop := ∀ a, ¬ S a → σ'.2.2 a = σ.2.2 a
theorem Fr.h {S : Nat → Prop} {σ σ' : am_S} (h : Fr S σ σ') : Fh S σ σ' := h.2.2
theorem Fh.fr {S : Nat → Prop} {σ σ' : am_S} (h : Fh S σ σ') : Fr S σ (σ.1, σ.2.1, σ'.2.2) := ⟨rfl, rfl, h⟩
section FH
variable {σ σ' : am_S} {S : Nat → Prop}
theorem In.fh {o : Nat} {as : List (List Int32)} {inp : List Int32} (h : In σ o as inp) (hf : Fh S σ σ') (hd : ∀ a, o ≤ a → a < o + 3 → ¬ S a) : In σ' o as inp := by
  have z := h.fr hf.fr hd
  exact z
theorem Bl.fh {o : Nat} {B : List (List Int32)} (h : Bl σ o B) (hf : Fh S σ σ') (hd : ∀ a, o ≤ a → a ≤ o + 12 → ¬ S a) : Bl σ' o B := by
  have z := h.fr hf.fr hd
  exact z
theorem Wz.fh {o : Nat} (h : Wz σ o) (hf : Fh S σ σ') (hd : ¬ S (o + 12)) : Wz σ' o := by
  have z := h.fr hf.fr hd
  exact z
theorem Pm.fh {o : Nat} {P : PL} (h : Pm σ o P) (hf : Fh S σ σ') (hd : ∀ a, o ≤ a → a < o + 4 → ¬ S a) : Pm σ' o P := by
  have z := h.fr hf.fr hd
  exact z
theorem Rn.fh {o bl : Nat} (h : Rn σ o bl) (hf : Fh S σ σ') (hd : ∀ a, o ≤ a → a ≤ o + 6 → ¬ S a) : Rn σ' o bl := by
  have z := h.fr hf.fr hd
  exact z
theorem MgF.fh {o p0 p1 p2 bl lt sp : Nat} (h : MgF σ o p0 p1 p2 bl lt sp) (hf : Fh S σ σ') (hd : ∀ a, o ≤ a → a ≤ o + 27 → ¬ S a) : MgF σ' o p0 p1 p2 bl lt sp := by
  have z := h.fr hf.fr hd
  exact z
theorem Oc.fh {o bl : Nat} {Pl : PL} {L : List Rc} (h : Oc σ o bl Pl L) (hf : Fh S σ σ') (hd : ∀ a, o ≤ a → a ≤ o + 10 → ¬ S a) : Oc σ' o bl Pl L := by
  have z := h.fr hf.fr hd
  exact z
theorem MkS.fh (h : MkS σ) (hf : Fh S σ σ') (hd : ∀ a, a < 8 → ¬ S a) : MkS σ' := by
  have z := h.fr hf.fr hd
  exact z
end FH
def MMI (σ : am_S) (s : MSS) : Prop := 95 ≤ σ.1 ∧ σ.2.2 8 = some (cO 0 [.ref 9, .ref 12, .ref 25, .ref 38, .ref 45]) ∧ (∃ f : Nat → Value, σ.2.2 25 = some (.inl (.object (am_cn 4), 3, f)) ∧ ∀ j, j < 3 → f j = .ref (26 + 4 * j)) ∧ In σ 9 s.1 s.2.1 ∧ Bl σ 12 s.2.2.1 ∧ Wz σ 12 ∧ (∀ k, k < 3 → Pm σ (26 + 4 * k) (s.2.2.2.1 k)) ∧ Rn σ 38 12 ∧ (∃ lt sp, MgF σ 45 26 30 34 12 lt sp ∧ Oc σ lt 12 s.2.2.2.2.1 s.2.2.2.2.2 ∧ ∃ Pl' L', Oc σ sp 12 Pl' L') ∧ MkS σ
/-- every record of the OUTCOMES has its TEXT -/
def snOK (B : List (List Int32)) (Pl : PL) (L : List Rc) : Prop := ∀ i (hi : i < Pl.length), ∃ r, ∃ hr : r < L.length, ∃ b t, Pl[i].2 = nI r ∧ L[r].2.2.2.2 = some (b, t) ∧ ∀ k, b = some k → ∃ hk : k < B.length, B[k] = t
/-- no PATH beneath another -/
def nbn (P : PL) : Prop := ∀ i j (hi : i < P.length) (hj : j < P.length), ben P[i].1 P[j].1 = false
def MSW (s : MSS) : Prop := (∀ x ∈ s.1.flatten ++ s.2.1, am_i2b x = x) ∧ (∀ k, k < 3 → Srt (s.2.2.2.1 k) ∧ VB s.2.2.1 (s.2.2.2.1 k) ∧ nbn (s.2.2.2.1 k)) ∧ snOK s.2.2.1 s.2.2.2.2.1 s.2.2.2.2.2
/-- what a call of the class may change -/
def Cf (σ σ' : am_S) : Prop := σ.1 ≤ σ'.1 ∧ σ'.1 ≤ σ.1 + 1 ∧ σ.2.1 ≤ σ'.2.1 ∧ σ'.2.1 ≤ σ.2.1 + 6 ∧ ∀ a, a < σ.1 → (a < 8 ∨ 95 ≤ a) → σ'.2.2 a = σ.2.2 a
theorem Cf.of {σ σ' : am_S} {S : Nat → Prop} (h : Fr S σ σ') (hd : ∀ a, S a → 8 ≤ a ∧ a < 95) : Cf σ σ' :=
  ⟨by rw [h.1]; exact Nat.le_refl _, by rw [h.1]; omega, by rw [h.2.1]; exact Nat.le_refl _, by rw [h.2.1]; omega, fun a _ ha => h.2.2 a fun z => by have := hd a z; omega⟩
theorem Cf.refl (σ : am_S) : Cf σ σ := Cf.of (Fr.refl (fun _ => False) σ) fun _ z => z.elim
theorem Cf.nx {σ σ' : am_S} {S : Nat → Prop} (h : Fr S σ σ') (hd : ∀ a, S a → 8 ≤ a ∧ a < 95) (c : Nat) : Cf σ (am_nx σ' c) := by
  refine ⟨?_, ?_, ?_, ?_, fun a h1 h2 => ?_⟩
  · show σ.1 ≤ σ'.1 + 1; rw [h.1]; omega
  · show σ'.1 + 1 ≤ σ.1 + 1; rw [h.1]; omega
  · show σ.2.1 ≤ σ'.2.1 + 6; rw [h.2.1]; omega
  · show σ'.2.1 + 6 ≤ σ.2.1 + 6; rw [h.2.1]; omega
  · have e : (am_nx σ' c).2.2 a = σ'.2.2 a := new_ne (by rw [h.1]; omega)
    rw [e]
    exact h.2.2 a fun z => by have := hd a z; omega
theorem nx_fh (σ : am_S) (c : Nat) : Fh (fun a => σ.1 ≤ a) σ (am_nx σ c) := fun a ha => new_ne (by omega)
theorem MMI.fh {σ σ' : am_S} {s : MSS} {S : Nat → Prop} (h : MMI σ s) (hf : Fh S σ σ') (hd : ∀ a, a < 95 → ¬ S a) (hn : 95 ≤ σ'.1) : MMI σ' s := by
  obtain ⟨h0, h1, ⟨f, h2, h2'⟩, h3, h4, h5, h6, h7, ⟨lt, sp, h8, h9, Pl', L', h10⟩, h11⟩ := h
  have hls := h8.2.2.2.2.2.2.2.2.2
  exact ⟨hn, (hf 8 (hd _ (by omega))).trans h1, ⟨f, (hf 25 (hd _ (by omega))).trans h2, h2'⟩, h3.fh hf fun a _ _ => hd a (by omega), h4.fh hf fun a _ _ => hd a (by omega), h5.fh hf (hd _ (by omega)), fun k hk => (h6 k hk).fh hf fun a _ _ => hd a (by omega), h7.fh hf fun a _ _ => hd a (by omega), ⟨lt, sp, h8.fh hf fun a _ _ => hd a (by omega), h9.fh hf fun a _ _ => hd a (by omega), Pl', L', h10.fh hf fun a _ _ => hd a (by omega)⟩, h11.fh hf fun a _ => hd a (by omega)⟩
theorem MMI.nx {σ : am_S} {s : MSS} (h : MMI σ s) (c : Nat) : MMI (am_nx σ c) s := by
  have h0 := h.1
  exact h.fh (nx_fh σ c) (fun a ha z => by omega) (show 95 ≤ σ.1 + 1 by omega)
theorem nx_is (σ : am_S) (c d : Nat) : am_isx (am_nx σ c) d σ.1 = decide (c = d) := by
  have : (am_nx σ c).2.2 σ.1 = some (.inr (c, [])) := new_at
  unfold am_isx
  rw [this]
  rfl
theorem In_row {σ : am_S} {o : Nat} {as : List (List Int32)} {inp : List Int32} (h : In σ o as inp) : ∃ bs, σ.2.2 (o + 1) = some (cB 16384 bs) ∧ ∀ k (hk : k < as.length), sl (as.take k) + as[k].length ≤ 16384 ∧ sli bs (sl (as.take k)) as[k].length = as[k] := by
  obtain ⟨h1, h2, bs, es, ⟨h3, h4, h5⟩, h6, h7⟩ := h
  refine ⟨bs, h4, fun k hk => ⟨?_, ?_⟩⟩
  · have := sl_get_le hk
    omega
  · have hs : sli bs 0 (sl as) = as.flatten := by
      have := sli_of (f := bs) (s := 0) (l := as.flatten) fun j hj => by
        rw [Nat.zero_add]
        have hj' : j < sl as := by rw [← sl_flat]; exact hj
        have := h6 j (by omega)
        rwa [List.getElem?_append_left hj] at this
      rwa [sl_flat] at this
    have := flat_row hs hk
    rwa [Nat.zero_add] at this
section MB
variable {σ σ' : am_S} {s : MSS}
theorem MMI.inb {as : List (List Int32)} {inp : List Int32} (h : MMI σ s) (W : Fr (InS 9) σ σ') (hi : In σ' 9 as inp) : MMI σ' (as, inp, s.2.2) := by
  obtain ⟨h0, h1, ⟨f, g1, g2⟩, h3, h4, h5, h6, h7, ⟨lt, sp, m1, m2, Pl', L', m3⟩, h11⟩ := h
  have hls := m1.2.2.2.2.2.2.2.2.2
  exact ⟨by rw [W.1]; exact h0, W.at (by omega) h1, ⟨f, W.at (by omega) g1, g2⟩, hi, h4.fr W fun a _ _ => by omega, h5.fr W (by omega), fun k hk => (h6 k hk).fr W fun a _ _ => by omega, h7.fr W fun a _ _ => by omega, ⟨lt, sp, m1.fr W fun a _ _ => by omega, m2.fr W fun a _ _ => by omega, Pl', L', m3.fr W fun a _ _ => by omega⟩, h11.fr W fun a _ => by omega⟩
theorem MMI.map {k : Nat} {X : PL} (h : MMI σ s) (hk : k < 3) (W : Fr (PmS (26 + 4 * k)) σ σ') (hp : Pm σ' (26 + 4 * k) X) : MMI σ' (s.1, s.2.1, s.2.2.1, upP s.2.2.2.1 k X, s.2.2.2.2) := by
  obtain ⟨h0, h1, ⟨f, g1, g2⟩, h3, h4, h5, h6, h7, ⟨lt, sp, m1, m2, Pl', L', m3⟩, h11⟩ := h
  have hls := m1.2.2.2.2.2.2.2.2.2
  refine ⟨by rw [W.1]; exact h0, W.at (by omega) h1, ⟨f, W.at (by omega) g1, g2⟩, h3.fr W fun a _ _ => by omega, h4.fr W fun a _ _ => by omega, h5.fr W (by omega), fun j hj => ?_, h7.fr W fun a _ _ => by omega, ⟨lt, sp, m1.fr W fun a _ _ => by omega, m2.fr W fun a _ _ => by omega, Pl', L', m3.fr W fun a _ _ => by omega⟩, h11.fr W fun a _ => by omega⟩
  simp only [upP]
  by_cases e : j = k
  · subst e; rw [if_pos rfl]; exact hp
  · rw [if_neg e]; exact (h6 j hj).fr W fun a _ _ => by omega
theorem MMI.blo {B' : List (List Int32)} (h : MMI σ s) (W : Fr (BlS 12) σ σ') (hb : Bl σ' 12 B') (hw : Wz σ' 12) : MMI σ' (s.1, s.2.1, B', s.2.2.2) := by
  obtain ⟨h0, h1, ⟨f, g1, g2⟩, h3, h4, h5, h6, h7, ⟨lt, sp, m1, m2, Pl', L', m3⟩, h11⟩ := h
  have hls := m1.2.2.2.2.2.2.2.2.2
  exact ⟨by rw [W.1]; exact h0, W.at (by omega) h1, ⟨f, W.at (by omega) g1, g2⟩, h3.fr W fun a _ _ => by omega, hb, hw, fun k hk => (h6 k hk).fr W fun a _ _ => by omega, h7.fr W fun a _ _ => by omega, ⟨lt, sp, m1.fr W fun a _ _ => by omega, m2.fr W fun a _ _ => by omega, Pl', L', m3.fr W fun a _ _ => by omega⟩, h11.fr W fun a _ => by omega⟩
end MB
theorem c8 {σ : am_S} (h : σ.2.2 8 = some (cO 0 [.ref 9, .ref 12, .ref 25, .ref 38, .ref 45])) : am_gA σ 0 0 8 = some 9 ∧ am_gA σ 0 1 8 = some 12 ∧ am_gA σ 0 2 8 = some 25 ∧ am_gA σ 0 3 8 = some 38 ∧ am_gA σ 0 4 8 = some 45 := ⟨gA_of h rfl, gA_of h rfl, gA_of h rfl, gA_of h rfl, gA_of h rfl⟩
def opFeed (a b c d e : Int32) (s : MSS) : Int32 × Int32 × MSS := if sl s.1 + s.2.1.length + 20 ≤ 16384 then (0, 0, (s.1, s.2.1 ++ by4 a ++ by4 b ++ by4 c ++ by4 d ++ by4 e, s.2.2)) else (1, 0, s)
def opEnd (n : Int32) (s : MSS) : Int32 × Int32 × MSS := if n < 0 ∨ 19 < n ∨ ¬ n ≤ nI s.2.1.length then (1, 0, s) else (0, nI ((if s.1.length = 4 then s.1.drop 1 else s.1) ++ [s.2.1.take (s.2.1.length - n.toNatClampNeg)]).length, ((if s.1.length = 4 then s.1.drop 1 else s.1) ++ [s.2.1.take (s.2.1.length - n.toNatClampNeg)], [], s.2.2))
def isM (m : Int32) : Bool := decide (¬ m < 0) && decide (¬ 3 ≤ m)
def opPut (m : Int32) (s : MSS) : Int32 × Int32 × MSS := match s with
  | (as, inp, B, P, R) =>
    if (isM m && decide (as.length = 2) && okPath (as.getD 0 [])) = true then
      if ((fnd (P m.toNatClampNeg) (as.getD 0 [])).isSome || room (P m.toNatClampNeg) (as.getD 0 [])) = true then
        if ((bfnd B (as.getD 1 [])).isSome || bRoom B (as.getD 1 [])) = true then
          (0, nI ((bfnd B (as.getD 1 [])).getD B.length), ([], inp, bAdd B (as.getD 1 []), upP P m.toNatClampNeg (asgP (P m.toNatClampNeg) (as.getD 0 []) (nI ((bfnd B (as.getD 1 [])).getD B.length))), R))
        else (2, 0, ([], inp, B, P, R))
      else (2, 0, ([], inp, B, P, R))
    else (1, 0, ([], inp, B, P, R))
def opDrop (m : Int32) (s : MSS) : Int32 × Int32 × MSS := match s with
  | (as, inp, B, P, R) =>
    if (isM m && decide (as.length = 1) && okPath (as.getD 0 [])) = true then
      match fnd (P m.toNatClampNeg) (as.getD 0 []) with
      | some i => (0, 0, ([], inp, B, upP P m.toNatClampNeg (delP (P m.toNatClampNeg) i), R))
      | none => (2, 0, ([], inp, B, P, R))
    else (1, 0, ([], inp, B, P, R))
def opCopy (a b : Int32) (s : MSS) : Int32 × Int32 × MSS := match s with
  | (as, inp, B, P, R) => if (isM a && isM b && decide (as.length = 0)) = true then (0, 0, ([], inp, B, upP P b.toNatClampNeg (P a.toNatClampNeg), R)) else (1, 0, ([], inp, B, P, R))
/-- what a call of the class leaves, with its answer -/
def Bx (bx : Nat) (σ σ' : am_S) (thr ans : Int32) : Prop := σ.1 ≤ σ'.1 ∧ σ'.1 ≤ σ.1 + 1 ∧ σ.2.1 ≤ σ'.2.1 ∧ σ'.2.1 ≤ σ.2.1 + 6 ∧ (∀ a, a < σ.1 → (a < 8 ∨ 95 ≤ a) → a ≠ bx → σ'.2.2 a = σ.2.2 a) ∧ (∃ f : Nat → Value, σ'.2.2 bx = some (.inl (.long, 1, f)) ∧ (thr = 0 → f 0 = .long ans.toInt64))
theorem sL_put {σ : am_S} {bx : Nat} {f : Nat → Value} {v : Int32} (hx : σ.2.2 bx = some (.inl (.long, 1, f))) (h8 : 8 ≤ bx) : ∃ σ', am_sL σ bx 0 v.toInt64 = some σ' ∧ (∃ f' : Nat → Value, σ'.2.2 bx = some (.inl (.long, 1, f')) ∧ f' 0 = .long v.toInt64) ∧ Fr (fun a => a = bx) σ σ' := by
  have e : am_sL σ bx 0 v.toInt64 = some (am_put σ bx (.inl (.long, 1, updV f (0 : Int32).toNatClampNeg (.long v.toInt64)))) := by
    unfold am_sL am_st
    rw [hx]
    simp only
    rw [if_pos ⟨by trivial, h8, by decide, by decide⟩]
  rw [e]
  refine ⟨_, rfl, ⟨_, put_at _ _ _, ?_⟩, (Fr.refl (fun a => a = bx) _).p rfl⟩
  have : (0 : Int32).toNatClampNeg = 0 := by decide
  rw [this]
  simp [updV]
theorem Bx.ok {bx : Nat} {σ σ1 σ' : am_S} {S : Nat → Prop} {v : Int32} (hbx : bx < σ.1) (W : Fr S σ σ1) (hd : ∀ a, S a → 8 ≤ a ∧ a < 95) (w : Fr (fun a => a = bx) σ1 σ') (hb : ∃ f' : Nat → Value, σ'.2.2 bx = some (.inl (.long, 1, f')) ∧ f' 0 = .long v.toInt64) : Bx bx σ σ' 0 v := by
  obtain ⟨f', h1, h2⟩ := hb
  refine ⟨by rw [w.1, W.1]; exact Nat.le_refl _, by rw [w.1, W.1]; omega, by rw [w.2.1, W.2.1]; exact Nat.le_refl _, by rw [w.2.1, W.2.1]; omega, fun a h3 h4 h5 => ?_, f', h1, fun _ => h2⟩
  rw [w.2.2 a h5, W.2.2 a fun z => by have := hd a z; omega]
theorem Bx.nx {bx : Nat} {σ σ' : am_S} {S : Nat → Prop} {f : Nat → Value} {thr ans : Int32} (hbx : bx < σ.1) (hx : σ.2.2 bx = some (.inl (.long, 1, f))) (h : Fr S σ σ') (hd : ∀ a, S a → 8 ≤ a ∧ a < 95) (c : Nat) (ht : ¬ thr = 0) (hb : 95 ≤ bx := by omega) : Bx bx σ (am_nx σ' c) thr ans := by
  obtain ⟨c1, c2, c3, c4, c5⟩ := Cf.nx h hd c
  exact ⟨c1, c2, c3, c4, fun a h1 h2 _ => c5 a h1 h2, f, (c5 bx hbx (by omega)).trans hx, fun z => absurd z ht⟩
section MC
variable {σ : am_S} {F : Nat} {s : MSS}
theorem MM_isMap (m : Int32) : f_MM_isMap F σ m = some (bo (isM m)) := by
  unfold f_MM_isMap isM
  by_cases h1 : m < 0
  · rw [if_pos h1]; simp [h1]; rfl
  · rw [if_neg h1]
    by_cases h2 : 3 ≤ m
    · rw [if_pos h2]; simp [h2]; rfl
    · rw [if_neg h2]; simp [h1, h2]; rfl
theorem isM_lt {m : Int32} (h : isM m = true) : ∃ k, k < 3 ∧ m = nI k ∧ m.toNatClampNeg = k := by
  unfold isM at h
  simp only [Bool.and_eq_true, decide_eq_true_eq] at h
  obtain ⟨j, hj, rfl⟩ := nI_of h.1
  refine ⟨j, ?_, rfl, nI_clamp hj⟩
  by_cases c : j < 3
  · exact c
  · exact absurd (nI_le (a := 3) (by omega) hj) h.2
theorem MM_map (h : MMI σ s) {k : Nat} (hk : k < 3) : am_lA σ 4 25 (nI k) = some (26 + 4 * k) := by
  obtain ⟨-, -, ⟨f, h2, h2'⟩, -⟩ := h
  exact lA_of h2 hk (by omega) (h2' k hk)
theorem Lw_feed (h : MMI σ s) (a b c d e : Int32) (hF : 5 ≤ F) : ∃ σ', f_Lw_feed F σ 8 a b c d e = some ((opFeed a b c d e s).1, σ') ∧ MMI σ' (opFeed a b c d e s).2.2 ∧ Cf σ σ' := by
  have hh := h
  obtain ⟨h0, h1, h2, h3, h4, h5, h6, h7, h8, h11⟩ := h
  have hr := In_hasRoom (F := F) h3
  unfold f_Lw_feed f_MM_feed opFeed
  rw [am_ck_of h1, gA_of h1 (by rfl), Option.bind_some, hr, Option.bind_some]
  by_cases hc : sl s.1 + s.2.1.length + 20 ≤ 16384
  · rw [if_pos hc, if_pos hc, if_neg (by decide)]
    obtain ⟨σ1, q1, i1, f1⟩ := In_add (F := F) (v := a) hF h3 (by omega) (by omega)
    obtain ⟨σ2, q2, i2, f2⟩ := In_add (F := F) (v := b) hF i1 (by omega) (by simp [by4]; omega)
    obtain ⟨σ3, q3, i3, f3⟩ := In_add (F := F) (v := c) hF i2 (by omega) (by simp [by4]; omega)
    obtain ⟨σ4, q4, i4, f4⟩ := In_add (F := F) (v := d) hF i3 (by omega) (by simp [by4]; omega)
    obtain ⟨σ5, q5, i5, f5⟩ := In_add (F := F) (v := e) hF i4 (by omega) (by simp [by4]; omega)
    have k1 := f1.at (a := 8) (by omega) h1
    have k2 := f2.at (a := 8) (by omega) k1
    have k3 := f3.at (a := 8) (by omega) k2
    have k4 := f4.at (a := 8) (by omega) k3
    have W : Fr (InS 9) σ σ5 := (((f1.trans f2).trans f3).trans f4).trans f5
    refine ⟨σ5, ?_, ?_, Cf.of W fun a ha => by omega⟩
    · simp only [q1, q2, q3, q4, q5, (c8 k1).1, (c8 k2).1, (c8 k3).1, (c8 k4).1, Option.bind_some, am_bt, am_btf]
    · exact hh.inb W i5
  · rw [if_neg hc, if_neg hc, if_pos (by decide)]
    refine ⟨am_nx σ 14, ?_, hh.nx 14, Cf.nx (Fr.refl (fun _ => False) σ) (fun _ z => z.elim) 14⟩
    simp only [am_bt, am_btf, Option.bind_some]
    rw [nx_is]
    rfl
theorem Lw_end (h : MMI σ s) {bx : Nat} {f : Nat → Value} (hb : 95 ≤ bx) (hbx : bx < σ.1) (hx : σ.2.2 bx = some (.inl (.long, 1, f))) (n : Int32) (hF : 5 ≤ F) : ∃ σ', f_Lw_end F σ 8 n bx = some ((opEnd n s).1, σ') ∧ MMI σ' (opEnd n s).2.2 ∧ Bx bx σ σ' (opEnd n s).1 (opEnd n s).2.1 := by
  have hh := h
  obtain ⟨h0, h1, h2, h3, h4, h5, h6, h7, h8, h11⟩ := h
  have hln := In_len (F := F) h3
  have hi2 : s.2.1.length ≤ 16384 := by have := h3.2.1; omega
  have bad : (opEnd n s) = (1, 0, s) → ∃ σ', (am_bt (some ((.inl σ.1 : Nat ⊕ Int32), am_nx σ 13)) (fun a1 σ2 => if am_isx σ2 13 a1 = true then some ((1 : Int32), σ2) else none) fun v3 σ4 => (am_sL σ4 bx 0 (v3.toInt64)).bind fun σ5 => some (0, σ5)) = some ((opEnd n s).1, σ') ∧ MMI σ' (opEnd n s).2.2 ∧ Bx bx σ σ' (opEnd n s).1 (opEnd n s).2.1 := by
    intro e
    rw [e]
    refine ⟨am_nx σ 13, ?_, hh.nx 13, Bx.nx hbx hx (Fr.refl (fun _ => False) σ) (fun _ z => z.elim) 13 (show ¬ (1 : Int32) = 0 by decide)⟩
    simp only [am_bt, am_btf, Option.bind_some]
    rw [nx_is]
    rfl
  unfold f_Lw_end f_MM_end
  rw [am_ck_of h1]
  by_cases c1 : n < 0
  · rw [if_pos c1]
    exact bad (by unfold opEnd; rw [if_pos (Or.inl c1)])
  · rw [if_neg c1]
    by_cases c2 : 19 < n
    · rw [if_pos c2]
      exact bad (by unfold opEnd; rw [if_pos (Or.inr (Or.inl c2))])
    · rw [if_neg c2, (c8 h1).1, Option.bind_some, hln, Option.bind_some]
      by_cases c3 : n ≤ nI s.2.1.length
      · rw [if_pos c3]
        obtain ⟨k, hk, rfl⟩ := nI_of c1
        have hk2 : k ≤ s.2.1.length := (nI_leI hk (by omega)).mp c3
        have eo : opEnd (nI k) s = (0, nI ((if s.1.length = 4 then s.1.drop 1 else s.1) ++ [s.2.1.take (s.2.1.length - k)]).length, ((if s.1.length = 4 then s.1.drop 1 else s.1) ++ [s.2.1.take (s.2.1.length - k)], [], s.2.2)) := by
          unfold opEnd
          rw [if_neg (by rintro (z | z | z); exact c1 z; exact c2 z; exact z c3), nI_clamp hk]
        rw [eo]
        obtain ⟨σ1, q1, i1, f1⟩ := In_cut (F := F) h3 (by omega) hk2
        obtain ⟨σ2, q2, i2, f2⟩ := In_make (F := F) hF i1 (by omega)
        have k1 := f1.at (a := 8) (by omega) h1
        have k2 := f2.at (a := 8) (by omega) k1
        have W := f1.trans f2
        have hc := In_count (F := F) i2
        obtain ⟨σ3, e3, b3, w3⟩ := sL_put (v := (nI ((if s.1.length = 4 then s.1.drop 1 else s.1) ++ [s.2.1.take (s.2.1.length - k)]).length)) (W.at (a := bx) (by omega) hx) (by omega)
        refine ⟨σ3, ?_, (hh.inb W i2).fh w3.h (fun a ha z => by omega) (by rw [w3.1, W.1]; exact h0), Bx.ok hbx W (fun a ha => by omega) w3 b3⟩
        simp only [q1, q2, (c8 h1).1, (c8 k1).1, (c8 k2).1, hc, Option.bind_some, am_bt, am_btf]
        rw [e3, Option.bind_some]
      · rw [if_neg c3]
        exact bad (by unfold opEnd; rw [if_pos (Or.inr (Or.inr c3))])
end MC
