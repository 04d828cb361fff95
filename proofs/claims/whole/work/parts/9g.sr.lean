/-! ===== L3: the reference: the SCORE of two BLOBS ===== -/
def scr2 (a b : List Int32) : Nat := if rgh a || rgh b then 0 else if max a.length b.length = 0 then 0 else 1000 * cmL (tln a) (tln b) / max a.length b.length
theorem scr_2 {B : List (List Int32)} {x y : Nat} (hx : x < B.length) (hy : y < B.length) (hne : x ≠ y) : scr B x y = scr2 B[x] B[y] := by
  unfold scr scr2
  rw [if_neg hne, getD_of hx, getD_of hy, comL_cmL (fun q hq => tls_mem hx hq) (fun q hq => tls_mem hy hq)]
theorem SCA.m3 {T : Nat → Prop} {g g1 : Gh} {σ σ1 : am_S} (h : SCA g σ) (hf : Fo T g σ g1 σ1) (hT : ∀ a, T a → 129 ≤ a ∧ a ≤ 138) (h6 : ∃ f, Ce g1 σ1 136 (cI 606 f)) (h7 : ∃ f, Ce g1 σ1 137 (cI 600 f)) (h8 : ∃ f, Ce g1 σ1 138 (cI 3 f)) : SCA g1 σ1 := by
  intro a ty n ha
  by_cases e6 : a = 136
  · subst e6; cases ha; exact h6
  · by_cases e7 : a = 137
    · subst e7; cases ha; exact h7
    · by_cases e8 : a = 138
      · subst e8; cases ha; exact h8
      · obtain ⟨f, c⟩ := h a ty n ha
        have := scT_in ha
        exact ⟨f, c.fo hf fun z => by have := hT a z; omega⟩
abbrev SST : Nat → Prop := fun a => 129 ≤ a ∧ a ≤ 138
section SR
variable {g : Gh} {F : Nat} {ts : Nat → List Int32} {th bm gv gm cm fm : Int32}
theorem Md_sc79 {σ : am_S} {k : Nat} (hc : Ce g σ 95 (MDC th bm gv gm cm fm)) (hK : KND g σ 2 (fun x => tln (ts x))) (hk : k < (tln (ts 0)).length) {kk : Int32 → am_S → Option (Int32 × am_S)} : ∀ (m i c : Nat), i ≤ k → k - i < m → f_Md_score_l79 F 95 (nI k) kk m (nI c) (nI i) σ = kk (nI (c + (slc (tln (ts 0)) i k).count (tln (ts 0))[k])) σ := by
  have z := hc.1
  unfold MDC at z
  have a10 : am_gA σ 10 10 95 = some 137 := gA_of z rfl
  have hl := tlnL ts 0
  have ek : am_lI σ .int 137 (nI k) = some (nI (rpN (fun x => tln (ts x)) 2 (tln (ts 0))[k])) := by
    have := hK.at (tlnL ts) (by omega) (j := 0) (k := k) (by omega) hk
    rwa [Nat.zero_mul, Nat.zero_add] at this
  intro m
  induction m with
  | zero => intro i _ _ hm; omega
  | succ m ih =>
    intro i c hi hm
    rw [f_Md_score_l79]
    by_cases cc : k ≤ i
    · have e : i = k := by omega
      subst e
      rw [if_pos (nI_le cc (by omega))]
      have : slc (tln (ts 0)) i i = [] := by unfold slc; apply List.drop_of_length_le; simp; omega
      rw [this]
      rfl
    · have hi' : i < (tln (ts 0)).length := by omega
      have ei : am_lI σ .int 137 (nI i) = some (nI (rpN (fun x => tln (ts x)) 2 (tln (ts 0))[i])) := by
        have := hK.at (tlnL ts) (by omega) (j := 0) (k := i) (by omega) hi'
        rwa [Nat.zero_mul, Nat.zero_add] at this
      have es : slc (tln (ts 0)) i k = (tln (ts 0))[i] :: slc (tln (ts 0)) (i + 1) k := by
        unfold slc
        rw [List.drop_eq_getElem_cons (by simp; omega)]
        simp
      rw [if_neg (nI_ge (by omega) (by omega)), a10, Option.bind_some, ei, Option.bind_some, Option.bind_some, ek, Option.bind_some, es, List.count_cons]
      simp only [rpN_eq (X := fun x => tln (ts x)) (tlnL ts) (show 2 ≤ 3 by omega) (show 0 < 2 by omega) (List.getElem_mem hi') (show 0 < 2 by omega) (List.getElem_mem hk)]
      by_cases e : (tln (ts 0))[i] = (tln (ts 0))[k]
      · rw [if_pos e, nI_1, nI_1, ih (i + 1) (c + 1) (by omega) (by omega)]
        simp only [e, beq_self_eq_true, if_true]
        congr 2
        omega
      · rw [if_neg e, nI_1, ih (i + 1) c (by omega) (by omega)]
        simp [e]
theorem Md_sc62 {σ : am_S} (hc : Ce g σ 95 (MDC th bm gv gm cm fm)) (h : LST g σ 2 ts) (hK : KND g σ 2 (fun x => tln (ts x))) (hl0 : (ts 0).length ≤ 4096) {kk : Int32 → am_S → Option (Int32 × am_S)} (hF : 131072 < F) : ∀ (m k c : Nat), k ≤ (tln (ts 0)).length → c + sl ((tln (ts 0)).drop k) ≤ 4096 → (tln (ts 0)).length - k < m → f_Md_score_l62 F 95 kk m (nI c) (nI k) σ = kk (nI (c + sS (tln (ts 1)) ((tln (ts 0)).take k) ((tln (ts 0)).drop k))) σ := by
  have z := hc.1
  unfold MDC at z
  have a11 : am_gA σ 10 11 95 = some 138 := gA_of z rfl
  have a10 : am_gA σ 10 10 95 = some 137 := gA_of z rfl
  have hl := tlnL ts 0
  have hl1 := tlnL ts 1
  have n0 : nI 0 = 0 := rfl
  have n1 : nI 1 = 1 := rfl
  intro m
  induction m with
  | zero => intro k _ _ _ hm; omega
  | succ m ih =>
    intro k c hk hcl hm
    have cn := Md_cnt h (by omega) (j := 0) (by omega)
    rw [n0] at cn
    rw [f_Md_score_l62, a11, Option.bind_some, cn, Option.bind_some]
    by_cases cc : (tln (ts 0)).length ≤ k
    · rw [if_pos (nI_le cc (by omega)), List.drop_of_length_le cc]
      rfl
    · have hk' : k < (tln (ts 0)).length := by omega
      have hd : (tln (ts 0)).drop k = (tln (ts 0))[k] :: (tln (ts 0)).drop (k + 1) := List.drop_eq_getElem_cons hk'
      have hsl : sl ((tln (ts 0)).drop k) = (tln (ts 0))[k].length + sl ((tln (ts 0)).drop (k + 1)) := by rw [hd]; exact sl_cons _ _
      have e79 := Md_sc79 (F := F) hc hK hk' (kk := fun y5 τ => f_Md_score_j112 F 95 (nI c) (nI k) y5 (fun y3 y4 τ => f_Md_score_l62 F 95 kk m y3 y4 τ) τ) F 0 0 (Nat.zero_le _) (by omega)
      rw [n0] at e79
      have es : slc (tln (ts 0)) 0 k = (tln (ts 0)).take k := by simp [slc]
      rw [if_neg (nI_ge hk' (by omega)), e79, es, Nat.zero_add]
      unfold f_Md_score_j112
      have ek : am_lI σ .int 137 (nI k) = some (nI (rpN (fun x => tln (ts x)) 2 (tln (ts 0))[k])) := by
        have := hK.at (tlnL ts) (by omega) (j := 0) (k := k) (by omega) hk'
        rwa [Nat.zero_mul, Nat.zero_add] at this
      have em := Md_many (F := F) (by omega) hc h hK (j := 1) (j0 := 0) (by omega) (by omega) hk' hF
      rw [n1] at em
      have s1 := Md_start (F := F) hc h (by omega) (j := 0) (k := k) (by omega) (by omega)
      have s2 := Md_start (F := F) hc h (by omega) (j := 0) (k := k + 1) (by omega) (by omega)
      rw [n0] at s1 s2
      have c1 := List.count_le_length (a := (tln (ts 0))[k]) (l := tln (ts 1))
      have c2 := List.count_le_length (a := (tln (ts 0))[k]) (l := (tln (ts 0)).take k)
      rw [List.length_take] at c2
      have su := sl_take_succ hk'
      simp only [a10, ek, em, nI_1, s1, s2, Option.bind_some]
      rw [nI_sub (by omega), su, Nat.add_sub_cancel_left, nI_add]
      simp only [nI_leI (show (tln (ts 1)).count (tln (ts 0))[k] < 2 ^ 31 by omega) (show ((tln (ts 0)).take k).count (tln (ts 0))[k] < 2 ^ 31 by omega)]
      rw [hd, sS, ← List.take_succ_eq_append_getElem hk']
      by_cases e : (tln (ts 1)).count (tln (ts 0))[k] ≤ ((tln (ts 0)).take k).count (tln (ts 0))[k]
      · rw [if_pos e, if_neg (by omega), ih (k + 1) c (by omega) (by omega) (by omega), Nat.zero_add]
      · rw [if_neg e, if_pos (by omega), ih (k + 1) _ (by omega) (by omega) (by omega), Nat.add_assoc]
theorem Md_score {σ : am_S} {B : List (List Int32)} {x y : Nat} (hc : Ce g σ 95 (MDC th bm gv gm cm fm)) (hB : BLK g σ B) (hTx : TXA g σ) (hS : SCA g σ) (hx : x < B.length) (hy : y < B.length) (hl : ∀ t ∈ B, t.length ≤ 4096) (hF : 131072 < F) :
    ∃ g' σ', f_Md_score F σ 95 (nI x) (nI y) = some (nI (scr2 B[x] B[y]), σ') ∧ TXA g' σ' ∧ SCA g' σ' ∧ Fo SST g σ g' σ' := by
  obtain ⟨ts, hT⟩ := hTx.t3
  have lx := hl _ (List.getElem_mem hx)
  have ly := hl _ (List.getElem_mem hy)
  have n0 : nI 0 = 0 := rfl
  have n1 : nI 1 = 1 := rfl
  have n2 : nI 2 = 2 := rfl
  obtain ⟨g1, σ1, a1, a2, a3⟩ := Md_blobText (F := F) (b := some x) (j := 0) hc hB hT (by omega) (fun k hk => by cases hk; exact hx) hl hF
  have hc1 := hc.fo a3 (by omega)
  obtain ⟨g2, σ2, b1, b2, b3⟩ := Md_blobText (F := F) (b := some y) (j := 1) hc1 (hB.fo a3 (by omega) (by omega)) a2 (by omega) (fun k hk => by cases hk; exact hy) hl hF
  have hc2 := hc1.fo b3 (by omega)
  rw [bT_some hx] at b2
  rw [bT_some hy] at b2
  generalize hts : (fun i => if i = 1 then B[y] else if i = 0 then B[x] else ts i) = us at b2
  have u0 : us 0 = B[x] := by rw [← hts]; rfl
  have u1 : us 1 = B[y] := by rw [← hts]; rfl
  have W2 : Fo SST g σ g2 σ2 := (a3.mono fun a ha => ⟨by omega, by omega⟩).trans (b3.mono fun a ha => ⟨by omega, by omega⟩)
  have mid : ∀ a, (136 ≤ a ∧ a ≤ 138) → ∀ {x : am_C}, Ce g σ a x → Ce g2 σ2 a x := fun a ha x h => (h.fo a3 (by omega)).fo b3 (by omega)
  obtain ⟨st0, S0⟩ := hS 136 .int 606 rfl
  obtain ⟨kd0, K0⟩ := hS 137 .int 600 rfl
  obtain ⟨ct0, C0⟩ := hS 138 .int 3 rfl
  have S2 := mid 136 (by omega) S0
  have K2 := mid 137 (by omega) K0
  have C2 := mid 138 (by omega) C0
  obtain ⟨σ3, st3, ct3, c1, c2, c3, c4, c5, c6, c7⟩ := Md_cut (F := F) (x := 0) hc2 b2 (by omega) (by rw [u0]; omega) S2 C2 hF
  have hc3 := hc2.fo c7 (by omega)
  have T3 := b2.fo c7 fun a _ _ => by omega
  obtain ⟨σ4, st4, ct4, d1, d2, d3, d4, d5, d6, d7⟩ := Md_cut (F := F) (x := 1) hc3 T3 (by omega) (by rw [u1]; omega) c2 c3 hF
  have hc4 := hc3.fo d7 (by omega)
  have T4 := T3.fo d7 fun a _ _ => by omega
  have K4 := (K2.fo c7 (by omega)).fo d7 (by omega)
  have W4 : Fo SST g σ g2 σ4 := W2.trans ((c7.mono fun a ha => ⟨by omega, by omega⟩).trans (d7.mono fun a ha => ⟨by omega, by omega⟩))
  have L0 : LNS st4 ct4 0 (us 0) := c4.other (by omega) d5 d6
  have z := hc.1
  have z2 := hc1.1
  have z4 := hc4.1
  unfold MDC at z z2 z4
  have a11 : am_gA σ4 10 11 95 = some 138 := gA_of z4 rfl
  have t0 := hT.at (j := 0) (by omega)
  have t1 := a2.at (j := 1) (by omega)
  rw [n0] at t0 c1
  rw [n1] at t1 d1
  have l0 := lI_of d3.1 (i := 0) (by omega) (by omega)
  have l1 := lI_of d3.1 (i := 1) (by omega) (by omega)
  rw [n0] at l0
  rw [n1] at l1
  have v0 := L0.1
  have v1 := d4.1
  rw [u0] at v0
  rw [u1] at v1
  have start : f_Md_score F σ 95 (nI x) (nI y) = if ct4 0 ≤ 0 then some (0, σ4) else if 0 < ct4 1 then (f_Md_sort F σ4 95 2).bind fun σ13 => f_Md_score_l62 F 95 (fun y3 τ => f_Md_score_j155 F 95 y3 τ) F 0 0 σ13 else some (0, σ4) := by
    unfold f_Md_score
    rw [am_ck_of z, gA_of z (by rfl), Option.bind_some, t0, Option.bind_some]
    rw [oI_some] at a1 b1
    rw [show 130 + 2 * 0 = 130 from rfl] at a1
    rw [show 130 + 2 * 1 = 132 from rfl] at b1 t1
    rw [a1, Option.bind_some, gA_of z2 (by rfl), Option.bind_some, t1, Option.bind_some, b1, Option.bind_some, c1, Option.bind_some, d1, Option.bind_some, a11, Option.bind_some, l0, Option.bind_some, Option.bind_some, l1, Option.bind_some]
  rw [start]
  have zero : scr2 B[x] B[y] = 0 → ∃ g' σ', (some ((0 : Int32), σ4) : Option (Int32 × am_S)) = some (nI (scr2 B[x] B[y]), σ') ∧ TXA g' σ' ∧ SCA g' σ' ∧ Fo SST g σ g' σ' := by
    intro hz
    rw [hz]
    exact ⟨g2, σ4, rfl, T4.a, hS.m3 W4 (fun a ha => ha) ⟨_, d2⟩ ⟨_, K4⟩ ⟨_, d3⟩, W4⟩
  have tlx := tlnL us 0
  have tly := tlnL us 1
  rw [u0] at tlx
  rw [u1] at tly
  have hflat : ∀ t : List Int32, rgh t = false → (tln t).length = 0 → t = [] := fun t hr h0 => by
    have := tln_flat hr
    rw [List.length_eq_zero_iff.mp h0] at this
    exact this.symm
  cases hrx : rgh B[x] with
  | true =>
    rw [v0, hrx, if_pos rfl, if_pos (show (-1 : Int32) ≤ 0 by decide)]
    exact zero (by unfold scr2; rw [hrx]; rfl)
  | false =>
    rw [v0, hrx, if_neg Bool.false_ne_true]
    by_cases h0 : (tln B[x]).length = 0
    · rw [if_pos (show nI (tln B[x]).length ≤ 0 by rw [h0]; decide)]
      refine zero ?_
      unfold scr2
      have : tln B[x] = [] := List.length_eq_zero_iff.mp h0
      rw [this, cmL_nil]
      split
      · rfl
      · split <;> simp
    · rw [if_neg (nI_nle (by omega) (by omega))]
      cases hry : rgh B[y] with
      | true =>
        rw [v1, hry, if_pos rfl, if_neg (show ¬ (0 : Int32) < -1 by decide)]
        exact zero (by unfold scr2; rw [hry, Bool.or_true]; rfl)
      | false =>
        rw [v1, hry, if_neg Bool.false_ne_true]
        by_cases h1 : (tln B[y]).length = 0
        · rw [if_neg (show ¬ (0 : Int32) < nI (tln B[y]).length by rw [h1]; decide)]
          refine zero ?_
          unfold scr2
          have : tln B[y] = [] := List.length_eq_zero_iff.mp h1
          rw [this, cmL]
          split
          · rfl
          · split <;> simp
        · rw [if_pos (show (0 : Int32) < nI (tln B[y]).length from nI_lt (a := 0) (by omega) (by omega))]
          have HL : LST g2 σ4 2 us := ⟨T4, st4, ct4, d2, d3, fun j hj => by
            have : j = 0 ∨ j = 1 := by omega
            rcases this with rfl | rfl
            · exact ⟨L0, by rw [u0]; exact hrx⟩
            · exact ⟨d4, by rw [u1]; exact hry⟩⟩
          obtain ⟨σ5, e1, e2, e3⟩ := Md_sort (F := F) (n := 2) (by omega) hc4 HL K4 hF
          rw [n2] at e1
          have hc5 := hc4.fo e3 (by omega)
          have HL5 := HL.fo e3 fun a _ _ => by omega
          have hlen : sl (tln (us 0)) ≤ 4096 := by
            have h1 := sl_flat (tln (us 0))
            rw [u0, tln_flat hrx] at h1
            rw [u0]
            omega
          have e62 := Md_sc62 (F := F) hc5 HL5 e2 (by rw [u0]; exact lx) (kk := fun y3 τ => f_Md_score_j155 F 95 y3 τ) hF F 0 0 (Nat.zero_le _) (by rw [List.drop_zero]; omega) (by rw [u0]; omega)
          rw [n0, List.take_zero, List.drop_zero, Nat.zero_add, sS_cmL (tln (us 0)) [] (tln (us 1)) (fun q => by simp)] at e62
          rw [e1, Option.bind_some, e62]
          obtain ⟨σf, W5⟩ : ∃ w : Fo SST g σ g2 σ5, True := ⟨W4.trans (e3.mono fun a ha => ⟨by omega, by omega⟩), trivial⟩
          have z5 := hc5.1
          unfold MDC at z5
          have a8 : am_gA σ5 10 8 95 = some 129 := gA_of z5 rfl
          have T5 := HL5.1
          have q0 := T5.at (j := 0) (by omega)
          have q1 := T5.at (j := 1) (by omega)
          rw [n0] at q0
          rw [n1] at q1
          have r0 := Ro_n (T5.2 0 (by omega))
          have r1 := Ro_n (T5.2 1 (by omega))
          rw [u0] at r0
          rw [u1] at r1
          have hcm : cmL (tln (us 1)) (tln (us 0)) ≤ 4096 := by
            have := sS_le (Y := tln (us 1)) (tln (us 0)) []
            rw [sS_cmL (tln (us 0)) [] (tln (us 1)) (fun q => by simp)] at this
            omega
          have nex : 0 < B[x].length := by
            cases hb : B[x] with
            | nil => rw [hb] at h0; simp [tln_nil] at h0
            | cons a l => simp
          have ney : 0 < B[y].length := by
            cases hb : B[y] with
            | nil => rw [hb] at h1; simp [tln_nil] at h1
            | cons a l => simp
          have res : ∀ d : Nat, 0 < d → d ≤ 4096 → d = max B[x].length B[y].length → nI (cmL (tln (us 1)) (tln (us 0))) * 1000 / nI d = nI (scr2 B[x] B[y]) := by
            intro d hd0 hd1 hd
            rw [nI_mulL, nI_div (by show _ * 1000 < _; omega) (by omega) hd0]
            congr 1
            unfold scr2
            rw [hrx, hry, if_neg (by decide), if_neg (by omega), ← hd, cmL_symm, u0, u1, Nat.mul_comm]
          unfold f_Md_score_j155
          rw [show 130 + 2 * 0 = 130 from rfl] at q0 r0
          rw [show 130 + 2 * 1 = 132 from rfl] at q1 r1
          simp only [a8, q0, q1, r0, r1, Option.bind_some]
          simp only [nI_leI (show B[x].length < 2 ^ 31 by omega) (show B[y].length < 2 ^ 31 by omega)]
          have fin : ∃ g' σ', (some (nI (scr2 B[x] B[y]), σ5) : Option (Int32 × am_S)) = some (nI (scr2 B[x] B[y]), σ') ∧ TXA g' σ' ∧ SCA g' σ' ∧ Fo SST g σ g' σ' := by
            obtain ⟨kd, kc, -⟩ := e2
            exact ⟨g2, σ5, rfl, T5.a, hS.m3 σf (fun a ha => ha) ⟨_, d2.fo e3 (by omega)⟩ ⟨kd, kc⟩ ⟨_, d3.fo e3 (by omega)⟩, σf⟩
          by_cases cle : B[x].length ≤ B[y].length
          · rw [if_pos cle, if_neg (nI_ne0 ney (by omega)), res _ ney ly (by omega)]
            exact fin
          · rw [if_neg cle, if_neg (nI_ne0 nex (by omega)), res _ nex lx (by omega)]
            exact fin
end SR
