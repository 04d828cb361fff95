/-! ===== L3: the law's runs ===== -/
theorem lgc_self (x : Int64) : lg_cmp x x = 0 := by
  unfold lg_cmp
  rw [if_neg (Int64.lt_irrefl), if_pos rfl]
theorem lL_of {σ : am_S} {bx : Nat} {f : Nat → Value} {v : Int64} (h : σ.2.2 bx = some (.inl (.long, 1, f))) (hv : f 0 = .long v) : am_lL σ bx 0 = some v := by
  have h1 : ¬ (0 : Int32) < 0 := by decide
  have h2 : (0 : Int32).toNatClampNeg = 0 := by decide
  unfold am_lL am_ld
  rw [h]
  simp [h2, hv]
/-- what a call of the class leaves -/
def CB (σ σ' : am_S) : Prop := σ.1 ≤ σ'.1 ∧ σ'.1 ≤ σ.1 + 1 ∧ σ.2.1 ≤ σ'.2.1 ∧ σ'.2.1 ≤ σ.2.1 + 6 ∧ (∀ a, a < σ.1 → (a < 8 ∨ 95 ≤ a) → a ≠ 186 → σ'.2.2 a = σ.2.2 a) ∧ ∃ f : Nat → Value, σ'.2.2 186 = some (.inl (.long, 1, f))
def LI (L : Nat) (xs : Nat → Int32) (g : Gh) (σ : am_S) (s : MSS) (k : Nat) : Prop := MMI σ s ∧ (∃ th, MDI g σ th s) ∧ MSW s ∧ σ.2.2 0 = some (.inl (.int, L, fun j => .int (xs j))) ∧ (∃ f : Nat → Value, σ.2.2 186 = some (.inl (.long, 1, f))) ∧ σ.2.1 + 2 * csum g0.2 ≤ 621792 + 2 * csum g.2 + 6 * k ∧ 16 * σ.1 + 621792 ≤ 16 * 187 + σ.2.1 + 16 * k
section LW
variable {L : Nat} {xs : Nat → Int32} {g : Gh} {σ σ' : am_S} {s : MSS} {k : Nat}
theorem Bx.cb {thr ans : Int32} (h : Bx 186 σ σ' thr ans) : CB σ σ' := by
  obtain ⟨h1, h2, h3, h4, h5, f, h6, -⟩ := h
  exact ⟨h1, h2, h3, h4, fun a ha hb hc => h5 a ha hb hc, f, h6⟩
theorem Cf.cb (h : Cf σ σ') {f : Nat → Value} (hx : σ.2.2 186 = some (.inl (.long, 1, f))) (hl : 186 < σ.1) : CB σ σ' := by
  obtain ⟨h1, h2, h3, h4, h5⟩ := h
  exact ⟨h1, h2, h3, h4, fun a ha hb _ => h5 a ha hb, f, (h5 186 hl (by omega)).trans hx⟩
theorem CB.refl {f : Nat → Value} (hx : σ.2.2 186 = some (.inl (.long, 1, f))) : CB σ σ := ⟨Nat.le_refl _, by omega, Nat.le_refl _, by omega, fun _ _ _ _ => rfl, f, hx⟩
/-- the reference between the class's call and its own -/
theorem LI.mid {th : Int32} (hD : MDI g σ th s) (h : CB σ σ') : MDI g σ' th s := by
  obtain ⟨hg, hX⟩ : gW g σ ∧ MDX g σ th s := hD
  obtain ⟨h1, h2, h3, h4, h5, h6⟩ := h
  have hs := hg.1
  have hf : Fw (fun a => (8 ≤ a ∧ a < 95) ∨ a = 186) g σ σ' := ⟨h1, fun a ha hT => by
    by_cases c : a < 95 ∨ a = 186
    · rw [hg.2 a c] at hT
      exact h5 a ha (by omega) (by omega)
    · exact h5 a ha (by omega) (by omega)⟩
  have : gW g σ' ∧ MDX g σ' th s := ⟨⟨by omega, hg.2⟩, hX.fw (fun a ha => hg.2 a (by omega)) (by omega) hf (fun a ha => by omega)⟩
  exact this
/-- after both -/
theorem LI.next {g2 : Gh} {σ2 : am_S} {s2 : MSS} {th th2 : Int32} (hI : LI L xs g σ s k) (hC : CB σ σ') (hM : MMI σ' s2) (hw : MSW s2) (hD' : MDI g σ' th s) (hD : MDI g2 σ2 th2 s2) (hf : Fo MT g σ' g2 σ2) : LI L xs g2 σ2 s2 (k + 1) ∧ σ2.2.2 186 = σ'.2.2 186 := by
  obtain ⟨-, -, -, i4, -, i6, i7⟩ := hI
  obtain ⟨h1, h2, h3, h4, h5, f, h6⟩ := hC
  have hg := hD'.1
  have hs := hg.1
  have low : ∀ a, a < 95 ∨ a = 186 → σ2.2.2 a = σ'.2.2 a := fun a ha => hf.2.2.1 a (by omega) (by rw [hg.2 a ha]; omega)
  have hFh : Fh (fun a => 95 ≤ a) σ' σ2 := fun a ha => low a (by omega)
  have hs2 := hf.1
  obtain ⟨-, -, -, -, f5, f6⟩ := hf
  refine ⟨⟨hM.fh hFh (fun a ha => by omega) (by omega), ⟨_, hD⟩, hw, (low 0 (by omega)).trans ((h5 0 (by omega) (by omega) (by omega)).trans i4), ⟨f, (low 186 (by omega)).trans h6⟩, by omega, by omega⟩, low 186 (by omega)⟩
theorem LI.thrown {F : Nat} {th : Int32} (hD : MDI g σ th s) : f_Md_thrown F σ 95 = some th := by
  obtain ⟨gm, cm, fm, h⟩ := hD.2.2.1
  exact Md_thrown h
/-- words of the script -/
theorem LI.word (h : σ.2.2 0 = some (.inl (.int, L, fun j => .int (xs j)))) {p : Nat} (hp : p < L) (hL : L ≤ 3072) : am_lI σ .int 0 (nI p) = some (xs p) := lI_of h hp (by omega)
theorem CB.word (hI : LI L xs g σ s k) (hC : CB σ σ') (hl : 187 ≤ σ.1) : σ'.2.2 0 = some (.inl (.int, L, fun j => .int (xs j))) := (hC.2.2.2.2.1 0 (by omega) (by omega) (by omega)).trans hI.2.2.2.1
/-- a call that answers with a number -/
theorem LI.num {F : Nat} {thr ans v : Int32} {g2 : Gh} {σ2 : am_S} {s2 : MSS} {K : am_S → Option (Int32 × am_S)} (hI : LI L xs g σ s k) (hB : Bx 186 σ σ' thr ans) (hM : MMI σ' s2) (hw : MSW s2) {th : Int32} (hD' : MDI g σ' th s) (hD : MDI g2 σ2 thr s2) (hf : Fo MT g σ' g2 σ2) (hv : thr = 0 → v = ans) : LI L xs g2 σ2 s2 (k + 1) ∧ ((f_Md_thrown F σ2 95).bind fun v29 => if v29 = thr then (if thr = 0 then (am_lL σ2 186 0).bind fun v30 => if lg_cmp v30 v.toInt64 = 0 then K σ2 else some (0, σ2) else K σ2) else some (0, σ2)) = K σ2 := by
  obtain ⟨n1, n2⟩ := LI.next hI hB.cb hM hw hD' hD hf
  refine ⟨n1, ?_⟩
  rw [LI.thrown hD, Option.bind_some, if_pos rfl]
  by_cases c : thr = 0
  · obtain ⟨-, -, -, -, -, f, b1, b2⟩ := hB
    rw [if_pos c, lL_of (n2.trans b1) (b2 c), Option.bind_some, hv c, lgc_self, if_pos rfl]
  · rw [if_neg c]
/-- a call that answers with nothing -/
theorem LI.void {F : Nat} {thr : Int32} {g2 : Gh} {σ2 : am_S} {s2 : MSS} {K : am_S → Option (Int32 × am_S)} (hI : LI L xs g σ s k) (hC : CB σ σ') (hM : MMI σ' s2) (hw : MSW s2) {th : Int32} (hD' : MDI g σ' th s) (hD : MDI g2 σ2 thr s2) (hf : Fo MT g σ' g2 σ2) : LI L xs g2 σ2 s2 (k + 1) ∧ ((f_Md_thrown F σ2 95).bind fun v29 => if v29 = thr then K σ2 else some (0, σ2)) = K σ2 := by
  obtain ⟨n1, n2⟩ := LI.next hI hC hM hw hD' hD hf
  refine ⟨n1, ?_⟩
  rw [LI.thrown hD, Option.bind_some, if_pos rfl]
end LW
theorem law_loop {L : Nat} {xs : Nat → Int32} {F : Nat} (hL : L ≤ 3072) (hF : 200000 ≤ F) : ∀ (m k : Nat) (g : Gh) (σ : am_S) (s : MSS), LI L xs g σ s k → 6 * k ≤ 3072 → 600 < m + k → ∃ g' σ' s' k', f_Lw_law_l23 F 0 8 95 186 m (nI (6 * k)) σ = some (1, σ') ∧ LI L xs g' σ' s' k' ∧ k' ≤ 513 := by
  intro m
  induction m with
  | zero => intro k _ _ _ _ h1 h2; omega
  | succ m ih =>
    intro k g σ s hI hk hm
    have hI' := id hI
    obtain ⟨hM, ⟨th, hD⟩, hw, hz0, ⟨f, hbx⟩, -, -⟩ := hI
    have hs := hD.1.1
    have hz := hM.sz
    have hsx := hM.sx hw
    have len : am_len σ 0 = some (nI L) := by
      unfold am_len
      rw [hz0]
      rfl
    rw [f_Lw_law_l23, len, Option.bind_some]
    have hcond : (nI L - 6 < nI (6 * k)) ↔ L < 6 * k + 6 := by
      by_cases c : 6 ≤ L
      · have e : nI L - 6 = nI (L - 6) := nI_sub (b := 6) c
        rw [e, nI_ltI (by omega) (by omega)]
        omega
      · constructor
        · intro _; omega
        · intro _
          have h1 : nI L - nI 6 < 0 := (nI_sub_neg (by omega) (by omega)).mpr (by omega)
          exact Int32.lt_of_lt_of_le h1 (nI_pos' (by omega))
    by_cases c : L < 6 * k + 6
    · rw [if_pos (hcond.mpr c)]
      exact ⟨g, σ, s, k, rfl, hI', by omega⟩
    · rw [if_neg (fun z => c (hcond.mp z))]
      have w0 := LI.word hz0 (p := 6 * k) (by omega) hL
      have w1 : am_lI σ .int 0 (nI (6 * k) + 1) = some (xs (6 * k + 1)) := by rw [nI_1]; exact LI.word hz0 (by omega) hL
      have w2 : am_lI σ .int 0 (nI (6 * k) + 2) = some (xs (6 * k + 2)) := by rw [nI_addL]; exact LI.word hz0 (by omega) hL
      have w3 : am_lI σ .int 0 (nI (6 * k) + 3) = some (xs (6 * k + 3)) := by rw [nI_addL]; exact LI.word hz0 (by omega) hL
      have w4 : am_lI σ .int 0 (nI (6 * k) + 4) = some (xs (6 * k + 4)) := by rw [nI_addL]; exact LI.word hz0 (by omega) hL
      have w5 : am_lI σ .int 0 (nI (6 * k) + 5) = some (xs (6 * k + 5)) := by rw [nI_addL]; exact LI.word hz0 (by omega) hL
      have x6 : nI (6 * k) + 6 = nI (6 * (k + 1)) := by rw [nI_addL]; rfl
      have y : ∀ {σ1 : am_S}, CB σ σ1 → am_lI σ1 .int 0 (nI (6 * k) + 1) = some (xs (6 * k + 1)) ∧ am_lI σ1 .int 0 (nI (6 * k) + 2) = some (xs (6 * k + 2)) ∧ am_lI σ1 .int 0 (nI (6 * k) + 3) = some (xs (6 * k + 3)) ∧ am_lI σ1 .int 0 (nI (6 * k) + 4) = some (xs (6 * k + 4)) ∧ am_lI σ1 .int 0 (nI (6 * k) + 5) = some (xs (6 * k + 5)) := by
        intro σ1 hC
        have hz1 := CB.word hI' hC hs
        refine ⟨?_, ?_, ?_, ?_, ?_⟩
        · rw [nI_1]; exact LI.word hz1 (by omega) hL
        · rw [nI_addL]; exact LI.word hz1 (by omega) hL
        · rw [nI_addL]; exact LI.word hz1 (by omega) hL
        · rw [nI_addL]; exact LI.word hz1 (by omega) hL
        · rw [nI_addL]; exact LI.word hz1 (by omega) hL
      have go : ∀ {E : Option (Int32 × am_S)} {g2 : Gh} {σ2 : am_S} {s2 : MSS}, LI L xs g2 σ2 s2 (k + 1) → E = f_Lw_law_l23 F 0 8 95 186 m (nI (6 * (k + 1))) σ2 → ∃ g' σ' s' k', E = some (1, σ') ∧ LI L xs g' σ' s' k' ∧ k' ≤ 513 := by
        intro E g2 σ2 s2 h2 hE
        rw [hE]
        exact ih (k + 1) g2 σ2 s2 h2 (by omega) (by omega)
      have hb : (95 : Nat) ≤ 186 := by omega
      have hbl : 186 < σ.1 := by omega
      rw [w0, Option.bind_some]
      generalize xs (6 * k) &&& 15 = op
      by_cases o0 : op = 0
      · -- feed
        obtain ⟨σ1, a1, a2, a3⟩ := Lw_feed (F := F) hM (xs (6 * k + 1)) (xs (6 * k + 2)) (xs (6 * k + 3)) (xs (6 * k + 4)) (xs (6 * k + 5)) (by omega)
        have hC := a3.cb hbx hbl
        obtain ⟨y1, y2, y3, y4, y5⟩ := y hC
        have hD1 := LI.mid hD hC
        obtain ⟨g2, σ2, b1, b2, b3⟩ := Md_feed (F := F) hD1 (xs (6 * k + 1)) (xs (6 * k + 2)) (xs (6 * k + 3)) (xs (6 * k + 4)) (xs (6 * k + 5)) hz.1 (by omega)
        obtain ⟨n1, n2⟩ := LI.void (F := F) (K := fun τ => f_Lw_law_l23 F 0 8 95 186 m (nI (6 * (k + 1))) τ) hI' hC a2 (hw.feed _ _ _ _ _) hD1 b2 b3
        refine go n1 ?_
        simp only [o0, if_true, w1, w2, w3, w4, w5, Option.bind_some, a1, am_b2, y1, y2, y3, y4, y5, b1, x6]
        exact n2
      · rw [if_neg o0]
        by_cases o1 : op = 1
        · obtain ⟨σ1, a1, a2, a3⟩ := Lw_end (F := F) hM hb hbl hbx (xs (6 * k + 1)) (by omega)
          have hC := a3.cb
          obtain ⟨y1, -⟩ := y hC
          have hD1 := LI.mid hD hC
          obtain ⟨g2, σ2, v, b1, b2, b4, b3⟩ := Md_end (F := F) hD1 (xs (6 * k + 1)) hz.1 (by omega)
          obtain ⟨n1, n2⟩ := LI.num (F := F) (K := fun τ => f_Lw_law_l23 F 0 8 95 186 m (nI (6 * (k + 1))) τ) hI' a3 a2 (hw.end _) hD1 b2 b3 b4
          refine go n1 ?_
          simp only [o1, if_true, w1, Option.bind_some, a1, am_b2, y1, b1, x6, f_Lw_law_j237]
          exact n2
        · rw [if_neg o1]
          by_cases o2 : op = 2
          · obtain ⟨σ1, a1, a2, a3⟩ := Lw_put (F := F) hM hw hb hbl hbx (xs (6 * k + 1)) (by omega)
            have hC := a3.cb
            obtain ⟨y1, -⟩ := y hC
            have hD1 := LI.mid hD hC
            obtain ⟨g2, σ2, v, b1, b2, b4, b3⟩ := Md_put (F := F) hD1 hw hz (xs (6 * k + 1)) (by omega)
            obtain ⟨n1, n2⟩ := LI.num (F := F) (K := fun τ => f_Lw_law_l23 F 0 8 95 186 m (nI (6 * (k + 1))) τ) hI' a3 a2 (MSW.put hw hz _) hD1 b2 b3 b4
            refine go n1 ?_
            simp only [o2, if_true, w1, Option.bind_some, a1, am_b2, y1, b1, x6, f_Lw_law_j293]
            exact n2
          · rw [if_neg o2]
            by_cases o3 : op = 3
            · obtain ⟨σ1, a1, a2, a3⟩ := Lw_drop (F := F) hM hw (xs (6 * k + 1)) (by omega)
              have hC := a3.cb hbx hbl
              obtain ⟨y1, -⟩ := y hC
              have hD1 := LI.mid hD hC
              obtain ⟨g2, σ2, b1, b2, b3⟩ := Md_drop (F := F) hD1 hw hz (xs (6 * k + 1)) (by omega)
              obtain ⟨n1, n2⟩ := LI.void (F := F) (K := fun τ => f_Lw_law_l23 F 0 8 95 186 m (nI (6 * (k + 1))) τ) hI' hC a2 (MSW.drop hw hz _) hD1 b2 b3
              refine go n1 ?_
              simp only [o3, if_true, w1, Option.bind_some, a1, am_b2, y1, b1, x6]
              exact n2
            · rw [if_neg o3]
              by_cases o4 : op = 4
              · obtain ⟨σ1, a1, a2, a3⟩ := Lw_copy (F := F) hM (xs (6 * k + 1)) (xs (6 * k + 2))
                have hC := a3.cb hbx hbl
                obtain ⟨y1, y2, -⟩ := y hC
                have hD1 := LI.mid hD hC
                obtain ⟨g2, σ2, b1, b2, b3⟩ := Md_copy (F := F) hD1 hz (xs (6 * k + 1)) (xs (6 * k + 2)) (by omega)
                obtain ⟨n1, n2⟩ := LI.void (F := F) (K := fun τ => f_Lw_law_l23 F 0 8 95 186 m (nI (6 * (k + 1))) τ) hI' hC a2 (MSW.copy hw _ _) hD1 b2 b3
                refine go n1 ?_
                simp only [o4, if_true, w1, w2, Option.bind_some, a1, am_b2, y1, y2, b1, x6]
                exact n2
              · rw [if_neg o4]
                by_cases o5 : op = 5
                · obtain ⟨σ1, a1, a2, a3, -⟩ := Lw_merge (F := F) hM hw hb hbl hbx (by omega)
                  have hC := a3.cb
                  have hD1 := LI.mid hD hC
                  obtain ⟨g2, σ2, v, b1, b2, b4, b3⟩ := Md_merge (F := F) hD1 hw hz (by omega)
                  obtain ⟨n1, n2⟩ := LI.num (F := F) (K := fun τ => f_Lw_law_l23 F 0 8 95 186 m (nI (6 * (k + 1))) τ) hI' a3 a2 (MSW.merge hw) hD1 b2 b3 b4
                  refine go n1 ?_
                  simp only [o5, if_true, Option.bind_some, a1, am_b2, b1, x6, f_Lw_law_j421]
                  exact n2
                · rw [if_neg o5]
                  by_cases o6 : op = 6
                  · obtain ⟨σ1, a1, a2, a3⟩ := Lw_ren (F := F) hM hw hb hbl hbx (xs (6 * k + 1)) (xs (6 * k + 2)) (xs (6 * k + 3)) (xs (6 * k + 4)) (by omega)
                    have hC := a3.cb
                    obtain ⟨y1, y2, y3, y4, -⟩ := y hC
                    have hD1 := LI.mid hD hC
                    obtain ⟨g2, σ2, v, b1, b2, b4, b3⟩ := Md_ren (F := F) hD1 hw hz (xs (6 * k + 1)) (xs (6 * k + 2)) (xs (6 * k + 3)) (xs (6 * k + 4)) (by omega)
                    obtain ⟨n1, n2⟩ := LI.num (F := F) (K := fun τ => f_Lw_law_l23 F 0 8 95 186 m (nI (6 * (k + 1))) τ) hI' a3 a2 (by rw [opRen_s]; exact hw) hD1 b2 b3 b4
                    refine go n1 ?_
                    simp only [o6, if_true, w1, w2, w3, w4, Option.bind_some, a1, am_b2, y1, y2, y3, y4, b1, x6, f_Lw_law_j513]
                    exact n2
                  · rw [if_neg o6]
                    by_cases o7 : op = 7
                    · obtain ⟨σ1, a1, a2, a3⟩ := Lw_out (F := F) hM hw hb hbl hbx (xs (6 * k + 1)) (xs (6 * k + 2))
                      have hC := a3.cb
                      obtain ⟨y1, y2, -⟩ := y hC
                      have hD1 := LI.mid hD hC
                      obtain ⟨σ2, v, b1, b2, b4, b3⟩ := Md_out (F := F) hD1 hw hz hsx.1 hsx.2 (xs (6 * k + 1)) (xs (6 * k + 2))
                      obtain ⟨n1, n2⟩ := LI.num (F := F) (K := fun τ => f_Lw_law_l23 F 0 8 95 186 m (nI (6 * (k + 1))) τ) hI' a3 a2 (by rw [opOut_s]; exact hw) hD1 b2 b3 b4
                      refine go n1 ?_
                      simp only [o7, if_true, w1, w2, Option.bind_some, a1, am_b2, y1, y2, b1, x6, f_Lw_law_j581]
                      exact n2
                    · rw [if_neg o7]
                      by_cases o8 : op = 8
                      · have hle : ∀ i, i < s.2.2.2.2.1.length → (leL s.2.2.2.2.1 s.2.2.2.2.2 i (xs (6 * k + 2))).length < 2 ^ 31 := by
                          intro i hi
                          unfold leL
                          split
                          · obtain ⟨lt, sp, -, hO, -⟩ := hM.2.2.2.2.2.2.2.2.1
                            obtain ⟨ls, ss, vs, -, hPW⟩ := hO.pm.1
                            have h1 := hPW.2.1
                            rw [snP_of hi]
                            have h2 := sl_take_succ (show i < (s.2.2.2.2.1.map Prod.fst).length by rw [List.length_map]; exact hi)
                            have h3 := sl_take_le (s.2.2.2.2.1.map Prod.fst) (i + 1)
                            have h4 : sl (s.2.2.2.2.1.map Prod.fst) ≤ 8192 := h1
                            rw [List.getElem_map] at h2
                            omega
                          · have := hsx.2 i hi
                            omega
                        obtain ⟨σ1, a1, a2, a3⟩ := Lw_let (F := F) hM hw hb hbl hbx (xs (6 * k + 1)) (xs (6 * k + 2)) (xs (6 * k + 3)) hle
                        have hC := a3.cb
                        obtain ⟨y1, y2, y3, -⟩ := y hC
                        have hD1 := LI.mid hD hC
                        obtain ⟨σ2, v, b1, b2, b4, b3⟩ := Md_let (F := F) hD1 hw hz hsx.1 hsx.2 (xs (6 * k + 1)) (xs (6 * k + 2)) (xs (6 * k + 3))
                        obtain ⟨n1, n2⟩ := LI.num (F := F) (K := fun τ => f_Lw_law_l23 F 0 8 95 186 m (nI (6 * (k + 1))) τ) hI' a3 a2 (by rw [opLet_s]; exact hw) hD1 b2 b3 b4
                        refine go n1 ?_
                        simp only [o8, if_true, w1, w2, w3, Option.bind_some, a1, am_b2, y1, y2, y3, b1, x6, f_Lw_law_j661]
                        exact n2
                      · rw [if_neg o8]
                        by_cases o9 : op = 9
                        · obtain ⟨σ1, a1, a2, a3⟩ := Lw_blob (F := F) hM hb hbl hbx (xs (6 * k + 1)) (xs (6 * k + 2))
                          have hC := a3.cb
                          obtain ⟨y1, y2, -⟩ := y hC
                          have hD1 := LI.mid hD hC
                          obtain ⟨σ2, v, b1, b2, b4, b3⟩ := Md_blob (F := F) hD1 hz (xs (6 * k + 1)) (xs (6 * k + 2))
                          obtain ⟨n1, n2⟩ := LI.num (F := F) (K := fun τ => f_Lw_law_l23 F 0 8 95 186 m (nI (6 * (k + 1))) τ) hI' a3 a2 (by rw [opBlob_s]; exact hw) hD1 b2 b3 b4
                          refine go n1 ?_
                          simp only [o9, if_true, w1, w2, Option.bind_some, a1, am_b2, y1, y2, b1, x6, f_Lw_law_j729]
                          exact n2
                        · rw [if_neg o9]
                          by_cases o10 : op = 10
                          · have a1 := MM_count (F := F) hM (xs (6 * k + 1))
                            obtain ⟨σ2, b1, b2, b3⟩ := Md_count (F := F) hD hz (xs (6 * k + 1))
                            obtain ⟨n1, n2⟩ := LI.next hI' (CB.refl hbx) hM hw hD b2 b3
                            refine go n1 ?_
                            simp only [o10, if_true, w1, Option.bind_some, a1, am_b2, b1, x6]
                          · rw [if_neg o10, x6]
                            obtain ⟨i1, i2, i3, i4, i5, i6, i7⟩ := hI'
                            exact ih (k + 1) g σ s ⟨i1, i2, i3, i4, i5, by omega, by omega⟩ (by omega) (by omega)
