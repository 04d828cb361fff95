/-! ===== L3: the reference: the groups of OURS and THEIRS ===== -/
section PI
variable {F : Nat} {th gv : Int32} {B : List (List Int32)} {P0 P1 P2 : PL}
theorem Md_l216 (v0 : VB B P0) (v1 : VB B P1) (v2 : VB B P2) (t0 : Srt P0) (t1 : Srt P1) (t2 : Srt P2) (l0 : P0.length ≤ 400) (l1 : P1.length ≤ 400) (l2 : P2.length ≤ 400) (hBl : ∀ t ∈ B, t.length ≤ 4096) (hpl : pl P1 + pl P2 ≤ 16384) (hF : 131072 < F) {kk : am_S → Option ((Nat ⊕ Unit) × am_S)} : ∀ (m n : Nat) (g : Gh) (σ : am_S), MLI g σ th gv B P0 P1 P2 (gph1 B P0 P1 P2 n) n 0 → n ≤ P1.length → P1.length - n < m →
    PRes (f_Md_mergeMaps_l216 F 95 kk m (nI n) σ) kk g σ th gv B P0 P1 P2 (gph1 B P0 P1 P2 P1.length) P1.length 0 := by
  intro m
  induction m with
  | zero => intro n _ _ _ _ h; omega
  | succ m ih =>
    intro n g σ hM hn hm
    obtain ⟨hD, hp1, hp2, hd1, hd2⟩ := id hM
    obtain ⟨⟨-, -, -, k4, k5, k6, -⟩, ⟨⟨gm, cm, hc⟩, -⟩, -⟩ := id hD
    have z := hc.1
    unfold MDC at z
    have g21 : am_gA σ 10 21 95 = some 103 := gA_of z (k := 21) rfl
    have g22 : am_gA σ 10 22 95 = some 109 := gA_of z (k := 22) rfl
    have g28 : am_gA σ 10 28 95 = some 160 := gA_of z (k := 28) rfl
    have g29 : am_gA σ 10 29 95 = some 161 := gA_of z (k := 29) rfl
    rw [f_Md_mergeMaps_l216, g21, Option.bind_some, Ps_n k5, Option.bind_some, mpE_len]
    by_cases c : P1.length ≤ n
    · have e : n = P1.length := by omega
      subst e
      rw [if_pos (nI_le c (by omega))]
      exact Or.inr ⟨g, σ, rfl, hM, Fo.refl _ _ _⟩
    · have hn' : n < P1.length := by omega
      rw [if_neg (nI_ge hn' (by omega))]
      obtain ⟨od, O1, O2⟩ := id hd1
      obtain ⟨td, T1, T2⟩ := id hd2
      have q1 := lI_of O1.1 (i := n) (by omega) (by omega)
      rw [O2 n (Nat.le_refl _) hn'] at q1
      have hgs := gph1_s (B := B) (P0 := P0) (P1 := P1) (P2 := P2) n
      unfold gst1 at hgs
      simp only [g28, q1, Option.bind_some, bo_0]
      cases hu : (gph1 B P0 P1 P2 n).2.1 n with
      | true =>
        rw [if_neg (by decide), nI_1]
        rw [hu, if_pos rfl] at hgs
        refine (ih (n + 1) g σ ?_ (by omega) (by omega)).of rfl (Fo.refl _ _ _)
        rw [hgs]
        exact ⟨hD, hp1, hp2, hd1.up (by omega) fun k _ => rfl, hd2⟩
      | false =>
        rw [if_pos rfl]
        rw [hu, if_neg Bool.false_ne_true] at hgs
        have f1 := Ps_findb (F := F) k6 k5 (j := n) (by rw [mpE_len]; exact hn') hF
        rw [pfd_mpE, mpE_get hn', ← pth_of hn'] at f1
        generalize hx : gth P1 P2 (gph1 B P0 P1 P2 n).2.2 n = x at hgs
        have hxl : ∀ k, x = some k → k < P2.length := fun k hk => by
          rw [hk] at hx
          unfold gth at hx
          split at hx
          · rename_i j hj
            split at hx
            · cases hx
            · cases hx; exact fnd_lt hj
          · cases hx
        have hgok : gOK P0 P1 P2 (none, some n, x) := ⟨fun k hk => (by cases hk), fun k hk => (by cases hk; exact hn'), hxl⟩
        obtain ⟨σ1, s1, s2, s3, w2, s4⟩ := hd2.mark (x := x) (by omega) fun k hk => by have := hxl k hk; omega
        have D1 : DCI g σ1 th gv B P0 P1 P2 (ogs B P0 P1 P2 (gph1 B P0 P1 P2 n).1) := hD.w s3 (by omega) rfl s4
        have hlen := gph1_len B P0 P1 P2 n
        have hst := Md_step (F := F) (s := gph1 B P0 P1 P2 n) (p := (none, some n, x)) (n1 := 0) (n2 := 0) D1 hgok v0 v1 v2 t0 t1 t2 l0 l1 l2 hBl (by omega) (by rw [← hgs]; exact gph1_ni t0 (n + 1)) (gph1_ok n (by omega)) hpl hF
        have W1 : Fo MPT g σ g σ1 := s3.mono fun a ha => by unfold MPT; omega
        have fin : PRes (f_Md_mergeMaps_j278 F 95 (nI n) (oI x) (fun y1 τ => f_Md_mergeMaps_l216 F 95 kk m y1 τ) σ1) kk g σ th gv B P0 P1 P2 (gph1 B P0 P1 P2 P1.length) P1.length 0 := by
          unfold f_Md_mergeMaps_j278
          rw [oI_some, oI_none] at hst
          by_cases cf : 65536 < sl (frT (ogs B P0 P1 P2 (gadd (gph1 B P0 P1 P2 n) (none, some n, x)).1))
          · obtain ⟨g3, σ3, x1, x2, x3⟩ := hst.1 cf
            rw [x1]
            refine Or.inl ⟨?_, g3, σ3, _, rfl, x2, W1.trans (x3.mono fun a ha => by unfold DT at ha; unfold MPT; omega)⟩
            have := sl_frT_pre (ogs_pre (B := B) (P0 := P0) (P1 := P1) (P2 := P2) (gph1_pre (B := B) (P0 := P0) (P1 := P1) (P2 := P2) (show n + 1 ≤ P1.length by omega)))
            rw [hgs] at this
            omega
          · obtain ⟨g3, σ3, x1, x2, x3⟩ := hst.2 (by omega)
            rw [x1]
            refine (ih (n + 1) g3 σ3 ?_ (by omega) (by omega)).of (by simp only [am_bt, Option.bind_some, am_btf, nI_1]) (W1.trans (x3.mono fun a ha => by unfold DT at ha; unfold MPT; omega))
            rw [hgs]
            have hDT : ∀ a, DT a → ¬ (157 ≤ a ∧ a ≤ 161) := fun a ha => by unfold DT at ha; omega
            exact ⟨x2, (hp1.fo s3 (by omega)).fo x3 (fun q => hDT _ q (by omega)), (hp2.fo s3 (by omega)).fo x3 (fun q => hDT _ q (by omega)), ((hd1.fo s3 (by omega)).fo x3 (fun q => hDT _ q (by omega))).up (by omega) (fun k hk => by simp only [gadd, mrk]; rw [if_neg (by omega)]), s2.fo x3 (fun q => hDT _ q (by omega))⟩
        have e267 : f_Md_mergeMaps_j267 F 95 (nI n) (oI x) (fun y1 τ => f_Md_mergeMaps_l216 F 95 kk m y1 τ) σ = f_Md_mergeMaps_j278 F 95 (nI n) (oI x) (fun y1 τ => f_Md_mergeMaps_l216 F 95 kk m y1 τ) σ1 := by
          unfold f_Md_mergeMaps_j267
          by_cases cn : oI x < 0
          · rw [if_pos cn] at s1 ⊢
            cases s1; rfl
          · rw [if_neg cn] at s1 ⊢
            rw [g29, Option.bind_some, s1, Option.bind_some]
        rw [← e267] at fin
        simp only [g21, g22, f1, Option.bind_some]
        unfold gth at hx
        cases hf : fnd P2 (pth P1 n) with
        | none =>
          rw [hf] at hx
          simp only at hx
          subst hx
          rw [if_pos (show oI none < 0 by decide)]
          exact fin
        | some j =>
          have hj := fnd_lt hf
          rw [hf] at hx
          simp only at hx
          have q2 := lI_of T1.1 (i := j) (by omega) (by omega)
          rw [T2 j (by omega) hj] at q2
          rw [oI_some, if_neg (nI_pos (by omega)), g29, Option.bind_some, q2, Option.bind_some]
          simp only [bo_0]
          cases hv : (gph1 B P0 P1 P2 n).2.2 j with
          | true =>
            rw [hv, if_pos rfl] at hx
            subst hx
            rw [if_neg (by decide)]
            exact fin
          | false =>
            rw [hv, if_neg Bool.false_ne_true] at hx
            subst hx
            rw [if_pos rfl]
            exact fin
theorem Md_l293 (v0 : VB B P0) (v1 : VB B P1) (v2 : VB B P2) (t0 : Srt P0) (t1 : Srt P1) (t2 : Srt P2) (l0 : P0.length ≤ 400) (l1 : P1.length ≤ 400) (l2 : P2.length ≤ 400) (hBl : ∀ t ∈ B, t.length ≤ 4096) (hpl : pl P1 + pl P2 ≤ 16384) (hF : 131072 < F) {kk : am_S → Option ((Nat ⊕ Unit) × am_S)} : ∀ (m n : Nat) (g : Gh) (σ : am_S), MLI g σ th gv B P0 P1 P2 (gph2 B P0 P1 P2 n) P1.length n → n ≤ P2.length → P2.length - n < m →
    PRes (f_Md_mergeMaps_l293 F 95 kk m (nI n) σ) kk g σ th gv B P0 P1 P2 (gph2 B P0 P1 P2 P2.length) P1.length P2.length := by
  intro m
  induction m with
  | zero => intro n _ _ _ _ h; omega
  | succ m ih =>
    intro n g σ hM hn hm
    obtain ⟨hD, hp1, hp2, hd1, hd2⟩ := id hM
    obtain ⟨⟨-, -, -, k4, k5, k6, -⟩, ⟨⟨gm, cm, hc⟩, -⟩, -⟩ := id hD
    have z := hc.1
    unfold MDC at z
    have g22 : am_gA σ 10 22 95 = some 109 := gA_of z (k := 22) rfl
    have g29 : am_gA σ 10 29 95 = some 161 := gA_of z (k := 29) rfl
    rw [f_Md_mergeMaps_l293, g22, Option.bind_some, Ps_n k6, Option.bind_some, mpE_len]
    by_cases c : P2.length ≤ n
    · have e : n = P2.length := by omega
      subst e
      rw [if_pos (nI_le c (by omega))]
      exact Or.inr ⟨g, σ, rfl, hM, Fo.refl _ _ _⟩
    · have hn' : n < P2.length := by omega
      rw [if_neg (nI_ge hn' (by omega))]
      obtain ⟨td, T1, T2⟩ := id hd2
      have q1 := lI_of T1.1 (i := n) (by omega) (by omega)
      rw [T2 n (Nat.le_refl _) hn'] at q1
      have hgs := gph2_s (B := B) (P0 := P0) (P1 := P1) (P2 := P2) n
      unfold gst2 at hgs
      simp only [g29, q1, Option.bind_some, bo_0]
      cases hu : (gph2 B P0 P1 P2 n).2.2 n with
      | true =>
        rw [if_neg (by decide), nI_1]
        rw [hu, if_pos rfl] at hgs
        refine (ih (n + 1) g σ ?_ (by omega) (by omega)).of rfl (Fo.refl _ _ _)
        rw [hgs]
        exact ⟨hD, hp1, hp2, hd1, hd2.up (by omega) fun k _ => rfl⟩
      | false =>
        rw [if_pos rfl]
        rw [hu, if_neg Bool.false_ne_true] at hgs
        have hgok : gOK P0 P1 P2 (none, none, some n) := ⟨fun k hk => (by cases hk), fun k hk => (by cases hk), fun k hk => (by cases hk; exact hn')⟩
        have hlen := gph2_len B P0 P1 P2 n
        have hst := Md_step (F := F) (s := gph2 B P0 P1 P2 n) (p := (none, none, some n)) (n1 := 0) (n2 := 0) hD hgok v0 v1 v2 t0 t1 t2 l0 l1 l2 hBl (by omega) (by rw [← hgs]; exact gph2_ni t0 (n + 1)) (gph2_ok n (by omega)) hpl hF
        rw [oI_some, oI_none] at hst
        by_cases cf : 65536 < sl (frT (ogs B P0 P1 P2 (gadd (gph2 B P0 P1 P2 n) (none, none, some n)).1))
        · obtain ⟨g3, σ3, x1, x2, x3⟩ := hst.1 cf
          rw [x1]
          refine Or.inl ⟨?_, g3, σ3, _, rfl, x2, x3.mono fun a ha => by unfold DT at ha; unfold MPT; omega⟩
          have := sl_frT_pre (ogs_pre (B := B) (P0 := P0) (P1 := P1) (P2 := P2) (gph2_pre (B := B) (P0 := P0) (P1 := P1) (P2 := P2) (show n + 1 ≤ P2.length by omega)))
          rw [hgs] at this
          omega
        · obtain ⟨g3, σ3, x1, x2, x3⟩ := hst.2 (by omega)
          rw [x1]
          refine (ih (n + 1) g3 σ3 ?_ (by omega) (by omega)).of (by simp only [am_bt, Option.bind_some, am_btf, nI_1]) (x3.mono fun a ha => by unfold DT at ha; unfold MPT; omega)
          rw [hgs]
          have hDT : ∀ a, DT a → ¬ (157 ≤ a ∧ a ≤ 161) := fun a ha => by unfold DT at ha; omega
          exact ⟨x2, hp1.fo x3 (fun q => hDT _ q (by omega)), hp2.fo x3 (fun q => hDT _ q (by omega)), hd1.fo x3 (fun q => hDT _ q (by omega)), (hd2.fo x3 (fun q => hDT _ q (by omega))).up (by omega) (fun k hk => by simp only [gadd, mrk]; rw [if_neg (by omega)])⟩
/-- all groups -/
theorem Md_groups (v0 : VB B P0) (v1 : VB B P1) (v2 : VB B P2) (t0 : Srt P0) (t1 : Srt P1) (t2 : Srt P2) (l0 : P0.length ≤ 400) (l1 : P1.length ≤ 400) (l2 : P2.length ≤ 400) (hBl : ∀ t ∈ B, t.length ≤ 4096) (hpl : pl P1 + pl P2 ≤ 16384) (hF : 131072 < F) {g : Gh} {σ : am_S} (hM : MLI g σ th gv B P0 P1 P2 gs0 0 0) :
    PRes (f_Md_mergeMaps_j118 F 95 σ) (fun τ => f_Md_mergeMaps_j326 F 95 τ) g σ th gv B P0 P1 P2 (gph2 B P0 P1 P2 P2.length) P1.length P2.length := by
  unfold f_Md_mergeMaps_j118
  have h1 := Md_l120 (F := F) v0 v1 v2 t0 t1 t2 l0 l1 l2 hBl hpl hF (kk := fun τ => f_Md_mergeMaps_j214 F 95 τ) F 0 g σ hM (by omega) (by omega)
  have p1 : (gph0 B P0 P1 P2 P0.length).1 <+: (gph1 B P0 P1 P2 P1.length).1 := gph1_pre (n := 0) (by omega)
  have p2 : (gph1 B P0 P1 P2 P1.length).1 <+: (gph2 B P0 P1 P2 P2.length).1 := gph2_pre (n := 0) (by omega)
  have f1 := sl_frT_pre (ogs_pre (B := B) (P0 := P0) (P1 := P1) (P2 := P2) p1)
  have f2 := sl_frT_pre (ogs_pre (B := B) (P0 := P0) (P1 := P1) (P2 := P2) p2)
  rw [nI_0] at h1
  rcases h1 with ⟨a1, g1, σ1, O1, a2, a3, a4⟩ | ⟨g1, σ1, a2, a3, a4⟩
  · exact Or.inl ⟨by omega, g1, σ1, O1, a2, a3, a4⟩
  · rw [a2]
    show PRes (f_Md_mergeMaps_l216 F 95 (fun τ => f_Md_mergeMaps_j291 F 95 τ) F 0 σ1) _ g σ th gv B P0 P1 P2 _ _ _
    have h2 := Md_l216 (F := F) v0 v1 v2 t0 t1 t2 l0 l1 l2 hBl hpl hF (kk := fun τ => f_Md_mergeMaps_j291 F 95 τ) F 0 g1 σ1 a3 (by omega) (by omega)
    rw [nI_0] at h2
    rcases h2 with ⟨b1, g2, σ2, O2, b2, b3, b4⟩ | ⟨g2, σ2, b2, b3, b4⟩
    · exact Or.inl ⟨by omega, g2, σ2, O2, b2, b3, a4.trans b4⟩
    · rw [b2]
      show PRes (f_Md_mergeMaps_l293 F 95 (fun τ => f_Md_mergeMaps_j326 F 95 τ) F 0 σ2) _ g σ th gv B P0 P1 P2 _ _ _
      have h3 := Md_l293 (F := F) v0 v1 v2 t0 t1 t2 l0 l1 l2 hBl hpl hF (kk := fun τ => f_Md_mergeMaps_j326 F 95 τ) F 0 g2 σ2 b3 (by omega) (by omega)
      rw [nI_0] at h3
      exact h3.of rfl (a4.trans b4)
end PI
