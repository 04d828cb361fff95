/-! ===== L3: the reference: the groups in their order ===== -/
theorem Ce.sz {g : Gh} {σ : am_S} {a n i : Nat} {f : Nat → Int32} (v : Bool) (h : Ce g σ a (cZ n f)) (h8 : 8 ≤ a) (hi : i < n) (hn : n < 2 ^ 31) : ∃ σ', am_sZ σ a (nI i) (bo v) = some σ' ∧ Ce g σ' a (cZ n (uf f i (bo v))) ∧ Fo (fun b => b = a) g σ g σ' := by
  have := sZ_of (v := bo v) h.1 h8 hi hn
  rw [bo_and] at this
  exact ⟨_, this, ⟨put_at _ _ _, h.2.1, h.2.2⟩, (Fo.refl _ _ _).put fun _ => h.2.1⟩
theorem EV.w {g g1 : Gh} {σ σ1 : am_S} {B : List (List Int32)} {P0 P1 P2 : PL} {a n : Nat} {ty : FieldType} {f : Nat → Int32} (h : EV g σ B P0 P1 P2) (hf : Fo (fun b => b = a) g σ g1 σ1) (ha : scT a = some (ty, n)) (hc : Ce g1 σ1 a (.inl (ty, n, fun j => .int (f j)))) : EV g1 σ1 B P0 P1 P2 := by
  have hr := scT_in ha
  obtain ⟨-, -, -, -, -, -, hS, hX, t, hR⟩ := id h
  exact h.fo hf (fun b hb => by omega) (hS.w hf ha hc) (hX.fo hf fun b _ _ => by omega) ⟨t, hR.fo hf (by omega)⟩
theorem DCI.w {g g1 : Gh} {σ σ1 : am_S} {th gv : Int32} {B : List (List Int32)} {P0 P1 P2 : PL} {O : List Og} {a n : Nat} {ty : FieldType} {f : Nat → Int32} (h : DCI g σ th gv B P0 P1 P2 O) (hf : Fo (fun b => b = a) g σ g1 σ1) (h157 : 157 ≤ a ∧ a ≤ 161) (ha : scT a = some (ty, n)) (hc : Ce g1 σ1 a (.inl (ty, n, fun j => .int (f j)))) : DCI g1 σ1 th gv B P0 P1 P2 O :=
  ⟨h.1.w hf ha hc, h.2.1.fo hf fun b hb => by omega, h.2.2.fo hf fun b hb => by omega⟩
def PAR (g : Gh) (σ : am_S) (ra : Nat) (B : List (List Int32)) (P Q : PL) : Prop := ∃ ar, Ce g σ ra (cI 1700 ar) ∧ ∀ k, k < P.length → ar k = oI (prR P Q (rnS B P Q) k)
theorem PAR.fo {T : Nat → Prop} {g g1 : Gh} {σ σ1 : am_S} {ra : Nat} {B : List (List Int32)} {P Q : PL} (h : PAR g σ ra B P Q) (hf : Fo T g σ g1 σ1) (hT : ¬ T ra) : PAR g1 σ1 ra B P Q := by
  obtain ⟨ar, h1, h2⟩ := h
  exact ⟨ar, h1.fo hf hT, h2⟩
def DON (g : Gh) (σ : am_S) (da n N : Nat) (u : Nat → Bool) : Prop := ∃ od, Ce g σ da (cZ 1700 od) ∧ ∀ k, n ≤ k → k < N → od k = bo (u k)
theorem DON.fo {T : Nat → Prop} {g g1 : Gh} {σ σ1 : am_S} {da n N : Nat} {u : Nat → Bool} (h : DON g σ da n N u) (hf : Fo T g σ g1 σ1) (hT : ¬ T da) : DON g1 σ1 da n N u := by
  obtain ⟨ar, h1, h2⟩ := h
  exact ⟨ar, h1.fo hf hT, h2⟩
theorem DON.up {g : Gh} {σ : am_S} {da n n' N : Nat} {u u' : Nat → Bool} (h : DON g σ da n N u) (hn : n ≤ n') (hu : ∀ k, n' ≤ k → u' k = u k) : DON g σ da n' N u' := by
  obtain ⟨od, h1, h2⟩ := h
  exact ⟨od, h1, fun k hk hk' => by rw [h2 k (by omega) hk', hu k hk]⟩
/-- marking -/
theorem DON.mark {g : Gh} {σ : am_S} {da n N : Nat} {u : Nat → Bool} {x : Option Nat} (h : DON g σ da n N u) (h8 : 8 ≤ da) (hx : ∀ k, x = some k → k < 400) : ∃ σ', (if oI x < 0 then some σ else am_sZ σ da (oI x) 1) = some σ' ∧ DON g σ' da n N (mrk u x) ∧ Fo (fun b => b = da) g σ g σ' ∧ ∃ f : Nat → Int32, Ce g σ' da (cZ 1700 f) := by
  obtain ⟨od, h1, h2⟩ := h
  cases x with
  | none =>
    rw [if_pos (show oI none < 0 by decide)]
    exact ⟨σ, rfl, ⟨od, h1, h2⟩, Fo.refl _ _ _, od, h1⟩
  | some y =>
    have hy := hx y rfl
    obtain ⟨σ1, q1, q2, q3⟩ := h1.sz true h8 (show y < 1700 by omega) (by omega)
    rw [oI_some, if_neg (nI_pos (by omega)), show (1 : Int32) = bo true from rfl, q1]
    refine ⟨σ1, rfl, ⟨_, q2, fun k hk hk' => ?_⟩, q3, _, q2⟩
    simp only [mrk]
    by_cases e : k = y
    · subst e; rw [uf_same, if_pos rfl]
    · rw [uf_ne e, if_neg e, h2 k hk hk']
def MLI (g : Gh) (σ : am_S) (th gv : Int32) (B : List (List Int32)) (P0 P1 P2 : PL) (s : GSt) (n1 n2 : Nat) : Prop := DCI g σ th gv B P0 P1 P2 (ogs B P0 P1 P2 s.1) ∧ PAR g σ 157 B P0 P1 ∧ PAR g σ 158 B P0 P2 ∧ DON g σ 160 n1 P1.length s.2.1 ∧ DON g σ 161 n2 P2.length s.2.2
abbrev MPT : Nat → Prop := fun a => a = 95 ∨ (129 ≤ a ∧ a ≤ 150) ∨ (157 ≤ a ∧ a ≤ 169)
theorem sl_frT_pre {O O' : List Og} (h : O <+: O') : sl (frT O) ≤ sl (frT O') := by
  obtain ⟨r, rfl⟩ := h
  rw [frT_app, sl_app]
  omega
theorem ogs_pre {B : List (List Int32)} {P0 P1 P2 : PL} {l l' : List Gp} (h : l <+: l') : ogs B P0 P1 P2 l <+: ogs B P0 P1 P2 l' := by
  obtain ⟨r, rfl⟩ := h
  exact ⟨ogs B P0 P1 P2 r, List.filterMap_append.symm⟩
section PH
variable {F : Nat} {th gv : Int32} {B : List (List Int32)} {P0 P1 P2 : PL}
theorem gph0_pre : ∀ {n m : Nat}, n ≤ m → (gph0 B P0 P1 P2 n).1 <+: (gph0 B P0 P1 P2 m).1
  | n, 0, h => by rw [Nat.le_zero.mp h]; exact List.prefix_refl _
  | n, m + 1, h => by
    by_cases e : n = m + 1
    · rw [e]; exact List.prefix_refl _
    · refine (gph0_pre (show n ≤ m by omega)).trans ?_
      rw [gph0_s]
      exact List.prefix_append _ _
theorem gst1_pre (s : GSt) (a : Nat) : s.1 <+: (gst1 P1 P2 s a).1 := by
  unfold gst1
  split
  · exact List.prefix_refl _
  · exact List.prefix_append _ _
theorem gst2_pre (s : GSt) (a : Nat) : s.1 <+: (gst2 s a).1 := by
  unfold gst2
  split
  · exact List.prefix_refl _
  · exact List.prefix_append _ _
theorem gph1_pre : ∀ {n m : Nat}, n ≤ m → (gph1 B P0 P1 P2 n).1 <+: (gph1 B P0 P1 P2 m).1
  | n, 0, h => by rw [Nat.le_zero.mp h]; exact List.prefix_refl _
  | n, m + 1, h => by
    by_cases e : n = m + 1
    · rw [e]; exact List.prefix_refl _
    · refine (gph1_pre (show n ≤ m by omega)).trans ?_
      rw [gph1_s]
      exact gst1_pre _ _
theorem gph2_pre : ∀ {n m : Nat}, n ≤ m → (gph2 B P0 P1 P2 n).1 <+: (gph2 B P0 P1 P2 m).1
  | n, 0, h => by rw [Nat.le_zero.mp h]; exact List.prefix_refl _
  | n, m + 1, h => by
    by_cases e : n = m + 1
    · rw [e]; exact List.prefix_refl _
    · refine (gph2_pre (show n ≤ m by omega)).trans ?_
      rw [gph2_s]
      exact gst2_pre _ _
/-- refused, or on -/
def PRes (E : Option ((Nat ⊕ Unit) × am_S)) (kk : am_S → Option ((Nat ⊕ Unit) × am_S)) (g : Gh) (σ : am_S) (th gv : Int32) (B : List (List Int32)) (P0 P1 P2 : PL) (s : GSt) (n1 n2 : Nat) : Prop := (65536 < sl (frT (ogs B P0 P1 P2 s.1)) ∧ ∃ g' σ' O, E = some (.inl 1, σ') ∧ DCI g' σ' th gv B P0 P1 P2 O ∧ Fo MPT g σ g' σ') ∨ ∃ g' σ', E = kk σ' ∧ MLI g' σ' th gv B P0 P1 P2 s n1 n2 ∧ Fo MPT g σ g' σ'
theorem PRes.of {E E' : Option ((Nat ⊕ Unit) × am_S)} {kk : am_S → Option ((Nat ⊕ Unit) × am_S)} {g g1 : Gh} {σ σ1 : am_S} {s : GSt} {n1 n2 : Nat} (h : PRes E' kk g1 σ1 th gv B P0 P1 P2 s n1 n2) (e : E = E') (hf : Fo MPT g σ g1 σ1) : PRes E kk g σ th gv B P0 P1 P2 s n1 n2 := by
  rw [e]
  rcases h with ⟨h1, g', σ', O, h2, h3, h4⟩ | ⟨g', σ', h2, h3, h4⟩
  · exact Or.inl ⟨h1, g', σ', O, h2, h3, hf.trans h4⟩
  · exact Or.inr ⟨g', σ', h2, h3, hf.trans h4⟩
/-- a group is listed: marks, then what becomes of it -/
theorem Md_step {g : Gh} {σ : am_S} {s : GSt} {p : Gp} {n1 n2 : Nat} (hM : DCI g σ th gv B P0 P1 P2 (ogs B P0 P1 P2 s.1)) (hg : gOK P0 P1 P2 p) (v0 : VB B P0) (v1 : VB B P1) (v2 : VB B P2) (t0 : Srt P0) (t1 : Srt P1) (t2 : Srt P2) (l0 : P0.length ≤ 400) (l1 : P1.length ≤ 400) (l2 : P2.length ≤ 400) (hBl : ∀ t ∈ B, t.length ≤ 4096) (hs : s.1.length < 1200) (hN : GNI (gadd s p)) (hok : ∀ x ∈ s.1, gOK P0 P1 P2 x) (hpl : pl P1 + pl P2 ≤ 16384) (hF : 131072 < F) :
    DRes (f_Md_decide F σ 95 (oI p.1) (oI p.2.1) (oI p.2.2)) g σ th gv B P0 P1 P2 (ogs B P0 P1 P2 s.1) (ogs B P0 P1 P2 (gadd s p).1) := by
  have e : ogs B P0 P1 P2 (gadd s p).1 = ogs B P0 P1 P2 s.1 ++ (og B P0 P1 P2 p).toList := ogs_snoc _ _ _ _ _ _
  have hsum := hN.sum (B := B) (P0 := P0) (P1 := P1) (P2 := P2) (gadd_ok hok hg)
  have hol := ogs_len B P0 P1 P2 s.1
  rw [e] at hsum ⊢
  exact Md_decide hM hg v0 v1 v2 t0 t1 t2 l0 l1 l2 hBl (by omega) (by omega) hF
theorem prt_R {k : Nat} {Q : PL} {P : PL} (hk : k < P.length) {ar : Nat → Int32} (har : ar k = oI (prR P Q (rnS B P Q) k)) (hl : Q.length ≤ 400) : (if 0 ≤ oI (fnd Q (pth P k)) then oI (fnd Q (pth P k)) else ar k) = oI (prt P Q (rnS B P Q) k) := by
  rw [har]
  unfold prt prR isG
  cases hf : fnd Q (pth P k) with
  | some j =>
    have := fnd_lt hf
    rw [if_pos (show (0 : Int32) ≤ oI (some j) from nI_pos' (by omega))]
  | none =>
    rw [if_neg (show ¬ (0 : Int32) ≤ oI none by decide)]
    simp
theorem Md_l120 (v0 : VB B P0) (v1 : VB B P1) (v2 : VB B P2) (t0 : Srt P0) (t1 : Srt P1) (t2 : Srt P2) (l0 : P0.length ≤ 400) (l1 : P1.length ≤ 400) (l2 : P2.length ≤ 400) (hBl : ∀ t ∈ B, t.length ≤ 4096) (hpl : pl P1 + pl P2 ≤ 16384) (hF : 131072 < F) {kk : am_S → Option ((Nat ⊕ Unit) × am_S)} : ∀ (m n : Nat) (g : Gh) (σ : am_S), MLI g σ th gv B P0 P1 P2 (gph0 B P0 P1 P2 n) 0 0 → n ≤ P0.length → P0.length - n < m →
    PRes (f_Md_mergeMaps_l120 F 95 kk m (nI n) σ) kk g σ th gv B P0 P1 P2 (gph0 B P0 P1 P2 P0.length) 0 0 := by
  intro m
  induction m with
  | zero => intro n _ _ _ _ h; omega
  | succ m ih =>
    intro n g σ hM hn hm
    obtain ⟨hD, hp1, hp2, hd1, hd2⟩ := id hM
    obtain ⟨⟨-, -, -, k4, k5, k6, -⟩, ⟨⟨gm, cm, hc⟩, -⟩, -⟩ := id hD
    have z := hc.1
    unfold MDC at z
    have g20 : am_gA σ 10 20 95 = some 97 := gA_of z (k := 20) rfl
    have g21 : am_gA σ 10 21 95 = some 103 := gA_of z (k := 21) rfl
    have g22 : am_gA σ 10 22 95 = some 109 := gA_of z (k := 22) rfl
    rw [f_Md_mergeMaps_l120, g20, Option.bind_some, Ps_n k4, Option.bind_some, mpE_len]
    by_cases c : P0.length ≤ n
    · have e : n = P0.length := by omega
      subst e
      rw [if_pos (nI_le c (by omega))]
      exact Or.inr ⟨g, σ, rfl, hM, Fo.refl _ _ _⟩
    · have hn' : n < P0.length := by omega
      rw [if_neg (nI_ge hn' (by omega))]
      have f1 := Ps_findb (F := F) k5 k4 (j := n) (by rw [mpE_len]; exact hn') hF
      have f2 := Ps_findb (F := F) k6 k4 (j := n) (by rw [mpE_len]; exact hn') hF
      rw [pfd_mpE, mpE_get hn', ← pth_of hn'] at f1
      rw [pfd_mpE, mpE_get hn', ← pth_of hn'] at f2
      obtain ⟨ar1, A1, A1'⟩ := id hp1
      obtain ⟨ar2, A2, A2'⟩ := id hp2
      have r1 := prt_R (B := B) (Q := P1) hn' (A1' n hn') l1
      have r2 := prt_R (B := B) (Q := P2) hn' (A2' n hn') l2
      have q1 := lI_of A1.1 (i := n) (by omega) (by omega)
      have q2 := lI_of A2.1 (i := n) (by omega) (by omega)
      generalize hpa : prt P0 P1 (rnS B P0 P1) n = pa at r1
      generalize hpb : prt P0 P2 (rnS B P0 P2) n = pb at r2
      have hgs := gph0_s (B := B) (P0 := P0) (P1 := P1) (P2 := P2) n
      rw [hpa, hpb] at hgs
      have hgok : gOK P0 P1 P2 (some n, pa, pb) := ⟨fun k hk => by cases hk; exact hn', fun k hk => prt_ok (hpa.trans hk), fun k hk => prt_ok (hpb.trans hk)⟩
      -- the marks
      obtain ⟨σ1, m1, m2, m3, w1, m4⟩ := hd1.mark (x := pa) (by omega) fun k hk => by have := hgok.2.1 k hk; omega
      have hd2' := hd2.fo m3 (by omega)
      obtain ⟨σ2, s1, s2, s3, w2, s4⟩ := hd2'.mark (x := pb) (by omega) fun k hk => by have := hgok.2.2 k hk; omega
      have D1 : DCI g σ1 th gv B P0 P1 P2 (ogs B P0 P1 P2 (gph0 B P0 P1 P2 n).1) := hD.w m3 (by omega) rfl m4
      have D2 : DCI g σ2 th gv B P0 P1 P2 (ogs B P0 P1 P2 (gph0 B P0 P1 P2 n).1) := D1.w s3 (by omega) rfl s4
      have z1 : am_gA σ1 10 29 95 = some 161 := by
        obtain ⟨-, ⟨⟨gm, cm, hc⟩, -⟩, -⟩ := id D1
        have z := hc.1
        unfold MDC at z
        exact gA_of z (k := 29) rfl
      have g28 : am_gA σ 10 28 95 = some 160 := gA_of z (k := 28) rfl
      have hlen := gph0_len B P0 P1 P2 n
      have hst := Md_step (F := F) (s := gph0 B P0 P1 P2 n) (p := (some n, pa, pb)) (n1 := 0) (n2 := 0) D2 hgok v0 v1 v2 t0 t1 t2 l0 l1 l2 hBl (by omega) (by rw [← hgs]; exact gph0_ni t0 (n + 1) (by omega)) (gph0_ok n (by omega)) hpl hF
      have W2 : Fo MPT g σ g σ2 := (m3.mono fun a ha => by unfold MPT; omega).trans (s3.mono fun a ha => by unfold MPT; omega)
      have fin : PRes (f_Md_mergeMaps_j201 F 95 (nI n) (oI pa) (oI pb) (fun y1 τ => f_Md_mergeMaps_l120 F 95 kk m y1 τ) σ2) kk g σ th gv B P0 P1 P2 (gph0 B P0 P1 P2 P0.length) 0 0 := by
        unfold f_Md_mergeMaps_j201
        rw [oI_some] at hst
        by_cases cf : 65536 < sl (frT (ogs B P0 P1 P2 (gadd (gph0 B P0 P1 P2 n) (some n, pa, pb)).1))
        · obtain ⟨g3, σ3, x1, x2, x3⟩ := hst.1 cf
          rw [x1]
          refine Or.inl ⟨?_, g3, σ3, _, rfl, x2, W2.trans (x3.mono fun a ha => by unfold DT at ha; unfold MPT; omega)⟩
          have := sl_frT_pre (ogs_pre (B := B) (P0 := P0) (P1 := P1) (P2 := P2) (gph0_pre (B := B) (P0 := P0) (P1 := P1) (P2 := P2) (show n + 1 ≤ P0.length by omega)))
          rw [hgs] at this
          omega
        · obtain ⟨g3, σ3, x1, x2, x3⟩ := hst.2 (by omega)
          rw [x1]
          refine (ih (n + 1) g3 σ3 ?_ (by omega) (by omega)).of (by simp only [am_bt, Option.bind_some, am_btf, nI_1]) (W2.trans (x3.mono fun a ha => by unfold DT at ha; unfold MPT; omega))
          rw [hgs]
          have hDT : ∀ a, DT a → ¬ (157 ≤ a ∧ a ≤ 161) := fun a ha => by unfold DT at ha; omega
          exact ⟨x2, ((hp1.fo m3 (by omega)).fo s3 (by omega)).fo x3 (fun q => hDT _ q (by omega)), ((hp2.fo m3 (by omega)).fo s3 (by omega)).fo x3 (fun q => hDT _ q (by omega)), (m2.fo s3 (by omega)).fo x3 (fun q => hDT _ q (by omega)), s2.fo x3 (fun q => hDT _ q (by omega))⟩
      have e190 : f_Md_mergeMaps_j190 F 95 (nI n) (oI pa) (oI pb) (fun y1 τ => f_Md_mergeMaps_l120 F 95 kk m y1 τ) σ1 = f_Md_mergeMaps_j201 F 95 (nI n) (oI pa) (oI pb) (fun y1 τ => f_Md_mergeMaps_l120 F 95 kk m y1 τ) σ2 := by
        unfold f_Md_mergeMaps_j190
        by_cases cn : oI pb < 0
        · rw [if_pos cn] at s1 ⊢
          cases s1; rfl
        · rw [if_neg cn] at s1 ⊢
          rw [z1, Option.bind_some, s1, Option.bind_some]
      have e179 : f_Md_mergeMaps_j179 F 95 (nI n) (oI pa) (oI pb) (fun y1 τ => f_Md_mergeMaps_l120 F 95 kk m y1 τ) σ = f_Md_mergeMaps_j201 F 95 (nI n) (oI pa) (oI pb) (fun y1 τ => f_Md_mergeMaps_l120 F 95 kk m y1 τ) σ2 := by
        unfold f_Md_mergeMaps_j179
        by_cases cn : oI pa < 0
        · rw [if_pos cn] at m1 ⊢
          cases m1; exact e190
        · rw [if_neg cn] at m1 ⊢
          rw [g28, Option.bind_some, m1, Option.bind_some]
          exact e190
      have e168 : f_Md_mergeMaps_j168 F 95 (nI n) (oI pa) (oI (fnd P2 (pth P0 n))) (fun y1 τ => f_Md_mergeMaps_l120 F 95 kk m y1 τ) σ = f_Md_mergeMaps_j201 F 95 (nI n) (oI pa) (oI pb) (fun y1 τ => f_Md_mergeMaps_l120 F 95 kk m y1 τ) σ2 := by
        unfold f_Md_mergeMaps_j168
        by_cases cn : 0 ≤ oI (fnd P2 (pth P0 n))
        · rw [if_pos cn] at r2 ⊢
          rw [r2]; exact e179
        · rw [if_neg cn] at r2 ⊢
          rw [gA_of z (k := 26) rfl, Option.bind_some, q2, Option.bind_some, r2]; exact e179
      simp only [g20, g21, g22, f1, f2, Option.bind_some]
      by_cases cn : 0 ≤ oI (fnd P1 (pth P0 n))
      · rw [if_pos cn] at r1 ⊢
        rw [r1, e168]; exact fin
      · rw [if_neg cn] at r1 ⊢
        rw [gA_of z (k := 25) rfl, Option.bind_some, q1, Option.bind_some, r1, e168]; exact fin
end PH
