/-! ===== L3: the class's first state ===== -/
theorem nA_of {σ : am_S} {c n t : Nat} {v : Int32} (hv : v = nI n) (hn : n ≤ 67108864) (ht : σ.1 = t) : ∃ σ', am_nA σ c v = some (t, σ') ∧ σ'.1 = t + 1 ∧ σ'.2.1 = σ.2.1 + n ∧ σ'.2.2 t = some (.inl (.object (am_cn c), n, fun _ => .null)) ∧ ∀ a, a ≠ t → σ'.2.2 a = σ.2.2 a := by
  subst ht
  refine ⟨am_new σ n (.inl (.object (am_cn c), n, fun _ => .null)), ?_, rfl, rfl, new_at, fun a h => new_ne h⟩
  unfold am_nA
  rw [hv, nI_clamp (by omega), if_neg (by rintro (z | z); exact nI_pos (by omega) z; omega)]
theorem sA_to {σ : am_S} {c a i n v : Nat} {f : Nat → Value} {fs : List Value} {w : Int32} (hw : w = nI i) (hv : σ.2.2 v = some (.inr (c, fs))) (ha : σ.2.2 a = some (.inl (.object (am_cn c), n, f))) (h8 : 8 ≤ a) (hi : i < n) (hn : n < 2 ^ 31) : ∃ σ', am_sA σ c a w v = some σ' ∧ σ'.1 = σ.1 ∧ σ'.2.1 = σ.2.1 ∧ σ'.2.2 a = some (.inl (.object (am_cn c), n, updV f i (.ref v))) ∧ ∀ b, b ≠ a → σ'.2.2 b = σ.2.2 b := by
  refine ⟨am_put σ a (.inl (.object (am_cn c), n, updV f i (.ref v))), ?_, rfl, rfl, put_at _ _ _, fun b h => put_ne h⟩
  have h1 : ¬ nI i < 0 := nI_pos (by omega)
  have h2 : (nI i).toNatClampNeg = i := nI_clamp (by omega)
  unfold am_sA
  rw [hv, hw]
  simp only [if_true]
  unfold am_st
  rw [ha]
  simp [h1, h2, hi, h8]
theorem Fh.trans {S : Nat → Prop} {σ σ1 σ2 : am_S} (h : Fh S σ σ1) (h' : Fh S σ1 σ2) : Fh S σ σ2 := fun a ha => (h' a ha).trans (h a ha)
theorem Fh.mono {S S' : Nat → Prop} {σ σ1 : am_S} (h : Fh S σ σ1) (hs : ∀ a, S a → S' a) : Fh S' σ σ1 := fun a ha => h a fun z => ha (hs a z)
def s0 : MSS := ([], [], [], fun _ => [], [], [])
theorem Pm_first {σ : am_S} {o : Nat} (h : σ.2.2 o = some (cO 4 [.ref (o + 1), .ref (o + 2), .ref (o + 3), .int 0]) ∧ σ.2.2 (o + 1) = some (cB 8192 fun _ => 0) ∧ σ.2.2 (o + 2) = some (cI 401 fun _ => 0) ∧ σ.2.2 (o + 3) = some (cI 400 fun _ => 0)) : Pm σ o [] :=
  ⟨_, _, _, h, by simp, by simp [pl, sl], fun j hj => absurd hj (by simp [pl, sl]), fun k hk => by
    have : k = 0 := by simpa using hk
    subst this; rfl, fun k hk => absurd hk (by simp)⟩
theorem Rn_first {σ : am_S} {o bl : Nat} (h : σ.2.2 o = some (cO 5 [.ref bl, .ref (o + 1), .ref (o + 2), .ref (o + 3), .ref (o + 4), .ref (o + 5), .ref (o + 6), .int 0, .int 0]) ∧ σ.2.2 (o + 1) = some (cI 400 fun _ => 0) ∧ σ.2.2 (o + 2) = some (cI 400 fun _ => 0) ∧ σ.2.2 (o + 3) = some (cZ 400 fun _ => 0) ∧ σ.2.2 (o + 4) = some (cI 2500 fun _ => 0) ∧ σ.2.2 (o + 5) = some (cI 400 fun _ => 0) ∧ σ.2.2 (o + 6) = some (cI 400 fun _ => 0)) : Rn σ o bl := ⟨_, _, _, _, _, _, 0, 0, h⟩
theorem MM_init {σ : am_S} {F : Nat} (ho : σ.1 = 8) (hm : MkS σ) (hF : 4 < F) : ∃ σ', f_MM_init F (am_no σ 0) 8 = some σ' ∧ MMI σ' s0 ∧ IR σ σ' 8 87 525099 := by
  have n0 : (am_no σ 0).1 = 9 := by show σ.1 + 1 = 9; rw [ho]
  have U0 : (am_no σ 0).2.1 = σ.2.1 + 5 := rfl
  have o0 : (am_no σ 0).2.2 8 = some (.inr (0, [.null, .null, .null, .null, .null])) := by rw [← ho]; exact new_at
  have b0 : ∀ a, a < 8 → (am_no σ 0).2.2 a = σ.2.2 a := fun a ha => new_ne (by omega)
  generalize am_no σ 0 = τ0 at n0 U0 o0 b0 ⊢
  -- Inbox
  obtain ⟨ρ1, e1, ⟨m1, w1, x1⟩, I1, I2, I3⟩ := In_init (F := F) n0 (by omega)
  obtain ⟨τ1, f1, n1, u1, o1, k1⟩ := pa (v := 9) (k := 0) (fs' := [.ref 9, .null, .null, .null, .null]) ((x1 8 (by omega)).trans o0) (by omega) (Nat.le_of_ble_eq_true rfl) rfl
  have N1 : τ1.1 = 12 := n1.trans m1
  -- Blobs
  obtain ⟨ρ2, e2, ⟨m2, w2, x2⟩, B0, B1, B2, B3, B4, B5, B6, B7, B8, B9, B10, B11, B12⟩ := Bl_init (F := F) N1 (by omega)
  obtain ⟨τ2, f2, n2, u2, o2, k2⟩ := pa (v := 12) (k := 1) (fs' := [.ref 9, .ref 12, .null, .null, .null]) ((x2 8 (by omega)).trans o1) (by omega) (Nat.le_of_ble_eq_true rfl) rfl
  have N2 : τ2.1 = 25 := n2.trans m2
  -- the row of MAPS
  obtain ⟨ρ3, e3, m3, w3, c3, x3⟩ := nA_of (c := 4) (n := 3) (v := 3) rfl (by omega) N2
  obtain ⟨τ3, f3, n3, u3, o3, k3⟩ := pa (v := 25) (k := 2) (fs' := [.ref 9, .ref 12, .ref 25, .null, .null]) ((x3 8 (by omega)).trans o2) (by omega) (Nat.le_of_ble_eq_true rfl) rfl
  have N3 : τ3.1 = 26 := n3.trans m3
  have C3 := (k3 25 (by omega)).trans c3
  -- three MAPS
  obtain ⟨ρ4, e4, ⟨m4, w4, x4⟩, P0, P1, P2, P3⟩ := Pm_init (F := F) N3 (by omega)
  obtain ⟨τ4, f4, n4, u4, c4, k4⟩ := sA_to (w := 0) (i := 0) rfl P0 ((x4 25 (by omega)).trans C3) (by omega) (by omega) (by omega)
  have N4 : τ4.1 = 30 := n4.trans m4
  have o4 := (k4 8 (by omega)).trans ((x4 8 (by omega)).trans o3)
  obtain ⟨ρ5, e5, ⟨m5, w5, x5⟩, Q0, Q1, Q2, Q3⟩ := Pm_init (F := F) N4 (by omega)
  obtain ⟨τ5, f5, n5, u5, c5, k5⟩ := sA_to (w := 1) (i := 1) rfl Q0 ((x5 25 (by omega)).trans c4) (by omega) (by omega) (by omega)
  have N5 : τ5.1 = 34 := n5.trans m5
  have o5 := (k5 8 (by omega)).trans ((x5 8 (by omega)).trans o4)
  obtain ⟨ρ6, e6, ⟨m6, w6, x6⟩, R0, R1, R2, R3⟩ := Pm_init (F := F) N5 (by omega)
  obtain ⟨τ6, f6, n6, u6, c6, k6⟩ := sA_to (w := 2) (i := 2) rfl R0 ((x6 25 (by omega)).trans c5) (by omega) (by omega) (by omega)
  have N6 : τ6.1 = 38 := n6.trans m6
  have o6 := (k6 8 (by omega)).trans ((x6 8 (by omega)).trans o5)
  -- Renames
  have g7 : am_gA (am_no τ6 5) 0 1 8 = some 12 := gA_of (show (am_no τ6 5).2.2 8 = some (.inr (0, _)) from (new_ne (by omega)).trans o6) rfl
  obtain ⟨ρ7, e7, ⟨m7, w7, x7⟩, S0, S1, S2, S3, S4, S5, S6⟩ := Rn_init (F := F) N6 (by omega) 12
  obtain ⟨τ7, f7, n7, u7, o7, k7⟩ := pa (v := 38) (k := 3) (fs' := [.ref 9, .ref 12, .ref 25, .ref 38, .null]) ((x7 8 (by omega)).trans o6) (by omega) (Nat.le_of_ble_eq_true rfl) rfl
  have N7 : τ7.1 = 45 := n7.trans m7
  have c7 := (k7 25 (by omega)).trans ((x7 25 (by omega)).trans c6)
  -- Merging
  have z8 : (am_no τ7 6).2.2 8 = some (.inr (0, [.ref 9, .ref 12, .ref 25, .ref 38, .null])) := (new_ne (by omega)).trans o7
  have z25 := (show (am_no τ7 6).2.2 25 = τ7.2.2 25 from new_ne (by omega)).trans c7
  have g81 : am_gA (am_no τ7 6) 0 2 8 = some 25 := gA_of z8 rfl
  have g82 : am_gA (am_no τ7 6) 0 1 8 = some 12 := gA_of z8 rfl
  have l0 : am_lA (am_no τ7 6) 4 25 0 = some 26 := lA_of (i := 0) z25 (by omega) (by omega) rfl
  have l1 : am_lA (am_no τ7 6) 4 25 1 = some 30 := lA_of (i := 1) z25 (by omega) (by omega) rfl
  have l2 : am_lA (am_no τ7 6) 4 25 2 = some 34 := lA_of (i := 2) z25 (by omega) (by omega) rfl
  obtain ⟨ρ8, e8, ⟨m8, w8, x8⟩, M⟩ := Mg_init (F := F) N7 (by omega) 26 30 34 12
  obtain ⟨τ8, f8, n8, u8, o8, k8⟩ := pa (v := 45) (k := 4) (fs' := [.ref 9, .ref 12, .ref 25, .ref 38, .ref 45]) ((x8 8 (by omega)).trans o7) (by omega) (Nat.le_of_ble_eq_true rfl) rfl
  have N8 : τ8.1 = 95 := n8.trans m8
  -- what is kept
  have Y1 : Fh (fun a => a = 8 ∨ 9 ≤ a) τ0 τ1 := fun a ha => (k1 a (by omega)).trans (x1 a (by omega))
  have Y2 : Fh (fun a => a = 8 ∨ 12 ≤ a) τ1 τ2 := fun a ha => (k2 a (by omega)).trans (x2 a (by omega))
  have Y3 : Fh (fun a => a = 8 ∨ 25 ≤ a) τ2 τ3 := fun a ha => (k3 a (by omega)).trans (x3 a (by omega))
  have Y4 : Fh (fun a => a = 25 ∨ 26 ≤ a) τ3 τ4 := fun a ha => (k4 a (by omega)).trans (x4 a (by omega))
  have Y5 : Fh (fun a => a = 25 ∨ 30 ≤ a) τ4 τ5 := fun a ha => (k5 a (by omega)).trans (x5 a (by omega))
  have Y6 : Fh (fun a => a = 25 ∨ 34 ≤ a) τ5 τ6 := fun a ha => (k6 a (by omega)).trans (x6 a (by omega))
  have Y7 : Fh (fun a => a = 8 ∨ 38 ≤ a) τ6 τ7 := fun a ha => (k7 a (by omega)).trans (x7 a (by omega))
  have Y8 : Fh (fun a => a = 8 ∨ 45 ≤ a) τ7 τ8 := fun a ha => (k8 a (by omega)).trans (x8 a (by omega))
  have Z7 : Fh (fun a => a = 8 ∨ 38 ≤ a) τ6 τ8 := Y7.trans (Y8.mono fun a ha => by omega)
  have Z6 : Fh (fun a => a = 8 ∨ a = 25 ∨ 34 ≤ a) τ5 τ8 := (Y6.mono fun a ha => by omega).trans (Z7.mono fun a ha => by omega)
  have Z5 : Fh (fun a => a = 8 ∨ a = 25 ∨ 30 ≤ a) τ4 τ8 := (Y5.mono fun a ha => by omega).trans (Z6.mono fun a ha => by omega)
  have Z4 : Fh (fun a => a = 8 ∨ a = 25 ∨ 26 ≤ a) τ3 τ8 := (Y4.mono fun a ha => by omega).trans (Z5.mono fun a ha => by omega)
  have Z3 : Fh (fun a => a = 8 ∨ 25 ≤ a) τ2 τ8 := Y3.trans (Z4.mono fun a ha => by omega)
  have Z2 : Fh (fun a => a = 8 ∨ 12 ≤ a) τ1 τ8 := Y2.trans (Z3.mono fun a ha => by omega)
  have Z1 : Fh (fun a => a = 8 ∨ 9 ≤ a) τ0 τ8 := Y1.trans (Z2.mono fun a ha => by omega)
  have pm0 : Pm τ8 26 [] := ((Pm_first ⟨P0, P1, P2, P3⟩ : Pm ρ4 26 []).fh (show Fh (fun a => a = 25) ρ4 τ4 from fun a ha => k4 a ha) fun a _ _ => by omega).fh Z5 fun a _ _ => by omega
  have pm1 : Pm τ8 30 [] := ((Pm_first ⟨Q0, Q1, Q2, Q3⟩ : Pm ρ5 30 []).fh (show Fh (fun a => a = 25) ρ5 τ5 from fun a ha => k5 a ha) fun a _ _ => by omega).fh Z6 fun a _ _ => by omega
  have pm2 : Pm τ8 34 [] := ((Pm_first ⟨R0, R1, R2, R3⟩ : Pm ρ6 34 []).fh (show Fh (fun a => a = 25) ρ6 τ6 from fun a ha => k6 a ha) fun a _ _ => by omega).fh Z7 fun a _ _ => by omega
  have rn : Rn τ8 38 12 := ((Rn_first ⟨S0, S1, S2, S3, S4, S5, S6⟩ : Rn ρ7 38 12).fh (show Fh (fun a => a = 8) ρ7 τ7 from fun a ha => k7 a ha) fun a _ _ => by omega).fh Y8 fun a _ _ => by omega
  have bl : Bl ρ2 12 [] := ⟨fun _ => 0, fun _ => 0, fun _ => 0, fun _ => 0, fun _ => 0, fun _ => 0, fun _ => 0, fun _ => 0, fun _ => 0, fun _ => 0, fun _ => 0, ⟨B0, B1, B2, B3, B4, B5, B12⟩, ⟨B6, B1, B7, B8, B9, B10, B11⟩, ⟨by simp, by simp [sl], fun k h => absurd h (by simp), rfl, fun k hk => by
    have : k = 0 := by simpa using hk
    subst this; rfl, fun k h => absurd h (by simp)⟩, ⟨by simp [tls], fun i h => absurd h (by simp [tls]), fun i h => absurd h (by simp [tls]), fun b _ => rfl⟩⟩
  have wz : Wz ρ2 12 := ⟨_, B12, fun _ _ => rfl⟩
  have inb : In ρ1 9 [] [] := ⟨by simp, by simp [sl], _, _, ⟨I1, I2, I3⟩, fun j hj => absurd hj (by simp [sl]), fun k hk => absurd hk (by simp)⟩
  have q1 : Fh (fun a => a = 8) ρ1 τ1 := fun a ha => k1 a ha
  have q2 : Fh (fun a => a = 8) ρ2 τ2 := fun a ha => k2 a ha
  have q8 : Fh (fun a => a = 8) ρ8 τ8 := fun a ha => k8 a ha
  refine ⟨τ8, ?_, ⟨by omega, o8, ⟨_, (Z7 25 (by omega)).trans c6, fun j hj => ?_⟩, (inb.fh q1 fun a _ _ => by omega).fh Z2 fun a _ _ => by omega, (bl.fh q2 fun a _ _ => by omega).fh Z3 fun a _ _ => by omega, (wz.fh q2 (by omega)).fh Z3 (by omega), fun k hk => ?_, rn, ⟨73, 84, ?_⟩, ?_⟩, N8, ?_, fun a ha => (Z1 a (by omega)).trans (b0 a ha)⟩
  · obtain ⟨F', rfl⟩ : ∃ F', F = F' + 4 := ⟨F - 4, by omega⟩
    unfold f_MM_init
    have h2 : am_gA τ3 0 2 8 = some 25 := gA_of o3 rfl
    have h3 : am_gA τ4 0 2 8 = some 25 := gA_of o4 rfl
    have h4 : am_gA τ5 0 2 8 = some 25 := gA_of o5 rfl
    rw [am_ck_of o0]
    simp only [n0, e1, Option.bind_some, f1, N1, e2, f2, e3, am_b2, f3]
    rw [f_MM_init_l36, if_neg (by decide)]
    simp only [h2, Option.bind_some, N3, e4, f4]
    rw [f_MM_init_l36, if_neg (by decide)]
    simp only [h3, Option.bind_some, N4, e5, show (0 : Int32) + 1 = 1 from rfl, f5]
    rw [f_MM_init_l36, if_neg (by decide)]
    simp only [h4, Option.bind_some, N5, e6, show (1 : Int32) + 1 = 2 from rfl, f6]
    rw [f_MM_init_l36, if_pos (by decide)]
    unfold f_MM_init_j60
    simp only [g7, Option.bind_some, N6, e7, f7, g81, g82, l0, l1, l2, N7, e8, f8]
  · have : j = 0 ∨ j = 1 ∨ j = 2 := by omega
    rcases this with rfl | rfl | rfl <;> rfl
  · have : k = 0 ∨ k = 1 ∨ k = 2 := by omega
    rcases this with rfl | rfl | rfl
    · exact pm0
    · exact pm1
    · exact pm2
  · obtain ⟨G0, G1, G2, G3, G4, G5, T0, T1, T2, T3, T4, T5, T6, V0, V1, V2, V3, V4, V5, V6, W0, W1, W2, W3, W4, W5, W6, W7, A0, A1, A2, A3, A4, A5, A6, A7, A8, A9, A10, D0, D1, D2, D3, D4, D5, D6, D7, D8, D9, D10⟩ := M
    have oc : ∀ {o : Nat}, ρ8.2.2 o = some (cO 9 [.ref 12, .ref (o + 1), .ref (o + 5), .ref (o + 6), .ref (o + 7), .ref (o + 8), .ref (o + 9), .ref (o + 10), .int 0, .int 0]) → (ρ8.2.2 (o + 1) = some (cO 4 [.ref (o + 1 + 1), .ref (o + 1 + 2), .ref (o + 1 + 3), .int 0]) ∧ ρ8.2.2 (o + 1 + 1) = some (cB 8192 fun _ => 0) ∧ ρ8.2.2 (o + 1 + 2) = some (cI 401 fun _ => 0) ∧ ρ8.2.2 (o + 1 + 3) = some (cI 400 fun _ => 0)) → ρ8.2.2 (o + 5) = some (cZ 400 fun _ => 0) → ρ8.2.2 (o + 6) = some (cI 1200 fun _ => 0) → ρ8.2.2 (o + 7) = some (cI 400 fun _ => 0) → ρ8.2.2 (o + 8) = some (cI 400 fun _ => 0) → ρ8.2.2 (o + 9) = some (cI 400 fun _ => 0) → ρ8.2.2 (o + 10) = some (cB 65536 fun _ => 0) → Oc ρ8 o 12 [] [] := by
      intro o a0 a1 a2 a3 a4 a5 a6 a7
      exact ⟨_, _, _, _, _, _, ⟨a0, a2, a3, a4, a5, a6, a7⟩, fun r h => absurd h (by simp), Pm_first a1, rfl, Nat.zero_le _⟩
    have oc1 : Oc ρ8 73 12 [] [] := oc A0 ⟨A1, A2, A3, A4⟩ A5 A6 A7 A8 A9 A10
    have oc2 : Oc ρ8 84 12 [] [] := oc D0 ⟨D1, D2, D3, D4⟩ D5 D6 D7 D8 D9 D10
    have mg : MgF ρ8 45 26 30 34 12 73 84 := ⟨⟨0, G0⟩, ⟨_, G1⟩, ⟨_, G2⟩, ⟨_, G3⟩, ⟨_, G4⟩, ⟨_, G5⟩, Rn_first ⟨T0, T1, T2, T3, T4, T5, T6⟩, Rn_first ⟨V0, V1, V2, V3, V4, V5, V6⟩, ⟨⟨0, 0, 0, W0⟩, ⟨_, W1⟩, ⟨_, W2⟩, ⟨_, W3⟩, ⟨_, W4⟩, ⟨0, 0, 0, W5⟩, ⟨0, 0, 0, W6⟩, ⟨0, 0, 0, W7⟩⟩, Or.inl ⟨rfl, rfl⟩⟩
    exact ⟨mg.fh q8 fun a _ _ => by omega, oc1.fh q8 fun a _ _ => by omega, [], [], oc2.fh q8 fun a _ _ => by omega⟩
  · exact hm.fh (show Fh (fun a => 8 ≤ a) σ τ8 from fun a ha => (Z1 a (by omega)).trans (b0 a (by omega))) fun a ha => by omega
  · omega
