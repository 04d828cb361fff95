/-! ===== L3: the law says 1 ===== -/
theorem Ro.cap {g : Gh} {σ : am_S} {r : Nat} {t : List Int32} (h : Ro g σ r t) : g.2 r ≤ 131072 := by
  obtain ⟨a, f, h1, h2, h3, o, h4, h5, h6, h7, h8⟩ := h
  exact h6
theorem MDI.cap {g : Gh} {σ : am_S} {th : Int32} {s : MSS} (h : MDI g σ th s) : csum g.2 ≤ 2490368 := by
  obtain ⟨-, -, -, -, h5, h6, h7, h8, ⟨-, x2, ⟨Q3, x3⟩, ⟨Q4, x4⟩, ⟨u5, x5⟩, ⟨u6, x6⟩⟩, ⟨Q, h10⟩, ⟨Qs, Ts, sf, sb, s1, s2, -⟩⟩ := h
  obtain ⟨A, f, -, a2, a3, -, a5, -⟩ := h7
  have k98 := (Ps_row (h8 0 (by omega))).cap
  have k104 := (Ps_row (h8 1 (by omega))).cap
  have k110 := (Ps_row (h8 2 (by omega))).cap
  have k115 := h5.1.cap
  have k118 := h6.cap
  have rowA : ∀ r, (r = 121 ∨ r = 123 ∨ r = 125 ∨ r = 127) → g.2 r ≤ 131072 := by
    intro r hr
    have b0 := (a2 0 (by omega)).2
    have b1 := (a2 1 (by omega)).2
    have b2 := (a2 2 (by omega)).2
    have b3 := (a2 3 (by omega)).2
    have n01 : A 0 ≠ A 1 := fun z => absurd (a3 0 1 (by omega) (by omega) z) (by omega)
    have n02 : A 0 ≠ A 2 := fun z => absurd (a3 0 2 (by omega) (by omega) z) (by omega)
    have n03 : A 0 ≠ A 3 := fun z => absurd (a3 0 3 (by omega) (by omega) z) (by omega)
    have n12 : A 1 ≠ A 2 := fun z => absurd (a3 1 2 (by omega) (by omega) z) (by omega)
    have n13 : A 1 ≠ A 3 := fun z => absurd (a3 1 3 (by omega) (by omega) z) (by omega)
    have n23 : A 2 ≠ A 3 := fun z => absurd (a3 2 3 (by omega) (by omega) z) (by omega)
    have hh : A 0 = r ∨ A 1 = r ∨ A 2 = r ∨ A 3 = r := by omega
    rcases hh with z | z | z | z
    · obtain ⟨t, ht⟩ := a5 0 (by omega); rw [z] at ht; exact ht.cap
    · obtain ⟨t, ht⟩ := a5 1 (by omega); rw [z] at ht; exact ht.cap
    · obtain ⟨t, ht⟩ := a5 2 (by omega); rw [z] at ht; exact ht.cap
    · obtain ⟨t, ht⟩ := a5 3 (by omega); rw [z] at ht; exact ht.cap
  have k121 := rowA 121 (by omega)
  have k123 := rowA 123 (by omega)
  have k125 := rowA 125 (by omega)
  have k127 := rowA 127 (by omega)
  obtain ⟨t0, r0⟩ := x2.2 0 (by omega)
  obtain ⟨t1, r1⟩ := x2.2 1 (by omega)
  obtain ⟨t2, r2⟩ := x2.2 2 (by omega)
  have k130 : g.2 130 ≤ 131072 := r0.cap
  have k132 : g.2 132 ≤ 131072 := r1.cap
  have k134 : g.2 134 ≤ 131072 := r2.cap
  have k146 : g.2 146 ≤ 131072 := (Ps_row x3).cap
  have k152 : g.2 152 ≤ 131072 := (Ps_row x4).cap
  have k162 := x5.cap
  have k164 := x6.cap
  have k171 : g.2 171 ≤ 131072 := (Ps_row h10).cap
  have k177 : g.2 177 ≤ 131072 := (Ps_row s1).cap
  have k182 := s2.cap
  have l98 : g.2 98 ≤ 131072 := k98
  have l104 : g.2 104 ≤ 131072 := k104
  have l110 : g.2 110 ≤ 131072 := k110
  unfold csum
  simp only [RL, List.map_cons, List.map_nil, List.sum_cons, List.sum_nil]
  omega
theorem MSW_s0 : MSW s0 := ⟨fun x hx => absurd hx (by simp [s0]), fun k _ => ⟨Srt.nil, VB.nil _, fun i j hi => absurd hi (by simp [s0])⟩, fun i hi => absurd hi (by simp [s0])⟩
theorem wl_all (L : Nat) (xs : Nat → Int32) (hL : L ≤ 3072) : ∃ (F : Nat) (σ' : am_S), f_Lw_law F (8, 0, am_h0 L xs) 0 = some (1, σ') ∧ σ'.1 - 8 ≤ 601024 ∧ σ'.2.1 - 0 ≤ 7293034 := by
  generalize hF0 : (200000 : Nat) = F
  have hF : 200000 ≤ F := by omega
  have hm : MkS (8, 0, am_h0 L xs) := ⟨rfl, rfl, rfl⟩
  obtain ⟨σ1, a1, a2, a3, a4, a5⟩ := MM_init (F := F) (σ := (8, 0, am_h0 L xs)) rfl hm (by omega)
  have n1 : σ1.1 = 95 := a3
  obtain ⟨σ2, b1, b2, b3, b4, b5⟩ := Md_first (F := F) n1 a2.2.2.2.2.2.2.2.2.2 (by omega)
  have n2 : σ2.1 = 186 := b3
  have e3 : am_na σ2 .long 1 = some (186, am_new σ2 1 (.inl (.long, 1, fun _ => defaultValue .long))) := by
    unfold am_na
    rw [if_neg (by decide), n2]
    rfl
  generalize hσ : am_new σ2 1 (.inl (.long, 1, fun _ => defaultValue .long)) = σ4 at e3
  have n4 : σ4.1 = 187 := by rw [← hσ]; show σ2.1 + 1 = 187; rw [n2]
  have u4 : σ4.2.1 = σ2.2.1 + 1 := by rw [← hσ]; rfl
  have c4 : σ4.2.2 186 = some (.inl (.long, 1, fun _ => defaultValue .long)) := by rw [← hσ, ← n2]; exact new_at
  have k4 : ∀ a, a ≠ 186 → σ4.2.2 a = σ2.2.2 a := fun a ha => by rw [← hσ]; exact new_ne (by rw [n2]; exact ha)
  have hFh : Fh (fun a => 95 ≤ a) σ1 σ4 := fun a ha => (k4 a (by omega)).trans (b5 a (by omega))
  have hg : gW g0 σ4 := ⟨by omega, fun a ha => by
    rcases ha with z | z
    · exact g0_low (by omega)
    · rw [z]; decide⟩
  have hX : MDX g0 σ4 0 s0 := b2.fw (T := fun _ => False) (fun a ha => g0_low (by omega)) (by omega) ⟨by omega, fun a ha _ => k4 a (by omega)⟩ fun a _ z => z
  have hI : LI L xs g0 σ4 s0 0 := ⟨a2.fh hFh (fun a ha => by omega) (by omega), ⟨0, show gW g0 σ4 ∧ MDX g0 σ4 0 s0 from ⟨hg, hX⟩⟩, MSW_s0, ((k4 0 (by omega)).trans ((b5 0 (by omega)).trans (a5 0 (by omega)))).trans rfl, ⟨_, c4⟩, by simp only at a4; omega, by simp only at a4; omega⟩
  obtain ⟨g', σ', s', k', r1, r2, r3⟩ := law_loop (F := F) hL hF F 0 g0 σ4 s0 hI (by omega) (by omega)
  refine ⟨F, σ', ?_, ?_⟩
  · unfold f_Lw_law
    rw [show (f_MM_init F (am_no (8, 0, am_h0 L xs) 0) (8, 0, am_h0 L xs).1) = some σ1 from a1, Option.bind_some, n1, b1, Option.bind_some, e3]
    simp only [am_b2, Option.bind_some]
    exact r1
  · obtain ⟨-, ⟨th, hD⟩, -, -, -, i6, i7⟩ := r2
    have hc := hD.cap
    have hc0 : csum g0.2 = 12352 := by decide
    constructor
    · omega
    · omega
