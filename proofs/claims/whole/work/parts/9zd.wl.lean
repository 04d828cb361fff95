/-! ===== L3: the law says 1 ===== -/
theorem Ro.cap {g : Gh} {σ : am_S} {r : Nat} {t : List Int32} (h : Ro g σ r t) : g.2 r ≤ 131072 := by
  obtain ⟨a, f, h1, h2, h3, o, h4, h5, h6, h7, h8⟩ := h
  exact h6
theorem pig4 {a b c d r : Nat} (ha : a = 121 ∨ a = 123 ∨ a = 125 ∨ a = 127) (hb : b = 121 ∨ b = 123 ∨ b = 125 ∨ b = 127) (hc : c = 121 ∨ c = 123 ∨ c = 125 ∨ c = 127) (hd : d = 121 ∨ d = 123 ∨ d = 125 ∨ d = 127) (hr : r = 121 ∨ r = 123 ∨ r = 125 ∨ r = 127) (n01 : a ≠ b) (n02 : a ≠ c) (n03 : a ≠ d) (n12 : b ≠ c) (n13 : b ≠ d) (n23 : c ≠ d) : a = r ∨ b = r ∨ c = r ∨ d = r := by
  rcases hr with rfl | rfl | rfl | rfl <;> rcases ha with rfl | rfl | rfl | rfl <;> first | exact Or.inl rfl | (rcases hb with rfl | rfl | rfl | rfl <;> first | exact absurd rfl n01 | exact Or.inr (Or.inl rfl) | (rcases hc with rfl | rfl | rfl | rfl <;> first | exact absurd rfl n02 | exact absurd rfl n12 | exact Or.inr (Or.inr (Or.inl rfl)) | (rcases hd with rfl | rfl | rfl | rfl <;> first | exact absurd rfl n03 | exact absurd rfl n13 | exact absurd rfl n23 | exact Or.inr (Or.inr (Or.inr rfl)))))
theorem ARG.cap {g : Gh} {σ : am_S} {as : List (List Int32)} (h : ARG g σ as) {r : Nat} (hr : r = 121 ∨ r = 123 ∨ r = 125 ∨ r = 127) : g.2 r ≤ 131072 := by
  obtain ⟨A, f, -, a2, a3, -, a5, -⟩ := h
  have n : ∀ i j, i < 4 → j < 4 → i ≠ j → A i ≠ A j := fun i j hi hj hn z => hn (a3 i j hi hj z)
  have hh := pig4 (a2 0 (by decide)).2 (a2 1 (by decide)).2 (a2 2 (by decide)).2 (a2 3 (by decide)).2 hr (n 0 1 (by decide) (by decide) (by decide)) (n 0 2 (by decide) (by decide) (by decide)) (n 0 3 (by decide) (by decide) (by decide)) (n 1 2 (by decide) (by decide) (by decide)) (n 1 3 (by decide) (by decide) (by decide)) (n 2 3 (by decide) (by decide) (by decide))
  rcases hh with z | z | z | z
  · obtain ⟨t, ht⟩ := a5 0 (by decide)
    rw [z] at ht
    exact ht.cap
  · obtain ⟨t, ht⟩ := a5 1 (by decide)
    rw [z] at ht
    exact ht.cap
  · obtain ⟨t, ht⟩ := a5 2 (by decide)
    rw [z] at ht
    exact ht.cap
  · obtain ⟨t, ht⟩ := a5 3 (by decide)
    rw [z] at ht
    exact ht.cap
theorem csum_le {c : Nat → Nat} (h : ∀ r, r ∈ RL → c r ≤ 131072) : csum c ≤ 2490368 := by
  have H : ∀ l : List Nat, (∀ r, r ∈ l → c r ≤ 131072) → (l.map c).sum ≤ l.length * 131072 := by
    intro l
    induction l with
    | nil => intro _; simp
    | cons a l ih =>
      intro h
      have h1 := h a List.mem_cons_self
      have h2 := ih fun r hr => h r (List.mem_cons_of_mem _ hr)
      simp only [List.map_cons, List.sum_cons, List.length_cons, Nat.succ_mul]
      omega
  exact H RL h
theorem MDI.cap {g : Gh} {σ : am_S} {th : Int32} {s : MSS} (h : MDI g σ th s) : csum g.2 ≤ 2490368 := by
  obtain ⟨-, -, -, -, h5, h6, h7, h8, ⟨-, x2, ⟨Q3, x3⟩, ⟨Q4, x4⟩, ⟨u5, x5⟩, ⟨u6, x6⟩⟩, ⟨Q, h10⟩, ⟨Qs, Ts, sf, sb, s1, s2, -⟩⟩ := h
  obtain ⟨t0, r0⟩ := x2.2 0 (by decide)
  obtain ⟨t1, r1⟩ := x2.2 1 (by decide)
  obtain ⟨t2, r2⟩ := x2.2 2 (by decide)
  refine csum_le fun r hr => ?_
  simp only [RL, List.mem_cons, List.not_mem_nil, or_false] at hr
  rcases hr with rfl | rfl | rfl | rfl | rfl | rfl | rfl | rfl | rfl | rfl | rfl | rfl | rfl | rfl | rfl | rfl | rfl | rfl | rfl
  · exact (Ps_row (h8 0 (by decide))).cap
  · exact (Ps_row (h8 1 (by decide))).cap
  · exact (Ps_row (h8 2 (by decide))).cap
  · exact h5.1.cap
  · exact h6.cap
  · exact h7.cap (.inl rfl)
  · exact h7.cap (.inr (.inl rfl))
  · exact h7.cap (.inr (.inr (.inl rfl)))
  · exact h7.cap (.inr (.inr (.inr rfl)))
  · exact r0.cap
  · exact r1.cap
  · exact r2.cap
  · exact (Ps_row x3).cap
  · exact (Ps_row x4).cap
  · exact x5.cap
  · exact x6.cap
  · exact (Ps_row h10).cap
  · exact (Ps_row s1).cap
  · exact s2.cap
theorem MSW_s0 : MSW s0 := ⟨fun x hx => absurd hx (by simp [s0]), fun k _ => ⟨Srt.nil, VB.nil _, fun i j hi => absurd hi (by simp [s0])⟩, fun i hi => absurd hi (by simp [s0])⟩
theorem csum_g0 : csum g0.2 = 12352 := by decide
theorem wl_init {L : Nat} {xs : Nat → Int32} {F : Nat} {σ : am_S} (o1 : σ.1 = 8) (o2 : σ.2.1 = 0) (hm : MkS σ) (o3 : σ.2.2 0 = some (.inl (.int, L, fun j => .int (xs j)))) (hF : 4 < F) : ∃ σ4, f_Lw_law F σ 0 = f_Lw_law_l23 F 0 8 95 186 F 0 σ4 ∧ LI L xs g0 σ4 s0 0 := by
  obtain ⟨σ1, a1, a2, a3, a4, a5⟩ := MM_init (F := F) o1 hm hF
  have n1 : σ1.1 = 95 := a3
  obtain ⟨σ2, b1, b2, b3, b4, b5⟩ := Md_first (F := F) n1 a2.2.2.2.2.2.2.2.2.2 hF
  have n2 : σ2.1 = 186 := b3
  have e3 : am_na σ2 .long 1 = some (186, am_new σ2 1 (.inl (.long, 1, fun _ => defaultValue .long))) := by
    unfold am_na
    rw [if_neg (by decide), n2]
    rfl
  generalize hσ : am_new σ2 1 (.inl (.long, 1, fun _ => defaultValue .long)) = σ4 at e3
  have n4 : σ4.1 = 187 := by rw [← hσ]; show σ2.1 + 1 = 187; rw [n2]
  have u4 : σ4.2.1 = σ2.2.1 + 1 := by rw [← hσ]; rfl
  have c4 : σ4.2.2 186 = some (.inl (.long, 1, fun _ => defaultValue .long)) := by rw [← hσ, ← n2]; exact new_at
  have k4 : ∀ a, a ≠ 186 → σ4.2.2 a = σ2.2.2 a := fun a ha => by rw [← hσ]; exact new_ne (by rw [n2]; exact ha)
  have hFh : Fh (fun a => 95 ≤ a) σ1 σ4 := fun a ha => (k4 a (by omega)).trans (b5 a (by omega))
  have hg : gW g0 σ4 := ⟨by omega, fun a ha => by
    rcases ha with z | z
    · exact g0_low (by omega)
    · rw [z]; decide⟩
  have hX : MDX g0 σ4 0 s0 := b2.fw (T := fun _ => False) (fun a ha => g0_low (by omega)) (by omega) ⟨by omega, fun a ha _ => k4 a (by omega)⟩ fun a _ z => z
  have hc := csum_g0
  generalize csum g0.2 = cc at hc
  refine ⟨σ4, ?_, a2.fh hFh (fun a ha => by omega) (by omega), ⟨0, show gW g0 σ4 ∧ MDX g0 σ4 0 s0 from ⟨hg, hX⟩⟩, MSW_s0, ((k4 0 (by omega)).trans ((b5 0 (by omega)).trans (a5 0 (by omega)))).trans o3, ⟨_, c4⟩, by omega, by omega⟩
  unfold f_Lw_law
  rw [o1, a1, Option.bind_some, n1, b1, Option.bind_some, e3]
  rfl
theorem wl_run {L : Nat} {xs : Nat → Int32} {F : Nat} {σ : am_S} (o1 : σ.1 = 8) (o2 : σ.2.1 = 0) (hm : MkS σ) (o3 : σ.2.2 0 = some (.inl (.int, L, fun j => .int (xs j)))) (hL : L ≤ 3072) (hF : 200000 ≤ F) : ∃ σ', f_Lw_law F σ 0 = some (1, σ') ∧ σ'.1 - 8 ≤ 601024 ∧ σ'.2.1 - 0 ≤ 7293034 := by
  obtain ⟨σ4, e4, hI⟩ := wl_init (L := L) (xs := xs) (F := F) o1 o2 hm o3 (by omega)
  obtain ⟨g', σ', s', k', r1, r2, r3⟩ := law_loop (F := F) hL hF F 0 g0 σ4 s0 hI (by omega) (by omega)
  have e0 : nI (6 * 0) = 0 := by decide
  rw [e0] at r1
  refine ⟨σ', e4.trans r1, ?_⟩
  obtain ⟨-, ⟨th, hD⟩, -, -, -, i6, i7⟩ := r2
  have hc := MDI.cap hD
  have hc0 := csum_g0
  constructor
  · omega
  · omega
theorem wl_all (L : Nat) (xs : Nat → Int32) (hL : L ≤ 3072) : ∃ (F : Nat) (σ' : am_S), f_Lw_law F (8, 0, am_h0 L xs) 0 = some (1, σ') ∧ σ'.1 - 8 ≤ 601024 ∧ σ'.2.1 - 0 ≤ 7293034 :=
  ⟨200000, wl_run rfl rfl ⟨rfl, rfl, rfl⟩ rfl hL (Nat.le_refl _)⟩
