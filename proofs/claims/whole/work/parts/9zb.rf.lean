/-! ===== L3: the reference's first state ===== -/
/-- what may have changed, with no word of room -/
def Fw (T : Nat → Prop) (g : Gh) (σ σ' : am_S) : Prop := σ.1 ≤ σ'.1 ∧ ∀ a, a < σ.1 → ¬ T (g.1 a) → σ'.2.2 a = σ.2.2 a
section FW
variable {T : Nat → Prop} {g : Gh} {σ σ1 : am_S}
theorem Ce.fw {a : Nat} {x : am_C} (h : Ce g σ a x) (hf : Fw T g σ σ1) (hT : ¬ T a) : Ce g σ1 a x := ⟨(hf.2 a h.2.2 (by rw [h.2.1]; exact hT)).trans h.1, h.2.1, Nat.lt_of_lt_of_le h.2.2 hf.1⟩
theorem Ro.fw {r : Nat} {t : List Int32} (h : Ro g σ r t) (hf : Fw T g σ σ1) (hT : ¬ T r) : Ro g σ1 r t := by
  obtain ⟨a, f, h1, h2, h3, ⟨o1, o2, o3, o4, o5, o6, o7⟩, h⟩ := h
  obtain ⟨a1, a3⟩ := hf
  exact ⟨a, f, (a3 r o2 (by rw [o1]; exact hT)).trans h1, (a3 a o4 (by rw [o3]; exact hT)).trans h2, h3, ⟨o1, by omega, o3, by omega, o5, o6, o7⟩, h⟩
theorem Ps.fw {p : Nat} {Q : List Pe} (h : Ps g σ p Q) (hf : Fw T g σ σ1) (hT : ∀ a, p ≤ a → a ≤ p + 5 → ¬ T a) : Ps g σ1 p Q := by
  obtain ⟨fr, bl, un, h1, h2, h3, h4, h5, h⟩ := h
  exact ⟨fr, bl, un, h1.fw hf (hT _ (by omega) (by omega)), h2.fw hf (hT _ (by omega) (by omega)), h3.fw hf (hT _ (by omega) (by omega)), h4.fw hf (hT _ (by omega) (by omega)), h5.fw hf (hT _ (by omega) (by omega)), h⟩
theorem SCA.fw (h : SCA g σ) (hf : Fw T g σ σ1) (hT : ∀ a, (136 ≤ a ∧ a ≤ 144) ∨ (157 ≤ a ∧ a ≤ 161) ∨ (166 ≤ a ∧ a ≤ 169) → ¬ T a) : SCA g σ1 := fun a ty n ha => by
  obtain ⟨f, h1⟩ := h a ty n ha
  exact ⟨f, h1.fw hf (hT a (scT_in ha))⟩
theorem ARG.fw {as : List (List Int32)} (h : ARG g σ as) (hf : Fw T g σ σ1) (hT : ∀ a, 120 ≤ a → a ≤ 128 → ¬ T a) : ARG g σ1 as := by
  obtain ⟨A, f, h1, h2, h3, h4, h5, h6⟩ := h
  refine ⟨A, f, h1.fw hf (hT _ (by omega) (by omega)), h2, h3, fun j hj => ?_, fun j hj => ?_, h6⟩
  · have := (h2 j (by omega)).2
    exact (h4 j hj).fw hf (hT _ (by omega) (by omega))
  · have := (h2 j hj).2
    obtain ⟨t, ht⟩ := h5 j hj
    exact ⟨t, ht.fw hf (hT _ (by omega) (by omega))⟩
theorem TXA.fw (h : TXA g σ) (hf : Fw T g σ σ1) (hT : ∀ a, 129 ≤ a → a ≤ 135 → ¬ T a) : TXA g σ1 := by
  obtain ⟨⟨f, h1, h2⟩, h3⟩ := h
  refine ⟨⟨f, h1.fw hf (hT _ (by omega) (by omega)), h2⟩, fun j hj => ?_⟩
  obtain ⟨t, ht⟩ := h3 j hj
  exact ⟨t, ht.fw hf (hT _ (by omega) (by omega))⟩
theorem BLK.fw {B : List (List Int32)} (h : BLK g σ B) (hf : Fw T g σ σ1) (h1 : ¬ T 115) (h2 : ¬ T 117) : BLK g σ1 B := by
  obtain ⟨b1, b2, bf, b3, b4⟩ := h
  exact ⟨b1.fw hf h1, b2, bf, b3.fw hf h2, b4⟩
theorem MPA.fw (h : MPA g σ) (hf : Fw T g σ σ1) (hT : ¬ T 96) : MPA g σ1 := by
  obtain ⟨f, h1, h2⟩ := h
  exact ⟨f, h1.fw hf hT, h2⟩
theorem SEE.fw {Pl : PL} {L : List Rc} (h : SEE g σ Pl L) (hf : Fw T g σ σ1) (hT : ∀ a, 176 ≤ a → a ≤ 185 → ¬ T a) : SEE g σ1 Pl L := by
  obtain ⟨Q, Tx, sf, sb, h1, h2, h3, h4, h5⟩ := h
  exact ⟨Q, Tx, sf, sb, h1.fw hf fun a _ _ => hT a (by omega) (by omega), h2.fw hf (hT _ (by omega) (by omega)), h3.fw hf (hT _ (by omega) (by omega)), h4.fw hf (hT _ (by omega) (by omega)), h5⟩
theorem SCR.fw (h : SCR g σ) (hf : Fw T g σ σ1) (hT : ∀ a, 129 ≤ a → a ≤ 169 → ¬ T a) : SCR g σ1 := by
  obtain ⟨h1, h2, ⟨Q1, h3⟩, ⟨Q2, h4⟩, ⟨t1, h5⟩, ⟨t2, h6⟩⟩ := h
  exact ⟨h1.fw hf fun a ha => hT a (by omega) (by omega), h2.fw hf fun a _ _ => hT a (by omega) (by omega), ⟨Q1, h3.fw hf fun a _ _ => hT a (by omega) (by omega)⟩, ⟨Q2, h4.fw hf fun a _ _ => hT a (by omega) (by omega)⟩, ⟨t1, h5.fw hf (hT _ (by omega) (by omega))⟩, ⟨t2, h6.fw hf (hT _ (by omega) (by omega))⟩⟩
/-- all but the room -/
def MDX (g : Gh) (σ : am_S) (th : Int32) (s : MSS) : Prop := MkS σ ∧ (∃ gm cm fm, Ce g σ 95 (MDC th (nI s.2.2.1.length) (nI s.1.length) gm cm fm)) ∧ MPA g σ ∧ BLK g σ s.2.2.1 ∧ Ro g σ 118 s.2.1 ∧ ARG g σ s.1 ∧ (∀ k, k < 3 → Ps g σ (97 + 6 * k) (mpE (s.2.2.2.1 k))) ∧ SCR g σ ∧ (∃ Q, Ps g σ 170 Q) ∧ SEE g σ s.2.2.2.2.1 s.2.2.2.2.2
theorem MDX.fw {th : Int32} {s : MSS} (h : MDX g σ th s) (hg : ∀ a, a < 8 → g.1 a = a) (h8 : 8 ≤ σ.1) (hf : Fw T g σ σ1) (hT : ∀ a, a < 8 ∨ 95 ≤ a ∧ a < 186 → ¬ T a) : MDX g σ1 th s := by
  obtain ⟨⟨m1, m2, m3⟩, ⟨gm, cm, fm, h3⟩, h4, h5, h6, h7, h8', h9, ⟨Q, h10⟩, h11⟩ := h
  have key : ∀ {a : Nat} {x : Option am_C}, a < 8 → σ.2.2 a = x → σ1.2.2 a = x := fun {a x} ha hx => (hf.2 a (by omega) (by rw [hg a ha]; exact hT a (by omega))).trans hx
  exact ⟨⟨key (by omega) m1, key (by omega) m2, key (by omega) m3⟩, ⟨gm, cm, fm, h3.fw hf (hT _ (by omega))⟩, h4.fw hf (hT _ (by omega)), h5.fw hf (hT _ (by omega)) (hT _ (by omega)), h6.fw hf (hT _ (by omega)), h7.fw hf fun a _ _ => hT a (by omega), fun k hk => (h8' k hk).fw hf fun a _ _ => hT a (by omega), h9.fw hf fun a _ _ => hT a (by omega), ⟨Q, h10.fw hf fun a _ _ => hT a (by omega)⟩, h11.fw hf fun a _ _ => hT a (by omega)⟩
end FW
/-- whose the cells are at first, and how long the rows are -/
def g0 : Gh := (fun a => if a - 1 ∈ RL then a - 1 else a, fun r => if r ∈ [118, 121, 123, 125, 127] then 64 else if r ∈ [130, 132, 134] then 256 else 1024)
theorem g0_rl : ∀ r ∈ RL, g0.1 r = r ∧ g0.1 (r + 1) = r ∧ 8 ≤ r ∧ 16 ≤ g0.2 r ∧ g0.2 r ≤ 131072 := by decide
theorem g0_low {a : Nat} (h : a < 99) : g0.1 a = a := by
  simp only [g0]
  rw [if_neg]
  intro z
  simp only [RL, List.mem_cons, List.not_mem_nil, or_false] at z
  omega
theorem g0_self : ∀ a ∈ [95, 96, 97, 100, 101, 102, 103, 106, 107, 108, 109, 112, 113, 114, 117, 120, 129, 136, 137, 138, 139, 140, 141, 142, 143, 144, 145, 148, 149, 150, 151, 154, 155, 156, 157, 158, 159, 160, 161, 166, 167, 168, 169, 170, 173, 174, 175, 176, 179, 180, 181, 184, 185, 186], g0.1 a = a := by decide
section RF
variable {σ : am_S}
theorem Ro_first {r n : Nat} (h1 : σ.2.2 r = some (cO 12 [.ref (r + 1), .int 0])) (h2 : σ.2.2 (r + 1) = some (cB n fun _ => 0)) (hr : r ∈ RL) (hc : g0.2 r = n) (hlt : r + 1 < σ.1) : Ro g0 σ r [] := by
  obtain ⟨k1, k2, k3, k4, k5⟩ := g0_rl r hr
  exact ⟨r + 1, fun _ => 0, h1, by rw [hc]; exact h2, rfl, ⟨k1, by omega, k2, hlt, by omega, by omega, k3⟩, Nat.zero_le _, k4, k5, fun x hx => absurd hx (by simp), hr⟩
theorem Ce_first {a : Nat} {x : am_C} (h : σ.2.2 a = some x) (ha : g0.1 a = a) (hlt : a < σ.1) : Ce g0 σ a x := ⟨h, ha, hlt⟩
theorem Ps_first {p : Nat} (h0 : σ.2.2 p = some (cO 11 [.ref (p + 1), .ref (p + 3), .ref (p + 4), .ref (p + 5), .int 0])) (h1 : σ.2.2 (p + 1) = some (cO 12 [.ref (p + 2), .int 0])) (h2 : σ.2.2 (p + 2) = some (cB 1024 fun _ => 0)) (h3 : σ.2.2 (p + 3) = some (cI 1700 fun _ => 0)) (h4 : σ.2.2 (p + 4) = some (cI 5100 fun _ => 0)) (h5 : σ.2.2 (p + 5) = some (cZ 1700 fun _ => 0)) (hr : p + 1 ∈ RL) (hc : g0.2 (p + 1) = 1024) (hg : g0.1 p = p ∧ g0.1 (p + 3) = p + 3 ∧ g0.1 (p + 4) = p + 4 ∧ g0.1 (p + 5) = p + 5) (h8 : 8 ≤ p) (hlt : p + 5 < σ.1) : Ps g0 σ p [] := by
  refine ⟨_, _, _, Ce_first h0 hg.1 (by omega), Ro_first h1 h2 hr hc (by omega), Ce_first h3 hg.2.1 (by omega), Ce_first h4 hg.2.2.1 (by omega), Ce_first h5 hg.2.2.2 (by omega), h8, by simp, fun k hk => ?_, fun k hk => absurd hk (by simp)⟩
  have : k = 0 := by simpa using hk
  subst this
  rfl
end RF
theorem Md_first {σ : am_S} {F : Nat} (ho : σ.1 = 95) (hm : MkS σ) (hF : 4 < F) : ∃ σ', f_Md_init F (am_no σ 10) 95 = some σ' ∧ MDX g0 σ' 0 s0 ∧ IR σ σ' 95 91 96692 := by
  obtain ⟨τ, e, ⟨n1, u1, b1⟩, D95, D96, p0a, p0b, p0c, p0d, p0e, p0f, p1a, p1b, p1c, p1d, p1e, p1f, p2a, p2b, p2c, p2d, p2e, p2f, r115, r116, c117, r118, r119, D120, r121, r122, r123, r124, r125, r126, r127, r128, D129, r130, r131, r132, r133, r134, r135, c136, c137, c138, c139, c140, c141, c142, c143, c144, p3a, p3b, p3c, p3d, p3e, p3f, p4a, p4b, p4c, p4d, p4e, p4f, c157, c158, c159, c160, c161, r162, r163, r164, r165, c166, c167, c168, c169, p5a, p5b, p5c, p5d, p5e, p5f, p6a, p6b, p6c, p6d, p6e, p6f, r182, r183, c184, c185⟩ := Md_init (F := F) ho (by omega)
  have S : ∀ a, a ∈ [95, 96, 97, 100, 101, 102, 103, 106, 107, 108, 109, 112, 113, 114, 117, 120, 129, 136, 137, 138, 139, 140, 141, 142, 143, 144, 145, 148, 149, 150, 151, 154, 155, 156, 157, 158, 159, 160, 161, 166, 167, 168, 169, 170, 173, 174, 175, 176, 179, 180, 181, 184, 185, 186] → g0.1 a = a := g0_self
  have K95 : Ce g0 τ 95 (MDC 0 (nI 0) (nI 0) 0 0 0) := Ce_first D95 (S 95 (by decide)) (by omega)
  have Q97 : Ps g0 τ 97 [] := Ps_first p0a p0b p0c p0d p0e p0f (by decide) (by decide) (by decide) (by omega) (by omega)
  have Q103 : Ps g0 τ 103 [] := Ps_first p1a p1b p1c p1d p1e p1f (by decide) (by decide) (by decide) (by omega) (by omega)
  have Q109 : Ps g0 τ 109 [] := Ps_first p2a p2b p2c p2d p2e p2f (by decide) (by decide) (by decide) (by omega) (by omega)
  have Q145 : Ps g0 τ 145 [] := Ps_first p3a p3b p3c p3d p3e p3f (by decide) (by decide) (by decide) (by omega) (by omega)
  have Q151 : Ps g0 τ 151 [] := Ps_first p4a p4b p4c p4d p4e p4f (by decide) (by decide) (by decide) (by omega) (by omega)
  have Q170 : Ps g0 τ 170 [] := Ps_first p5a p5b p5c p5d p5e p5f (by decide) (by decide) (by decide) (by omega) (by omega)
  have Q176 : Ps g0 τ 176 [] := Ps_first p6a p6b p6c p6d p6e p6f (by decide) (by decide) (by decide) (by omega) (by omega)
  have K96 := Ce_first D96 (S 96 (by decide)) (by omega)
  have K120 := Ce_first D120 (S 120 (by decide)) (by omega)
  have K129 := Ce_first D129 (S 129 (by decide)) (by omega)
  have R115 : Ro g0 τ 115 [] := Ro_first r115 r116 (by decide) (by decide) (by omega)
  have R118 : Ro g0 τ 118 [] := Ro_first r118 r119 (by decide) (by decide) (by omega)
  have R121 : Ro g0 τ 121 [] := Ro_first r121 r122 (by decide) (by decide) (by omega)
  have R123 : Ro g0 τ 123 [] := Ro_first r123 r124 (by decide) (by decide) (by omega)
  have R125 : Ro g0 τ 125 [] := Ro_first r125 r126 (by decide) (by decide) (by omega)
  have R127 : Ro g0 τ 127 [] := Ro_first r127 r128 (by decide) (by decide) (by omega)
  have R130 : Ro g0 τ 130 [] := Ro_first r130 r131 (by decide) (by decide) (by omega)
  have R132 : Ro g0 τ 132 [] := Ro_first r132 r133 (by decide) (by decide) (by omega)
  have R134 : Ro g0 τ 134 [] := Ro_first r134 r135 (by decide) (by decide) (by omega)
  have R162 : Ro g0 τ 162 [] := Ro_first r162 r163 (by decide) (by decide) (by omega)
  have R164 : Ro g0 τ 164 [] := Ro_first r164 r165 (by decide) (by decide) (by omega)
  have R182 : Ro g0 τ 182 [] := Ro_first r182 r183 (by decide) (by decide) (by omega)
  have SC : SCA g0 τ := by
    intro a ty n ha
    have hr := scT_in ha
    have hh : a = 136 ∨ a = 137 ∨ a = 138 ∨ a = 139 ∨ a = 140 ∨ a = 141 ∨ a = 142 ∨ a = 143 ∨ a = 144 ∨ a = 157 ∨ a = 158 ∨ a = 159 ∨ a = 160 ∨ a = 161 ∨ a = 166 ∨ a = 167 ∨ a = 168 ∨ a = 169 := by omega
    rcases hh with rfl | rfl | rfl | rfl | rfl | rfl | rfl | rfl | rfl | rfl | rfl | rfl | rfl | rfl | rfl | rfl | rfl | rfl
    · cases ha; exact ⟨_, Ce_first c136 (S _ (by decide)) (by omega)⟩
    · cases ha; exact ⟨_, Ce_first c137 (S _ (by decide)) (by omega)⟩
    · cases ha; exact ⟨_, Ce_first c138 (S _ (by decide)) (by omega)⟩
    · cases ha; exact ⟨_, Ce_first c139 (S _ (by decide)) (by omega)⟩
    · cases ha; exact ⟨_, Ce_first c140 (S _ (by decide)) (by omega)⟩
    · cases ha; exact ⟨_, Ce_first c141 (S _ (by decide)) (by omega)⟩
    · cases ha; exact ⟨_, Ce_first c142 (S _ (by decide)) (by omega)⟩
    · cases ha; exact ⟨_, Ce_first c143 (S _ (by decide)) (by omega)⟩
    · cases ha; exact ⟨_, Ce_first c144 (S _ (by decide)) (by omega)⟩
    · cases ha; exact ⟨_, Ce_first c157 (S _ (by decide)) (by omega)⟩
    · cases ha; exact ⟨_, Ce_first c158 (S _ (by decide)) (by omega)⟩
    · cases ha; exact ⟨_, Ce_first c159 (S _ (by decide)) (by omega)⟩
    · cases ha; exact ⟨_, Ce_first c160 (S _ (by decide)) (by omega)⟩
    · cases ha; exact ⟨_, Ce_first c161 (S _ (by decide)) (by omega)⟩
    · cases ha; exact ⟨_, Ce_first c166 (S _ (by decide)) (by omega)⟩
    · cases ha; exact ⟨_, Ce_first c167 (S _ (by decide)) (by omega)⟩
    · cases ha; exact ⟨_, Ce_first c168 (S _ (by decide)) (by omega)⟩
    · cases ha; exact ⟨_, Ce_first c169 (S _ (by decide)) (by omega)⟩
  -- the clearing
  obtain ⟨σ1, a1, a2, a3⟩ := Ps_clear (F := F) Q145
  obtain ⟨σ2, d1, d2, d3⟩ := Ps_clear (F := F) (Q176.fo a3 fun a _ _ => by omega)
  have W2 : Fo (fun a => (145 ≤ a ∧ a ≤ 150) ∨ (176 ≤ a ∧ a ≤ 181)) g0 τ g0 σ2 := (a3.mono fun a ha => by omega).trans (d3.mono fun a ha => by omega)
  obtain ⟨σ3, x1, x2, x3⟩ := Ps_clear (F := F) (Q97.fo W2 fun a _ _ => by omega)
  have W3 : Fo (fun a => (97 ≤ a ∧ a ≤ 102) ∨ (145 ≤ a ∧ a ≤ 150) ∨ (176 ≤ a ∧ a ≤ 181)) g0 τ g0 σ3 := (W2.mono fun a ha => by omega).trans (x3.mono fun a ha => by omega)
  obtain ⟨σ4, y1, y2, y3⟩ := Ps_clear (F := F) (Q103.fo W3 fun a _ _ => by omega)
  have W4 : Fo (fun a => (97 ≤ a ∧ a ≤ 108) ∨ (145 ≤ a ∧ a ≤ 150) ∨ (176 ≤ a ∧ a ≤ 181)) g0 τ g0 σ4 := (W3.mono fun a ha => by omega).trans (y3.mono fun a ha => by omega)
  obtain ⟨σ5, z1, z2, z3⟩ := Ps_clear (F := F) (Q109.fo W4 fun a _ _ => by omega)
  have W5 : Fo (fun a => (97 ≤ a ∧ a ≤ 114) ∨ (145 ≤ a ∧ a ≤ 150) ∨ (176 ≤ a ∧ a ≤ 181)) g0 τ g0 σ5 := (W4.mono fun a ha => by omega).trans (z3.mono fun a ha => by omega)
  have e1 : σ5.1 = τ.1 ∧ σ5.2.1 = τ.2.1 := by
    obtain ⟨k1, -, -, -, k5, k6⟩ := W5
    omega
  have low : ∀ a, a < 95 → σ5.2.2 a = σ.2.2 a := fun a ha => (W5.2.2.1 a (by omega) (by rw [g0_low (by omega)]; omega)).trans (b1 a ha)
  have q145 : Ps g0 σ5 145 [] := (((a2.fo d3 fun a _ _ => by omega).fo x3 fun a _ _ => by omega).fo y3 fun a _ _ => by omega).fo z3 fun a _ _ => by omega
  have q176 : Ps g0 σ5 176 [] := ((d2.fo x3 fun a _ _ => by omega).fo y3 fun a _ _ => by omega).fo z3 fun a _ _ => by omega
  have q97 : Ps g0 σ5 97 [] := (x2.fo y3 fun a _ _ => by omega).fo z3 fun a _ _ => by omega
  have q103 : Ps g0 σ5 103 [] := y2.fo z3 fun a _ _ => by omega
  have X : MDX g0 σ5 0 s0 := by
    refine ⟨?_, ⟨0, 0, 0, K95.fo W5 (by omega)⟩, ⟨_, K96.fo W5 (by omega), fun j hj => ?_⟩, ⟨R115.fo W5 (by omega), by simp [s0], _, (Ce_first c117 (S _ (by decide)) (by omega)).fo W5 (by omega), fun k hk => ?_⟩, R118.fo W5 (by omega), ?_, fun k hk => ?_, ⟨SC.fo W5 fun a ha => by omega, ⟨⟨_, K129.fo W5 (by omega), fun j hj => ?_⟩, fun j hj => ?_⟩, ⟨_, q145⟩, ⟨_, Q151.fo W5 fun a _ _ => by omega⟩, ⟨_, R162.fo W5 (by omega)⟩, ⟨_, R164.fo W5 (by omega)⟩⟩, ⟨_, Q170.fo W5 fun a _ _ => by omega⟩, ⟨[], [], _, _, q176, R182.fo W5 (by omega), (Ce_first c184 (S _ (by decide)) (by omega)).fo W5 (by omega), (Ce_first c185 (S _ (by decide)) (by omega)).fo W5 (by omega), rfl, fun i h => absurd h (by simp [s0])⟩⟩
    · obtain ⟨m1, m2, m3⟩ := hm
      exact ⟨(low 5 (by omega)).trans m1, (low 6 (by omega)).trans m2, (low 7 (by omega)).trans m3⟩
    · have : j = 0 ∨ j = 1 ∨ j = 2 := by omega
      rcases this with rfl | rfl | rfl <;> rfl
    · have : k = 0 := by simpa [s0] using hk
      subst this
      rfl
    · refine ⟨fun j => 121 + 2 * j, _, K120.fo W5 (by omega), fun j hj => ?_, fun i j hi hj h => by simp only at h; omega, fun j hj => absurd hj (by simp [s0]), fun j hj => ?_, by simp [s0]⟩
      · have : j = 0 ∨ j = 1 ∨ j = 2 ∨ j = 3 := by omega
        rcases this with rfl | rfl | rfl | rfl
        · exact ⟨rfl, by simp⟩
        · exact ⟨rfl, by simp⟩
        · exact ⟨rfl, by simp⟩
        · exact ⟨rfl, by simp⟩
      · have : j = 0 ∨ j = 1 ∨ j = 2 ∨ j = 3 := by omega
        rcases this with rfl | rfl | rfl | rfl
        · exact ⟨_, R121.fo W5 (by omega)⟩
        · exact ⟨_, R123.fo W5 (by omega)⟩
        · exact ⟨_, R125.fo W5 (by omega)⟩
        · exact ⟨_, R127.fo W5 (by omega)⟩
    · have : k = 0 ∨ k = 1 ∨ k = 2 := by omega
      rcases this with rfl | rfl | rfl
      · exact q97
      · exact q103
      · exact z2
    · have : j = 0 ∨ j = 1 ∨ j = 2 := by omega
      rcases this with rfl | rfl | rfl <;> rfl
    · have : j = 0 ∨ j = 1 ∨ j = 2 := by omega
      rcases this with rfl | rfl | rfl
      · exact ⟨_, R130.fo W5 (by omega)⟩
      · exact ⟨_, R132.fo W5 (by omega)⟩
      · exact ⟨_, R134.fo W5 (by omega)⟩
  refine ⟨σ5, ?_, X, by omega, by omega, low⟩
  obtain ⟨F', rfl⟩ : ∃ F', F = F' + 4 := ⟨F - 4, by omega⟩
  have g23 : am_gA τ 10 23 95 = some 145 := gA_of D95 rfl
  have t1 := (K95.fo a3 (by omega)).1
  have t2 := (K95.fo W2 (by omega)).1
  unfold MDC at t1 t2
  have g38 : am_gA σ1 10 38 95 = some 176 := gA_of t1 (k := 38) rfl
  have g1 : am_gA σ2 10 1 95 = some 96 := gA_of t2 (k := 1) rfl
  have v2 := (K96.fo W2 (by omega)).1
  have v3 := (K96.fo W3 (by omega)).1
  have v4 := (K96.fo W4 (by omega)).1
  have ln : am_len σ2 96 = some 3 := by
    unfold am_len
    rw [v2]
    rfl
  have i0 : am_lA σ2 11 96 0 = some 97 := lA_of (i := 0) v2 (by omega) (by omega) rfl
  have i1 : am_lA σ3 11 96 1 = some 103 := lA_of (i := 1) v3 (by omega) (by omega) rfl
  have i2 : am_lA σ4 11 96 2 = some 109 := lA_of (i := 2) v4 (by omega) (by omega) rfl
  rw [e, g23, Option.bind_some, a1, Option.bind_some, g38, Option.bind_some, d1, Option.bind_some, g1, Option.bind_some, ln, Option.bind_some, f_Md_init_l499, if_neg (by decide), i0, Option.bind_some, x1, Option.bind_some, f_Md_init_l499, if_neg (by decide), show (0 : Int32) + 1 = 1 from rfl, i1, Option.bind_some, y1, Option.bind_some, f_Md_init_l499, if_neg (by decide), show (1 : Int32) + 1 = 2 from rfl, i2, Option.bind_some, z1, Option.bind_some, f_Md_init_l499, if_pos (by decide)]
