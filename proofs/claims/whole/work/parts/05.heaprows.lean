section AH
variable {g : am_G} {s : State}
theorem am_lays (hK : am_K g) (hW : g.1.WarmedH s.vm) {c k : Nat} (hc : c < am_NC) (hk : k < am_N c) (args : Array Value) :
    (Cond.lays (am_cn c) (am_cn c) (am_fd c k).1 (am_fd c k).2.1).before args s = true ∨ (Cond.laysFinal (am_cn c) (am_cn c) (am_fd c k).1 (am_fd c k).2.1).before args s = true := by
  have h := am_word (args := args) hK hW (am_lay_ok c hc k hk) (am_lay_good c k)
  unfold am_lay at h
  split at h
  · exact Or.inr h
  · exact Or.inl h
theorem am_class (hK : am_K g) (hW : g.1.WarmedH s.vm) {c : Nat} (hc : c < am_NC) : ClassAt s (am_cn c) (g.2.2.1 c) := classAt_moved hW.alike (hK.2.1 c hc).1
theorem am_slot (hK : am_K g) (hW : g.1.WarmedH s.vm) {c k : Nat} (hc : c < am_NC) (hk : k < am_N c) : SlotIs s (am_cn c) (am_fd c k).1 (am_fd c k).2.1 (g.2.2.2 c k) := slotIs_moved hW.alike ((hK.2.1 c hc).2 k hk)
theorem am_apart (hK : am_K g) (hW : g.1.WarmedH s.vm) {c : Nat} (hc : c < am_NC) : ∀ x y, x < am_N c → y < am_N c → x ≠ y → g.2.2.2 c x ≠ g.2.2.2 c y := by
  intro x y hx hy hne
  obtain ⟨_, _, _, fa, hia, ea⟩ := am_slot hK hW hc hx
  obtain ⟨_, _, _, fb, hib, eb⟩ := am_slot hK hW hc hy
  rw [← ea, ← eb]
  refine u_apart (am_lays hK hW hc hx #[]) (am_lays hK hW hc hy #[]) hia hib ?_
  rw [(State.fieldFound?_type hia (am_ty_ok c hc x hx)).1, (State.fieldFound?_type hib (am_ty_ok c hc y hy)).1]
  exact am_nm_ok c hc x hx y hy hne
end AH
def am_gf (σ : am_S) (c k a : Nat) : Option Value := match σ.2.2 a with
  | some (.inr y) => if y.1 = c then y.2[k]? else none
  | _ => none
def am_gI (σ : am_S) (c k a : Nat) : Option Int32 := match am_gf σ c k a with
  | some (.int v) => some v
  | _ => none
def am_gA (σ : am_S) (c k a : Nat) : Option Nat := match am_gf σ c k a with
  | some (.ref v) => some v
  | _ => none
def am_pf (σ : am_S) (c k a : Nat) (v : Value) : Option am_S := match σ.2.2 a with
  | some (.inr y) => if y.1 = c ∧ 8 ≤ a ∧ k < y.2.length then some (am_put σ a (.inr (c, y.2.set k v))) else none
  | _ => none
def am_pI (σ : am_S) (c k a : Nat) (v : Int32) : Option am_S := am_pf σ c k a (.int v)
def am_pZ (σ : am_S) (c k a : Nat) (v : Int32) : Option am_S := if v = 0 ∨ v = 1 then am_pf σ c k a (.int v) else none
def am_pA (σ : am_S) (c k a : Nat) (v : Nat) : Option am_S := am_pf σ c k a (.ref v)
theorem am_gf_some {σ : am_S} {c k a : Nat} {v : Value} (h : am_gf σ c k a = some v) : ∃ fs : List Value, σ.2.2 a = some (.inr (c, fs)) ∧ fs[k]? = some v := by
  unfold am_gf at h
  split at h
  · rename_i y hy
    split at h
    · rename_i hc
      obtain ⟨c', fs⟩ := y
      subst hc
      exact ⟨fs, hy, h⟩
    · cases h
  · cases h
theorem am_gI_some {σ : am_S} {c k a : Nat} {v : Int32} (h : am_gI σ c k a = some v) : am_gf σ c k a = some (.int v) := by
  unfold am_gI at h
  split at h
  · rename_i x hx; cases h; exact hx
  · cases h
theorem am_gA_some {σ : am_S} {c k a : Nat} {v : Nat} (h : am_gA σ c k a = some v) : am_gf σ c k a = some (.ref v) := by
  unfold am_gA at h
  split at h
  · rename_i x hx; cases h; exact hx
  · cases h
theorem am_pf_some {σ σ1 : am_S} {c k a : Nat} {v : Value} (h : am_pf σ c k a v = some σ1) : ∃ fs : List Value, σ.2.2 a = some (.inr (c, fs)) ∧ 8 ≤ a ∧ k < fs.length ∧ σ1 = am_put σ a (.inr (c, fs.set k v)) := by
  unfold am_pf at h
  split at h
  · rename_i y hy
    split at h
    · rename_i hc
      obtain ⟨c', fs⟩ := y
      obtain ⟨hc, h8, hl⟩ := hc
      subst hc
      cases h
      exact ⟨fs, hy, h8, hl, rfl⟩
    · cases h
  · cases h
section AWH
variable {g : am_G} {M : am_M} {σ0 σ : am_S} {pc : Nat} {lv : List (Option Value)} {st : List Value} {β : Type} {E : Option β} {k : β → Option (Outcome × am_S)}
/-- what a bind says -/
theorem am_W.bindI {γ : Type} {X : Option γ} {F : γ → Option β} (h : ∀ x, X = some x → am_W g M σ0 pc lv st σ (F x) k) : am_W g M σ0 pc lv st σ (X.bind F) k := by
  cases X with
  | none => exact am_W.none
  | some x => exact h x rfl
theorem am_W.same {pc' : Nat} {st' : List Value} (h : ∀ {p : Program} {l : Launch} {e : Env} {R : Room} {s : State} {m : MethodId} {args : Array Value} {below : List Frame} {meth : Method} {c : Code} {H : Heap} {locs : List Loc} {cells slots : Nat} {Q : State → Prop} {ls : Array Slot},
      am_Cx g M p l e R s m meth c → am_L g (am_maxL M) lv ls → am_R g σ H → W p l e R s m args below meth c H locs cells slots Q (F0 m pc' ls (st'.map (am_up g))) → W p l e R s m args below meth c H locs cells slots Q (F0 m pc ls (st.map (am_up g))))
    (kk : am_W g M σ0 pc' lv st' σ E k) : am_W g M σ0 pc lv st σ E k := by
  intro res σ' hE
  obtain ⟨a, b, j⟩ := kk res σ' hE
  exact ⟨a, b, fun p l e R s m args below meth c H locs ls C hc hs h1 h2 hR hL hl => h C hL hR (j p l e R s m args below meth c H locs ls C hc hs h1 h2 hR hL hl)⟩
/-- a write to one cell -/
theorem am_W.write {pc' a : Nat} {st' : List Value} {x : am_C} (h : ∀ {p : Program} {l : Launch} {e : Env} {R : Room} {s : State} {m : MethodId} {args : Array Value} {below : List Frame} {meth : Method} {c : Code} {H : Heap} {locs : List Loc} {cells slots : Nat} {Q : State → Prop} {ls : Array Slot},
      am_Cx g M p l e R s m meth c → am_L g (am_maxL M) lv ls → am_R g σ H →
      (∀ (H1 : Heap) (i : Nat), am_R g (am_put σ a x) H1 → W p l e R s m args below meth c H1 (locs ++ [⟨am_r g a, i⟩]) cells slots Q (F0 m pc' ls (st'.map (am_up g)))) → W p l e R s m args below meth c H locs cells slots Q (F0 m pc ls (st.map (am_up g))))
    (ha : 8 ≤ a) (kk : am_W g M σ0 pc' lv st' (am_put σ a x) E k) : am_W g M σ0 pc lv st σ E k := by
  intro res σ' hE
  obtain ⟨a1, b1, j⟩ := kk res σ' hE
  refine ⟨a1, b1, fun p l e R s m args below meth c H locs ls C hc hs h1 h2 hR hL hl => h C hL hR fun H1 i hR1 => ?_⟩
  refine j p l e R s m args below meth c H1 _ ls C hc hs h1 h2 hR1 hL fun q hq => ?_
  rcases List.mem_append.mp hq with h3 | h3
  · exact hl q h3
  · rw [List.mem_singleton.mp h3]
    show _ ≤ am_r g a
    rw [am_r_ge ha]
    omega
theorem aw_gf (c kf idx : Nat) {a : Nat} {v : Value} (hd : decode (am_code M) pc = .ok (.getfield idx, 3) := by decide +kernel) (hw : Cond.fieldLink (am_name M).cls idx (am_cn c) (am_fd c kf).1 (am_fd c kf).2.1 ∈ lw_tbl) (hc : c < am_NC := by decide) (hk : kf < am_N c := by decide)
    (hv : am_gf σ c kf a = some v) (kk : am_W g M σ0 (pc + 3) lv (v :: st) σ E k) : am_W g M σ0 pc lv (.ref a :: st) σ E k := by
  refine kk.same fun {p l e R s m args below meth c0 H locs cells slots Q ls} C hL hR w => ?_
  obtain ⟨c1, c2, c3, c4, c5, c6, c7, c8, c9, c10, c11, hW, hK⟩ := C
  obtain ⟨fs, h1, h2⟩ := am_gf_some hv
  obtain ⟨cell, q1, q2, q3, q4⟩ := hR.1 a _ h1
  obtain ⟨hfc, kC, hkC, hkind⟩ := am_class hK hW hc
  obtain ⟨cf, kf', fi, f, hi, hsl⟩ := am_slot hK hW hc hk
  refine W.getf c1 c2 c4 (am_word hK hW hw rfl) hi (u_facts hfc hkC (am_lays hK hW hc hk args) hi).1 q1 (by rw [q3]; exact fun h => by cases h) (v := am_up g v) ?_ rfl rfl hd w
  rw [hsl, q4 kf hk]
  simp [vp_V, h2]
theorem aw_gfN (c kf idx : Nat) (host : String) {a : Nat} {v : Value} (hd : decode (am_code M) pc = .ok (.getfield idx, 3) := by decide +kernel) (hw : Cond.fieldLinkNest (am_name M).cls idx (am_cn c) (am_fd c kf).1 (am_fd c kf).2.1 host ∈ lw_tbl) (hc : c < am_NC := by decide) (hk : kf < am_N c := by decide)
    (hv : am_gf σ c kf a = some v) (kk : am_W g M σ0 (pc + 3) lv (v :: st) σ E k) : am_W g M σ0 pc lv (.ref a :: st) σ E k := by
  refine kk.same fun {p l e R s m args below meth c0 H locs cells slots Q ls} C hL hR w => ?_
  obtain ⟨c1, c2, c3, c4, c5, c6, c7, c8, c9, c10, c11, hW, hK⟩ := C
  obtain ⟨fs, h1, h2⟩ := am_gf_some hv
  obtain ⟨cell, q1, q2, q3, q4⟩ := hR.1 a _ h1
  obtain ⟨hfc, kC, hkC, hkind⟩ := am_class hK hW hc
  obtain ⟨cf, kf', fi, f, hi, hsl⟩ := am_slot hK hW hc hk
  refine va_Wgetf c1 c2 c4 (am_wordF hK hW hw) hi (u_facts hfc hkC (am_lays hK hW hc hk args) hi).1 q1 (by rw [q3]; exact fun h => by cases h) (v := am_up g v) ?_ rfl rfl hd w
  rw [hsl, q4 kf hk]
  simp [vp_V, h2]
theorem aw_gI (c kf idx : Nat) {a : Nat} {F : Int32 → Option β} (hd : decode (am_code M) pc = .ok (.getfield idx, 3) := by decide +kernel) (hc : c < am_NC := by decide) (hk : kf < am_N c := by decide) (hw : Cond.fieldLink (am_name M).cls idx (am_cn c) (am_fd c kf).1 (am_fd c kf).2.1 ∈ lw_tbl)
    (kk : ∀ v, am_W g M σ0 (pc + 3) lv (.int v :: st) σ (F v) k) : am_W g M σ0 pc lv (.ref a :: st) σ ((am_gI σ c kf a).bind F) k :=
  am_W.bindI fun v h => aw_gf c kf idx hd hw hc hk (am_gI_some h) (kk v)
theorem aw_gA (c kf idx : Nat) {a : Nat} {F : Nat → Option β} (hd : decode (am_code M) pc = .ok (.getfield idx, 3) := by decide +kernel) (hc : c < am_NC := by decide) (hk : kf < am_N c := by decide) (hw : Cond.fieldLink (am_name M).cls idx (am_cn c) (am_fd c kf).1 (am_fd c kf).2.1 ∈ lw_tbl)
    (kk : ∀ v, am_W g M σ0 (pc + 3) lv (.ref v :: st) σ (F v) k) : am_W g M σ0 pc lv (.ref a :: st) σ ((am_gA σ c kf a).bind F) k :=
  am_W.bindI fun v h => aw_gf c kf idx hd hw hc hk (am_gA_some h) (kk v)
theorem aw_gIN (c kf idx : Nat) (host : String) {a : Nat} {F : Int32 → Option β} (hd : decode (am_code M) pc = .ok (.getfield idx, 3) := by decide +kernel) (hc : c < am_NC := by decide) (hk : kf < am_N c := by decide) (hw : Cond.fieldLinkNest (am_name M).cls idx (am_cn c) (am_fd c kf).1 (am_fd c kf).2.1 host ∈ lw_tbl)
    (kk : ∀ v, am_W g M σ0 (pc + 3) lv (.int v :: st) σ (F v) k) : am_W g M σ0 pc lv (.ref a :: st) σ ((am_gI σ c kf a).bind F) k :=
  am_W.bindI fun v h => aw_gfN c kf idx host hd hw hc hk (am_gI_some h) (kk v)
theorem aw_gAN (c kf idx : Nat) (host : String) {a : Nat} {F : Nat → Option β} (hd : decode (am_code M) pc = .ok (.getfield idx, 3) := by decide +kernel) (hc : c < am_NC := by decide) (hk : kf < am_N c := by decide) (hw : Cond.fieldLinkNest (am_name M).cls idx (am_cn c) (am_fd c kf).1 (am_fd c kf).2.1 host ∈ lw_tbl)
    (kk : ∀ v, am_W g M σ0 (pc + 3) lv (.ref v :: st) σ (F v) k) : am_W g M σ0 pc lv (.ref a :: st) σ ((am_gA σ c kf a).bind F) k :=
  am_W.bindI fun v h => aw_gfN c kf idx host hd hw hc hk (am_gA_some h) (kk v)
theorem am_at_set {c kf a : Nat} {fs : List Value} {v : Value} {cell : Cell} {H1 : Heap} {s : State} (hK : am_K g) (hW : g.1.WarmedH s.vm) (hc : c < am_NC) (hk : kf < am_N c) (hl : kf < fs.length) (q2 : cell.cls = g.2.2.1 c) (q3 : cell.vm = .none) (q4 : ∀ k, k < am_N c → cell.slots[g.2.2.2 c k]? = some (vp_V (fs.map (am_up g)) k))
    (e1 : H1[a]? = some (cell.setSlot (g.2.2.2 c kf) (am_up g v))) : am_at g a (.inr (c, fs.set kf v)) H1 := by
  refine t_OB.to (V := updV (vp_V (fs.map (am_up g))) kf (am_up g v)) ⟨_, e1, q2, q3, t_set q4 (am_apart hK hW hc) hk _⟩ fun j _ => ?_
  rw [vp_updV_set (by simpa using hl), List.map_set]
/-- a field that is not final -/
theorem aw_pf (c kf idx : Nat) {a : Nat} {v : Value} {fs : List Value} (hd : decode (am_code M) pc = .ok (.putfield idx, 3)) (hw : Cond.fieldLink (am_name M).cls idx (am_cn c) (am_fd c kf).1 (am_fd c kf).2.1 ∈ lw_tbl) (hc : c < am_NC) (hk : kf < am_N c) (hfin : (am_fd c kf).2.2.1 = false)
    (hn : narrow (am_fd c kf).2.2.2 (am_up g v) = am_up g v) (hf : fits (am_fd c kf).2.2.2 (am_up g v) = true) (h1 : σ.2.2 a = some (.inr (c, fs))) (h8 : 8 ≤ a) (hl : kf < fs.length)
    (kk : am_W g M σ0 (pc + 3) lv st (am_put σ a (.inr (c, fs.set kf v))) E k) : am_W g M σ0 pc lv (v :: .ref a :: st) σ E k := by
  refine am_W.write (fun {p l e R s m args below meth c0 H locs cells slots Q ls} C hL hR w => ?_) h8 kk
  obtain ⟨c1, c2, c3, c4, c5, c6, c7, c8, c9, c10, c11, hW, hK⟩ := C
  obtain ⟨cell, q1, q2, q3, q4⟩ := hR.1 a _ h1
  obtain ⟨hfc, kC, hkC, hkind⟩ := am_class hK hW hc
  obtain ⟨cf, kf', fi, f, hi, hsl⟩ := am_slot hK hW hc hk
  have hlay := am_word (args := args) hK hW (am_lay_ok c hc kf hk) (am_lay_good c kf)
  unfold am_lay at hlay
  rw [if_neg (by rw [hfin]; decide)] at hlay
  have hst := (u_facts hfc hkC (am_lays hK hW hc hk args) hi).1
  have h6 := u_store hfc hkC hkind hlay hi (am_ty_ok c hc kf hk) hn hf
  refine W.putK c1 c2 (f := f) ⟨c4, am_word hK hW hw rfl, ⟨_, _, _, hi⟩, hst⟩ (by rw [q2]; exact h6) q1 q3 (by rw [hsl]; exact k2_hasslot (q4 kf hk)) rfl rfl hd fun H' e1 e2 e3 => ?_
  rw [hsl] at e1 ⊢
  exact w H' _ (hR.put hK h8 (am_at_set hK hW hc hk hl q2 q3 q4 e1) e2 e3)
/-- a final field, in its own constructor -/
theorem aw_pfF (c kf idx : Nat) {a : Nat} {v : Value} {fs : List Value} (hd : decode (am_code M) pc = .ok (.putfield idx, 3)) (hw : Cond.fieldLink (am_name M).cls idx (am_cn c) (am_fd c kf).1 (am_fd c kf).2.1 ∈ lw_tbl) (hc : c < am_NC) (hk : kf < am_N c) (hfin : (am_fd c kf).2.2.1 = true) (hin : (am_name M).name = "<init>") (hcl : am_cn c = (am_name M).cls)
    (hn : narrow (am_fd c kf).2.2.2 (am_up g v) = am_up g v) (hf : fits (am_fd c kf).2.2.2 (am_up g v) = true) (h1 : σ.2.2 a = some (.inr (c, fs))) (h8 : 8 ≤ a) (hl : kf < fs.length)
    (kk : am_W g M σ0 (pc + 3) lv st (am_put σ a (.inr (c, fs.set kf v))) E k) : am_W g M σ0 pc lv (v :: .ref a :: st) σ E k := by
  refine am_W.write (fun {p l e R s m args below meth c0 H locs cells slots Q ls} C hL hR w => ?_) h8 kk
  obtain ⟨c1, c2, c3, c4, c5, c6, c7, c8, c9, c10, c11, hW, hK⟩ := C
  obtain ⟨cell, q1, q2, q3, q4⟩ := hR.1 a _ h1
  obtain ⟨hfc, kC, hkC, hkind⟩ := am_class hK hW hc
  obtain ⟨cf, kf', fi, f, hi, hsl⟩ := am_slot hK hW hc hk
  have hlay := am_word (args := args) hK hW (am_lay_ok c hc kf hk) (am_lay_good c kf)
  unfold am_lay at hlay
  rw [if_pos hfin] at hlay
  have hst := (u_facts hfc hkC (am_lays hK hW hc hk args) hi).1
  have hcf : m.cls = cf := by
    obtain ⟨_, _, c', _, _, _, -, -, hf', -, -, -, hown2, -⟩ := Cond.laysFinal_spec hlay
    have e1 : c' = cf := by have := hi.symm.trans hf'; simp at this; exact this.1.symm
    rw [hcl] at hown2
    rw [← e1]; exact Option.some.inj (c4.symm.trans hown2)
  have h6 := u_fits hfc hkC hkind (Or.inr hlay) hi (am_ty_ok c hc kf hk) hn hf
  refine W.putFinK c1 c2 c4 (am_word hK hW hw rfl) hi hst hcf (by rw [c7]; exact hin) (by rw [q2]; exact h6) q1 q3 (by rw [hsl]; exact k2_hasslot (q4 kf hk)) rfl rfl hd fun H' e1 e2 e3 => ?_
  rw [hsl] at e1 ⊢
  exact w H' _ (hR.put hK h8 (am_at_set hK hW hc hk hl q2 q3 q4 e1) e2 e3)
/-- a type of references -/
def am_isR : FieldType → Bool
  | .object _ => true
  | .array _ => true
  | _ => false
theorem am_narR {t : FieldType} (h : am_isR t = true) (r : Nat) : narrow t (.ref r) = .ref r ∧ fits t (.ref r) = true := by
  cases t <;> first | (cases h; done) | exact ⟨rfl, rfl⟩
theorem aw_pI (c kf idx : Nat) {a : Nat} {v : Int32} {F : am_S → Option β} (hd : decode (am_code M) pc = .ok (.putfield idx, 3) := by decide +kernel) (hc : c < am_NC := by decide) (hk : kf < am_N c := by decide) (hfin : (am_fd c kf).2.2.1 = false := by rfl) (hty : (am_fd c kf).2.2.2 = .int := by rfl) (hw : Cond.fieldLink (am_name M).cls idx (am_cn c) (am_fd c kf).1 (am_fd c kf).2.1 ∈ lw_tbl)
    (kk : ∀ σ1, am_W g M σ0 (pc + 3) lv st σ1 (F σ1) k) : am_W g M σ0 pc lv (.int v :: .ref a :: st) σ ((am_pI σ c kf a v).bind F) k :=
  am_W.bindI fun σ1 h => by
    obtain ⟨fs, h1, h2, h3, rfl⟩ := am_pf_some h
    exact aw_pf c kf idx hd hw hc hk hfin (by rw [hty]; rfl) (by rw [hty]; rfl) h1 h2 h3 (kk _)
theorem aw_pZ (c kf idx : Nat) {a : Nat} {v : Int32} {F : am_S → Option β} (hd : decode (am_code M) pc = .ok (.putfield idx, 3) := by decide +kernel) (hc : c < am_NC := by decide) (hk : kf < am_N c := by decide) (hfin : (am_fd c kf).2.2.1 = false := by rfl) (hty : (am_fd c kf).2.2.2 = .boolean := by rfl) (hw : Cond.fieldLink (am_name M).cls idx (am_cn c) (am_fd c kf).1 (am_fd c kf).2.1 ∈ lw_tbl)
    (kk : ∀ σ1, am_W g M σ0 (pc + 3) lv st σ1 (F σ1) k) : am_W g M σ0 pc lv (.int v :: .ref a :: st) σ ((am_pZ σ c kf a v).bind F) k :=
  am_W.bindI fun σ1 h => by
    unfold am_pZ at h
    split at h
    · rename_i hv
      obtain ⟨fs, h1, h2, h3, rfl⟩ := am_pf_some h
      refine aw_pf c kf idx hd hw hc hk hfin ?_ ?_ h1 h2 h3 (kk _)
      · rw [hty]; rcases hv with rfl | rfl <;> rfl
      · rw [hty]; rcases hv with rfl | rfl <;> rfl
    · cases h
theorem aw_pA (c kf idx : Nat) {a v : Nat} {F : am_S → Option β} (hd : decode (am_code M) pc = .ok (.putfield idx, 3) := by decide +kernel) (hc : c < am_NC := by decide) (hk : kf < am_N c := by decide) (hfin : (am_fd c kf).2.2.1 = false := by rfl) (hty : am_isR (am_fd c kf).2.2.2 = true := by rfl) (hw : Cond.fieldLink (am_name M).cls idx (am_cn c) (am_fd c kf).1 (am_fd c kf).2.1 ∈ lw_tbl)
    (kk : ∀ σ1, am_W g M σ0 (pc + 3) lv st σ1 (F σ1) k) : am_W g M σ0 pc lv (.ref v :: .ref a :: st) σ ((am_pA σ c kf a v).bind F) k :=
  am_W.bindI fun σ1 h => by
    obtain ⟨fs, h1, h2, h3, rfl⟩ := am_pf_some h
    exact aw_pf c kf idx hd hw hc hk hfin (am_narR hty _).1 (am_narR hty _).2 h1 h2 h3 (kk _)
theorem aw_pAF (c kf idx : Nat) {a v : Nat} {F : am_S → Option β} (hd : decode (am_code M) pc = .ok (.putfield idx, 3) := by decide +kernel) (hc : c < am_NC := by decide) (hk : kf < am_N c := by decide) (hfin : (am_fd c kf).2.2.1 = true := by rfl) (hty : am_isR (am_fd c kf).2.2.2 = true := by rfl) (hin : (am_name M).name = "<init>" := by rfl) (hcl : am_cn c = (am_name M).cls := by rfl) (hw : Cond.fieldLink (am_name M).cls idx (am_cn c) (am_fd c kf).1 (am_fd c kf).2.1 ∈ lw_tbl)
    (kk : ∀ σ1, am_W g M σ0 (pc + 3) lv st σ1 (F σ1) k) : am_W g M σ0 pc lv (.ref v :: .ref a :: st) σ ((am_pA σ c kf a v).bind F) k :=
  am_W.bindI fun σ1 h => by
    obtain ⟨fs, h1, h2, h3, rfl⟩ := am_pf_some h
    exact aw_pfF c kf idx hd hw hc hk hfin hin hcl (am_narR hty _).1 (am_narR hty _).2 h1 h2 h3 (kk _)
end AWH
