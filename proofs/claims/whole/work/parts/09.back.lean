section BK
variable {g : am_G} {p : Program} {l : Launch} {e : Env} {R : Room} {s : State} {m : MethodId} {args : Array Value} {below : List Frame} {meth : Method} {c : Code} {T : State} {locs : List Loc} {cells slots : Nat}
/-- a call, from behind its resolution to its return or to the exception's note over the caller's frame -/
def am_bk (p : Program) (e : Env) (below : List Frame) (T T' : State) (gf : JFrame) (mk : MethodId) (a : Array Value) (len : Nat) : Outcome → Prop
  | .returned v => Steps p.tables e below (doInvoke e (T.setTop gf) [] mk a).1 (T'.setTop { gf with pc := gf.pc + len, stack := v.toList ++ gf.stack })
  | .threw x => Steps p.tables e below (doInvoke e (T.setTop gf) [] mk a).1 ((T'.setTop gf).pushFrame (.throwing x))
theorem am_back (X : Stand p l e R s m args below meth c T locs cells slots) (hfl : l.flags = flags0) (hK : am_K g) (hW : g.1.WarmedH T.vm) {M : am_M} {as : List Value} {σ σ' : am_S} {res : Outcome} (hm : am_Mt g M as σ res σ') (hR : am_R g σ T.heap)
    (hcw : ∀ a', (am_cw M).before a' T = true) (hini : ∀ a', (Cond.initialized (am_name M).cls).before a' T = true) {mk : MethodId} (hn : T.methodNamed? (am_name M) = some mk) {gf : JFrame} (hg : gf.method = m) (hsize : gf.locals.size = c.maxLocals) {ig : Instr} {len : Nat} (hdg : decode c.code gf.pc = .ok (ig, len))
    (hWt : 2 * gf.monitorRoom + (gf.stack.map fun v => v.category).sum ≤ 8) (hfr : am_fr M + 1 ≤ R.frames) (hlo : 8 + (am_maxL M + 11) + am_lc M ≤ R.locals) (hce : cells + (σ'.1 - σ.1) ≤ R.cells) (hsl : slots + (σ'.2.1 - σ.2.1) ≤ R.slots) :
    ∃ (T' : State) (L : List Loc), Stand p l e R s m args below meth c T' (locs ++ L) (cells + (σ'.1 - σ.1)) (slots + (σ'.2.1 - σ.2.1)) ∧ am_R g σ' T'.heap ∧ (∀ q ∈ L, g.1.heap.size ≤ q.base) ∧ am_bk p e below T T' gf mk (as.map (am_up g)).toArray len (am_upO g res) := by
  obtain ⟨methY, cY, hmY, hcY, -, hlY, -, -, -, -⟩ := am_cw_spec hn (hcw #[])
  obtain ⟨kY, hkY, -⟩ := className_of_methodNamed hn
  have hinitY : kY.init = .initialized := Cond.initialized_spec (findClass_of_methodNamed hn) hkY (hini #[])
  have h : At T gf.method c below := by rw [hg]; exact X.here
  have happ : (headSpec [am_cw M] (am_rm M σ σ')).appliesLoose (am_name M) e.platform (T.calling gf mk (as.map (am_up g)).toArray) = true :=
    Spec.appliesLoose_calling (g := gf) h hdg hn hkY hinitY (X.room_calling (g := gf) (R' := am_rm M σ σ') hsize hmY hcY hfr (by rw [hlY]; show _ ≤ _; have : (am_rm M σ σ').locals = am_lc M := rfl; omega) hce hsl)
      (atoms_intro fun w hw => by rw [List.mem_singleton.mp hw]; exact hcw _)
  obtain ⟨mid, hmid⟩ := h.above
  have hfr' : (T.setTop gf).frames = (.java gf :: mid) ++ below := by rw [State.frames_setTop' gf h.top, hmid]; rfl
  obtain ⟨o, s₂, hsteps, -, hend, hq⟩ := Steps.callFree (hm l hfl hK) p X.admits X.cas X.clock (acts := []) hfr' happ ⟨rfl, hW, hR⟩ trivial
  obtain ⟨ho, hR', hW₂, L, hsame₂, hL⟩ := hq
  rw [State.frames_setTop' gf h.top] at hend
  obtain ⟨e2, q2, q3, q4, q5, q6⟩ := hsame₂
  have e3 : s₂ = ({ (T.calling gf mk (as.map (am_up g)).toArray).setFrames s₂.frames with heap := s₂.heap, slotsUsed := s₂.slotsUsed } : State).setVm s₂.vm := by
    have : s₂ = ({ s₂ with vm := (T.calling gf mk (as.map (am_up g)).toArray).vm } : State).setVm s₂.vm := rfl
    have e2' : ({ s₂ with vm := (T.calling gf mk (as.map (am_up g)).toArray).vm } : State) = { (T.calling gf mk (as.map (am_up g)).toArray).setFrames s₂.frames with heap := s₂.heap, slotsUsed := s₂.slotsUsed } := e2
    rw [e2'] at this
    exact this
  have hW' : T.WarmedH s₂.vm := hW₂
  obtain ⟨g₀, hg0⟩ := Option.isSome_iff_exists.mp h.top
  obtain ⟨r, hr⟩ := State.topJava?_eq_some.mp hg0
  have hr' : (({ T with heap := s₂.heap, slotsUsed := s₂.slotsUsed } : State).setVm s₂.vm).frames = .java g₀ :: r := hr
  have hsame : T.sameButNew ({ T with heap := s₂.heap, slotsUsed := s₂.slotsUsed } : State) L (σ'.1 - σ.1) (σ'.2.1 - σ.2.1) := by
    refine ⟨?_, q2, q3, q4, q5, q6⟩
    obtain ⟨t, ht, -⟩ := State.frames_cons hr
    show ({ T with heap := s₂.heap, slotsUsed := s₂.slotsUsed } : State) = { T.setFrames T.frames with heap := s₂.heap, slotsUsed := s₂.slotsUsed }
    rw [State.setFrames_self ht]
  subst hg
  refine ⟨(({ T with heap := s₂.heap, slotsUsed := s₂.slotsUsed } : State).setVm s₂.vm), L,
    ⟨X.admits, X.cas, X.clock, X.frames, X.room, X.hears, X.method, X.code, (X.here.setHeapUsed s₂.heap s₂.slotsUsed).setVm hW'.alike, X.tail, State.WarmedH.trans X.warmed hW', X.limits, X.bytes, X.same.trans (hsame.setVm s.vm)⟩, hR', hL, ?_⟩
  rw [← ho]
  cases o with
  | returned v =>
    obtain ⟨c₂, i₂, len₂, hc₂, hd₂, hf₂⟩ := hend
    have hcc : c₂ = c := by
      have h1 : s₂.code? gf.method = T.code? gf.method := by
        rw [State.code?_eq, State.code?_eq, hW'.alike.method?]
      exact Option.some.inj (hc₂.symm.trans (h1.trans h.code))
    subst hcc
    have hlen : len₂ = len := by rw [hdg] at hd₂; cases hd₂; rfl
    subst hlen
    have hs₂ : s₂ = (({ T with heap := s₂.heap, slotsUsed := s₂.slotsUsed } : State).setVm s₂.vm).setTop { gf with pc := gf.pc + len₂, stack := v.toList ++ gf.stack } := by
      refine e3.trans ?_
      rw [hf₂, State.calling_eq h.top, State.setFrames_setFrames, State.setTop_of_frames _ hr', hr]
      rfl
    show Steps p.tables e below _ ((({ T with heap := s₂.heap, slotsUsed := s₂.slotsUsed } : State).setVm s₂.vm).setTop { gf with pc := gf.pc + len₂, stack := v.toList ++ gf.stack })
    rw [← hs₂]
    exact hsteps
  | threw x =>
    have hf₂ : s₂.frames = .throwing x :: .java gf :: T.frames.tail := hend
    have hs₂ : s₂ = ((({ T with heap := s₂.heap, slotsUsed := s₂.slotsUsed } : State).setVm s₂.vm).setTop gf).pushFrame (.throwing x) := by
      refine e3.trans ?_
      rw [hf₂, State.calling_eq h.top, State.setFrames_setFrames, State.pushFrame, State.frames_setTop _ hr', State.setTop_of_frames _ hr', State.setFrames_setFrames, hr]
      rfl
    show Steps p.tables e below _ (((({ T with heap := s₂.heap, slotsUsed := s₂.slotsUsed } : State).setVm s₂.vm).setTop gf).pushFrame (.throwing x))
    rw [← hs₂]
    exact hsteps
end BK
