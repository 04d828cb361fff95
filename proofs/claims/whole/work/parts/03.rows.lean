section AW
variable {g : am_G} {M : am_M} {σ0 σ : am_S} {pc : Nat} {lv : List (Option Value)} {st : List Value} {β : Type} {E E1 E2 : Option β} {k : β → Option (Outcome × am_S)}
theorem am_W.pure {pc' : Nat} {st' : List Value} (h : ∀ {p : Program} {l : Launch} {e : Env} {R : Room} {s : State} {m : MethodId} {args : Array Value} {below : List Frame} {meth : Method} {c : Code} {H : Heap} {locs : List Loc} {cells slots : Nat} {Q : State → Prop} {ls : Array Slot},
      am_Cx g M p l e R s m meth c → am_L g (am_maxL M) lv ls → W p l e R s m args below meth c H locs cells slots Q (F0 m pc' ls (st'.map (am_up g))) → W p l e R s m args below meth c H locs cells slots Q (F0 m pc ls (st.map (am_up g))))
    (kk : am_W g M σ0 pc' lv st' σ E k) : am_W g M σ0 pc lv st σ E k := by
  intro res σ' hE
  obtain ⟨a, b, j⟩ := kk res σ' hE
  exact ⟨a, b, fun p l e R s m args below meth c H locs ls C hc hs h1 h2 hR hL hl => h C hL (j p l e R s m args below meth c H locs ls C hc hs h1 h2 hR hL hl)⟩
theorem am_W.stored {pc' i : Nat} {v : Value} (hv : v.category = 1) (h : ∀ {p : Program} {l : Launch} {e : Env} {R : Room} {s : State} {m : MethodId} {args : Array Value} {below : List Frame} {meth : Method} {c : Code} {H : Heap} {locs : List Loc} {cells slots : Nat} {Q : State → Prop} {ls : Array Slot},
      am_Cx g M p l e R s m meth c → am_L g (am_maxL M) lv ls → (∀ ls' : Array Slot, lv_has ls' (am_maxL M) ((i, am_up g v) :: (am_pairs g lv).filter (fun q => !(q.1 == i) && !(q.1 + 1 == i && q.2.category == 2))) → W p l e R s m args below meth c H locs cells slots Q (F0 m pc' ls' (st.map (am_up g)))) → W p l e R s m args below meth c H locs cells slots Q (F0 m pc ls ((v :: st).map (am_up g))))
    (kk : am_W g M σ0 pc' (lv.set i (some v)) st σ E k) : am_W g M σ0 pc lv (v :: st) σ E k := by
  intro res σ' hE
  obtain ⟨a, b, j⟩ := kk res σ' hE
  exact ⟨a, b, fun p l e R s m args below meth c H locs ls C hc hs h1 h2 hR hL hl => h C hL fun ls' h' => j p l e R s m args below meth c H locs ls' C hc hs h1 h2 hR (hL.store hv h') hl⟩
theorem am_W.none {k : β → Option (Outcome × am_S)} : am_W g M σ0 pc lv st σ (none : Option β) k := by
  intro res σ' hE
  cases hE
theorem am_W.done {x : β} (kk : am_W g M σ0 pc lv st σ (k x) some) : am_W g M σ0 pc lv st σ (some x) k := by
  intro res σ' hE
  exact kk res σ' ((show (k x).bind some = k x by cases k x <;> rfl).trans hE)
theorem am_W.cont {γ : Type} {f : γ → Option β} {X : Option γ} (kk : am_W g M σ0 pc lv st σ X (fun x => (f x).bind k)) : am_W g M σ0 pc lv st σ (X.bind f) k := by
  intro res σ' hE
  exact kk res σ' (by rw [← hE]; cases X <;> rfl)
theorem am_W.ite {c : Prop} {d : Decidable c} (h1 : c → am_W g M σ0 pc lv st σ E1 k) (h2 : ¬ c → am_W g M σ0 pc lv st σ E2 k) : am_W g M σ0 pc lv st σ (@ite _ c d E1 E2) k := by
  by_cases hc : c
  · rw [if_pos hc]; exact h1 hc
  · rw [if_neg hc]; exact h2 hc
theorem aw_iconst (n : Int) {v : Int32} (hd : decode (am_code M) pc = .ok (.iconst n, 1) := by decide +kernel) (hv : Int32.ofInt n = v := by rfl) (kk : am_W g M σ0 (pc + 1) lv (.int v :: st) σ E k) : am_W g M σ0 pc lv (st) σ E k :=
  kk.pure fun C hL w => lv_iconst C.1 C.2.1 hd hv w
theorem aw_bipush (n : Int) {v : Int32} (hd : decode (am_code M) pc = .ok (.bipush n, 2) := by decide +kernel) (hv : (Int8.ofInt n).toInt32 = v := by rfl) (kk : am_W g M σ0 (pc + 2) lv (.int v :: st) σ E k) : am_W g M σ0 pc lv (st) σ E k :=
  kk.pure fun C hL w => lv_bipush C.1 C.2.1 hd hv w
theorem aw_sipush (n : Int) {v : Int32} (hd : decode (am_code M) pc = .ok (.sipush n, 3) := by decide +kernel) (hv : (Int16.ofInt n).toInt32 = v := by rfl) (kk : am_W g M σ0 (pc + 3) lv (.int v :: st) σ E k) : am_W g M σ0 pc lv (st) σ E k :=
  kk.pure fun C hL w => lv_sipush C.1 C.2.1 hd hv w
theorem aw_iload_n (i : Fin 4) {x : Int32} (hd : decode (am_code M) pc = .ok (.iload_n i, 1) := by decide +kernel) (hl : lv[(i : Nat)]? = some (some (.int x)) := by rfl) (kk : am_W g M σ0 (pc + 1) lv (.int x :: st) σ E k) : am_W g M σ0 pc lv (st) σ E k :=
  kk.pure fun C hL w => lv_iload_n C.1 C.2.1 hd rfl (hL.get hl) w
theorem aw_iload (i : Nat) {x : Int32} (hd : decode (am_code M) pc = .ok (.iload i, 2) := by decide +kernel) (hl : lv[i]? = some (some (.int x)) := by rfl) (kk : am_W g M σ0 (pc + 2) lv (.int x :: st) σ E k) : am_W g M σ0 pc lv (st) σ E k :=
  kk.pure fun C hL w => lv_iload C.1 C.2.1 hd (hL.get hl) w
theorem aw_aload_n (i : Fin 4) {x : Nat} (hd : decode (am_code M) pc = .ok (.aload_n i, 1) := by decide +kernel) (hl : lv[(i : Nat)]? = some (some (.ref x)) := by rfl) (kk : am_W g M σ0 (pc + 1) lv (.ref x :: st) σ E k) : am_W g M σ0 pc lv (st) σ E k :=
  kk.pure fun C hL w => lv_aload_n C.1 C.2.1 hd rfl (hL.get hl) w
theorem aw_aload (i : Nat) {x : Nat} (hd : decode (am_code M) pc = .ok (.aload i, 2) := by decide +kernel) (hl : lv[i]? = some (some (.ref x)) := by rfl) (kk : am_W g M σ0 (pc + 2) lv (.ref x :: st) σ E k) : am_W g M σ0 pc lv (st) σ E k :=
  kk.pure fun C hL w => lv_aload C.1 C.2.1 hd (hL.get hl) w
theorem aw_iadd {x y : Int32} (hd : decode (am_code M) pc = .ok (.iadd, 1) := by decide +kernel) (kk : am_W g M σ0 (pc + 1) lv (.int (x + y) :: st) σ E k) : am_W g M σ0 pc lv (.int y :: .int x :: st) σ E k :=
  kk.pure fun C hL w => lv_iadd C.1 C.2.1 hd w
theorem aw_isub {x y : Int32} (hd : decode (am_code M) pc = .ok (.isub, 1) := by decide +kernel) (kk : am_W g M σ0 (pc + 1) lv (.int (x - y) :: st) σ E k) : am_W g M σ0 pc lv (.int y :: .int x :: st) σ E k :=
  kk.pure fun C hL w => lv_isub C.1 C.2.1 hd w
theorem aw_imul {x y : Int32} (hd : decode (am_code M) pc = .ok (.imul, 1) := by decide +kernel) (kk : am_W g M σ0 (pc + 1) lv (.int (x * y) :: st) σ E k) : am_W g M σ0 pc lv (.int y :: .int x :: st) σ E k :=
  kk.pure fun C hL w => lv_imul C.1 C.2.1 hd w
theorem aw_iand {x y : Int32} (hd : decode (am_code M) pc = .ok (.iand, 1) := by decide +kernel) (kk : am_W g M σ0 (pc + 1) lv (.int (x &&& y) :: st) σ E k) : am_W g M σ0 pc lv (.int y :: .int x :: st) σ E k :=
  kk.pure fun C hL w => lv_iand C.1 C.2.1 hd w
theorem aw_ior {x y : Int32} (hd : decode (am_code M) pc = .ok (.ior, 1) := by decide +kernel) (kk : am_W g M σ0 (pc + 1) lv (.int (x ||| y) :: st) σ E k) : am_W g M σ0 pc lv (.int y :: .int x :: st) σ E k :=
  kk.pure fun C hL w => lv_ior C.1 C.2.1 hd w
theorem aw_ixor {x y : Int32} (hd : decode (am_code M) pc = .ok (.ixor, 1) := by decide +kernel) (kk : am_W g M σ0 (pc + 1) lv (.int (x ^^^ y) :: st) σ E k) : am_W g M σ0 pc lv (.int y :: .int x :: st) σ E k :=
  kk.pure fun C hL w => lv_ixor C.1 C.2.1 hd w
theorem aw_ishr {x y : Int32} (hd : decode (am_code M) pc = .ok (.ishr, 1) := by decide +kernel) (kk : am_W g M σ0 (pc + 1) lv (.int (x >>> (y &&& 31)) :: st) σ E k) : am_W g M σ0 pc lv (.int y :: .int x :: st) σ E k :=
  kk.pure fun C hL w => lv_ishr C.1 C.2.1 hd w
def am_ushr (x y : Int32) : Int32 := (x.toUInt32 >>> (y.toUInt32 &&& Int32.toUInt32 31)).toInt32
def am_rem (x y : Int32) : Int32 := x - x / y * y
def am_i2b (x : Int32) : Int32 := x.toInt8.toInt32
def am_i2s (x : Int32) : Int32 := x.toInt16.toInt32
theorem aw_iushr {x y : Int32} (hd : decode (am_code M) pc = .ok (.iushr, 1) := by decide +kernel) (kk : am_W g M σ0 (pc + 1) lv (.int (am_ushr x y) :: st) σ E k) : am_W g M σ0 pc lv (.int y :: .int x :: st) σ E k :=
  kk.pure fun C hL w => lv_iushr C.1 C.2.1 hd rfl w
theorem aw_i2b {x : Int32} (hd : decode (am_code M) pc = .ok (.i2b, 1) := by decide +kernel) (kk : am_W g M σ0 (pc + 1) lv (.int (am_i2b x) :: st) σ E k) : am_W g M σ0 pc lv (.int x :: st) σ E k :=
  kk.pure fun C hL w => lv_i2b C.1 C.2.1 hd rfl w
theorem aw_i2s {x : Int32} (hd : decode (am_code M) pc = .ok (.i2s, 1) := by decide +kernel) (kk : am_W g M σ0 (pc + 1) lv (.int (am_i2s x) :: st) σ E k) : am_W g M σ0 pc lv (.int x :: st) σ E k :=
  kk.pure fun C hL w => lv_i2s C.1 C.2.1 hd rfl w
theorem aw_i2l {x : Int32} (hd : decode (am_code M) pc = .ok (.i2l, 1) := by decide +kernel) (kk : am_W g M σ0 (pc + 1) lv (.long x.toInt64 :: st) σ E k) : am_W g M σ0 pc lv (.int x :: st) σ E k :=
  kk.pure fun C hL w => lv_i2l C.1 C.2.1 hd rfl w
theorem aw_lcmp {x y : Int64} (hd : decode (am_code M) pc = .ok (.lcmp, 1) := by decide +kernel) (kk : am_W g M σ0 (pc + 1) lv (.int (lg_cmp x y) :: st) σ E k) : am_W g M σ0 pc lv (.long y :: .long x :: st) σ E k :=
  kk.pure fun C hL w => W.lcmp C.1 C.2.1 hd w
theorem aw_dup {v : Value} (hd : decode (am_code M) pc = .ok (.dup, 1) := by decide +kernel) (hv : v.category = 1 := by rfl) (kk : am_W g M σ0 (pc + 1) lv (v :: v :: st) σ E k) : am_W g M σ0 pc lv (v :: st) σ E k :=
  kk.pure fun C hL w => lv_dup C.1 C.2.1 hd ((am_cat g v).trans hv) w
theorem aw_pop {v : Value} (hd : decode (am_code M) pc = .ok (.pop, 1) := by decide +kernel) (hv : v.category = 1 := by rfl) (kk : am_W g M σ0 (pc + 1) lv (st) σ E k) : am_W g M σ0 pc lv (v :: st) σ E k :=
  kk.pure fun C hL w => lv_pop C.1 C.2.1 hd ((am_cat g v).trans hv) w
theorem aw_dup2 {u v : Value} (hd : decode (am_code M) pc = .ok (.dup2, 1) := by decide +kernel) (hu : u.category = 1 := by rfl) (hv : v.category = 1 := by rfl) (kk : am_W g M σ0 (pc + 1) lv (u :: v :: u :: v :: st) σ E k) : am_W g M σ0 pc lv (u :: v :: st) σ E k :=
  kk.pure fun C hL w => lv_dup2_11 C.1 C.2.1 hd ((am_cat g u).trans hu) ((am_cat g v).trans hv) w
theorem aw_ldc (i : Nat) {v : Int32} (hd : decode (am_code M) pc = .ok (.ldc i, 2) := by decide +kernel) (hw : Cond.constant (am_name M).cls i v ∈ lw_tbl) (kk : am_W g M σ0 (pc + 2) lv (.int v :: st) σ E k) : am_W g M σ0 pc lv st σ E k :=
  kk.pure fun C hL w => lv_ldc C.1 C.2.1 C.2.2.2.1 (am_word C.2.2.2.2.2.2.2.2.2.2.2.2 C.2.2.2.2.2.2.2.2.2.2.2.1 hw rfl) hd w
theorem aw_idiv {x y : Int32} (hd : decode (am_code M) pc = .ok (.idiv, 1) := by decide +kernel) (hy : ¬ y = 0) (kk : am_W g M σ0 (pc + 1) lv (.int (x / y) :: st) σ E k) : am_W g M σ0 pc lv (.int y :: .int x :: st) σ E k :=
  kk.pure fun C hL w => lv_idiv C.1 C.2.1 hd hy w
theorem aw_idivZ {x y : Int32} (hd : decode (am_code M) pc = .ok (.idiv, 1) := by decide +kernel) (kk : ¬ y = 0 → am_W g M σ0 (pc + 1) lv (.int (x / y) :: st) σ E k) : am_W g M σ0 pc lv (.int y :: .int x :: st) σ (if y = 0 then none else E) k :=
  am_W.ite (fun _ => am_W.none) fun hy => aw_idiv (hd := hd) hy (kk hy)
theorem aw_irem {x y : Int32} (hd : decode (am_code M) pc = .ok (.irem, 1) := by decide +kernel) (hy : ¬ y = 0) (kk : am_W g M σ0 (pc + 1) lv (.int (am_rem x y) :: st) σ E k) : am_W g M σ0 pc lv (.int y :: .int x :: st) σ E k :=
  kk.pure fun C hL w => lv_irem C.1 C.2.1 hd hy w
theorem aw_iremZ {x y : Int32} (hd : decode (am_code M) pc = .ok (.irem, 1) := by decide +kernel) (kk : ¬ y = 0 → am_W g M σ0 (pc + 1) lv (.int (am_rem x y) :: st) σ E k) : am_W g M σ0 pc lv (.int y :: .int x :: st) σ (if y = 0 then none else E) k :=
  am_W.ite (fun _ => am_W.none) fun hy => aw_irem (hd := hd) hy (kk hy)
theorem aw_istore (i : Nat) {x : Int32} (hd : decode (am_code M) pc = .ok (.istore i, 2) := by decide +kernel) (hn : (i : Nat) < am_maxL M := by decide) (kk : am_W g M σ0 (pc + 2) (lv.set (i : Nat) (some (.int x))) st σ E k) : am_W g M σ0 pc lv (.int x :: st) σ E k :=
  am_W.stored rfl (fun C hL w => lv_istore C.1 C.2.1 hd hL.has hn rfl w) kk
theorem aw_istore_n (i : Fin 4) {x : Int32} (hd : decode (am_code M) pc = .ok (.istore_n i, 1) := by decide +kernel) (hn : (i : Nat) < am_maxL M := by decide) (kk : am_W g M σ0 (pc + 1) (lv.set (i : Nat) (some (.int x))) st σ E k) : am_W g M σ0 pc lv (.int x :: st) σ E k :=
  am_W.stored rfl (fun C hL w => lv_istore_n C.1 C.2.1 hd rfl hL.has hn rfl w) kk
theorem aw_astore (i : Nat) {x : Nat} (hd : decode (am_code M) pc = .ok (.astore i, 2) := by decide +kernel) (hn : (i : Nat) < am_maxL M := by decide) (kk : am_W g M σ0 (pc + 2) (lv.set (i : Nat) (some (.ref x))) st σ E k) : am_W g M σ0 pc lv (.ref x :: st) σ E k :=
  am_W.stored rfl (fun C hL w => lv_astore C.1 C.2.1 hd hL.has hn rfl w) kk
theorem aw_astore_n (i : Fin 4) {x : Nat} (hd : decode (am_code M) pc = .ok (.astore_n i, 1) := by decide +kernel) (hn : (i : Nat) < am_maxL M := by decide) (kk : am_W g M σ0 (pc + 1) (lv.set (i : Nat) (some (.ref x))) st σ E k) : am_W g M σ0 pc lv (.ref x :: st) σ E k :=
  am_W.stored rfl (fun C hL w => lv_astore_n C.1 C.2.1 hd rfl hL.has hn rfl w) kk
theorem aw_iinc (i : Nat) (n : Int) {x v : Int32} (hd : decode (am_code M) pc = .ok (.iinc i n, 3) := by decide +kernel) (hl : lv[i]? = some (some (.int x)) := by rfl) (hv : Int32.ofInt n = v := by rfl) (hn : i < am_maxL M := by decide) (kk : am_W g M σ0 (pc + 3) (lv.set i (some (.int (x + v)))) st σ E k) : am_W g M σ0 pc lv st σ E k := by
  subst hv
  intro res σ' hE
  obtain ⟨a, b, j⟩ := kk res σ' hE
  refine ⟨a, b, fun p l e R s m args below meth c H locs ls C hc hs h1 h2 hR hL hl' => ?_⟩
  obtain ⟨q, hq⟩ := List.getElem?_of_mem (am_pairs_in (g := g) hl)
  exact lv_iinc C.1 C.2.1 hd hL.has hq rfl hn rfl fun ls' h' => j p l e R s m args below meth c H locs ls' C hc hs h1 h2 hR (hL.store (v := .int (x + Int32.ofInt n)) rfl h') hl'
theorem aw_if_eq (off : Int) (tgt : Nat) {x : Int32} (hd : decode (am_code M) pc = .ok (.ifCond .eq off, 3) := by decide +kernel) (ht : (pc : Int) + off = (tgt : Int) := by decide) (kt : x = 0 → am_W g M σ0 tgt lv st σ E1 k) (kf : ¬ x = 0 → am_W g M σ0 (pc + 3) lv st σ E2 k) : am_W g M σ0 pc lv (.int x :: st) σ (if x = 0 then E1 else E2) k := by
  by_cases hc : x = 0
  · rw [if_pos hc]
    exact (kt hc).pure fun C hL w => lv_if_eq C.1 C.2.1 hd ht (fun _ => w) fun h => absurd hc h
  · rw [if_neg hc]
    exact (kf hc).pure fun C hL w => lv_if_eq C.1 C.2.1 hd ht (fun h => absurd h hc) fun _ => w
theorem aw_icmp_eq (off : Int) (tgt : Nat) {x y : Int32} (hd : decode (am_code M) pc = .ok (.if_icmp .eq off, 3) := by decide +kernel) (ht : (pc : Int) + off = (tgt : Int) := by decide) (kt : x = y → am_W g M σ0 tgt lv st σ E1 k) (kf : ¬ x = y → am_W g M σ0 (pc + 3) lv st σ E2 k) : am_W g M σ0 pc lv (.int y :: .int x :: st) σ (if x = y then E1 else E2) k := by
  by_cases hc : x = y
  · rw [if_pos hc]
    exact (kt hc).pure fun C hL w => lv_icmp_eq C.1 C.2.1 hd ht (fun _ => w) fun h => absurd hc h
  · rw [if_neg hc]
    exact (kf hc).pure fun C hL w => lv_icmp_eq C.1 C.2.1 hd ht (fun h => absurd h hc) fun _ => w
theorem aw_if_ne (off : Int) (tgt : Nat) {x : Int32} (hd : decode (am_code M) pc = .ok (.ifCond .ne off, 3) := by decide +kernel) (ht : (pc : Int) + off = (tgt : Int) := by decide) (kt : ¬ x = 0 → am_W g M σ0 tgt lv st σ E2 k) (kf : x = 0 → am_W g M σ0 (pc + 3) lv st σ E1 k) : am_W g M σ0 pc lv (.int x :: st) σ (if x = 0 then E1 else E2) k := by
  by_cases hc : x = 0
  · rw [if_pos hc]
    exact (kf hc).pure fun C hL w => lv_if_ne C.1 C.2.1 hd ht (fun h => absurd hc h) fun _ => w
  · rw [if_neg hc]
    exact (kt hc).pure fun C hL w => lv_if_ne C.1 C.2.1 hd ht (fun _ => w) fun h => absurd h hc
theorem aw_icmp_ne (off : Int) (tgt : Nat) {x y : Int32} (hd : decode (am_code M) pc = .ok (.if_icmp .ne off, 3) := by decide +kernel) (ht : (pc : Int) + off = (tgt : Int) := by decide) (kt : ¬ x = y → am_W g M σ0 tgt lv st σ E2 k) (kf : x = y → am_W g M σ0 (pc + 3) lv st σ E1 k) : am_W g M σ0 pc lv (.int y :: .int x :: st) σ (if x = y then E1 else E2) k := by
  by_cases hc : x = y
  · rw [if_pos hc]
    exact (kf hc).pure fun C hL w => lv_icmp_ne C.1 C.2.1 hd ht (fun h => absurd hc h) fun _ => w
  · rw [if_neg hc]
    exact (kt hc).pure fun C hL w => lv_icmp_ne C.1 C.2.1 hd ht (fun _ => w) fun h => absurd h hc
theorem aw_if_lt (off : Int) (tgt : Nat) {x : Int32} (hd : decode (am_code M) pc = .ok (.ifCond .lt off, 3) := by decide +kernel) (ht : (pc : Int) + off = (tgt : Int) := by decide) (kt : x < 0 → am_W g M σ0 tgt lv st σ E1 k) (kf : ¬ x < 0 → am_W g M σ0 (pc + 3) lv st σ E2 k) : am_W g M σ0 pc lv (.int x :: st) σ (if x < 0 then E1 else E2) k := by
  by_cases hc : x < 0
  · rw [if_pos hc]
    exact (kt hc).pure fun C hL w => lv_if_lt C.1 C.2.1 hd ht (fun _ => w) fun h => absurd hc h
  · rw [if_neg hc]
    exact (kf hc).pure fun C hL w => lv_if_lt C.1 C.2.1 hd ht (fun h => absurd h hc) fun _ => w
theorem aw_icmp_lt (off : Int) (tgt : Nat) {x y : Int32} (hd : decode (am_code M) pc = .ok (.if_icmp .lt off, 3) := by decide +kernel) (ht : (pc : Int) + off = (tgt : Int) := by decide) (kt : x < y → am_W g M σ0 tgt lv st σ E1 k) (kf : ¬ x < y → am_W g M σ0 (pc + 3) lv st σ E2 k) : am_W g M σ0 pc lv (.int y :: .int x :: st) σ (if x < y then E1 else E2) k := by
  by_cases hc : x < y
  · rw [if_pos hc]
    exact (kt hc).pure fun C hL w => lv_icmp_lt C.1 C.2.1 hd ht (fun _ => w) fun h => absurd hc h
  · rw [if_neg hc]
    exact (kf hc).pure fun C hL w => lv_icmp_lt C.1 C.2.1 hd ht (fun h => absurd h hc) fun _ => w
theorem aw_if_ge (off : Int) (tgt : Nat) {x : Int32} (hd : decode (am_code M) pc = .ok (.ifCond .ge off, 3) := by decide +kernel) (ht : (pc : Int) + off = (tgt : Int) := by decide) (kt : 0 ≤ x → am_W g M σ0 tgt lv st σ E1 k) (kf : ¬ 0 ≤ x → am_W g M σ0 (pc + 3) lv st σ E2 k) : am_W g M σ0 pc lv (.int x :: st) σ (if 0 ≤ x then E1 else E2) k := by
  by_cases hc : 0 ≤ x
  · rw [if_pos hc]
    exact (kt hc).pure fun C hL w => lv_if_ge C.1 C.2.1 hd ht (fun _ => w) fun h => absurd hc h
  · rw [if_neg hc]
    exact (kf hc).pure fun C hL w => lv_if_ge C.1 C.2.1 hd ht (fun h => absurd h hc) fun _ => w
theorem aw_icmp_ge (off : Int) (tgt : Nat) {x y : Int32} (hd : decode (am_code M) pc = .ok (.if_icmp .ge off, 3) := by decide +kernel) (ht : (pc : Int) + off = (tgt : Int) := by decide) (kt : y ≤ x → am_W g M σ0 tgt lv st σ E1 k) (kf : ¬ y ≤ x → am_W g M σ0 (pc + 3) lv st σ E2 k) : am_W g M σ0 pc lv (.int y :: .int x :: st) σ (if y ≤ x then E1 else E2) k := by
  by_cases hc : y ≤ x
  · rw [if_pos hc]
    exact (kt hc).pure fun C hL w => lv_icmp_ge C.1 C.2.1 hd ht (fun _ => w) fun h => absurd hc h
  · rw [if_neg hc]
    exact (kf hc).pure fun C hL w => lv_icmp_ge C.1 C.2.1 hd ht (fun h => absurd h hc) fun _ => w
theorem aw_if_gt (off : Int) (tgt : Nat) {x : Int32} (hd : decode (am_code M) pc = .ok (.ifCond .gt off, 3) := by decide +kernel) (ht : (pc : Int) + off = (tgt : Int) := by decide) (kt : 0 < x → am_W g M σ0 tgt lv st σ E1 k) (kf : ¬ 0 < x → am_W g M σ0 (pc + 3) lv st σ E2 k) : am_W g M σ0 pc lv (.int x :: st) σ (if 0 < x then E1 else E2) k := by
  by_cases hc : 0 < x
  · rw [if_pos hc]
    exact (kt hc).pure fun C hL w => lv_if_gt C.1 C.2.1 hd ht (fun _ => w) fun h => absurd hc h
  · rw [if_neg hc]
    exact (kf hc).pure fun C hL w => lv_if_gt C.1 C.2.1 hd ht (fun h => absurd h hc) fun _ => w
theorem aw_icmp_gt (off : Int) (tgt : Nat) {x y : Int32} (hd : decode (am_code M) pc = .ok (.if_icmp .gt off, 3) := by decide +kernel) (ht : (pc : Int) + off = (tgt : Int) := by decide) (kt : y < x → am_W g M σ0 tgt lv st σ E1 k) (kf : ¬ y < x → am_W g M σ0 (pc + 3) lv st σ E2 k) : am_W g M σ0 pc lv (.int y :: .int x :: st) σ (if y < x then E1 else E2) k := by
  by_cases hc : y < x
  · rw [if_pos hc]
    exact (kt hc).pure fun C hL w => lv_icmp_gt C.1 C.2.1 hd ht (fun _ => w) fun h => absurd hc h
  · rw [if_neg hc]
    exact (kf hc).pure fun C hL w => lv_icmp_gt C.1 C.2.1 hd ht (fun h => absurd h hc) fun _ => w
theorem aw_if_le (off : Int) (tgt : Nat) {x : Int32} (hd : decode (am_code M) pc = .ok (.ifCond .le off, 3) := by decide +kernel) (ht : (pc : Int) + off = (tgt : Int) := by decide) (kt : x ≤ 0 → am_W g M σ0 tgt lv st σ E1 k) (kf : ¬ x ≤ 0 → am_W g M σ0 (pc + 3) lv st σ E2 k) : am_W g M σ0 pc lv (.int x :: st) σ (if x ≤ 0 then E1 else E2) k := by
  by_cases hc : x ≤ 0
  · rw [if_pos hc]
    exact (kt hc).pure fun C hL w => lv_if_le C.1 C.2.1 hd ht (fun _ => w) fun h => absurd hc h
  · rw [if_neg hc]
    exact (kf hc).pure fun C hL w => lv_if_le C.1 C.2.1 hd ht (fun h => absurd h hc) fun _ => w
theorem aw_icmp_le (off : Int) (tgt : Nat) {x y : Int32} (hd : decode (am_code M) pc = .ok (.if_icmp .le off, 3) := by decide +kernel) (ht : (pc : Int) + off = (tgt : Int) := by decide) (kt : x ≤ y → am_W g M σ0 tgt lv st σ E1 k) (kf : ¬ x ≤ y → am_W g M σ0 (pc + 3) lv st σ E2 k) : am_W g M σ0 pc lv (.int y :: .int x :: st) σ (if x ≤ y then E1 else E2) k := by
  by_cases hc : x ≤ y
  · rw [if_pos hc]
    exact (kt hc).pure fun C hL w => lv_icmp_le C.1 C.2.1 hd ht (fun _ => w) fun h => absurd hc h
  · rw [if_neg hc]
    exact (kf hc).pure fun C hL w => lv_icmp_le C.1 C.2.1 hd ht (fun h => absurd h hc) fun _ => w
theorem aw_goto (off : Int) (tgt : Nat) (hd : decode (am_code M) pc = .ok (.goto off, 3) := by decide +kernel) (ht : (pc : Int) + off = (tgt : Int) := by decide) (kk : am_W g M σ0 tgt lv st σ E k) : am_W g M σ0 pc lv st σ E k :=
  kk.pure fun C hL w => lv_goto C.1 C.2.1 hd ht w
theorem aw_tsOut (dflt lo hi : Int) (offs : Array Int) (len tgt : Nat) {x : Int32} (hd : decode (am_code M) pc = .ok (.tableswitch dflt lo hi offs, len) := by decide +kernel) (ht : (pc : Int) + dflt = (tgt : Int) := by decide) (h : x.toInt < lo ∨ hi < x.toInt) (kk : am_W g M σ0 tgt lv st σ E k) : am_W g M σ0 pc lv (.int x :: st) σ E k :=
  kk.pure fun C hL w => lv_tableOut C.1 C.2.1 hd h ht w
theorem aw_tsIn (dflt lo hi : Int) (offs : Array Int) (len tgt : Nat) (off : Int) {x : Int32} (hd : decode (am_code M) pc = .ok (.tableswitch dflt lo hi offs, len) := by decide +kernel) (ht : (pc : Int) + off = (tgt : Int) := by decide) (h1 : ¬ x.toInt < lo) (h2 : ¬ hi < x.toInt) (ho : offs[(x.toInt - lo).toNat]? = some off) (kk : am_W g M σ0 tgt lv st σ E k) : am_W g M σ0 pc lv (.int x :: st) σ E k :=
  kk.pure fun C hL w => lv_tableIn C.1 C.2.1 hd h1 h2 ho ht w
end AW
