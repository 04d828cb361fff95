/-! ===== the classes by number: names, how many fields, the fields ===== -/
def am_cn : Nat → String
  | 0 => "MapMerger"
  | 1 => "MapMerger$Inbox"
  | 2 => "MapMerger$Blobs"
  | 3 => "MapMerger$LineTable"
  | 4 => "MapMerger$PathMap"
  | 5 => "MapMerger$Renames"
  | 6 => "MapMerger$Merging"
  | 7 => "MapMerger$TextMerger"
  | 8 => "MapMerger$Part"
  | 9 => "MapMerger$Outcomes"
  | 10 => "MapMergerModel"
  | 11 => "MapMergerModel$Paths"
  | 12 => "MapMergerModel$Row"
  | 13 => "java/lang/IllegalArgumentException"
  | 14 => "java/lang/IllegalStateException"
  | 15 => "java/util/NoSuchElementException"
  | 16 => "MapMergerModel$No"
  | _ => ""
def am_N : Nat → Nat
  | 0 => 5
  | 1 => 4
  | 2 => 8
  | 3 => 7
  | 4 => 4
  | 5 => 9
  | 6 => 15
  | 7 => 11
  | 8 => 4
  | 9 => 10
  | 10 => 42
  | 11 => 5
  | 12 => 2
  | _ => 0
/-- name, descriptor, final, type -/
def am_fl : Nat → List (String × String × Bool × FieldType)
  | 0 => [("inbox", "LMapMerger$Inbox;", true, .object "MapMerger$Inbox"), ("blobs", "LMapMerger$Blobs;", true, .object "MapMerger$Blobs"), ("maps", "[LMapMerger$PathMap;", true, .array (.object "MapMerger$PathMap")), ("renames", "LMapMerger$Renames;", true, .object "MapMerger$Renames"), ("merging", "LMapMerger$Merging;", true, .object "MapMerger$Merging")]
  | 1 => [("bytes", "[B", true, .array .byte), ("ends", "[I", true, .array .int), ("arguments", "I", false, .int), ("length", "I", false, .int)]
  | 2 => [("bytes", "[B", true, .array .byte), ("starts", "[I", true, .array .int), ("rough", "[Z", true, .array .boolean), ("firstLines", "[I", true, .array .int), ("lineCounts", "[I", true, .array .int), ("lines", "LMapMerger$LineTable;", true, .object "MapMerger$LineTable"), ("waiting", "[I", true, .array .int), ("size", "I", false, .int)]
  | 3 => [("bytes", "[B", true, .array .byte), ("starts", "[I", true, .array .int), ("lengths", "[I", true, .array .int), ("kinds", "[I", true, .array .int), ("heads", "[I", true, .array .int), ("chain", "[I", true, .array .int), ("size", "I", false, .int)]
  | 4 => [("letters", "[B", true, .array .byte), ("starts", "[I", true, .array .int), ("values", "[I", true, .array .int), ("size", "I", false, .int)]
  | 5 => [("blobs", "LMapMerger$Blobs;", true, .object "MapMerger$Blobs"), ("gone", "[I", true, .array .int), ("come", "[I", true, .array .int), ("comeTaken", "[Z", true, .array .boolean), ("scores", "[I", true, .array .int), ("partners", "[I", true, .array .int), ("partnerScores", "[I", true, .array .int), ("goneCount", "I", false, .int), ("comeCount", "I", false, .int)]
  | 6 => [("base", "LMapMerger$PathMap;", true, .object "MapMerger$PathMap"), ("ours", "LMapMerger$PathMap;", true, .object "MapMerger$PathMap"), ("theirs", "LMapMerger$PathMap;", true, .object "MapMerger$PathMap"), ("blobs", "LMapMerger$Blobs;", true, .object "MapMerger$Blobs"), ("toOurs", "LMapMerger$Renames;", true, .object "MapMerger$Renames"), ("toTheirs", "LMapMerger$Renames;", true, .object "MapMerger$Renames"), ("oursUsed", "[Z", true, .array .boolean), ("theirsUsed", "[Z", true, .array .boolean), ("groupsP", "[I", true, .array .int), ("groupsA", "[I", true, .array .int), ("groupsB", "[I", true, .array .int), ("merger", "LMapMerger$TextMerger;", true, .object "MapMerger$TextMerger"), ("groupCount", "I", false, .int), ("latest", "LMapMerger$Outcomes;", false, .object "MapMerger$Outcomes"), ("spare", "LMapMerger$Outcomes;", false, .object "MapMerger$Outcomes")]
  | 7 => [("blobs", "LMapMerger$Blobs;", true, .object "MapMerger$Blobs"), ("base", "LMapMerger$Part;", true, .object "MapMerger$Part"), ("ours", "LMapMerger$Part;", true, .object "MapMerger$Part"), ("theirs", "LMapMerger$Part;", true, .object "MapMerger$Part"), ("longest", "[I", true, .array .int), ("oursPairs", "[I", true, .array .int), ("theirsPairs", "[I", true, .array .int), ("text", "[B", true, .array .byte), ("length", "I", false, .int), ("conflict", "Z", false, .boolean), ("tooLong", "Z", false, .boolean)]
  | 8 => [("blobs", "LMapMerger$Blobs;", true, .object "MapMerger$Blobs"), ("number", "I", false, .int), ("from", "I", false, .int), ("to", "I", false, .int)]
  | 9 => [("blobs", "LMapMerger$Blobs;", true, .object "MapMerger$Blobs"), ("places", "LMapMerger$PathMap;", true, .object "MapMerger$PathMap"), ("unmerged", "[Z", true, .array .boolean), ("sources", "[I", true, .array .int), ("textBlobs", "[I", true, .array .int), ("textStarts", "[I", true, .array .int), ("textLengths", "[I", true, .array .int), ("mergedBytes", "[B", true, .array .byte), ("mergedLength", "I", false, .int), ("unmergedCount", "I", false, .int)]
  | 10 => [("thrown", "I", false, .int), ("maps", "[LMapMergerModel$Paths;", true, .array (.object "MapMergerModel$Paths")), ("blobs", "LMapMergerModel$Row;", true, .object "MapMergerModel$Row"), ("blobFrom", "[I", true, .array .int), ("blobMany", "I", false, .int), ("input", "LMapMergerModel$Row;", true, .object "MapMergerModel$Row"), ("arguments", "[LMapMergerModel$Row;", true, .array (.object "MapMergerModel$Row")), ("given", "I", false, .int), ("texts", "[LMapMergerModel$Row;", true, .array (.object "MapMergerModel$Row")), ("starts", "[I", true, .array .int), ("kinds", "[I", true, .array .int), ("count", "[I", true, .array .int), ("partner", "[I", true, .array .int), ("above", "[I", true, .array .int), ("below", "[I", true, .array .int), ("gone", "[I", true, .array .int), ("come", "[I", true, .array .int), ("scores", "[S", true, .array .short), ("goneMany", "I", false, .int), ("comeMany", "I", false, .int), ("base", "LMapMergerModel$Paths;", true, .object "MapMergerModel$Paths"), ("mine", "LMapMergerModel$Paths;", true, .object "MapMergerModel$Paths"), ("theirs", "LMapMergerModel$Paths;", true, .object "MapMergerModel$Paths"), ("outcome", "LMapMergerModel$Paths;", true, .object "MapMergerModel$Paths"), ("result", "LMapMergerModel$Paths;", true, .object "MapMergerModel$Paths"), ("toOurs", "[I", true, .array .int), ("toTheirs", "[I", true, .array .int), ("anyScore", "[I", true, .array .int), ("oursDone", "[Z", true, .array .boolean), ("theirsDone", "[Z", true, .array .boolean), ("fresh", "LMapMergerModel$Row;", true, .object "MapMergerModel$Row"), ("merge", "LMapMergerModel$Row;", true, .object "MapMergerModel$Row"), ("freshFrom", "[I", true, .array .int), ("freshMany", "I", false, .int), ("baseAt", "[I", true, .array .int), ("oursAt", "[I", true, .array .int), ("theirsAt", "[I", true, .array .int), ("next", "LMapMergerModel$Paths;", true, .object "MapMergerModel$Paths"), ("seen", "LMapMergerModel$Paths;", true, .object "MapMergerModel$Paths"), ("seenTexts", "LMapMergerModel$Row;", true, .object "MapMergerModel$Row"), ("seenFrom", "[I", true, .array .int), ("seenBlob", "[I", true, .array .int)]
  | 11 => [("names", "LMapMergerModel$Row;", true, .object "MapMergerModel$Row"), ("from", "[I", true, .array .int), ("blobs", "[I", true, .array .int), ("unmerged", "[Z", true, .array .boolean), ("n", "I", false, .int)]
  | 12 => [("at", "[B", false, .array .byte), ("n", "I", false, .int)]
  | _ => []
def am_fd (c k : Nat) : String × String × Bool × FieldType := (am_fl c).getD k ("", "", false, .int)
def am_NC : Nat := 16
/-! ===== THE ABSTRACT MACHINE: addresses by number (8 and on: made since the law began, in their order; below 8: what was there before), a heap of plain cells ===== -/
/-- the law's first state; what was there before, by number; the classes' numbers in the tables; the slots of their fields -/
abbrev am_G : Type := State × (Nat → Nat) × (Nat → ClassId) × (Nat → Nat → Nat)
abbrev am_C : Type := (FieldType × Nat × (Nat → Value)) ⊕ (Nat × List Value)
/-- next address, slots used so far, heap -/
abbrev am_S : Type := Nat × Nat × (Nat → Option am_C)
/-- name, bytes, locals, what it returns, handlers, frames and locals that its calls need -/
abbrev am_M : Type := MethodName × ByteArray × Nat × Option FieldType × List (Nat × Nat × Nat × Nat) × Nat × Nat
def am_r (g : am_G) (k : Nat) : Nat := if k < 8 then g.2.1 k else g.1.heap.size + (k - 8)
def am_up (g : am_G) : Value → Value
  | .ref k => .ref (am_r g k)
  | v => v
/-- an array of references: the class of its components -/
def am_ok (U : State) (cA : ClassId) : FieldType → Prop
  | .object C => ∃ (kA : Class) (comp : ClassId), U.vm.classes[cA]? = some kA ∧ kA.kind = .array comp (.object C) ∧ U.vm.findClass C = some comp
  | _ => True
def am_at (g : am_G) (a : Nat) (x : am_C) (H : Heap) : Prop := match x with
  | .inl y => ∃ cell : Cell, H[a]? = some cell ∧ g.1.isArrayOf cell y.1 ∧ am_ok g.1 cell.cls y.1 ∧ cell.vm ≠ .unknown ∧ (y.2.1 ≤ cell.slots.size ∧ cell.slots.size.toInt32 = Int32.ofNat y.2.1) ∧ ∀ j, j < y.2.1 → cell.slots[j]? = some (am_up g (y.2.2 j)) ∧ fits y.1 (am_up g (y.2.2 j)) = true
  | .inr y => t_OB a (g.2.2.1 y.1) (am_N y.1) (g.2.2.2 y.1) H (vp_V (y.2.map (am_up g)))
def am_R (g : am_G) (σ : am_S) (H : Heap) : Prop :=
  (∀ (k : Nat) (x : am_C), σ.2.2 k = some x → am_at g (am_r g k) x H) ∧ H.size = g.1.heap.size + (σ.1 - 8) ∧ 8 ≤ σ.1 ∧ ∀ a, a < g.1.heap.size → H[a]? = g.1.heap[a]?
/-- words that speak of static fields' cells -/
def am_hw : List Cond := [.laysStatic "java/lang/Throwable" "UNASSIGNED_STACK" "[Ljava/lang/StackTraceElement;", .laysStatic "java/lang/Throwable" "SUPPRESSED_SENTINEL" "Ljava/util/List;", .isRef (.static "java/lang/Throwable" "UNASSIGNED_STACK" "[Ljava/lang/StackTraceElement;"), .isRef (.static "java/lang/Throwable" "SUPPRESSED_SENTINEL" "Ljava/util/List;")]
/-- the three marks (2, 3, 4), their bytes' arrays (5, 6, 7), String's own static -/
def am_str (g : am_G) : Prop :=
  (∀ i, 2 ≤ i → i < 5 → va_O "java/lang/String" (g.2.1 i) (fun q => g.1.heap.size ≤ q) g.1 g.1.heap ∧ va_OF "java/lang/String" "coder" "B" (.int 0) (g.2.1 i) (fun q => g.1.heap.size ≤ q) g.1 g.1.heap ∧ va_OF "java/lang/String" "value" "[B" (.ref (g.2.1 (i + 3))) (g.2.1 i) (fun q => g.1.heap.size ≤ q) g.1 g.1.heap) ∧
  va_Z "java/lang/String" "COMPACT_STRINGS" "Z" (.int 1) (fun q => g.1.heap.size ≤ q) g.1 g.1.heap ∧
  (vk_R "MapMerger$TextMerger" 132 "<<<<<<< ours\n" (g.2.1 2) g.1 ∧ vk_R "MapMerger$TextMerger" 141 "=======\n" (g.2.1 3) g.1 ∧ vk_R "MapMerger$TextMerger" 143 ">>>>>>> theirs\n" (g.2.1 4) g.1) ∧
  (vk_R "MapMergerModel" 80 "<<<<<<< ours\n" (g.2.1 2) g.1 ∧ vk_R "MapMergerModel" 89 "=======\n" (g.2.1 3) g.1 ∧ vk_R "MapMergerModel" 91 ">>>>>>> theirs\n" (g.2.1 4) g.1) ∧
  (∃ v : Value, v.category = 1 ∧ va_Z "jdk/internal/util/Preconditions" "SIOOBE_FORMATTER" "Ljava/util/function/BiFunction;" v (fun q => g.1.heap.size ≤ q) g.1 g.1.heap) ∧
  va_O "MapMergerModel$No" (g.2.1 1) (fun q => g.1.heap.size ≤ q) g.1 g.1.heap
/-- what is known of the start -/
def am_K (g : am_G) : Prop :=
  (∀ w ∈ lw_tbl, (goodWord w = true ∨ w.onTables = true ∨ ∃ C, w = .arrayOver (.object C)) → w.before #[] g.1 = true) ∧
  (∀ c, c < am_NC → ClassAt g.1 (am_cn c) (g.2.2.1 c) ∧ ∀ k, k < am_N c → SlotIs g.1 (am_cn c) (am_fd c k).1 (am_fd c k).2.1 (g.2.2.2 c k)) ∧
  (∀ k, k < 8 → g.2.1 k < g.1.heap.size) ∧
  (g.1.vm.assignable (g.2.2.1 14) (g.2.2.1 13) = false ∧ g.1.vm.assignable (g.2.2.1 15) (g.2.2.1 13) = false) ∧
  ((∀ w ∈ am_hw, w.before #[] g.1 = true) ∧ va_Z "MapMergerModel" "REFUSED" "LMapMergerModel$No;" (.ref (g.2.1 1)) (fun q => g.1.heap.size ≤ q) g.1 g.1.heap ∧ am_str g)
abbrev am_name (M : am_M) : MethodName := M.1
abbrev am_code (M : am_M) : ByteArray := M.2.1
abbrev am_maxL (M : am_M) : Nat := M.2.2.1
abbrev am_ret (M : am_M) : Option FieldType := M.2.2.2.1
abbrev am_hand (M : am_M) : List (Nat × Nat × Nat × Nat) := M.2.2.2.2.1
abbrev am_fr (M : am_M) : Nat := M.2.2.2.2.2.1
abbrev am_lc (M : am_M) : Nat := M.2.2.2.2.2.2
/-- a method's own facts, at its entry -/
def am_Cx (g : am_G) (M : am_M) (p : Program) (l : Launch) (e : Env) (R : Room) (s : State) (m : MethodId) (meth : Method) (c : Code) : Prop :=
  p.tables.exec = Jvm.exec ∧ c.code = am_code M ∧ c.maxLocals = am_maxL M ∧ s.vm.findClass (am_name M).cls = some m.cls ∧ meth.sig.returnType = am_ret M ∧ meth.locks = false ∧ meth.name = (am_name M).name ∧
  c.exceptionTable.toList.map (fun x => (x.startPc, x.endPc, x.handlerPc, x.catchType)) = am_hand M ∧ am_fr M ≤ R.frames ∧ am_lc M ≤ R.locals ∧ (l.flags = flags0 ∧ ∀ a, a < g.1.heap.size → s.heap[a]? = g.1.heap[a]?) ∧ g.1.WarmedH s.vm ∧ am_K g
def am_L (g : am_G) (nL : Nat) (lv : List (Option Value)) (ls : Array Slot) : Prop :=
  ls.size = nL ∧ lv_wf ls ∧ ∀ (i : Nat) (v : Value), lv[i]? = some (some v) → v.category = 1 ∧ ls[i]? = some (.val (am_up g v))
def am_upO (g : am_G) : Outcome → Outcome
  | .returned v => .returned (v.map (am_up g))
  | .threw a => .threw (am_r g a)
/-- how a method ends -/
def am_End (g : am_G) (below : List Frame) (s : State) (σ0 σ' : am_S) (res : Outcome) : State → Prop := fun t =>
  t.status = .running ∧ Ended t below (am_upO g res) ∧ am_R g σ' t.heap ∧ s.WarmedH t.vm ∧ ∃ L : List Loc, s.sameButNew ({ t with vm := s.vm } : State) L (σ'.1 - σ0.1) (σ'.2.1 - σ0.2.1) ∧ ∀ q ∈ L, g.1.heap.size ≤ q.base
/-- the machine, at pc with these locals, this stack and this heap, comes to that end -/
def am_J (g : am_G) (M : am_M) (σ0 σ' : am_S) (res : Outcome) (pc : Nat) (lv : List (Option Value)) (st : List Value) (σ : am_S) : Prop :=
  ∀ (p : Program) (l : Launch) (e : Env) (R : Room) (s : State) (m : MethodId) (args : Array Value) (below : List Frame) (meth : Method) (c : Code) (H : Heap) (locs : List Loc) (ls : Array Slot),
    am_Cx g M p l e R s m meth c → σ'.1 - σ0.1 ≤ R.cells → σ'.2.1 - σ0.2.1 ≤ R.slots → σ0.1 ≤ σ.1 → σ0.2.1 ≤ σ.2.1 → am_R g σ H → am_L g (am_maxL M) lv ls → (∀ q ∈ locs, g.1.heap.size ≤ q.base) →
    W p l e R s m args below meth c H locs (σ.1 - σ0.1) (σ.2.1 - σ0.2.1) (am_End g below s σ0 σ' res) (F0 m pc ls (st.map (am_up g)))
/-- the machine does what the expression says, where it says something -/
def am_W (g : am_G) (M : am_M) (σ0 : am_S) (pc : Nat) (lv : List (Option Value)) (st : List Value) (σ : am_S) {β : Type} (E : Option β) (k : β → Option (Outcome × am_S)) : Prop :=
  ∀ (res : Outcome) (σ' : am_S), E.bind k = some (res, σ') → σ.1 ≤ σ'.1 ∧ σ.2.1 ≤ σ'.2.1 ∧ am_J g M σ0 σ' res pc lv st σ
/-! ===== small facts ===== -/
theorem am_word {g : am_G} {s : State} {args : Array Value} (hK : am_K g) (hW : g.1.WarmedH s.vm) {w : Cond} (hw : w ∈ lw_tbl) (hg : goodWord w = true) : w.before args s = true := by
  refine word_at hW ?_ (hK.1 w hw (Or.inl hg))
  exact good_of_word hg
theorem am_wordF {g : am_G} {s : State} {args : Array Value} (hK : am_K g) (hW : g.1.WarmedH s.vm) {a : String} {i : Nat} {b n d h : String} (hw : Cond.fieldLinkNest a i b n d h ∈ lw_tbl) : (Cond.fieldLinkNest a i b n d h).before args s = true :=
  va_Nw.use rfl (va_Nw.warmF hW (hK.1 _ hw (Or.inr (Or.inl rfl))))
theorem am_wordM {g : am_G} {s : State} {args : Array Value} (hK : am_K g) (hW : g.1.WarmedH s.vm) {a : String} {i : Nat} {x : MethodName} {h : String} (hw : Cond.methodLinkNest a i x h ∈ lw_tbl) : (Cond.methodLinkNest a i x h).before args s = true :=
  va_Nw.use rfl (va_Nw.warmM hW (hK.1 _ hw (Or.inr (Or.inl rfl))))
theorem am_wordC {g : am_G} {s : State} {args : Array Value} (hK : am_K g) (hW : g.1.WarmedH s.vm) {a b : String} (hw : Cond.castable a b ∈ lw_tbl) : (Cond.castable a b).before args s = true :=
  va_Nw.use rfl (va_Nw.warmC hW (hK.1 _ hw (Or.inr (Or.inl rfl))))
theorem am_wordD {g : am_G} {s : State} {args : Array Value} (hK : am_K g) (hW : g.1.WarmedH s.vm) {x : MethodName} (hw : Cond.declares x ∈ lw_tbl) : (Cond.declares x).before args s = true :=
  va_Nw.use rfl (va_Nw.warmD hW (hK.1 _ hw (Or.inr (Or.inl rfl))))
theorem am_wordO {g : am_G} {s : State} {args : Array Value} (hK : am_K g) (hW : g.1.WarmedH s.vm) {C : String} (hw : Cond.arrayOver (.object C) ∈ lw_tbl) : (Cond.arrayOver (.object C)).before args s = true :=
  va_AO.use (va_AO.moved hW.alike (hK.1 _ hw (Or.inr (Or.inr ⟨C, rfl⟩))))
theorem am_alike {g : am_G} {s : State} (hW : g.1.WarmedH s.vm) : g.1.vm.Alike s.vm := hW.alike
theorem am_L.get {g : am_G} {nL : Nat} {lv : List (Option Value)} {ls : Array Slot} (h : am_L g nL lv ls) {i : Nat} {v : Value} (hi : lv[i]? = some (some v)) : ls[i]? = some (.val (am_up g v)) := (h.2.2 i v hi).2
theorem am_cat (g : am_G) (v : Value) : (am_up g v).category = v.category := by cases v <;> rfl
def am_pairs (g : am_G) (lv : List (Option Value)) : List (Nat × Value) := (List.range lv.length).filterMap fun i => match lv[i]? with
  | some (some v) => some (i, am_up g v)
  | _ => none
theorem am_pairs_mem {g : am_G} {lv : List (Option Value)} {q : Nat × Value} (h : q ∈ am_pairs g lv) : ∃ v, lv[q.1]? = some (some v) ∧ q.2 = am_up g v := by
  obtain ⟨i, -, hi⟩ := List.mem_filterMap.mp h
  split at hi
  · rename_i v hv
    cases hi
    exact ⟨v, hv, rfl⟩
  · cases hi
theorem am_pairs_in {g : am_G} {lv : List (Option Value)} {i : Nat} {v : Value} (h : lv[i]? = some (some v)) : (i, am_up g v) ∈ am_pairs g lv := by
  refine List.mem_filterMap.mpr ⟨i, List.mem_range.mpr (List.getElem?_eq_some_iff.mp h).1, ?_⟩
  simp [h]
theorem am_L.has {g : am_G} {nL : Nat} {lv : List (Option Value)} {ls : Array Slot} (h : am_L g nL lv ls) : lv_has ls nL (am_pairs g lv) := by
  refine ⟨h.1, h.2.1, fun q hq => ?_⟩
  obtain ⟨v, h1, h2⟩ := am_pairs_mem hq
  rw [h2]
  exact (h.2.2 _ _ h1).2
theorem am_L.store {g : am_G} {nL : Nat} {lv : List (Option Value)} {ls ls' : Array Slot} (h : am_L g nL lv ls) {i : Nat} {v : Value} (hc : v.category = 1)
    (h' : lv_has ls' nL ((i, am_up g v) :: (am_pairs g lv).filter (fun q => !(q.1 == i) && !(q.1 + 1 == i && q.2.category == 2)))) : am_L g nL (lv.set i (some v)) ls' := by
  refine ⟨h'.1, h'.2.1, fun j w hj => ?_⟩
  by_cases hji : j = i
  · subst hji
    have hl : j < lv.length := by
      have := (List.getElem?_eq_some_iff.mp hj).1
      simpa using this
    rw [List.getElem?_set_self hl] at hj
    cases hj
    exact ⟨hc, h'.2.2 (j, am_up g v) List.mem_cons_self⟩
  · rw [List.getElem?_set_ne (Ne.symm hji)] at hj
    have h1 := (h.2.2 j w hj).1
    refine ⟨h1, h'.2.2 (j, am_up g w) (List.mem_cons_of_mem _ (List.mem_filter.mpr ⟨am_pairs_in hj, ?_⟩))⟩
    simp [hji, am_cat, h1]
