/-! ===== the law's start: what the abstract machine begins with ===== -/
def sm_len : List Nat := [13, 8, 15]
def sm_byt : List (List Int32) := [[60, 60, 60, 60, 60, 60, 60, 32, 111, 117, 114, 115, 10], [61, 61, 61, 61, 61, 61, 61, 10], [62, 62, 62, 62, 62, 62, 62, 32, 116, 104, 101, 105, 114, 115, 10]]
def sm_tm : Nat → Term
  | 0 => .string "MapMerger$TextMerger" 132
  | 1 => .string "MapMerger$TextMerger" 141
  | _ => .string "MapMerger$TextMerger" 143
def sm_md : Nat → Term
  | 0 => .string "MapMergerModel" 80
  | 1 => .string "MapMergerModel" 89
  | _ => .string "MapMergerModel" 91
abbrev sm_all : List Cond := flatC (Jvm.Cond.and given_1 narrow_1)
theorem sm_ex : ∀ i, i < 3 → Cond.exactly (sm_tm i) "java/lang/String" ∈ sm_all := by decide +kernel
theorem sm_co : ∀ i, i < 3 → Cond.eq (.field (sm_tm i) "java/lang/String" "coder" "B") (.int 0) ∈ sm_all := by decide +kernel
theorem sm_ar : ∀ i, i < 3 → Cond.arrayOf (.field (sm_tm i) "java/lang/String" "value" "[B") .byte ∈ sm_all := by decide +kernel
theorem sm_le : ∀ i, i < 3 → Cond.eq (.length (.field (sm_tm i) "java/lang/String" "value" "[B")) (.int (Int32.ofNat (sm_len.getD i 0))) ∈ sm_all := by decide +kernel
theorem sm_el : ∀ i, i < 3 → ∀ j, j < sm_len.getD i 0 → Cond.eq (.elem (.field (sm_tm i) "java/lang/String" "value" "[B") (.int (Int32.ofNat j))) (.int ((sm_byt.getD i []).getD j 0)) ∈ sm_all := by decide +kernel
theorem sm_ne : ∀ i, i < 3 → ∀ j, j < 3 → i ≠ j → (Cond.not (Cond.eq (sm_tm i) (sm_tm j)) ∈ sm_all ∨ Cond.not (Cond.eq (sm_tm j) (sm_tm i)) ∈ sm_all) := by decide +kernel
theorem sm_same : ∀ i, i < 3 → Cond.eq (sm_tm i) (sm_md i) ∈ sm_all := by decide +kernel
def sm_rl : List Cond := [.isRef (.static "java/lang/Throwable" "UNASSIGNED_STACK" "[Ljava/lang/StackTraceElement;"), .isRef (.static "java/lang/Throwable" "SUPPRESSED_SENTINEL" "Ljava/util/List;"), .eq (.static "java/lang/String" "COMPACT_STRINGS" "Z") (.int 1), .isRef (.static "jdk/internal/util/Preconditions" "SIOOBE_FORMATTER" "Ljava/util/function/BiFunction;"), .exactly (.static "MapMergerModel" "REFUSED" "LMapMergerModel$No;") "MapMergerModel$No", .not (.castable "java/lang/IllegalStateException" "java/lang/IllegalArgumentException"), .not (.castable "java/util/NoSuchElementException" "java/lang/IllegalArgumentException")]
theorem sm_rest : ∀ w ∈ sm_rl, w ∈ sm_all := by decide +kernel
def sm_tl : List Cond := [.laysStatic "java/lang/Throwable" "UNASSIGNED_STACK" "[Ljava/lang/StackTraceElement;", .laysStatic "java/lang/Throwable" "SUPPRESSED_SENTINEL" "Ljava/util/List;", .laysStatic "MapMergerModel" "REFUSED" "LMapMergerModel$No;", .laysStatic "java/lang/String" "COMPACT_STRINGS" "Z", .laysStatic "jdk/internal/util/Preconditions" "SIOOBE_FORMATTER" "Ljava/util/function/BiFunction;", .initialized "MapMergerModel", .initialized "java/lang/String", .initialized "jdk/internal/util/Preconditions",
    .stringRef "MapMerger$TextMerger" 132 "<<<<<<< ours\n", .stringRef "MapMerger$TextMerger" 141 "=======\n", .stringRef "MapMerger$TextMerger" 143 ">>>>>>> theirs\n", .stringRef "MapMergerModel" 80 "<<<<<<< ours\n", .stringRef "MapMergerModel" 89 "=======\n", .stringRef "MapMergerModel" 91 ">>>>>>> theirs\n"]
theorem sm_tab : ∀ w ∈ sm_tl, w ∈ lw_tbl := by decide +kernel
def am_in (c : Nat) : Nat := if c < 13 then am_N c else 6
theorem am_in_ok : ∀ c, c < am_NC → Cond.instantiable (am_cn c) (am_in c) ∈ lw_tbl := by decide +kernel
theorem sm_bytes : ∀ i, i < 3 → ∀ j, j < sm_len.getD i 0 → fits .byte (.int ((sm_byt.getD i []).getD j 0)) = true := by decide +kernel
def am_h0 (L : Nat) (xs : Nat → Int32) : Nat → Option am_C := fun k => match k with
  | 0 => some (.inl (.int, L, fun j => .int (xs j)))
  | 5 => some (.inl (.byte, 13, fun j => .int ((sm_byt.getD 0 []).getD j 0)))
  | 6 => some (.inl (.byte, 8, fun j => .int ((sm_byt.getD 1 []).getD j 0)))
  | 7 => some (.inl (.byte, 15, fun j => .int ((sm_byt.getD 2 []).getD j 0)))
  | _ => none
theorem sm_nocast {A : Array Value} {s : State} {C D : String} {c d : ClassId} (h : (Cond.not (.castable C D)).before A s = true) (hc : s.vm.findClass C = some c) (hd : s.vm.findClass D = some d) : s.vm.assignable c d = false := by
  cases hz : s.vm.assignable c d with
  | false => rfl
  | true => simp [Cond.before, Cond.holds, Cond.value, hc, hd, hz] at h
theorem sm_eqR {A : Array Value} {s : State} {t u : Term} {a : Nat} (h : (Cond.eq t u).before A s = true) (ht : t.eval A s none [] s = some (.ref a)) : u.eval A s none [] s = some (.ref a) := by
  cases hu : u.eval A s none [] s with
  | none => simp [Cond.before, Cond.holds, Cond.value, ht, hu] at h
  | some v =>
    simp only [Cond.before, Cond.holds, Cond.value, ht, hu] at h
    cases v <;> simp_all
theorem sm_isR {A : Array Value} {s : State} {t : Term} (h : (Cond.isRef t).before A s = true) : ∃ v : Value, v.category = 1 ∧ t.eval A s none [] s = some v := by
  cases hu : t.eval A s none [] s with
  | none => simp [Cond.before, Cond.holds, Cond.value, hu] at h
  | some v =>
    refine ⟨v, ?_, rfl⟩
    simp only [Cond.before, Cond.holds, Cond.value, hu] at h
    cases v <;> simp_all [Value.category]
def sm_o (b r : Nat) (adK adV : Nat → Nat) : Nat → Nat
  | 0 => b
  | 1 => r
  | 2 => adK 0
  | 3 => adK 1
  | 4 => adK 2
  | 5 => adV 0
  | 6 => adV 1
  | 7 => adV 2
  | _ => 0
theorem st_K {s : State} {b L : Nat} {xs : Nat → Int32} (hL : L ≤ 3072) (hts : ∀ w ∈ lw_tbl, w.before #[Value.ref b] s = true) (hX : va_X b L xs s s.heap) (hbl : b < s.heap.size) (hgv : (Jvm.Cond.and given_1 narrow_1).before #[Value.ref b] s = true) :
    ∃ g : am_G, g.1 = s ∧ am_r g 0 = b ∧ am_K g ∧ am_R g (8, 0, am_h0 L xs) s.heap := by
  have hs := flat_of_before _ hgv
  have hA : ∀ a : Nat, a < s.heap.size → ¬ (fun q => s.heap.size ≤ q) a := fun a h1 h2 => Nat.not_le.mpr h1 h2
  obtain ⟨adK, adV, hSt, hev⟩ := vk_Sof (args := #[Value.ref b]) (s := s) (N := 3) (tm := sm_tm) (len := sm_len) (byt := sm_byt) (A := fun q => s.heap.size ≤ q) (by decide) (fun i hi => hs _ (sm_ex i hi)) (fun i hi => hs _ (sm_co i hi)) (fun i hi => hs _ (sm_ar i hi)) (fun i hi => hs _ (sm_le i hi)) (fun i hi j hj => hs _ (sm_el i hi j hj)) (fun i j hi hj hne => (sm_ne i hi j hj hne).imp (hs _) (hs _)) hA
  have tab : ∀ w : Cond, w ∈ sm_tl → w.before #[Value.ref b] s = true := fun w hw => hts w (sm_tab w hw)
  have res : ∀ w : Cond, w ∈ sm_rl → w.before #[Value.ref b] s = true := fun w hw => hs w (sm_rest w hw)
  obtain ⟨r, cN, cellR, kR, q1, q2, q3, q4, q5, q6, -⟩ := Cond.exactly_spec (res (.exactly (.static "MapMergerModel" "REFUSED" "LMapMergerModel$No;") "MapMergerModel$No") (by simp [sm_rl]))
  obtain ⟨vS, hvS, heS⟩ := sm_isR (res (.isRef (.static "jdk/internal/util/Preconditions" "SIOOBE_FORMATTER" "Ljava/util/function/BiFunction;")) (by simp [sm_rl]))
  have hcl : ∀ c, ∃ q : ClassId × (Nat → Nat), c < am_NC → ClassAt s (am_cn c) q.1 ∧ ∀ k, k < am_N c → SlotIs s (am_cn c) (am_fd c k).1 (am_fd c k).2.1 (q.2 k) := by
    intro c
    by_cases hc : c < am_NC
    · obtain ⟨cC, kC, hfc, hk, hkind, -⟩ := Cond.instantiable_spec (hts _ (am_in_ok c hc))
      have hsl : ∀ k, ∃ i, k < am_N c → SlotIs s (am_cn c) (am_fd c k).1 (am_fd c k).2.1 i := by
        intro k
        by_cases hk : k < am_N c
        · have hlay := hts _ (am_lay_ok c hc k hk)
          unfold am_lay at hlay
          split at hlay
          · obtain ⟨i, hi⟩ := u_found (Or.inr hlay)
            exact ⟨i, fun _ => hi⟩
          · obtain ⟨i, hi⟩ := u_found (Or.inl hlay)
            exact ⟨i, fun _ => hi⟩
        · exact ⟨0, fun h => absurd h hk⟩
      obtain ⟨f, hf⟩ := Classical.axiomOfChoice hsl
      exact ⟨(cC, f), fun _ => ⟨⟨hfc, kC, hk, hkind⟩, fun k hk => hf k hk⟩⟩
    · exact ⟨(0, fun _ => 0), fun h => absurd h hc⟩
  obtain ⟨D, hD⟩ := Classical.axiomOfChoice hcl
  have hold : ∀ k, k < 8 → sm_o b r adK adV k < s.heap.size := by
    intro k hk
    have hO : ∀ i, i < 3 → adK i < s.heap.size := fun i hi => by
      obtain ⟨cell, h1, -⟩ := (hSt.1 i hi).1
      exact (Array.getElem?_eq_some_iff.mp h1).1
    have hV : ∀ i, i < 3 → adV i < s.heap.size := fun i hi => by
      obtain ⟨cell, h1, -⟩ := (hSt.1 i hi).2.2.2
      exact (Array.getElem?_eq_some_iff.mp h1).1
    have hr : r < s.heap.size := (Array.getElem?_eq_some_iff.mp q3).1
    have hk8 : k = 0 ∨ k = 1 ∨ k = 2 ∨ k = 3 ∨ k = 4 ∨ k = 5 ∨ k = 6 ∨ k = 7 := by omega
    rcases hk8 with rfl | rfl | rfl | rfl | rfl | rfl | rfl | rfl
    · exact hbl
    · exact hr
    · exact hO 0 (by omega)
    · exact hO 1 (by omega)
    · exact hO 2 (by omega)
    · exact hV 0 (by omega)
    · exact hV 1 (by omega)
    · exact hV 2 (by omega)
  refine ⟨(s, sm_o b r adK adV, fun c => (D c).1, fun c => (D c).2), rfl, rfl, ⟨?_, ?_, hold, ?_, ⟨?_, ?_, ?_⟩⟩, ?_⟩
  · intro w hw hg
    rcases hg with hg | hg | ⟨C, rfl⟩
    · exact word_at (State.WarmedH.refl s) (good_of_word hg) (hts w hw)
    · exact va_Nw.of hg (hts w hw)
    · exact va_AO.of (hts _ hw)
  · intro c hc
    exact hD c hc
  · exact ⟨sm_nocast (res (.not (.castable "java/lang/IllegalStateException" "java/lang/IllegalArgumentException")) (by simp [sm_rl])) (hD 14 (by decide)).1.1 (hD 13 (by decide)).1.1, sm_nocast (res (.not (.castable "java/util/NoSuchElementException" "java/lang/IllegalArgumentException")) (by simp [sm_rl])) (hD 15 (by decide)).1.1 (hD 13 (by decide)).1.1⟩
  · intro w hw
    have h1 := tab (.laysStatic "java/lang/Throwable" "UNASSIGNED_STACK" "[Ljava/lang/StackTraceElement;") (by simp [sm_tl])
    have h2 := tab (.laysStatic "java/lang/Throwable" "SUPPRESSED_SENTINEL" "Ljava/util/List;") (by simp [sm_tl])
    have h3 := res (.isRef (.static "java/lang/Throwable" "UNASSIGNED_STACK" "[Ljava/lang/StackTraceElement;")) (by simp [sm_rl])
    have h4 := res (.isRef (.static "java/lang/Throwable" "SUPPRESSED_SENTINEL" "Ljava/util/List;")) (by simp [sm_rl])
    have hal := Vm.Alike.refl s.vm
    simp only [am_hw, List.mem_cons, List.not_mem_nil, or_false] at hw
    rcases hw with rfl | rfl | rfl | rfl
    · exact am_hw_lays hal (fun _ _ => rfl) h1
    · exact am_hw_lays hal (fun _ _ => rfl) h2
    · exact am_hw_ref hal (fun _ _ => rfl) h1 h3
    · exact am_hw_ref hal (fun _ _ => rfl) h2 h4
  · exact va_Zof (tab (.laysStatic "MapMergerModel" "REFUSED" "LMapMergerModel$No;") (by simp [sm_tl])) (tab (.initialized "MapMergerModel") (by simp [sm_tl])) q1 hA
  · have str : ∀ (own : String) (k : Nat) (tx : String) (a : Nat), (Cond.stringRef own k tx).before #[Value.ref b] s = true → (Term.string own k).eval #[Value.ref b] s none [] s = some (.ref a) → vk_R own k tx a s := fun own k tx a h1 h2 => vk_R.of h1 h2
    have e0 := hev 0 (by omega)
    have e1 := hev 1 (by omega)
    have e2 := hev 2 (by omega)
    refine ⟨?_, va_Zof (tab (.laysStatic "java/lang/String" "COMPACT_STRINGS" "Z") (by simp [sm_tl])) (tab (.initialized "java/lang/String") (by simp [sm_tl])) (va_eqi (res (.eq (.static "java/lang/String" "COMPACT_STRINGS" "Z") (.int 1)) (by simp [sm_rl]))) hA, ⟨str _ _ _ _ (tab (.stringRef "MapMerger$TextMerger" 132 "<<<<<<< ours\n") (by simp [sm_tl])) e0, str _ _ _ _ (tab (.stringRef "MapMerger$TextMerger" 141 "=======\n") (by simp [sm_tl])) e1, str _ _ _ _ (tab (.stringRef "MapMerger$TextMerger" 143 ">>>>>>> theirs\n") (by simp [sm_tl])) e2⟩,
      ⟨str _ _ _ _ (tab (.stringRef "MapMergerModel" 80 "<<<<<<< ours\n") (by simp [sm_tl])) (sm_eqR (hs _ (sm_same 0 (by omega))) e0), str _ _ _ _ (tab (.stringRef "MapMergerModel" 89 "=======\n") (by simp [sm_tl])) (sm_eqR (hs _ (sm_same 1 (by omega))) e1), str _ _ _ _ (tab (.stringRef "MapMergerModel" 91 ">>>>>>> theirs\n") (by simp [sm_tl])) (sm_eqR (hs _ (sm_same 2 (by omega))) e2)⟩,
      ⟨vS, hvS, va_Zof (tab (.laysStatic "jdk/internal/util/Preconditions" "SIOOBE_FORMATTER" "Ljava/util/function/BiFunction;") (by simp [sm_tl])) (tab (.initialized "jdk/internal/util/Preconditions") (by simp [sm_tl])) heS hA⟩, ?_⟩
    · intro i h2 h5
      have hi : i = 2 ∨ i = 3 ∨ i = 4 := by omega
      rcases hi with rfl | rfl | rfl
      · exact ⟨(hSt.1 0 (by omega)).1, (hSt.1 0 (by omega)).2.1, (hSt.1 0 (by omega)).2.2.1⟩
      · exact ⟨(hSt.1 1 (by omega)).1, (hSt.1 1 (by omega)).2.1, (hSt.1 1 (by omega)).2.2.1⟩
      · exact ⟨(hSt.1 2 (by omega)).1, (hSt.1 2 (by omega)).2.1, (hSt.1 2 (by omega)).2.2.1⟩
    · exact ⟨cellR, q3, q5, by rw [q6]; exact q2, hA r (Array.getElem?_eq_some_iff.mp q3).1⟩
  · refine ⟨fun k x hk => ?_, rfl, Nat.le_refl 8, fun _ _ => rfl⟩
    have arr : ∀ (i : Nat), i < 3 → ∀ (N : Nat), sm_len.getD i 0 = N → am_at (s, sm_o b r adK adV, (fun c => (D c).1), (fun c => (D c).2)) (adV i) (.inl (.byte, N, fun j => .int ((sm_byt.getD i []).getD j 0))) s.heap := by
      intro i hi N hN
      obtain ⟨cell, h1, h2, h3, h4, h5, h6, -⟩ := (hSt.1 i hi).2.2.2
      subst hN
      exact ⟨cell, h1, h2, trivial, h3, ⟨h4, h5⟩, fun j hj => ⟨h6 j hj, sm_bytes i hi j hj⟩⟩
    have hk' : am_h0 L xs k = some x := hk
    clear hk
    unfold am_h0 at hk'
    split at hk'
    · cases hk'
      obtain ⟨scr, h1, h2, h3, h4, h5⟩ := hX
      exact ⟨scr, h1, h2, trivial, h3, ⟨Nat.le_of_eq h4.symm, congrArg Nat.toInt32 h4⟩, fun j hj => ⟨h5 j hj, rfl⟩⟩
    · cases hk'; exact arr 0 (by omega) _ rfl
    · cases hk'; exact arr 1 (by omega) _ rfl
    · cases hk'; exact arr 2 (by omega) _ rfl
    · cases hk'
