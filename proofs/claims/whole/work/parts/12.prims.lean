/-! The three methods that throw. -/
def pz_oA (ic : Nat) (cls : String) : List Cond := Bundle.ownAtoms0 "RelationStream" ic cls ["java/lang/RuntimeException", "java/lang/Exception"]
-- the words on Throwable's statics, which speak of the heap
def pz_H4 : List Cond := [.laysStatic "java/lang/Throwable" "UNASSIGNED_STACK" "[Ljava/lang/StackTraceElement;", .laysStatic "java/lang/Throwable" "SUPPRESSED_SENTINEL" "Ljava/util/List;", .isRef (.static "java/lang/Throwable" "UNASSIGNED_STACK" "[Ljava/lang/StackTraceElement;"), .isRef (.static "java/lang/Throwable" "SUPPRESSED_SENTINEL" "Ljava/util/List;")]
def pz_oB (w : Cond) : Bool := decide (w ∈ pz_CW) || (decide (w ∈ pz_H4) || (goodWord w && decide (w ∈ lw_tbl)))
theorem pz_oA_1 : (pz_oA 104 "java/lang/IllegalArgumentException").all pz_oB = true := by decide +kernel
theorem pz_oA_2 : (pz_oA 107 "java/lang/IllegalStateException").all pz_oB = true := by decide +kernel
theorem pz_oA_3 : (pz_oA 110 "java/lang/IndexOutOfBoundsException").all pz_oB = true := by decide +kernel
theorem pz_Z1.lays {C n d : String} {A : Nat → Prop} {s : State} {args : Array Value} (h : pz_Z1 C n d A s s.heap) : (Cond.laysStatic C n d).before args s = true := by
  obtain ⟨cc, k, i, f, a, cell, v, h1, h2, h3, h4, h5, h6, h7, h8, h9, h10, h11, h12⟩ := h
  show (Cond.laysStatic C n d).holds args s none s [] = true
  exact Cond.laysStatic_of h1 h2 h3 h4 h5 h6 h7 h8 h9
theorem pz_Z1.ref {C n d : String} {A : Nat → Prop} {s : State} {args : Array Value} (h : pz_Z1 C n d A s s.heap) : (Cond.isRef (.static C n d)).before args s = true := by
  obtain ⟨cc, k, i, f, a, cell, v, h1, h2, h3, h4, h5, h6, h7, h8, h9, h10, h11, h12⟩ := h
  have he : (Term.static C n d).eval args s none [] s = some v := by simp [Term.eval, State.fieldNamed?, h2, h3, h4, h5, h6, h10]
  simp only [Cond.before, Cond.holds, Cond.value, he]
  cases v <;> simp_all [Value.isRef]
theorem pz_oA_all {s : State} {args : Array Value} {A : Nat → Prop} {ic : Nat} {cls : String} (hts : ∀ w ∈ pz_T, w.before args s = true) (Y : pz_Cy s A) (h : (pz_oA ic cls).all pz_oB = true) : ∀ w ∈ pz_oA ic cls, w.before args s = true := by
  intro w hw
  have h1 := List.all_eq_true.mp h w hw
  unfold pz_oB at h1
  simp only [Bool.or_eq_true, Bool.and_eq_true, decide_eq_true_eq] at h1
  rcases h1 with h1 | h1 | h1
  · exact va_Nw.use (pz_CW_ok w h1).1 (Y.2.2.2.1 w h1)
  · simp only [pz_H4, List.mem_cons, List.not_mem_nil, or_false] at h1
    rcases h1 with rfl | rfl | rfl | rfl
    · exact Y.1.1.lays
    · exact Y.1.2.lays
    · exact Y.1.1.ref
    · exact Y.1.2.ref
  · exact hts w (List.mem_filter.mpr ⟨h1.2, h1.1⟩)
