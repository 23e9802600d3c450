/-! The three methods that throw. -/
def pz_oA (ic : Nat) (cls : String) : List Cond := Bundle.ownAtoms0 "RelationStream" ic cls ["java/lang/RuntimeException", "java/lang/Exception"]
-- the words on Throwable's statics, which speak of the heap
def pz_H4 : List Cond := [.laysStatic "java/lang/Throwable" "UNASSIGNED_STACK" "[Ljava/lang/StackTraceElement;", .laysStatic "java/lang/Throwable" "SUPPRESSED_SENTINEL" "Ljava/util/List;", .isRef (.static "java/lang/Throwable" "UNASSIGNED_STACK" "[Ljava/lang/StackTraceElement;"), .isRef (.static "java/lang/Throwable" "SUPPRESSED_SENTINEL" "Ljava/util/List;")]
def pz_oB (w : Cond) : Bool := decide (w ∈ pz_CW) || (decide (w ∈ pz_H4) || (goodWord w && decide (w ∈ lw_tbl)))
theorem pz_oA_1 : (pz_oA 104 "java/lang/IllegalArgumentException").all pz_oB = true := by decide +kernel
theorem pz_oA_2 : (pz_oA 107 "java/lang/IllegalStateException").all pz_oB = true := by decide +kernel
theorem pz_oA_3 : (pz_oA 110 "java/lang/IndexOutOfBoundsException").all pz_oB = true := by decide +kernel
theorem pz_Z1.lays {C n d : String} {A : Nat → Prop} {s : State} {args : Array Value} (h : pz_Z1 C n d A s s.heap) : (Cond.laysStatic C n d).before args s = true := by
  obtain ⟨cc, k, i, f, a, cell, v, h1, h2, h3, h4, h5, h6, h7, h8, h9, h10, h11, h12⟩ := h
  show (Cond.laysStatic C n d).holds args s none s [] = true
  exact Cond.laysStatic_of h1 h2 h3 h4 h5 h6 h7 h8 h9
theorem pz_Z1.ref {C n d : String} {A : Nat → Prop} {s : State} {args : Array Value} (h : pz_Z1 C n d A s s.heap) : (Cond.isRef (.static C n d)).before args s = true := by
  obtain ⟨cc, k, i, f, a, cell, v, h1, h2, h3, h4, h5, h6, h7, h8, h9, h10, h11, h12⟩ := h
  have he : (Term.static C n d).eval args s none [] s = some v := by simp [Term.eval, State.fieldNamed?, h2, h3, h4, h5, h6, h10]
  simp only [Cond.before, Cond.holds, Cond.value, he]
  cases v <;> simp_all [Value.isRef]
theorem pz_oA_all {s : State} {args : Array Value} {A : Nat → Prop} {ic : Nat} {cls : String} (hts : ∀ w ∈ pz_T, w.before args s = true) (Y : pz_Cy s A) (h : (pz_oA ic cls).all pz_oB = true) : ∀ w ∈ pz_oA ic cls, w.before args s = true := by
  intro w hw
  have h1 := List.all_eq_true.mp h w hw
  unfold pz_oB at h1
  simp only [Bool.or_eq_true, Bool.and_eq_true, decide_eq_true_eq] at h1
  rcases h1 with h1 | h1 | h1
  · exact va_Nw.use (pz_CW_ok w h1).1 (Y.2.2.2.1 w h1)
  · simp only [pz_H4, List.mem_cons, List.not_mem_nil, or_false] at h1
    rcases h1 with rfl | rfl | rfl | rfl
    · exact Y.1.1.lays
    · exact Y.1.2.lays
    · exact Y.1.1.ref
    · exact Y.1.2.ref
  · exact hts w (List.mem_filter.mpr ⟨h1.2, h1.1⟩)
-- a contract out of its body
def pz_MQ (D : va_G) (tc : Nat → ClassId) (n0 : Nat) (xs : Nat → Int) (ad : Nat → Nat) (h : pz_H) (A : Nat → Prop) (o : pz_O) (h' : pz_H) : Array Value → State → Outcome → State → Prop := match o with
  | .inl v => fun a st oc t => pz_Qr D tc n0 xs ad h A v h' a st oc t ∧ ∃ L, FrameEnd st oc t L (h'.2.2.2.2.1 - h.2.2.2.2.1) (h'.2.2.2.2.2 - h.2.2.2.2.2) ∧ ∀ q ∈ L, A q.base
  | .inr k => pz_Qx D tc n0 xs ad h A k h'
-- method y at these arguments and this heap ends with o and leaves h'
def pz_Mt (l : Launch) (y d : Nat) (D : va_G) (tc : Nat → ClassId) (b n0 : Nat) (xs : Nat → Int) (ad : Nat → Nat) (as : List pz_V) (h : pz_H) (sz : Nat) (o : pz_O) (h' : pz_H) : Prop :=
  MetFree l (pz_y y) (headSpec (pz_ws y) (pz_rm d (h'.2.2.2.2.1 - h.2.2.2.2.1) (h'.2.2.2.2.2 - h.2.2.2.2.2))) (pz_Pc D tc b n0 xs ad as h sz) (fun _ _ _ _ _ => True) (pz_MQ D tc n0 xs ad h (va_A (pz_w ad tc h) sz) o h')
theorem pz_End_MQ {below : List Frame} {args : Array Value} {s : State} {D : va_G} {tc : Nat → ClassId} {n0 : Nat} {xs : Nat → Int} {ad : Nat → Nat} {h : pz_H} {A : Nat → Prop} {o : pz_O} {h' : pz_H} {t : State} (e : pz_End below args s D tc n0 xs ad h A o h' t) : ∃ oc, t.status = .running ∧ Ended t below oc ∧ pz_MQ D tc n0 xs ad h A o h' args s oc t := by
  cases o with
  | inl v =>
    obtain ⟨oc, e1, e2, e3, e4⟩ := e
    exact ⟨oc, e1, e2, e3, e4⟩
  | inr k => exact e
theorem pz_met {l : Launch} {y d : Nat} {D : va_G} {tc : Nat → ClassId} {b n0 : Nat} {xs : Nat → Int} {ad : Nat → Nat} {as : List pz_V} {h : pz_H} {sz : Nat} {o : pz_O} {h' : pz_H} (hpl : pz_plain y = true) (hsum : (as.map pz_cat).sum ≤ pz_mL y)
    (body : ∀ (p : Program) (e : Env) (s : State) (mm : MethodId) (below : List Frame) (meth : Method) (c : Code) (ls : Array Slot), pz_Cx p l s mm (as.map (pz_v ad)).toArray meth c y D tc (va_A (pz_w ad tc h) sz) b n0 xs → pz_Cy s (va_A (pz_w ad tc h) sz) → meth.sig.returnType = pz_rT y → meth.locks = false → c.exceptionTable.isEmpty = true → va_P D pz_cls (pz_w ad tc h) s.heap → va_D (va_A (pz_w ad tc h) sz) (pz_w ad tc h) → lv_has ls (pz_mL y) ((pz_args 0 as).map (fun q => (q.1, pz_v ad q.2))) →
      W p l e (pz_rm d (h'.2.2.2.2.1 - h.2.2.2.2.1) (h'.2.2.2.2.2 - h.2.2.2.2.2)) s mm (as.map (pz_v ad)).toArray below meth c s.heap [] 0 0 (pz_End below (as.map (pz_v ad)).toArray s D tc n0 xs ad h (va_A (pz_w ad tc h) sz) o h') (F0 mm 0 ls [])) : pz_Mt l y d D tc b n0 xs ad as h sz o h' := by
  obtain ⟨o1, o2, o3, o4, o5, o6, o7, o8, o9, o10, o11, o12⟩ := pz_mo hpl
  refine MetFree.of_bodyS (code := pz_b y) (maxLocals := pz_mL y) (ret := pz_rT y) o4 ?_ ?_
  · intro args s m hp hn
    obtain ⟨meth, c, h1, h2, h3, h4, h5, h6, -, -⟩ := Cond.code_spec hn (atoms_spec (ws := pz_ws y) hp _ List.mem_cons_self)
    exact ⟨meth, c, h1, h2, h3, h4, h5, h6⟩
  · intro p e s m args below meth c s₁ B hml hP _
    obtain ⟨rfl, hsz, b1, b2, b3, b4, b5, b6, b7, b8, b9, b10, b11⟩ := hP
    subst hsz
    have hts0 := atoms_spec (ws := pz_ws y) B.pre
    have hts : ∀ w ∈ pz_T, w.before (as.map (pz_v ad)).toArray s = true := fun w hw => hts0 w (List.mem_cons_of_mem _ hw)
    have hown : s.vm.findClass (pz_R (pz_mow y)) = some m.cls := by rw [← o3]; exact findClass_of_methodNamed B.named
    have hnm : meth.name = (pz_y y).name := (name_of_methodNamed B.named B.method).1
    have hh0 : s₁.heap = s.heap := by rw [B.state]; rfl
    have hl := lv_entry (as.map (pz_v ad)) (n := pz_mL y) (by rw [pz_args_len]; exact hsum)
    rw [pz_args_map] at hl
    have K := body p e s m below meth c _ ⟨B.exec, B.bytes, hml, hown, hts, fun q => hnm.trans (o9 q), b3, fun q hq => Or.inr hq, b4, b5, b6⟩ ⟨b7, b8, b9, b10, b11⟩ B.returns B.notSynchronized (B.noHandlers (hts0 _ List.mem_cons_self)) b1 (b2.self (sz := s.heap.size)) hl
    rw [← lg_entry_eq] at K
    obtain ⟨t, a1, a2⟩ := K s₁ hh0 (Stand.of_body B)
    obtain ⟨oc, c1, c2, c3⟩ := pz_End_MQ a2
    exact ⟨t, oc, a1, c1, c2, c3⟩
