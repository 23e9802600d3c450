/-! 'throw new E()' in the three methods, and their contracts. -/
theorem pz_same0 {s U : State} {k n : Nat} (h : s.sameButNew ({ U with vm := s.vm } : State) [] k n) : s.heap.size ≤ U.heap.size ∧ ∀ q : Nat, q < s.heap.size → U.heap[q]? = s.heap[q]? := by
  obtain ⟨-, h2, -, -, -, h6⟩ := h
  refine ⟨h2, fun q hq => ?_⟩
  obtain ⟨c', e1, e2, e3, e4⟩ := h6 q _ (Array.getElem?_eq_getElem hq)
  have hs : c'.slots = (s.heap[q]).slots := Array.ext_getElem? fun i => e4 i (fun hm => nomatch hm)
  have h9 : c' = s.heap[q] := by
    rw [hs] at e2
    exact e2
  have e5 : U.heap[q]? = some c' := e1
  rw [e5, h9, Array.getElem?_eq_getElem hq]
section pzp
variable {p : Program} {l : Launch} {e : Env} {R : Room} {s : State} {mm : MethodId} {args : Array Value} {below : List Frame} {meth : Method} {c : Code} {m : Nat} {D : va_G} {tc : Nat → ClassId} {A : Nat → Prop} {b n0 : Nat} {xs : Nat → Int}
variable {pc k : Nat} {h : pz_H}
theorem pz_s_throw0 {ik ic : Nat} {ad : Nat → Nat} {ls : Array Slot} (X : pz_Cx p l s mm args meth c m D tc A b n0 xs) (Y : pz_Cy s A) (hlt : l.stackTraces = false) (hRn : pz_R (pz_mow m) = "RelationStream") (hfit : Bundle.fit (pz_exc k) = true) (hoA : (pz_oA ic (pz_exc k)).all pz_oB = true) (hcl : Cond.classLink "RelationStream" ik (pz_exc k) ∈ pz_T) (hin : Cond.initialized (pz_exc k) ∈ pz_T) (hins : Cond.instantiable (pz_exc k) 6 ∈ pz_T)
    (d0 : decode (pz_b m) pc = .ok (.new ik, 3)) (d3 : decode (pz_b m) (pc + 3) = .ok (.dup, 1)) (d4 : decode (pz_b m) (pc + 4) = .ok (.invokespecial ic, 3)) (d7 : decode (pz_b m) (pc + 7) = .ok (.athrow, 1)) (hlocks : meth.locks = false) (hex : c.exceptionTable.isEmpty = true) (hls : ls.size = pz_mL m) (hRf : 10 ≤ R.frames) (hRl : 200 ≤ R.locals) (hRc : 1 ≤ R.cells) (hRs : 6 ≤ R.slots)
    (hP : va_P D pz_cls (pz_w ad tc h) s.heap) (hD : va_D A (pz_w ad tc h)) (hwf : pz_wf n0 h) (hxs : ∀ k, k < n0 → h.2.1 0 k = xs k) :
    W p l e R s mm args below meth c s.heap [] 0 0 (pz_End below args s D tc n0 xs ad h A (.inr k) (h.1, h.2.1, h.2.2.1, h.2.2.2.1, h.2.2.2.2.1 + 1, h.2.2.2.2.2 + 6)) (F0 mm pc ls []) := by
  obtain ⟨hx, hb, hml, hown, hts, hini, hK, hA, hX, hbl, hbA⟩ := X
  rw [hRn] at hown
  refine W.newc hx hb hown (hts _ hcl) (hts _ hins) (hts _ hin) rfl d0 (by omega) (by omega) (fun cX kX f1 f2 f3 f4 => ?_)
  show W p l e R s mm args below meth c (s.heap.push { cls := cX, slots := kX.instanceTypes.map defaultValue, vm := .none }) [] (0 + 1) (0 + 6) _ (F0 mm (pc + 3) ls [.ref s.heap.size])
  refine lv_dup hx hb d3 rfl ?_
  intro T hT X0
  have htr : e.platform.stackTraces = false := (show e.platform.stackTraces = l.stackTraces by rw [X0.admits.platform]).trans hlt
  have hcell : T.heap[s.heap.size]? = some (freshCell cX kX) := by
    rw [hT, Array.getElem?_push_size]
  obtain ⟨U, hst, hrun, hend, hW, hsame, ce, hce, hO⟩ := X0.ctorThrow0 hx htr (own := "RelationStream") (cls := pz_exc k) (names := ["java/lang/RuntimeException", "java/lang/Exception"]) (ic := ic) hown hfit (by decide +kernel) (pz_oA_all hts Y hoA) (fun x hx => nomatch hx) f1 f2 hcell (Nat.le_refl _) (g := F0 mm (pc + 4) ls [.ref s.heap.size, .ref s.heap.size]) rfl (by show ls.size = _; rw [hml]; exact hls) rfl rfl (rest := []) rfl (by rw [hb]; exact d4) (by rw [hb]; exact d7)
    (fun x hx => by
      have h1 : c.exceptionTable.toList = [] := by simpa using hex
      rw [h1] at hx
      cases hx) (by show 2 + 3 < R.frames; omega) (by
      have h1 : 2 * (F0 mm (pc + 4) ls [.ref s.heap.size, .ref s.heap.size]).monitorRoom + 0 ≤ 8 := lv_room (st := []) (Nat.zero_le _)
      show 2 * (F0 mm (pc + 4) ls [.ref s.heap.size, .ref s.heap.size]).monitorRoom + ([Value.ref s.heap.size].map fun v => v.category).sum + (13 * (2 + 1) + 41) ≤ R.locals
      have h2 : ([Value.ref s.heap.size].map fun v => v.category).sum = 1 := rfl
      rw [h2]
      omega) hlocks
  obtain ⟨g1, g2⟩ := pz_same0 hsame
  refine ⟨U, hst, .threw s.heap.size, hrun, hend, ⟨s.heap.size, ce, ad, [], rfl, ⟨fun q _ => rfl, fun j q hq => ?_, hD, Nat.le_refl _, Nat.le_succ _, Nat.le_add_right _ _, hwf, hxs⟩, hce, hO.vm, hO.cls, hW, ?_, fun z hz => nomatch hz⟩, g1, fun q h1 _ => g2 q h1⟩
  · have hq : (pz_w ad tc h)[j]? = some q := hq
    exact (hP j q hq).kept (g2 q.1 (hP j q hq).lt)
  · have e1 : h.2.2.2.2.1 + 1 - h.2.2.2.2.1 = 0 + 1 := by omega
    have e2 : h.2.2.2.2.2 + 6 - h.2.2.2.2.2 = 0 + 6 := by omega
    show s.sameButNew ({ U with vm := s.vm } : State) [] (h.2.2.2.2.1 + 1 - h.2.2.2.2.1) (h.2.2.2.2.2 + 6 - h.2.2.2.2.2)
    rw [e1, e2]
    exact hsame
-- a method of the form: iload_0; if..; new, dup, invokespecial, athrow; return
def pz_pB (m ik ic k : Nat) (cd : Jvm.ClassFile.Cond) : Bool := decide (decode (pz_b m) 0 = .ok (.iload_n 0, 1)) && (decide (decode (pz_b m) 1 = .ok (.ifCond cd 11, 3)) && (decide (decode (pz_b m) 4 = .ok (.new ik, 3)) && (decide (decode (pz_b m) 7 = .ok (.dup, 1)) && (decide (decode (pz_b m) 8 = .ok (.invokespecial ic, 3)) && (decide (decode (pz_b m) 11 = .ok (.athrow, 1)) && (decide (decode (pz_b m) 12 = .ok (.return_, 1)) &&
  (decide (pz_R (pz_mow m) = "RelationStream") && (pz_plain m && (decide (pz_mL m = 1) && (decide (pz_rT m = none) && (Bundle.fit (pz_exc k) && decide (pz_thr m = some (decide (cd = .ne), k)))))))))))))
theorem pz_pr {m ik ic k d : Nat} {cd : Jvm.ClassFile.Cond} {ad : Nat → Nat} {a : Int} {sz : Nat} {o : pz_O} {h' : pz_H} (hlt : l.stackTraces = false) (hB : pz_pB m ik ic k cd = true) (hcd : cd = .ne ∨ cd = .eq) (hoA : (pz_oA ic (pz_exc k)).all pz_oB = true) (hcl : Cond.classLink "RelationStream" ik (pz_exc k) ∈ pz_T) (hin : Cond.initialized (pz_exc k) ∈ pz_T) (hins : Cond.instantiable (pz_exc k) 6 ∈ pz_T)
    (hwf : pz_wf n0 h) (hxs : ∀ k, k < n0 → h.2.1 0 k = xs k) (ha : pz_in a = true) (ho : pz_prim m [.inl a] h = some (o, h')) : pz_Mt l m d D tc b n0 xs ad [.inl a] h sz o h' := by
  unfold pz_pB at hB
  simp only [Bool.and_eq_true, decide_eq_true_eq] at hB
  obtain ⟨d0, d1, d4, d7, d8, d11, d12, hRn, hpl, hL, hrT, hfit, hth⟩ := hB
  unfold pz_prim at ho
  rw [hth] at ho
  dsimp only at ho
  have h00 : pz_in 0 = true := by decide
  refine pz_met hpl (by rw [hL]; exact Nat.le_refl _) (fun p e s mm below meth c ls X Y hr hlocks hex hP hD hl => ?_)
  obtain ⟨hx, hb, hml, hown, hts, hini, hK, hA, hX, hbl, hbA⟩ := id X
  have hl0 : ls[0]? = some (.val (.int (Int32.ofInt a))) := hl.2.2 (0, .int (Int32.ofInt a)) List.mem_cons_self
  have fin : ∀ q : Bool, (Bool.xor (decide (cd = .ne)) (decide (a = 0)) = q) → (q = true → W p l e (pz_rm d (h'.2.2.2.2.1 - h.2.2.2.2.1) (h'.2.2.2.2.2 - h.2.2.2.2.2)) s mm ([pz_v ad (.inl a)]).toArray below meth c s.heap [] 0 0 (pz_End below ([pz_v ad (.inl a)]).toArray s D tc n0 xs ad h (va_A (pz_w ad tc h) sz) o h') (F0 mm 12 ls [])) ∧ (q = false → W p l e (pz_rm d (h'.2.2.2.2.1 - h.2.2.2.2.1) (h'.2.2.2.2.2 - h.2.2.2.2.2)) s mm ([pz_v ad (.inl a)]).toArray below meth c s.heap [] 0 0 (pz_End below ([pz_v ad (.inl a)]).toArray s D tc n0 xs ad h (va_A (pz_w ad tc h) sz) o h') (F0 mm 4 ls [])) := by
    intro q hq
    rw [hq] at ho
    constructor
    · rintro rfl
      have ho : some ((.inl none : pz_O), h) = some (o, h') := ho
      cases ho
      have e1 : h.2.2.2.2.1 - h.2.2.2.2.1 = 0 := by omega
      have e2 : h.2.2.2.2.2 - h.2.2.2.2.2 = 0 := by omega
      show W p l e _ s mm _ below meth c s.heap [] 0 0 (MQ below (pz_Qr D tc n0 xs ad h (va_A (pz_w ad tc h) sz) none h) _ s (h.2.2.2.2.1 - h.2.2.2.2.1) (h.2.2.2.2.2 - h.2.2.2.2.2) (va_A (pz_w ad tc h) sz)) (F0 mm 12 ls [])
      rw [e1, e2]
      exact W.vret hx hb (hr.trans hrT) (fun t ht _ => ⟨⟨ad, ⟨fun _ _ => rfl, by rw [ht]; exact hP, hD, Nat.le_refl _, Nat.le_refl _, Nat.le_refl _, hwf, hxs⟩, rfl, fun _ q => nomatch q⟩, va_S.rf.F ht⟩) (fun _ q => nomatch q) d12 hlocks
    · rintro rfl
      have ho : some ((.inr k : pz_O), (h.1, h.2.1, h.2.2.1, h.2.2.2.1, h.2.2.2.2.1 + 1, h.2.2.2.2.2 + 6)) = some (o, h') := ho
      cases ho
      exact pz_s_throw0 (k := k) X Y hlt hRn hfit hoA hcl hin hins d4 d7 d8 d11 hlocks hex hl.1 (by show 10 ≤ 10 + d; omega) (by show 200 ≤ 200 + 100 * d; omega) (by show 1 ≤ h.2.2.2.2.1 + 1 - h.2.2.2.2.1; omega) (by show 6 ≤ h.2.2.2.2.2 + 6 - h.2.2.2.2.2; omega) hP hD hwf hxs
  show W p l e _ s mm ([pz_v ad (.inl a)]).toArray below meth c s.heap [] 0 0 _ (F0 mm 0 ls [])
  refine lv_iload_n hx hb d0 rfl hl0 ?_
  rcases hcd with rfl | rfl
  · refine lv_if_ne hx hb d1 (tgt := 12) (by decide) (fun q => ?_) (fun q => ?_)
    · rw [← pz_of0, pz_eq ha h00] at q
      exact (fin true (by simp [q])).1 rfl
    · rw [← pz_of0, pz_eq ha h00] at q
      exact (fin false (by simp [q])).2 rfl
  · refine lv_if_eq hx hb d1 (tgt := 12) (by decide) (fun q => ?_) (fun q => ?_)
    · rw [← pz_of0, pz_eq ha h00] at q
      exact (fin true (by simp [q])).1 rfl
    · rw [← pz_of0, pz_eq ha h00] at q
      exact (fin false (by simp [q])).2 rfl
end pzp
