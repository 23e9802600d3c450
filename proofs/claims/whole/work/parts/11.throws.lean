/-! Calls that throw, and calls of methods that catch. The rows pz_enter, pz_left, pz_came go the library's way for a callee's return (JvmDerived/Free/Laws.lean), step by step, with the callee's code given by a premise and with the throw beside the return. -/
section pzt
variable {p : Program} {l : Launch} {e : Env} {R : Room} {s : State} {mm : MethodId} {args : Array Value} {below : List Frame} {meth : Method} {c : Code}
-- from the invoking instruction to the callee's end
theorem pz_enter {y : MethodName} {ws : List Cond} {rm : Room} {Pc : Array Value → State → Prop} {QQ : Array Value → State → Outcome → State → Prop} {maxL len cells slots : Nat} {U : State} {locs : List Loc} {g : JFrame} {ig : Instr} {mk : MethodId} {a : Array Value} {methY : Method} {cY : Code}
    (hM : MetFree l y (headSpec ws rm) Pc (fun _ _ _ _ _ => True) QQ) (hbl : FrameBlind Pc) (hfr : rm.frames + 1 ≤ R.frames) (hlo : 8 + (maxL + 11) + rm.locals ≤ R.locals) (X : Stand p l e R s mm args below meth c U locs cells slots) (hg : g.method = mm) (hsize : g.locals.size = c.maxLocals) (hdg : decode c.code g.pc = .ok (ig, len)) (hW8 : 2 * g.monitorRoom + (g.stack.map fun v => v.category).sum ≤ 8)
    (hn : U.methodNamed? y = some mk) (hmY : U.vm.method? mk = some methY) (hcY : methY.code = some cY) (hlY : cY.maxLocals = maxL) (hini : (Cond.initialized y.cls).before a U = true) (hpre : (headSpec ws rm).pre.before a U = true) (hc : cells + rm.cells ≤ R.cells) (hs : slots + rm.slots ≤ R.slots) (hP : Pc a U) :
    ∃ (o : Outcome) (s₂ : State), Steps p.tables e below (doInvoke e (U.setTop g) [] mk a).1 s₂ ∧ Ended s₂ (.java g :: U.frames.tail) o ∧ QQ a (U.calling g mk a) o s₂ := by
  obtain ⟨kY, hkY, -⟩ := className_of_methodNamed hn
  have hiY : kY.init = .initialized := Cond.initialized_spec (findClass_of_methodNamed hn) hkY hini
  have h : At U g.method c below := by rw [hg]; exact X.here
  have happ : (headSpec ws rm).appliesLoose y e.platform (U.calling g mk a) = true :=
    Spec.appliesLoose_calling (g := g) h hdg hn hkY hiY (X.room_calling (g := g) (R' := (headSpec ws rm).room) hsize hmY hcY hfr (by rw [hlY]; show _ + (maxL + 11) + rm.locals ≤ R.locals; omega) hc hs) hpre
  obtain ⟨mid, hmid⟩ := h.above
  have hfrs : (U.setTop g).frames = (.java g :: mid) ++ below := by rw [State.frames_setTop' g h.top, hmid]; rfl
  obtain ⟨o, s₂, hst, -, hend, hq⟩ := Steps.callFree hM p X.admits X.cas X.clock (acts := []) hfrs happ (hbl _ _ _ _ hP) trivial
  rw [State.frames_setTop' g h.top] at hend
  exact ⟨o, s₂, hst, hend, hq⟩
-- what the caller's state is behind it
theorem pz_same {U s₂ : State} {g : JFrame} {mk : MethodId} {a : Array Value} {L0 locs : List Loc} {mc ms cells slots : Nat} (X : Stand p l e R s mm args below meth c U locs cells slots) (hg : g.method = mm) (hW₂ : (U.calling g mk a).WarmedH s₂.vm) (hsm : (U.calling g mk a).sameButNew ({ s₂ with vm := (U.calling g mk a).vm } : State) L0 mc ms) :
    Stand p l e R s mm args below meth c (({ U with heap := s₂.heap, slotsUsed := s₂.slotsUsed } : State).setVm s₂.vm) (locs ++ L0) (cells + mc) (slots + ms) ∧
      s₂ = ({ (U.calling g mk a).setFrames s₂.frames with heap := s₂.heap, slotsUsed := s₂.slotsUsed } : State).setVm s₂.vm := by
  obtain ⟨e2, q2, q3, q4, q5, q6⟩ := hsm
  have hW' : U.WarmedH s₂.vm := hW₂
  have h : At U g.method c below := by rw [hg]; exact X.here
  obtain ⟨g₀, hg0⟩ := Option.isSome_iff_exists.mp h.top
  obtain ⟨r, hr⟩ := State.topJava?_eq_some.mp hg0
  have hsame : U.sameButNew ({ U with heap := s₂.heap, slotsUsed := s₂.slotsUsed } : State) L0 mc ms := by
    refine ⟨?_, q2, q3, q4, q5, q6⟩
    obtain ⟨t, ht, -⟩ := State.frames_cons hr
    show ({ U with heap := s₂.heap, slotsUsed := s₂.slotsUsed } : State) = { U.setFrames U.frames with heap := s₂.heap, slotsUsed := s₂.slotsUsed }
    rw [State.setFrames_self ht]
  refine ⟨⟨X.admits, X.cas, X.clock, X.frames, X.room, X.hears, X.method, X.code, (X.here.setHeapUsed s₂.heap s₂.slotsUsed).setVm hW'.alike, X.tail, State.WarmedH.trans X.warmed hW', X.limits, X.bytes, X.same.trans (hsame.setVm s.vm)⟩, ?_⟩
  have h9 : s₂ = ({ s₂ with vm := (U.calling g mk a).vm } : State).setVm s₂.vm := rfl
  rw [e2] at h9
  exact h9
theorem pz_left {U s₂ : State} {g : JFrame} {mk : MethodId} {a : Array Value} {q : Addr} {locs : List Loc} {cells slots : Nat} (X : Stand p l e R s mm args below meth c U locs cells slots) (hg : g.method = mm) (hend : Ended s₂ (.java g :: U.frames.tail) (.threw q)) (he : s₂ = ({ (U.calling g mk a).setFrames s₂.frames with heap := s₂.heap, slotsUsed := s₂.slotsUsed } : State).setVm s₂.vm) :
    s₂ = ((({ U with heap := s₂.heap, slotsUsed := s₂.slotsUsed } : State).setVm s₂.vm).setTop g).pushFrame (.throwing q) := by
  have h : At U g.method c below := by rw [hg]; exact X.here
  obtain ⟨g₀, hg0⟩ := Option.isSome_iff_exists.mp h.top
  obtain ⟨r, hr⟩ := State.topJava?_eq_some.mp hg0
  have hr' : (({ U with heap := s₂.heap, slotsUsed := s₂.slotsUsed } : State).setVm s₂.vm).frames = .java g₀ :: r := hr
  have hf : s₂.frames = .throwing q :: .java g :: U.frames.tail := hend
  refine he.trans ?_
  rw [hf, State.calling_eq h.top, State.setFrames_setFrames, State.pushFrame, State.frames_setTop _ hr', State.setTop_of_frames _ hr', State.setFrames_setFrames, hr]
  rfl
theorem pz_came {U s₂ : State} {g : JFrame} {mk : MethodId} {a : Array Value} {v : Option Value} {ig : Instr} {len : Nat} {locs : List Loc} {cells slots : Nat} (X : Stand p l e R s mm args below meth c U locs cells slots) (hg : g.method = mm) (hdg : decode c.code g.pc = .ok (ig, len)) (hW₂ : (U.calling g mk a).WarmedH s₂.vm) (hend : Ended s₂ (.java g :: U.frames.tail) (.returned v)) (he : s₂ = ({ (U.calling g mk a).setFrames s₂.frames with heap := s₂.heap, slotsUsed := s₂.slotsUsed } : State).setVm s₂.vm) :
    s₂ = (({ U with heap := s₂.heap, slotsUsed := s₂.slotsUsed } : State).setVm s₂.vm).setTop { g with pc := g.pc + len, stack := v.toList ++ g.stack } := by
  have h : At U g.method c below := by rw [hg]; exact X.here
  have hW' : U.WarmedH s₂.vm := hW₂
  obtain ⟨c₂, i₂, len₂, hc₂, hd₂, hf₂⟩ := hend
  have hcc : c₂ = c := by
    have h1 : s₂.code? g.method = U.code? g.method := by rw [State.code?_eq, State.code?_eq, hW'.alike.method?]
    exact Option.some.inj (hc₂.symm.trans (h1.trans h.code))
  subst hcc
  have hlen : len₂ = len := by rw [hdg] at hd₂; cases hd₂; rfl
  subst hlen
  obtain ⟨g₀, hg0⟩ := Option.isSome_iff_exists.mp h.top
  obtain ⟨r, hr⟩ := State.topJava?_eq_some.mp hg0
  have hr' : (({ U with heap := s₂.heap, slotsUsed := s₂.slotsUsed } : State).setVm s₂.vm).frames = .java g₀ :: r := hr
  refine he.trans ?_
  rw [hf₂, State.calling_eq h.top, State.setFrames_setFrames, State.setTop_of_frames _ hr', hr]
  rfl
/-- q lies thrown over the frame g -/
def pz_Wx (p : Program) (l : Launch) (e : Env) (R : Room) (s : State) (mm : MethodId) (args : Array Value) (below : List Frame) (meth : Method) (c : Code) (H : Heap) (locs : List Loc) (cells slots : Nat) (Q : State → Prop) (g : JFrame) (q : Addr) : Prop :=
  ∀ T : State, T.heap = H → Stand p l e R s mm args below meth c T locs cells slots → ∃ t, Steps p.tables e below ((T.setTop g).pushFrame (.throwing q)) t ∧ Q t
end pzt
section pzu
variable {p : Program} {l : Launch} {e : Env} {R : Room} {s : State} {mm : MethodId} {args : Array Value} {below : List Frame} {meth : Method} {c : Code} {m : Nat} {D : va_G} {tc : Nat → ClassId} {A : Nat → Prop} {b n0 : Nat} {xs : Nat → Int} {ad0 : Nat → Nat} {h0 : pz_H} {Q : State → Prop}
variable {pc pc' n k : Nat} {st : List pz_V} {L : List (Nat × pz_V)} {h h' : pz_H} {ok ok' : Bool}
-- a callee of the pure machine that throws k: virtual or static
theorem pz_x_call {y d kd x : Nat} {i : Instr} {q : Nat × Nat} {ad : Nat → Nat} {H : Heap} {locs : List Loc} {ls : Array Slot} {cells slots : Nat} (X : pz_Cx p l s mm args meth c m D tc A b n0 xs) (Y : pz_Cy s A) (hd : decode (pz_b m) pc = .ok (i, 3)) (hi : pz_inv i = some (kd, x)) (hm : pz_mt (pz_mow m) x = some q) (hq : q.1 = y) (hy0 : y ≠ 0) (hpl : pz_plain y = true) (hok : pz_cok kd y st h = true) (hk1 : kd ≠ 1)
    (hRf : 10 + d + 1 ≤ R.frames) (hRl : 200 + 100 * d + 100 ≤ R.locals) (hc1 : cells + (h'.2.2.2.2.1 - h.2.2.2.2.1) ≤ R.cells) (hc2 : slots + (h'.2.2.2.2.2 - h.2.2.2.2.2) ≤ R.slots)
    (hP : va_P D pz_cls (pz_w ad tc h) H) (hD : va_D A (pz_w ad tc h)) (hS : va_S A s.heap H locs) (hwf : pz_wf n0 h) (hl : ls.size = pz_mL m)
    (hM : MetFree l (pz_y y) (headSpec (pz_ws y) (pz_rm d (h'.2.2.2.2.1 - h.2.2.2.2.1) (h'.2.2.2.2.2 - h.2.2.2.2.2))) (pz_Pc D tc b n0 xs ad (st.take (pz_mna y)).reverse h H.size) (fun _ _ _ _ _ => True) (pz_Qx D tc n0 xs ad h (va_A (pz_w ad tc h) H.size) k h'))
    (kk : ∀ (ad' : Nat → Nat) (H1 : Heap) (locs1 : List Loc) (z : Addr) (ce : Cell), pz_Aft D tc n0 xs ad ad' h h' (va_A (pz_w ad tc h) H.size) H1 → va_S A s.heap H1 locs1 → H1[z]? = some ce → ce.vm = .none → s.vm.findClass (pz_exc k) = some ce.cls → pz_Wx p l e R s mm args below meth c H1 locs1 (cells + (h'.2.2.2.2.1 - h.2.2.2.2.1)) (slots + (h'.2.2.2.2.2 - h.2.2.2.2.2)) Q (F0 mm pc ls ((st.drop (pz_mna y)).map (pz_v ad))) z) :
    W p l e R s mm args below meth c H locs cells slots Q (F0 mm pc ls (st.map (pz_v ad))) := by
  have X9 := X
  obtain ⟨hx, hb, hml, hown, hts, hini, hK, hA, hX, hbl, hbA⟩ := X9
  obtain ⟨o1, o2, o3, o4, o5, o6, o7, o8, o9, o10, o11, o12⟩ := pz_mo hpl
  unfold pz_cok at hok
  simp only [Bool.and_eq_true, Bool.or_eq_true, decide_eq_true_eq] at hok
  obtain ⟨k1, k2, k3, k4, k5⟩ := hok
  have hsplit : st.map (pz_v ad) = (((st.take (pz_mna y)).reverse).map (pz_v ad)).reverse ++ (st.drop (pz_mna y)).map (pz_v ad) := by
    rw [← List.map_reverse, List.reverse_reverse, ← List.map_append, List.take_append_drop]
  have hA1 : ∀ z, va_A (pz_w ad tc h) H.size z → A z := by
    intro z hz
    rcases hz with ⟨j, E, hj⟩ | hz
    · exact hD.2 j (z, E) hj
    · exact hA z (Nat.le_trans hS.1 hz)
  have hpre := pz_pre (as := (st.take (pz_mna y)).reverse) X Y hP hD hS
  have hws := pz_goodws (y := y) hts o1
  have hlen1 : ((st.take (pz_mna y)).reverse).length = pz_mna y := by rw [List.length_reverse, List.length_take]; omega
  have hW8 : 2 * (F0 mm pc ls ((st.drop (pz_mna y)).map (pz_v ad))).monitorRoom + ((F0 mm pc ls ((st.drop (pz_mna y)).map (pz_v ad))).stack.map fun v => v.category).sum ≤ 8 := lv_room (by rw [pz_sum_cat]; exact k3)
  have hlo : 8 + (pz_mL y + 11) + (pz_rm d (h'.2.2.2.2.1 - h.2.2.2.2.1) (h'.2.2.2.2.2 - h.2.2.2.2.2)).locals ≤ R.locals := by show 8 + (pz_mL y + 11) + (200 + 100 * d) ≤ R.locals; omega
  have hpar : ∀ sig, parseMethodDescriptor (pz_y y).desc = some sig → (if pz_mkd y = 2 then pz_mna y else pz_mna y - 1) = sig.parameters.length := by
    intro sig hs
    rw [hs] at o8
    exact (Option.some.inj o8).symm
  have hlk := pz_mt_ok hm (by rw [hq]; exact hy0)
  rw [hq] at hlk
  obtain ⟨mk, hnamed⟩ := Cond.code_named (hts _ o1)
  obtain ⟨methM, cM, hmethM, hcM, -, hlM, -, -, -, hsigM⟩ := Cond.code_spec hnamed (hts _ o1)
  -- behind the callee's end, whatever the instruction was
  have tail : ∀ (T : State) (vm₁ : Vm), T.heap = H → Stand p l e R s mm args below meth c (T.setVm vm₁) locs cells slots → s.WarmedH vm₁ → ∃ (t : State) (T' : State) (g' : JFrame), Steps p.tables e below (doInvoke e ((T.setVm vm₁).setTop (F0 mm pc ls ((st.drop (pz_mna y)).map (pz_v ad)))) [] mk (((st.take (pz_mna y)).reverse).map (pz_v ad)).toArray).1 t ∧ Q t ∧ T' = T ∧ g' = F0 mm pc ls [] := by
    intro T vm₁ hT X₁ hW₁
    have hU : (T.setVm vm₁).heap = H := hT
    obtain ⟨o, s₂, hst, hend, hqq⟩ := pz_enter (maxL := pz_mL y) (g := F0 mm pc ls ((st.drop (pz_mna y)).map (pz_v ad))) hM pz_blind hRf hlo X₁ rfl (by show ls.size = _; rw [hml]; exact hl) (by rw [hb]; exact hd) hW8 (X₁.named hnamed) (hmY := by show vm₁.method? mk = some methM; rw [hW₁.alike.method?]; exact hmethM) hcM hlM (pz_good hts o2 _ _ hW₁) (atoms_intro fun w hw => hws w hw _ _ hW₁) hc1 hc2 (hpre _ hU hW₁)
    obtain ⟨⟨z, ce, ad', L0, rfl, f1, f2, f3, f4, f5, f6, f7⟩, hF⟩ := hqq
    obtain ⟨X', he⟩ := pz_same X₁ rfl f5 f6
    have hs2 := pz_left X₁ rfl hend he
    have hz := hF.1
    have hkp := hF.2
    have hz : H.size ≤ s₂.heap.size := by rw [← hU]; exact hz
    have hkp : ∀ q : Nat, q < H.size → ¬ va_A (pz_w ad tc h) H.size q → s₂.heap[q]? = H[q]? := by
      intro q h1 h2
      have := hkp q (by show q < (T.setVm vm₁).heap.size; rw [hU]; exact h1) h2
      rw [this]
      show (T.setVm vm₁).heap[q]? = H[q]?
      rw [hU]
    have hcl : s.vm.findClass (pz_exc k) = some ce.cls := by
      have h1 : vm₁.findClass (pz_exc k) = some ce.cls := f4
      rw [hW₁.alike.findClass] at h1
      exact h1
    obtain ⟨t, a1, b1⟩ := kk ad' s₂.heap (locs ++ L0) z ce f1
      ⟨Nat.le_trans hS.1 hz, fun q h1 h2 => by rw [hkp q (Nat.lt_of_lt_of_le h1 hS.1) (fun w => h2 (hA1 q w))]; exact hS.2.1 q h1 h2, fun q hq => by
        rcases List.mem_append.mp hq with h | h
        · exact hS.2.2 q h
        · exact hA1 _ (f7 q h)⟩ f2 f3 hcl _ (by rfl) X'
    refine ⟨t, T, F0 mm pc ls [], ?_, b1, rfl, rfl⟩
    rw [hs2] at hst
    exact hst.trans a1
  have hkd := pz_inv_is hi
  rcases hkd with ⟨rfl, rfl⟩ | ⟨rfl, rfl⟩ | ⟨rfl, rfl⟩
  · -- virtual
    obtain ⟨p1, p2, p3, p4⟩ := o12 k1.symm
    rcases k5 with k5 | k5
    · cases k5
    cases hrev : (st.take (pz_mna y)).reverse with
    | nil => rw [hrev] at k5; cases k5
    | cons rv As =>
      rw [hrev] at k5
      rcases rv with z | z | z
      · cases k5
      · cases k5
      · cases z with
        | none => cases k5
        | some z =>
          have hsh : h.1[z]? = some (pz_mow y, pz_nf (pz_mow y)) := pz_is_iff.mp (by simpa using k5)
          have hCO := pz_co (pz_mow y) p4
          have hz0 := pz_not0 hwf hsh (by have := hCO.2.1; omega)
          have hat := pz_w_at (ad := ad) (tc := tc) hz0 (pz_at0 hsh)
          rw [pz_cell_o hsh hCO.2.1] at hat
          rcases hlk with hlk | ⟨h9, -⟩
          · rw [hrev] at tail hsplit hlen1
            have q1 : As.length = methM.sig.parameters.length := by
              rw [← hpar _ hsigM, if_neg (by omega)]
              simp only [List.length_cons] at hlen1
              omega
            obtain ⟨r9, g1, cellB, g2, g3, g4, -⟩ := hP _ _ hat
            have hclB : s.vm.findClass (pz_R (pz_mow y)) = some cellB.cls := by rw [g3]; exact (hK.1 _ _ hCO.1).2.1
            obtain ⟨c2, r2, m2, u1, u2, u3, u4, kP, hkP, hkPi⟩ := Cond.selects_spec (hts _ p2)
            obtain ⟨mk', methM', hnamed', hmethM', hstM, habM⟩ := Cond.instanceMethod_spec (hts _ p1)
            cases hnamed.symm.trans hnamed'
            cases hmethM.symm.trans hmethM'
            cases hclB.symm.trans u1
            cases (State.methodFound?_of_named hnamed o5).symm.trans u2
            cases hnamed.symm.trans u3
            intro T hT X0
            have hselP : selectMethod e.platform s.vm cellB.cls mk = .method mk := by rw [Launch.admits_selectMethod X0.admits]; exact u4
            obtain ⟨vm₁, X₁, hstep₁⟩ := X0.invokevirtual hx hown (hts _ hlk) hnamed hmethM hstM hkP hkPi o5 (a := ad z) (cell := cellB) (by rw [hT]; exact g2) (fun z h => by rw [g4] at h; cases h) hselP hmethM habM hkP hkPi (g := F0 mm pc ls (st.map (pz_v ad))) rfl (argsL := As.map (pz_v ad)) (rest := (st.drop (pz_mna y)).map (pz_v ad)) (by rw [List.length_map]; exact q1) (by show st.map (pz_v ad) = _; rw [hsplit]; simp [pz_v, va_rf]) (by rw [hb]; exact hd)
            obtain ⟨t, -, -, a1, b1, -, -⟩ := tail T vm₁ hT X₁ X₁.warmed
            refine ⟨t, hstep₁ _ fun acts => ?_, b1⟩
            rw [doInvoke_state]
            exact a1
          · omega
  · exact absurd rfl hk1
  · -- static
    have p1 := o10 k1.symm
    rcases hlk with hlk | ⟨-, host, hlk⟩
    · obtain ⟨kP, hkP, -⟩ := className_of_methodNamed hnamed
      have hinitP : kP.init = .initialized := Cond.initialized_spec (findClass_of_methodNamed hnamed) hkP (hts _ o2)
      intro T hT X0
      obtain ⟨vm₁, X₁, hstep₁⟩ := X0.invokestatic hx hown (hts _ hlk) hnamed hmethM (Cond.static_spec hnamed hmethM (hts _ p1)) hkP hinitP o5 (g := F0 mm pc ls (st.map (pz_v ad))) rfl (argsL := ((st.take (pz_mna y)).reverse).map (pz_v ad)) (rest := (st.drop (pz_mna y)).map (pz_v ad)) (by rw [List.length_map, hlen1, ← hpar _ hsigM, if_pos k1.symm]) hsplit (by rw [hb]; exact hd)
      obtain ⟨t, -, -, a1, b1, -, -⟩ := tail T vm₁ hT X₁ X₁.warmed
      refine ⟨t, hstep₁ _ fun acts => ?_, b1⟩
      rw [doInvoke_state]
      exact a1
    · obtain ⟨kP, hkP, -⟩ := className_of_methodNamed hnamed
      have hinitP : kP.init = .initialized := Cond.initialized_spec (findClass_of_methodNamed hnamed) hkP (hts _ o2)
      have hn : (Cond.methodLinkNest (pz_R (pz_mow m)) x (pz_y y) host).before args s = true := pz_nest Y.2.2.1 hlk
      intro T hT X0
      obtain ⟨vm₁, X₁, hstep₁⟩ := X0.invokestaticNest hx hown hn hnamed hmethM (Cond.static_spec hnamed hmethM (hts _ p1)) hkP hinitP o5 (g := F0 mm pc ls (st.map (pz_v ad))) rfl (argsL := ((st.take (pz_mna y)).reverse).map (pz_v ad)) (rest := (st.drop (pz_mna y)).map (pz_v ad)) (by rw [List.length_map, hlen1, ← hpar _ hsigM, if_pos k1.symm]) hsplit (by rw [hb]; exact hd)
      obtain ⟨t, -, -, a1, b1, -, -⟩ := tail T vm₁ hT X₁ X₁.warmed
      refine ⟨t, hstep₁ _ fun acts => ?_, b1⟩
      rw [doInvoke_state]
      exact a1
end pzu
