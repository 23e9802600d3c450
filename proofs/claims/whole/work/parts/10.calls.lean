/-! Calls that return. -/
theorem pz_inv_is {i : Instr} {kd x : Nat} (hi : pz_inv i = some (kd, x)) : i = .invokevirtual x ∧ kd = 0 ∨ i = .invokespecial x ∧ kd = 1 ∨ i = .invokestatic x ∧ kd = 2 := by
  unfold pz_inv at hi
  split at hi
  · cases hi; exact Or.inl ⟨rfl, rfl⟩
  · cases hi; exact Or.inr (Or.inl ⟨rfl, rfl⟩)
  · cases hi; exact Or.inr (Or.inr ⟨rfl, rfl⟩)
  · cases hi
def pz_ws (y : Nat) : List Cond := Cond.code (pz_y y) (pz_b y) (pz_mL y) (pz_rT y) :: pz_T
def pz_rm (d mc ms : Nat) : Room := { frames := 10 + d, cells := mc, slots := ms, locals := 200 + 100 * d }
def pz_Cy (s : State) (A : Nat → Prop) : Prop := pz_Z A s s.heap ∧ va_AO (pz_R pz_nodeC) s ∧ (∀ q ∈ pz_NL, va_Nw (.methodLinkNest q.1 q.2.1 q.2.2.1 q.2.2.2) s) ∧ (∀ w ∈ pz_CW, va_Nw w s) ∧ va_Nc "java/lang/IllegalStateException" "java/lang/IllegalArgumentException" s
theorem pz_Nc {C T : String} {u U : State} (hvm : u.vm.Alike U.vm) (h : va_Nc C T u) : va_Nc C T U := by
  obtain ⟨c, t, h1, h2, h3⟩ := h
  exact ⟨c, t, by rw [hvm.findClass]; exact h1, by rw [hvm.findClass]; exact h2, by rw [hvm.assignable]; exact h3⟩
theorem pz_blind {D : va_G} {tc : Nat → ClassId} {b n0 : Nat} {xs : Nat → Int} {ad : Nat → Nat} {as : List pz_V} {h : pz_H} {sz : Nat} : FrameBlind (pz_Pc D tc b n0 xs ad as h sz) := by
  intro a U g mk ⟨ha, h1, h2, h3, h4, h5, h6, h7, h8, h9, h10, h11, h12⟩
  exact ⟨ha, h1, h2, h3, va_K.moved (u := U) (U := U.calling g mk a) (Vm.Alike.refl U.vm) h4, va_X.moved (u := U) (U := U.calling g mk a) (Vm.Alike.refl U.vm) h5, h6, h7, pz_Z.moved (u := U) (U := U.calling g mk a) (Vm.Alike.refl U.vm) h8, va_AO.moved (u := U) (U := U.calling g mk a) (Vm.Alike.refl U.vm) h9, fun q hq => va_Nw.same (u := U) (U := U.calling g mk a) rfl rfl (h10 q hq), fun w hw => va_Nw.same (u := U) (U := U.calling g mk a) (pz_CW_ok w hw).1 rfl (h11 w hw), pz_Nc (u := U) (U := U.calling g mk a) (Vm.Alike.refl U.vm) h12⟩
theorem pz_nest {s : State} {args : Array Value} (h : ∀ q ∈ pz_NL, va_Nw (.methodLinkNest q.1 q.2.1 q.2.2.1 q.2.2.2) s) {a host : String} {i : Nat} {x : MethodName} (hk : (a, i, x, host) ∈ pz_NL) : (Cond.methodLinkNest a i x host).before args s = true := va_Nw.use (w := Cond.methodLinkNest a i x host) rfl (h (a, i, x, host) hk)
section pzc
variable {p : Program} {l : Launch} {e : Env} {R : Room} {s : State} {mm : MethodId} {args : Array Value} {below : List Frame} {meth : Method} {c : Code} {m : Nat} {D : va_G} {tc : Nat → ClassId} {A : Nat → Prop} {b n0 : Nat} {xs : Nat → Int} {ad0 : Nat → Nat} {h0 : pz_H} {Q : State → Prop}
variable {pc pc' n k : Nat} {st : List pz_V} {L : List (Nat × pz_V)} {h h' : pz_H} {ok ok' : Bool}
theorem pz_pre {ad : Nat → Nat} {as : List pz_V} {H : Heap} {locs : List Loc} (X : pz_Cx p l s mm args meth c m D tc A b n0 xs) (Y : pz_Cy s A) (hP : va_P D pz_cls (pz_w ad tc h) H) (hD : va_D A (pz_w ad tc h)) (hS : va_S A s.heap H locs) :
    ∀ U : State, U.heap = H → s.WarmedH U.vm → pz_Pc D tc b n0 xs ad as h H.size (as.map (pz_v ad)).toArray U := by
  obtain ⟨hx, hb, hml, hown, hts, hini, hK, hA, hX, hbl, hbA⟩ := X
  obtain ⟨y1, y2, y3, y4, y5⟩ := Y
  intro U hU hW
  have hsub : ∀ q, q < s.heap.size → va_A (pz_w ad tc h) H.size q → A q := by
    intro q hq ha
    rcases ha with ⟨k, e, hk⟩ | ha
    · exact hD.2 k (q, e) hk
    · exact absurd ha (Nat.not_le.mpr (Nat.lt_of_lt_of_le hq hS.1))
  refine ⟨rfl, by rw [hU], by rw [hU]; exact hP, hD.weaken (fun _ _ _ _ => trivial), va_K.moved hW.alike hK, ?_, Nat.lt_of_lt_of_le hbl hS.1, fun q => hbA (hsub b hbl q), ?_, va_AO.moved hW.alike y2, fun q hq => va_Nw.warmM hW (y3 q hq), fun w hw => pz_CW_moved hw hW (y4 w hw), pz_Nc hW.alike y5⟩
  · rw [hU]
    exact va_X.moved hW.alike (hX.kept (hS.2.1 b hbl hbA))
  · rw [hU]
    exact pz_Z.moved hW.alike (y1.kept hS.2.1 hsub)
-- behind the call
theorem pz_cont {ad : Nat → Nat} {v : Option pz_V} {H : Heap} {locs : List Loc} {ls : Array Slot} {cells slots mc ms : Nat} {st0 rest : List Value} {a : Array Value} {A1 : Nat → Prop}
    (hr : va_Run p l e R s mm args below meth c H locs cells slots mc ms (F0 mm pc ls st0) rest (pz_Qr D tc n0 xs ad h A1 v h' a) A1) (hS : va_S A s.heap H locs) (hA1 : ∀ q, A1 q → A q)
    (kk : ∀ (ad' : Nat → Nat) (H1 : Heap) (locs1 : List Loc), pz_Aft D tc n0 xs ad ad' h h' A1 H1 → (∀ u, v = some u → pz_wv h'.1.length u) → va_S A s.heap H1 locs1 → W p l e R s mm args below meth c H1 locs1 (cells + mc) (slots + ms) Q (F0 mm (pc + 3) ls ((v.map (pz_v ad')).toList ++ rest))) : W p l e R s mm args below meth c H locs cells slots Q (F0 mm pc ls st0) := by
  intro T hT X
  obtain ⟨v0, st₀, t, T', L0, g0, X', hL0, e1, e2, ⟨⟨ad', c1, c2, c3⟩, hz, hk⟩, go⟩ := hr T hT X
  cases c2
  rw [g0] at hz hk
  obtain ⟨t2, a1, b1⟩ := kk ad' T'.heap (locs ++ L0) (by rw [e1]; exact c1) c3
    ⟨Nat.le_trans hS.1 (by rw [e1]; exact hz), fun q h1 h2 => by rw [e1, hk q (Nat.lt_of_lt_of_le h1 hS.1) (fun z => h2 (hA1 q z))]; exact hS.2.1 q h1 h2, fun q hq => by
      rcases List.mem_append.mp hq with h | h
      · exact hS.2.2 q h
      · exact hA1 _ (hL0 q h)⟩ T' rfl X'
  exact ⟨t2, go t2 a1, b1⟩
theorem pz_good {w : Cond} (hts : ∀ w ∈ pz_T, w.before args s = true) (hw : w ∈ pz_T) : ∀ (a' : Array Value) (U : State), s.WarmedH U.vm → w.before a' U = true := fun a' U hW => word_at hW (good_of_word (pz_T_in hw).2) (hts w hw)
theorem pz_goodws {y : Nat} (hts : ∀ w ∈ pz_T, w.before args s = true) (hc : Cond.code (pz_y y) (pz_b y) (pz_mL y) (pz_rT y) ∈ pz_T) : ∀ w ∈ pz_ws y, ∀ (a' : Array Value) (U : State), s.WarmedH U.vm → w.before a' U = true := by
  intro w hw
  rcases List.mem_cons.mp hw with rfl | hw
  · exact pz_good hts hc
  · exact pz_good hts hw
theorem pz_sum_cat (ad : Nat → Nat) (r : List pz_V) : ((r.map (pz_v ad)).map fun v => v.category).sum = (r.map pz_cat).sum := by
  rw [List.map_map]
  congr 1
  apply List.map_congr_left
  intro v _
  exact pz_cat_v ad v
-- the call itself, the callee's contract given
set_option maxHeartbeats 4000000 in
theorem pz_s_call {y d kd x mc ms : Nat} {i : Instr} {q : Nat × Nat} {v : Option pz_V} (X : pz_Cx p l s mm args meth c m D tc A b n0 xs) (Y : pz_Cy s A) (hd : decode (pz_b m) pc = .ok (i, 3)) (hi : pz_inv i = some (kd, x)) (hm : pz_mt (pz_mow m) x = some q) (hq : q.1 = y) (hy0 : y ≠ 0) (hpl : pz_plain y = true) (hok : pz_cok kd y st h = true)
    (hRf : 10 + d + 1 ≤ R.frames) (hRl : 200 + 100 * d + 100 ≤ R.locals) (hmc : mc = h'.2.2.2.2.1 - h.2.2.2.2.1) (hms : ms = h'.2.2.2.2.2 - h.2.2.2.2.2) (hR1 : h'.2.2.2.2.1 - h0.2.2.2.2.1 ≤ R.cells) (hR2 : h'.2.2.2.2.2 - h0.2.2.2.2.2 ≤ R.slots) (hm1 : h.2.2.2.2.1 ≤ h'.2.2.2.2.1) (hm2 : h.2.2.2.2.2 ≤ h'.2.2.2.2.2)
    (hM : ∀ (ad : Nat → Nat) (sz : Nat), pz_wf n0 h → (∀ v ∈ (st.take (pz_mna y)).reverse, pz_wv h.1.length v) → ad 0 = b → (∀ k, k < n0 → h.2.1 0 k = xs k) → Met l (pz_y y) (pz_ws y) (pz_rm d mc ms) (pz_Pc D tc b n0 xs ad (st.take (pz_mna y)).reverse h sz) (pz_Qr D tc n0 xs ad h (va_A (pz_w ad tc h) sz) v h') mc ms (va_A (pz_w ad tc h) sz))
    (kk : pz_PW p l e R s mm args below meth c m D tc A b n0 xs ad0 h0 Q (pc + 3, v.toList ++ st.drop (pz_mna y), L, h', ok')) : pz_PW p l e R s mm args below meth c m D tc A b n0 xs ad0 h0 Q (pc, st, L, h, ok) := by
  have X9 := X
  obtain ⟨hx, hb, hml, hown, hts, hini, hK, hA, hX, hbl, hbA⟩ := X9
  obtain ⟨o1, o2, o3, o4, o5, o6, o7, o8, o9, o10, o11, o12⟩ := pz_mo hpl
  unfold pz_cok at hok
  simp only [Bool.and_eq_true, Bool.or_eq_true, decide_eq_true_eq] at hok
  obtain ⟨k1, k2, k3, k4, k5⟩ := hok
  intro ad H locs ls a1 a2 a3 a4 a5 a6 hP hD hS hwf hst hL hl
  have a2 : h0.1.length ≤ h.1.length := a2
  have a3 : h0.2.2.2.2.1 ≤ h.2.2.2.2.1 := a3
  have a4 : h0.2.2.2.2.2 ≤ h.2.2.2.2.2 := a4
  have hsplit : st.map (pz_v ad) = (((st.take (pz_mna y)).reverse).map (pz_v ad)).reverse ++ (st.drop (pz_mna y)).map (pz_v ad) := by
    rw [← List.map_reverse, List.reverse_reverse, ← List.map_append, List.take_append_drop]
  have hA1 : ∀ z, va_A (pz_w ad tc h) H.size z → A z := by
    intro z hz
    rcases hz with ⟨j, E, hj⟩ | hz
    · exact hD.2 j (z, E) hj
    · exact hA z (Nat.le_trans hS.1 hz)
  have hMe := hM ad H.size hwf (fun v hv => hst v (List.mem_of_mem_take (List.mem_reverse.mp hv))) a5 a6
  have hpre := pz_pre (as := (st.take (pz_mna y)).reverse) X Y hP hD hS
  have hws := pz_goodws (y := y) hts o1
  have hlen1 : ((st.take (pz_mna y)).reverse).length = pz_mna y := by rw [List.length_reverse, List.length_take]; omega
  have hc1 : h.2.2.2.2.1 - h0.2.2.2.2.1 + mc ≤ R.cells := by omega
  have hc2 : h.2.2.2.2.2 - h0.2.2.2.2.2 + ms ≤ R.slots := by omega
  have hW8 : 2 * (F0 mm pc ls (st.map (pz_v ad))).monitorRoom + (((st.drop (pz_mna y)).map (pz_v ad)).map fun v => v.category).sum ≤ 8 := lv_room (by rw [pz_sum_cat]; exact k3)
  have hRR : (pz_rm d mc ms).frames + 1 ≤ R.frames ∧ 8 + (pz_mL y + 11) + (pz_rm d mc ms).locals ≤ R.locals := ⟨hRf, by show 8 + (pz_mL y + 11) + (200 + 100 * d) ≤ R.locals; omega⟩
  have hpar : ∀ sig, parseMethodDescriptor (pz_y y).desc = some sig → (if pz_mkd y = 2 then pz_mna y else pz_mna y - 1) = sig.parameters.length := by
    intro sig hs
    rw [hs] at o8
    exact (Option.some.inj o8).symm
  have back : ∀ (ad' : Nat → Nat) (H1 : Heap) (locs1 : List Loc), pz_Aft D tc n0 xs ad ad' h h' (va_A (pz_w ad tc h) H.size) H1 → (∀ u, v = some u → pz_wv h'.1.length u) → va_S A s.heap H1 locs1 → W p l e R s mm args below meth c H1 locs1 (h.2.2.2.2.1 - h0.2.2.2.2.1 + mc) (h.2.2.2.2.2 - h0.2.2.2.2.2 + ms) Q (F0 mm (pc + 3) ls ((v.map (pz_v ad')).toList ++ (st.drop (pz_mna y)).map (pz_v ad))) := by
    intro ad' H1 locs1 ⟨f1, f2, f3, f4, f5, f6, f7, f8⟩ hu hS1
    have wv : ∀ u, pz_wv h.1.length u → pz_wv h'.1.length u := by
      intro u hu
      rcases u with a | x | r
      · exact hu
      · exact trivial
      · exact fun x hx => Nat.lt_of_lt_of_le (hu x hx) f4
    have hl0 : 0 < h.1.length := pz_at0 hwf.2.2.1
    have w := kk ad' H1 locs1 ls (fun z hz => (f1 z (Nat.lt_of_lt_of_le hz a2)).trans (a1 z hz)) (Nat.le_trans a2 f4) (Nat.le_trans a3 f5) (Nat.le_trans a4 f6) ((f1 0 hl0).trans a5) f8 f2 (f3.weaken (fun _ z _ hz => hA1 z.1 hz)) hS1 f7
      (fun u hu2 => by
        rcases List.mem_append.mp hu2 with h9 | h9
        · exact hu u (by simpa using h9)
        · exact wv u (hst u (List.mem_of_mem_drop h9)))
      (fun z hz => wv z.2 (hL z hz))
      (by
        have e9 : L.map (fun z => (z.1, pz_v ad' z.2)) = L.map (fun z => (z.1, pz_v ad z.2)) := by
          apply List.map_congr_left
          intro z hz
          rw [pz_v_ad f1 (hL z hz)]
        show lv_has ls (pz_mL m) (L.map (fun z => (z.1, pz_v ad' z.2)))
        rw [e9]
        exact hl)
    have e5 : h'.2.2.2.2.1 - h0.2.2.2.2.1 = h.2.2.2.2.1 - h0.2.2.2.2.1 + mc := by omega
    have e6 : h'.2.2.2.2.2 - h0.2.2.2.2.2 = h.2.2.2.2.2 - h0.2.2.2.2.2 + ms := by omega
    have e7 : (v.toList ++ st.drop (pz_mna y)).map (pz_v ad') = (v.map (pz_v ad')).toList ++ (st.drop (pz_mna y)).map (pz_v ad) := by
      rw [List.map_append]
      congr 1
      · cases v <;> rfl
      · apply List.map_congr_left
        intro z hz
        rw [pz_v_ad f1 (hst z (List.mem_of_mem_drop hz))]
    have w : W p l e R s mm args below meth c H1 locs1 (h'.2.2.2.2.1 - h0.2.2.2.2.1) (h'.2.2.2.2.2 - h0.2.2.2.2.2) Q (F0 mm (pc + 3) ls ((v.toList ++ st.drop (pz_mna y)).map (pz_v ad'))) := w
    rw [e5, e6, e7] at w
    exact w
  show W p l e R s mm args below meth c H locs (h.2.2.2.2.1 - h0.2.2.2.2.1) (h.2.2.2.2.2 - h0.2.2.2.2.2) Q (F0 mm pc ls (st.map (pz_v ad)))
  have hlk := pz_mt_ok hm (by rw [hq]; exact hy0)
  rw [hq] at hlk
  -- the three kinds
  have hkd := pz_inv_is hi
  rcases hkd with ⟨rfl, rfl⟩ | ⟨rfl, rfl⟩ | ⟨rfl, rfl⟩
  · -- virtual
    obtain ⟨p1, p2, p3, p4⟩ := o12 k1.symm
    rcases k5 with k5 | k5
    · cases k5
    cases hrev : (st.take (pz_mna y)).reverse with
    | nil => rw [hrev] at k5; cases k5
    | cons rv As =>
      rw [hrev] at k5
      rcases rv with z | z | z
      · cases k5
      · cases k5
      · cases z with
        | none => cases k5
        | some z =>
          have hsh : h.1[z]? = some (pz_mow y, pz_nf (pz_mow y)) := pz_is_iff.mp (by simpa using k5)
          have hCO := pz_co (pz_mow y) p4
          have hz0 := pz_not0 hwf hsh (by have := hCO.2.1; omega)
          have hat := pz_w_at (ad := ad) (tc := tc) hz0 (pz_at0 hsh)
          rw [pz_cell_o hsh hCO.2.1] at hat
          rcases hlk with hlk | ⟨h9, -⟩
          · rw [hrev] at hMe hpre hsplit hlen1
            have q1 : ∀ sig, parseMethodDescriptor (pz_y y).desc = some sig → As.length = sig.parameters.length := by
              intro sig hs
              rw [← hpar sig hs, if_neg (by omega)]
              simp only [List.length_cons] at hlen1
              omega
            have q3 : (F0 mm pc ls (st.map (pz_v ad))).stack = (As.map (pz_v ad)).reverse ++ .ref (ad z) :: (st.drop (pz_mna y)).map (pz_v ad) := by
              show st.map (pz_v ad) = _
              rw [hsplit]
              simp [pz_v, va_rf]
            have q2 : ∃ cellB : Cell, H[ad z]? = some cellB ∧ cellB.vm.isStatics = false ∧ s.vm.findClass (pz_R (pz_mow y)) = some cellB.cls := by
              obtain ⟨r9, g1, cell, g2, g3, g4, -⟩ := hP _ _ hat
              exact ⟨cell, g2, by rw [g4]; rfl, by rw [g3]; exact (hK.1 _ _ hCO.1).2.1⟩
            have hr := va_runV (cells := h.2.2.2.2.1 - h0.2.2.2.2.1) (slots := h.2.2.2.2.2 - h0.2.2.2.2.2) (locs := locs) (below := below) (meth := meth) (e := e) (g := F0 mm pc ls (st.map (pz_v ad))) (own := pz_R (pz_mow m)) (index := x) (y := pz_y y) (ws := pz_ws y) (rm := pz_rm d mc ms) (C := pz_R (pz_mow y)) (b := ad z) (As := As.map (pz_v ad)) (rest := (st.drop (pz_mna y)).map (pz_v ad)) (n := As.length) ⟨hx, hb, hml, hown, hts⟩ hMe ⟨⟨rfl, rfl, hRR.1, hRR.2, hws, List.mem_cons_self, hts _ o1, hts _ o2, o5, q1, hts _ hlk⟩, hts _ p1, hts _ p2⟩ ⟨pz_blind, q2, hpre⟩ rfl (by simp) hl.1 q3 hW8 hd ⟨hc1, hc2⟩
            exact pz_cont hr hS hA1 back
          · omega
  · -- a constructor
    obtain ⟨p1, p2, p3, p4⟩ := o11 k1.symm
    rcases k5 with k5 | k5
    · cases k5
    cases hrev : (st.take (pz_mna y)).reverse with
    | nil => rw [hrev] at k5; cases k5
    | cons rv As =>
      rw [hrev] at k5
      rcases rv with z | z | z
      · cases k5
      · cases k5
      · cases z with
        | none => cases k5
        | some z =>
          rw [hrev] at hMe hpre hsplit hlen1
          rw [p3] at o1
          have q1 : ∀ sig, parseMethodDescriptor (pz_y y).desc = some sig → As.length = sig.parameters.length := by
            intro sig hs
            rw [← hpar sig hs, if_neg (by omega)]
            simp only [List.length_cons] at hlen1
            omega
          have q3 : (F0 mm pc ls (st.map (pz_v ad))).stack = (As.map (pz_v ad)).reverse ++ .ref (ad z) :: (st.drop (pz_mna y)).map (pz_v ad) := by
            show st.map (pz_v ad) = _
            rw [hsplit]
            simp [pz_v, va_rf]
          have q4 : Cond.code (pz_y y) (pz_b y) (pz_mL y) none ∈ pz_ws y := by
            unfold pz_ws
            rw [p3]
            exact List.mem_cons_self
          rcases hlk with hlk | ⟨-, host, hlk⟩
          · have hr := va_runI (cells := h.2.2.2.2.1 - h0.2.2.2.2.1) (slots := h.2.2.2.2.2 - h0.2.2.2.2.2) (locs := locs) (below := below) (meth := meth) (e := e) (g := F0 mm pc ls (st.map (pz_v ad))) (own := pz_R (pz_mow m)) (index := x) (y := pz_y y) (ws := pz_ws y) (rm := pz_rm d mc ms) (b := ad z) (As := As.map (pz_v ad)) (rest := (st.drop (pz_mna y)).map (pz_v ad)) (n := As.length) (bytes := pz_b y) (maxL := pz_mL y) ⟨hx, hb, hml, hown, hts⟩ hMe ⟨⟨rfl, rfl, hRR.1, hRR.2, hws, q4, hts _ o1, hts _ o2, o5, q1, hts _ hlk⟩, p2, hts _ p1⟩ ⟨pz_blind, hpre⟩ rfl (by simp) hl.1 q3 hW8 hd ⟨hc1, hc2⟩
            exact pz_cont hr hS hA1 back
          · have hn : (Cond.methodLinkNest (pz_R (pz_mow m)) x (pz_y y) host).before args s = true := pz_nest Y.2.2.1 hlk
            have hr := va_runIN (cells := h.2.2.2.2.1 - h0.2.2.2.2.1) (slots := h.2.2.2.2.2 - h0.2.2.2.2.2) (locs := locs) (below := below) (meth := meth) (e := e) (g := F0 mm pc ls (st.map (pz_v ad))) (own := pz_R (pz_mow m)) (index := x) (y := pz_y y) (ws := pz_ws y) (rm := pz_rm d mc ms) (host := host) (b := ad z) (As := As.map (pz_v ad)) (rest := (st.drop (pz_mna y)).map (pz_v ad)) (n := As.length) (bytes := pz_b y) (maxL := pz_mL y) ⟨hx, hb, hml, hown, hts⟩ hMe ⟨⟨⟨rfl, rfl, hRR.1, hRR.2, hws, q4⟩, hts _ o1, hts _ o2, o5, q1, hn⟩, p2, hts _ p1⟩ ⟨pz_blind, hpre⟩ rfl (by simp) hl.1 q3 hW8 hd ⟨hc1, hc2⟩
            exact pz_cont hr hS hA1 back
  · -- static
    have p1 := o10 k1.symm
    have hpar2 : ∀ sig, parseMethodDescriptor (pz_y y).desc = some sig → pz_mna y = sig.parameters.length := by
      intro sig hs
      rw [← hpar sig hs, if_pos k1.symm]
    rcases hlk with hlk | ⟨-, host, hlk⟩
    · have hr := va_runS (cells := h.2.2.2.2.1 - h0.2.2.2.2.1) (slots := h.2.2.2.2.2 - h0.2.2.2.2.2) (locs := locs) (below := below) (meth := meth) (e := e) (g := F0 mm pc ls (st.map (pz_v ad))) (own := pz_R (pz_mow m)) (index := x) (y := pz_y y) (ws := pz_ws y) (rm := pz_rm d mc ms) (As := ((st.take (pz_mna y)).reverse).map (pz_v ad)) (rest := (st.drop (pz_mna y)).map (pz_v ad)) (n := pz_mna y) ⟨hx, hb, hml, hown, hts⟩ hMe ⟨⟨rfl, rfl, hRR.1, hRR.2, hws, List.mem_cons_self, hts _ o1, hts _ o2, o5, hpar2, hts _ hlk⟩, hts _ p1⟩ ⟨pz_blind, hpre⟩ rfl (by rw [List.length_map]; exact hlen1) hl.1 hsplit hW8 hd ⟨hc1, hc2⟩
      exact pz_cont hr hS hA1 back
    · have hn : (Cond.methodLinkNest (pz_R (pz_mow m)) x (pz_y y) host).before args s = true := pz_nest Y.2.2.1 hlk
      have hr := va_runSN (cells := h.2.2.2.2.1 - h0.2.2.2.2.1) (slots := h.2.2.2.2.2 - h0.2.2.2.2.2) (locs := locs) (below := below) (meth := meth) (e := e) (g := F0 mm pc ls (st.map (pz_v ad))) (own := pz_R (pz_mow m)) (index := x) (y := pz_y y) (ws := pz_ws y) (rm := pz_rm d mc ms) (host := host) (As := ((st.take (pz_mna y)).reverse).map (pz_v ad)) (rest := (st.drop (pz_mna y)).map (pz_v ad)) (n := pz_mna y) ⟨hx, hb, hml, hown, hts⟩ hMe ⟨⟨⟨rfl, rfl, hRR.1, hRR.2, hws, List.mem_cons_self⟩, hts _ o1, hts _ o2, o5, hpar2, hn⟩, hts _ p1, trivial⟩ ⟨pz_blind, hpre⟩ rfl (by rw [List.length_map]; exact hlen1) hl.1 hsplit hW8 hd ⟨hc1, hc2⟩
      exact pz_cont hr hS hA1 back
-- Object.<init>
theorem pz_s_obj {x : Nat} {q : Nat × Nat} {r : Option Nat} {rest : List pz_V} (X : pz_Cx p l s mm args meth c m D tc A b n0 xs) (hd : decode (pz_b m) pc = .ok (.invokespecial x, 3)) (hm : pz_mt (pz_mow m) x = some q) (hq : q.1 = 0) (hn : r.isSome = true) (hR : 1 ≤ R.frames) (hRl : 20 ≤ R.locals) (hrest : (rest.map pz_cat).sum ≤ 8)
    (kk : pz_PW p l e R s mm args below meth c m D tc A b n0 xs ad0 h0 Q (pc + 3, rest, L, h, ok')) : pz_PW p l e R s mm args below meth c m D tc A b n0 xs ad0 h0 Q (pc, .inr (.inr r) :: rest, L, h, ok) := by
  obtain ⟨hx, hb, hml, hown, hts, hini, hK, hA, hX, hbl, hbA⟩ := X
  cases r with
  | none => cases hn
  | some r =>
    intro ad H locs ls a1 a2 a3 a4 a5 a6 hP hD hS hwf hst hL hl
    have w := kk ad H locs ls a1 a2 a3 a4 a5 a6 hP hD hS hwf (fun v hv => hst v (List.mem_cons_of_mem _ hv)) hL hl
    have h9 : 2 * (F0 mm pc ls (.ref (ad r) :: rest.map (pz_v ad))).monitorRoom + ((rest.map (pz_v ad)).map fun v => v.category).sum ≤ 8 := lv_room (by rw [pz_sum_cat]; exact hrest)
    show W p l e R s mm args below meth c H locs _ _ Q (F0 mm pc ls (.ref (ad r) :: rest.map (pz_v ad)))
    exact W.objInit hx hb hown (hts _ (pz_mt_obj hm hq)) (hts _ pz_T_obi) (hts _ pz_T_obc) rfl (by rw [hml]; exact hl.1) rfl hd hR (by omega) w
end pzc
