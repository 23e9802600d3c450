/-! The law's entry: calls of its small methods; its run. -/
def pz_wsW (y : Nat) : List Cond := Cond.codeWith (pz_y y) (pz_b y) (pz_mL y) (pz_rT y) (pz_hd y) :: pz_T
section pzl
variable {p : Program} {l : Launch} {e : Env} {R : Room} {s : State} {mm : MethodId} {args : Array Value} {below : List Frame} {meth : Method} {c : Code} {m : Nat} {D : va_G} {tc : Nat → ClassId} {A : Nat → Prop} {b n0 : Nat} {xs : Nat → Int} {ad0 : Nat → Nat} {h0 : pz_H} {Q : State → Prop}
variable {pc k : Nat} {st : List pz_V} {L : List (Nat × pz_V)} {h h' : pz_H} {ok ok' : Bool}
-- the contract of a small method
theorem pz_metW {y d n : Nat} {ad : Nat → Nat} {as : List pz_V} {sz : Nat} {v : Option pz_V} (hlt : l.stackTraces = false) (hm : pz_wrap y = true) (hsum : (as.map pz_cat).sum ≤ pz_mL y) (ev : pz_ev n d y (0, [], pz_args 0 as, h, true) = some (.inl v, h', true)) (hwf : pz_wf n0 h) (has : ∀ v ∈ as, pz_wv h.1.length v) (hb0 : ad 0 = b) (hxs : ∀ k, k < n0 → h.2.1 0 k = xs k) :
    MetFree l (pz_y y) (headSpec (pz_wsW y) (pz_rm d (h'.2.2.2.2.1 - h.2.2.2.2.1) (h'.2.2.2.2.2 - h.2.2.2.2.2))) (pz_Pc D tc b n0 xs ad as h sz) (fun _ _ _ _ _ => True) (pz_MQ D tc n0 xs ad h (va_A (pz_w ad tc h) sz) (.inl v) h') := by
  obtain ⟨w1, w2, w3, w4, w5, w6, w7, w8, w9, w10, w11, w12, w13, w14, w15, w16⟩ := pz_wo hm
  refine MetFree.of_bodyS (code := pz_b y) (maxLocals := pz_mL y) (ret := pz_rT y) w5 ?_ ?_
  · intro args s m hp hn
    obtain ⟨m', meth, c, h0, h1, h2, h3, h4, -, h5, h6, -⟩ := Cond.codeWith_spec (atoms_spec (ws := pz_wsW y) hp _ List.mem_cons_self)
    cases hn.symm.trans h0
    exact ⟨meth, c, h1, h2, h3, h4, h5, h6⟩
  · intro p e s m args below meth c s₁ B hml hP _
    obtain ⟨rfl, hsz, b1, b2, b3, b4, b5, b6, b7, b8, b9, b10, b11⟩ := hP
    subst hsz
    have hts0 := atoms_spec (ws := pz_wsW y) B.pre
    have hts : ∀ w ∈ pz_T, w.before (as.map (pz_v ad)).toArray s = true := fun w hw => hts0 w (List.mem_cons_of_mem _ hw)
    have hown : s.vm.findClass (pz_R (pz_mow y)) = some m.cls := by rw [← w4]; exact findClass_of_methodNamed B.named
    have hh0 : s₁.heap = s.heap := by rw [B.state]; rfl
    have hl := lv_entry (as.map (pz_v ad)) (n := pz_mL y) (by rw [pz_args_len]; exact hsum)
    rw [pz_args_map] at hl
    have hex : c.exceptionTable.toList.map (fun h => (h.startPc, h.endPc, h.handlerPc, h.catchType)) = pz_hd y := by
      obtain ⟨m', meth', c', g0, g1, g2, -, -, g5, -⟩ := Cond.codeWith_spec (hts0 _ List.mem_cons_self)
      cases B.named.symm.trans g0
      cases B.method.symm.trans g1
      cases (Stand.of_body B).code.symm.trans g2
      exact g5
    have hmi : pz_min y = true → meth.name = "<init>" := fun q => by rw [w12] at q; cases q
    have K := pz_runW (p := p) (e := e) (R := pz_rm d (h'.2.2.2.2.1 - h.2.2.2.2.1) (h'.2.2.2.2.2 - h.2.2.2.2.2)) (s := s) (mm := m) (below := below) (D := D) (tc := tc) (A := va_A (pz_w ad tc h) s.heap.size) (b := b) (n0 := n0) (xs := xs) (ad0 := ad) (h0 := h) hlt hm n d _ v h' ev ⟨B.exec, B.bytes, hml, hown, hts, hmi, b3, fun q hq => Or.inr hq, b4, b5, b6⟩ ⟨b7, b8, b9, b10, b11⟩ B.returns B.notSynchronized hex (Nat.le_refl _) (Nat.le_refl _) (Nat.le_refl _) (Nat.le_refl _) ad s.heap [] _ (fun _ _ => rfl) (Nat.le_refl _) (Nat.le_refl _) (Nat.le_refl _) hb0 hxs b1 (b2.self (sz := s.heap.size)) va_S.rf hwf (fun _ q => nomatch q) (fun q hq => has q.2 (pz_args_in q hq)) hl
    have e9 : h.2.2.2.2.1 - h.2.2.2.2.1 = 0 := by omega
    have e8 : h.2.2.2.2.2 - h.2.2.2.2.2 = 0 := by omega
    have K : W p l e (pz_rm d (h'.2.2.2.2.1 - h.2.2.2.2.1) (h'.2.2.2.2.2 - h.2.2.2.2.2)) s m _ below meth c s.heap [] (h.2.2.2.2.1 - h.2.2.2.2.1) (h.2.2.2.2.2 - h.2.2.2.2.2) _ (F0 m 0 _ []) := K
    rw [e9, e8, ← lg_entry_eq] at K
    obtain ⟨t, a1, a2⟩ := K s₁ hh0 (Stand.of_body B)
    obtain ⟨oc, c1, c2, c3⟩ := pz_End_MQ a2
    exact ⟨t, oc, a1, c1, c2, c3⟩
-- a call of a small method
theorem pz_s_callW {y d x : Nat} {q : Nat × Nat} {v : Option pz_V} (X : pz_Cx p l s mm args meth c m D tc A b n0 xs) (Y : pz_Cy s A) (hd : decode (pz_b m) pc = .ok (.invokestatic x, 3)) (hm : pz_mt (pz_mow m) x = some q) (hq : q.1 = y) (hy0 : y ≠ 0) (hwr : pz_wrap y = true) (hok : pz_cok 2 y st h = true)
    (hRf : 10 + d + 1 ≤ R.frames) (hRl : 200 + 100 * d + 100 ≤ R.locals) (hR1 : h'.2.2.2.2.1 - h0.2.2.2.2.1 ≤ R.cells) (hR2 : h'.2.2.2.2.2 - h0.2.2.2.2.2 ≤ R.slots) (hm1 : h.2.2.2.2.1 ≤ h'.2.2.2.2.1) (hm2 : h.2.2.2.2.2 ≤ h'.2.2.2.2.2)
    (hM : ∀ (ad : Nat → Nat) (sz : Nat), pz_wf n0 h → (∀ v ∈ (st.take (pz_mna y)).reverse, pz_wv h.1.length v) → ad 0 = b → (∀ k, k < n0 → h.2.1 0 k = xs k) → MetFree l (pz_y y) (headSpec (pz_wsW y) (pz_rm d (h'.2.2.2.2.1 - h.2.2.2.2.1) (h'.2.2.2.2.2 - h.2.2.2.2.2))) (pz_Pc D tc b n0 xs ad (st.take (pz_mna y)).reverse h sz) (fun _ _ _ _ _ => True) (pz_MQ D tc n0 xs ad h (va_A (pz_w ad tc h) sz) (.inl v) h'))
    (kk : pz_PW p l e R s mm args below meth c m D tc A b n0 xs ad0 h0 Q (pc + 3, v.toList ++ st.drop (pz_mna y), L, h', ok')) : pz_PW p l e R s mm args below meth c m D tc A b n0 xs ad0 h0 Q (pc, st, L, h, ok) := by
  have X9 := X
  obtain ⟨hx, hb, hml, hown, hts, hini, hK, hA, hX, hbl, hbA⟩ := X9
  obtain ⟨w1, w2, w3, w4, w5, w6, w7, w8, w9, w10, w11, w12, w13, w14, w15, w16⟩ := pz_wo hwr
  unfold pz_cok at hok
  simp only [Bool.and_eq_true, Bool.or_eq_true, decide_eq_true_eq] at hok
  obtain ⟨k1, k2, k3, k4, k5⟩ := hok
  intro ad H locs ls a1 a2 a3 a4 a5 a6 hP hD hS hwf hst hL hl
  have a2 : h0.1.length ≤ h.1.length := a2
  have a3 : h0.2.2.2.2.1 ≤ h.2.2.2.2.1 := a3
  have a4 : h0.2.2.2.2.2 ≤ h.2.2.2.2.2 := a4
  have hsplit : st.map (pz_v ad) = (((st.take (pz_mna y)).reverse).map (pz_v ad)).reverse ++ (st.drop (pz_mna y)).map (pz_v ad) := by
    rw [← List.map_reverse, List.reverse_reverse, ← List.map_append, List.take_append_drop]
  have hA1 : ∀ z, va_A (pz_w ad tc h) H.size z → A z := by
    intro z hz
    rcases hz with ⟨j, E, hj⟩ | hz
    · exact hD.2 j (z, E) hj
    · exact hA z (Nat.le_trans hS.1 hz)
  have hMe := hM ad H.size hwf (fun v hv => hst v (List.mem_of_mem_take (List.mem_reverse.mp hv))) a5 a6
  have hpre := pz_pre (as := (st.take (pz_mna y)).reverse) X Y hP hD hS
  have hws : ∀ w ∈ pz_wsW y, ∀ (a' : Array Value) (U : State), s.WarmedH U.vm → w.before a' U = true := by
    intro w hw
    rcases List.mem_cons.mp hw with rfl | hw
    · exact pz_good hts w1
    · exact pz_good hts hw
  have hlen1 : ((st.take (pz_mna y)).reverse).length = pz_mna y := by rw [List.length_reverse, List.length_take]; omega
  have hW8 : 2 * (F0 mm pc ls ((st.drop (pz_mna y)).map (pz_v ad))).monitorRoom + ((F0 mm pc ls ((st.drop (pz_mna y)).map (pz_v ad))).stack.map fun v => v.category).sum ≤ 8 := lv_room (by rw [pz_sum_cat]; exact k3)
  have hlo : 8 + (pz_mL y + 11) + (pz_rm d (h'.2.2.2.2.1 - h.2.2.2.2.1) (h'.2.2.2.2.2 - h.2.2.2.2.2)).locals ≤ R.locals := by show 8 + (pz_mL y + 11) + (200 + 100 * d) ≤ R.locals; omega
  have hlk := pz_mt_ok hm (by rw [hq]; exact hy0)
  rw [hq] at hlk
  obtain ⟨mk, methM, cM, hnamed, hmethM, hcM, -, hlM, -, -, -, hsigM⟩ := Cond.codeWith_spec (hts _ w1)
  obtain ⟨kP, hkP, -⟩ := className_of_methodNamed hnamed
  have hinitP : kP.init = .initialized := Cond.initialized_spec (findClass_of_methodNamed hnamed) hkP (hts _ w2)
  have hpar : (((st.take (pz_mna y)).reverse).map (pz_v ad)).length = methM.sig.parameters.length := by
    rw [hsigM] at w9
    rw [List.length_map, hlen1]
    exact (Option.some.inj w9).symm
  show W p l e R s mm args below meth c H locs (h.2.2.2.2.1 - h0.2.2.2.2.1) (h.2.2.2.2.2 - h0.2.2.2.2.2) Q (F0 mm pc ls (st.map (pz_v ad)))
  have tail : ∀ (T : State) (vm₁ : Vm), T.heap = H → Stand p l e R s mm args below meth c (T.setVm vm₁) locs (h.2.2.2.2.1 - h0.2.2.2.2.1) (h.2.2.2.2.2 - h0.2.2.2.2.2) → s.WarmedH vm₁ → ∃ t : State, Steps p.tables e below (doInvoke e ((T.setVm vm₁).setTop (F0 mm pc ls ((st.drop (pz_mna y)).map (pz_v ad)))) [] mk (((st.take (pz_mna y)).reverse).map (pz_v ad)).toArray).1 t ∧ Q t := by
    intro T vm₁ hT X₁ hW₁
    have hU : (T.setVm vm₁).heap = H := hT
    obtain ⟨o, s₂, hst2, hend, hqq⟩ := pz_enter (maxL := pz_mL y) (g := F0 mm pc ls ((st.drop (pz_mna y)).map (pz_v ad))) hMe pz_blind hRf hlo X₁ rfl (by show ls.size = _; rw [hml]; exact hl.1) (by rw [hb]; exact hd) hW8 (X₁.named hnamed) (hmY := by show vm₁.method? mk = some methM; rw [hW₁.alike.method?]; exact hmethM) hcM hlM (pz_good hts w2 _ _ hW₁) (atoms_intro fun w hw => hws w hw _ _ hW₁) (by show h.2.2.2.2.1 - h0.2.2.2.2.1 + (h'.2.2.2.2.1 - h.2.2.2.2.1) ≤ R.cells; omega) (by show h.2.2.2.2.2 - h0.2.2.2.2.2 + (h'.2.2.2.2.2 - h.2.2.2.2.2) ≤ R.slots; omega) (hpre _ hU hW₁)
    obtain ⟨⟨⟨ad', f0, hov, hu⟩, hF⟩, L0, ⟨-, f5, f6⟩, f7⟩ := hqq
    subst hov
    obtain ⟨f1, f2, f3, f4, g5, g6, g7, g8⟩ := f0
    obtain ⟨X', he⟩ := pz_same X₁ rfl f5 f6
    have hs2 := pz_came X₁ rfl (by rw [hb]; exact hd) f5 hend he
    have hz : H.size ≤ s₂.heap.size := by rw [← hU]; exact hF.1
    have hkp : ∀ q : Nat, q < H.size → ¬ va_A (pz_w ad tc h) H.size q → s₂.heap[q]? = H[q]? := by
      intro q h1 h2
      have := hF.2 q (by show q < (T.setVm vm₁).heap.size; rw [hU]; exact h1) h2
      rw [this]
      show (T.setVm vm₁).heap[q]? = H[q]?
      rw [hU]
    have wv : ∀ u, pz_wv h.1.length u → pz_wv h'.1.length u := by
      intro u hu
      rcases u with a | x | r
      · exact hu
      · exact trivial
      · exact fun x hx => Nat.lt_of_lt_of_le (hu x hx) f4
    have hl0 : 0 < h.1.length := pz_at0 hwf.2.2.1
    have w := kk ad' s₂.heap (locs ++ L0) ls (fun z hz => (f1 z (Nat.lt_of_lt_of_le hz a2)).trans (a1 z hz)) (Nat.le_trans a2 f4) (Nat.le_trans a3 g5) (Nat.le_trans a4 g6) ((f1 0 hl0).trans a5) g8 f2 (f3.weaken (fun _ z _ hz => hA1 z.1 hz))
      ⟨Nat.le_trans hS.1 hz, fun q h1 h2 => by rw [hkp q (Nat.lt_of_lt_of_le h1 hS.1) (fun w => h2 (hA1 q w))]; exact hS.2.1 q h1 h2, fun q hq => by
        rcases List.mem_append.mp hq with h | h
        · exact hS.2.2 q h
        · exact hA1 _ (f7 q h)⟩ g7
      (fun u hu2 => by
        rcases List.mem_append.mp hu2 with h9 | h9
        · exact hu u (by simpa using h9)
        · exact wv u (hst u (List.mem_of_mem_drop h9)))
      (fun z hz => wv z.2 (hL z hz))
      (by
        have e9 : L.map (fun z => (z.1, pz_v ad' z.2)) = L.map (fun z => (z.1, pz_v ad z.2)) := by
          apply List.map_congr_left
          intro z hz
          rw [pz_v_ad f1 (hL z hz)]
        show lv_has ls (pz_mL m) (L.map (fun z => (z.1, pz_v ad' z.2)))
        rw [e9]
        exact hl)
    have e5 : h'.2.2.2.2.1 - h0.2.2.2.2.1 = h.2.2.2.2.1 - h0.2.2.2.2.1 + (h'.2.2.2.2.1 - h.2.2.2.2.1) := by omega
    have e6 : h'.2.2.2.2.2 - h0.2.2.2.2.2 = h.2.2.2.2.2 - h0.2.2.2.2.2 + (h'.2.2.2.2.2 - h.2.2.2.2.2) := by omega
    have e7 : (v.toList ++ st.drop (pz_mna y)).map (pz_v ad') = (v.map (pz_v ad')).toList ++ (st.drop (pz_mna y)).map (pz_v ad) := by
      rw [List.map_append]
      congr 1
      · cases v <;> rfl
      · apply List.map_congr_left
        intro z hz
        rw [pz_v_ad f1 (hst z (List.mem_of_mem_drop hz))]
    have w : W p l e R s mm args below meth c s₂.heap (locs ++ L0) (h'.2.2.2.2.1 - h0.2.2.2.2.1) (h'.2.2.2.2.2 - h0.2.2.2.2.2) Q (F0 mm (pc + 3) ls ((v.toList ++ st.drop (pz_mna y)).map (pz_v ad'))) := w
    rw [e5, e6, e7] at w
    obtain ⟨t, c1, c2⟩ := w _ (by rfl) X'
    refine ⟨t, ?_, c2⟩
    rw [hs2] at hst2
    exact hst2.trans c1
  rcases hlk with hlk | ⟨-, host, hlk⟩
  · intro T hT X0
    obtain ⟨vm₁, X₁, hstep₁⟩ := X0.invokestatic hx hown (hts _ hlk) hnamed hmethM (Cond.static_spec hnamed hmethM (hts _ w3)) hkP hinitP w6 (g := F0 mm pc ls (st.map (pz_v ad))) rfl (argsL := ((st.take (pz_mna y)).reverse).map (pz_v ad)) (rest := (st.drop (pz_mna y)).map (pz_v ad)) hpar hsplit (by rw [hb]; exact hd)
    obtain ⟨t, c1, c2⟩ := tail T vm₁ hT X₁ X₁.warmed
    refine ⟨t, hstep₁ _ fun acts => ?_, c2⟩
    rw [doInvoke_state]
    exact c1
  · have hn : (Cond.methodLinkNest (pz_R (pz_mow m)) x (pz_y y) host).before args s = true := pz_nest Y.2.2.1 hlk
    intro T hT X0
    obtain ⟨vm₁, X₁, hstep₁⟩ := X0.invokestaticNest hx hown hn hnamed hmethM (Cond.static_spec hnamed hmethM (hts _ w3)) hkP hinitP w6 (g := F0 mm pc ls (st.map (pz_v ad))) rfl (argsL := ((st.take (pz_mna y)).reverse).map (pz_v ad)) (rest := (st.drop (pz_mna y)).map (pz_v ad)) hpar hsplit (by rw [hb]; exact hd)
    obtain ⟨t, c1, c2⟩ := tail T vm₁ hT X₁ X₁.warmed
    refine ⟨t, hstep₁ _ fun acts => ?_, c2⟩
    rw [doInvoke_state]
    exact c1
end pzl
