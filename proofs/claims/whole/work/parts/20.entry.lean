/-! The law's run, and the claim's walk out of a run of the pure machine. -/
theorem pz_la : ((pz_mtL[11]?).getD []).all (fun e => pz_plain e.2.1 || pz_wrap e.2.1) = true := by decide +kernel
theorem pz_lb : pz_mow 148 = 11 ∧ pz_rokb (pz_mrt 148) (pz_rT 148) = true ∧ pz_min 148 = false ∧ pz_mL 148 = 7 := by decide +kernel
section pzl
variable {p : Program} {l : Launch} {e : Env} {R : Room} {s : State} {mm : MethodId} {args : Array Value} {below : List Frame} {meth : Method} {c : Code} {D : va_G} {tc : Nat → ClassId} {A : Nat → Prop} {b n0 : Nat} {xs : Nat → Int} {ad0 : Nat → Nat} {h0 : pz_H}
set_option maxHeartbeats 4000000 in
theorem pz_runL (hlt : l.stackTraces = false) : ∀ (n d : Nat) (x : pz_S) (v : Option pz_V) (h' : pz_H), pz_ev n d 148 x = some (.inl v, h', true) →
    pz_Cx p l s mm args meth c 148 D tc A b n0 xs → pz_Cy s A → meth.sig.returnType = pz_rT 148 → meth.locks = false → 10 + d ≤ R.frames → 200 + 100 * d ≤ R.locals → h'.2.2.2.2.1 - h0.2.2.2.2.1 ≤ R.cells → h'.2.2.2.2.2 - h0.2.2.2.2.2 ≤ R.slots →
    pz_PW p l e R s mm args below meth c 148 D tc A b n0 xs ad0 h0 (pz_End below args s D tc n0 xs ad0 h0 A (.inl v) h') x := by
  obtain ⟨w10, w8, w12, -⟩ := pz_lb
  generalize hm : (148 : Nat) = m at *
  intro n
  induction n with
  | zero => intro d x v h' ev; cases ev
  | succ n ih =>
    intro d x v h' ev X Y hr hlocks hRf hRl hRc hRs
    obtain ⟨pc, st, L, h, ok⟩ := x
    have hok := pz_ev_ok ev
    have hok : ok = true := hok
    subst hok
    have ev : pz_body (pz_ev n) d m (pc, st, L, h, true) = some (.inl v, h', true) := ev
    unfold pz_body at ev
    dsimp only at ev
    cases hc : pz_cd m pc with
    | none => rw [hc] at ev; cases ev
    | some il =>
      rw [hc] at ev
      dsimp only at ev
      obtain ⟨i, len⟩ := il
      obtain ⟨hd, hlen⟩ := pz_dec hc
      dsimp only at ev hlen
      obtain ⟨hx, hb, hml, hown, hts, hini, hK, hA, hX, hbl, hbA⟩ := id X
      cases hrt : pz_rtn i with
      | some t =>
        rw [hrt] at ev
        dsimp only at ev
        have hl1 : len = 1 := by
          refine pz_lenq hlen ?_ (by decide)
          unfold pz_rtn at hrt
          split at hrt <;> first | rfl | cases hrt
        subst hl1
        cases hv : pz_re (pz_mrt m) t st with
        | none => rw [hv] at ev; cases ev
        | some vb =>
          rw [hv] at ev
          obtain ⟨v2, vb2⟩ := vb
          have ev : some ((.inl v2 : pz_O), h, (true && vb2)) = some (.inl v, h', true) := ev
          simp only [Option.some.injEq, Prod.mk.injEq, Sum.inl.injEq, Bool.true_and] at ev
          obtain ⟨rfl, rfl, rfl⟩ := ev
          exact pz_s_ret hx hb hd hr (pz_rokb_ok w8) hlocks hrt hv
      | none =>
        rw [hrt] at ev
        dsimp only at ev
        cases hi : pz_inv i with
        | none =>
          rw [hi] at ev
          dsimp only at ev
          have h1 := pz_ev_ok ev
          have h1 : (true && (pz_step (pz_mow m) (pz_mL m) (pz_min m) i len pc st L h).2.2.2.2) = true := h1
          rw [Bool.true_and] at h1
          have h2 := pz_ev_nc ev
          have h2 : (pz_step (pz_mow m) (pz_mL m) (pz_min m) i len pc st L h).2.2.2.1.2.2.2.2.1 ≤ h'.2.2.2.2.1 ∧ (pz_step (pz_mow m) (pz_mL m) (pz_min m) i len pc st L h).2.2.2.1.2.2.2.2.2 ≤ h'.2.2.2.2.2 := h2
          exact pz_step_sound X Y.2.1 hd hlen h1 (by omega) (by omega) (ih d _ v h' ev X Y hr hlocks hRf hRl hRc hRs)
        | some kx =>
          rw [hi] at ev
          dsimp only at ev
          obtain ⟨kd, idx⟩ := kx
          dsimp only at ev
          have hl3 : len = 3 := by
            rcases pz_inv_is hi with ⟨rfl, -⟩ | ⟨rfl, -⟩ | ⟨rfl, -⟩ <;> exact pz_lenq hlen rfl (by decide)
          subst hl3
          cases hmt : pz_mt (pz_mow m) idx with
          | none => rw [hmt] at ev; cases ev
          | some q =>
            rw [hmt] at ev
            dsimp only at ev
            unfold pz_call at ev
            have hpw : pz_plain q.1 = true ∨ pz_wrap q.1 = true := by
              have h9 : pz_mt 11 idx = some q := by rw [← w10]; exact hmt
              have h8 := List.all_eq_true.mp pz_la _ (pz_look_in h9)
              rw [Bool.or_eq_true] at h8
              exact h8
            cases hq : q.1 with
            | zero => rw [hq] at hpw; rcases hpw with h | h <;> cases h
            | succ y =>
              rw [hq] at ev hpw
              dsimp only at ev
              cases d with
              | zero => cases ev
              | succ d =>
                dsimp only at ev
                cases hs : pz_sub (pz_ev n) d kd (y + 1) (pc, st, L, h, true) with
                | none => rw [hs] at ev; cases ev
                | some r =>
                  rw [hs] at ev
                  obtain ⟨o1, h1, ok1⟩ := r
                  have ev : pz_aft (pz_ev n) (d + 1) m (y + 1) (pc, st, L, h, true) (o1, h1, ok1) = some (.inl v, h', true) := ev
                  unfold pz_aft at ev
                  cases o1 with
                  | inr k =>
                    dsimp only at ev
                    have hct : pz_ct m pc k = none := by rw [← hm]; rfl
                    rw [hct] at ev
                    cases ev
                  | inl v1 =>
                    dsimp only at ev
                    have hok1 : ok1 = true := pz_ev_ok ev
                    subst hok1
                    have hnc := pz_ev_nc ev
                    have hnc : h1.2.2.2.2.1 ≤ h'.2.2.2.2.1 ∧ h1.2.2.2.2.2 ≤ h'.2.2.2.2.2 := hnc
                    rcases hpw with hplq | hwr
                    · obtain ⟨hcok, hn1, hn2, hMt⟩ := pz_callee (b := b) (n0 := n0) (xs := xs) (D := D) (tc := tc) hlt hplq hs
                      exact pz_s_call (d := d) (v := v1) (h' := h1) X Y hd hi hmt hq (Nat.succ_ne_zero y) hplq hcok (by omega) (by omega) rfl rfl (by omega) (by omega) hn1 hn2 (fun ad sz hwf has hb0 hxs => hMt ad sz hwf has hb0 hxs)
                        (ih (d + 1) _ v h' ev X Y hr hlocks hRf hRl hRc hRs)
                    · obtain ⟨-, -, -, -, -, -, -, -, -, -, v11, -, -, v14, -, -⟩ := pz_wo hwr
                      unfold pz_sub at hs
                      rw [v14] at hs
                      dsimp only at hs
                      have hk := pz_ev_ok hs
                      have hk : (true && pz_cok kd (y + 1) st h) = true := hk
                      rw [Bool.true_and] at hk
                      rw [hk] at hs
                      have hn := pz_ev_nc hs
                      have hn : h.2.2.2.2.1 ≤ h1.2.2.2.2.1 ∧ h.2.2.2.2.2 ≤ h1.2.2.2.2.2 := hn
                      have hkd : kd = 2 := by
                        have h9 := hk
                        unfold pz_cok at h9
                        simp only [Bool.and_eq_true, decide_eq_true_eq] at h9
                        rw [h9.1]
                        exact v11
                      subst hkd
                      have hii : i = .invokestatic idx := by
                        rcases pz_inv_is hi with ⟨-, h9⟩ | ⟨-, h9⟩ | ⟨h9, -⟩
                        · cases h9
                        · cases h9
                        · exact h9
                      subst hii
                      refine pz_s_callW (d := d) (v := v1) (h' := h1) X Y hd hmt hq (Nat.succ_ne_zero y) hwr hk (by omega) (by omega) (by omega) (by omega) hn.1 hn.2 (fun ad sz hwf has hb0 hxs => ?_)
                        (ih (d + 1) _ v h' ev X Y hr hlocks hRf hRl hRc hRs)
                      refine pz_metW hlt hwr ?_ hs hwf has hb0 hxs
                      have h9 := hk
                      unfold pz_cok at h9
                      simp only [Bool.and_eq_true, decide_eq_true_eq] at h9
                      rw [List.map_reverse, List.sum_reverse]
                      exact h9.2.2.2.1
end pzl
-- the heap at the start: the script alone
def pz_h0 (n0 : Nat) (xs : Nat → Int) : pz_H := ([(103, n0)], (fun p k => if p = 0 then xs k else 0), (fun _ _ => 0), (fun _ _ => none), 0, 0)
/-- the law, in the pure machine, on a script of n0 ints xs -/
def pz_goal (n0 : Nat) (xs : Nat → Int) : Prop := pz_Rn 30 148 (0, [], [(0, .inr (.inr (some 0)))], pz_h0 n0 xs, true) (fun o h => o = .inl (some (.inl 1)) ∧ h.2.2.2.2.1 ≤ 601024 ∧ h.2.2.2.2.2 ≤ 7293034)
theorem pz_Z1_of {C n d : String} {A : Nat → Prop} {s : State} {args : Array Value} (h1 : (Cond.laysStatic C n d).before args s = true) (h2 : (Cond.isRef (.static C n d)).before args s = true) (hA : ∀ a, a < s.heap.size → ¬ A a) : pz_Z1 C n d A s s.heap := by
  obtain ⟨cc, k, i, f, a, cell, g1, g2, g3, g4, g5, g6, g7, g8, g9⟩ := Cond.laysStatic_spec h1
  obtain ⟨u, hu⟩ := Cond.staticRefV (args := args) (first := s) (o := none) (idx := []) g2 g3 g4 g5 g6 h2
  exact ⟨cc, k, i, f, a, cell, u.v, g1, g2, g3, g4, g5, g6, g7, g8, g9, hu, u.2, hA a (Array.getElem?_eq_some_iff.mp g5).1⟩
theorem pz_CW_in : pz_CW.all (fun w => decide (w ∈ lw_tbl)) = true := by decide +kernel
theorem pz_start {p : Program} {e : Env} {s : State} {m : MethodId} {below : List Frame} {meth : Method} {c : Code} (l : Launch) (hlt : l.stackTraces = false) {b L : Nat} {xs : Nat → Int32} (C0 : p.tables.exec = Jvm.exec ∧ c.code = code ∧ meth.sig.returnType = ret ∧ c.maxLocals = 7 ∧ s.vm.findClass "RelationStreamLaw" = some m.cls ∧ (∀ w ∈ lw_tbl, w.before #[Value.ref b] s = true) ∧ va_X b L xs s s.heap ∧ b < s.heap.size ∧ meth.locks = false ∧ (Jvm.Cond.and given_1 narrow_1).before #[Value.ref b] s = true)
    (hgoal : pz_goal L (fun k => (xs k).toInt)) :
    W p l e room_1 s m #[Value.ref b] below meth c s.heap [] 0 0 (fun t => ∃ o, t.status = .running ∧ Ended t below o ∧ o = .returned (some (.int 1)) ∧ Framed s o t [] 601024 7293034) (entryFrame m ([Value.ref b] : List Value).toArray 7) := by
  obtain ⟨hx, hb, hr, hml, hown, hts, hX, hbl, hlocks, hgv⟩ := C0
  have hT : ∀ w ∈ pz_T, w.before #[Value.ref b] s = true := fun w hw => hts w (pz_T_in hw).1
  have hfl := flat_of_before _ hgv
  obtain ⟨n, o, h', ev, ho, hc1, hc2⟩ := hgoal
  subst ho
  -- the classes
  have hcls : ∀ k, ∃ q : ClassId × (Nat → Nat), k < pz_NC → u_Kn s (pz_R k) (pz_F k) (pz_nf k) q.1 q.2 := by
    intro k
    by_cases hk : k < pz_NC
    · obtain ⟨-, -, hl, -, -, -, -, hi, -⟩ := pz_co k hk
      obtain ⟨cC, iS, hu⟩ := u_known hT hl (hT _ hi)
      exact ⟨(cC, iS), fun _ => hu⟩
    · exact ⟨(0, fun _ => 0), fun h => absurd h hk⟩
  obtain ⟨F, hF⟩ := Classical.axiomOfChoice hcls
  obtain ⟨tI, kI, cI, i1, i2, i3⟩ := Cond.arrayClass_spec (hT _ pz_T_aI)
  obtain ⟨tL, kL, cL, l1, l2, l3⟩ := Cond.arrayClass_spec (hT _ pz_T_aL)
  have hAO : va_AO (pz_R pz_nodeC) s := va_AO.of (hts (.arrayOver (.object (pz_R pz_nodeC))) (by decide +kernel))
  obtain ⟨cN, tN, kN, n1, n2, n3, n4, n5⟩ := Cond.arrayOver_spec hAO
  have hK : va_K (fun k => (F k).1, fun k => (F k).2) pz_cls (pz_tys (fun j => if j = 0 then tI else if j = 1 then tL else tN)) s := by
    refine ⟨fun k q hq => ?_, fun k q hq => ?_⟩
    · have hk : k < pz_NC := by
        have := (List.getElem?_eq_some_iff.mp hq).1
        simpa [pz_cls] using this
      have h2 := (pz_co k hk).1
      cases Option.some.inj (hq.symm.trans h2)
      exact hF k hk
    · match k, hq with
      | 0, hq => cases hq; exact ⟨fun N z => ⟨(fun k h => by cases h), kI, i2, cI, i3⟩, i1⟩
      | 1, hq => cases hq; exact ⟨fun N z => ⟨(fun k h => by cases h), kL, l2, cL, l3⟩, l1⟩
      | 2, hq => cases hq; exact ⟨fun N z => ⟨(fun k h => by cases h), kN, n3, cN, n4⟩, kN, cN, n3, n4, n1, n5⟩
      | j + 3, hq => cases hq
  have hA0 : ∀ a : Nat, a < s.heap.size → ¬ (fun q : Nat => s.heap.size ≤ q) a := fun a h1 h2 => absurd h2 (Nat.not_le.mpr h1)
  have Y : pz_Cy s (fun q => s.heap.size ≤ q) := by
    refine ⟨⟨pz_Z1_of (hts _ (by decide +kernel)) (hfl _ (by decide +kernel)) hA0, pz_Z1_of (hts _ (by decide +kernel)) (hfl _ (by decide +kernel)) hA0⟩, hAO, fun q hq => va_Nw.of rfl (hts _ (pz_NL_in q hq)), fun w hw => va_Nw.of (pz_CW_ok w hw).1 (hts w (of_decide_eq_true (List.all_eq_true.mp pz_CW_in w hw))), va_Nc.of (hfl _ (by decide +kernel))⟩
  have X : pz_Cx p l s m #[Value.ref b] meth c 148 (fun k => (F k).1, fun k => (F k).2) (fun j => if j = 0 then tI else if j = 1 then tL else tN) (fun q => s.heap.size ≤ q) b L (fun k => (xs k).toInt) := by
    have hmi : pz_min 148 = true → meth.name = "<init>" := fun q => by rw [pz_lb.2.2.1] at q; cases q
    refine ⟨hx, hb, hml, hown, hT, hmi, hK, fun q hq => hq, ?_, hbl, hA0 b hbl⟩
    have he : (fun k => Int32.ofInt ((xs k).toInt)) = xs := funext fun k => Int32.ofInt_toInt _
    rw [he]
    exact hX
  have hl := lv_entry ([Value.ref b]) (n := 7) (Nat.le_of_ble_eq_true rfl)
  have hw0 : ∀ tc : Nat → ClassId, pz_w (fun _ => b) tc (pz_h0 L (fun k => (xs k).toInt)) = [] := fun tc => rfl
  have hP0 : va_P (fun k => (F k).1, fun k => (F k).2) pz_cls (pz_w (fun _ => b) (fun j => if j = 0 then tI else if j = 1 then tL else tN) (pz_h0 L (fun k => (xs k).toInt))) s.heap := by
    rw [hw0]
    intro k q hq
    simp at hq
  have hD0 : va_D (fun q => s.heap.size ≤ q) (pz_w (fun _ => b) (fun j => if j = 0 then tI else if j = 1 then tL else tN) (pz_h0 L (fun k => (xs k).toInt))) := by
    rw [hw0]
    exact ⟨fun i j p q hp => by simp at hp, fun k q hq => by simp at hq⟩
  have hwf0 : pz_wf L (pz_h0 L (fun k => (xs k).toInt)) := by
    refine ⟨fun a k => ?_, fun a k r hr => ?_, rfl, fun a N ha => ?_⟩
    · show pz_in (if a = 0 then (xs k).toInt else 0) = true
      split
      · exact pz_in_toInt _
      · decide
    · have hr : (none : Option Nat) = some r := hr
      cases hr
    · have h8 : a < [(103, L)].length := (List.getElem?_eq_some_iff.mp ha).1
      have h9 : a < 1 := h8
      omega
  have hL0 : ∀ q ∈ [((0 : Nat), (.inr (.inr (some 0)) : pz_V))], pz_wv 1 q.2 := by
    intro q hq
    have hq : q = (0, .inr (.inr (some 0))) := by simpa using hq
    subst hq
    intro x hx
    cases hx
    exact Nat.zero_lt_one
  have w := pz_runL (p := p) (e := e) (R := room_1) (s := s) (mm := m) (below := below) (ad0 := fun _ => b) (h0 := pz_h0 L (fun k => (xs k).toInt)) hlt n 30 _ _ h' ev X Y hr hlocks (by decide) (by decide) (by show h'.2.2.2.2.1 - 0 ≤ 601024; omega) (by show h'.2.2.2.2.2 - 0 ≤ 7293034; omega)
    (fun _ => b) s.heap [] _ (fun _ _ => rfl) (Nat.le_refl _) (Nat.le_refl _) (Nat.le_refl _) rfl (fun k _ => rfl) hP0 hD0 va_S.rf hwf0 (fun _ q => nomatch q) hL0 hl
  rw [lg_entry_eq]
  intro T hT0 X0
  obtain ⟨t, a1, o, b1, b2, b3, L0, b4, b5⟩ := w T hT0 X0
  obtain ⟨⟨ad', -, hov, -⟩, -⟩ := b3
  subst hov
  refine ⟨t, a1, _, b1, b2, rfl, ?_⟩
  obtain ⟨f1, f2, f3⟩ := b4
  refine ⟨f1, f2, ?_⟩
  refine f3.weaken (fun y hy hlt' => absurd (b5 y hy) (Nat.not_le.mpr hlt')) (by show h'.2.2.2.2.1 - 0 ≤ 601024; omega) (by show h'.2.2.2.2.2 - 0 ≤ 7293034; omega)
