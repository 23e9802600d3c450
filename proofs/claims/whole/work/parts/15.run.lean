/-! The run of a plain method. -/
theorem pz_step_nc {own nL : Nat} {ini : Bool} {i : Instr} {n pc : Nat} {st : List pz_V} {L : List (Nat × pz_V)} {h : pz_H} : h.2.2.2.2.1 ≤ (pz_step own nL ini i n pc st L h).2.2.2.1.2.2.2.2.1 ∧ h.2.2.2.2.2 ≤ (pz_step own nL ini i n pc st L h).2.2.2.1.2.2.2.2.2 := by
  have r : ∀ x : pz_H, x.2.2.2.2 = h.2.2.2.2 → h.2.2.2.2.1 ≤ x.2.2.2.2.1 ∧ h.2.2.2.2.2 ≤ x.2.2.2.2.2 := by
    intro x hx
    rw [hx]
    exact ⟨Nat.le_refl _, Nat.le_refl _⟩
  cases i <;> first
    | exact ⟨Nat.le_refl _, Nat.le_refl _⟩
    | (simp only [pz_step, pz_ld, pz_sto, pz_stl, pz_b2, pz_l2, pz_ls, pz_br]
       repeat' split
       all_goals first
         | exact ⟨Nat.le_refl _, Nat.le_refl _⟩
         | exact ⟨Nat.le_succ _, Nat.le_add_right _ _⟩
         | exact r _ rfl
         | exact r _ pz_pf_sh.2)
theorem pz_prim_nc {y : Nat} {as : List pz_V} {h h' : pz_H} {o : pz_O} (e : pz_prim y as h = some (o, h')) : h.2.2.2.2.1 ≤ h'.2.2.2.2.1 ∧ h.2.2.2.2.2 ≤ h'.2.2.2.2.2 := by
  unfold pz_prim at e
  cases ht : pz_thr y with
  | none => rw [ht] at e; cases e
  | some q =>
    rw [ht] at e
    dsimp only at e
    rcases as with _ | ⟨a | a | a, _ | ⟨b, r⟩⟩
    · cases e
    · cases hx : Bool.xor q.1 (decide (a = 0)) with
      | true =>
        simp only [hx, cond_true] at e
        cases e
        exact ⟨Nat.le_refl _, Nat.le_refl _⟩
      | false =>
        simp only [hx, cond_false] at e
        cases e
        exact ⟨Nat.le_succ _, Nat.le_add_right _ _⟩
    all_goals cases e
theorem pz_ev_nc {n d m : Nat} {s : pz_S} {o : pz_O} {h : pz_H} {ok : Bool} (e : pz_ev n d m s = some (o, h, ok)) : s.2.2.2.1.2.2.2.2.1 ≤ h.2.2.2.2.1 ∧ s.2.2.2.1.2.2.2.2.2 ≤ h.2.2.2.2.2 := by
  induction n generalizing d m s o h ok with
  | zero => cases e
  | succ n ih =>
    obtain ⟨pc, st, L, hp, ok0⟩ := s
    revert e
    show pz_body (pz_ev n) d m (pc, st, L, hp, ok0) = some (o, h, ok) → hp.2.2.2.2.1 ≤ h.2.2.2.2.1 ∧ hp.2.2.2.2.2 ≤ h.2.2.2.2.2
    unfold pz_body
    dsimp only
    cases pz_cd m pc with
    | none => exact fun h => nomatch h
    | some il =>
      dsimp only
      cases pz_rtn il.1 with
      | some t =>
        dsimp only
        cases pz_re (pz_mrt m) t st with
        | none => exact fun h => nomatch h
        | some vb =>
          intro e
          cases e
          exact ⟨Nat.le_refl _, Nat.le_refl _⟩
      | none =>
        dsimp only
        cases pz_inv il.1 with
        | none =>
          intro e
          have h1 := ih e
          have h2 := pz_step_nc (own := pz_mow m) (nL := pz_mL m) (ini := pz_min m) (i := il.1) (n := il.2) (pc := pc) (st := st) (L := L) (h := hp)
          exact ⟨Nat.le_trans h2.1 h1.1, Nat.le_trans h2.2 h1.2⟩
        | some kx =>
          dsimp only
          cases pz_mt (pz_mow m) kx.2 with
          | none => exact fun h => nomatch h
          | some y =>
            dsimp only
            unfold pz_call
            cases y.1 with
            | zero =>
              rcases st with _ | ⟨a | x | q, rest⟩
              · exact fun h => nomatch h
              · exact fun h => nomatch h
              · exact fun h => nomatch h
              · exact fun e => ih e
            | succ y =>
              cases d with
              | zero => exact fun h => nomatch h
              | succ d =>
                dsimp only
                intro e
                cases hs : pz_sub (pz_ev n) d kx.1 (y + 1) (pc, st, L, hp, ok0) with
                | none => rw [hs] at e; cases e
                | some r =>
                  rw [hs] at e
                  obtain ⟨o1, h1, ok1⟩ := r
                  have e1 : hp.2.2.2.2.1 ≤ h1.2.2.2.2.1 ∧ hp.2.2.2.2.2 ≤ h1.2.2.2.2.2 := by
                    revert hs
                    unfold pz_sub
                    cases pz_thr (y + 1) with
                    | none => exact fun e => ih e
                    | some q =>
                      dsimp only
                      cases hq : pz_prim (y + 1) (st.take (pz_mna (y + 1))).reverse hp with
                      | none => exact fun h => nomatch h
                      | some oh =>
                        intro e
                        cases e
                        exact pz_prim_nc hq
                  have e2 : h1.2.2.2.2.1 ≤ h.2.2.2.2.1 ∧ h1.2.2.2.2.2 ≤ h.2.2.2.2.2 := by
                    revert e
                    show pz_aft (pz_ev n) (d + 1) m (y + 1) (pc, st, L, hp, ok0) (o1, h1, ok1) = some (o, h, ok) → _
                    unfold pz_aft
                    cases o1 with
                    | inl v => exact fun e => ih e
                    | inr k =>
                      dsimp only
                      cases pz_ct m pc k with
                      | none => intro e; cases e; exact ⟨Nat.le_refl _, Nat.le_refl _⟩
                      | some c => intro e; cases e; exact ⟨Nat.le_refl _, Nat.le_refl _⟩
                  exact ⟨Nat.le_trans e1.1 e2.1, Nat.le_trans e1.2 e2.2⟩
theorem pz_ct_pl : (List.range 149).all (fun m => !pz_plain m || decide ((pz_look pz_ctL m).isNone = true)) = true := by decide +kernel
theorem pz_ct_plain {m pc k : Nat} (hm : pz_plain m = true) : pz_ct m pc k = none := by
  have h1 : m < 149 := by
    unfold pz_plain at hm
    simp only [Bool.and_eq_true, decide_eq_true_eq] at hm
    omega
  have h2 := List.all_eq_true.mp pz_ct_pl m (List.mem_range.mpr h1)
  rw [hm, Bool.not_true, Bool.false_or] at h2
  have h3 : (pz_look pz_ctL m).isNone = true := of_decide_eq_true h2
  unfold pz_ct
  cases h4 : pz_look pz_ctL m with
  | none => rfl
  | some x => rw [h4] at h3; cases h3
section pzy
variable {p : Program} {l : Launch} {e : Env} {R : Room} {s : State} {mm : MethodId} {args : Array Value} {below : List Frame} {meth : Method} {c : Code} {m : Nat} {D : va_G} {tc : Nat → ClassId} {A : Nat → Prop} {b n0 : Nat} {xs : Nat → Int} {ad0 : Nat → Nat} {h0 : pz_H}
-- not caught here
theorem pz_out {ad' : Nat → Nat} {H : Heap} {locs : List Loc} {ls : Array Slot} {pc k : Nat} {z : Addr} {ce : Cell} {rest : List Value} {h' : pz_H} (hex : c.exceptionTable.isEmpty = true) (hlocks : meth.locks = false) (haft : pz_Aft D tc n0 xs ad0 ad' h0 h' A H) (hS : va_S A s.heap H locs) (hce : H[z]? = some ce) (hvm : ce.vm = .none) (hcl : s.vm.findClass (pz_exc k) = some ce.cls) :
    pz_Wx p l e R s mm args below meth c H locs (h'.2.2.2.2.1 - h0.2.2.2.2.1) (h'.2.2.2.2.2 - h0.2.2.2.2.2) (pz_End below args s D tc n0 xs ad0 h0 A (.inr k) h') (F0 mm pc ls rest) z := by
  intro T hT X
  obtain ⟨st1, hrun, hend, hW, hsm⟩ := X.leaveThrown z (g := F0 mm pc ls rest) rfl rfl rfl (fun x hx => by
    have h1 : c.exceptionTable.toList = [] := by simpa using hex
    rw [h1] at hx
    cases hx) hlocks
  have hH : (T.setFrames (.throwing z :: below)).heap = H := hT
  exact ⟨_, st1, .threw z, hrun, hend, ⟨z, ce, ad', locs, rfl, by rw [hH]; exact haft, by rw [hH]; exact hce, hvm, hcl, hW, hsm, hS.2.2⟩, hS.F hH⟩
set_option maxHeartbeats 4000000 in
theorem pz_run (hlt : l.stackTraces = false) : ∀ (n d m : Nat) (x : pz_S) (o : pz_O) (h' : pz_H), pz_ev n d m x = some (o, h', true) → pz_plain m = true → pz_thr m = none → ∀ (p : Program) (e : Env) (R : Room) (s : State) (mm : MethodId) (args : Array Value) (below : List Frame) (meth : Method) (c : Code) (D : va_G) (tc : Nat → ClassId) (A : Nat → Prop) (b n0 : Nat) (xs : Nat → Int) (ad0 : Nat → Nat) (h0 : pz_H),
    pz_Cx p l s mm args meth c m D tc A b n0 xs → pz_Cy s A → meth.sig.returnType = pz_rT m → meth.locks = false → c.exceptionTable.isEmpty = true → 10 + d ≤ R.frames → 200 + 100 * d ≤ R.locals → h'.2.2.2.2.1 - h0.2.2.2.2.1 ≤ R.cells → h'.2.2.2.2.2 - h0.2.2.2.2.2 ≤ R.slots →
    pz_PW p l e R s mm args below meth c m D tc A b n0 xs ad0 h0 (pz_End below args s D tc n0 xs ad0 h0 A o h') x := by
  intro n
  induction n with
  | zero => intro d m x o h' ev; cases ev
  | succ n ih =>
    intro d m x o h' ev hpl hth p e R s mm args below meth c D tc A b n0 xs ad0 h0 X Y hr hlocks hex hRf hRl hRc hRs
    obtain ⟨pc, st, L, h, ok⟩ := x
    have hok := pz_ev_ok ev
    have hok : ok = true := hok
    subst hok
    have ev : pz_body (pz_ev n) d m (pc, st, L, h, true) = some (o, h', true) := ev
    unfold pz_body at ev
    dsimp only at ev
    cases hc : pz_cd m pc with
    | none => rw [hc] at ev; cases ev
    | some il =>
      rw [hc] at ev
      dsimp only at ev
      obtain ⟨i, len⟩ := il
      obtain ⟨hd, hlen⟩ := pz_dec hc
      dsimp only at ev hlen
      obtain ⟨hx, hb, hml, hown, hts, hini, hK, hA, hX, hbl, hbA⟩ := id X
      cases hrt : pz_rtn i with
      | some t =>
        rw [hrt] at ev
        dsimp only at ev
        have hl1 : len = 1 := by
          refine pz_lenq hlen ?_ (by decide)
          unfold pz_rtn at hrt
          split at hrt <;> first | rfl | cases hrt
        subst hl1
        cases hv : pz_re (pz_mrt m) t st with
        | none => rw [hv] at ev; cases ev
        | some vb =>
          rw [hv] at ev
          obtain ⟨v, vb2⟩ := vb
          have ev : some ((.inl v : pz_O), h, (true && vb2)) = some (o, h', true) := ev
          simp only [Option.some.injEq, Prod.mk.injEq, Bool.true_and] at ev
          obtain ⟨rfl, rfl, rfl⟩ := ev
          exact pz_s_ret hx hb hd hr (pz_mo hpl).2.2.2.2.2.2.1 hlocks hrt hv
      | none =>
        rw [hrt] at ev
        dsimp only at ev
        cases hi : pz_inv i with
        | none =>
          rw [hi] at ev
          dsimp only at ev
          have h1 := pz_ev_ok ev
          have h1 : (true && (pz_step (pz_mow m) (pz_mL m) (pz_min m) i len pc st L h).2.2.2.2) = true := h1
          rw [Bool.true_and] at h1
          have h2 := pz_ev_nc ev
          have h2 : (pz_step (pz_mow m) (pz_mL m) (pz_min m) i len pc st L h).2.2.2.1.2.2.2.2.1 ≤ h'.2.2.2.2.1 ∧ (pz_step (pz_mow m) (pz_mL m) (pz_min m) i len pc st L h).2.2.2.1.2.2.2.2.2 ≤ h'.2.2.2.2.2 := h2
          exact pz_step_sound X Y.2.1 hd hlen h1 (by omega) (by omega) (ih d m _ o h' ev hpl hth p e R s mm args below meth c D tc A b n0 xs ad0 h0 X Y hr hlocks hex hRf hRl hRc hRs)
        | some kx =>
          rw [hi] at ev
          dsimp only at ev
          obtain ⟨kd, idx⟩ := kx
          dsimp only at ev
          have hl3 : len = 3 := by
            rcases pz_inv_is hi with ⟨rfl, -⟩ | ⟨rfl, -⟩ | ⟨rfl, -⟩ <;> exact pz_lenq hlen rfl (by decide)
          subst hl3
          cases hm : pz_mt (pz_mow m) idx with
          | none => rw [hm] at ev; cases ev
          | some q =>
            rw [hm] at ev
            dsimp only at ev
            unfold pz_call at ev
            cases hq : q.1 with
            | zero =>
              rw [hq] at ev
              dsimp only at ev
              rcases st with _ | ⟨a | a | r, rest⟩
              · cases ev
              · cases ev
              · cases ev
              · have h1 := pz_ev_ok ev
                have h1 : (true && (decide (kd = 1) && (r.isSome && decide ((rest.map pz_cat).sum ≤ 8)))) = true := h1
                simp only [Bool.true_and, Bool.and_eq_true, decide_eq_true_eq] at h1
                obtain ⟨rfl, hr1, hr2⟩ := h1
                have hii : i = .invokespecial idx := by
                  rcases pz_inv_is hi with ⟨-, h9⟩ | ⟨h9, -⟩ | ⟨-, h9⟩
                  · cases h9
                  · exact h9
                  · cases h9
                subst hii
                exact pz_s_obj X hd hm hq hr1 (by omega) (by omega) hr2 (ih d m _ o h' ev hpl hth p e R s mm args below meth c D tc A b n0 xs ad0 h0 X Y hr hlocks hex hRf hRl hRc hRs)
            | succ y =>
              rw [hq] at ev
              dsimp only at ev
              have hq0 : q.1 ≠ 0 := by rw [hq]; exact Nat.succ_ne_zero y
              have hply : pz_plain (y + 1) = true := by rw [← hq]; exact pz_pl hpl hm hq0
              cases d with
              | zero => cases ev
              | succ d =>
                dsimp only at ev
                cases hs : pz_sub (pz_ev n) d kd (y + 1) (pc, st, L, h, true) with
                | none => rw [hs] at ev; cases ev
                | some r =>
                  rw [hs] at ev
                  obtain ⟨o1, h1, ok1⟩ := r
                  have ev : pz_aft (pz_ev n) (d + 1) m (y + 1) (pc, st, L, h, true) (o1, h1, ok1) = some (o, h', true) := ev
                  -- the callee's end
                  have hok1 : ok1 = true := by
                    unfold pz_aft at ev
                    cases o1 with
                    | inl v => exact pz_ev_ok ev
                    | inr k =>
                      dsimp only at ev
                      rw [pz_ct_plain hpl] at ev
                      have e2 := congrArg (fun x => x.2.2) (Option.some.inj ev)
                      dsimp only at e2
                      exact (Bool.and_eq_true_iff.mp e2).1
                  subst hok1
                  have hcok : pz_cok kd (y + 1) st h = true ∧ h.2.2.2.2.1 ≤ h1.2.2.2.2.1 ∧ h.2.2.2.2.2 ≤ h1.2.2.2.2.2 ∧ ∀ (ad : Nat → Nat) (sz : Nat), pz_wf n0 h → (∀ v ∈ (st.take (pz_mna (y + 1))).reverse, pz_wv h.1.length v) → ad 0 = b → (∀ k, k < n0 → h.2.1 0 k = xs k) → pz_Mt l (y + 1) d D tc b n0 xs ad (st.take (pz_mna (y + 1))).reverse h sz o1 h1 := by
                    revert hs
                    unfold pz_sub
                    cases hthy : pz_thr (y + 1) with
                    | some t =>
                      dsimp only
                      cases hpr : pz_prim (y + 1) (st.take (pz_mna (y + 1))).reverse h with
                      | none => exact fun h => nomatch h
                      | some oh =>
                        intro hs
                        obtain ⟨o2, h2⟩ := oh
                        have hs : some (o2, h2, (true && pz_cok kd (y + 1) st h)) = some (o1, h1, true) := hs
                        simp only [Option.some.injEq, Prod.mk.injEq, Bool.true_and] at hs
                        obtain ⟨rfl, rfl, hk⟩ := hs
                        exact ⟨hk, (pz_prim_nc hpr).1, (pz_prim_nc hpr).2, fun ad sz hwf has _ hxs => pz_prims hlt hthy hwf hxs has hpr⟩
                    | none =>
                      dsimp only
                      intro hs
                      have hk := pz_ev_ok hs
                      have hk : (true && pz_cok kd (y + 1) st h) = true := hk
                      rw [Bool.true_and] at hk
                      have hnc := pz_ev_nc hs
                      have hnc : h.2.2.2.2.1 ≤ h1.2.2.2.2.1 ∧ h.2.2.2.2.2 ≤ h1.2.2.2.2.2 := hnc
                      refine ⟨hk, hnc.1, hnc.2, fun ad sz hwf has hb0 hxs => ?_⟩
                      refine pz_met hply ?_ (fun p2 e2 s2 mm2 below2 meth2 c2 ls X2 Y2 hr2 hlk2 hex2 hP2 hD2 hl2 => ?_)
                      · unfold pz_cok at hk
                        simp only [Bool.and_eq_true, decide_eq_true_eq] at hk
                        have h9 := hk.2.2.2.1
                        rw [List.map_reverse, List.sum_reverse]
                        exact h9
                      · have w := ih d (y + 1) _ o1 h1 hs hply hthy p2 e2 (pz_rm d (h1.2.2.2.2.1 - h.2.2.2.2.1) (h1.2.2.2.2.2 - h.2.2.2.2.2)) s2 mm2 _ below2 meth2 c2 D tc _ b n0 xs ad h X2 Y2 hr2 hlk2 hex2 (Nat.le_refl _) (Nat.le_refl _) (Nat.le_refl _) (Nat.le_refl _) ad s2.heap [] ls (fun _ _ => rfl) (Nat.le_refl _) (Nat.le_refl _) (Nat.le_refl _) hb0 hxs hP2 hD2 va_S.rf hwf (fun _ q => nomatch q) (fun q hq => has q.2 (pz_args_in q hq)) hl2
                        have e9 : h.2.2.2.2.1 - h.2.2.2.2.1 = 0 := by omega
                        have e8 : h.2.2.2.2.2 - h.2.2.2.2.2 = 0 := by omega
                        have w : W p2 l e2 (pz_rm d (h1.2.2.2.2.1 - h.2.2.2.2.1) (h1.2.2.2.2.2 - h.2.2.2.2.2)) s2 mm2 _ below2 meth2 c2 s2.heap [] (h.2.2.2.2.1 - h.2.2.2.2.1) (h.2.2.2.2.2 - h.2.2.2.2.2) _ (F0 mm2 0 ls []) := w
                        rw [e9, e8] at w
                        exact w
                  obtain ⟨hcok, hn1, hn2, hMt⟩ := hcok
                  unfold pz_aft at ev
                  cases o1 with
                  | inl v =>
                    dsimp only at ev
                    have hnc := pz_ev_nc ev
                    have hnc : h1.2.2.2.2.1 ≤ h'.2.2.2.2.1 ∧ h1.2.2.2.2.2 ≤ h'.2.2.2.2.2 := hnc
                    exact pz_s_call (d := d) (v := v) (h' := h1) X Y hd hi hm hq (Nat.succ_ne_zero y) hply hcok (by omega) (by omega) rfl rfl (by omega) (by omega) hn1 hn2 (fun ad sz hwf has hb0 hxs => hMt ad sz hwf has hb0 hxs)
                      (ih (d + 1) m _ o h' ev hpl hth p e R s mm args below meth c D tc A b n0 xs ad0 h0 X Y hr hlocks hex hRf hRl hRc hRs)
                  | inr k =>
                    dsimp only at ev
                    rw [pz_ct_plain hpl] at ev
                    have ev : some ((.inr k : pz_O), h1, (true && (decide (pz_mkd (y + 1) ≠ 1) && decide (pz_a (y + 1) 10 = 0)))) = some (o, h', true) := ev
                    simp only [Option.some.injEq, Prod.mk.injEq, Bool.true_and, Bool.and_eq_true, decide_eq_true_eq] at ev
                    obtain ⟨rfl, rfl, hk1, -⟩ := ev
                    have hkk : kd ≠ 1 := by
                      have h9 := hcok
                      unfold pz_cok at h9
                      simp only [Bool.and_eq_true, decide_eq_true_eq] at h9
                      rw [h9.1]
                      exact hk1
                    intro ad H locs ls a1 a2 a3 a4 a5 a6 hP hD hS hwf hst hL hl
                    have a2 : h0.1.length ≤ h.1.length := a2
                    have a3 : h0.2.2.2.2.1 ≤ h.2.2.2.2.1 := a3
                    have a4 : h0.2.2.2.2.2 ≤ h.2.2.2.2.2 := a4
                    have hA1 : ∀ z, va_A (pz_w ad tc h) H.size z → A z := by
                      intro z hz
                      rcases hz with ⟨j, E, hj⟩ | hz
                      · exact hD.2 j (z, E) hj
                      · exact hA z (Nat.le_trans hS.1 hz)
                    refine pz_x_call (d := d) (k := k) (h' := h1) X Y hd hi hm hq (Nat.succ_ne_zero y) hply hcok hkk (by omega) (by omega) (by show h.2.2.2.2.1 - h0.2.2.2.2.1 + _ ≤ _; omega) (by show h.2.2.2.2.2 - h0.2.2.2.2.2 + _ ≤ _; omega) hP hD hS hwf hl.1 (hMt ad H.size hwf (fun v hv => hst v (List.mem_of_mem_take (List.mem_reverse.mp hv))) a5 a6) (fun ad' H1 locs1 z ce haft hS1 hce hvm hcl => ?_)
                    obtain ⟨f1, f2, f3, f4, f5, f6, f7, f8⟩ := haft
                    have w := pz_out (p := p) (l := l) (e := e) (R := R) (mm := mm) (args := args) (below := below) (ls := ls) (pc := pc) (rest := (st.drop (pz_mna (y + 1))).map (pz_v ad)) (k := k) (h0 := h0) (ad0 := ad0) (ad' := ad') (h' := h1) hex hlocks ⟨fun z hz => (f1 z (Nat.lt_of_lt_of_le hz a2)).trans (a1 z hz), f2, f3.weaken (fun _ z _ hz => hA1 z.1 hz), Nat.le_trans a2 f4, Nat.le_trans a3 f5, Nat.le_trans a4 f6, f7, f8⟩ hS1 hce hvm hcl
                    have e5 : h1.2.2.2.2.1 - h0.2.2.2.2.1 = h.2.2.2.2.1 - h0.2.2.2.2.1 + (h1.2.2.2.2.1 - h.2.2.2.2.1) := by omega
                    have e6 : h1.2.2.2.2.2 - h0.2.2.2.2.2 = h.2.2.2.2.2 - h0.2.2.2.2.2 + (h1.2.2.2.2.2 - h.2.2.2.2.2) := by omega
                    rw [e5, e6] at w
                    exact w
end pzy
