/-! Runs of the law's small methods. -/
section pzq
variable {p : Program} {l : Launch} {e : Env} {R : Room} {s : State} {mm : MethodId} {args : Array Value} {below : List Frame} {meth : Method} {c : Code} {m : Nat} {D : va_G} {tc : Nat → ClassId} {A : Nat → Prop} {b n0 : Nat} {xs : Nat → Int} {ad0 : Nat → Nat} {h0 : pz_H}
-- a plain callee
theorem pz_callee (hlt : l.stackTraces = false) {n d kd y pc : Nat} {st : List pz_V} {L : List (Nat × pz_V)} {h h1 : pz_H} {o1 : pz_O} (hply : pz_plain (y + 1) = true) (hs : pz_sub (pz_ev n) d kd (y + 1) (pc, st, L, h, true) = some (o1, h1, true)) :
    pz_cok kd (y + 1) st h = true ∧ h.2.2.2.2.1 ≤ h1.2.2.2.2.1 ∧ h.2.2.2.2.2 ≤ h1.2.2.2.2.2 ∧ ∀ (ad : Nat → Nat) (sz : Nat), pz_wf n0 h → (∀ v ∈ (st.take (pz_mna (y + 1))).reverse, pz_wv h.1.length v) → ad 0 = b → (∀ k, k < n0 → h.2.1 0 k = xs k) → pz_Mt l (y + 1) d D tc b n0 xs ad (st.take (pz_mna (y + 1))).reverse h sz o1 h1 := by
  revert hs
  unfold pz_sub
  cases hthy : pz_thr (y + 1) with
  | some t =>
    dsimp only
    cases hpr : pz_prim (y + 1) (st.take (pz_mna (y + 1))).reverse h with
    | none => exact fun h => nomatch h
    | some oh =>
      intro hs
      obtain ⟨o2, h2⟩ := oh
      have hs : some (o2, h2, (true && pz_cok kd (y + 1) st h)) = some (o1, h1, true) := hs
      simp only [Option.some.injEq, Prod.mk.injEq, Bool.true_and] at hs
      obtain ⟨rfl, rfl, hk⟩ := hs
      exact ⟨hk, (pz_prim_nc hpr).1, (pz_prim_nc hpr).2, fun ad sz hwf has _ hxs => pz_prims hlt hthy hwf hxs has hpr⟩
  | none =>
    dsimp only
    intro hs
    have hk := pz_ev_ok hs
    have hk : (true && pz_cok kd (y + 1) st h) = true := hk
    rw [Bool.true_and] at hk
    have hnc := pz_ev_nc hs
    have hnc : h.2.2.2.2.1 ≤ h1.2.2.2.2.1 ∧ h.2.2.2.2.2 ≤ h1.2.2.2.2.2 := hnc
    refine ⟨hk, hnc.1, hnc.2, fun ad sz hwf has hb0 hxs => ?_⟩
    refine pz_met hply ?_ (fun p2 e2 s2 mm2 below2 meth2 c2 ls X2 Y2 hr2 hlk2 hex2 hP2 hD2 hl2 => ?_)
    · unfold pz_cok at hk
      simp only [Bool.and_eq_true, decide_eq_true_eq] at hk
      have h9 := hk.2.2.2.1
      rw [List.map_reverse, List.sum_reverse]
      exact h9
    · have w := pz_run hlt n d (y + 1) _ o1 h1 hs hply hthy p2 e2 (pz_rm d (h1.2.2.2.2.1 - h.2.2.2.2.1) (h1.2.2.2.2.2 - h.2.2.2.2.2)) s2 mm2 _ below2 meth2 c2 D tc _ b n0 xs ad h X2 Y2 hr2 hlk2 hex2 (Nat.le_refl _) (Nat.le_refl _) (Nat.le_refl _) (Nat.le_refl _) ad s2.heap [] ls (fun _ _ => rfl) (Nat.le_refl _) (Nat.le_refl _) (Nat.le_refl _) hb0 hxs hP2 hD2 va_S.rf hwf (fun _ q => nomatch q) (fun q hq => has q.2 (pz_args_in q hq)) hl2
      have e9 : h.2.2.2.2.1 - h.2.2.2.2.1 = 0 := by omega
      have e8 : h.2.2.2.2.2 - h.2.2.2.2.2 = 0 := by omega
      have w : W p2 l e2 (pz_rm d (h1.2.2.2.2.1 - h.2.2.2.2.1) (h1.2.2.2.2.2 - h.2.2.2.2.2)) s2 mm2 _ below2 meth2 c2 s2.heap [] (h.2.2.2.2.1 - h.2.2.2.2.1) (h.2.2.2.2.2 - h.2.2.2.2.2) _ (F0 mm2 0 ls []) := w
      rw [e9, e8] at w
      exact w
def pz_WO (m : Nat) : Prop := Cond.codeWith (pz_y m) (pz_b m) (pz_mL m) (pz_rT m) (pz_hd m) ∈ pz_T ∧ Cond.initialized (pz_y m).cls ∈ pz_T ∧ Cond.static (pz_y m) ∈ pz_T ∧ (pz_y m).cls = pz_R (pz_mow m) ∧ plainName (pz_y m).cls = true ∧ ((pz_y m).cls ≠ "java/lang/invoke/MethodHandle" ∧ (pz_y m).cls ≠ "java/lang/invoke/VarHandle") ∧ pz_mL m ≤ 70 ∧ pz_rok (pz_mrt m) (pz_rT m) ∧ (parseMethodDescriptor (pz_y m).desc).map (fun d => d.parameters.length) = some (pz_mna m) ∧
  pz_mow m = 11 ∧ pz_mkd m = 2 ∧ pz_min m = false ∧ pz_rT m = some .int ∧ pz_thr m = none ∧ pz_a m 10 = 1 ∧ ∀ e ∈ (pz_m m).2.2.2.2, ∀ kx, pz_inv e.2.1 = some kx → e.1 = pz_hc m ∧ kx.1 = 0 ∧ ∀ q, pz_mt 11 kx.2 = some q → pz_plain q.1 = true
theorem pz_wo (hm : pz_wrap m = true) : pz_WO m := by
  obtain ⟨x, hx⟩ := Option.isSome_iff_exists.mp hm
  have h1 := List.all_eq_true.mp pz_wB_all m (List.mem_map.mpr ⟨(m, x), pz_look_in hx, rfl⟩)
  unfold pz_wB at h1
  simp only [Bool.and_eq_true, decide_eq_true_eq] at h1
  obtain ⟨a1, a2, a3, a4, a5, a6, a7, a8, a9, a10, a11, a12, a13, a14, a15, a16, a17⟩ := h1
  refine ⟨pz_ck_in a1, pz_ck_in a2, pz_ck_in a3, a4, a5, ⟨a6, a7⟩, a8, pz_rokb_ok a9, a10, a11, a12, a13, a14, a15, a16, fun e he kx hk => ?_⟩
  have h2 := List.all_eq_true.mp a17 e he
  rw [hk] at h2
  simp only [Bool.and_eq_true, decide_eq_true_eq] at h2
  refine ⟨h2.1, h2.2.1, fun q hq => ?_⟩
  have h3 := h2.2.2
  rw [hq] at h3
  exact h3
-- the row of a small method's table that takes an exception of kind k
theorem pz_taken (hm : pz_wrap m = true) {pc k : Nat} {cv : Int} (hct : pz_ct m pc k = some cv) : ∃ (j loc ln ps : Nat), pz_wrB (m, k, cv, j, loc, ln, ps) = true := by
  unfold pz_ct at hct
  cases h1 : pz_look pz_ctL m with
  | none => rw [h1] at hct; cases hct
  | some E =>
    rw [h1] at hct
    have h2 := List.all_eq_true.mp pz_wr_ct _ (pz_look_in h1)
    have h3 := List.all_eq_true.mp h2 _ (pz_look_in hct)
    obtain ⟨r, hr, h4⟩ := List.any_eq_true.mp h3
    simp only [Bool.and_eq_true, decide_eq_true_eq] at h4
    obtain ⟨e1, e2, e3⟩ := h4
    obtain ⟨r1, r2, r3, j, loc, ln, ps⟩ := r
    dsimp only at e1 e2 e3
    subst e1 e2 e3
    exact ⟨j, loc, ln, ps, List.all_eq_true.mp pz_wr_all _ hr⟩
theorem pz_s_taken {ad' : Nat → Nat} {H : Heap} {locs : List Loc} {ls : Array Slot} {lv : List (Nat × Value)} {k pc : Nat} {cv : Int} {z : Addr} {ce : Cell} {rest : List Value} {h' : pz_H} (hm : pz_wrap m = true) (X : pz_Cx p l s mm args meth c m D tc A b n0 xs) (Y : pz_Cy s A) (hr : meth.sig.returnType = pz_rT m) (hlocks : meth.locks = false) (hex : c.exceptionTable.toList.map (fun h => (h.startPc, h.endPc, h.handlerPc, h.catchType)) = pz_hd m) (hct : pz_ct m pc k = some cv) (hpc : pc = pz_hc m) (hl : lv_has ls (pz_mL m) lv)
    (haft : pz_Aft D tc n0 xs ad0 ad' h0 h' A H) (hS : va_S A s.heap H locs) (hce : H[z]? = some ce) (hvm : ce.vm = .none) (hcl : s.vm.findClass (pz_exc k) = some ce.cls) :
    pz_Wx p l e R s mm args below meth c H locs (h'.2.2.2.2.1 - h0.2.2.2.2.1) (h'.2.2.2.2.2 - h0.2.2.2.2.2) (pz_End below args s D tc n0 xs ad0 h0 A (.inl (some (.inl cv))) h') (F0 mm pc ls rest) z := by
  obtain ⟨hx, hb, hml, hown, hts, hini, hK, hA, hX, hbl, hbA⟩ := X
  obtain ⟨w1, w2, w3, w4, w5, w6, w7, w8, w9, w10, w11, w12, w13, w14, w15, w16⟩ := pz_wo hm
  rw [w10] at hown
  obtain ⟨j, loc, ln, ps, hB⟩ := pz_taken hm hct
  unfold pz_wrB at hB
  dsimp only at hB
  cases hj : (pz_hd m)[j]? with
  | none => rw [hj] at hB; cases hB
  | some x =>
    rw [hj] at hB
    simp only [Bool.and_eq_true, decide_eq_true_eq] at hB
    obtain ⟨-, b2, b3, b4, b5, b6, b7, b8, b9, b10, b11, b12⟩ := hB
    have hx9 : ∃ X9 : ExceptionTableEntry, c.exceptionTable.toList[j]? = some X9 ∧ (X9.startPc, X9.endPc, X9.handlerPc, X9.catchType) = x := by
      rw [← hex, List.getElem?_map] at hj
      cases h9 : c.exceptionTable.toList[j]? with
      | none => rw [h9] at hj; cases hj
      | some X9 => rw [h9] at hj; exact ⟨X9, rfl, Option.some.inj hj⟩
    obtain ⟨X9, hX9, rfl⟩ := hx9
    dsimp only at b3 b4 b5 b6 b8 b9 b10
    -- behind the catch
    have back : W p l e R s mm args below meth c H locs (h'.2.2.2.2.1 - h0.2.2.2.2.1) (h'.2.2.2.2.2 - h0.2.2.2.2.2) (pz_End below args s D tc n0 xs ad0 h0 A (.inl (some (.inl cv))) h') (F0 mm X9.handlerPc ls [.ref z]) := by
      have tl : ∀ ls' : Array Slot, W p l e R s mm args below meth c H locs (h'.2.2.2.2.1 - h0.2.2.2.2.1) (h'.2.2.2.2.2 - h0.2.2.2.2.2) (pz_End below args s D tc n0 xs ad0 h0 A (.inl (some (.inl cv))) h') (F0 mm (X9.handlerPc + ln) ls' []) := by
        intro ls'
        refine lv_iconst hx hb b9 rfl ?_
        exact W.iret hx hb (hr.trans w13) (fun t ht _ => ⟨⟨ad', by rw [ht]; exact haft, rfl, fun u hu => by cases hu; exact b2⟩, hS.F ht⟩) hS.2.2 b10 hlocks
      by_cases hln : ln = 1
      · rw [if_pos hln, decide_eq_true_eq] at b8
        subst hln
        exact lv_astore_n hx hb b8.2 (by show (Fin.ofNat 4 loc).val = loc; exact Nat.mod_eq_of_lt b8.1) hl b11 rfl (fun ls' _ => tl ls')
      · rw [if_neg hln, decide_eq_true_eq] at b8
        obtain ⟨rfl, b8⟩ := b8
        exact lv_astore hx hb b8 hl b11 rfl (fun ls' _ => tl ls')
    have hcov : covers X9 pc = true := by
      unfold covers
      rw [hpc, decide_eq_true b3, decide_eq_true b4]
      rfl
    have hcast : (Cond.castable (pz_exc k) (pz_exc k)).before args s = true := va_Nw.use (pz_CW_ok _ b7).1 (Y.2.2.2.1 _ b7)
    rw [Bool.or_eq_true] at b12
    rcases b12 with b12 | b12
    · have hj0 : j = 0 := of_decide_eq_true b12
      subst hj0
      cases hT : c.exceptionTable.toList with
      | nil => rw [hT] at hX9; cases hX9
      | cons a r =>
        rw [hT] at hX9
        have ha : a = X9 := Option.some.inj hX9
        subst ha
        exact pz_catch hown [] a r hT (fun y hy => nomatch hy) hcov b5 (hts _ (pz_ck_in b6)) hcast hce hvm hcl back
    · simp only [Bool.and_eq_true, decide_eq_true_eq] at b12
      obtain ⟨hj1, hk2, b13⟩ := b12
      subst hj1 hk2
      cases hz : (pz_hd m)[0]? with
      | none => rw [hz] at b13; cases b13
      | some y =>
        rw [hz] at b13
        simp only [Bool.and_eq_true, decide_eq_true_eq] at b13
        obtain ⟨c1, c2, c3, c4⟩ := b13
        obtain ⟨r2, -, c5⟩ := List.any_eq_true.mp c4
        simp only [Bool.and_eq_true, decide_eq_true_eq] at c5
        cases hT : c.exceptionTable.toList with
        | nil => rw [hT] at hX9; cases hX9
        | cons a r =>
          cases r with
          | nil => rw [hT] at hX9; cases hX9
          | cons a2 r =>
            rw [hT] at hX9
            have ha : a2 = X9 := Option.some.inj hX9
            subst ha
            have hy : (a.startPc, a.endPc, a.handlerPc, a.catchType) = y := by
              rw [← hex, hT] at hz
              exact Option.some.inj hz
            subst hy
            dsimp only at c1 c2 c3 c5
            refine pz_catch hown [a] a2 r hT (fun y hy => ?_) hcov b5 (hts _ (pz_ck_in b6)) hcast hce hvm hcl back
            have hy : y = a := by simpa using hy
            subst hy
            refine ⟨?_, c3, _, hts _ (pz_ck_in c5.2.2), Y.2.2.2.2⟩
            unfold covers
            rw [hpc, decide_eq_true c1, decide_eq_true c2]
            rfl
set_option maxHeartbeats 4000000 in
theorem pz_runW (hlt : l.stackTraces = false) (hm : pz_wrap m = true) : ∀ (n d : Nat) (x : pz_S) (v : Option pz_V) (h' : pz_H), pz_ev n d m x = some (.inl v, h', true) →
    pz_Cx p l s mm args meth c m D tc A b n0 xs → pz_Cy s A → meth.sig.returnType = pz_rT m → meth.locks = false → c.exceptionTable.toList.map (fun h => (h.startPc, h.endPc, h.handlerPc, h.catchType)) = pz_hd m → 10 + d ≤ R.frames → 200 + 100 * d ≤ R.locals → h'.2.2.2.2.1 - h0.2.2.2.2.1 ≤ R.cells → h'.2.2.2.2.2 - h0.2.2.2.2.2 ≤ R.slots →
    pz_PW p l e R s mm args below meth c m D tc A b n0 xs ad0 h0 (pz_End below args s D tc n0 xs ad0 h0 A (.inl v) h') x := by
  obtain ⟨w1, w2, w3, w4, w5, w6, w7, w8, w9, w10, w11, w12, w13, w14, w15, w16⟩ := pz_wo hm
  intro n
  induction n with
  | zero => intro d x v h' ev; cases ev
  | succ n ih =>
    intro d x v h' ev X Y hr hlocks hex hRf hRl hRc hRs
    obtain ⟨pc, st, L, h, ok⟩ := x
    have hok := pz_ev_ok ev
    have hok : ok = true := hok
    subst hok
    have ev : pz_body (pz_ev n) d m (pc, st, L, h, true) = some (.inl v, h', true) := ev
    unfold pz_body at ev
    dsimp only at ev
    cases hc : pz_cd m pc with
    | none => rw [hc] at ev; cases ev
    | some il =>
      rw [hc] at ev
      dsimp only at ev
      obtain ⟨i, len⟩ := il
      obtain ⟨hd, hlen⟩ := pz_dec hc
      dsimp only at ev hlen
      obtain ⟨hx, hb, hml, hown, hts, hini, hK, hA, hX, hbl, hbA⟩ := id X
      cases hrt : pz_rtn i with
      | some t =>
        rw [hrt] at ev
        dsimp only at ev
        have hl1 : len = 1 := by
          refine pz_lenq hlen ?_ (by decide)
          unfold pz_rtn at hrt
          split at hrt <;> first | rfl | cases hrt
        subst hl1
        cases hv : pz_re (pz_mrt m) t st with
        | none => rw [hv] at ev; cases ev
        | some vb =>
          rw [hv] at ev
          obtain ⟨v2, vb2⟩ := vb
          have ev : some ((.inl v2 : pz_O), h, (true && vb2)) = some (.inl v, h', true) := ev
          simp only [Option.some.injEq, Prod.mk.injEq, Sum.inl.injEq, Bool.true_and] at ev
          obtain ⟨rfl, rfl, rfl⟩ := ev
          exact pz_s_ret hx hb hd hr w8 hlocks hrt hv
      | none =>
        rw [hrt] at ev
        dsimp only at ev
        cases hi : pz_inv i with
        | none =>
          rw [hi] at ev
          dsimp only at ev
          have h1 := pz_ev_ok ev
          have h1 : (true && (pz_step (pz_mow m) (pz_mL m) (pz_min m) i len pc st L h).2.2.2.2) = true := h1
          rw [Bool.true_and] at h1
          have h2 := pz_ev_nc ev
          have h2 : (pz_step (pz_mow m) (pz_mL m) (pz_min m) i len pc st L h).2.2.2.1.2.2.2.2.1 ≤ h'.2.2.2.2.1 ∧ (pz_step (pz_mow m) (pz_mL m) (pz_min m) i len pc st L h).2.2.2.1.2.2.2.2.2 ≤ h'.2.2.2.2.2 := h2
          exact pz_step_sound X Y.2.1 hd hlen h1 (by omega) (by omega) (ih d _ v h' ev X Y hr hlocks hex hRf hRl hRc hRs)
        | some kx =>
          rw [hi] at ev
          dsimp only at ev
          obtain ⟨hpc, hk0, hplq⟩ := w16 (pc, i, len) (pz_look_in hc) kx hi
          obtain ⟨kd, idx⟩ := kx
          dsimp only at ev hpc hk0 hplq
          subst hk0
          have hl3 : len = 3 := by
            rcases pz_inv_is hi with ⟨rfl, -⟩ | ⟨rfl, -⟩ | ⟨rfl, -⟩ <;> exact pz_lenq hlen rfl (by decide)
          subst hl3
          cases hmt : pz_mt (pz_mow m) idx with
          | none => rw [hmt] at ev; cases ev
          | some q =>
            rw [hmt] at ev
            dsimp only at ev
            unfold pz_call at ev
            have hplq : pz_plain q.1 = true := hplq q (by rw [← w10]; exact hmt)
            cases hq : q.1 with
            | zero => rw [hq] at hplq; cases hplq
            | succ y =>
              rw [hq] at ev hplq
              dsimp only at ev
              cases d with
              | zero => cases ev
              | succ d =>
                dsimp only at ev
                cases hs : pz_sub (pz_ev n) d 0 (y + 1) (pc, st, L, h, true) with
                | none => rw [hs] at ev; cases ev
                | some r =>
                  rw [hs] at ev
                  obtain ⟨o1, h1, ok1⟩ := r
                  have ev : pz_aft (pz_ev n) (d + 1) m (y + 1) (pc, st, L, h, true) (o1, h1, ok1) = some (.inl v, h', true) := ev
                  unfold pz_aft at ev
                  cases o1 with
                  | inl v1 =>
                    dsimp only at ev
                    have hok1 : ok1 = true := pz_ev_ok ev
                    subst hok1
                    obtain ⟨hcok, hn1, hn2, hMt⟩ := pz_callee (b := b) (n0 := n0) (xs := xs) (D := D) (tc := tc) hlt hplq hs
                    have hnc := pz_ev_nc ev
                    have hnc : h1.2.2.2.2.1 ≤ h'.2.2.2.2.1 ∧ h1.2.2.2.2.2 ≤ h'.2.2.2.2.2 := hnc
                    exact pz_s_call (d := d) (v := v1) (h' := h1) X Y hd hi hmt hq (Nat.succ_ne_zero y) hplq hcok (by omega) (by omega) rfl rfl (by omega) (by omega) hn1 hn2 (fun ad sz hwf has hb0 hxs => hMt ad sz hwf has hb0 hxs)
                      (ih (d + 1) _ v h' ev X Y hr hlocks hex hRf hRl hRc hRs)
                  | inr k =>
                    dsimp only at ev
                    cases hct : pz_ct m pc k with
                    | none => rw [hct] at ev; cases ev
                    | some cv =>
                      rw [hct] at ev
                      have ev : some ((.inl (some (.inl cv)) : pz_O), h1, (ok1 && (decide (pz_mkd (y + 1) ≠ 1) && decide (pz_a (y + 1) 10 = 0)))) = some (.inl v, h', true) := ev
                      simp only [Option.some.injEq, Prod.mk.injEq, Sum.inl.injEq, Bool.and_eq_true, decide_eq_true_eq] at ev
                      obtain ⟨rfl, rfl, rfl, hk1, -⟩ := ev
                      obtain ⟨hcok, hn1, hn2, hMt⟩ := pz_callee (b := b) (n0 := n0) (xs := xs) (D := D) (tc := tc) hlt hplq hs
                      intro ad H locs ls a1 a2 a3 a4 a5 a6 hP hD hS hwf hst hL hl
                      have a2 : h0.1.length ≤ h.1.length := a2
                      have a3 : h0.2.2.2.2.1 ≤ h.2.2.2.2.1 := a3
                      have a4 : h0.2.2.2.2.2 ≤ h.2.2.2.2.2 := a4
                      have hA1 : ∀ z, va_A (pz_w ad tc h) H.size z → A z := by
                        intro z hz
                        rcases hz with ⟨j, E, hj⟩ | hz
                        · exact hD.2 j (z, E) hj
                        · exact hA z (Nat.le_trans hS.1 hz)
                      refine pz_x_call (d := d) (k := k) (h' := h1) X Y hd hi hmt hq (Nat.succ_ne_zero y) hplq hcok (by decide) (by omega) (by omega) (by show h.2.2.2.2.1 - h0.2.2.2.2.1 + _ ≤ _; omega) (by show h.2.2.2.2.2 - h0.2.2.2.2.2 + _ ≤ _; omega) hP hD hS hwf hl.1 (hMt ad H.size hwf (fun v hv => hst v (List.mem_of_mem_take (List.mem_reverse.mp hv))) a5 a6) (fun ad' H1 locs1 z ce haft hS1 hce hvm hcl => ?_)
                      obtain ⟨f1, f2, f3, f4, f5, f6, f7, f8⟩ := haft
                      have w := pz_s_taken (p := p) (l := l) (e := e) (R := R) (below := below) (ls := ls) (pc := pc) (rest := (st.drop (pz_mna (y + 1))).map (pz_v ad)) (k := k) (h0 := h0) (ad0 := ad0) (ad' := ad') (h' := h1) hm X Y hr hlocks hex hct hpc hl ⟨fun z hz => (f1 z (Nat.lt_of_lt_of_le hz a2)).trans (a1 z hz), f2, f3.weaken (fun _ z _ hz => hA1 z.1 hz), Nat.le_trans a2 f4, Nat.le_trans a3 f5, Nat.le_trans a4 f6, f7, f8⟩ hS1 hce hvm hcl
                      have e5 : h1.2.2.2.2.1 - h0.2.2.2.2.1 = h.2.2.2.2.1 - h0.2.2.2.2.1 + (h1.2.2.2.2.1 - h.2.2.2.2.1) := by omega
                      have e6 : h1.2.2.2.2.2 - h0.2.2.2.2.2 = h.2.2.2.2.2 - h0.2.2.2.2.2 + (h1.2.2.2.2.2 - h.2.2.2.2.2) := by omega
                      rw [e5, e6] at w
                      exact w
end pzq
