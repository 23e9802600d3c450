/-! Laws of part 02's machine that speak of no machine but itself. -/
theorem pz_sub_mono {f g : Nat → Nat → pz_S → Option (pz_O × pz_H × Bool)} (hfg : ∀ d m s r, f d m s = some r → g d m s = some r) {d kd y : Nat} {s : pz_S} {r : pz_O × pz_H × Bool} : pz_sub f d kd y s = some r → pz_sub g d kd y s = some r := by
  unfold pz_sub
  cases pz_thr y with
  | some q => exact fun h => h
  | none => exact hfg _ _ _ _
theorem pz_aft_mono {f g : Nat → Nat → pz_S → Option (pz_O × pz_H × Bool)} (hfg : ∀ d m s r, f d m s = some r → g d m s = some r) {d m y : Nat} {s : pz_S} {r r' : pz_O × pz_H × Bool} : pz_aft f d m y s r' = some r → pz_aft g d m y s r' = some r := by
  unfold pz_aft
  obtain ⟨o, h', ok⟩ := r'
  cases o with
  | inl v => exact hfg _ _ _ _
  | inr k => exact fun h => h
theorem pz_call_mono {f g : Nat → Nat → pz_S → Option (pz_O × pz_H × Bool)} (hfg : ∀ d m s r, f d m s = some r → g d m s = some r) {d m kd y : Nat} {s : pz_S} {r : pz_O × pz_H × Bool} : pz_call f d m kd y s = some r → pz_call g d m kd y s = some r := by
  unfold pz_call
  cases y with
  | zero =>
    obtain ⟨pc, st, L, h, ok⟩ := s
    rcases st with _ | ⟨a | x | q, rest⟩
    · exact fun h => h
    · exact fun h => h
    · exact fun h => h
    · exact hfg _ _ _ _
  | succ y =>
    cases d with
    | zero => exact fun h => h
    | succ d =>
      dsimp only
      intro h
      cases hs : pz_sub f d kd (y + 1) s with
      | none => rw [hs] at h; cases h
      | some r' =>
        rw [hs] at h
        rw [pz_sub_mono hfg hs]
        exact pz_aft_mono hfg h
theorem pz_body_mono {f g : Nat → Nat → pz_S → Option (pz_O × pz_H × Bool)} (hfg : ∀ d m s r, f d m s = some r → g d m s = some r) {d m : Nat} {s : pz_S} {r : pz_O × pz_H × Bool} : pz_body f d m s = some r → pz_body g d m s = some r := by
  unfold pz_body
  cases pz_cd m s.1 with
  | none => exact fun h => h
  | some il =>
    dsimp only
    cases pz_rtn il.1 with
    | some t => exact fun h => h
    | none =>
      dsimp only
      cases pz_inv il.1 with
      | none => exact hfg _ _ _ _
      | some kx =>
        dsimp only
        cases pz_mt (pz_mow m) kx.2 with
        | none => exact fun h => h
        | some y => exact pz_call_mono hfg
/-- more fuel gives the same -/
theorem pz_ev_mono {n n' : Nat} (hn : n ≤ n') {d m : Nat} {s : pz_S} {r : pz_O × pz_H × Bool} (h : pz_ev n d m s = some r) : pz_ev n' d m s = some r := by
  induction n generalizing n' d m s r with
  | zero => cases h
  | succ n ih =>
    cases n' with
    | zero => omega
    | succ n' => exact pz_body_mono (fun d m s r h => ih (by omega) h) h
/-- more depth gives the same -/
theorem pz_body_deep {f : Nat → Nat → pz_S → Option (pz_O × pz_H × Bool)} (hf : ∀ d m s r, f d m s = some r → f (d + 1) m s = some r) {d m : Nat} {s : pz_S} {r : pz_O × pz_H × Bool} : pz_body f d m s = some r → pz_body f (d + 1) m s = some r := by
  unfold pz_body
  cases pz_cd m s.1 with
  | none => exact fun h => h
  | some il =>
    dsimp only
    cases pz_rtn il.1 with
    | some t => exact fun h => h
    | none =>
      dsimp only
      cases pz_inv il.1 with
      | none => exact hf _ _ _ _
      | some kx =>
        dsimp only
        cases pz_mt (pz_mow m) kx.2 with
        | none => exact fun h => h
        | some y =>
          dsimp only
          unfold pz_call
          cases y.1 with
          | zero =>
            obtain ⟨pc, st, L, h, ok⟩ := s
            rcases st with _ | ⟨a | x | q, rest⟩
            · exact fun h => h
            · exact fun h => h
            · exact fun h => h
            · exact hf _ _ _ _
          | succ y =>
            cases d with
            | zero => exact fun h => nomatch h
            | succ d =>
              dsimp only
              intro h
              cases hs : pz_sub f d kx.1 (y + 1) s with
              | none => rw [hs] at h; cases h
              | some r' =>
                rw [hs] at h
                have h2 : pz_sub f (d + 1) kx.1 (y + 1) s = some r' := by
                  revert hs
                  unfold pz_sub
                  cases pz_thr (y + 1) with
                  | some q => exact fun h => h
                  | none => exact hf _ _ _ _
                rw [h2]
                revert h
                show pz_aft f (d + 1) m (y + 1) s r' = some r → pz_aft f (d + 1 + 1) m (y + 1) s r' = some r
                unfold pz_aft
                obtain ⟨o, h', ok⟩ := r'
                cases o with
                | inl v => exact hf _ _ _ _
                | inr k => exact fun h => h
theorem pz_ev_deep1 {n d m : Nat} {s : pz_S} {r : pz_O × pz_H × Bool} (h : pz_ev n d m s = some r) : pz_ev n (d + 1) m s = some r := by
  induction n generalizing d m s r with
  | zero => cases h
  | succ n ih => exact pz_body_deep (fun d m s r h => ih h) h
theorem pz_ev_deep {n d d' m : Nat} (hd : d ≤ d') {s : pz_S} {r : pz_O × pz_H × Bool} (h : pz_ev n d m s = some r) : pz_ev n d' m s = some r := by
  induction hd with
  | refl => exact h
  | step _ ih => exact pz_ev_deep1 ih
/-- where all conditions held at the end, they held before -/
theorem pz_ev_ok {n d m : Nat} {s : pz_S} {o : pz_O} {h : pz_H} (e : pz_ev n d m s = some (o, h, true)) : s.2.2.2.2 = true := by
  induction n generalizing d m s o h with
  | zero => cases e
  | succ n ih =>
    obtain ⟨pc, st, L, hp, ok⟩ := s
    revert e
    show pz_body (pz_ev n) d m (pc, st, L, hp, ok) = some (o, h, true) → ok = true
    unfold pz_body
    dsimp only
    cases pz_cd m pc with
    | none => exact fun h => nomatch h
    | some il =>
      dsimp only
      cases pz_rtn il.1 with
      | some t =>
        dsimp only
        cases pz_re (pz_mrt m) t st with
        | none => exact fun h => nomatch h
        | some vb =>
          intro e
          have e2 := congrArg (fun x => x.2.2) (Option.some.inj e)
          dsimp only at e2
          exact (Bool.and_eq_true_iff.mp e2).1
      | none =>
        dsimp only
        cases pz_inv il.1 with
        | none => exact fun e => (Bool.and_eq_true_iff.mp (ih e)).1
        | some kx =>
          dsimp only
          cases pz_mt (pz_mow m) kx.2 with
          | none => exact fun h => nomatch h
          | some y =>
            dsimp only
            unfold pz_call
            cases y.1 with
            | zero =>
              rcases st with _ | ⟨a | x | q, rest⟩
              · exact fun h => nomatch h
              · exact fun h => nomatch h
              · exact fun h => nomatch h
              · exact fun e => (Bool.and_eq_true_iff.mp (ih e)).1
            | succ y =>
              cases d with
              | zero => exact fun h => nomatch h
              | succ d =>
                dsimp only
                intro e
                cases hs : pz_sub (pz_ev n) d kx.1 (y + 1) (pc, st, L, hp, ok) with
                | none => rw [hs] at e; cases e
                | some r =>
                  rw [hs] at e
                  obtain ⟨o1, h1, ok1⟩ := r
                  have e1 : ok1 = true := by
                    revert e
                    show pz_aft (pz_ev n) (d + 1) m (y + 1) (pc, st, L, hp, ok) (o1, h1, ok1) = some (o, h, true) → ok1 = true
                    unfold pz_aft
                    cases o1 with
                    | inl v => exact fun e => ih e
                    | inr k =>
                      dsimp only
                      cases pz_ct m pc k with
                      | none =>
                        intro e
                        have e2 := congrArg (fun x => x.2.2) (Option.some.inj e)
                        dsimp only at e2
                        exact (Bool.and_eq_true_iff.mp e2).1
                      | some c =>
                        intro e
                        have e2 := congrArg (fun x => x.2.2) (Option.some.inj e)
                        dsimp only at e2
                        exact (Bool.and_eq_true_iff.mp e2).1
                  subst e1
                  revert hs
                  unfold pz_sub
                  cases pz_thr (y + 1) with
                  | none => exact fun e => (Bool.and_eq_true_iff.mp (ih e)).1
                  | some q =>
                    dsimp only
                    cases pz_prim (y + 1) (st.take (pz_mna (y + 1))).reverse hp with
                    | none => exact fun h => nomatch h
                    | some oh =>
                      intro e
                      have e2 := congrArg (fun x => x.2.2) (Option.some.inj e)
                      dsimp only at e2
                      exact (Bool.and_eq_true_iff.mp e2).1
-- rules for runs
theorem pz_Rn.mono {d d' m : Nat} (hd : d ≤ d') {s : pz_S} {Q Q' : pz_O → pz_H → Prop} (h : pz_Rn d m s Q) (hq : ∀ o h, Q o h → Q' o h) : pz_Rn d' m s Q' := by
  obtain ⟨n, o, h', e, q⟩ := h
  exact ⟨n, o, h', pz_ev_deep hd e, hq o h' q⟩
theorem pz_Rn_go1 {k d m : Nat} {s s' : pz_S} {Q : pz_O → pz_H → Prop} (e : pz_go m k s = some s') (h : pz_Rn d m s' Q) : pz_Rn d m s Q := by
  induction k generalizing s with
  | zero => cases e; exact h
  | succ k ih =>
    revert e
    unfold pz_go
    cases hc : pz_cd m s.1 with
    | none => exact fun h => nomatch h
    | some il =>
      dsimp only
      cases hr : pz_rtn il.1 with
      | some t => exact fun h => nomatch h
      | none =>
        dsimp only
        cases hi : pz_inv il.1 with
        | some kx => exact fun h => nomatch h
        | none =>
          intro e
          obtain ⟨n, o, h', e2, q⟩ := ih e
          refine ⟨n + 1, o, h', ?_, q⟩
          show pz_body (pz_ev n) d m s = _
          unfold pz_body
          rw [hc]
          dsimp only
          rw [hr]
          dsimp only
          rw [hi]
          exact e2
/-- k plain steps -/
theorem pz_Rn_go (k : Nat) {d m pc pc' : Nat} {st st' : List pz_V} {L L' : List (Nat × pz_V)} {h h' : pz_H} {ok : Bool} {Q : pz_O → pz_H → Prop} (e : pz_go m k (pc, st, L, h, true) = some (pc', st', L', h', ok)) (hok : ok = true) (r : pz_Rn d m (pc', st', L', h', true) Q) : pz_Rn d m (pc, st, L, h, true) Q := by
  subst hok
  exact pz_Rn_go1 e r
theorem pz_Rn_ret {d m pc t len : Nat} {i : Instr} {st : List pz_V} {L : List (Nat × pz_V)} {h : pz_H} {v : Option pz_V} {b : Bool} {Q : pz_O → pz_H → Prop} (hc : pz_cd m pc = some (i, len)) (hr : pz_rtn i = some t) (hv : pz_re (pz_mrt m) t st = some (v, b)) (hb : b = true) (q : Q (.inl v) h) : pz_Rn d m (pc, st, L, h, true) Q := by
  refine ⟨1, .inl v, h, ?_, q⟩
  show pz_body (pz_ev 0) d m (pc, st, L, h, true) = _
  unfold pz_body
  dsimp only
  rw [hc]
  dsimp only
  rw [hr]
  dsimp only
  rw [hv, hb]
  rfl
theorem pz_Rn_obj {d m pc idx len : Nat} {q : Nat × Nat} {r : Option Nat} {rest : List pz_V} {L : List (Nat × pz_V)} {h : pz_H} {Q : pz_O → pz_H → Prop} (hc : pz_cd m pc = some (.invokespecial idx, len)) (hm : pz_mt (pz_mow m) idx = some q) (hq : q.1 = 0) (hn : (r.isSome && decide ((rest.map pz_cat).sum ≤ 8)) = true) (k : pz_Rn d m (pc + 3, rest, L, h, true) Q) : pz_Rn d m (pc, .inr (.inr r) :: rest, L, h, true) Q := by
  obtain ⟨n, o, h', e, g⟩ := k
  refine ⟨n + 1, o, h', ?_, g⟩
  show pz_body (pz_ev n) d m _ = _
  unfold pz_body
  dsimp only
  rw [hc]
  dsimp only [pz_rtn, pz_inv]
  rw [hm]
  dsimp only
  rw [hq]
  unfold pz_call
  dsimp only
  rw [hn]
  exact e
/-- a call, by what the callee does -/
theorem pz_Rn_call {d m pc len kd idx : Nat} {i : Instr} {q : Nat × Nat} {y : Nat} {st : List pz_V} {L : List (Nat × pz_V)} {h : pz_H} {Q Q1 : pz_O → pz_H → Prop} (hc : pz_cd m pc = some (i, len)) (hr : pz_rtn i = none) (hi : pz_inv i = some (kd, idx)) (hm : pz_mt (pz_mow m) idx = some q) (hq : q.1 = y + 1) (ht : pz_thr (y + 1) = none) (hok : pz_cok kd (y + 1) st h = true)
    (k : pz_Rn d (y + 1) (0, [], pz_args 0 (st.take (pz_mna (y + 1))).reverse, h, true) Q1)
    (kk : ∀ v h', Q1 (.inl v) h' → pz_Rn (d + 1) m (pc + 3, v.toList ++ st.drop (pz_mna (y + 1)), L, h', true) Q)
    (kx : ∀ x h', Q1 (.inr x) h' → (decide (pz_mkd (y + 1) ≠ 1) && decide (pz_a (y + 1) 10 = 0)) = true ∧ match pz_ct m pc x with
      | some c => Q (.inl (some (.inl c))) h'
      | none => Q (.inr x) h') : pz_Rn (d + 1) m (pc, st, L, h, true) Q := by
  obtain ⟨n, o, h1, e1, g1⟩ := k
  have go : ∀ n2, n ≤ n2 → pz_ev (n2 + 1) (d + 1) m (pc, st, L, h, true) = pz_aft (pz_ev n2) (d + 1) m (y + 1) (pc, st, L, h, true) (o, h1, true) := by
    intro n2 hn
    show pz_body (pz_ev n2) (d + 1) m _ = _
    unfold pz_body
    dsimp only
    rw [hc]
    dsimp only
    rw [hr]
    dsimp only
    rw [hi]
    dsimp only
    rw [hm]
    dsimp only
    rw [hq]
    unfold pz_call
    dsimp only
    have hs : pz_sub (pz_ev n2) d kd (y + 1) (pc, st, L, h, true) = some (o, h1, true) := by
      unfold pz_sub
      rw [ht]
      dsimp only
      rw [hok]
      exact pz_ev_mono hn e1
    rw [hs]
    rfl
  cases o with
  | inl v =>
    obtain ⟨n2, o2, h2, e2, g2⟩ := kk v h1 g1
    refine ⟨max n n2 + 1, o2, h2, ?_, g2⟩
    rw [go _ (Nat.le_max_left _ _)]
    exact pz_ev_mono (Nat.le_max_right _ _) e2
  | inr x =>
    obtain ⟨hk9, hx⟩ := kx x h1 g1
    cases hct : pz_ct m pc x with
    | none =>
      rw [hct] at hx
      refine ⟨n + 1, .inr x, h1, ?_, hx⟩
      rw [go _ (Nat.le_refl _)]
      unfold pz_aft
      dsimp only
      rw [hct, hk9]
      rfl
    | some c =>
      rw [hct] at hx
      refine ⟨n + 1, .inl (some (.inl c)), h1, ?_, hx⟩
      rw [go _ (Nat.le_refl _)]
      unfold pz_aft
      dsimp only
      rw [hct, hk9]
      rfl
/-- a call of one of the three that throw -/
theorem pz_Rn_thr {d m pc len kd idx : Nat} {i : Instr} {q : Nat × Nat} {y : Nat} {t : Bool × Nat} {a : Int} {st rest : List pz_V} {L : List (Nat × pz_V)} {h : pz_H} {Q : pz_O → pz_H → Prop} (hc : pz_cd m pc = some (i, len)) (hr : pz_rtn i = none) (hi : pz_inv i = some (kd, idx)) (hm : pz_mt (pz_mow m) idx = some q) (hq : q.1 = y + 1) (ht : pz_thr (y + 1) = some t) (hna : pz_mna (y + 1) = 1) (hk9 : (decide (pz_mkd (y + 1) ≠ 1) && decide (pz_a (y + 1) 10 = 0)) = true) (hst : st = .inl a :: rest) (hok : pz_cok kd (y + 1) st h = true)
    (kk : Bool.xor t.1 (decide (a = 0)) = true → pz_Rn (d + 1) m (pc + 3, rest, L, h, true) Q)
    (kx : Bool.xor t.1 (decide (a = 0)) = false → match pz_ct m pc t.2 with
      | some c => Q (.inl (some (.inl c))) (h.1, h.2.1, h.2.2.1, h.2.2.2.1, h.2.2.2.2.1 + 1, h.2.2.2.2.2 + 6)
      | none => Q (.inr t.2) (h.1, h.2.1, h.2.2.1, h.2.2.2.1, h.2.2.2.2.1 + 1, h.2.2.2.2.2 + 6)) : pz_Rn (d + 1) m (pc, st, L, h, true) Q := by
  subst hst
  have go : ∀ n2 o h1, pz_prim (y + 1) [.inl a] h = some (o, h1) → pz_ev (n2 + 1) (d + 1) m (pc, .inl a :: rest, L, h, true) = pz_aft (pz_ev n2) (d + 1) m (y + 1) (pc, .inl a :: rest, L, h, true) (o, h1, true) := by
    intro n2 o h1 hp
    show pz_body (pz_ev n2) (d + 1) m _ = _
    unfold pz_body
    dsimp only
    rw [hc]
    dsimp only
    rw [hr]
    dsimp only
    rw [hi]
    dsimp only
    rw [hm]
    dsimp only
    rw [hq]
    unfold pz_call
    dsimp only
    have hs : pz_sub (pz_ev n2) d kd (y + 1) (pc, .inl a :: rest, L, h, true) = some (o, h1, true) := by
      unfold pz_sub
      rw [ht]
      dsimp only
      rw [hok, hna]
      show Option.map _ (pz_prim (y + 1) [.inl a] h) = _
      rw [hp]
      rfl
    rw [hs]
    rfl
  cases hx : Bool.xor t.1 (decide (a = 0)) with
  | true =>
    have hp : pz_prim (y + 1) [.inl a] h = some (.inl none, h) := by
      unfold pz_prim
      rw [ht]
      dsimp only
      rw [hx]
      rfl
    obtain ⟨n, o2, h2, e2, g2⟩ := kk hx
    refine ⟨n + 1, o2, h2, ?_, g2⟩
    rw [go n _ _ hp]
    unfold pz_aft
    dsimp only
    rw [hna]
    exact e2
  | false =>
    have hp : pz_prim (y + 1) [.inl a] h = some (.inr t.2, h.1, h.2.1, h.2.2.1, h.2.2.2.1, h.2.2.2.2.1 + 1, h.2.2.2.2.2 + 6) := by
      unfold pz_prim
      rw [ht]
      dsimp only
      rw [hx]
      rfl
    have h3 := kx hx
    cases hct : pz_ct m pc t.2 with
    | none =>
      rw [hct] at h3
      refine ⟨1, _, _, ?_, h3⟩
      rw [go 0 _ _ hp]
      unfold pz_aft
      dsimp only
      rw [hct, hk9]
      rfl
    | some c =>
      rw [hct] at h3
      refine ⟨1, _, _, ?_, h3⟩
      rw [go 0 _ _ hp]
      unfold pz_aft
      dsimp only
      rw [hct, hk9]
      rfl
