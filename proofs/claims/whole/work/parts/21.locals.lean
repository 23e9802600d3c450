/-! More locals do no harm: the rule by which a frame's locals are brought into a fixed order. -/
def pz_dk (L : List (Nat × pz_V)) : Prop := ∀ q ∈ L, ∀ r ∈ L, q.1 = r.1 → q = r
theorem pz_look_dk {L : List (Nat × pz_V)} {k : Nat} {v : pz_V} (hd : pz_dk L) (hm : (k, v) ∈ L) : pz_look L k = some v := by
  induction L with
  | nil => cases hm
  | cons q r ih =>
    unfold pz_look
    cases hq : Nat.beq q.1 k with
    | true =>
      have h1 : q.1 = k := Nat.eq_of_beq_eq_true hq
      have h2 := hd q List.mem_cons_self (k, v) hm h1
      rw [h2]
      rfl
    | false =>
      have hm2 : (k, v) ∈ r := by
        rcases List.mem_cons.mp hm with h | h
        · rw [← h] at hq
          have h9 : Nat.beq k k = true := Nat.beq_refl k
          rw [h9] at hq
          cases hq
        · exact h
      exact ih (fun a ha b hb => hd a (List.mem_cons_of_mem _ ha) b (List.mem_cons_of_mem _ hb)) hm2
theorem pz_look_le {L L' : List (Nat × pz_V)} {k : Nat} {v : pz_V} (h1 : ∀ q ∈ L, q ∈ L') (hd : pz_dk L') (e : pz_look L k = some v) : pz_look L' k = some v := pz_look_dk hd (h1 _ (pz_look_in e))
theorem pz_st1_le {L L' : List (Nat × pz_V)} {i : Nat} {v : pz_V} (h1 : ∀ q ∈ L, q ∈ L') : ∀ q ∈ pz_st1 L i v, q ∈ pz_st1 L' i v := by
  intro q hq
  rcases List.mem_cons.mp hq with rfl | hq
  · exact List.mem_cons_self
  · have h2 := List.mem_filter.mp hq
    exact List.mem_cons_of_mem _ (List.mem_filter.mpr ⟨h1 q h2.1, h2.2⟩)
theorem pz_st2_le {L L' : List (Nat × pz_V)} {i : Nat} {v : pz_V} (h1 : ∀ q ∈ L, q ∈ L') : ∀ q ∈ pz_st2 L i v, q ∈ pz_st2 L' i v := by
  intro q hq
  rcases List.mem_cons.mp hq with rfl | hq
  · exact List.mem_cons_self
  · have h2 := List.mem_filter.mp hq
    exact List.mem_cons_of_mem _ (List.mem_filter.mpr ⟨h1 q h2.1, h2.2⟩)
theorem pz_dk_cons {L : List (Nat × pz_V)} {i : Nat} {v : pz_V} {f : Nat × pz_V → Bool} (hd : pz_dk L) (hf : ∀ q, f q = true → q.1 ≠ i) : pz_dk ((i, v) :: L.filter f) := by
  intro q hq r hr e
  rcases List.mem_cons.mp hq with rfl | hq <;> rcases List.mem_cons.mp hr with rfl | hr
  · rfl
  · exact absurd e.symm (hf r (List.mem_filter.mp hr).2)
  · exact absurd e (hf q (List.mem_filter.mp hq).2)
  · exact hd q (List.mem_filter.mp hq).1 r (List.mem_filter.mp hr).1 e
theorem pz_st1_dk {L : List (Nat × pz_V)} {i : Nat} {v : pz_V} (hd : pz_dk L) : pz_dk (pz_st1 L i v) := pz_dk_cons hd (fun q h e => by simp [e] at h)
theorem pz_st2_dk {L : List (Nat × pz_V)} {i : Nat} {v : pz_V} (hd : pz_dk L) : pz_dk (pz_st2 L i v) := pz_dk_cons hd (fun q h e => by simp [e] at h)
theorem pz_step_le {own nL : Nat} {ini : Bool} {i : Instr} {n pc : Nat} {st : List pz_V} {L L' : List (Nat × pz_V)} {h : pz_H} (h1 : ∀ q ∈ L, q ∈ L') (hd : pz_dk L') (hok : (pz_step own nL ini i n pc st L h).2.2.2.2 = true) :
    ∃ L2, pz_step own nL ini i n pc st L' h = ((pz_step own nL ini i n pc st L h).1, (pz_step own nL ini i n pc st L h).2.1, L2, (pz_step own nL ini i n pc st L h).2.2.2.1, true) ∧ (∀ q ∈ (pz_step own nL ini i n pc st L h).2.2.1, q ∈ L2) ∧ pz_dk L2 := by
  have triv : ∀ r : pz_S, r.2.2.1 = L → r.2.2.2.2 = true → (∀ r' : pz_S, r' = (r.1, r.2.1, L', r.2.2.2.1, r.2.2.2.2) → ∃ L2, r' = (r.1, r.2.1, L2, r.2.2.2.1, true) ∧ (∀ q ∈ r.2.2.1, q ∈ L2) ∧ pz_dk L2) := by
    intro r e1 e2 r' e3
    refine ⟨L', ?_, ?_, hd⟩
    · rw [e3, e2]
    · rw [e1]; exact h1
  have ld : ∀ t k, (pz_ld t k n pc st L h).2.2.2.2 = true → ∃ L2, pz_ld t k n pc st L' h = ((pz_ld t k n pc st L h).1, (pz_ld t k n pc st L h).2.1, L2, (pz_ld t k n pc st L h).2.2.2.1, true) ∧ (∀ q ∈ (pz_ld t k n pc st L h).2.2.1, q ∈ L2) ∧ pz_dk L2 := by
    intro t k hk
    unfold pz_ld at hk ⊢
    cases e : pz_look L k with
    | none => rw [e] at hk; cases hk
    | some v =>
      rw [e] at hk
      rw [pz_look_le h1 hd e]
      have hk : decide (pz_tag v = t) = true := hk
      exact ⟨L', by dsimp only; rw [hk], h1, hd⟩
  have sto : ∀ t k, (pz_sto t nL k n pc st L h).2.2.2.2 = true → ∃ L2, pz_sto t nL k n pc st L' h = ((pz_sto t nL k n pc st L h).1, (pz_sto t nL k n pc st L h).2.1, L2, (pz_sto t nL k n pc st L h).2.2.2.1, true) ∧ (∀ q ∈ (pz_sto t nL k n pc st L h).2.2.1, q ∈ L2) ∧ pz_dk L2 := by
    intro t k hk
    unfold pz_sto at hk ⊢
    cases st with
    | nil => cases hk
    | cons v r =>
      have hk : (decide (pz_tag v = t) && decide (k < nL)) = true := hk
      exact ⟨pz_st1 L' k v, by dsimp only; rw [hk], pz_st1_le h1, pz_st1_dk hd⟩
  have stl : ∀ k, (pz_stl nL k n pc st L h).2.2.2.2 = true → ∃ L2, pz_stl nL k n pc st L' h = ((pz_stl nL k n pc st L h).1, (pz_stl nL k n pc st L h).2.1, L2, (pz_stl nL k n pc st L h).2.2.2.1, true) ∧ (∀ q ∈ (pz_stl nL k n pc st L h).2.2.1, q ∈ L2) ∧ pz_dk L2 := by
    intro k hk
    unfold pz_stl at hk ⊢
    cases st with
    | nil => cases hk
    | cons v r =>
      have hk : (decide (pz_tag v = 2) && decide (k + 1 < nL)) = true := hk
      exact ⟨pz_st2 L' k v, by dsimp only; rw [hk], pz_st2_le h1, pz_st2_dk hd⟩
  cases i
  case iload k => exact ld 0 k hok
  case iload_n k => exact ld 0 k.val hok
  case lload k => exact ld 2 k hok
  case lload_n k => exact ld 2 k.val hok
  case aload k => exact ld 3 k hok
  case aload_n k => exact ld 3 k.val hok
  case istore k => exact sto 0 k hok
  case istore_n k => exact sto 0 k.val hok
  case astore k => exact sto 3 k hok
  case astore_n k => exact sto 3 k.val hok
  case lstore k => exact stl k hok
  case lstore_n k => exact stl k.val hok
  case iinc k v =>
    unfold pz_step at hok ⊢
    dsimp only at hok ⊢
    cases e : pz_look L k with
    | none => rw [e] at hok; cases hok
    | some u =>
      rw [e] at hok
      rw [pz_look_le h1 hd e]
      rcases u with a | a | a
      · have hok : (pz_in (a + v) && decide (k < nL)) = true := hok
        exact ⟨pz_st1 L' k (.inl (a + v)), by dsimp only; rw [hok], pz_st1_le h1, pz_st1_dk hd⟩
      · cases hok
      · cases hok
  all_goals refine triv _ ?_ hok _ ?_
  all_goals first
    | rfl
    | (simp only [pz_step, pz_b2, pz_l2, pz_ls, pz_br]; repeat' split) <;> rfl
theorem pz_ev_le {n d m : Nat} {pc : Nat} {st : List pz_V} {L L' : List (Nat × pz_V)} {h : pz_H} {ok : Bool} {o : pz_O} {h' : pz_H} (h1 : ∀ q ∈ L, q ∈ L') (hd : pz_dk L') (e : pz_ev n d m (pc, st, L, h, ok) = some (o, h', true)) : pz_ev n d m (pc, st, L', h, ok) = some (o, h', true) := by
  induction n generalizing d pc st L L' h ok o h' with
  | zero => cases e
  | succ n ih =>
    have e : pz_body (pz_ev n) d m (pc, st, L, h, ok) = some (o, h', true) := e
    show pz_body (pz_ev n) d m (pc, st, L', h, ok) = some (o, h', true)
    unfold pz_body at e ⊢
    dsimp only at e ⊢
    cases hc : pz_cd m pc with
    | none => rw [hc] at e; cases e
    | some il =>
      rw [hc] at e
      dsimp only at e ⊢
      cases hr : pz_rtn il.1 with
      | some t => rw [hr] at e; exact e
      | none =>
        rw [hr] at e
        dsimp only at e ⊢
        cases hi : pz_inv il.1 with
        | none =>
          rw [hi] at e
          dsimp only at e ⊢
          have hk := pz_ev_ok e
          have hk : (ok && (pz_step (pz_mow m) (pz_mL m) (pz_min m) il.1 il.2 pc st L h).2.2.2.2) = true := hk
          have hk2 := (Bool.and_eq_true_iff.mp hk).2
          obtain ⟨L2, g1, g2, g3⟩ := pz_step_le h1 hd hk2
          rw [g1]
          have e9 : pz_and ok (pz_step (pz_mow m) (pz_mL m) (pz_min m) il.1 il.2 pc st L h) = ((pz_step (pz_mow m) (pz_mL m) (pz_min m) il.1 il.2 pc st L h).1, (pz_step (pz_mow m) (pz_mL m) (pz_min m) il.1 il.2 pc st L h).2.1, (pz_step (pz_mow m) (pz_mL m) (pz_min m) il.1 il.2 pc st L h).2.2.1, (pz_step (pz_mow m) (pz_mL m) (pz_min m) il.1 il.2 pc st L h).2.2.2.1, ok && true) := by
            unfold pz_and
            rw [hk2]
          rw [e9] at e
          exact ih g2 g3 e
        | some kx =>
          rw [hi] at e
          dsimp only at e ⊢
          cases hm : pz_mt (pz_mow m) kx.2 with
          | none => rw [hm] at e; cases e
          | some y =>
            rw [hm] at e
            dsimp only at e ⊢
            unfold pz_call at e ⊢
            cases hy : y.1 with
            | zero =>
              rw [hy] at e
              rcases st with _ | ⟨a | x | q, rest⟩
              · cases e
              · cases e
              · cases e
              · exact ih h1 hd e
            | succ y =>
              rw [hy] at e
              cases d with
              | zero => cases e
              | succ d =>
                dsimp only at e ⊢
                have hs : ∀ LL, pz_sub (pz_ev n) d kx.1 (y + 1) (pc, st, LL, h, ok) = pz_sub (pz_ev n) d kx.1 (y + 1) (pc, st, L, h, ok) := fun LL => rfl
                rw [hs L']
                cases hs1 : pz_sub (pz_ev n) d kx.1 (y + 1) (pc, st, L, h, ok) with
                | none => rw [hs1] at e; cases e
                | some r =>
                  rw [hs1] at e
                  obtain ⟨o1, h2, ok1⟩ := r
                  have e : pz_aft (pz_ev n) (d + 1) m (y + 1) (pc, st, L, h, ok) (o1, h2, ok1) = some (o, h', true) := e
                  show pz_aft (pz_ev n) (d + 1) m (y + 1) (pc, st, L', h, ok) (o1, h2, ok1) = some (o, h', true)
                  unfold pz_aft at e ⊢
                  cases o1 with
                  | inl v => exact ih h1 hd e
                  | inr k => exact e
-- keys, by their numbers
def pz_kd (L : List Nat) : Bool := match L with
  | [] => true
  | k :: r => r.all (fun j => !(Nat.beq j k)) && pz_kd r
theorem pz_kd_dk {L : List (Nat × pz_V)} (h : pz_kd (L.map (fun q => q.1)) = true) : pz_dk L := by
  induction L with
  | nil => exact fun q hq => nomatch hq
  | cons a r ih =>
    have h : ((r.map (fun q => q.1)).all (fun j => !(Nat.beq j a.1)) && pz_kd (r.map (fun q => q.1))) = true := h
    rw [Bool.and_eq_true] at h
    have hn : ∀ q ∈ r, q.1 ≠ a.1 := by
      intro q hq e
      have := List.all_eq_true.mp h.1 q.1 (List.mem_map.mpr ⟨q, hq, rfl⟩)
      rw [e] at this
      have h9 : Nat.beq a.1 a.1 = true := Nat.beq_refl a.1
      rw [h9] at this
      cases this
    intro q hq s hs e
    rcases List.mem_cons.mp hq with h2 | h2 <;> rcases List.mem_cons.mp hs with h3 | h3
    · rw [h2, h3]
    · exact absurd (by rw [← e, h2]) (hn s h3)
    · exact absurd (by rw [e, h3]) (hn q h2)
    · exact ih h.2 q h2 s h3 e
/-- the locals in a fixed order, fewer of them: by their places ks in the list -/
theorem pz_Rn_sub {d m pc : Nat} {st : List pz_V} {L' L : List (Nat × pz_V)} {h : pz_H} {Q : pz_O → pz_H → Prop} (ks : List Nat) (hs : ks.map (fun k => L'[k]?) = L.map some) (hd : pz_kd (L'.map (fun q => q.1)) = true) (r : pz_Rn d m (pc, st, L, h, true) Q) : pz_Rn d m (pc, st, L', h, true) Q := by
  obtain ⟨n, o, h', e, q⟩ := r
  refine ⟨n, o, h', pz_ev_le (fun x hx => ?_) (pz_kd_dk hd) e, q⟩
  obtain ⟨j, hj⟩ := List.getElem?_of_mem hx
  have h1 : (ks.map (fun k => L'[k]?))[j]? = some (some x) := by
    rw [hs, List.getElem?_map, hj]
    rfl
  rw [List.getElem?_map] at h1
  cases hk : ks[j]? with
  | none => rw [hk] at h1; cases h1
  | some k =>
    rw [hk] at h1
    exact List.mem_of_getElem? (Option.some.inj h1)
theorem pz_a2 {a b : Bool} (h1 : a = true) (h2 : b = true) : (a && b) = true := by rw [h1, h2]; rfl
