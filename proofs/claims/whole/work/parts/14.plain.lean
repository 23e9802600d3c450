/-! What part 02's machine does in any run of a plain method, the machine does. -/
theorem pz_pB_1 : pz_pB 1 102 104 1 .ne = true := by decide +kernel
theorem pz_pc_1 : pz_ck 2121 (Cond.classLink "RelationStream" 102 (pz_exc 1)) = true := by decide +kernel
theorem pz_pi_1 : pz_ck 1016 (Cond.initialized (pz_exc 1)) = true := by decide +kernel
theorem pz_pn_1 : pz_ck 2122 (Cond.instantiable (pz_exc 1) 6) = true := by decide +kernel
theorem pz_pB_2 : pz_pB 2 105 107 2 .eq = true := by decide +kernel
theorem pz_pc_2 : pz_ck 2193 (Cond.classLink "RelationStream" 105 (pz_exc 2)) = true := by decide +kernel
theorem pz_pi_2 : pz_ck 1017 (Cond.initialized (pz_exc 2)) = true := by decide +kernel
theorem pz_pn_2 : pz_ck 2194 (Cond.instantiable (pz_exc 2) 6) = true := by decide +kernel
theorem pz_pB_3 : pz_pB 82 108 110 3 .ne = true := by decide +kernel
theorem pz_pc_3 : pz_ck 5076 (Cond.classLink "RelationStream" 108 (pz_exc 3)) = true := by decide +kernel
theorem pz_pi_3 : pz_ck 1029 (Cond.initialized (pz_exc 3)) = true := by decide +kernel
theorem pz_pn_3 : pz_ck 5077 (Cond.instantiable (pz_exc 3) 6) = true := by decide +kernel
section pzv
variable {p : Program} {l : Launch} {e : Env} {R : Room} {s : State} {mm : MethodId} {args : Array Value} {below : List Frame} {meth : Method} {c : Code} {m : Nat} {D : va_G} {tc : Nat → ClassId} {A : Nat → Prop} {b n0 : Nat} {xs : Nat → Int}
theorem pz_prims {y d : Nat} {t : Bool × Nat} {ad : Nat → Nat} {as : List pz_V} {sz : Nat} {o : pz_O} {h h' : pz_H} (hlt : l.stackTraces = false) (ht : pz_thr y = some t) (hwf : pz_wf n0 h) (hxs : ∀ k, k < n0 → h.2.1 0 k = xs k) (has : ∀ v ∈ as, pz_wv h.1.length v) (ho : pz_prim y as h = some (o, h')) : pz_Mt l y d D tc b n0 xs ad as h sz o h' := by
  have h1 : ∃ a, as = [.inl a] := by
    unfold pz_prim at ho
    rw [ht] at ho
    rcases as with _ | ⟨a | a | a, _ | ⟨b, r⟩⟩
    · cases ho
    · exact ⟨a, rfl⟩
    all_goals cases ho
  obtain ⟨a, rfl⟩ := h1
  have ha : pz_in a = true := has (.inl a) List.mem_cons_self
  have hy := pz_look_in ht
  simp only [List.mem_cons, List.not_mem_nil, or_false, Prod.mk.injEq] at hy
  rcases hy with ⟨rfl, -⟩ | ⟨rfl, -⟩ | ⟨rfl, -⟩
  · exact pz_pr hlt pz_pB_1 (Or.inl rfl) pz_oA_1 (pz_ck_in pz_pc_1) (pz_ck_in pz_pi_1) (pz_ck_in pz_pn_1) hwf hxs ha ho
  · exact pz_pr hlt pz_pB_2 (Or.inr rfl) pz_oA_2 (pz_ck_in pz_pc_2) (pz_ck_in pz_pi_2) (pz_ck_in pz_pn_2) hwf hxs ha ho
  · exact pz_pr hlt pz_pB_3 (Or.inl rfl) pz_oA_3 (pz_ck_in pz_pc_3) (pz_ck_in pz_pi_3) (pz_ck_in pz_pn_3) hwf hxs ha ho
-- what a plain method calls is plain, or Object's constructor
theorem pz_pl1 : (List.range 149).all (fun m => !pz_plain m || decide (pz_mow m ≠ 11)) = true := by decide +kernel
theorem pz_pl2 : (List.range 14).all (fun own => decide (own = 11) || ((pz_mtL[own]?).getD []).all (fun e => decide (e.2.1 = 0) || pz_plain e.2.1)) = true := by decide +kernel
theorem pz_pl {m x : Nat} {q : Nat × Nat} (hm : pz_plain m = true) (h : pz_mt (pz_mow m) x = some q) (h0 : q.1 ≠ 0) : pz_plain q.1 = true := by
  have h1 : m < 149 := by
    unfold pz_plain at hm
    simp only [Bool.and_eq_true, decide_eq_true_eq] at hm
    omega
  have h2 := List.all_eq_true.mp pz_pl1 m (List.mem_range.mpr h1)
  rw [hm, Bool.not_true, Bool.false_or] at h2
  have h3 : pz_mow m < 14 := by
    apply Decidable.byContradiction
    intro hn
    have h9 : pz_mtL[pz_mow m]? = none := List.getElem?_eq_none (by show 14 ≤ pz_mow m; omega)
    unfold pz_mt at h
    rw [h9] at h
    cases h
  have h4 := List.all_eq_true.mp pz_pl2 _ (List.mem_range.mpr h3)
  rw [Bool.or_eq_true] at h4
  rcases h4 with h4 | h4
  · exact absurd (of_decide_eq_true h4) (of_decide_eq_true h2)
  · have h5 := List.all_eq_true.mp h4 _ (pz_look_in h)
    rw [Bool.or_eq_true] at h5
    rcases h5 with h5 | h5
    · exact absurd (of_decide_eq_true h5) h0
    · exact h5
end pzv
