/-! Steps that read or write the heap. -/
section pzh
variable {p : Program} {l : Launch} {e : Env} {R : Room} {s : State} {mm : MethodId} {args : Array Value} {below : List Frame} {meth : Method} {c : Code} {m : Nat} {D : va_G} {tc : Nat → ClassId} {A : Nat → Prop} {b n0 : Nat} {xs : Nat → Int} {ad0 : Nat → Nat} {h0 : pz_H} {Q : State → Prop}
variable {pc pc' n k : Nat} {st : List pz_V} {L : List (Nat × pz_V)} {h : pz_H} {ok ok' : Bool}
theorem pz_is_iff {q cc N : Nat} : pz_is h q cc N = true ↔ h.1[q]? = some (cc, N) := by simp [pz_is]
theorem pz_ix_iff {q cc : Nat} {i : Int} : pz_ix h q cc i = true ↔ ∃ N, h.1[q]? = some (cc, N) ∧ 0 ≤ i ∧ i < (N : Int) := by
  unfold pz_ix
  cases hq : h.1[q]? with
  | none => simp
  | some x =>
    obtain ⟨a, N⟩ := x
    simp only [Bool.and_eq_true, decide_eq_true_eq, Option.some.injEq, Prod.mk.injEq]
    constructor
    · rintro ⟨rfl, h1, h2⟩
      exact ⟨N, ⟨rfl, rfl⟩, h1, h2⟩
    · rintro ⟨N', ⟨rfl, rfl⟩, h1, h2⟩
      exact ⟨rfl, h1, h2⟩
theorem pz_ixs_iff {q : Nat} {i : Int} : pz_ixs h q i = true ↔ ∃ cc N, h.1[q]? = some (cc, N) ∧ (cc = 100 ∨ cc = 103) ∧ 0 ≤ i ∧ i < (N : Int) := by
  unfold pz_ixs
  cases hq : h.1[q]? with
  | none => simp
  | some x =>
    obtain ⟨a, N⟩ := x
    simp only [Bool.and_eq_true, Bool.or_eq_true, decide_eq_true_eq, Option.some.injEq, Prod.mk.injEq]
    constructor
    · rintro ⟨ha, h1, h2⟩
      exact ⟨a, N, ⟨rfl, rfl⟩, ha, h1, h2⟩
    · rintro ⟨a', N', ⟨rfl, rfl⟩, ha, h1, h2⟩
      exact ⟨ha, h1, h2⟩
theorem pz_not0 (hwf : pz_wf n0 h) {q cc N : Nat} (e : h.1[q]? = some (cc, N)) (hc : cc ≠ 103) : q ≠ 0 := by
  rintro rfl
  have h1 := e.symm.trans hwf.2.2.1
  cases h1
  exact hc rfl
theorem pz_cell_i {ad : Nat → Nat} {q N : Nat} (e : h.1[q]? = some (100, N)) : pz_cell ad tc h q = .inl (tc 0, N, .inl (fun k => Int32.ofInt (h.2.1 q k))) := by simp [pz_cell, pz_ln_of e]
theorem pz_cell_l {ad : Nat → Nat} {q N : Nat} (e : h.1[q]? = some (101, N)) : pz_cell ad tc h q = .inl (tc 1, N, .inr (.inl (fun k => h.2.2.1 q k))) := by simp [pz_cell, pz_ln_of e]
theorem pz_cell_r {ad : Nat → Nat} {q N : Nat} (e : h.1[q]? = some (102, N)) : pz_cell ad tc h q = .inl (tc 2, N, .inr (.inr (.inr (.inr (fun k => (h.2.2.2.1 q k).map ad))))) := by simp [pz_cell, pz_ln_of e]
theorem pz_cell_o {ad : Nat → Nat} {q cc N : Nat} (e : h.1[q]? = some (cc, N)) (hc : cc < 100) : pz_cell ad tc h q = .inr (cc, (List.range N).map (fun k => pz_v ad (pz_gf h q k (pz_ty cc k)))) := by
  have h1 : ¬ cc = 100 := by omega
  have h2 : ¬ cc = 101 := by omega
  have h3 : ¬ cc = 102 := by omega
  simp [pz_cell, pz_ln_of e, h1, h2, h3]
theorem pz_wf_sI (hwf : pz_wf n0 h) {q j : Nat} {v : Int} (hv : pz_in v = true) : pz_wf n0 (pz_sI h q j v) := by
  refine ⟨fun a k => ?_, hwf.2.1, hwf.2.2.1, hwf.2.2.2⟩
  show pz_in (pz_up h.2.1 q j v a k) = true
  unfold pz_up
  split
  · exact hv
  · exact hwf.1 a k
theorem pz_wf_sL (hwf : pz_wf n0 h) {q j : Nat} {v : Int64} : pz_wf n0 (pz_sL h q j v) := hwf
theorem pz_wf_sR (hwf : pz_wf n0 h) {q j : Nat} {v : Option Nat} (hv : ∀ x, v = some x → x < h.1.length) : pz_wf n0 (pz_sR h q j v) := by
  refine ⟨hwf.1, fun a k r hr => ?_, hwf.2.2.1, hwf.2.2.2⟩
  have hr : pz_up h.2.2.2.1 q j v a k = some r := hr
  unfold pz_up at hr
  split at hr
  · exact hv r hr
  · exact hwf.2.1 a k r hr
theorem pz_up_ne {α : Type} {f : Nat → Nat → α} {q j a k : Nat} {v : α} (h1 : a ≠ q) : pz_up f q j v a k = f a k := by
  unfold pz_up
  rw [if_neg (fun q => h1 q.1)]
-- a write into one cell
theorem pz_w_put {q : Nat} {h' : pz_H} {st' : List pz_V} (hs : h'.1 = h.1) (hcn : h'.2.2.2.2 = h.2.2.2.2) (hq : ∀ a k, a ≠ q → h'.2.1 a k = h.2.1 a k ∧ h'.2.2.1 a k = h.2.2.1 a k ∧ h'.2.2.2.1 a k = h.2.2.2.1 a k) {cc N : Nat} (hsh : h.1[q]? = some (cc, N)) (hc : cc ≠ 103)
    (hwf' : pz_wf n0 h → (∀ v ∈ st, pz_wv h.1.length v) → pz_wf n0 h' ∧ ∀ v ∈ st', pz_wv h.1.length v)
    (row : ∀ (ad : Nat → Nat) (H : Heap) (locs : List Loc) (ls : Array Slot) (cells slots : Nat), pz_wf n0 h → (∀ v ∈ st, pz_wv h.1.length v) → va_P D pz_cls (pz_w ad tc h) H → va_D A (pz_w ad tc h) → va_S A s.heap H locs → (pz_w ad tc h)[q - 1]? = some (ad q, pz_cell ad tc h q) → q ≠ 0 →
      (∀ (H1 : Heap) (locs1 : List Loc), va_P D pz_cls ((pz_w ad tc h).set (q - 1) (ad q, pz_cell ad tc h' q)) H1 → va_D A ((pz_w ad tc h).set (q - 1) (ad q, pz_cell ad tc h' q)) → va_S A s.heap H1 locs1 → W p l e R s mm args below meth c H1 locs1 cells slots Q (F0 mm pc' ls (st'.map (pz_v ad)))) → W p l e R s mm args below meth c H locs cells slots Q (F0 mm pc ls (st.map (pz_v ad))))
    (kk : pz_PW p l e R s mm args below meth c m D tc A b n0 xs ad0 h0 Q (pc', st', L, h', ok')) : pz_PW p l e R s mm args below meth c m D tc A b n0 xs ad0 h0 Q (pc, st, L, h, ok) := by
  intro ad H locs ls a1 a2 a3 a4 a5 a6 hP hD hS hwf hst hL hl
  have hq0 := pz_not0 hwf hsh hc
  have hlt := pz_at0 hsh
  refine row ad H locs ls _ _ hwf hst hP hD hS (pz_w_at hq0 hlt) hq0 (fun H1 locs1 hP1 hD1 hS1 => ?_)
  have he : (pz_w ad tc h).set (q - 1) (ad q, pz_cell ad tc h' q) = pz_w ad tc h' :=
    pz_w_set hs hq0 hlt rfl (fun a ha => pz_cell_congr (by simp [pz_ln, hs]) (fun k => (hq a k ha).1) (fun k => (hq a k ha).2.1) (fun k => (hq a k ha).2.2))
  rw [he] at hP1 hD1
  have w := kk ad H1 locs1 ls a1 (by show _ ≤ h'.1.length; rw [hs]; exact a2) (by show _ ≤ h'.2.2.2.2.1; rw [hcn]; exact a3) (by show _ ≤ h'.2.2.2.2.2; rw [hcn]; exact a4) a5
    (fun k hk => by show h'.2.1 0 k = xs k; rw [(hq 0 k (Ne.symm hq0)).1]; exact a6 k hk) hP1 hD1 hS1 (hwf' hwf hst).1 (fun v hv => by show pz_wv h'.1.length v; rw [hs]; exact (hwf' hwf hst).2 v hv) (fun v hv => by show pz_wv h'.1.length v.2; rw [hs]; exact hL v hv) hl
  have e1 : h'.2.2.2.2.1 = h.2.2.2.2.1 := by rw [hcn]
  have e2 : h'.2.2.2.2.2 = h.2.2.2.2.2 := by rw [hcn]
  show W p l e R s mm args below meth c H1 locs1 (h.2.2.2.2.1 - h0.2.2.2.2.1) (h.2.2.2.2.2 - h0.2.2.2.2.2) Q _
  rw [← e1, ← e2]
  exact w
theorem pz_i_iald (X : pz_Cx p l s mm args meth c m D tc A b n0 xs) (hd : decode (pz_b m) pc = .ok (.iaload, 1)) {own nL : Nat} {ini : Bool} (hok : (pz_step own nL ini .iaload 1 pc st L h).2.2.2.2 = true) (kk : pz_PW p l e R s mm args below meth c m D tc A b n0 xs ad0 h0 Q (pz_step own nL ini .iaload 1 pc st L h)) : pz_PW p l e R s mm args below meth c m D tc A b n0 xs ad0 h0 Q (pc, st, L, h, ok) := by
  obtain ⟨hx, hb, hml, hown, hts, hini, hK, hA, hX, hbl, hbA⟩ := X
  rcases st with _ | ⟨i | i | i, _ | ⟨q | q | q, r⟩⟩
  case cons.inl.cons.inr.inr =>
    cases q with
    | none => exact pz_no hok
    | some q =>
      have hok : pz_ixs h q i = true := hok
      obtain ⟨cc, N, hsh, hcc, hi0, hi1⟩ := pz_ixs_iff.mp hok
      have kk : pz_PW p l e R s mm args below meth c m D tc A b n0 xs ad0 h0 Q (pc + 1, .inl (h.2.1 q i.toNat) :: r, L, h, pz_ixs h q i) := kk
      refine pz_w_stk (st' := .inl (h.2.1 q i.toNat) :: r) (fun hwf hst v hv => ?_) (fun ad H locs ls cells slots hwf hst hP hS hb0 hxs w => ?_) kk
      · rcases List.mem_cons.mp hv with rfl | hv
        · exact hwf.1 q _
        · exact hst v (List.mem_cons_of_mem _ (List.mem_cons_of_mem _ hv))
      · have hi : pz_in i = true := hst (.inl i) List.mem_cons_self
        show W p l e R s mm args below meth c H locs cells slots Q (F0 mm pc ls (.int (Int32.ofInt i) :: .ref (ad q) :: r.map (pz_v ad)))
        rcases hcc with rfl | rfl
        · have hq0 := pz_not0 hwf hsh (by decide)
          have hat := pz_w_at (ad := ad) (tc := tc) hq0 (pz_at0 hsh)
          rw [pz_cell_i hsh] at hat
          refine va_iald hx hb hK hP (q - 1) 0 hat rfl (pz_idx hi hi0 hi1) hd ?_
          rw [pz_clamp hi]
          exact w
        · have hq0 := hwf.2.2.2 q N hsh
          subst hq0
          have hN : N = n0 := by have h1 := hsh.symm.trans hwf.2.2.1; cases h1; rfl
          subst hN
          rw [hb0]
          refine va_sld hx hb hX hbl hbA hS (pz_idx hi hi0 hi1) hd ?_
          rw [pz_clamp hi]
          have hk : i.toNat < N := by omega
          have e9 := hxs i.toNat hk
          show W p l e R s mm args below meth c H locs cells slots Q (F0 mm (pc + 1) ls (.int (Int32.ofInt (xs i.toNat)) :: r.map (pz_v ad)))
          rw [← e9]
          exact w
  all_goals exact pz_no hok
theorem pz_i_lald (X : pz_Cx p l s mm args meth c m D tc A b n0 xs) (hd : decode (pz_b m) pc = .ok (.laload, 1)) {own nL : Nat} {ini : Bool} (hok : (pz_step own nL ini .laload 1 pc st L h).2.2.2.2 = true) (kk : pz_PW p l e R s mm args below meth c m D tc A b n0 xs ad0 h0 Q (pz_step own nL ini .laload 1 pc st L h)) : pz_PW p l e R s mm args below meth c m D tc A b n0 xs ad0 h0 Q (pc, st, L, h, ok) := by
  obtain ⟨hx, hb, hml, hown, hts, hini, hK, hA, hX, hbl, hbA⟩ := X
  rcases st with _ | ⟨i | i | i, _ | ⟨q | q | q, r⟩⟩
  case cons.inl.cons.inr.inr =>
    cases q with
    | none => exact pz_no hok
    | some q =>
      have hok : pz_ix h q 101 i = true := hok
      obtain ⟨N, hsh, hi0, hi1⟩ := pz_ix_iff.mp hok
      have kk : pz_PW p l e R s mm args below meth c m D tc A b n0 xs ad0 h0 Q (pc + 1, .inr (.inl (h.2.2.1 q i.toNat)) :: r, L, h, pz_ix h q 101 i) := kk
      refine pz_w_stk (st' := .inr (.inl (h.2.2.1 q i.toNat)) :: r) (fun hwf hst v hv => ?_) (fun ad H locs ls cells slots hwf hst hP hS hb0 hxs w => ?_) kk
      · rcases List.mem_cons.mp hv with rfl | hv
        · exact trivial
        · exact hst v (List.mem_cons_of_mem _ (List.mem_cons_of_mem _ hv))
      · have hi : pz_in i = true := hst (.inl i) List.mem_cons_self
        have hq0 := pz_not0 hwf hsh (by decide)
        have hat := pz_w_at (ad := ad) (tc := tc) hq0 (pz_at0 hsh)
        rw [pz_cell_l hsh] at hat
        show W p l e R s mm args below meth c H locs cells slots Q (F0 mm pc ls (.int (Int32.ofInt i) :: .ref (ad q) :: r.map (pz_v ad)))
        refine va_lald hx hb hK hP (q - 1) 1 hat rfl (pz_idx hi hi0 hi1) hd ?_
        rw [pz_clamp hi]
        exact w
  all_goals exact pz_no hok
theorem pz_i_aald (X : pz_Cx p l s mm args meth c m D tc A b n0 xs) (hd : decode (pz_b m) pc = .ok (.aaload, 1)) {own nL : Nat} {ini : Bool} (hok : (pz_step own nL ini .aaload 1 pc st L h).2.2.2.2 = true) (kk : pz_PW p l e R s mm args below meth c m D tc A b n0 xs ad0 h0 Q (pz_step own nL ini .aaload 1 pc st L h)) : pz_PW p l e R s mm args below meth c m D tc A b n0 xs ad0 h0 Q (pc, st, L, h, ok) := by
  obtain ⟨hx, hb, hml, hown, hts, hini, hK, hA, hX, hbl, hbA⟩ := X
  rcases st with _ | ⟨i | i | i, _ | ⟨q | q | q, r⟩⟩
  case cons.inl.cons.inr.inr =>
    cases q with
    | none => exact pz_no hok
    | some q =>
      have hok : pz_ix h q 102 i = true := hok
      obtain ⟨N, hsh, hi0, hi1⟩ := pz_ix_iff.mp hok
      have kk : pz_PW p l e R s mm args below meth c m D tc A b n0 xs ad0 h0 Q (pc + 1, .inr (.inr (h.2.2.2.1 q i.toNat)) :: r, L, h, pz_ix h q 102 i) := kk
      refine pz_w_stk (st' := .inr (.inr (h.2.2.2.1 q i.toNat)) :: r) (fun hwf hst v hv => ?_) (fun ad H locs ls cells slots hwf hst hP hS hb0 hxs w => ?_) kk
      · rcases List.mem_cons.mp hv with rfl | hv
        · exact fun x hx => hwf.2.1 q _ x hx
        · exact hst v (List.mem_cons_of_mem _ (List.mem_cons_of_mem _ hv))
      · have hi : pz_in i = true := hst (.inl i) List.mem_cons_self
        have hq0 := pz_not0 hwf hsh (by decide)
        have hat := pz_w_at (ad := ad) (tc := tc) hq0 (pz_at0 hsh)
        rw [pz_cell_r hsh] at hat
        show W p l e R s mm args below meth c H locs cells slots Q (F0 mm pc ls (.int (Int32.ofInt i) :: .ref (ad q) :: r.map (pz_v ad)))
        refine va_aldq hx hb hK hP (q - 1) 2 hat rfl (pz_idx hi hi0 hi1) hd ?_
        rw [pz_clamp hi]
        exact w
  all_goals exact pz_no hok
theorem pz_i_alen (X : pz_Cx p l s mm args meth c m D tc A b n0 xs) (hd : decode (pz_b m) pc = .ok (.arraylength, 1)) {own nL : Nat} {ini : Bool} (hok : (pz_step own nL ini .arraylength 1 pc st L h).2.2.2.2 = true) (kk : pz_PW p l e R s mm args below meth c m D tc A b n0 xs ad0 h0 Q (pz_step own nL ini .arraylength 1 pc st L h)) : pz_PW p l e R s mm args below meth c m D tc A b n0 xs ad0 h0 Q (pc, st, L, h, ok) := by
  obtain ⟨hx, hb, hml, hown, hts, hini, hK, hA, hX, hbl, hbA⟩ := X
  rcases st with _ | ⟨q | q | q, r⟩
  case cons.inr.inr =>
    cases q with
    | none => exact pz_no hok
    | some q =>
      have hok : (decide (100 ≤ (pz_ln h q).1) && (decide ((pz_ln h q).1 ≤ 103) && decide ((pz_ln h q).2 ≤ 1000000))) = true := hok
      simp only [Bool.and_eq_true, decide_eq_true_eq] at hok
      obtain ⟨o1, o2, o3⟩ := hok
      cases hsh : h.1[q]? with
      | none =>
        simp [pz_ln, hsh] at o1
      | some x =>
        obtain ⟨cc, N⟩ := x
        have kk : pz_PW p l e R s mm args below meth c m D tc A b n0 xs ad0 h0 Q (pc + 1, .inl ((pz_ln h q).2 : Int) :: r, L, h, (pz_step own nL ini .arraylength 1 pc (.inr (.inr (some q)) :: r) L h).2.2.2.2) := kk
        rw [pz_ln_of hsh] at o1 o2 o3 kk
        dsimp only at o1 o2 o3 kk
        refine pz_w_stk (st' := .inl (N : Int) :: r) (fun hwf hst v hv => ?_) (fun ad H locs ls cells slots hwf hst hP hS hb0 hxs w => ?_) kk
        · rcases List.mem_cons.mp hv with rfl | hv
          · show pz_in (N : Int) = true
            rw [pz_in_iff]
            omega
          · exact hst v (List.mem_cons_of_mem _ hv)
        · show W p l e R s mm args below meth c H locs cells slots Q (F0 mm pc ls (.ref (ad q) :: r.map (pz_v ad)))
          have w : W p l e R s mm args below meth c H locs cells slots Q (F0 mm (pc + 1) ls (.int (Int32.ofInt (N : Int)) :: r.map (pz_v ad))) := w
          by_cases h3 : cc = 103
          · subst h3
            have hq0 := hwf.2.2.2 q N hsh
            subst hq0
            have hN : N = n0 := by have h1 := hsh.symm.trans hwf.2.2.1; cases h1; rfl
            subst hN
            rw [hb0]
            refine va_slen hx hb hX hbl hbA hS hd ?_
            rw [← Int32.ofInt_eq_ofNat]
            exact w
          · have hq0 := pz_not0 hwf hsh h3
            have hat := pz_w_at (ad := ad) (tc := tc) hq0 (pz_at0 hsh)
            have hcs : cc = 100 ∨ cc = 101 ∨ cc = 102 := by omega
            rcases hcs with rfl | rfl | rfl
            · rw [pz_cell_i hsh] at hat
              exact va_alen hx hb hK hP (q - 1) 0 hat (ty := .int) rfl (v := Int32.ofInt (N : Int)) Int32.ofInt_eq_ofNat.symm hd w
            · rw [pz_cell_l hsh] at hat
              exact va_alen hx hb hK hP (q - 1) 1 hat (ty := .long) rfl (v := Int32.ofInt (N : Int)) Int32.ofInt_eq_ofNat.symm hd w
            · rw [pz_cell_r hsh] at hat
              exact va_alen hx hb hK hP (q - 1) 2 hat (ty := .object (pz_R pz_nodeC)) rfl (v := Int32.ofInt (N : Int)) Int32.ofInt_eq_ofNat.symm hd w
  all_goals exact pz_no hok
theorem pz_i_iast (X : pz_Cx p l s mm args meth c m D tc A b n0 xs) (hd : decode (pz_b m) pc = .ok (.iastore, 1)) {own nL : Nat} {ini : Bool} (hok : (pz_step own nL ini .iastore 1 pc st L h).2.2.2.2 = true) (kk : pz_PW p l e R s mm args below meth c m D tc A b n0 xs ad0 h0 Q (pz_step own nL ini .iastore 1 pc st L h)) : pz_PW p l e R s mm args below meth c m D tc A b n0 xs ad0 h0 Q (pc, st, L, h, ok) := by
  obtain ⟨hx, hb, hml, hown, hts, hini, hK, hA, hX, hbl, hbA⟩ := X
  rcases st with _ | ⟨v | v | v, _ | ⟨i | i | i, _ | ⟨q | q | q, r⟩⟩⟩
  case cons.inl.cons.inl.cons.inr.inr =>
    cases q with
    | none => exact pz_no hok
    | some q =>
      have hok : pz_ix h q 100 i = true := hok
      obtain ⟨N, hsh, hi0, hi1⟩ := pz_ix_iff.mp hok
      have kk : pz_PW p l e R s mm args below meth c m D tc A b n0 xs ad0 h0 Q (pc + 1, r, L, pz_sI h q i.toNat v, pz_ix h q 100 i) := kk
      refine pz_w_put (q := q) (h' := pz_sI h q i.toNat v) (st' := r) rfl rfl (fun a k ha => ⟨pz_up_ne ha, rfl, rfl⟩) hsh (by decide) (fun hwf hst => ⟨pz_wf_sI hwf (hst (.inl v) List.mem_cons_self), fun w hw => hst w (List.mem_cons_of_mem _ (List.mem_cons_of_mem _ (List.mem_cons_of_mem _ hw)))⟩) (fun ad H locs ls cells slots hwf hst hP hD hS hat hq0 w => ?_) kk
      have hi : pz_in i = true := hst (.inl i) (List.mem_cons_of_mem _ List.mem_cons_self)
      rw [pz_cell_i hsh] at hat
      show W p l e R s mm args below meth c H locs cells slots Q (F0 mm pc ls (.int (Int32.ofInt v) :: .int (Int32.ofInt i) :: .ref (ad q) :: r.map (pz_v ad)))
      refine va_iast hx hb hK hP hD hS (q - 1) 0 hat rfl (pz_idx hi hi0 hi1) hd (fun H1 locs1 hP1 hD1 hS1 => ?_)
      have he : (Sum.inl (tc 0, N, .inl (upd (fun k => Int32.ofInt (h.2.1 q k)) (Int32.ofInt i).toNatClampNeg (Int32.ofInt v))) : va_E) = pz_cell ad tc (pz_sI h q i.toNat v) q := by
        rw [pz_cell_i (h := pz_sI h q i.toNat v) hsh, pz_clamp hi]
        congr 4
        funext j
        show upd (fun k => Int32.ofInt (h.2.1 q k)) i.toNat (Int32.ofInt v) j = Int32.ofInt (pz_up h.2.1 q i.toNat v q j)
        unfold upd pz_up
        by_cases hj : j = i.toNat
        · simp [hj]
        · simp [hj]
      rw [he] at hP1 hD1
      exact w H1 locs1 hP1 hD1 hS1
  all_goals exact pz_no hok
theorem pz_i_last (X : pz_Cx p l s mm args meth c m D tc A b n0 xs) (hd : decode (pz_b m) pc = .ok (.lastore, 1)) {own nL : Nat} {ini : Bool} (hok : (pz_step own nL ini .lastore 1 pc st L h).2.2.2.2 = true) (kk : pz_PW p l e R s mm args below meth c m D tc A b n0 xs ad0 h0 Q (pz_step own nL ini .lastore 1 pc st L h)) : pz_PW p l e R s mm args below meth c m D tc A b n0 xs ad0 h0 Q (pc, st, L, h, ok) := by
  obtain ⟨hx, hb, hml, hown, hts, hini, hK, hA, hX, hbl, hbA⟩ := X
  rcases st with _ | ⟨v | v | v, _ | ⟨i | i | i, _ | ⟨q | q | q, r⟩⟩⟩
  case cons.inr.inl.cons.inl.cons.inr.inr =>
    cases q with
    | none => exact pz_no hok
    | some q =>
      have hok : pz_ix h q 101 i = true := hok
      obtain ⟨N, hsh, hi0, hi1⟩ := pz_ix_iff.mp hok
      have kk : pz_PW p l e R s mm args below meth c m D tc A b n0 xs ad0 h0 Q (pc + 1, r, L, pz_sL h q i.toNat v, pz_ix h q 101 i) := kk
      refine pz_w_put (q := q) (h' := pz_sL h q i.toNat v) (st' := r) rfl rfl (fun a k ha => ⟨rfl, pz_up_ne ha, rfl⟩) hsh (by decide) (fun hwf hst => ⟨pz_wf_sL hwf, fun w hw => hst w (List.mem_cons_of_mem _ (List.mem_cons_of_mem _ (List.mem_cons_of_mem _ hw)))⟩) (fun ad H locs ls cells slots hwf hst hP hD hS hat hq0 w => ?_) kk
      have hi : pz_in i = true := hst (.inl i) (List.mem_cons_of_mem _ List.mem_cons_self)
      rw [pz_cell_l hsh] at hat
      show W p l e R s mm args below meth c H locs cells slots Q (F0 mm pc ls (.long v :: .int (Int32.ofInt i) :: .ref (ad q) :: r.map (pz_v ad)))
      refine va_last hx hb hK hP hD hS (q - 1) 1 hat rfl (pz_idx hi hi0 hi1) hd (fun H1 locs1 hP1 hD1 hS1 => ?_)
      have he : (Sum.inl (tc 1, N, .inr (.inl (vp_updL (fun k => h.2.2.1 q k) (Int32.ofInt i).toNatClampNeg v))) : va_E) = pz_cell ad tc (pz_sL h q i.toNat v) q := by
        rw [pz_cell_l (h := pz_sL h q i.toNat v) hsh, pz_clamp hi]
        congr 5
        funext j
        show vp_updL (fun k => h.2.2.1 q k) i.toNat v j = pz_up h.2.2.1 q i.toNat v q j
        unfold vp_updL pz_up
        by_cases hj : j = i.toNat
        · simp [hj]
        · simp [hj]
      rw [he] at hP1 hD1
      exact w H1 locs1 hP1 hD1 hS1
  all_goals exact pz_no hok
end pzh
