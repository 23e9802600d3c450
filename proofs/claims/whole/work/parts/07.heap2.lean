/-! Fields, arrays of references, new cells. -/
section pzf
variable {p : Program} {l : Launch} {e : Env} {R : Room} {s : State} {mm : MethodId} {args : Array Value} {below : List Frame} {meth : Method} {c : Code} {m : Nat} {D : va_G} {tc : Nat → ClassId} {A : Nat → Prop} {b n0 : Nat} {xs : Nat → Int} {ad0 : Nat → Nat} {h0 : pz_H} {Q : State → Prop}
variable {pc pc' n k : Nat} {st : List pz_V} {L : List (Nat × pz_V)} {h : pz_H} {ok ok' : Bool}
theorem pz_i_aast (X : pz_Cx p l s mm args meth c m D tc A b n0 xs) (hd : decode (pz_b m) pc = .ok (.aastore, 1)) {own nL : Nat} {ini : Bool} (hok : (pz_step own nL ini .aastore 1 pc st L h).2.2.2.2 = true) (kk : pz_PW p l e R s mm args below meth c m D tc A b n0 xs ad0 h0 Q (pz_step own nL ini .aastore 1 pc st L h)) : pz_PW p l e R s mm args below meth c m D tc A b n0 xs ad0 h0 Q (pc, st, L, h, ok) := by
  obtain ⟨hx, hb, hml, hown, hts, hini, hK, hA, hX, hbl, hbA⟩ := X
  rcases st with _ | ⟨v | v | v, _ | ⟨i | i | i, _ | ⟨q | q | q, r⟩⟩⟩
  case cons.inr.inr.cons.inl.cons.inr.inr =>
    cases q with
    | none => exact pz_no hok
    | some q =>
      have hok2 : (pz_ix h q 102 i && (v.isNone || pz_is h (v.getD 0) pz_nodeC (pz_nf pz_nodeC))) = true := hok
      rw [Bool.and_eq_true] at hok2
      obtain ⟨N, hsh, hi0, hi1⟩ := pz_ix_iff.mp hok2.1
      have kk : pz_PW p l e R s mm args below meth c m D tc A b n0 xs ad0 h0 Q (pc + 1, r, L, pz_sR h q i.toNat v, (pz_ix h q 102 i && (v.isNone || pz_is h (v.getD 0) pz_nodeC (pz_nf pz_nodeC)))) := kk
      refine pz_w_put (q := q) (h' := pz_sR h q i.toNat v) (st' := r) rfl rfl (fun a k ha => ⟨rfl, rfl, pz_up_ne ha⟩) hsh (by decide) (fun hwf hst => ⟨pz_wf_sR hwf (hst (.inr (.inr v)) List.mem_cons_self), fun w hw => hst w (List.mem_cons_of_mem _ (List.mem_cons_of_mem _ (List.mem_cons_of_mem _ hw)))⟩) (fun ad H locs ls cells slots hwf hst hP hD hS hat hq0 w => ?_) kk
      have hi : pz_in i = true := hst (.inl i) (List.mem_cons_of_mem _ List.mem_cons_self)
      rw [pz_cell_r hsh] at hat
      have he : ∀ u : Option Nat, u = v.map ad → (Sum.inl (tc 2, N, .inr (.inr (.inr (.inr (va_up (fun k => (h.2.2.2.1 q k).map ad) (Int32.ofInt i).toNatClampNeg u))))) : va_E) = pz_cell ad tc (pz_sR h q i.toNat v) q := by
        rintro u rfl
        rw [pz_cell_r (h := pz_sR h q i.toNat v) hsh, pz_clamp hi]
        congr 8
        funext j
        show va_up (fun k => (h.2.2.2.1 q k).map ad) i.toNat (v.map ad) j = (pz_up h.2.2.2.1 q i.toNat v q j).map ad
        unfold va_up pz_up
        by_cases hj : j = i.toNat
        · simp [hj]
        · simp [hj]
      cases v with
      | none =>
        show W p l e R s mm args below meth c H locs cells slots Q (F0 mm pc ls (.null :: .int (Int32.ofInt i) :: .ref (ad q) :: r.map (pz_v ad)))
        refine va_astqN hx hb hK hP hD hS (q - 1) 2 hat rfl (pz_idx hi hi0 hi1) hd (fun H1 locs1 hP1 hD1 hS1 => ?_)
        rw [he none rfl] at hP1 hD1
        exact w H1 locs1 hP1 hD1 hS1
      | some v =>
        have hn : h.1[v]? = some (pz_nodeC, pz_nf pz_nodeC) := pz_is_iff.mp (by simpa using hok2.2)
        have hCO := pz_co pz_nodeC (by decide)
        have hv0 := pz_not0 hwf hn (by decide)
        have hatv := pz_w_at (ad := ad) (tc := tc) hv0 (pz_at0 hn)
        rw [pz_cell_o hn (by decide)] at hatv
        show W p l e R s mm args below meth c H locs cells slots Q (F0 mm pc ls (.ref (ad v) :: .int (Int32.ofInt i) :: .ref (ad q) :: r.map (pz_v ad)))
        refine va_astq hx hb hK hP hD hS (q - 1) 2 (v - 1) pz_nodeC hat (r := (pz_R pz_nodeC, pz_F pz_nodeC, pz_nf pz_nodeC)) rfl hatv hCO.1 (pz_idx hi hi0 hi1) hd (fun H1 locs1 hP1 hD1 hS1 => ?_)
        rw [he (some (ad v)) rfl] at hP1 hD1
        exact w H1 locs1 hP1 hD1 hS1
  all_goals exact pz_no hok
theorem pz_i_get {x : Nat} (X : pz_Cx p l s mm args meth c m D tc A b n0 xs) (hd : decode (pz_b m) pc = .ok (.getfield x, 3)) {nL : Nat} {ini : Bool} (hok : (pz_step (pz_mow m) nL ini (.getfield x) 3 pc st L h).2.2.2.2 = true) (kk : pz_PW p l e R s mm args below meth c m D tc A b n0 xs ad0 h0 Q (pz_step (pz_mow m) nL ini (.getfield x) 3 pc st L h)) : pz_PW p l e R s mm args below meth c m D tc A b n0 xs ad0 h0 Q (pc, st, L, h, ok) := by
  obtain ⟨hx, hb, hml, hown, hts, hini, hK, hA, hX, hbl, hbA⟩ := X
  unfold pz_step at hok kk
  dsimp only at hok kk
  cases hf : pz_fd (pz_mow m) x with
  | none => rw [hf] at hok; exact pz_no hok
  | some ck =>
    rw [hf] at hok kk
    dsimp only at hok kk
    obtain ⟨hlk, hkn, hcn⟩ := pz_fd_ok hf
    obtain ⟨hcl, hc100, hlays, hty, hnm, hdecl, htf, hins, hint⟩ := pz_co ck.1 hcn
    rcases st with _ | ⟨q | q | q, r⟩
    case cons.inr.inr =>
      cases q with
      | none => exact pz_no hok
      | some q =>
        have hok : pz_is h q ck.1 (pz_nf ck.1) = true := hok
        have hsh := pz_is_iff.mp hok
        have kk : pz_PW p l e R s mm args below meth c m D tc A b n0 xs ad0 h0 Q (pc + 3, pz_gf h q ck.2.1 (pz_ty ck.1 ck.2.1) :: r, L, h, pz_is h q ck.1 (pz_nf ck.1)) := kk
        refine pz_w_stk (st' := pz_gf h q ck.2.1 (pz_ty ck.1 ck.2.1) :: r) (fun hwf hst v hv => ?_) (fun ad H locs ls cells slots hwf hst hP hS hb0 hxs w => ?_) kk
        · rcases List.mem_cons.mp hv with rfl | hv
          · unfold pz_gf
            split
            · exact trivial
            · exact fun x hx => hwf.2.1 q _ x hx
            · exact hwf.1 q _
          · exact hst v (List.mem_cons_of_mem _ hv)
        · have hq0 := pz_not0 hwf hsh (by omega)
          have hat := pz_w_at (ad := ad) (tc := tc) hq0 (pz_at0 hsh)
          rw [pz_cell_o hsh hc100] at hat
          show W p l e R s mm args below meth c H locs cells slots Q (F0 mm pc ls (.ref (ad q) :: r.map (pz_v ad)))
          refine va_get (D := D) (ci := ck.1) (v := pz_v ad (pz_gf h q ck.2.1 (pz_ty ck.1 ck.2.1))) (C := pz_R ck.1) (T := pz_F ck.1) (N := pz_nf ck.1) hx hb hts hlays hown hK hP (q - 1) hat hcl ck.2.1 hkn (hts _ hlk) (fun y hy => by rw [hdecl _ hkn] at hy; exact hy) (by simp [hkn]) hd w
    all_goals exact pz_no hok
theorem pz_fits {ty : FieldType} {t : Nat} {v : pz_V} (ad : Nat → Nat) (ht : pz_tyok t ty) (hf : pz_fit t v = true) : narrow ty (pz_v ad v) = pz_v ad v ∧ fits ty (pz_v ad v) = true := by
  rcases v with a | x | r
  · simp only [pz_fit, Bool.or_eq_true, Bool.and_eq_true, decide_eq_true_eq] at hf
    rcases ht with ⟨h1, rfl⟩ | ⟨h1, rfl⟩ | ⟨h1, rfl⟩ | ⟨h1, h2⟩
    · exact ⟨rfl, rfl⟩
    · subst h1
      rcases hf with hf | ⟨-, rfl | rfl⟩
      · cases hf
      · exact ⟨(by decide : narrow .boolean (.int (Int32.ofInt 0)) = .int (Int32.ofInt 0)), (by decide : fits .boolean (.int (Int32.ofInt 0)) = true)⟩
      · exact ⟨(by decide : narrow .boolean (.int (Int32.ofInt 1)) = .int (Int32.ofInt 1)), (by decide : fits .boolean (.int (Int32.ofInt 1)) = true)⟩
    · omega
    · omega
  · have hf : t = 2 := of_decide_eq_true hf
    rcases ht with ⟨h1, rfl⟩ | ⟨h1, rfl⟩ | ⟨h1, rfl⟩ | ⟨h1, h2⟩
    · omega
    · omega
    · exact ⟨rfl, rfl⟩
    · omega
  · have hf : t = 3 := of_decide_eq_true hf
    rcases ht with ⟨h1, rfl⟩ | ⟨h1, rfl⟩ | ⟨h1, rfl⟩ | ⟨h1, h2⟩
    · omega
    · omega
    · omega
    · rcases h2 with ⟨nm, rfl⟩ | ⟨u, rfl⟩ <;> cases r <;> exact ⟨rfl, rfl⟩
theorem pz_gf_pf {q k j t : Nat} {v : pz_V} (hf : pz_fit t v = true) : pz_gf (pz_pf h q k v) q k t = v := by
  rcases v with a | x | r
  · simp only [pz_fit, Bool.or_eq_true, Bool.and_eq_true, decide_eq_true_eq] at hf
    have ht : t = 0 ∨ t = 1 := by
      rcases hf with h1 | h1
      · exact Or.inl h1
      · exact Or.inr h1.1
    rcases ht with rfl | rfl <;> simp [pz_gf, pz_pf, pz_sI, pz_up]
  · have hf : t = 2 := of_decide_eq_true hf
    subst hf
    simp [pz_gf, pz_pf, pz_sL, pz_up]
  · have hf : t = 3 := of_decide_eq_true hf
    subst hf
    simp [pz_gf, pz_pf, pz_sR, pz_up]
theorem pz_gf_ne {q k j t : Nat} {v : pz_V} (hj : j ≠ k) : pz_gf (pz_pf h q k v) q j t = pz_gf h q j t := by
  rcases v with a | x | r <;> unfold pz_gf pz_pf <;> split <;> simp [pz_sI, pz_sL, pz_sR, pz_up, hj]
theorem pz_pf_sh {q k : Nat} {v : pz_V} : (pz_pf h q k v).1 = h.1 ∧ (pz_pf h q k v).2.2.2.2 = h.2.2.2.2 := by
  rcases v with a | x | r <;> exact ⟨rfl, rfl⟩
theorem pz_pf_ne {q k : Nat} {v : pz_V} (a j : Nat) (ha : a ≠ q) : (pz_pf h q k v).2.1 a j = h.2.1 a j ∧ (pz_pf h q k v).2.2.1 a j = h.2.2.1 a j ∧ (pz_pf h q k v).2.2.2.1 a j = h.2.2.2.1 a j := by
  rcases v with x | x | r
  · exact ⟨pz_up_ne ha, rfl, rfl⟩
  · exact ⟨rfl, pz_up_ne ha, rfl⟩
  · exact ⟨rfl, rfl, pz_up_ne ha⟩
theorem pz_wf_pf (hwf : pz_wf n0 h) {q k : Nat} {v : pz_V} (hv : pz_wv h.1.length v) : pz_wf n0 (pz_pf h q k v) := by
  rcases v with x | x | r
  · exact pz_wf_sI hwf hv
  · exact pz_wf_sL hwf
  · exact pz_wf_sR hwf hv
theorem pz_i_put {x : Nat} (X : pz_Cx p l s mm args meth c m D tc A b n0 xs) (hd : decode (pz_b m) pc = .ok (.putfield x, 3)) {nL : Nat} (hok : (pz_step (pz_mow m) nL (pz_min m) (.putfield x) 3 pc st L h).2.2.2.2 = true) (kk : pz_PW p l e R s mm args below meth c m D tc A b n0 xs ad0 h0 Q (pz_step (pz_mow m) nL (pz_min m) (.putfield x) 3 pc st L h)) : pz_PW p l e R s mm args below meth c m D tc A b n0 xs ad0 h0 Q (pc, st, L, h, ok) := by
  obtain ⟨hx, hb, hml, hown, hts, hini, hK, hA, hX, hbl, hbA⟩ := X
  unfold pz_step at hok kk
  dsimp only at hok kk
  cases hf : pz_fd (pz_mow m) x with
  | none => rw [hf] at hok; exact pz_no hok
  | some ck =>
    rw [hf] at hok kk
    dsimp only at hok kk
    obtain ⟨hlk, hkn, hcn⟩ := pz_fd_ok hf
    obtain ⟨hcl, hc100, hlays, hty, hnm, hdecl, htf, hins, hint⟩ := pz_co ck.1 hcn
    rcases st with _ | ⟨v, _ | ⟨q | q | q, r⟩⟩
    case cons.cons.inr.inr =>
      cases q with
      | none => exact pz_no hok
      | some q =>
        have hok9 := hok
        have hok : (pz_is h q ck.1 (pz_nf ck.1) && (pz_fit (pz_ty ck.1 ck.2.1) v && (!pz_fin ck.1 ck.2.1 || (pz_min m && decide (ck.1 = pz_mow m))))) = true := hok
        simp only [Bool.and_eq_true] at hok
        obtain ⟨o1, o2, o3⟩ := hok
        have hsh := pz_is_iff.mp o1
        have kk : pz_PW p l e R s mm args below meth c m D tc A b n0 xs ad0 h0 Q (pc + 3, r, L, pz_pf h q ck.2.1 v, _) := kk
        refine pz_w_put (q := q) (h' := pz_pf h q ck.2.1 v) (st' := r) pz_pf_sh.1 pz_pf_sh.2 pz_pf_ne hsh (by omega) (fun hwf hst => ⟨pz_wf_pf hwf (hst v List.mem_cons_self), fun w hw => hst w (List.mem_cons_of_mem _ (List.mem_cons_of_mem _ hw))⟩) (fun ad H locs ls cells slots hwf hst hP hD hS hat hq0 w => ?_) kk
        rw [pz_cell_o hsh hc100] at hat
        obtain ⟨g1, g2⟩ := pz_fits ad (htf _ hkn).2 o2
        show W p l e R s mm args below meth c H locs cells slots Q (F0 mm pc ls (pz_v ad v :: .ref (ad q) :: r.map (pz_v ad)))
        have he : (Sum.inr (ck.1, ((List.range (pz_nf ck.1)).map (fun k => pz_v ad (pz_gf h q k (pz_ty ck.1 k)))).set ck.2.1 (pz_v ad v)) : va_E) = pz_cell ad tc (pz_pf h q ck.2.1 v) q := by
          rw [pz_cell_o (h := pz_pf h q ck.2.1 v) (by rw [pz_pf_sh.1]; exact hsh) hc100]
          congr 2
          apply List.ext_getElem?
          intro j
          rw [List.getElem?_set]
          by_cases hj : ck.2.1 = j
          · subst hj
            rw [if_pos rfl, if_pos (by simpa using hkn)]
            simp [hkn, pz_gf_pf (j := 0) o2]
          · rw [if_neg hj]
            simp only [List.getElem?_map]
            by_cases hl : j < pz_nf ck.1
            · rw [List.getElem?_range hl, Option.map_some, Option.map_some, pz_gf_ne (fun q => hj q.symm)]
            · rw [List.getElem?_eq_none (by simp; omega)]
              rfl
        cases hfin : pz_fin ck.1 ck.2.1 with
        | false =>
          refine va_put (D := D) (ci := ck.1) (ty := pz_fty ck.1 ck.2.1) (C := pz_R ck.1) (T := pz_F ck.1) (N := pz_nf ck.1) hx hb hts hlays (pz_fty ck.1) hty hnm hown hK hP hD hS (q - 1) hat hcl ck.2.1 hkn (hts _ hlk) (fun y hy => by rw [hdecl _ hkn] at hy; exact hy) (by rw [← (htf _ hkn).1]; exact hfin) (hty _ hkn) g1 g2 (by simpa using hkn) hd (fun H1 locs1 hP1 hD1 hS1 => ?_)
          rw [he] at hP1 hD1
          exact w H1 locs1 hP1 hD1 hS1
        | true =>
          rw [hfin] at o3
          have o4 : pz_min m = true ∧ ck.1 = pz_mow m := by simpa using o3
          refine va_putF (D := D) (ci := ck.1) (ty := pz_fty ck.1 ck.2.1) (C := pz_R ck.1) (T := pz_F ck.1) (N := pz_nf ck.1) hx hb hts hlays (pz_fty ck.1) hty hnm hown hK hP hD hS (q - 1) hat hcl ck.2.1 hkn (hts _ hlk) (fun y hy => by rw [hdecl _ hkn] at hy; exact hy) (by rw [← (htf _ hkn).1]; exact hfin) (hini o4.1) (by rw [hdecl _ hkn, o4.2]) (hty _ hkn) g1 g2 (by simpa using hkn) hd (fun H1 locs1 hP1 hD1 hS1 => ?_)
          rw [he] at hP1 hD1
          exact w H1 locs1 hP1 hD1 hS1
    all_goals exact pz_no hok
-- new cells
theorem pz_v_ad {ad ad' : Nat → Nat} {N : Nat} (ha : ∀ q, q < N → ad' q = ad q) {v : pz_V} (hv : pz_wv N v) : pz_v ad' v = pz_v ad v := by
  rcases v with a | x | r
  · rfl
  · rfl
  · cases r with
    | none => rfl
    | some x =>
      show Value.ref (ad' x) = Value.ref (ad x)
      rw [ha x (hv x rfl)]
theorem pz_cell_ad {ad ad' : Nat → Nat} {N q : Nat} (ha : ∀ q, q < N → ad' q = ad q) (hr : ∀ k r, h.2.2.2.1 q k = some r → r < N) : pz_cell ad' tc h q = pz_cell ad tc h q := by
  have h1 : ∀ k, (h.2.2.2.1 q k).map ad' = (h.2.2.2.1 q k).map ad := by
    intro k
    cases hk : h.2.2.2.1 q k with
    | none => rfl
    | some r => simp [ha r (hr k r hk)]
  have h2 : ∀ k t, pz_v ad' (pz_gf h q k t) = pz_v ad (pz_gf h q k t) := by
    intro k t
    unfold pz_gf
    split
    · rfl
    · show va_rf _ = va_rf _
      rw [h1]
    · rfl
  simp only [pz_cell, h1, h2]
theorem pz_w_app {ad : Nat → Nat} {q cc N : Nat} {E : va_E} (hwf : pz_wf n0 h) (hE : pz_cell (fun p => if p = h.1.length then q else ad p) tc (pz_nw h cc N) h.1.length = E) : pz_w ad tc h ++ [(q, E)] = pz_w (fun p => if p = h.1.length then q else ad p) tc (pz_nw h cc N) := by
  have hl : 0 < h.1.length := pz_at0 hwf.2.2.1
  have e1 : (pz_nw h cc N).1.length - 1 = (h.1.length - 1) + 1 := by
    show (h.1 ++ [(cc, N)]).length - 1 = _
    rw [List.length_append, List.length_singleton]
    omega
  unfold pz_w
  rw [e1, List.range_succ, List.map_append, List.map_singleton]
  have e2 : h.1.length - 1 + 1 = h.1.length := by omega
  have e3 : (fun p => if p = h.1.length then q else ad p) h.1.length = q := if_pos rfl
  rw [e2, hE, e3]
  congr 1
  apply List.map_congr_left
  intro i hi
  have hi : i < h.1.length - 1 := List.mem_range.mp hi
  have hne : ¬ i + 1 = h.1.length := by omega
  have e4 : (fun p => if p = h.1.length then q else ad p) (i + 1) = ad (i + 1) := if_neg hne
  rw [e4]
  congr 1
  have ha : ∀ q', q' < h.1.length → (fun p => if p = h.1.length then q else ad p) q' = ad q' := fun q' hq => if_neg (by omega)
  have hs : (pz_nw h cc N).1[i + 1]? = h.1[i + 1]? := by
    show (h.1 ++ [(cc, N)])[i + 1]? = _
    rw [List.getElem?_append_left (by omega)]
  have hc : pz_cell ad tc (pz_nw h cc N) (i + 1) = pz_cell ad tc h (i + 1) :=
    pz_cell_congr (by simp [pz_ln, hs]) (fun k => if_neg hne) (fun k => if_neg hne) (fun k => if_neg hne)
  rw [← hc]
  refine (pz_cell_ad ha (fun k r hr => ?_)).symm
  have hr : (if i + 1 = h.1.length then none else h.2.2.2.1 (i + 1) k) = some r := hr
  rw [if_neg hne] at hr
  exact hwf.2.1 _ _ _ hr
theorem pz_wf_nw (hwf : pz_wf n0 h) {cc N : Nat} (hcc : cc ≠ 103) : pz_wf n0 (pz_nw h cc N) := by
  have hl : 0 < h.1.length := pz_at0 hwf.2.2.1
  refine ⟨fun a k => ?_, fun a k r hr => ?_, ?_, fun a N' ha => ?_⟩
  · show pz_in (if a = h.1.length then 0 else h.2.1 a k) = true
    split
    · decide
    · exact hwf.1 a k
  · have hr : (if a = h.1.length then none else h.2.2.2.1 a k) = some r := hr
    show r < (h.1 ++ [(cc, N)]).length
    rw [List.length_append, List.length_singleton]
    split at hr
    · cases hr
    · have := hwf.2.1 a k r hr
      omega
  · show (h.1 ++ [(cc, N)])[0]? = _
    rw [List.getElem?_append_left hl]
    exact hwf.2.2.1
  · have ha : (h.1 ++ [(cc, N)])[a]? = some (103, N') := ha
    by_cases h1 : a < h.1.length
    · rw [List.getElem?_append_left h1] at ha
      exact hwf.2.2.2 a N' ha
    · rw [List.getElem?_append_right (by omega)] at ha
      have h2 : a - h.1.length = 0 := by
        have := (List.getElem?_eq_some_iff.mp ha).1
        simp at this
        omega
      rw [h2] at ha
      have ha : some (cc, N) = some (103, N') := ha
      cases ha
      exact absurd rfl hcc
theorem pz_w_new {cc N : Nat} {r : List pz_V} {E : va_E} (hcc : cc ≠ 103) (hr : ∀ v ∈ r, v ∈ st) (hE : ∀ ad : Nat → Nat, pz_cell ad tc (pz_nw h cc N) h.1.length = E)
    (hR1 : h.2.2.2.2.1 + 1 - h0.2.2.2.2.1 ≤ R.cells) (hR2 : h.2.2.2.2.2 + N - h0.2.2.2.2.2 ≤ R.slots)
    (row : ∀ (ad : Nat → Nat) (H : Heap) (locs : List Loc) (ls : Array Slot) (cells slots : Nat), (∀ v ∈ st, pz_wv h.1.length v) → va_P D pz_cls (pz_w ad tc h) H → va_D A (pz_w ad tc h) → va_S A s.heap H locs → cells + 1 ≤ R.cells → slots + N ≤ R.slots →
      (∀ (q : Nat) (H1 : Heap), va_P D pz_cls (pz_w ad tc h ++ [(q, E)]) H1 → va_D A (pz_w ad tc h ++ [(q, E)]) → va_S A s.heap H1 locs → W p l e R s mm args below meth c H1 locs (cells + 1) (slots + N) Q (F0 mm pc' ls (.ref q :: r.map (pz_v ad)))) → W p l e R s mm args below meth c H locs cells slots Q (F0 mm pc ls (st.map (pz_v ad))))
    (kk : pz_PW p l e R s mm args below meth c m D tc A b n0 xs ad0 h0 Q (pc', .inr (.inr (some h.1.length)) :: r, L, pz_nw h cc N, ok')) : pz_PW p l e R s mm args below meth c m D tc A b n0 xs ad0 h0 Q (pc, st, L, h, ok) := by
  intro ad H locs ls a1 a2 a3 a4 a5 a6 hP hD hS hwf hst hL hl
  have a2 : h0.1.length ≤ h.1.length := a2
  have a3 : h0.2.2.2.2.1 ≤ h.2.2.2.2.1 := a3
  have a4 : h0.2.2.2.2.2 ≤ h.2.2.2.2.2 := a4
  have hlp : 0 < h.1.length := pz_at0 hwf.2.2.1
  have hlen : (pz_nw h cc N).1.length = h.1.length + 1 := by
    show (h.1 ++ [(cc, N)]).length = _
    rw [List.length_append, List.length_singleton]
  refine row ad H locs ls _ _ hst hP hD hS (by show h.2.2.2.2.1 - h0.2.2.2.2.1 + 1 ≤ _; omega) (by show h.2.2.2.2.2 - h0.2.2.2.2.2 + N ≤ _; omega) (fun q H1 hP1 hD1 hS1 => ?_)
  rw [pz_w_app (q := q) hwf (hE _)] at hP1 hD1
  have ha : ∀ q', q' < h.1.length → (fun p => if p = h.1.length then q else ad p) q' = ad q' := fun q' hq => if_neg (by omega)
  have wv : ∀ v, pz_wv h.1.length v → pz_wv (pz_nw h cc N).1.length v := by
    intro v hv
    rcases v with a | x | r
    · exact hv
    · exact trivial
    · exact fun x hx => by rw [hlen]; have := hv x hx; omega
  have w := kk (fun p => if p = h.1.length then q else ad p) H1 locs ls (fun q' hq => (ha q' (by omega)).trans (a1 q' hq)) (by show _ ≤ (pz_nw h cc N).1.length; rw [hlen]; omega) (by show _ ≤ h.2.2.2.2.1 + 1; omega) (by show _ ≤ h.2.2.2.2.2 + N; omega) ((ha 0 hlp).trans a5)
    (fun k hk => by show (if 0 = h.1.length then (0 : Int) else h.2.1 0 k) = xs k; rw [if_neg (by omega)]; exact a6 k hk) hP1 hD1 hS1 (pz_wf_nw hwf hcc)
    (fun v hv => by
      rcases List.mem_cons.mp hv with rfl | hv
      · intro x hx
        cases hx
        show h.1.length < (pz_nw h cc N).1.length
        rw [hlen]
        omega
      · exact wv v (hst v (hr v hv)))
    (fun v hv => wv v.2 (hL v hv))
    (by
      have e9 : L.map (fun z => (z.1, pz_v (fun p => if p = h.1.length then q else ad p) z.2)) = L.map (fun z => (z.1, pz_v ad z.2)) := by
        apply List.map_congr_left
        intro z hz
        rw [pz_v_ad ha (hL z hz)]
      show lv_has ls (pz_mL m) (L.map (fun z => (z.1, pz_v (fun p => if p = h.1.length then q else ad p) z.2)))
      rw [e9]
      exact hl)
  have w : W p l e R s mm args below meth c H1 locs (h.2.2.2.2.1 + 1 - h0.2.2.2.2.1) (h.2.2.2.2.2 + N - h0.2.2.2.2.2) Q (F0 mm pc' ls (va_rf (some ((fun p => if p = h.1.length then q else ad p) h.1.length)) :: r.map (pz_v (fun p => if p = h.1.length then q else ad p)))) := w
  have e8 : r.map (pz_v (fun p => if p = h.1.length then q else ad p)) = r.map (pz_v ad) := by
    apply List.map_congr_left
    intro z hz
    rw [pz_v_ad ha (hst z (hr z hz))]
  rw [e8] at w
  have e7 : (fun p => if p = h.1.length then q else ad p) h.1.length = q := if_pos rfl
  rw [e7] at w
  have e5 : h.2.2.2.2.1 + 1 - h0.2.2.2.2.1 = h.2.2.2.2.1 - h0.2.2.2.2.1 + 1 := by omega
  have e6 : h.2.2.2.2.2 + N - h0.2.2.2.2.2 = h.2.2.2.2.2 - h0.2.2.2.2.2 + N := by omega
  rw [e5, e6] at w
  exact w
theorem pz_ln_nw {cc N : Nat} : pz_ln (pz_nw h cc N) h.1.length = (cc, N) := by
  unfold pz_ln
  show ((h.1 ++ [(cc, N)])[h.1.length]?).getD (0, 0) = _
  simp
theorem pz_nw_at {cc N : Nat} : (pz_nw h cc N).1[h.1.length]? = some (cc, N) := by simp [pz_nw]
theorem pz_def {t : Nat} {ty : FieldType} (ht : pz_tyok t ty) {cc N : Nat} {ad : Nat → Nat} {k : Nat} : defaultValue ty = pz_v ad (pz_gf (pz_nw h cc N) h.1.length k t) := by
  rcases ht with ⟨rfl, rfl⟩ | ⟨rfl, rfl⟩ | ⟨rfl, rfl⟩ | ⟨rfl, h2⟩
  · simp [pz_gf, pz_nw, pz_v, defaultValue]
  · simp [pz_gf, pz_nw, pz_v, defaultValue]
  · simp [pz_gf, pz_nw, pz_v, defaultValue]
  · rcases h2 with ⟨nm, rfl⟩ | ⟨u, rfl⟩ <;> simp [pz_gf, pz_nw, pz_v, defaultValue, va_rf]
theorem pz_i_new {x : Nat} (X : pz_Cx p l s mm args meth c m D tc A b n0 xs) (hd : decode (pz_b m) pc = .ok (.new x, 3)) {nL : Nat} {ini : Bool} (hok : (pz_step (pz_mow m) nL ini (.new x) 3 pc st L h).2.2.2.2 = true)
    (hR1 : (pz_step (pz_mow m) nL ini (.new x) 3 pc st L h).2.2.2.1.2.2.2.2.1 - h0.2.2.2.2.1 ≤ R.cells) (hR2 : (pz_step (pz_mow m) nL ini (.new x) 3 pc st L h).2.2.2.1.2.2.2.2.2 - h0.2.2.2.2.2 ≤ R.slots)
    (kk : pz_PW p l e R s mm args below meth c m D tc A b n0 xs ad0 h0 Q (pz_step (pz_mow m) nL ini (.new x) 3 pc st L h)) : pz_PW p l e R s mm args below meth c m D tc A b n0 xs ad0 h0 Q (pc, st, L, h, ok) := by
  obtain ⟨hx, hb, hml, hown, hts, hini, hK, hA, hX, hbl, hbA⟩ := X
  unfold pz_step at hok kk hR1 hR2
  dsimp only at hok kk hR1 hR2
  cases hf : pz_cl (pz_mow m) x with
  | none => rw [hf] at hok; exact pz_no hok
  | some q =>
    rw [hf] at hok kk hR1 hR2
    dsimp only at hok kk hR1 hR2
    obtain ⟨hlk, hcn⟩ := pz_cl_ok hf
    obtain ⟨hcl, hc100, hlays, hty, hnm, hdecl, htf, hins, hint⟩ := pz_co q.1 hcn
    have h1 : ¬ q.1 = 100 := by omega
    have h2 : ¬ q.1 = 101 := by omega
    have h3 : ¬ q.1 = 102 := by omega
    refine pz_w_new (cc := q.1) (N := pz_nf q.1) (r := st) (E := .inr (q.1, (List.range (pz_nf q.1)).map (fun k => pz_v (fun _ => 0) (pz_gf (pz_nw h q.1 (pz_nf q.1)) h.1.length k (pz_ty q.1 k))))) (by omega) (fun v hv => hv) (fun ad => ?_) hR1 hR2 (fun ad H locs ls cells slots hst hP hD hS hc1 hc2 w => ?_) kk
    · simp only [pz_cell, pz_ln_nw, h1, h2, h3, if_false]
      congr 2
      apply List.map_congr_left
      intro k hk
      have hk : k < pz_nf q.1 := List.mem_range.mp hk
      rw [← pz_def (htf k hk).2, ← pz_def (htf k hk).2]
    · refine va_new (ci := q.1) (C := pz_R q.1) (T := pz_F q.1) (N := pz_nf q.1) hx hb hts hlays (pz_fty q.1) hty hown (hts _ hlk) (hts _ hins) (hts _ hint) hK hP hD hS hA hcl (fun j hj => ?_) hc1 hc2 hd w
      show defaultValue (pz_fty q.1 j) = vp_V _ j
      rw [pz_def (htf j hj).2 (h := h) (cc := q.1) (N := pz_nf q.1) (ad := fun _ => 0) (k := j)]
      simp [vp_V, hj]
theorem pz_i_newa {t : ArrayType} (X : pz_Cx p l s mm args meth c m D tc A b n0 xs) (hd : decode (pz_b m) pc = .ok (.newarray t, 2)) {own nL : Nat} {ini : Bool} (hok : (pz_step own nL ini (.newarray t) 2 pc st L h).2.2.2.2 = true)
    (hR1 : (pz_step own nL ini (.newarray t) 2 pc st L h).2.2.2.1.2.2.2.2.1 - h0.2.2.2.2.1 ≤ R.cells) (hR2 : (pz_step own nL ini (.newarray t) 2 pc st L h).2.2.2.1.2.2.2.2.2 - h0.2.2.2.2.2 ≤ R.slots)
    (kk : pz_PW p l e R s mm args below meth c m D tc A b n0 xs ad0 h0 Q (pz_step own nL ini (.newarray t) 2 pc st L h)) : pz_PW p l e R s mm args below meth c m D tc A b n0 xs ad0 h0 Q (pc, st, L, h, ok) := by
  obtain ⟨hx, hb, hml, hown, hts, hini, hK, hA, hX, hbl, hbA⟩ := X
  rcases st with _ | ⟨a | a | a, r⟩
  case cons.inl =>
    have hok9 : ((decide (t = .int) || decide (t = .long)) && (decide (0 ≤ a) && decide (a ≤ 1000000))) = true := hok
    simp only [Bool.and_eq_true, Bool.or_eq_true, decide_eq_true_eq] at hok9
    obtain ⟨ht, ha0, ha1⟩ := hok9
    have kk : pz_PW p l e R s mm args below meth c m D tc A b n0 xs ad0 h0 Q (pc + 2, .inr (.inr (some h.1.length)) :: r, L, pz_nw h (if t = .int then 100 else 101) a.toNat, _) := kk
    have hR1 : h.2.2.2.2.1 + 1 - h0.2.2.2.2.1 ≤ R.cells := hR1
    have hR2 : h.2.2.2.2.2 + a.toNat - h0.2.2.2.2.2 ≤ R.slots := hR2
    rcases ht with rfl | rfl
    · refine pz_w_new (cc := 100) (N := a.toNat) (r := r) (E := .inl (tc 0, a.toNat, .inl (fun _ => 0))) (by decide) (fun v hv => List.mem_cons_of_mem _ hv) (fun ad => ?_) hR1 hR2 (fun ad H locs ls cells slots hst hP hD hS hc1 hc2 w => ?_) kk
      · rw [pz_cell_i pz_nw_at]
        simp [pz_nw]
      · have ha : pz_in a = true := hst (.inl a) List.mem_cons_self
        show W p l e R s mm args below meth c H locs cells slots Q (F0 mm pc ls (.int (Int32.ofInt a) :: r.map (pz_v ad)))
        refine va_newa hx hb (atype := .int) (hts _ pz_T_aI) (ty := .int) rfl hK hP hD hS hA (a0 := (a.toNat, .inl (fun _ => 0))) (N' := a.toNat) (fun cA => rfl) (by rw [← pz_of0, pz_lt ha (by decide)]; omega) (pz_clamp ha) (by show a.toNat * 4 ≤ 536870912; omega) hc1 hc2 hd (fun q cA H1 hK1 hP1 hD1 hS1 => ?_)
        have e1 := (hK.2 0 _ rfl).2
        have e2 := (hK1.2 3 _ rfl).2
        have e3 : tc 0 = cA := Option.some.inj (e1.symm.trans e2)
        subst e3
        exact w q H1 hP1 hD1 hS1
    · refine pz_w_new (cc := 101) (N := a.toNat) (r := r) (E := .inl (tc 1, a.toNat, .inr (.inl (fun _ => 0)))) (by decide) (fun v hv => List.mem_cons_of_mem _ hv) (fun ad => ?_) hR1 hR2 (fun ad H locs ls cells slots hst hP hD hS hc1 hc2 w => ?_) kk
      · rw [pz_cell_l pz_nw_at]
        simp [pz_nw]
      · have ha : pz_in a = true := hst (.inl a) List.mem_cons_self
        show W p l e R s mm args below meth c H locs cells slots Q (F0 mm pc ls (.int (Int32.ofInt a) :: r.map (pz_v ad)))
        refine va_newa hx hb (atype := .long) (hts _ pz_T_aL) (ty := .long) rfl hK hP hD hS hA (a0 := (a.toNat, .inr (.inl (fun _ => 0)))) (N' := a.toNat) (fun cA => rfl) (by rw [← pz_of0, pz_lt ha (by decide)]; omega) (pz_clamp ha) (by show a.toNat * 8 ≤ 536870912; omega) hc1 hc2 hd (fun q cA H1 hK1 hP1 hD1 hS1 => ?_)
        have e1 := (hK.2 1 _ rfl).2
        have e2 := (hK1.2 3 _ rfl).2
        have e3 : tc 1 = cA := Option.some.inj (e1.symm.trans e2)
        subst e3
        exact w q H1 hP1 hD1 hS1
  all_goals exact pz_no hok
theorem pz_i_newq {x : Nat} (X : pz_Cx p l s mm args meth c m D tc A b n0 xs) (hAO : va_AO (pz_R pz_nodeC) s) (hd : decode (pz_b m) pc = .ok (.anewarray x, 3)) {nL : Nat} {ini : Bool} (hok : (pz_step (pz_mow m) nL ini (.anewarray x) 3 pc st L h).2.2.2.2 = true)
    (hR1 : (pz_step (pz_mow m) nL ini (.anewarray x) 3 pc st L h).2.2.2.1.2.2.2.2.1 - h0.2.2.2.2.1 ≤ R.cells) (hR2 : (pz_step (pz_mow m) nL ini (.anewarray x) 3 pc st L h).2.2.2.1.2.2.2.2.2 - h0.2.2.2.2.2 ≤ R.slots)
    (kk : pz_PW p l e R s mm args below meth c m D tc A b n0 xs ad0 h0 Q (pz_step (pz_mow m) nL ini (.anewarray x) 3 pc st L h)) : pz_PW p l e R s mm args below meth c m D tc A b n0 xs ad0 h0 Q (pc, st, L, h, ok) := by
  obtain ⟨hx, hb, hml, hown, hts, hini, hK, hA, hX, hbl, hbA⟩ := X
  unfold pz_step at hok kk hR1 hR2
  dsimp only at hok kk hR1 hR2
  cases hf : pz_cl (pz_mow m) x with
  | none => rw [hf] at hok; exact pz_no hok
  | some z =>
    rw [hf] at hok kk hR1 hR2
    dsimp only at hok kk hR1 hR2
    obtain ⟨hlk, hcn⟩ := pz_cl_ok hf
    rcases st with _ | ⟨a | a | a, r⟩
    case cons.inl =>
      have hok9 : (decide (z.1 = pz_nodeC) && (decide (0 ≤ a) && decide (a ≤ 1000000))) = true := hok
      simp only [Bool.and_eq_true, decide_eq_true_eq] at hok9
      obtain ⟨ht, ha0, ha1⟩ := hok9
      rw [ht] at hlk
      have kk : pz_PW p l e R s mm args below meth c m D tc A b n0 xs ad0 h0 Q (pc + 3, .inr (.inr (some h.1.length)) :: r, L, pz_nw h 102 a.toNat, _) := kk
      have hR1 : h.2.2.2.2.1 + 1 - h0.2.2.2.2.1 ≤ R.cells := hR1
      have hR2 : h.2.2.2.2.2 + a.toNat - h0.2.2.2.2.2 ≤ R.slots := hR2
      refine pz_w_new (cc := 102) (N := a.toNat) (r := r) (E := .inl (tc 2, a.toNat, .inr (.inr (.inr (.inr (fun _ => none)))))) (by decide) (fun v hv => List.mem_cons_of_mem _ hv) (fun ad => ?_) hR1 hR2 (fun ad H locs ls cells slots hst hP hD hS hc1 hc2 w => ?_) kk
      · rw [pz_cell_r pz_nw_at]
        simp [pz_nw]
      · have ha : pz_in a = true := hst (.inl a) List.mem_cons_self
        show W p l e R s mm args below meth c H locs cells slots Q (F0 mm pc ls (.int (Int32.ofInt a) :: r.map (pz_v ad)))
        refine va_newq hx hb hown (hts _ hlk) hAO hK hP hD hS hA (N' := a.toNat) (by rw [← pz_of0, pz_lt ha (by decide)]; omega) (pz_clamp ha) (by omega) hc1 hc2 hd (fun q cA H1 hK1 hP1 hD1 hS1 => ?_)
        have e1 := (hK.2 2 _ rfl).2
        have e2 := (hK1.2 3 _ rfl).2
        have e3 : tc 2 = cA := by
          obtain ⟨_, _, -, -, -, g1⟩ := e1
          obtain ⟨_, _, -, -, -, g2⟩ := e2
          exact Option.some.inj (g1.symm.trans g2)
        subst e3
        exact w q H1 hP1 hD1 hS1
    all_goals exact pz_no hok
end pzf
