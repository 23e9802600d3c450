/-! The reference's step: down, up, measure. -/
section pzL
variable {d n0 : Nat} {ml ml' : Nat → Nat → Int64} {mr : Nat → Nat → Option Nat} {c s : Nat} {P : Int → Int → (Nat → Int) → Int64 → Int64 → pz_tk → Prop} {Q : pz_O → pz_H → Prop}
theorem pz_nf_183 {mi : Nat → Nat → Int} {j : Nat} {x : Int} {v : Nat} : pz_up mi 183 j x 175 v = mi 175 v ∧ pz_up mi 183 j x 176 v = mi 176 v ∧ pz_up mi 183 j x 177 v = mi 177 v ∧ pz_up mi 183 j x 178 v = mi 178 v ∧ pz_up mi 183 j x 179 v = mi 179 v ∧ pz_rwf (pz_up mi 183 j x) v = pz_rwf mi v := ⟨by rw [pz_upq (by decide)], by rw [pz_upq (by decide)], by rw [pz_upq (by decide)], by rw [pz_upq (by decide)], by rw [pz_upq (by decide)], pz_rwf_eq (pz_upq (by decide)) v⟩
/-- a tree stands when the numbers of nodes stand -/
theorem pz_mT_eq {mi mi' : Nat → Nat → Int} (h : ∀ p, (175 ≤ p ∧ p ≤ 179) ∨ p = 182 → mi' p = mi p) {t : Lean.RArray pz_tk} {n : Nat} {U : List Nat} (hc : pz_mT P mi ml t n U) : pz_mT P mi' ml t n U := pz_mT_fr _ _ _ (fun v _ => ⟨by rw [h 175 (by decide)], by rw [h 176 (by decide)], by rw [h 177 (by decide)], by rw [h 178 (by decide)], by rw [h 179 (by decide)], pz_rwf_eq (h 182 (by decide)) v, rfl, rfl⟩) hc
theorem pz_mx_eq {mi mi' : Nat → Nat → Int} (h : ∀ p, (175 ≤ p ∧ p ≤ 179) ∨ p = 182 → mi' p = mi p) {L : List (Nat × Nat × Lean.RArray pz_tk × List Nat)} {V : List Nat} (hc : pz_mx P mi ml L V) : pz_mx P mi' ml L V := by
  induction L generalizing V with
  | nil => exact hc
  | cons e L ih =>
    obtain ⟨V', h1, h3, h4⟩ := hc
    refine ⟨V', h1, ?_, ih h4⟩
    rcases h3 with ⟨u1, u2, r, u3, u4⟩ | ⟨k, u1, u2, u3, u4, u5⟩
    · exact .inl ⟨u1, by rw [h 175 (by decide)]; exact u2, r, by rw [h 177 (by decide)]; exact u3, pz_mT_eq h u4⟩
    · exact .inr ⟨k, u1, by rw [h 175 (by decide)]; exact u2, by rw [h 178 (by decide)]; exact u3, by rw [h 179 (by decide)]; exact u4, u5⟩
theorem pz_md1 : ∀ (t : Lean.RArray pz_tk) (n : Nat) (U : List Nat) (L : List (Nat × Nat × Lean.RArray pz_tk × List Nat)) (V : List Nat) (mi : Nat → Nat → Int), pz_mT P mi ml t n U → (∀ v ∈ U, v < 64) → pz_mx P mi ml L V → pz_mw mi L → L.length + U.length ≤ 64 →
    (∀ (mi' : Nat → Nat → Int) (L' : List (Nat × Nat × Lean.RArray pz_tk × List Nat)) (V' : List Nat) (q : Nat), (∀ p, p ≠ 183 → mi' p = mi p) → pz_mx P mi' ml L' V' → pz_mw mi' L' → L'.length < 64 → pz_mT P mi' ml (.leaf (pz_cx t (pz_lev L)).2) q [q] → (q :: V').Perm (U ++ V) → pz_lev L' = (pz_cx t (pz_lev L)).1 → pz_Rn (d + 8) 134 (0, [], [(0, .inr (.inr (some 165))), (1, .inl (q : Int))], pz_hp n0 mi' ml mr c s, true) (pz_K (d + 8 + 1) 137 53 [] [(0, .inr (.inr (some 165))), (1, .inl (L'.length : Int))] Q true)) →
    pz_Rn (d + 9) 137 (22, [], [(0, .inr (.inr (some 165))), (1, .inl (L.length : Int)), (2, .inl (n : Int))], pz_hp n0 mi ml mr c s, true) Q := by
  intro t
  induction t with
  | leaf x =>
    intro n U L V mi hc hU hmx hmw hlen K
    have hc' := hc
    obtain ⟨h1, h2, -⟩ := hc'
    subst h1
    have hn := hU n List.mem_cons_self
    have en : ((n : Int)).toNat = n := by omega
    rw [List.length_singleton] at hlen
    refine pz_g137_22 ⟨by omega, fun _ => K mi L V n (fun _ _ => rfl) hmx hmw (by omega) hc (List.Perm.refl _) rfl, fun h => absurd (by rw [en]; exact h2) h⟩
  | branch k a b iha ihb =>
    intro n U L V mi hc hU hmx hmw hlen K
    have step : ∀ (q : Nat) (A' B : List Nat), mi 175 n ≠ 0 → mi 176 n = (q : Int) → pz_mT P mi ml a q A' → U = n :: (A' ++ B) → ((k = 0 ∧ mi 175 n = 1 ∧ ∃ r : Nat, mi 177 n = (r : Int) ∧ pz_mT P mi ml b r B) ∨ (∃ k', k = k' + 1 ∧ mi 175 n = 2 ∧ mi 178 n = (k' / 64 : Nat) ∧ mi 179 n = (k' % 64 : Nat) ∧ B = [])) → pz_Rn (d + 9) 137 (22, [], [(0, .inr (.inr (some 165))), (1, .inl (L.length : Int)), (2, .inl (n : Int))], pz_hp n0 mi ml mr c s, true) Q := by
      intro q A' B hk0 h6 hca hUe hkk
      have hn := hU n (by rw [hUe]; exact List.mem_cons_self)
      have en : ((n : Int)).toNat = n := by omega
      rw [hUe, List.length_cons, List.length_append] at hlen
      have e0 : ((L.length : Int)).toNat = L.length := by omega
      have e1 : (L.length : Int) + 1 = (((n, k, b, B) :: L).length : Int) := by rw [List.length_cons]; omega
      refine pz_g137_22 ⟨by omega, fun h => absurd (by rw [en] at h; exact h) hk0, fun _ => ⟨by omega, by omega, by omega, fun x6 e6 => ?_⟩⟩
      rw [en, h6] at e6
      subst e6
      rw [e0, e1]
      have hh : ∀ p, (175 ≤ p ∧ p ≤ 179) ∨ p = 182 → pz_up mi 183 L.length (n : Int) p = mi p := fun p hp => pz_upq (by omega)
      have hmw1 : pz_mw (pz_up mi 183 L.length (n : Int)) ((n, k, b, B) :: L) := by
        unfold pz_mw
        exact ⟨pz_up_at, pz_mw_fr (fun j hj => pz_up_ot (by omega)) hmw⟩
      have ho : ∀ p, p ≠ 183 → pz_up mi 183 L.length (n : Int) p = mi p := fun p hp => pz_upq hp
      generalize pz_up mi 183 L.length (n : Int) = m1 at *
      have hmx1 : pz_mx P m1 ml ((n, k, b, B) :: L) (n :: (B ++ V)) := by
        refine ⟨V, rfl, ?_, pz_mx_eq hh hmx⟩
        rcases hkk with ⟨u1, u2, r, u3, u4⟩ | ⟨k', u1, u2, u3, u4, u5⟩
        · exact .inl ⟨u1, by rw [ho 175 (by decide)]; exact u2, r, by rw [ho 177 (by decide)]; exact u3, pz_mT_eq hh u4⟩
        · exact .inr ⟨k', u1, by rw [ho 175 (by decide)]; exact u2, by rw [ho 178 (by decide)]; exact u3, by rw [ho 179 (by decide)]; exact u4, u5⟩
      refine iha q A' ((n, k, b, B) :: L) (n :: (B ++ V)) m1 (pz_mT_eq hh hca) (fun v hv => hU v (by rw [hUe]; exact List.mem_cons_of_mem _ (List.mem_append_left _ hv))) hmx1 hmw1 (by rw [List.length_cons]; omega) ?_
      intro mi' L' V' q' g1 g2 g3 g4 g5 g6 g7
      refine K mi' L' V' q' (fun p hp => (g1 p hp).trans (ho p hp)) g2 g3 g4 g5 (g6.trans ?_) g7
      rw [hUe]
      simp only [List.perm_iff_count, List.count_append, List.count_cons]
      intro z
      omega
    cases k with
    | zero =>
      obtain ⟨q, r, A', B, h1, h2, h3, h4, h5, h6⟩ := hc
      exact step q A' B (by omega) h3 h5 h1 (.inl ⟨rfl, h2, r, h4, h6⟩)
    | succ k =>
      obtain ⟨q, A', h1, h2, h3, h4, h5, h6⟩ := hc
      exact step q A' [] (by omega) h5 h6 (by rw [List.append_nil]; exact h1) (.inr ⟨k, rfl, h2, h3, h4, rfl⟩)
/-- the way up -/
theorem pz_mu1 : ∀ (L : List (Nat × Nat × Lean.RArray pz_tk × List Nat)) (V X A : List Nat) (m : Nat) (left : Option (Lean.RArray pz_tk)) (x : Int) (ans : Option pz_an) (mi : Nat → Nat → Int) (ml : Nat → Nat → Int64), pz_mx P mi ml L V → pz_mw mi L → L.length < 64 → pz_mv mi (X ++ V) A m → pz_mlf P mi ml left x X → pz_am P mi ml ans → (ans ≠ none → (X ++ V).length ≤ 60) →
    (∀ (mi' : Nat → Nat → Int) (ml' : Nat → Nat → Int64) (X' A' : List Nat) (m' : Nat) (x' : Int), pz_mv mi' X' A' m' → pz_mlf P mi' ml' (pz_rl (pz_lev L) (left, ans)).1 x' X' → pz_am P mi' ml' (pz_rl (pz_lev L) (left, ans)).2 → pz_ns [] mi ml mi' ml' → (∀ j, j ≠ 12 → j ≠ 32 → mi' 165 j = mi 165 j) → (∀ p, 182 < p → mi' p = mi p) → pz_Rn (d + 8) 136 (0, [], [(0, .inr (.inr (some 165)))], pz_hp n0 (pz_up mi' 165 13 x') ml' mr c s, true) (pz_K (d + 8 + 1) 137 85 [] [(0, .inr (.inr (some 165)))] Q true)) →
    pz_Rn (d + 9) 137 (57, [], [(0, .inr (.inr (some 165))), (1, .inl (L.length : Int)), (3, .inl x)], pz_hp n0 mi ml mr c s, true) Q := by
  intro L
  induction L with
  | nil =>
    intro V X A m left x ans mi ml hmx hmw hlen hv hlf ha hU K
    have hV : V = [] := hmx
    subst hV
    rw [List.append_nil] at hv
    refine pz_g137_57 ⟨fun _ => K mi ml X A m x hv hlf ha ⟨fun v hv => absurd hv List.not_mem_nil, fun _ _ => rfl, fun _ _ => rfl, fun _ _ _ => rfl⟩ (fun _ _ _ => rfl) (fun _ _ => rfl), fun h => absurd h (by decide)⟩
  | cons e L ih =>
    intro V X A m left x ans mi ml hmx hmw hlen hv hlf ha hU K
    obtain ⟨p, k, b, B⟩ := e
    obtain ⟨V', hV, hk, hmx'⟩ := hmx
    dsimp only at hV hk
    subst hV
    unfold pz_mw at hmw
    obtain ⟨hp1, hmw'⟩ := hmw
    dsimp only at hp1
    rw [List.length_cons] at hlen
    have ea : ((((p, k, b, B) :: L).length : Nat) : Int) + (-1) = (L.length : Int) := by rw [List.length_cons]; omega
    have el : ((L.length : Int)).toNat = L.length := by omega
    refine pz_g137_57 ⟨fun h => absurd h (by rw [List.length_cons]; omega), fun _ => ⟨by omega, by omega, ?_⟩⟩
    rw [ea, el, hp1]
    refine pz_Rn_e (d' := d + 2) (by omega) (pz_riseC (d := d) hk hv hlf ha hU) ?_
    rintro _ _ ⟨m1, l1, X1, A1, mm1, x1, W, ⟨rfl, rfl⟩, v1, lf1, am1, nf1, hW, lim1⟩
    refine pz_g137_75 ?_
    have e183 : m1 183 = mi 183 := nf1.2.1 183 (by decide)
    refine ih V' X1 A1 mm1 _ x1 _ m1 l1 (pz_mx_nf nf1 hW hmx') (pz_mw_fr (fun j _ => by rw [e183]) hmw') (by omega) v1 lf1 am1 (fun h => ?_) ?_
    · have h1 := lim1 h
      have hne : ans ≠ none := by
        intro e
        subst e
        apply h
        cases k with
        | zero => cases left <;> rfl
        | succ k => cases left <;> rfl
      exact Nat.le_trans h1 (hU hne)
    · intro mi' ml' X' A' m' x' g1 g2 g3 g4 g5 g6
      refine K mi' ml' X' A' m' x' g1 g2 g3 (pz_ns_trans (pz_ns_nf (fun v hv => absurd hv List.not_mem_nil) nf1) g4) (fun j h1 h2 => (g5 j h1 h2).trans (nf1.2.2.1 j h1 h2)) (fun p hp => (g6 p hp).trans (nf1.2.1 p (by omega)))
/-- trees that wait to be measured -/
def pz_stk (P : Int → Int → (Nat → Int) → Int64 → Int64 → pz_tk → Prop) (mi : Nat → Nat → Int) (ml : Nat → Nat → Int64) (ts : List (Lean.RArray pz_tk × Nat × List Nat)) : Prop := match ts with
  | [] => True
  | e :: r => mi 183 r.length = (e.2.1 : Int) ∧ pz_mT P mi ml e.1 e.2.1 e.2.2 ∧ (∀ v ∈ e.2.2, v < 64) ∧ pz_stk P mi ml r
def pz_n3 (ts : List (Lean.RArray pz_tk × Nat × List Nat)) : Nat × Nat × Nat := match ts with
  | [] => (0, 0, 0)
  | e :: r => ((pz_nT e.1).1 + (pz_n3 r).1, (pz_nT e.1).2.1 + (pz_n3 r).2.1, (pz_nT e.1).2.2 + (pz_n3 r).2.2)
theorem pz_stk_fr {mi mi' : Nat → Nat → Int} {ts : List (Lean.RArray pz_tk × Nat × List Nat)} (h : ∀ p, (175 ≤ p ∧ p ≤ 179) ∨ p = 182 → mi' p = mi p) (h2 : ∀ j, j < ts.length → mi' 183 j = mi 183 j) (hs : pz_stk P mi ml ts) : pz_stk P mi' ml ts := by
  induction ts with
  | nil => trivial
  | cons e r ih =>
    unfold pz_stk at hs ⊢
    rw [h2 r.length (by rw [List.length_cons]; omega)]
    exact ⟨hs.1, pz_mT_eq h hs.2.1, hs.2.2.1, ih (fun j hj => h2 j (by rw [List.length_cons]; omega)) hs.2.2.2⟩
theorem pz_n3_len : ∀ (ts : List (Lean.RArray pz_tk × Nat × List Nat)), ts.length ≤ (pz_n3 ts).1 + (pz_n3 ts).2.1 + (pz_n3 ts).2.2 := by
  intro ts
  induction ts with
  | nil => exact Nat.le_refl _
  | cons e r ih =>
    have h1 : 1 ≤ (pz_nT e.1).1 := by
      induction e.1 with
      | leaf x => exact Nat.le_refl _
      | branch k a b iha ihb =>
        cases k with
        | zero =>
          have : (pz_nT (.branch 0 a b)).1 = (pz_nT a).1 + (pz_nT b).1 := rfl
          omega
        | succ k => exact iha
    have e3 : pz_n3 (e :: r) = ((pz_nT e.1).1 + (pz_n3 r).1, (pz_nT e.1).2.1 + (pz_n3 r).2.1, (pz_nT e.1).2.2 + (pz_n3 r).2.2) := rfl
    rw [e3, List.length_cons]
    dsimp only
    omega
set_option maxHeartbeats 1000000 in
theorem pz_me1 : ∀ (f : Nat) (ts : List (Lean.RArray pz_tk × Nat × List Nat)) (mi : Nat → Nat → Int) (a b e0 : Nat), pz_stk P mi ml ts → (pz_n3 ts).1 + (pz_n3 ts).2.1 + (pz_n3 ts).2.2 = f → f ≤ 63 → mi 190 0 = (a : Int) → mi 190 1 = (b : Int) → mi 190 2 = (e0 : Int) → a + b + e0 + f ≤ 1000 →
    pz_Rn d 136 (42, [], [(0, .inr (.inr (some 165))), (1, .inl (ts.length : Int))], pz_hp n0 mi ml mr c s, true) (fun o h => ∃ mi', (o = .inl (some (.inl ((a + b + e0 + f : Nat) : Int))) ∧ h = pz_hp n0 mi' ml mr c s) ∧ pz_fr [183, 190] [] mi mi' ∧ mi' 190 0 = ((a + (pz_n3 ts).1 : Nat) : Int) ∧ mi' 190 1 = ((b + (pz_n3 ts).2.1 : Nat) : Int) ∧ mi' 190 2 = ((e0 + (pz_n3 ts).2.2 : Nat) : Int)) := by
  intro f
  induction f with
  | zero =>
    intro ts mi a b e0 hs hf hf2 h0 h1 h2 hb
    have hl := pz_n3_len ts
    have hnil : ts = [] := List.length_eq_zero_iff.mp (by omega)
    subst hnil
    refine pz_g136_42 ⟨fun _ => ⟨by omega, by omega, mi, ⟨?_, rfl⟩, pz_fr_refl, h0, h1, h2⟩, fun h => absurd h (by decide)⟩
    rw [h0, h1, h2]
    congr 3
  | succ f ih =>
    intro ts mi a b e0 hs hf hf2 h0 h1 h2 hb
    cases ts with
    | nil => exact absurd hf (by show ¬ (0 + 0 + 0 = f + 1); omega)
    | cons z r =>
      obtain ⟨t, n, U⟩ := z
      unfold pz_stk at hs
      dsimp only at hs
      obtain ⟨s1, s2, s3, s4⟩ := hs
      have e3 : pz_n3 ((t, n, U) :: r) = ((pz_nT t).1 + (pz_n3 r).1, (pz_nT t).2.1 + (pz_n3 r).2.1, (pz_nT t).2.2 + (pz_n3 r).2.2) := rfl
      rw [e3] at hf ⊢
      dsimp only at hf ⊢
      have hl := pz_n3_len r
      have ea : ((((t, n, U) :: r).length : Nat) : Int) + (-1) = (r.length : Int) := by rw [List.length_cons]; omega
      have el : ((r.length : Int)).toNat = r.length := by omega
      have hn : n < 64 := s3 n (pz_mT_in _ _ _ s2).1
      have en : ((n : Int)).toNat = n := by omega
      refine pz_g136_42 ⟨fun h => absurd h (by rw [List.length_cons]; omega), fun _ => ⟨by omega, by omega, fun x6 e6 => ?_⟩⟩
      rw [ea, el, s1] at e6
      subst e6
      rw [en, ea, el]
      cases t with
      | leaf x =>
        obtain ⟨u1, u2, -⟩ := s2
        have et : pz_nT (.leaf x) = (1, 0, 0) := rfl
        rw [et] at hf ⊢
        dsimp only at hf ⊢
        rw [u2]
        refine ⟨by omega, by decide, ?_, by decide, by omega, fun _ => ⟨by omega, ?_⟩, fun h => absurd rfl h⟩
        · show _ ≤ mi 190 0 + 1 ∧ mi 190 0 + 1 ≤ _
          omega
        · have q : ∀ p, p ≠ 190 → pz_up mi 190 0 (mi 190 0 + 1) p = mi p := fun p hp => pz_upq hp
          refine (ih r (pz_up mi 190 0 (mi 190 0 + 1)) (a + 1) b e0 (pz_stk_fr (fun p hp => q p (by omega)) (fun j _ => by rw [q 183 (by decide)]) s4) (by omega) (by omega) (by rw [pz_up_at]; omega) (by rw [pz_up_ot (by decide)]; exact h1) (by rw [pz_up_ot (by decide)]; exact h2) (by omega)).mono (Nat.le_refl _) ?_
          rintro _ _ ⟨m', ⟨rfl, rfl⟩, g2, g3, g4, g5⟩
          refine ⟨m', ⟨by congr 4; omega, rfl⟩, pz_fr_trans (pz_fr_up (by decide) (by decide)) g2, ?_, ?_, ?_⟩
          · rw [g3]
            omega
          · rw [g4]
            omega
          · rw [g5]
            omega
      | branch k ta tb =>
        cases k with
        | zero =>
          obtain ⟨q1, q2, A', B', u1, u2, u3, u4, u5, u6⟩ := s2
          have et : pz_nT (.branch 0 ta tb) = ((pz_nT ta).1 + (pz_nT tb).1, (pz_nT ta).2.1 + (pz_nT tb).2.1 + 1, (pz_nT ta).2.2 + (pz_nT tb).2.2) := rfl
          rw [et] at hf ⊢
          dsimp only at hf ⊢
          have na : 1 ≤ (pz_nT ta).1 + (pz_nT ta).2.1 + (pz_nT ta).2.2 := by
            have := pz_n3_len [(ta, q1, A')]
            have e4 : pz_n3 [(ta, q1, A')] = ((pz_nT ta).1 + 0, (pz_nT ta).2.1 + 0, (pz_nT ta).2.2 + 0) := rfl
            rw [e4, List.length_singleton] at this
            exact this
          have nb' : 1 ≤ (pz_nT tb).1 + (pz_nT tb).2.1 + (pz_nT tb).2.2 := by
            have := pz_n3_len [(tb, q2, B')]
            have e4 : pz_n3 [(tb, q2, B')] = ((pz_nT tb).1 + 0, (pz_nT tb).2.1 + 0, (pz_nT tb).2.2 + 0) := rfl
            rw [e4, List.length_singleton] at this
            exact this
          rw [u2]
          refine ⟨by omega, by decide, ?_, by decide, by omega, fun h => absurd h (by decide), fun _ => ⟨by omega, by omega, by omega, by omega, fun h => absurd rfl h, fun _ => ⟨by omega, by omega, by omega, ?_⟩⟩⟩
          · show _ ≤ mi 190 1 + 1 ∧ mi 190 1 + 1 ≤ _
            omega
          · have e5 : ((r.length : Int) + 1).toNat = r.length + 1 := by omega
            rw [e5, u3, u4]
            have q : ∀ p, p ≠ 183 → p ≠ 190 → pz_up (pz_up (pz_up mi 190 (1 : Int).toNat (mi 190 (1 : Int).toNat + 1)) 183 r.length (q1 : Int)) 183 (r.length + 1) (q2 : Int) p = mi p := fun p hp hp2 => by rw [pz_upq hp, pz_upq hp, pz_upq hp2]
            have w1 : pz_up (pz_up (pz_up mi 190 (1 : Int).toNat (mi 190 (1 : Int).toNat + 1)) 183 r.length (q1 : Int)) 183 (r.length + 1) (q2 : Int) 183 (r.length + 1) = (q2 : Int) := pz_up_at
            have w2 : pz_up (pz_up (pz_up mi 190 (1 : Int).toNat (mi 190 (1 : Int).toNat + 1)) 183 r.length (q1 : Int)) 183 (r.length + 1) (q2 : Int) 183 r.length = (q1 : Int) := by rw [pz_up_ot (by omega), pz_up_at]
            have w3 : ∀ j, j < r.length → pz_up (pz_up (pz_up mi 190 (1 : Int).toNat (mi 190 (1 : Int).toNat + 1)) 183 r.length (q1 : Int)) 183 (r.length + 1) (q2 : Int) 183 j = mi 183 j := fun j hj => by rw [pz_up_ot (by omega), pz_up_ot (by omega), pz_upq (by decide)]
            have w4 : ∀ j, pz_up (pz_up (pz_up mi 190 (1 : Int).toNat (mi 190 (1 : Int).toNat + 1)) 183 r.length (q1 : Int)) 183 (r.length + 1) (q2 : Int) 190 j = pz_up mi 190 1 (mi 190 1 + 1) 190 j := fun j => by rw [pz_upq (by decide), pz_upq (by decide)]; rfl
            have fr : pz_fr [183, 190] [] mi (pz_up (pz_up (pz_up mi 190 (1 : Int).toNat (mi 190 (1 : Int).toNat + 1)) 183 r.length (q1 : Int)) 183 (r.length + 1) (q2 : Int)) := pz_fr_trans (pz_fr_trans (pz_fr_up (by decide) (by decide)) (pz_fr_up (by decide) (by decide))) (pz_fr_up (by decide) (by decide))
            generalize pz_up (pz_up (pz_up mi 190 (1 : Int).toNat (mi 190 (1 : Int).toNat + 1)) 183 r.length (q1 : Int)) 183 (r.length + 1) (q2 : Int) = m1 at *
            have hh : ∀ p, (175 ≤ p ∧ p ≤ 179) ∨ p = 182 → m1 p = mi p := fun p hp => q p (by omega) (by omega)
            have e6 : ((r.length : Int) + 1) + 1 = (((tb, q2, B') :: (ta, q1, A') :: r).length : Int) := by rw [List.length_cons, List.length_cons]; omega
            rw [e6]
            have e7 : pz_n3 ((tb, q2, B') :: (ta, q1, A') :: r) = ((pz_nT tb).1 + ((pz_nT ta).1 + (pz_n3 r).1), (pz_nT tb).2.1 + ((pz_nT ta).2.1 + (pz_n3 r).2.1), (pz_nT tb).2.2 + ((pz_nT ta).2.2 + (pz_n3 r).2.2)) := rfl
            have hh2 := ih ((tb, q2, B') :: (ta, q1, A') :: r) m1 a (b + 1) e0 ⟨w1, pz_mT_eq hh u6, fun v hv => s3 v (by rw [u1]; exact List.mem_cons_of_mem _ (List.mem_append_right _ hv)), w2, pz_mT_eq hh u5, fun v hv => s3 v (by rw [u1]; exact List.mem_cons_of_mem _ (List.mem_append_left _ hv)), pz_stk_fr hh w3 s4⟩ (by rw [e7]; dsimp only; omega) (by omega) (by rw [w4, pz_up_ot (by decide)]; exact h0) (by rw [w4, pz_up_at]; omega) (by rw [w4, pz_up_ot (by decide)]; exact h2) (by omega)
            rw [e7] at hh2
            dsimp only at hh2
            refine hh2.mono (Nat.le_refl _) ?_
            rintro _ _ ⟨m', ⟨rfl, rfl⟩, g2, g3, g4, g5⟩
            refine ⟨m', ⟨by congr 4; omega, rfl⟩, pz_fr_trans fr g2, ?_, ?_, ?_⟩
            · rw [g3]
              omega
            · rw [g4]
              omega
            · rw [g5]
              omega
        | succ k =>
          obtain ⟨q1, A', u1, u2, u3, u4, u5, u6⟩ := s2
          have et : pz_nT (.branch (k + 1) ta tb) = ((pz_nT ta).1, (pz_nT ta).2.1, (pz_nT ta).2.2 + 1) := rfl
          rw [et] at hf ⊢
          dsimp only at hf ⊢
          rw [u2]
          refine ⟨by omega, by decide, ?_, by decide, by omega, fun h => absurd h (by decide), fun _ => ⟨by omega, by omega, by omega, by omega, fun _ => ?_, fun h => absurd h (by decide)⟩⟩
          · show _ ≤ mi 190 2 + 1 ∧ mi 190 2 + 1 ≤ _
            omega
          · rw [u5]
            have q : ∀ p, p ≠ 183 → p ≠ 190 → pz_up (pz_up mi 190 (2 : Int).toNat (mi 190 (2 : Int).toNat + 1)) 183 r.length (q1 : Int) p = mi p := fun p hp hp2 => by rw [pz_upq hp, pz_upq hp2]
            have w2 : pz_up (pz_up mi 190 (2 : Int).toNat (mi 190 (2 : Int).toNat + 1)) 183 r.length (q1 : Int) 183 r.length = (q1 : Int) := pz_up_at
            have w3 : ∀ j, j < r.length → pz_up (pz_up mi 190 (2 : Int).toNat (mi 190 (2 : Int).toNat + 1)) 183 r.length (q1 : Int) 183 j = mi 183 j := fun j hj => by rw [pz_up_ot (by omega), pz_upq (by decide)]
            have w4 : ∀ j, pz_up (pz_up mi 190 (2 : Int).toNat (mi 190 (2 : Int).toNat + 1)) 183 r.length (q1 : Int) 190 j = pz_up mi 190 2 (mi 190 2 + 1) 190 j := fun j => by rw [pz_upq (by decide)]; rfl
            have fr : pz_fr [183, 190] [] mi (pz_up (pz_up mi 190 (2 : Int).toNat (mi 190 (2 : Int).toNat + 1)) 183 r.length (q1 : Int)) := pz_fr_trans (pz_fr_up (by decide) (by decide)) (pz_fr_up (by decide) (by decide))
            generalize pz_up (pz_up mi 190 (2 : Int).toNat (mi 190 (2 : Int).toNat + 1)) 183 r.length (q1 : Int) = m1 at *
            have hh : ∀ p, (175 ≤ p ∧ p ≤ 179) ∨ p = 182 → m1 p = mi p := fun p hp => q p (by omega) (by omega)
            have e6 : ((r.length : Int) + 1) = (((ta, q1, A') :: r).length : Int) := by rw [List.length_cons]; omega
            rw [e6]
            have e7 : pz_n3 ((ta, q1, A') :: r) = ((pz_nT ta).1 + (pz_n3 r).1, (pz_nT ta).2.1 + (pz_n3 r).2.1, (pz_nT ta).2.2 + (pz_n3 r).2.2) := rfl
            have hh2 := ih ((ta, q1, A') :: r) m1 a b (e0 + 1) ⟨w2, pz_mT_eq hh u6, fun v hv => s3 v (by rw [u1]; exact List.mem_cons_of_mem _ hv), pz_stk_fr hh w3 s4⟩ (by rw [e7]; dsimp only; omega) (by omega) (by rw [w4, pz_up_ot (by decide)]; exact h0) (by rw [w4, pz_up_ot (by decide)]; exact h1) (by rw [w4, pz_up_at]; omega) (by omega)
            rw [e7] at hh2
            dsimp only at hh2
            refine hh2.mono (Nat.le_refl _) ?_
            rintro _ _ ⟨m', ⟨rfl, rfl⟩, g2, g3, g4, g5⟩
            refine ⟨m', ⟨by congr 4; omega, rfl⟩, pz_fr_trans fr g2, ?_, ?_, ?_⟩
            · rw [g3]
            · rw [g4]
            · rw [g5]
              omega
/-- the tree's size, or none -/
def pz_nO (t : Option (Lean.RArray pz_tk)) : Nat × Nat × Nat := match t with
  | none => (0, 0, 0)
  | some t => pz_nT t
/-- the reference's measure -/
theorem pz_measC {mi : Nat → Nat → Int} {t : Option (Lean.RArray pz_tk)} {X : List Nat} (h : pz_mlf P mi ml t (mi 165 13) X) (hX : ∀ v ∈ X, v < 62) (hl : X.length ≤ 62) :
    pz_Rn d 136 (0, [], [(0, .inr (.inr (some 165)))], pz_hp n0 mi ml mr c s, true) (fun o h => ∃ mi', (o = .inl (some (.inl (((pz_nO t).1 + (pz_nO t).2.1 + (pz_nO t).2.2 : Nat) : Int))) ∧ h = pz_hp n0 mi' ml mr c s) ∧ pz_fr [183, 190] [] mi mi' ∧ mi' 190 0 = ((pz_nO t).1 : Int) ∧ mi' 190 1 = ((pz_nO t).2.1 : Int) ∧ mi' 190 2 = ((pz_nO t).2.2 : Int)) := by
  refine pz_g136_0 ?_
  refine pz_g136_2 ⟨fun h => absurd h (by decide), fun _ => ⟨by decide, by decide, ?_⟩⟩
  refine pz_g136_2 ⟨fun h => absurd h (by decide), fun _ => ⟨by decide, by decide, ?_⟩⟩
  refine pz_g136_2 ⟨fun h => absurd h (by decide), fun _ => ⟨by decide, by decide, ?_⟩⟩
  have fr : pz_fr [183, 190] [] mi (pz_up (pz_up (pz_up mi 190 (0 : Int).toNat 0) 190 ((0 : Int) + 1).toNat 0) 190 ((0 : Int) + 1 + 1).toNat 0) := pz_fr_trans (pz_fr_trans (pz_fr_up (by decide) (by decide)) (pz_fr_up (by decide) (by decide))) (pz_fr_up (by decide) (by decide))
  have z : pz_up (pz_up (pz_up mi 190 (0 : Int).toNat 0) 190 ((0 : Int) + 1).toNat 0) 190 ((0 : Int) + 1 + 1).toNat 0 190 0 = 0 ∧ pz_up (pz_up (pz_up mi 190 (0 : Int).toNat 0) 190 ((0 : Int) + 1).toNat 0) 190 ((0 : Int) + 1 + 1).toNat 0 190 1 = 0 ∧ pz_up (pz_up (pz_up mi 190 (0 : Int).toNat 0) 190 ((0 : Int) + 1).toNat 0) 190 ((0 : Int) + 1 + 1).toNat 0 190 2 = 0 := ⟨rfl, rfl, rfl⟩
  generalize pz_up (pz_up (pz_up mi 190 (0 : Int).toNat 0) 190 ((0 : Int) + 1).toNat 0) 190 ((0 : Int) + 1 + 1).toNat 0 = m1 at *
  have e13 : m1 165 13 = mi 165 13 := fr.2 13 (by decide)
  have hh : ∀ p, (175 ≤ p ∧ p ≤ 179) ∨ p = 182 → m1 p = mi p := fun p hp => fr.1 p (by simp only [List.mem_cons, List.not_mem_nil, or_false]; omega) (by omega)
  obtain ⟨z0, z1, z2⟩ := z
  cases t with
  | none =>
    obtain ⟨hx, -⟩ := h
    refine pz_g136_2 ⟨fun _ => ⟨fun _ => ?_, fun h2 => absurd (e13.trans hx) h2⟩, fun h => absurd h (by decide)⟩
    refine (pz_me1 (P := P) 0 [] m1 0 0 0 trivial rfl (by decide) z0 z1 z2 (by decide)).mono (Nat.le_refl _) ?_
    rintro _ _ ⟨m', g1, g2, g3, g4, g5⟩
    exact ⟨m', g1, pz_fr_trans fr g2, g3, g4, g5⟩
  | some t =>
    obtain ⟨n, hx, hc⟩ := h
    have hn := hX n (pz_mT_in _ _ _ hc).1
    have hsz := (pz_mT_in _ _ _ hc).2
    refine pz_g136_2 ⟨fun _ => ⟨fun h2 => absurd h2 (by rw [e13, hx]; omega), fun _ => ?_⟩, fun h => absurd h (by decide)⟩
    rw [e13, hx]
    have hh2 : ∀ p, (175 ≤ p ∧ p ≤ 179) ∨ p = 182 → pz_up m1 183 0 (n : Int) p = mi p := fun p hp => by rw [pz_upq (by omega)]; exact hh p hp
    have e190 : ∀ j, pz_up m1 183 0 (n : Int) 190 j = m1 190 j := fun j => by rw [pz_upq (by decide)]
    refine (pz_me1 (P := P) ((pz_nT t).1 + (pz_nT t).2.1 + (pz_nT t).2.2) [(t, n, X)] (pz_up m1 183 0 (n : Int)) 0 0 0 ⟨pz_up_at, pz_mT_eq hh2 hc, fun v hv => by have := hX v hv; omega, trivial⟩ rfl (by omega) (by rw [e190]; exact z0) (by rw [e190]; exact z1) (by rw [e190]; exact z2) (by omega)).mono (Nat.le_refl _) ?_
    have e4 : pz_n3 [(t, n, X)] = ((pz_nT t).1, (pz_nT t).2.1, (pz_nT t).2.2) := rfl
    rw [e4]
    rintro _ _ ⟨m', ⟨rfl, rfl⟩, g2, g3, g4, g5⟩
    dsimp only at g3 g4 g5
    refine ⟨m', ⟨?_, rfl⟩, pz_fr_trans (pz_fr_trans fr (pz_fr_up (by decide) (by decide))) g2, ?_, ?_, ?_⟩
    · have e : 0 + 0 + 0 + ((pz_nT t).1 + (pz_nT t).2.1 + (pz_nT t).2.2) = (pz_nT t).1 + (pz_nT t).2.1 + (pz_nT t).2.2 := by omega
      rw [e]
      rfl
    · show m' 190 0 = ((pz_nT t).1 : Int)
      omega
    · show m' 190 1 = ((pz_nT t).2.1 : Int)
      omega
    · show m' 190 2 = ((pz_nT t).2.2 : Int)
      omega
end pzL
