/-! The class's goUp. -/
section pzB
variable {d n0 : Nat} {mi mi' : Nat → Nat → Int} {ml ml' : Nat → Nat → Int64} {mr mr' : Nat → Nat → Option Nat} {c s : Nat} {P : Int → Int → Int → Int64 → Int64 → pz_tk → Prop} {U S : List Nat}
theorem pz_stepP0 {p : Nat} (hp : pz_nd p) (h : pz_hm mi) : pz_Rn (d + 2) 66 (0, [], [(0, .inr (.inr (some 14))), (1, .inr (.inr (some p))), (2, .inr (.inr none))], pz_hp n0 mi ml mr c s, true) (fun o hh => o = .inl (some (.inr (.inr none))) ∧ hh = pz_hp n0 (pz_tu mi p 0) ml (pz_up (pz_up (pz_up mr p 1 none) p 2 (mr 14 3)) 14 3 (some p)) c s) := by
  refine pz_g66_0 ⟨fun h => absurd rfl h, fun _ => ?_⟩
  refine pz_Rn_c (d' := 1) (by omega) (pz_giveC (d := 0) hp h) ?_
  exact pz_g66_9 ⟨rfl, rfl⟩
theorem pz_stepP1 {p x : Nat} (hp : pz_nd p) : pz_Rn (d + 2) 66 (0, [], [(0, .inr (.inr (some 14))), (1, .inr (.inr (some p))), (2, .inr (.inr (some x)))], pz_hp n0 mi ml mr c s, true) (fun o hh => o = .inl (some (.inr (.inr (some p)))) ∧ hh = pz_hp n0 mi ml (pz_up mr p 1 (some x)) c s) :=
  pz_g66_0 ⟨fun _ => ⟨p, rfl, hp, rfl, rfl⟩, fun h => nomatch h⟩
theorem pz_tf_give {p : Nat} {W : List Nat} (hp : pz_nd p) (hw : p ∈ W) : pz_tf W mi ml mr (pz_tu mi p 0) ml (pz_up (pz_up (pz_up mr p 1 none) p 2 (mr 14 3)) 14 3 (some p)) :=
  pz_tf_trans (pz_tf_trans (pz_tf_trans (pz_tf_tu hp hw) (pz_tf_mr hp hw)) (pz_tf_mr hp hw)) pz_tf_14
/-- what a frame of nodes leaves of a tree -/
theorem pz_cT_tf {W : List Nat} {t : Lean.RArray pz_tk} {p : Nat} {X : List Nat} (h : pz_tf W mi ml mr mi' ml' mr') (hX : ∀ q ∈ X, q ∉ W) (hc : pz_cT P mi ml mr t p X) : pz_cT P mi' ml' mr' t p X := pz_cT_fr _ _ _ (fun q hq => h.1 q ((pz_cT_nd _ _ _ hc).2 q hq) (hX q hq)) hc
theorem pz_sx_tf {W : List Nat} {L : List (Nat × Nat × Lean.RArray pz_tk × List Nat)} {V : List Nat} (h : pz_tf W mi ml mr mi' ml' mr') (hX : ∀ q ∈ V, q ∉ W) (hc : pz_sx P mi ml mr L V) : pz_sx P mi' ml' mr' L V := pz_sx_fr _ _ (fun q hq => h.1 q (pz_sx_nd _ _ hc q hq) (hX q hq)) hc
theorem pz_pa_tf {W : List Nat} {L : List (Nat × Nat × Lean.RArray pz_tk × List Nat)} (h : pz_tf W mi ml mr mi' ml' mr') (hp : pz_pa mr L) : pz_pa mr' L := pz_pa_fr (fun j _ => by rw [(h.2.2.1 145 (by decide)).2 (by decide)]) hp
theorem pz_one_nl {p : Nat} (hp : pz_nd p) : ∀ v, v ∈ [p] → v ∈ pz_NDL := by
  intro v hv
  rw [List.mem_singleton.mp hv]
  exact pz_NDLm.mpr hp
set_option maxHeartbeats 4000000 in
theorem pz_gu1 : ∀ (L : List (Nat × Nat × Lean.RArray pz_tk × List Nat)) (V X S : List Nat) (left : Option (Lean.RArray pz_tk)) (x : Option Nat) (ans : Option pz_an) (mi : Nat → Nat → Int) (ml : Nat → Nat → Int64) (mr : Nat → Nat → Option Nat), pz_sx P mi ml mr L V → pz_pa mr L → L.length ≤ 64 → pz_iv mi mr (X ++ V) S → pz_lf P mi ml mr left x X → pz_as P mi ml ans → (ans ≠ none → 2 ≤ S.length) →
    pz_Rn (d + 4) 68 (7, [], [(0, .inr (.inr (some 13))), (3, .inr (.inr x)), (4, .inl ((L.length : Int) + (-1)))], pz_hp n0 mi ml mr c s, true) (pz_uQ n0 c s P mi ml mr (pz_rl (pz_lev L) (left, ans))) := by
  intro L
  induction L with
  | nil =>
    intro V X S left x ans mi ml mr hsx hpa hlen hiv hlf has hS
    have hV : V = [] := hsx
    subst hV
    rw [List.append_nil] at hiv
    exact pz_g68_7 ⟨fun _ => ⟨mi, ml, mr, X, S, x, ⟨rfl, rfl⟩, hiv, hlf, has, pz_tf_refl⟩, fun h => absurd h (by decide)⟩
  | cons e L ih =>
    intro V X S left x ans mi ml mr hsx hpa hlen hiv hlf has hS
    obtain ⟨p, k, b, B⟩ := e
    obtain ⟨V', hV, hnd, hk, hsx'⟩ := hsx
    dsimp only at hV hnd hk
    subst hV
    unfold pz_pa at hpa
    obtain ⟨hp1, hpa'⟩ := hpa
    dsimp only at hp1
    rw [List.length_cons] at hlen
    have ea : (((p, k, b, B) :: L).length : Int) + (-1) = (L.length : Int) := by rw [List.length_cons]; omega
    rw [ea]
    have el : ((L.length : Int)).toNat = L.length := by omega
    have hnd' := hnd
    obtain ⟨n1, n2, n3⟩ := hnd'
    have hh : pz_hm mi := hiv.1
    have nd := (pz_iv_nd hiv).1
    have dis : (∀ q ∈ X, q ≠ p) ∧ (∀ q ∈ B, q ≠ p) ∧ (∀ q ∈ V', q ≠ p) ∧ (∀ q ∈ S, q ≠ p) := by
      have c1 := List.nodup_iff_count.mp nd p
      simp only [List.count_append, List.count_cons, beq_self_eq_true, if_true] at c1
      refine ⟨fun q hq e => ?_, fun q hq e => ?_, fun q hq e => ?_, fun q hq e => ?_⟩ <;> subst e <;> have := List.count_pos_iff.mpr hq <;> omega
    have hle : pz_lev ((p, k, b, B) :: L) = (k, b) :: pz_lev L := rfl
    have hrl : ∀ ra, pz_rl (pz_lev ((p, k, b, B) :: L)) ra = pz_rl (pz_lev L) (pz_fst1 k b ra) := fun ra => rfl
    rw [hrl]
    have wp : p ∈ [p] := List.mem_cons_self
    -- the node given back
    have G : pz_tf [p] mi ml mr (pz_tu mi p 0) ml (pz_up (pz_up (pz_up mr p 1 none) p 2 (mr 14 3)) 14 3 (some p)) := pz_tf_give hnd wp
    have n1' : ∀ {Z : List Nat}, (∀ q ∈ Z, q ≠ p) → ∀ q ∈ Z, q ∉ [p] := fun h q hq hn => h q hq (List.mem_singleton.mp hn)
    have Gn := pz_tf_mono (pz_one_nl hnd) G
    have hG13 : pz_tu mi p 0 13 14 = mi 13 14 := by rw [(pz_tu_f (mi := mi) (k := 0) hnd).2.2 13 (by omega) (by decide)]
    refine pz_g68_7 ⟨fun h => absurd h (by omega), fun _ => ⟨by omega, ?_⟩⟩
    rw [el]
    refine ⟨p, hp1, hnd, ?_⟩
    rcases hk with ⟨k0, m2, r, hr, hcb⟩ | ⟨k', k0, m3, mg, mf, hB⟩
    · -- a sum
      subst k0
      refine ⟨fun h => absurd m2 h, fun _ => ?_⟩
      cases left with
      | none =>
        obtain ⟨hx, hX⟩ := hlf
        subst hx hX
        have hf : pz_fst1 0 b (none, ans) = (some b, ans) := rfl
        rw [hf]
        have iv1 := (pz_iv_give (U' := B ++ V') hiv (List.Perm.refl _)).2
        have st : pz_Rn (d + 3) 65 (0, [], [(0, .inr (.inr (some 14))), (1, .inr (.inr (some p))), (2, .inr (.inr none))], pz_hp n0 mi ml mr c s, true) (fun o hh => o = .inl (some (.inr (.inr (some r)))) ∧ hh = pz_hp n0 (pz_tu mi p 0) ml (pz_up (pz_up (pz_up mr p 1 none) p 2 (mr 14 3)) 14 3 (some p)) c s) := by
          refine pz_g65_0 ⟨p, rfl, hnd, fun h => absurd rfl h, fun _ => ?_⟩
          refine pz_Rn_c (d' := 1) (by omega) (pz_giveC (d := 0) hnd hh) ?_
          rw [hr]
          exact pz_g65_14 ⟨rfl, rfl⟩
        refine pz_Rn_c (Nat.le_refl _) st ?_
        refine pz_g68_40 ⟨by omega, ?_⟩
        refine (ih V' B (p :: S) (some b) (some r) ans _ ml _ (pz_sx_tf G (n1' dis.2.2.1) hsx') (pz_pa_tf G hpa') (by omega) iv1 ⟨r, rfl, pz_cT_tf G (n1' dis.2.1) hcb⟩ (pz_as_tf G hG13 has) (fun h => by have := hS h; rw [List.length_cons]; omega)).mono (Nat.le_refl _) (fun _ _ => pz_uQ_up Gn)
      | some t' =>
        obtain ⟨x0, hx, hct⟩ := hlf
        subst hx
        have hf : pz_fst1 0 b (some t', ans) = (some (.branch 0 b t'), ans) := rfl
        rw [hf]
        have st : pz_Rn (d + 3) 65 (0, [], [(0, .inr (.inr (some 14))), (1, .inr (.inr (some p))), (2, .inr (.inr (some x0)))], pz_hp n0 mi ml mr c s, true) (fun o hh => o = .inl (some (.inr (.inr (some p)))) ∧ hh = pz_hp n0 mi ml (pz_up (pz_up mr p 1 (some r)) p 2 (some x0)) c s) := by
          refine pz_g65_0 ⟨p, rfl, hnd, fun _ => ⟨rfl, by rw [hr]⟩, fun h => nomatch h⟩
        refine pz_Rn_c (Nat.le_refl _) st ?_
        refine pz_g68_40 ⟨by omega, ?_⟩
        have T : pz_tf [p] mi ml mr mi ml (pz_up (pz_up mr p 1 (some r)) p 2 (some x0)) := pz_tf_trans (pz_tf_mr hnd wp) (pz_tf_mr hnd wp)
        have iv1 : pz_iv mi (pz_up (pz_up mr p 1 (some r)) p 2 (some x0)) ((p :: (B ++ X)) ++ V') S := by
          refine pz_iv_perm (pz_iv_fr hiv rfl (fun _ _ => rfl) ?_ (fun q hq => ?_)) ?_
          · rw [pz_upq (by omega), pz_upq (by omega)]
          · rw [pz_upq (dis.2.2.2 q hq), pz_upq (dis.2.2.2 q hq)]
          · simp only [List.perm_iff_count, List.count_append, List.count_cons]
            intro z
            omega
        refine (ih V' (p :: (B ++ X)) S (some (.branch 0 b t')) (some p) ans mi ml _ (pz_sx_tf T (n1' dis.2.2.1) hsx') (pz_pa_tf T hpa') (by omega) iv1 ⟨p, rfl, r, x0, B, X, rfl, hnd, m2, ?_, pz_up_at, pz_cT_tf T (n1' dis.2.1) hcb, pz_cT_tf T (n1' dis.1) hct⟩ has hS).mono (Nat.le_refl _) (fun _ _ => pz_uQ_up (pz_tf_mono (pz_one_nl hnd) T))
        rw [pz_up_ot (by decide), pz_up_at]
    · -- a product
      subst k0 hB
      refine ⟨fun _ => ⟨fun h0 => ?_, fun h0 => ?_⟩, fun h => absurd h (by omega)⟩
      · -- without an answer
        cases ans with
        | some an => exact absurd h0 (by have := has.1; omega)
        | none =>
          cases left with
          | none =>
            obtain ⟨hx, hX⟩ := hlf
            subst hx hX
            have hf : pz_fst1 (k' + 1) b (none, none) = (none, none) := rfl
            rw [hf]
            have iv1 := (pz_iv_give (U' := [] ++ V') hiv (List.Perm.refl _)).2
            refine pz_Rn_c (d' := 2) (by omega) (pz_stepP0 (d := 0) hnd hh) ?_
            refine pz_g68_84 ⟨by omega, ?_⟩
            exact (ih V' [] (p :: S) none none none _ ml _ (pz_sx_tf G (n1' dis.2.2.1) hsx') (pz_pa_tf G hpa') (by omega) iv1 ⟨rfl, rfl⟩ (pz_as_tf G hG13 has) (fun h => absurd rfl h)).mono (Nat.le_refl _) (fun _ _ => pz_uQ_up Gn)
          | some t' =>
            obtain ⟨x0, hx, hct⟩ := hlf
            subst hx
            have hf : pz_fst1 (k' + 1) b (some t', none) = (some (.branch (k' + 1) t' b), none) := rfl
            rw [hf]
            refine pz_Rn_c (d' := 2) (by omega) (pz_stepP1 (d := 0) hnd) ?_
            refine pz_g68_84 ⟨by omega, ?_⟩
            have T : pz_tf [p] mi ml mr mi ml (pz_up mr p 1 (some x0)) := pz_tf_mr hnd wp
            have iv1 : pz_iv mi (pz_up mr p 1 (some x0)) ((p :: X) ++ V') S := by
              refine pz_iv_perm (pz_iv_fr hiv rfl (fun _ _ => rfl) ?_ (fun q hq => ?_)) ?_
              · rw [pz_upq (by omega)]
              · rw [pz_upq (dis.2.2.2 q hq)]
              · simp only [List.perm_iff_count, List.count_append, List.count_cons, List.count_nil]
                intro z
                omega
            exact (ih V' (p :: X) S (some (.branch (k' + 1) t' b)) (some p) none mi ml _ (pz_sx_tf T (n1' dis.2.2.1) hsx') (pz_pa_tf T hpa') (by omega) iv1 ⟨p, rfl, x0, X, rfl, hnd, m3, mg, mf, pz_up_at, pz_cT_tf T (n1' dis.1) hct⟩ has hS).mono (Nat.le_refl _) (fun _ _ => pz_uQ_up (pz_tf_mono (pz_one_nl hnd) T))
      · -- with an answer
        cases ans with
        | none => exact absurd has h0
        | some an =>
          have hS2 := hS (fun h => nomatch h)
          obtain ⟨has1, has2⟩ := has
          have A0 : pz_tf [p] mi ml mr (pz_up mi 13 14 0) ml mr := pz_tf_an
          have iv0 : pz_iv (pz_up mi 13 14 0) mr (X ++ p :: ([] ++ V')) S := pz_iv_fr hiv (pz_upq (by decide)) (fun q hq => by rw [pz_upq (by have := hq.1; omega)]) rfl (fun _ _ => rfl)
          have z14 : pz_up mi 13 14 0 13 14 = 0 := pz_up_at
          have zp : pz_up mi 13 14 0 p = mi p := pz_upq (by omega)
          have z149 : pz_up mi 13 14 0 149 = mi 149 := pz_upq (by decide)
          generalize pz_up mi 13 14 0 = mi1 at *
          cases S with
          | nil => exact absurd hS2 (by decide)
          | cons q S1 =>
            cases S1 with
            | nil => exact absurd hS2 (by rw [List.length_singleton]; decide)
            | cons q2 S2 =>
              have fin : pz_Rn (d + 3) 67 (0, [], [(0, .inr (.inr (some 14))), (1, .inr (.inr (some p))), (2, .inr (.inr x)), (3, .inr (.inr (some 149)))], pz_hp n0 mi1 ml mr c s, true) (fun o h => ∃ mi' ml' mr' X' S' x', (o = .inl (some (.inr (.inr x'))) ∧ h = pz_hp n0 mi' ml' mr' c s) ∧ pz_iv mi' mr' (X' ++ V') S' ∧ pz_lf P mi' ml' mr' (pz_fst1 (k' + 1) b (left, some an)).1 x' X' ∧ mi' 13 14 = 0 ∧ pz_tf [p, q, q2] mi1 ml mr mi' ml' mr') := by
                refine pz_g67_0 (.inl rfl) ⟨p, rfl, hnd, ?_⟩
                rw [zp, mg, mf]
                have hqn : pz_nd q := (pz_iv_nd iv0).2.2 q List.mem_cons_self
                have hq2n : pz_nd q2 := (pz_iv_nd iv0).2.2 q2 (List.mem_cons_of_mem _ List.mem_cons_self)
                have hqn' := hqn
                obtain ⟨a1, a2, a3⟩ := hqn'
                have hq2n' := hq2n
                obtain ⟨b1, b2, b3⟩ := hq2n'
                refine pz_Rn_e (d' := 2) (by omega) (pz_newC (d := 0) (p3 := 149) iv0 (.inl rfl) (by omega)) ?_
                rintro _ _ ⟨m2, l2, r2, ⟨rfl, rfl⟩, -, iv2, t2, e13, w0, w3, w4, s0, s1, s2⟩
                have nd2 := (pz_iv_nd iv0).1
                have d2 : q ≠ p ∧ q2 ≠ p ∧ q2 ≠ q ∧ (∀ v ∈ X, v ≠ q ∧ v ≠ q2) ∧ (∀ v ∈ V', v ≠ q ∧ v ≠ q2) ∧ (∀ v ∈ S2, v ≠ q ∧ v ≠ q2 ∧ v ≠ p) := by
                  refine ⟨dis.2.2.2 q List.mem_cons_self, dis.2.2.2 q2 (List.mem_cons_of_mem _ List.mem_cons_self), ?_, ?_, ?_, ?_⟩
                  · intro e
                    have c1 := List.nodup_iff_count.mp nd2 q
                    subst e
                    simp only [List.count_append, List.count_cons, beq_self_eq_true, if_true] at c1
                    omega
                  · intro v hv
                    have c1 := List.nodup_iff_count.mp nd2 v
                    have c2 := List.count_pos_iff.mpr hv
                    constructor
                    · intro e
                      subst e
                      simp only [List.count_append, List.count_cons, beq_self_eq_true, if_true] at c1
                      omega
                    · intro e
                      subst e
                      simp only [List.count_append, List.count_cons, beq_self_eq_true, if_true] at c1
                      omega
                  · intro v hv
                    have c1 := List.nodup_iff_count.mp nd2 v
                    have c2 := List.count_pos_iff.mpr hv
                    constructor
                    · intro e
                      subst e
                      simp only [List.count_append, List.count_cons, beq_self_eq_true, if_true] at c1
                      omega
                    · intro e
                      subst e
                      simp only [List.count_append, List.count_cons, beq_self_eq_true, if_true] at c1
                      omega
                  · intro v hv
                    have c1 := List.nodup_iff_count.mp nd2 v
                    have c2 := List.count_pos_iff.mpr hv
                    refine ⟨?_, ?_, dis.2.2.2 v (List.mem_cons_of_mem _ (List.mem_cons_of_mem _ hv))⟩
                    · intro e
                      subst e
                      simp only [List.count_append, List.count_cons, beq_self_eq_true, if_true] at c1
                      omega
                    · intro e
                      subst e
                      simp only [List.count_append, List.count_cons, beq_self_eq_true, if_true] at c1
                      omega
                have T2 : pz_tf [p, q, q2] mi1 ml mr m2 l2 r2 := pz_tf_mono (fun v hv => by rw [List.mem_singleton.mp hv]; simp) t2
                have lfq : ∀ (m : Nat → Nat → Int) (l : Nat → Nat → Int64) (r : Nat → Nat → Option Nat), m q = m2 q → m (q + 1) = m2 (q + 1) → l (q + 1) = l2 (q + 1) → pz_cT P m l r (.leaf (k' / 64, k' % 64, an)) q [q] := by
                  intro m l r f1 f2 f3
                  refine ⟨rfl, hqn, by rw [f1]; exact w0, ?_⟩
                  rw [f1, f2, f3, w3, w4, s0, s1, s2, z149]
                  exact has2 (k' / 64) (k' % 64)
                refine pz_g67_13 ?_
                cases left with
                | none =>
                  obtain ⟨hx, hX⟩ := hlf
                  subst hx hX
                  refine pz_Rn_c (d' := 2) (by omega) (pz_stepP0 (d := 0) hnd iv2.1) ?_
                  refine pz_g67_21 ⟨fun h => absurd rfl h, fun _ => ?_⟩
                  have G2 : pz_tf [p, q, q2] m2 l2 r2 (pz_tu m2 p 0) l2 (pz_up (pz_up (pz_up r2 p 1 none) p 2 (r2 14 3)) 14 3 (some p)) := pz_tf_give hnd List.mem_cons_self
                  have iv3 := (pz_iv_give (q := p) (U' := [q] ++ V') iv2 (by
                    simp only [List.perm_iff_count, List.count_append, List.count_cons, List.count_nil]
                    intro z
                    omega)).2
                  have u3 := (pz_tu_f (mi := m2) (k := 0) hnd).2.2
                  refine ⟨_, _, _, [q], _, some q, ⟨rfl, rfl⟩, iv3, ⟨q, rfl, lfq _ _ _ (u3 q d2.1 (by omega)) (u3 (q + 1) (by omega) (by omega)) rfl⟩, ?_, pz_tf_trans T2 G2⟩
                  rw [u3 13 (by omega) (by decide), e13]
                  exact z14
                | some t' =>
                  obtain ⟨x0, hx, hct⟩ := hlf
                  subst hx
                  refine pz_Rn_c (d' := 2) (by omega) (pz_stepP1 (d := 0) hnd) ?_
                  refine pz_g67_21 ⟨fun _ => ?_, fun h => nomatch h⟩
                  have T3 : pz_tf [p, q, q2] m2 l2 r2 m2 l2 (pz_up r2 p 1 (some x0)) := pz_tf_mr hnd List.mem_cons_self
                  have iv3 : pz_iv m2 (pz_up r2 p 1 (some x0)) (q :: (X ++ p :: ([] ++ V'))) (q2 :: S2) := by
                    refine pz_iv_fr iv2 rfl (fun _ _ => rfl) (by rw [pz_upq (by omega)]) (fun v hv => ?_)
                    rcases List.mem_cons.mp hv with rfl | hv
                    · rw [pz_upq d2.2.1]
                    · rw [pz_upq (d2.2.2.2.2.2 v hv).2.2]
                  have p1 : pz_up r2 p 1 (some x0) p 1 = some x0 := pz_up_at
                  generalize pz_up r2 p 1 (some x0) = r3 at *
                  refine pz_Rn_c (d' := 1) (by omega) (pz_takeC (d := 0) (k := 2) iv3 (by decide)) ?_
                  obtain ⟨y1, y2, iv4⟩ := pz_iv_take (k := 2) iv3 (by decide)
                  have hw2 : q2 ∈ [p, q, q2] := by simp
                  have T4 : pz_tf [p, q, q2] m2 l2 r3 (pz_tu m2 q2 2) l2 (pz_up r3 14 3 (r3 q2 2)) := pz_tf_trans (pz_tf_tu hq2n hw2) pz_tf_14
                  have u4 := pz_tu_f (mi := m2) (k := 2) hq2n
                  have p14 : pz_up r3 14 3 (r3 q2 2) p 1 = some x0 := by rw [pz_upq (by omega)]; exact p1
                  generalize hm4 : pz_tu m2 q2 2 = m4 at *
                  generalize pz_up r3 14 3 (r3 q2 2) = r4 at *
                  refine pz_g67_36 ?_
                  refine pz_Rn_c (d' := 1) (by omega) (pz_sumC (d := 0) hq2n iv4.1) ?_
                  refine pz_g67_48 ?_
                  have u5 := pz_tu_f (mi := m4) (k := 2) hq2n
                  have T5 : pz_tf [p, q, q2] m4 l2 r4 (pz_tu m4 q2 2) l2 (pz_up (pz_up r4 q2 1 (some q)) q2 2 (some p)) := pz_tf_trans (pz_tf_trans (pz_tf_tu hq2n hw2) (pz_tf_mr hq2n hw2)) (pz_tf_mr hq2n hw2)
                  have T25 := pz_tf_trans (pz_tf_trans (pz_tf_trans T2 T3) T4) T5
                  have iv5 : pz_iv (pz_tu m4 q2 2) (pz_up (pz_up r4 q2 1 (some q)) q2 2 (some p)) ((q2 :: ([q] ++ (p :: X))) ++ V') S2 := by
                    obtain ⟨h1, h2, h3⟩ := iv4
                    refine ⟨pz_tu_hm hq2n (by decide) h1, ?_, ?_⟩
                    · rw [pz_upq (by omega), pz_upq (by omega)]
                      refine pz_cC_fr (fun v hv => ⟨?_, ?_⟩) h2
                      · have hvn := (pz_cC_k h2 v hv).1
                        rw [u5.2.2 v (d2.2.2.2.2.2 v hv).2.1 (by have := hvn.1; omega)]
                      · rw [pz_upq (d2.2.2.2.2.2 v hv).2.1, pz_upq (d2.2.2.2.2.2 v hv).2.1]
                    · refine List.Perm.trans ?_ h3
                      simp only [List.perm_iff_count, List.count_append, List.count_cons, List.count_nil]
                      intro z
                      omega
                  have eqq : ∀ v, v ≠ q2 → v ≠ 16 → pz_tu m4 q2 2 v = m2 v := fun v h1 h2 => (u5.2.2 v h1 h2).trans (u4.2.2 v h1 h2)
                  have epp : pz_tu m4 q2 2 p = mi1 p := by
                    rw [eqq p (fun e => d2.2.1 e.symm) (by omega)]
                    exact (t2.1 p hnd (fun e => d2.1 (List.mem_singleton.mp e).symm)).1
                  have hfx : (pz_fst1 (k' + 1) b (some t', some an)).1 = some (.branch 0 (.leaf (k' / 64, k' % 64, an)) (.branch (k' + 1) t' b)) := rfl
                  rw [hfx]
                  refine ⟨_, _, _, q2 :: ([q] ++ (p :: X)), S2, some q2, ⟨rfl, rfl⟩, iv5, ⟨q2, rfl, q, p, [q], p :: X, rfl, hq2n, u5.1, ?_, pz_up_at, ?_, x0, X, rfl, hnd, ?_, ?_, ?_, ?_, ?_⟩, ?_, T25⟩
                  · rw [pz_up_ot (by decide), pz_up_at]
                  · exact lfq _ _ _ (eqq q (fun e => d2.2.2.1 e.symm) (by omega)) (eqq (q + 1) (by omega) (by omega)) rfl
                  · rw [epp, zp]
                    exact m3
                  · rw [epp, zp]
                    exact mg
                  · rw [epp, zp]
                    exact mf
                  · rw [pz_upq (fun e => d2.2.1 e.symm), pz_upq (fun e => d2.2.1 e.symm)]
                    exact p14
                  · refine pz_cT_tf (pz_tf_trans (pz_tf_mono (fun v hv => by rw [List.mem_singleton.mp hv]; simp) A0) T25) (fun v hv hn => ?_) hct
                    rcases List.mem_cons.mp hn with e | hn
                    · exact dis.1 v hv e
                    · rcases List.mem_cons.mp hn with e | hn
                      · exact (d2.2.2.2.1 v hv).1 e
                      · exact (d2.2.2.2.1 v hv).2 (List.mem_singleton.mp hn)
                  · rw [eqq 13 (by omega) (by decide), e13]
                    exact z14
              refine pz_Rn_e (Nat.le_refl _) fin ?_
              rintro _ _ ⟨m2, l2, r2, X', S', x', ⟨rfl, rfl⟩, iv2, lf2, z2, T2⟩
              refine pz_g68_70 ⟨by omega, ?_⟩
              have hqn : pz_nd q := (pz_iv_nd iv0).2.2 q List.mem_cons_self
              have hq2n : pz_nd q2 := (pz_iv_nd iv0).2.2 q2 (List.mem_cons_of_mem _ List.mem_cons_self)
              have T02 : pz_tf [p, q, q2] mi ml mr m2 l2 r2 := pz_tf_trans (pz_tf_mono (fun v hv => by rw [List.mem_singleton.mp hv]; simp) A0) T2
              have nd2 := (pz_iv_nd iv0).1
              have nV : ∀ v ∈ V', v ∉ [p, q, q2] := by
                intro v hv hn
                have c1 := List.nodup_iff_count.mp nd2 v
                have c2 := List.count_pos_iff.mpr hv
                rcases List.mem_cons.mp hn with e | hn
                · exact dis.2.2.1 v hv e
                · rcases List.mem_cons.mp hn with e | hn
                  · subst e
                    simp only [List.count_append, List.count_cons, beq_self_eq_true, if_true] at c1
                    omega
                  · have e := List.mem_singleton.mp hn
                    subst e
                    simp only [List.count_append, List.count_cons, beq_self_eq_true, if_true] at c1
                    omega
              have hf2 : (pz_fst1 (k' + 1) b (left, some an)) = ((pz_fst1 (k' + 1) b (left, some an)).1, none) := by
                cases left <;> rfl
              rw [hf2]
              refine (ih V' X' S' _ x' none m2 l2 r2 (pz_sx_tf T02 nV hsx') (pz_pa_tf T02 hpa') (by omega) iv2 lf2 z2 (fun h => absurd rfl h)).mono (Nat.le_refl _) (fun _ _ => pz_uQ_up (pz_tf_mono (fun v hv => ?_) T02))
              rcases List.mem_cons.mp hv with rfl | hv
              · exact pz_NDLm.mpr hnd
              · rcases List.mem_cons.mp hv with rfl | hv
                · exact pz_NDLm.mpr hqn
                · rw [List.mem_singleton.mp hv]
                  exact pz_NDLm.mpr hq2n
end pzB
