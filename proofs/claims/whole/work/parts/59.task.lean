/-! The class's stepTask. -/
def pz_rt (F : Nat) (x : pz_sr) : Option (Nat × (Option (Lean.RArray pz_tk) × Option pz_an) × Nat × Nat × (Nat → Nat × Nat)) := match x with
  | none => none
  | some (ans, nb', N', k') => some (F, (none, ans), nb', N', k')
/-- what a task's step makes: frames, tree and answer, bindings, conditions; none: too much -/
def pz_ts (mi : Nat → Nat → Int) (F nb N : Nat) (k : Nat → Nat × Nat) (x : pz_tk) : Option (Nat × (Option (Lean.RArray pz_tk) × Option pz_an) × Nat × Nat × (Nat → Nat × Nat)) :=
  if mi 7 x.1 = 0 then pz_rt F (pz_sm mi x.2.2.1 k N x.2.2.2.1 x.2.2.2.2 nb 500 (pz_cs mi ((x.2.1 : Int) * 41 + mi 8 x.1), pz_cs mi ((x.2.1 : Int) * 41 + mi 9 x.1)))
  else if mi 7 x.1 = 1 then pz_rt F (pz_df mi x.2.2.1 k N x.2.2.2.1 x.2.2.2.2 nb 500 (pz_cs mi ((x.2.1 : Int) * 41 + mi 8 x.1), pz_cs mi ((x.2.1 : Int) * 41 + mi 9 x.1)))
  else if mi 7 x.1 = 2 then some (F, (some (.branch (64 * (mi 9 x.1).toNat + x.2.1 + 1) (.leaf ((mi 8 x.1).toNat, x.2)) (.leaf x)), none), nb, N, k)
  else if mi 7 x.1 = 3 then some (F, (some (.branch 0 (.leaf ((mi 8 x.1).toNat, x.2)) (.leaf ((mi 9 x.1).toNat, x.2))), none), nb, N, k)
  else if mi 12 (mi 11 x.1).toNat < 0 then some (F, (none, none), nb, N, k)
  else if F = 40 ∨ 1000 < nb + 3 then none
  else some (F + 1, (some (.leaf ((mi 12 (mi 11 x.1).toNat).toNat, F, pz_ub (pz_ub (pz_ub x.2.2.1 (6 * F) (pz_cs mi ((x.2.1 : Int) * 41 + mi 8 x.1))) (6 * F + 1) (pz_cs mi ((x.2.1 : Int) * 41 + mi 9 x.1))) (6 * F + 2) (pz_cs mi ((x.2.1 : Int) * 41 + mi 10 x.1)), x.2.2.2)), none), nb + 3, N, k)
/-- what a task's step leaves as it was: the nodes V, and all that is neither the tree's nor a match's -/
def pz_fs (V : List Nat) (mi : Nat → Nat → Int) (ml : Nat → Nat → Int64) (mr : Nat → Nat → Option Nat) (mi' : Nat → Nat → Int) (ml' : Nat → Nat → Int64) (mr' : Nat → Nat → Option Nat) : Prop :=
  (∀ v ∈ V, mi' v = mi v ∧ mi' (v + 1) = mi (v + 1) ∧ ml' (v + 1) = ml (v + 1) ∧ mr' v = mr v) ∧ (∀ p, (p < 16 ∨ p = 148 ∨ 158 < p) → p ≠ 13 → mi' p = mi p) ∧ (∀ p, (p < 17 ∨ 144 < p) → (p ≠ 149 → ml' p = ml p) ∧ (p ≠ 14 → mr' p = mr p)) ∧ (∀ j, j ≠ 11 → j ≠ 12 → j ≠ 14 → mi' 13 j = mi 13 j) ∧ ∀ j, j ≠ 3 → mr' 14 j = mr 14 j
def pz_ovC (mi : Nat → Nat → Int) : Prop := 500 < mi 155 5 ∨ 1000 < mi 150 5 ∨ 40 < mi 13 12 ∨ 120 < mi 13 11
def pz_PT : Int → Int → Int → Int64 → Int64 → pz_tk → Prop := fun _ _ _ _ _ _ => True
/-- how stepTask ends -/
def pz_oT (n0 c s : Nat) (V : List Nat) (nb : Nat) (mi : Nat → Nat → Int) (ml : Nat → Nat → Int64) (mr : Nat → Nat → Option Nat) (res : Option (Nat × (Option (Lean.RArray pz_tk) × Option pz_an) × Nat × Nat × (Nat → Nat × Nat))) : pz_O → pz_H → Prop := fun o h => ∃ mi' ml' mr' X S x ra, (o = .inl (some (.inr (.inr x))) ∧ h = pz_hp n0 mi' ml' mr' c s) ∧ pz_iv mi' mr' (X ++ V) S ∧ (ra.2 ≠ none → 2 ≤ S.length) ∧ pz_fs V mi ml mr mi' ml' mr' ∧ pz_lo nb mi mi' ∧ ((nb : Int) ≤ mi' 150 5) ∧ match res with
  | none => pz_ovC mi' ∧ pz_lf pz_PT mi' ml' mr' ra.1 x X ∧ pz_as pz_PT mi' ml' ra.2
  | some (F', ra', nb', N', k') => ra = ra' ∧ mi' 13 12 = (F' : Int) ∧ mi' 150 5 = (nb' : Int) ∧ nb' ≤ 1000 ∧ N' ≤ 120 ∧ pz_cn mi' (F' : Int) N' k' ∧ mi' 155 5 ≤ 500 ∧ pz_lf (pz_P1 mi' (F' : Int)) mi' ml' mr' ra.1 x X ∧ pz_as (pz_P1 mi' (F' : Int)) mi' ml' ra.2 ∧ match ra.2 with
    | none => True
    | some an => pz_cI mi' (F' : Int) an.1 an.1 nb'
section pzC
variable {d n0 : Nat} {mi mi' : Nat → Nat → Int} {ml ml' : Nat → Nat → Int64} {mr mr' : Nat → Nat → Option Nat} {c s : Nat} {σ : Nat → Option Nat} {V S : List Nat}
theorem pz_vs_mono {F F' : Int} (h : F ≤ F') {x : Int} (hx : pz_vs mi F x) : pz_vs mi F' x := ⟨hx.1, by have := hx.2.1; omega, hx.2.2⟩
theorem pz_vm_mono {F F' : Int} (h : F ≤ F') {x : Int} (hx : pz_vm mi F x) : pz_vm mi F' x := by
  rcases hx with hx | hx
  · exact .inl ⟨hx.1, by omega⟩
  · exact .inr ⟨hx.1, hx.2.1, hx.2.2.1, by omega⟩
theorem pz_cS_mono {F F' b : Int} (h : F ≤ F') (hs : pz_cS mi F b σ) : pz_cS mi F' b σ := by
  obtain ⟨l, g1, g2, g3, g4⟩ := hs
  exact ⟨l, g1, g2, fun e he => ⟨by have := (g3 e he).1; omega, pz_vs_mono h (g3 e he).2⟩, g4⟩
theorem pz_cn_mono {F F' : Int} {N : Nat} {k : Nat → Nat × Nat} (h : F ≤ F') (hs : pz_cn mi F N k) : pz_cn mi F' N k := ⟨hs.1, fun i hi => ⟨pz_vs_mono h (hs.2 i hi).1, pz_vs_mono h (hs.2 i hi).2.1, (hs.2 i hi).2.2⟩⟩
/-- a binding more in the chain -/
theorem pz_cS_b {F : Int} (h : pz_cS mi F (mi 150 6) σ) {v : Nat} {x : Int} (hm : 0 ≤ mi 150 5) (hv : (v : Int) < 6 * F) (hn : σ v = none) (hx : pz_vs mi F x) : pz_cS (pz_bh mi v x) F (pz_bh mi v x 150 6) (pz_ub σ v (pz_cs mi x)) := by
  obtain ⟨b1, b2, b3, b4, b5, b6, b7⟩ := pz_bh_f (mi := mi) (v : Int) x
  have te := pz_te_fr (pz_bh_fr (mi := mi) (v : Int) x) (by decide) (by decide)
  obtain ⟨l, g1, g2, g3, g4⟩ := h
  refine ⟨(v, x) :: l, ?_, ?_, ?_, ?_⟩
  · unfold pz_ch
    rw [b2, b5, b6, b7]
    exact ⟨hm, by omega, rfl, rfl, pz_ch_up (by omega) (fun j hj => b4 j (by omega)) g1⟩
  · rw [List.map_cons, List.nodup_cons]
    refine ⟨fun hin => pz_lk_in hin ?_, g2⟩
    have := g4 v
    rw [hn] at this
    cases e : pz_lk l v with
    | none => rfl
    | some q => rw [e] at this; cases this
  · rw [pz_vs_te te]
    intro e he
    rcases List.mem_cons.mp he with rfl | he
    · exact ⟨hv, hx⟩
    · exact g3 e he
  · intro u
    rw [pz_cs_te te]
    unfold pz_lk
    by_cases e : v = u
    · subst e
      rw [if_pos rfl, pz_ub_eq]
      rfl
    · rw [if_neg e, pz_ub_ne (fun q => e q.symm)]
      exact g4 u
/-- bind, with room or without -/
def pz_b1 (mi : Nat → Nat → Int) (v x : Int) : Nat → Nat → Int := if mi 150 5 ≤ 1000 then pz_bh mi v x else mi
theorem pz_bindA {v x : Int} (h0 : 0 ≤ mi 150 5) (hv : 0 ≤ v ∧ v < 246) : pz_Rn d 45 (0, [], [(0, .inr (.inr (some 150))), (1, .inl v), (2, .inl x)], pz_hp n0 mi ml mr c s, true) (fun o h => o = .inl none ∧ h = pz_hp n0 (pz_b1 mi v x) ml mr c s) := by
  unfold pz_b1
  by_cases h : mi 150 5 ≤ 1000
  · rw [if_pos h]
    exact pz_bindC ⟨h0, h⟩ hv
  · rw [if_neg h]
    exact pz_bindX (by omega)
theorem pz_b1_f (v x : Int) (h0 : 0 ≤ mi 150 5) : pz_fr [150, 151, 152, 153, 154] [] mi (pz_b1 mi v x) ∧ mi 150 5 ≤ pz_b1 mi v x 150 5 ∧ (mi 150 5 ≤ 1000 → pz_b1 mi v x 150 5 = mi 150 5 + 1) ∧ ∀ nb : Nat, (nb : Int) ≤ mi 150 5 → pz_lo nb mi (pz_b1 mi v x) := by
  unfold pz_b1
  by_cases h : mi 150 5 ≤ 1000
  · rw [if_pos h]
    obtain ⟨b1, b2, b3, b4, b5⟩ := pz_bh_f (mi := mi) v x
    exact ⟨pz_bh_fr v x, by omega, fun _ => b1, fun nb hnb j hj => b4 j (by omega)⟩
  · rw [if_neg h]
    exact ⟨pz_fr_refl, Int.le_refl _, fun h2 => absurd h2 h, fun _ _ => pz_lo_refl⟩
theorem pz_fs_trans {mi'' : Nat → Nat → Int} {ml'' : Nat → Nat → Int64} {mr'' : Nat → Nat → Option Nat} (h : pz_fs V mi ml mr mi' ml' mr') (h' : pz_fs V mi' ml' mr' mi'' ml'' mr'') : pz_fs V mi ml mr mi'' ml'' mr'' := by
  obtain ⟨a1, a2, a3, a4, a5⟩ := h
  obtain ⟨b1, b2, b3, b4, b5⟩ := h'
  refine ⟨fun v hv => ?_, fun p hp h13 => (b2 p hp h13).trans (a2 p hp h13), fun p hp => ⟨fun h9 => ((b3 p hp).1 h9).trans ((a3 p hp).1 h9), fun h14 => ((b3 p hp).2 h14).trans ((a3 p hp).2 h14)⟩, fun j h1 h2 h3 => (b4 j h1 h2 h3).trans (a4 j h1 h2 h3), fun j hj => (b5 j hj).trans (a5 j hj)⟩
  obtain ⟨u1, u2, u3, u4⟩ := a1 v hv
  obtain ⟨v1, v2, v3, v4⟩ := b1 v hv
  exact ⟨v1.trans u1, v2.trans u2, v3.trans u3, v4.trans u4⟩
/-- from a change of nodes alone -/
theorem pz_fs_tf {W : List Nat} (hV : ∀ v ∈ V, pz_nd v ∧ v ∉ W) (h : pz_tf W mi ml mr mi' ml' mr') : pz_fs V mi ml mr mi' ml' mr' := ⟨fun v hv => h.1 v (hV v hv).1 (hV v hv).2, fun p hp h13 => h.2.1 p (by omega) h13, fun p hp => ⟨fun _ => (h.2.2.1 p hp).1, (h.2.2.1 p hp).2⟩, fun j _ _ h3 => h.2.2.2.1 j h3, h.2.2.2.2⟩
/-- from a change of what a match works on -/
theorem pz_fs_fr (hV : ∀ v ∈ V, pz_nd v) (h : pz_fr [13, 146, 147, 149, 150, 151, 152, 153, 154, 155, 156, 157, 158] [] mi mi') (h13 : ∀ j, j ≠ 11 → j ≠ 12 → j ≠ 14 → mi' 13 j = mi 13 j) (hl : ∀ p, p ≠ 149 → ml' p = ml p) : pz_fs V mi ml mr mi' ml' mr := by
  have g : ∀ p, p ≠ 13 → (p < 146 ∨ p = 148 ∨ 158 < p) → mi' p = mi p := by
    intro p h1 h2
    by_cases e : p = 165
    · subst e
      funext k
      exact h.2 k List.not_mem_nil
    · refine h.1 p ?_ e
      simp only [List.mem_cons, List.not_mem_nil, or_false]
      omega
  refine ⟨fun v hv => ?_, fun p hp h13' => g p h13' (by omega), fun p hp => ⟨hl p, fun _ => rfl⟩, h13, fun j _ => rfl⟩
  obtain ⟨v1, v2, v3⟩ := hV v hv
  exact ⟨g v (by omega) (by omega), g (v + 1) (by omega) (by omega), hl (v + 1) (by omega), rfl⟩
theorem pz_iv_nodes {U : List Nat} (h : pz_iv mi mr U S) (h16 : mi' 16 = mi 16) (hk : ∀ p, pz_nd p → mi' p = mi p) : pz_iv mi' mr U S := pz_iv_fr h h16 (fun p hp => by rw [hk p hp]) rfl (fun _ _ => rfl)
end pzC
