/-! The class's tree: taking and giving back nodes. -/
/-- what stands but for the nodes in W (and counts, the chain's head, 'answered') -/
def pz_tf (W : List Nat) (mi : Nat → Nat → Int) (ml : Nat → Nat → Int64) (mr : Nat → Nat → Option Nat) (mi' : Nat → Nat → Int) (ml' : Nat → Nat → Int64) (mr' : Nat → Nat → Option Nat) : Prop :=
  (∀ v, pz_nd v → v ∉ W → mi' v = mi v ∧ mi' (v + 1) = mi (v + 1) ∧ ml' (v + 1) = ml (v + 1) ∧ mr' v = mr v) ∧ (∀ p, (p < 16 ∨ 144 < p) → p ≠ 13 → mi' p = mi p) ∧ (∀ p, (p < 17 ∨ 144 < p) → ml' p = ml p ∧ (p ≠ 14 → mr' p = mr p)) ∧ (∀ j, j ≠ 14 → mi' 13 j = mi 13 j) ∧ ∀ j, j ≠ 3 → mr' 14 j = mr 14 j
section pzz
variable {d n0 : Nat} {mi mi' mi'' : Nat → Nat → Int} {ml ml' ml'' : Nat → Nat → Int64} {mr mr' mr'' : Nat → Nat → Option Nat} {c s : Nat} {P : Int → Int → Int → Int64 → Int64 → pz_tk → Prop} {U S W W' : List Nat}
theorem pz_tf_refl : pz_tf W mi ml mr mi ml mr := ⟨fun _ _ _ => ⟨rfl, rfl, rfl, rfl⟩, fun _ _ _ => rfl, fun _ _ => ⟨rfl, fun _ => rfl⟩, fun _ _ => rfl, fun _ _ => rfl⟩
theorem pz_tf_trans (h : pz_tf W mi ml mr mi' ml' mr') (h' : pz_tf W mi' ml' mr' mi'' ml'' mr'') : pz_tf W mi ml mr mi'' ml'' mr'' := by
  obtain ⟨a1, a2, a3, a4, a5⟩ := h
  obtain ⟨b1, b2, b3, b4, b5⟩ := h'
  refine ⟨fun v hv hw => ?_, fun p hp h13 => (b2 p hp h13).trans (a2 p hp h13), fun p hp => ⟨(b3 p hp).1.trans (a3 p hp).1, fun h14 => ((b3 p hp).2 h14).trans ((a3 p hp).2 h14)⟩, fun j hj => (b4 j hj).trans (a4 j hj), fun j hj => (b5 j hj).trans (a5 j hj)⟩
  obtain ⟨u1, u2, u3, u4⟩ := a1 v hv hw
  obtain ⟨v1, v2, v3, v4⟩ := b1 v hv hw
  exact ⟨v1.trans u1, v2.trans u2, v3.trans u3, v4.trans u4⟩
theorem pz_tf_mono (hw : ∀ v, v ∈ W → v ∈ W') (h : pz_tf W mi ml mr mi' ml' mr') : pz_tf W' mi ml mr mi' ml' mr' := ⟨fun v hv hn => h.1 v hv (fun e => hn (hw v e)), h.2⟩
theorem pz_tf_tu {q : Nat} {k : Int} (hq : pz_nd q) (hw : q ∈ W) : pz_tf W mi ml mr (pz_tu mi q k) ml mr := by
  obtain ⟨g1, g2, g3⟩ := pz_tu_f (mi := mi) (k := k) hq
  obtain ⟨q1, q2, q3⟩ := hq
  refine ⟨fun v hv hn => ?_, fun p hp h13 => g3 p (by omega) (by omega), fun p _ => ⟨rfl, fun _ => rfl⟩, fun j hj => by rw [g3 13 (by omega) (by decide)], fun j _ => rfl⟩
  obtain ⟨v1, v2, v3⟩ := hv
  exact ⟨g3 v (fun e => hn (e ▸ hw)) (by omega), g3 (v + 1) (by omega) (by omega), rfl, rfl⟩
theorem pz_tf_mr {q j : Nat} {x : Option Nat} (hq : pz_nd q) (hw : q ∈ W) : pz_tf W mi ml mr mi ml (pz_up mr q j x) := by
  obtain ⟨q1, q2, q3⟩ := hq
  refine ⟨fun v hv hn => ⟨rfl, rfl, rfl, pz_upq (fun e => hn (e ▸ hw))⟩, fun _ _ _ => rfl, fun p hp => ⟨rfl, fun _ => pz_upq (by omega)⟩, fun _ _ => rfl, fun j _ => by rw [pz_upq (by omega)]⟩
theorem pz_tf_14 {x : Option Nat} : pz_tf W mi ml mr mi ml (pz_up mr 14 3 x) := by
  refine ⟨fun v hv hn => ⟨rfl, rfl, rfl, pz_upq (by have := hv.1; omega)⟩, fun _ _ _ => rfl, fun p hp => ⟨rfl, fun h => pz_upq h⟩, fun _ _ => rfl, fun j hj => pz_up_ot hj⟩
theorem pz_tf_mi {q j : Nat} {x : Int} (hq : pz_nd q) (hw : q ∈ W) : pz_tf W mi ml mr (pz_up mi q j x) ml mr := by
  obtain ⟨q1, q2, q3⟩ := hq
  refine ⟨fun v hv hn => ?_, fun p hp _ => pz_upq (by omega), fun p hp => ⟨rfl, fun _ => rfl⟩, fun _ _ => by rw [pz_upq (by omega)], fun j _ => rfl⟩
  obtain ⟨v1, v2, v3⟩ := hv
  exact ⟨pz_upq (fun e => hn (e ▸ hw)), pz_upq (by omega), rfl, rfl⟩
theorem pz_tf_st {q j : Nat} {x : Int} {z : Int64 × Int64} (hq : pz_nd q) (hw : q ∈ W) : pz_tf W mi ml mr (pz_up mi (q + 1) j x) (pz_lg2 ml (q + 1) z) mr := by
  obtain ⟨q1, q2, q3⟩ := hq
  obtain ⟨-, -, l3⟩ := pz_lg2_f (ml := ml) (p := q + 1) (z := z)
  refine ⟨fun v hv hn => ?_, fun p hp _ => pz_upq (by omega), fun p hp => ⟨l3 p (by omega), fun _ => rfl⟩, fun _ _ => by rw [pz_upq (by omega)], fun j _ => rfl⟩
  obtain ⟨v1, v2, v3⟩ := hv
  have : v ≠ q := fun e => hn (e ▸ hw)
  exact ⟨pz_upq (by omega), pz_upq (by omega), l3 _ (by omega), rfl⟩
theorem pz_tf_an {b : Int} : pz_tf W mi ml mr (pz_up mi 13 14 b) ml mr := by
  refine ⟨fun v hv hn => ?_, fun p hp h => pz_upq h, fun p hp => ⟨rfl, fun _ => rfl⟩, fun _ hj => pz_up_ot hj, fun j _ => rfl⟩
  obtain ⟨v1, v2, v3⟩ := hv
  exact ⟨pz_upq (by omega), pz_upq (by omega), rfl, rfl⟩
/-- counts and the chain, when kinds, counts and spare nodes' links stand -/
theorem pz_iv_fr (h : pz_iv mi mr U S) (h16 : mi' 16 = mi 16) (hk : ∀ p, pz_nd p → mi' p 0 = mi p 0) (h14 : mr' 14 3 = mr 14 3) (hs : ∀ p ∈ S, mr' p 2 = mr p 2) : pz_iv mi' mr' U S := by
  obtain ⟨h1, h2, h3⟩ := h
  refine ⟨⟨fun k hk4 => ?_, fun p hp => by rw [hk p hp]; exact h1.2 p hp⟩, ?_, h3⟩
  · rw [h16, h1.1 k hk4]
    unfold pz_ckd
    congr 1
    refine List.countP_congr (fun p hp => ?_)
    rw [hk p (pz_NDLm.mp hp)]
  · rw [h14]
    exact pz_cC_fr (fun p hp => ⟨hk p (pz_cC_k h2 p hp).1, hs p hp⟩) h2
theorem pz_iv_take {q : Nat} {k : Int} (h : pz_iv mi mr U (q :: S)) (hk : 0 ≤ k ∧ k < 4) : mr 14 3 = some q ∧ pz_nd q ∧ pz_iv (pz_tu mi q k) (pz_up mr 14 3 (mr q 2)) (q :: U) S := by
  have hnd := (pz_iv_nd h).1
  obtain ⟨h1, h2, h3⟩ := h
  unfold pz_cC at h2
  obtain ⟨c1, c2, c3, c4⟩ := h2
  obtain ⟨g1, g2, g3⟩ := pz_tu_f (mi := mi) (k := k) c2
  refine ⟨c1, c2, pz_tu_hm c2 hk h1, ?_, List.perm_middle.symm.trans h3⟩
  rw [pz_up_at]
  have hq : q ∉ S := by
    have := (List.nodup_append.mp hnd).2.1
    exact (List.nodup_cons.mp this).1
  refine pz_cC_fr (fun p hp => ⟨?_, ?_⟩) c4
  · obtain ⟨p1, p2, p3⟩ := (pz_cC_k c4 p hp).1
    rw [g3 p (fun e => hq (e ▸ hp)) (by omega)]
  · obtain ⟨p1, p2, p3⟩ := (pz_cC_k c4 p hp).1
    rw [pz_upq (by omega)]
theorem pz_iv_give {q : Nat} {U' : List Nat} (h : pz_iv mi mr U S) (hq : U.Perm (q :: U')) : pz_nd q ∧ pz_iv (pz_tu mi q 0) (pz_up (pz_up (pz_up mr q 1 none) q 2 (mr 14 3)) 14 3 (some q)) U' (q :: S) := by
  have hnd := pz_iv_nd h
  obtain ⟨h1, h2, h3⟩ := h
  have q0 : pz_nd q := hnd.2.1 q (hq.mem_iff.mpr List.mem_cons_self)
  obtain ⟨g1, g2, g3⟩ := pz_tu_f (mi := mi) (k := 0) q0
  have hqS : q ∉ S := by
    intro hin
    have := (List.nodup_append.mp hnd.1).2.2 q (hq.mem_iff.mpr List.mem_cons_self) q hin
    exact this rfl
  have q0' := q0
  obtain ⟨q1, q2, q3⟩ := q0'
  refine ⟨q0, pz_tu_hm q0 (by decide) h1, ?_, ?_⟩
  · unfold pz_cC
    refine ⟨pz_up_at, q0, g1, ?_⟩
    rw [pz_upq (by omega), pz_up_at]
    refine pz_cC_fr (fun p hp => ⟨?_, ?_⟩) h2
    · obtain ⟨p1, p2, p3⟩ := (pz_cC_k h2 p hp).1
      rw [g3 p (fun e => hqS (e ▸ hp)) (by omega)]
    · obtain ⟨p1, p2, p3⟩ := (pz_cC_k h2 p hp).1
      have : p ≠ q := fun e => hqS (e ▸ hp)
      rw [pz_upq (by omega), pz_upq this, pz_upq this]
  · refine List.Perm.trans ?_ h3
    refine List.Perm.trans List.perm_middle ?_
    exact (hq.append_right S).symm
/-- Tree.take -/
theorem pz_takeC {q : Nat} {k : Int} (h : pz_iv mi mr U (q :: S)) (hk : 0 ≤ k ∧ k < 4) : pz_Rn (d + 1) 31 (0, [], [(0, .inr (.inr (some 14))), (1, .inl k)], pz_hp n0 mi ml mr c s, true) (fun o hh => o = .inl (some (.inr (.inr (some q)))) ∧ hh = pz_hp n0 (pz_tu mi q k) ml (pz_up mr 14 3 (mr q 2)) c s) := by
  obtain ⟨h1, h2, h3⟩ := pz_iv_take h hk
  refine pz_g31_0 ⟨fun _ => ⟨q, h1, h2, ?_⟩, fun hn => absurd (hn.symm.trans h1) (fun e => nomatch e)⟩
  refine pz_Rn_c (d' := 0) (by omega) (pz_turnC h2 hk h.1) ?_
  exact pz_g31_34 ⟨rfl, rfl⟩
/-- Tree.giveBack -/
theorem pz_giveC {q : Nat} (hq : pz_nd q) (h : pz_hm mi) : pz_Rn (d + 1) 43 (0, [], [(0, .inr (.inr (some 14))), (1, .inr (.inr (some q)))], pz_hp n0 mi ml mr c s, true) (fun o hh => o = .inl none ∧ hh = pz_hp n0 (pz_tu mi q 0) ml (pz_up (pz_up (pz_up mr q 1 none) q 2 (mr 14 3)) 14 3 (some q)) c s) := by
  refine pz_g43_0 ?_
  refine pz_Rn_c (d' := 0) (by omega) (pz_turnC hq (by decide) h) ?_
  refine pz_g43_6 ⟨q, rfl, hq, rfl, ?_⟩
  have : (14 : Nat) ≠ q := by
    obtain ⟨q1, q2, q3⟩ := hq
    omega
  rw [pz_upq this]
/-- Tree.newTask -/
theorem pz_newC {q p3 : Nat} {g f : Int} (h : pz_iv mi mr U (q :: S)) (hp3 : pz_sd p3) (hne : p3 ≠ q + 1) : pz_Rn (d + 2) 34 (0, [], [(0, .inr (.inr (some 14))), (1, .inl g), (2, .inl f), (3, .inr (.inr (some p3)))], pz_hp n0 mi ml mr c s, true) (fun o hh => ∃ mi' ml' mr', (o = .inl (some (.inr (.inr (some q)))) ∧ hh = pz_hp n0 mi' ml' mr' c s) ∧ pz_nd q ∧ pz_iv mi' mr' (q :: U) S ∧ pz_tf [q] mi ml mr mi' ml' mr' ∧ mi' 13 = mi 13 ∧ mi' q 0 = 1 ∧ mi' q 3 = g ∧ mi' q 4 = f ∧ mi' (q + 1) 0 = mi p3 0 ∧ ml' (q + 1) 1 = ml p3 1 ∧ ml' (q + 1) 2 = ml p3 2) := by
  obtain ⟨h1, h2, h3⟩ := pz_iv_take (k := 1) h (by decide)
  obtain ⟨g1, g2, g3⟩ := pz_tu_f (mi := mi) (k := 1) h2
  have h2' := h2
  obtain ⟨q1, q2, q3⟩ := h2'
  have hq1 : pz_sd (q + 1) := .inr ⟨by omega, by omega, by omega⟩
  have hp16 : p3 ≠ 16 ∧ p3 ≠ q := by
    rcases hp3 with e | ⟨e1, e2, e3⟩ <;> omega
  refine pz_g34_0 hp3 ?_
  refine pz_Rn_c (d' := 1) (by omega) (pz_takeC (d := 0) h (by decide)) ?_
  refine pz_g34_5 hp3 ⟨q, rfl, h2, ?_⟩
  refine pz_Rn_c (d' := 0) (v := none) (H := pz_hp n0 (pz_up (pz_up (pz_tu mi q 1) q 3 g) q 4 f) ml (pz_up mr 14 3 (mr q 2)) c s) (by omega) (pz_g32_0 h2 ⟨rfl, rfl⟩) ?_
  refine pz_g34_14 hp3 ⟨q, rfl, h2, ?_⟩
  refine pz_Rn_c (d' := 0) (by omega) (pz_copyC hq1 hp3 hne) ?_
  refine pz_g34_23 ?_
  have ep : pz_up (pz_up (pz_tu mi q 1) q 3 g) q 4 f p3 0 = mi p3 0 := by
    rw [pz_upq hp16.2, pz_upq hp16.2, g3 p3 hp16.2 hp16.1]
  rw [ep]
  obtain ⟨l1, l2, l3⟩ := pz_lg2_f (ml := ml) (p := q + 1) (z := (ml p3 1, ml p3 2))
  have hw : q ∈ [q] := List.mem_cons_self
  refine ⟨_, _, _, ⟨rfl, rfl⟩, h2, ?_, ?_, ?_, ?_, ?_, ?_, pz_up_at, l1, l2⟩
  · refine pz_iv_fr h3 ?_ (fun p hp => ?_) rfl (fun _ _ => rfl)
    · rw [pz_upq (by omega), pz_upq (by omega), pz_upq (by omega)]
    · obtain ⟨p1, p2, p3'⟩ := hp
      rw [pz_upq (by omega)]
      by_cases e : p = q
      · subst e
        rw [pz_up_ot (by decide), pz_up_ot (by decide)]
      · rw [pz_upq e, pz_upq e]
  · exact pz_tf_trans (pz_tf_trans (pz_tf_trans (pz_tf_trans (pz_tf_tu h2 hw) pz_tf_14) (pz_tf_mi h2 hw)) (pz_tf_mi h2 hw)) (pz_tf_st h2 hw)
  · rw [pz_upq (by omega), pz_upq (by omega), pz_upq (by omega), g3 13 (by omega) (by decide)]
  · rw [pz_upq (by omega), pz_up_ot (by decide), pz_up_ot (by decide), g1]
  · rw [pz_upq (by omega), pz_up_ot (by decide), pz_up_at]
  · rw [pz_upq (by omega), pz_up_at]
/-- Tree.turnToSum -/
theorem pz_sumC {q : Nat} {a b : Option Nat} (hq : pz_nd q) (h : pz_hm mi) : pz_Rn (d + 1) 40 (0, [], [(0, .inr (.inr (some 14))), (1, .inr (.inr (some q))), (2, .inr (.inr a)), (3, .inr (.inr b))], pz_hp n0 mi ml mr c s, true) (fun o hh => o = .inl none ∧ hh = pz_hp n0 (pz_tu mi q 2) ml (pz_up (pz_up mr q 1 a) q 2 b) c s) := by
  refine pz_g40_0 ?_
  refine pz_Rn_c (d' := 0) (by omega) (pz_turnC hq (by decide) h) ?_
  exact pz_g40_6 ⟨q, rfl, hq, rfl, rfl⟩
end pzz
