/-! The class's tree: nodes in use, spare nodes, counts by kind. A leaf is a task, branch 0 a sum, branch (1 + 64 * goal + frame) a product of its first. -/
abbrev pz_tk : Type := Nat × Nat × (Nat → Option Nat) × Int64 × Int64
def pz_cT (P : Int → Int → Int → Int64 → Int64 → pz_tk → Prop) (mi : Nat → Nat → Int) (ml : Nat → Nat → Int64) (mr : Nat → Nat → Option Nat) (t : Lean.RArray pz_tk) (p : Nat) (U : List Nat) : Prop := match t with
  | .leaf x => U = [p] ∧ pz_nd p ∧ mi p 0 = 1 ∧ P (mi p 3) (mi p 4) (mi (p + 1) 0) (ml (p + 1) 1) (ml (p + 1) 2) x
  | .branch 0 a b => ∃ q r A B, U = p :: (A ++ B) ∧ pz_nd p ∧ mi p 0 = 2 ∧ mr p 1 = some q ∧ mr p 2 = some r ∧ pz_cT P mi ml mr a q A ∧ pz_cT P mi ml mr b r B
  | .branch (k + 1) a _ => ∃ q A, U = p :: A ∧ pz_nd p ∧ mi p 0 = 3 ∧ mi p 3 = (k / 64 : Nat) ∧ mi p 4 = (k % 64 : Nat) ∧ mr p 1 = some q ∧ pz_cT P mi ml mr a q A
def pz_nT (t : Lean.RArray pz_tk) : Nat × Nat × Nat := match t with
  | .leaf _ => (1, 0, 0)
  | .branch 0 a b => ((pz_nT a).1 + (pz_nT b).1, (pz_nT a).2.1 + (pz_nT b).2.1 + 1, (pz_nT a).2.2 + (pz_nT b).2.2)
  | .branch (_ + 1) a _ => ((pz_nT a).1, (pz_nT a).2.1, (pz_nT a).2.2 + 1)
/-- the chain of spare nodes -/
def pz_cC (mi : Nat → Nat → Int) (mr : Nat → Nat → Option Nat) (x : Option Nat) (l : List Nat) : Prop := match l with
  | [] => x = none
  | p :: r => x = some p ∧ pz_nd p ∧ mi p 0 = 0 ∧ pz_cC mi mr (mr p 2) r
/-- all nodes -/
def pz_NDL : List Nat := (List.range 64).map (fun i => 17 + 2 * i)
def pz_ckd (mi : Nat → Nat → Int) (k : Nat) (l : List Nat) : Nat := l.countP (fun p => decide (mi p 0 = (k : Int)))
def pz_hm (mi : Nat → Nat → Int) : Prop := (∀ k, k < 4 → mi 16 k = (pz_ckd mi k pz_NDL : Int)) ∧ ∀ p, pz_nd p → 0 ≤ mi p 0 ∧ mi p 0 < 4
/-- what stands of the tree's nodes: U in use, S spare -/
def pz_iv (mi : Nat → Nat → Int) (mr : Nat → Nat → Option Nat) (U S : List Nat) : Prop := pz_hm mi ∧ pz_cC mi mr (mr 14 3) S ∧ (U ++ S).Perm pz_NDL
/-- what turn leaves -/
def pz_tu (mi : Nat → Nat → Int) (q : Nat) (k : Int) : Nat → Nat → Int := pz_up (pz_up (pz_up mi 16 ((mi q 0).toNat) ((mi 16 ((mi q 0).toNat)) - 1)) q 0 k) 16 (k.toNat) (((pz_up (pz_up mi 16 ((mi q 0).toNat) ((mi 16 ((mi q 0).toNat)) - 1)) q 0 k) 16 (k.toNat)) + 1)
theorem pz_NDLm {p : Nat} : p ∈ pz_NDL ↔ pz_nd p := by
  unfold pz_NDL pz_nd
  rw [List.mem_map]
  constructor
  · rintro ⟨i, h, rfl⟩
    have := List.mem_range.mp h
    omega
  · rintro ⟨h1, h2, h3⟩
    exact ⟨(p - 17) / 2, List.mem_range.mpr (by omega), by omega⟩
theorem pz_NDLn : pz_NDL.Nodup := by decide +kernel
theorem pz_NDLl : pz_NDL.length = 64 := by decide +kernel
section pzy
variable {d n0 : Nat} {mi mi' : Nat → Nat → Int} {ml ml' : Nat → Nat → Int64} {mr mr' : Nat → Nat → Option Nat} {c s : Nat} {P : Int → Int → Int → Int64 → Int64 → pz_tk → Prop} {U S : List Nat}
theorem pz_ck_up {f : Nat → Int} {q : Nat} {v k : Int} {l : List Nat} (hn : l.Nodup) : (l.countP (fun p => decide ((if p = q then v else f p) = k)) : Int) = l.countP (fun p => decide (f p = k)) + (if q ∈ l then (if v = k then 1 else 0) - (if f q = k then 1 else 0) else 0) := by
  induction l with
  | nil => rfl
  | cons a t ih =>
    rw [List.nodup_cons] at hn
    have ih := ih hn.2
    rw [List.countP_cons, List.countP_cons]
    by_cases e : a = q
    · subst e
      rw [if_neg hn.1] at ih
      rw [if_pos (List.mem_cons_self), if_pos rfl]
      simp only [decide_eq_true_eq]
      by_cases h1 : v = k
      · by_cases h2 : f a = k
        · rw [if_pos h1, if_pos h1, if_pos h2, if_pos h2]
          omega
        · rw [if_pos h1, if_pos h1, if_neg h2, if_neg h2]
          omega
      · by_cases h2 : f a = k
        · rw [if_neg h1, if_neg h1, if_pos h2, if_pos h2]
          omega
        · rw [if_neg h1, if_neg h1, if_neg h2, if_neg h2]
          omega
    · rw [if_neg e]
      have hm : (q ∈ a :: t) ↔ q ∈ t := by
        rw [List.mem_cons]
        exact ⟨fun h => h.resolve_left (fun h2 => e h2.symm), .inr⟩
      simp only [hm]
      simp only [decide_eq_true_eq]
      by_cases h2 : f a = k
      · rw [if_pos h2]
        omega
      · rw [if_neg h2]
        omega
theorem pz_tu_f {q : Nat} {k : Int} (hq : pz_nd q) : pz_tu mi q k q 0 = k ∧ (∀ j, j ≠ 0 → pz_tu mi q k q j = mi q j) ∧ (∀ p, p ≠ q → p ≠ 16 → pz_tu mi q k p = mi p) := by
  obtain ⟨h1, h2, h3⟩ := hq
  unfold pz_tu
  refine ⟨?_, fun j hj => ?_, fun p hp h16 => ?_⟩
  · rw [pz_upq (by omega), pz_up_at]
  · rw [pz_upq (by omega), pz_up_ot hj, pz_upq (by omega)]
  · rw [pz_upq h16, pz_upq hp, pz_upq h16]
theorem pz_tu_hm {q : Nat} {k : Int} (hq : pz_nd q) (hk : 0 ≤ k ∧ k < 4) (h : pz_hm mi) : pz_hm (pz_tu mi q k) := by
  obtain ⟨g1, g2, g3⟩ := pz_tu_f (mi := mi) (k := k) hq
  have hkq := h.2 q hq
  have e0 : ∀ p, pz_nd p → pz_tu mi q k p 0 = if p = q then k else mi p 0 := by
    intro p hp
    by_cases e : p = q
    · rw [if_pos e, e, g1]
    · obtain ⟨h1, h2, h3⟩ := hp
      rw [if_neg e, g3 p e (by omega)]
  refine ⟨fun j hj => ?_, fun p hp => ?_⟩
  · have hc : pz_ckd (pz_tu mi q k) j pz_NDL = pz_NDL.countP (fun p => decide ((if p = q then k else mi p 0) = (j : Int))) := by
      unfold pz_ckd
      refine List.countP_congr (fun p hp => ?_)
      rw [e0 p (pz_NDLm.mp hp)]
    have hu := pz_ck_up (f := fun p => mi p 0) (q := q) (v := k) (k := (j : Int)) pz_NDLn
    rw [if_pos (pz_NDLm.mpr hq)] at hu
    rw [hc, hu]
    have hj1 := h.1 j hj
    unfold pz_ckd at hj1
    rw [← hj1]
    have e16 : ∀ i, pz_tu mi q k 16 i = mi 16 i - (if mi q 0 = (i : Int) then 1 else 0) + (if k = (i : Int) then 1 else 0) := by
      intro i
      have hq16 : 16 ≠ q := by
        obtain ⟨h1, h2, h3⟩ := hq
        omega
      have w : ∀ i, pz_up (pz_up mi 16 ((mi q 0).toNat) ((mi 16 ((mi q 0).toNat)) - 1)) q 0 k 16 i = mi 16 i - (if mi q 0 = (i : Int) then 1 else 0) := by
        intro i
        rw [pz_upq hq16]
        by_cases e : i = (mi q 0).toNat
        · rw [if_pos (by omega), e, pz_up_at]
        · rw [if_neg (by omega), pz_up_ot e]
          omega
      unfold pz_tu
      by_cases e : i = k.toNat
      · rw [if_pos (show k = (i : Int) by omega), e, pz_up_at, w]
      · rw [if_neg (show ¬ k = (i : Int) by omega), pz_up_ot e, w]
        omega
    rw [e16]
    omega
  · rw [e0 p hp]
    split
    · exact hk
    · exact h.2 p hp
theorem pz_ck_le {k : Nat} {l : List Nat} : pz_ckd mi k l ≤ l.length := List.countP_le_length
/-- Tree.turn -/
theorem pz_turnC {q : Nat} {k : Int} (hq : pz_nd q) (hk : 0 ≤ k ∧ k < 4) (h : pz_hm mi) : pz_Rn d 30 (0, [], [(0, .inr (.inr (some 14))), (1, .inr (.inr (some q))), (2, .inl k)], pz_hp n0 mi ml mr c s, true) (fun o hh => o = .inl none ∧ hh = pz_hp n0 (pz_tu mi q k) ml mr c s) := by
  have hkq := h.2 q hq
  have b : ∀ j, j < 4 → 0 ≤ mi 16 j ∧ mi 16 j ≤ 64 := by
    intro j hj
    have := h.1 j hj
    have h2 := pz_ck_le (mi := mi) (k := j) (l := pz_NDL)
    rw [pz_NDLl] at h2
    omega
  have b1 := b (mi q 0).toNat (by omega)
  have hq16 : 16 ≠ q := by
    obtain ⟨h1, h2, h3⟩ := hq
    omega
  refine pz_g30_0 ⟨q, rfl, hq, hkq, by omega, hkq, hk, ?_, hk, rfl, rfl⟩
  rw [pz_upq hq16]
  by_cases e : k.toNat = (mi q 0).toNat
  · rw [e, pz_up_at]
    omega
  · rw [pz_up_ot e]
    have := b k.toNat (by omega)
    omega
theorem pz_cC_fr {x : Option Nat} (h : ∀ p ∈ S, mi' p 0 = mi p 0 ∧ mr' p 2 = mr p 2) (hc : pz_cC mi mr x S) : pz_cC mi' mr' x S := by
  induction S generalizing x with
  | nil => exact hc
  | cons p r ih =>
    unfold pz_cC at hc ⊢
    rw [(h p List.mem_cons_self).1, (h p List.mem_cons_self).2]
    exact ⟨hc.1, hc.2.1, hc.2.2.1, ih (fun q hq => h q (List.mem_cons_of_mem _ hq)) hc.2.2.2⟩
theorem pz_cC_k {x : Option Nat} (hc : pz_cC mi mr x S) : ∀ p ∈ S, pz_nd p ∧ mi p 0 = 0 := by
  induction S generalizing x with
  | nil => exact fun p hp => absurd hp List.not_mem_nil
  | cons q r ih =>
    unfold pz_cC at hc
    intro p hp
    rcases List.mem_cons.mp hp with rfl | hp
    · exact ⟨hc.2.1, hc.2.2.1⟩
    · exact ih hc.2.2.2 p hp
/-- a tree stands where its own nodes are as they were -/
theorem pz_cT_fr : ∀ (t : Lean.RArray pz_tk) (p : Nat) (U : List Nat), (∀ q ∈ U, mi' q = mi q ∧ mi' (q + 1) = mi (q + 1) ∧ ml' (q + 1) = ml (q + 1) ∧ mr' q = mr q) → pz_cT P mi ml mr t p U → pz_cT P mi' ml' mr' t p U := by
  intro t
  induction t with
  | leaf x =>
    intro p U h hc
    obtain ⟨h1, h2, h3, h4⟩ := hc
    obtain ⟨g1, g2, g3, g4⟩ := h p (by rw [h1]; exact List.mem_cons_self)
    refine ⟨h1, h2, by rw [g1]; exact h3, ?_⟩
    rw [g1, g2, g3]
    exact h4
  | branch k a b iha ihb =>
    intro p U h hc
    cases k with
    | zero =>
      obtain ⟨q, r, A, B, h1, h2, h3, h4, h5, h6, h7⟩ := hc
      obtain ⟨g1, g2, g3, g4⟩ := h p (by rw [h1]; exact List.mem_cons_self)
      refine ⟨q, r, A, B, h1, h2, by rw [g1]; exact h3, by rw [g4]; exact h4, by rw [g4]; exact h5, iha q A (fun z hz => h z ?_) h6, ihb r B (fun z hz => h z ?_) h7⟩
      · rw [h1]
        exact List.mem_cons_of_mem _ (List.mem_append_left _ hz)
      · rw [h1]
        exact List.mem_cons_of_mem _ (List.mem_append_right _ hz)
    | succ k =>
      obtain ⟨q, A, h1, h2, h3, h4, h5, h6, h7⟩ := hc
      obtain ⟨g1, g2, g3, g4⟩ := h p (by rw [h1]; exact List.mem_cons_self)
      refine ⟨q, A, h1, h2, by rw [g1]; exact h3, by rw [g1]; exact h4, by rw [g1]; exact h5, by rw [g4]; exact h6, iha q A (fun z hz => h z ?_) h7⟩
      rw [h1]
      exact List.mem_cons_of_mem _ hz
theorem pz_cT_P {P' : Int → Int → Int → Int64 → Int64 → pz_tk → Prop} (hP : ∀ g f b lo hi x, P g f b lo hi x → P' g f b lo hi x) : ∀ (t : Lean.RArray pz_tk) (p : Nat) (U : List Nat), pz_cT P mi ml mr t p U → pz_cT P' mi ml mr t p U := by
  intro t
  induction t with
  | leaf x => exact fun p U hc => ⟨hc.1, hc.2.1, hc.2.2.1, hP _ _ _ _ _ _ hc.2.2.2⟩
  | branch k a b iha ihb =>
    intro p U hc
    cases k with
    | zero =>
      obtain ⟨q, r, A, B, h1, h2, h3, h4, h5, h6, h7⟩ := hc
      exact ⟨q, r, A, B, h1, h2, h3, h4, h5, iha q A h6, ihb r B h7⟩
    | succ k =>
      obtain ⟨q, A, h1, h2, h3, h4, h5, h6, h7⟩ := hc
      exact ⟨q, A, h1, h2, h3, h4, h5, h6, iha q A h7⟩
theorem pz_cT_nd : ∀ (t : Lean.RArray pz_tk) (p : Nat) (U : List Nat), pz_cT P mi ml mr t p U → p ∈ U ∧ ∀ q ∈ U, pz_nd q := by
  intro t
  induction t with
  | leaf x =>
    intro p U hc
    rw [hc.1]
    refine ⟨List.mem_cons_self, fun q hq => ?_⟩
    rw [List.mem_singleton.mp hq]
    exact hc.2.1
  | branch k a b iha ihb =>
    intro p U hc
    cases k with
    | zero =>
      obtain ⟨q, r, A, B, h1, h2, h3, h4, h5, h6, h7⟩ := hc
      rw [h1]
      refine ⟨List.mem_cons_self, fun z hz => ?_⟩
      rcases List.mem_cons.mp hz with rfl | hz
      · exact h2
      · rcases List.mem_append.mp hz with hz | hz
        · exact (iha q A h6).2 z hz
        · exact (ihb r B h7).2 z hz
    | succ k =>
      obtain ⟨q, A, h1, h2, h3, h4, h5, h6, h7⟩ := hc
      rw [h1]
      refine ⟨List.mem_cons_self, fun z hz => ?_⟩
      rcases List.mem_cons.mp hz with rfl | hz
      · exact h2
      · exact (iha q A h7).2 z hz
theorem pz_ck_cons {k p : Nat} {l : List Nat} : pz_ckd mi k (p :: l) = pz_ckd mi k l + (if mi p 0 = (k : Int) then 1 else 0) := by
  unfold pz_ckd
  rw [List.countP_cons]
  simp only [decide_eq_true_eq]
theorem pz_ck_app {k : Nat} {A B : List Nat} : pz_ckd mi k (A ++ B) = pz_ckd mi k A + pz_ckd mi k B := List.countP_append
/-- a tree's nodes by kind -/
theorem pz_cT_ck : ∀ (t : Lean.RArray pz_tk) (p : Nat) (U : List Nat), pz_cT P mi ml mr t p U → pz_ckd mi 1 U = (pz_nT t).1 ∧ pz_ckd mi 2 U = (pz_nT t).2.1 ∧ pz_ckd mi 3 U = (pz_nT t).2.2 ∧ U.length = (pz_nT t).1 + (pz_nT t).2.1 + (pz_nT t).2.2 := by
  intro t
  induction t with
  | leaf x =>
    intro p U hc
    obtain ⟨h1, h2, h3, -⟩ := hc
    subst h1
    refine ⟨?_, ?_, ?_, rfl⟩ <;> rw [pz_ck_cons, h3] <;> rfl
  | branch k a b iha ihb =>
    intro p U hc
    cases k with
    | zero =>
      obtain ⟨q, r, A, B, h1, h2, h3, h4, h5, h6, h7⟩ := hc
      obtain ⟨a1, a2, a3, a4⟩ := iha q A h6
      obtain ⟨b1, b2, b3, b4⟩ := ihb r B h7
      subst h1
      have e : pz_nT (.branch 0 a b) = ((pz_nT a).1 + (pz_nT b).1, (pz_nT a).2.1 + (pz_nT b).2.1 + 1, (pz_nT a).2.2 + (pz_nT b).2.2) := rfl
      rw [e]
      refine ⟨?_, ?_, ?_, ?_⟩
      · rw [pz_ck_cons, pz_ck_app, h3, a1, b1, if_neg (by decide), Nat.add_zero]
      · rw [pz_ck_cons, pz_ck_app, h3, a2, b2, if_pos (by decide)]
      · rw [pz_ck_cons, pz_ck_app, h3, a3, b3, if_neg (by decide), Nat.add_zero]
      · rw [List.length_cons, List.length_append, a4, b4]
        dsimp only
        omega
    | succ k =>
      obtain ⟨q, A, h1, h2, h3, h4, h5, h6, h7⟩ := hc
      obtain ⟨a1, a2, a3, a4⟩ := iha q A h7
      subst h1
      have e : pz_nT (.branch (k + 1) a b) = ((pz_nT a).1, (pz_nT a).2.1, (pz_nT a).2.2 + 1) := rfl
      rw [e]
      refine ⟨?_, ?_, ?_, ?_⟩
      · rw [pz_ck_cons, h3, a1, if_neg (by decide), Nat.add_zero]
      · rw [pz_ck_cons, h3, a2, if_neg (by decide), Nat.add_zero]
      · rw [pz_ck_cons, h3, a3, if_pos (by decide)]
      · rw [List.length_cons, a4]
        dsimp only
        omega
theorem pz_cC_ck {x : Option Nat} (hc : pz_cC mi mr x S) {k : Nat} (hk : k ≠ 0) : pz_ckd mi k S = 0 := by
  unfold pz_ckd
  rw [List.countP_eq_zero]
  intro p hp
  rw [(pz_cC_k hc p hp).2]
  simp only [decide_eq_true_eq]
  omega
/-- the class's counts are the tree's -/
theorem pz_iv_n {t : Lean.RArray pz_tk} {p : Nat} (h : pz_iv mi mr U S) (hc : pz_cT P mi ml mr t p U) : mi 16 1 = ((pz_nT t).1 : Int) ∧ mi 16 2 = ((pz_nT t).2.1 : Int) ∧ mi 16 3 = ((pz_nT t).2.2 : Int) ∧ U.length + S.length = 64 ∧ U.length = (pz_nT t).1 + (pz_nT t).2.1 + (pz_nT t).2.2 := by
  obtain ⟨h1, h2, h3⟩ := h
  obtain ⟨k1, k2, k3, k4⟩ := pz_cT_ck t p U hc
  have e : ∀ k, k ≠ 0 → pz_ckd mi k pz_NDL = pz_ckd mi k U := by
    intro k hk
    unfold pz_ckd
    rw [← h3.countP_eq]
    have := pz_cC_ck h2 hk
    unfold pz_ckd at this
    rw [List.countP_append, this]
    rfl
  refine ⟨?_, ?_, ?_, ?_, k4⟩
  · rw [h1.1 1 (by decide), e 1 (by decide), k1]
  · rw [h1.1 2 (by decide), e 2 (by decide), k2]
  · rw [h1.1 3 (by decide), e 3 (by decide), k3]
  · have := h3.length_eq
    rw [List.length_append, pz_NDLl] at this
    exact this
theorem pz_iv_nd (h : pz_iv mi mr U S) : (U ++ S).Nodup ∧ (∀ p ∈ U, pz_nd p) ∧ ∀ p ∈ S, pz_nd p := ⟨h.2.2.nodup_iff.mpr pz_NDLn, fun p hp => pz_NDLm.mp (h.2.2.mem_iff.mp (List.mem_append_left _ hp)), fun p hp => pz_NDLm.mp (h.2.2.mem_iff.mp (List.mem_append_right _ hp))⟩
end pzy
