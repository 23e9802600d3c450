/-! The reference's tree: nodes in use, spare nodes. -/
def pz_rwf (mi : Nat → Nat → Int) (n : Nat) : Nat → Int := fun v => if v < 240 then mi 182 (240 * n + v) else 0
def pz_mT (P : Int → Int → (Nat → Int) → Int64 → Int64 → pz_tk → Prop) (mi : Nat → Nat → Int) (ml : Nat → Nat → Int64) (t : Lean.RArray pz_tk) (n : Nat) (U : List Nat) : Prop := match t with
  | .leaf x => U = [n] ∧ mi 175 n = 0 ∧ P (mi 178 n) (mi 179 n) (pz_rwf mi n) (ml 180 n) (ml 181 n) x
  | .branch 0 a b => ∃ (q r : Nat) (A B : List Nat), U = n :: (A ++ B) ∧ mi 175 n = 1 ∧ mi 176 n = (q : Int) ∧ mi 177 n = (r : Int) ∧ pz_mT P mi ml a q A ∧ pz_mT P mi ml b r B
  | .branch (k + 1) a _ => ∃ (q : Nat) (A : List Nat), U = n :: A ∧ mi 175 n = 2 ∧ mi 178 n = (k / 64 : Nat) ∧ mi 179 n = (k % 64 : Nat) ∧ mi 176 n = (q : Int) ∧ pz_mT P mi ml a q A
/-- the chain of spare nodes, to the mark m, from which on none was ever used -/
def pz_mC (mi : Nat → Nat → Int) (x : Int) (l : List Nat) (m : Nat) : Prop := match l with
  | [] => x = (m : Int)
  | n :: r => x = (n : Int) ∧ pz_mC mi (mi 176 n) r m
def pz_mv (mi : Nat → Nat → Int) (U A : List Nat) (m : Nat) : Prop := m ≤ 62 ∧ pz_mC mi (mi 165 12) A m ∧ (∀ j : Nat, m ≤ j → j < 64 → mi 176 j = (j : Int) + 1) ∧ (U ++ A).Perm (List.range m)
/-- what stands but for the nodes in W (and the chain's head, the answer) -/
def pz_nfr (W : List Nat) (mi : Nat → Nat → Int) (ml : Nat → Nat → Int64) (mi' : Nat → Nat → Int) (ml' : Nat → Nat → Int64) : Prop :=
  (∀ v, v ∉ W → mi' 175 v = mi 175 v ∧ mi' 176 v = mi 176 v ∧ mi' 177 v = mi 177 v ∧ mi' 178 v = mi 178 v ∧ mi' 179 v = mi 179 v ∧ pz_rwf mi' v = pz_rwf mi v ∧ ml' 180 v = ml 180 v ∧ ml' 181 v = ml 181 v) ∧ (∀ p, (p < 165 ∨ (165 < p ∧ p < 175) ∨ 182 < p) → mi' p = mi p) ∧ (∀ j, j ≠ 12 → j ≠ 32 → mi' 165 j = mi 165 j) ∧ ∀ p, p ≠ 180 → p ≠ 181 → ml' p = ml p
section pzG
variable {d n0 : Nat} {mi mi' mi'' : Nat → Nat → Int} {ml ml' ml'' : Nat → Nat → Int64} {mr : Nat → Nat → Option Nat} {c s : Nat} {P : Int → Int → (Nat → Int) → Int64 → Int64 → pz_tk → Prop} {U A W W' : List Nat} {m : Nat}
theorem pz_nf_refl : pz_nfr W mi ml mi ml := ⟨fun _ _ => ⟨rfl, rfl, rfl, rfl, rfl, rfl, rfl, rfl⟩, fun _ _ => rfl, fun _ _ _ => rfl, fun _ _ _ => rfl⟩
theorem pz_nf_trans (h : pz_nfr W mi ml mi' ml') (h' : pz_nfr W mi' ml' mi'' ml'') : pz_nfr W mi ml mi'' ml'' := by
  obtain ⟨a1, a2, a3, a4⟩ := h
  obtain ⟨b1, b2, b3, b4⟩ := h'
  refine ⟨fun v hv => ?_, fun p hp => (b2 p hp).trans (a2 p hp), fun j h1 h2 => (b3 j h1 h2).trans (a3 j h1 h2), fun p h1 h2 => (b4 p h1 h2).trans (a4 p h1 h2)⟩
  obtain ⟨u1, u2, u3, u4, u5, u6, u7, u8⟩ := a1 v hv
  obtain ⟨v1, v2, v3, v4, v5, v6, v7, v8⟩ := b1 v hv
  exact ⟨v1.trans u1, v2.trans u2, v3.trans u3, v4.trans u4, v5.trans u5, v6.trans u6, v7.trans u7, v8.trans u8⟩
theorem pz_nf_mono (hw : ∀ v, v ∈ W → v ∈ W') (h : pz_nfr W mi ml mi' ml') : pz_nfr W' mi ml mi' ml' := ⟨fun v hv => h.1 v (fun e => hv (hw v e)), h.2⟩
theorem pz_rwf_eq (h : mi' 182 = mi 182) (n : Nat) : pz_rwf mi' n = pz_rwf mi n := by
  unfold pz_rwf
  rw [h]
/-- one number of a node -/
theorem pz_nf_up {p n : Nat} {x : Int} (hp : 175 ≤ p ∧ p ≤ 179) (hw : n ∈ W) : pz_nfr W mi ml (pz_up mi p n x) ml := by
  refine ⟨fun v hv => ?_, fun q hq => pz_upq (by omega), fun j _ _ => by rw [pz_upq (by omega)], fun _ _ _ => rfl⟩
  have hvn : v ≠ n := fun e => hv (e ▸ hw)
  have g : ∀ q, pz_up mi p n x q v = mi q v := by
    intro q
    unfold pz_up
    rw [if_neg (fun e => hvn e.2)]
  exact ⟨g _, g _, g _, g _, g _, pz_rwf_eq (pz_upq (by omega)) v, rfl, rfl⟩
theorem pz_nf_12 {x : Int} : pz_nfr W mi ml (pz_up mi 165 12 x) ml := ⟨fun v _ => ⟨by rw [pz_upq (by decide)], by rw [pz_upq (by decide)], by rw [pz_upq (by decide)], by rw [pz_upq (by decide)], by rw [pz_upq (by decide)], pz_rwf_eq (pz_upq (by decide)) v, rfl, rfl⟩, fun q hq => pz_upq (by omega), fun j h1 _ => pz_up_ot h1, fun _ _ _ => rfl⟩
theorem pz_nf_32 {x : Int} : pz_nfr W mi ml (pz_up mi 165 32 x) ml := ⟨fun v _ => ⟨by rw [pz_upq (by decide)], by rw [pz_upq (by decide)], by rw [pz_upq (by decide)], by rw [pz_upq (by decide)], by rw [pz_upq (by decide)], pz_rwf_eq (pz_upq (by decide)) v, rfl, rfl⟩, fun q hq => pz_upq (by omega), fun j _ h2 => pz_up_ot h2, fun _ _ _ => rfl⟩
theorem pz_mC_fr {x : Int} (h : ∀ v ∈ A, mi' 176 v = mi 176 v) (hc : pz_mC mi x A m) : pz_mC mi' x A m := by
  induction A generalizing x with
  | nil => exact hc
  | cons n r ih =>
    unfold pz_mC at hc ⊢
    rw [h n List.mem_cons_self]
    exact ⟨hc.1, ih (fun v hv => h v (List.mem_cons_of_mem _ hv)) hc.2⟩
theorem pz_mv_nd (h : pz_mv mi U A m) : (U ++ A).Nodup ∧ (∀ v ∈ U, v < m) ∧ (∀ v ∈ A, v < m) ∧ U.length + A.length = m := by
  obtain ⟨h1, h2, h3, h4⟩ := h
  refine ⟨h4.nodup_iff.mpr List.nodup_range, fun v hv => List.mem_range.mp (h4.mem_iff.mp (List.mem_append_left _ hv)), fun v hv => List.mem_range.mp (h4.mem_iff.mp (List.mem_append_right _ hv)), ?_⟩
  have := h4.length_eq
  rw [List.length_append, List.length_range] at this
  exact this
/-- links of spare nodes stand -/
theorem pz_mv_fr (h : pz_mv mi U A m) (h12 : mi' 165 12 = mi 165 12) (hs : ∀ v, v ∉ U → v < 64 → mi' 176 v = mi 176 v) : pz_mv mi' U A m := by
  have hn := pz_mv_nd h
  obtain ⟨h1, h2, h3, h4⟩ := h
  refine ⟨h1, ?_, fun j hj hj2 => ?_, h4⟩
  · rw [h12]
    refine pz_mC_fr (fun v hv => hs v (fun hu => ?_) (by have := hn.2.2.1 v hv; omega)) h2
    have c1 := List.nodup_iff_count.mp hn.1 v
    have c2 := List.count_pos_iff.mpr hv
    have c3 := List.count_pos_iff.mpr hu
    rw [List.count_append] at c1
    omega
  · rw [hs j (fun hu => by have := hn.2.1 j hu; omega) hj2]
    exact h3 j hj hj2
theorem pz_mv_perm {U' : List Nat} (h : pz_mv mi U A m) (hp : U.Perm U') : pz_mv mi U' A m := ⟨h.1, h.2.1, h.2.2.1, (hp.symm.append_right A).trans h.2.2.2⟩
/-- the reference's create -/
theorem pz_mv_take (h : pz_mv mi U A m) (hU : U.length ≤ 61) {kd : Int} : ∃ (n : Nat) (A' : List Nat) (m' : Nat), mi 165 12 = (n : Int) ∧ n < 62 ∧ n ∉ U ∧ pz_mv (pz_up (pz_up mi 165 12 (mi 176 n)) 175 n kd) (n :: U) A' m' := by
  have hn := pz_mv_nd h
  obtain ⟨h1, h2, h3, h4⟩ := h
  have e12 : ∀ n, pz_up (pz_up mi 165 12 (mi 176 n)) 175 n kd 165 12 = mi 176 n := fun n => by rw [pz_upq (by decide), pz_up_at]
  have e176 : ∀ n, pz_up (pz_up mi 165 12 (mi 176 n)) 175 n kd 176 = mi 176 := fun n => by rw [pz_upq (by decide), pz_upq (by decide)]
  cases A with
  | nil =>
    rw [List.append_nil] at h4
    have hl := hn.2.2.2
    rw [List.length_nil] at hl
    have h2' : mi 165 12 = (m : Int) := h2
    refine ⟨m, [], m + 1, h2', by omega, fun hu => by have := hn.2.1 m hu; omega, by omega, ?_, fun j hj hj2 => ?_, ?_⟩
    · show pz_up (pz_up mi 165 12 (mi 176 m)) 175 m kd 165 12 = ((m + 1 : Nat) : Int)
      rw [e12, h3 m (Nat.le_refl _) (by omega)]
      omega
    · rw [e176]
      exact h3 j (by omega) hj2
    · rw [List.append_nil, List.range_succ]
      exact (List.Perm.cons m h4).trans (List.perm_append_singleton m (List.range m)).symm
  | cons n r =>
    unfold pz_mC at h2
    have hn1 := hn.2.2.1 n List.mem_cons_self
    refine ⟨n, r, m, h2.1, by omega, fun hu => ?_, h1, ?_, fun j hj hj2 => ?_, List.perm_middle.symm.trans h4⟩
    · have c1 := List.nodup_iff_count.mp hn.1 n
      have c3 := List.count_pos_iff.mpr hu
      simp only [List.count_append, List.count_cons, beq_self_eq_true, if_true] at c1
      omega
    · rw [e12]
      exact pz_mC_fr (fun v _ => by rw [e176]) h2.2
    · rw [e176]
      exact h3 j hj hj2
theorem pz_createC {kd : Int} {n : Nat} (h : mi 165 12 = (n : Int)) (hn : n < 62) : pz_Rn d 112 (0, [], [(0, .inr (.inr (some 165))), (1, .inl kd)], pz_hp n0 mi ml mr c s, true) (fun o hh => o = .inl (some (.inl (n : Int))) ∧ hh = pz_hp n0 (pz_up (pz_up mi 165 12 (mi 176 n)) 175 n kd) ml mr c s) := by
  refine pz_g112_0 (fun x1 e1 => ?_)
  rw [h] at e1
  subst e1
  have e : ((n : Int)).toNat = n := by omega
  rw [e]
  exact ⟨by omega, by omega, rfl, rfl⟩
/-- the reference's free -/
theorem pz_mv_give {n : Nat} {U' : List Nat} (h : pz_mv mi U A m) (hp : U.Perm (n :: U')) : n < m ∧ pz_mv (pz_up (pz_up mi 176 n (mi 165 12)) 165 12 (n : Int)) U' (n :: A) m := by
  have hn := pz_mv_nd h
  obtain ⟨h1, h2, h3, h4⟩ := h
  have hnU : n ∈ U := hp.mem_iff.mpr List.mem_cons_self
  have hnm := hn.2.1 n hnU
  have hnA : n ∉ A := by
    intro hv
    have c1 := List.nodup_iff_count.mp hn.1 n
    have c2 := List.count_pos_iff.mpr hv
    have c3 := List.count_pos_iff.mpr hnU
    rw [List.count_append] at c1
    omega
  refine ⟨hnm, h1, ?_, fun j hj hj2 => ?_, ?_⟩
  · unfold pz_mC
    refine ⟨pz_up_at, ?_⟩
    rw [pz_upq (by decide), pz_up_at]
    refine pz_mC_fr (fun v hv => ?_) h2
    have hvn : v ≠ n := fun e => hnA (by rw [← e]; exact hv)
    rw [pz_upq (by decide), pz_up_ot hvn]
  · rw [pz_upq (by decide), pz_up_ot (by omega)]
    exact h3 j hj hj2
  · refine List.Perm.trans ?_ h4
    refine List.Perm.trans List.perm_middle ?_
    exact (hp.append_right A).symm
theorem pz_freeC {n : Nat} (hn : n < 64) : pz_Rn d 131 (0, [], [(0, .inr (.inr (some 165))), (1, .inl (n : Int))], pz_hp n0 mi ml mr c s, true) (fun o hh => o = .inl none ∧ hh = pz_hp n0 (pz_up (pz_up mi 176 n (mi 165 12)) 165 12 (n : Int)) ml mr c s) := by
  have e : ((n : Int)).toNat = n := by omega
  refine pz_g131_0 ⟨by omega, rfl, ?_⟩
  rw [e]
theorem pz_nf_free {n : Nat} (hw : n ∈ W) : pz_nfr W mi ml (pz_up (pz_up mi 176 n (mi 165 12)) 165 12 (n : Int)) ml := pz_nf_trans (pz_nf_up (by decide) hw) pz_nf_12
theorem pz_nf_take {n : Nat} {kd : Int} (hw : n ∈ W) : pz_nfr W mi ml (pz_up (pz_up mi 165 12 (mi 176 n)) 175 n kd) ml := pz_nf_trans pz_nf_12 (pz_nf_up (by decide) hw)
theorem pz_mT_fr : ∀ (t : Lean.RArray pz_tk) (n : Nat) (U : List Nat), (∀ v ∈ U, mi' 175 v = mi 175 v ∧ mi' 176 v = mi 176 v ∧ mi' 177 v = mi 177 v ∧ mi' 178 v = mi 178 v ∧ mi' 179 v = mi 179 v ∧ pz_rwf mi' v = pz_rwf mi v ∧ ml' 180 v = ml 180 v ∧ ml' 181 v = ml 181 v) → pz_mT P mi ml t n U → pz_mT P mi' ml' t n U := by
  intro t
  induction t with
  | leaf x =>
    intro n U h hc
    obtain ⟨h1, h2, h3⟩ := hc
    obtain ⟨g1, g2, g3, g4, g5, g6, g7, g8⟩ := h n (by rw [h1]; exact List.mem_cons_self)
    refine ⟨h1, by rw [g1]; exact h2, ?_⟩
    rw [g4, g5, g6, g7, g8]
    exact h3
  | branch k a b iha ihb =>
    intro n U h hc
    cases k with
    | zero =>
      obtain ⟨q, r, A, B, h1, h2, h3, h4, h5, h6⟩ := hc
      obtain ⟨g1, g2, g3, g4, g5, g6, g7, g8⟩ := h n (by rw [h1]; exact List.mem_cons_self)
      refine ⟨q, r, A, B, h1, by rw [g1]; exact h2, by rw [g2]; exact h3, by rw [g3]; exact h4, iha q A (fun z hz => h z ?_) h5, ihb r B (fun z hz => h z ?_) h6⟩
      · rw [h1]
        exact List.mem_cons_of_mem _ (List.mem_append_left _ hz)
      · rw [h1]
        exact List.mem_cons_of_mem _ (List.mem_append_right _ hz)
    | succ k =>
      obtain ⟨q, A, h1, h2, h3, h4, h5, h6⟩ := hc
      obtain ⟨g1, g2, g3, g4, g5, g6, g7, g8⟩ := h n (by rw [h1]; exact List.mem_cons_self)
      refine ⟨q, A, h1, by rw [g1]; exact h2, by rw [g4]; exact h3, by rw [g5]; exact h4, by rw [g2]; exact h5, iha q A (fun z hz => h z ?_) h6⟩
      rw [h1]
      exact List.mem_cons_of_mem _ hz
theorem pz_mT_P {P' : Int → Int → (Nat → Int) → Int64 → Int64 → pz_tk → Prop} (hP : ∀ g f w lo hi x, P g f w lo hi x → P' g f w lo hi x) : ∀ (t : Lean.RArray pz_tk) (n : Nat) (U : List Nat), pz_mT P mi ml t n U → pz_mT P' mi ml t n U := by
  intro t
  induction t with
  | leaf x => exact fun n U hc => ⟨hc.1, hc.2.1, hP _ _ _ _ _ _ hc.2.2⟩
  | branch k a b iha ihb =>
    intro n U hc
    cases k with
    | zero =>
      obtain ⟨q, r, A, B, h1, h2, h3, h4, h5, h6⟩ := hc
      exact ⟨q, r, A, B, h1, h2, h3, h4, iha q A h5, ihb r B h6⟩
    | succ k =>
      obtain ⟨q, A, h1, h2, h3, h4, h5, h6⟩ := hc
      exact ⟨q, A, h1, h2, h3, h4, h5, iha q A h6⟩
theorem pz_mT_in : ∀ (t : Lean.RArray pz_tk) (n : Nat) (U : List Nat), pz_mT P mi ml t n U → n ∈ U ∧ U.length = (pz_nT t).1 + (pz_nT t).2.1 + (pz_nT t).2.2 := by
  intro t
  induction t with
  | leaf x =>
    intro n U hc
    rw [hc.1]
    exact ⟨List.mem_cons_self, rfl⟩
  | branch k a b iha ihb =>
    intro n U hc
    cases k with
    | zero =>
      obtain ⟨q, r, A, B, h1, h2, h3, h4, h5, h6⟩ := hc
      have a1 := (iha q A h5).2
      have b1 := (ihb r B h6).2
      rw [h1]
      refine ⟨List.mem_cons_self, ?_⟩
      have e : pz_nT (.branch 0 a b) = ((pz_nT a).1 + (pz_nT b).1, (pz_nT a).2.1 + (pz_nT b).2.1 + 1, (pz_nT a).2.2 + (pz_nT b).2.2) := rfl
      rw [List.length_cons, List.length_append, e, a1, b1]
      dsimp only
      omega
    | succ k =>
      obtain ⟨q, A, h1, h2, h3, h4, h5, h6⟩ := hc
      have a1 := (iha q A h6).2
      rw [h1]
      refine ⟨List.mem_cons_self, ?_⟩
      have e : pz_nT (.branch (k + 1) a b) = ((pz_nT a).1, (pz_nT a).2.1, (pz_nT a).2.2 + 1) := rfl
      rw [List.length_cons, e, a1]
      dsimp only
      omega
/-- a row is copied -/
theorem pz_cpy1 {like n : Nat} (hl : like < 63) (hn : n < 63) (hne : n ≠ like) : ∀ (j v : Nat) (mi : Nat → Nat → Int), v + j = 240 → (∀ u, u < v → mi 182 (240 * n + u) = mi 182 (240 * like + u)) →
    pz_Rn (d + 1) 133 (35, [], [(0, .inr (.inr (some 165))), (3, .inl (like : Int)), (4, .inl (n : Int)), (5, .inl (v : Int))], pz_hp n0 mi ml mr c s, true) (fun o h => ∃ mi', (o = .inl (some (.inl (n : Int))) ∧ h = pz_hp n0 mi' (pz_up (pz_up ml 180 n (ml 180 like)) 181 n (ml 181 like)) mr c s) ∧ pz_fr [182] [] mi mi' ∧ pz_rw n mi mi' ∧ ∀ u, u < 240 → mi' 182 (240 * n + u) = mi 182 (240 * like + u)) := by
  intro j
  induction j with
  | zero =>
    intro v mi hv hc
    have el : ((like : Int)).toNat = like := by omega
    have en : ((n : Int)).toNat = n := by omega
    refine pz_g133_35 ⟨fun _ => ⟨by omega, by omega, by omega, by omega, mi, ⟨rfl, ?_⟩, pz_fr_refl, pz_rw_refl, fun u hu => hc u (by omega)⟩, fun h => absurd h (by omega)⟩
    rw [el, en]
  | succ j ih =>
    intro v mi hv hc
    have e1 : (240 * (n : Int) + (v : Int)).toNat = 240 * n + v := by omega
    have e2 : (240 * (like : Int) + (v : Int)).toNat = 240 * like + v := by omega
    have e3 : (v : Int) + 1 = ((v + 1 : Nat) : Int) := by omega
    refine pz_g133_35 ⟨fun h => absurd h (by omega), fun _ => ⟨by omega, by omega, by omega, by omega, by omega, by omega, by omega, ?_⟩⟩
    rw [e1, e2, e3]
    have f1 : pz_fr [182] [] mi (pz_up mi 182 (240 * n + v) (mi 182 (240 * like + v))) := pz_fr_up (by decide) (by decide)
    have r1 : pz_rw n mi (pz_up mi 182 (240 * n + v) (mi 182 (240 * like + v))) := fun k hk => pz_up_ot (by omega)
    have lk : ∀ u, u < 240 → pz_up mi 182 (240 * n + v) (mi 182 (240 * like + v)) 182 (240 * like + u) = mi 182 (240 * like + u) := fun u hu => pz_up_ot (by omega)
    refine (ih (v + 1) _ (by omega) (fun u hu => ?_)).mono (Nat.le_refl _) ?_
    · rw [lk u (by omega)]
      by_cases e : u = v
      · subst e
        exact pz_up_at
      · rw [pz_up_ot (by omega)]
        exact hc u (by omega)
    · rintro _ _ ⟨m2, g1, g2, g3, g4⟩
      refine ⟨m2, g1, pz_fr_trans f1 g2, pz_rw_trans r1 g3, fun u hu => ?_⟩
      rw [g4 u hu, lk u hu]
/-- the reference's task -/
theorem pz_taskM {g f : Int} {like : Nat} (h : pz_mv mi U A m) (hU : U.length ≤ 61) (hl : like < 63) : ∃ n : Nat, n < 62 ∧ n ∉ U ∧ pz_Rn (d + 1) 133 (0, [], [(0, .inr (.inr (some 165))), (1, .inl g), (2, .inl f), (3, .inl (like : Int))], pz_hp n0 mi ml mr c s, true) (fun o hh => ∃ mi' ml' A' m', (o = .inl (some (.inl (n : Int))) ∧ hh = pz_hp n0 mi' ml' mr c s) ∧ pz_mv mi' (n :: U) A' m' ∧ pz_nfr [n] mi ml mi' ml' ∧ mi' 165 32 = mi 165 32 ∧ mi' 175 n = 0 ∧ mi' 178 n = g ∧ mi' 179 n = f ∧ pz_rwf mi' n = pz_rwf mi like ∧ ml' 180 n = ml 180 like ∧ ml' 181 n = ml 181 like) := by
  obtain ⟨n, A', m', e12, hn, hnU, hv⟩ := pz_mv_take (kd := 0) h hU
  refine ⟨n, hn, hnU, ?_⟩
  refine pz_g133_0 ?_
  refine pz_Rn_c (d' := 0) (by omega) (pz_createC e12 hn) ?_
  have en : ((n : Int)).toNat = n := by omega
  have hw : n ∈ [n] := List.mem_cons_self
  have nf1 : pz_nfr [n] mi ml (pz_up (pz_up mi 165 12 (mi 176 n)) 175 n 0) ml := pz_nf_take hw
  have k0 : pz_up (pz_up mi 165 12 (mi 176 n)) 175 n 0 175 n = 0 := pz_up_at
  have k32 : pz_up (pz_up mi 165 12 (mi 176 n)) 175 n 0 165 32 = mi 165 32 := by rw [pz_upq (by decide), pz_up_ot (by decide)]
  have k182 : pz_up (pz_up mi 165 12 (mi 176 n)) 175 n 0 182 = mi 182 := by rw [pz_upq (by decide), pz_upq (by decide)]
  generalize pz_up (pz_up mi 165 12 (mi 176 n)) 175 n 0 = m1 at *
  have nf2 : pz_nfr [n] m1 ml (pz_up (pz_up m1 178 n g) 179 n f) ml := pz_nf_trans (pz_nf_up (by decide) hw) (pz_nf_up (by decide) hw)
  have hv2 : pz_mv (pz_up (pz_up m1 178 n g) 179 n f) (n :: U) A' m' := pz_mv_fr hv (by rw [pz_upq (by decide), pz_upq (by decide)]) (fun v _ _ => by rw [pz_upq (by decide), pz_upq (by decide)])
  have j0 : pz_up (pz_up m1 178 n g) 179 n f 175 n = 0 := by rw [pz_upq (by decide), pz_upq (by decide)]; exact k0
  have j8 : pz_up (pz_up m1 178 n g) 179 n f 178 n = g := by rw [pz_upq (by decide), pz_up_at]
  have j9 : pz_up (pz_up m1 178 n g) 179 n f 179 n = f := pz_up_at
  have j32 : pz_up (pz_up m1 178 n g) 179 n f 165 32 = mi 165 32 := by rw [pz_upq (by decide), pz_upq (by decide)]; exact k32
  have j182 : pz_up (pz_up m1 178 n g) 179 n f 182 = mi 182 := by rw [pz_upq (by decide), pz_upq (by decide)]; exact k182
  refine pz_g133_5 ⟨by omega, by omega, fun hne => ?_, fun he => ?_⟩
  · rw [en]
    generalize pz_up (pz_up m1 178 n g) 179 n f = m2 at *
    have hne' : n ≠ like := fun e => hne (by rw [e])
    refine (pz_cpy1 hl (by omega) hne' 240 0 m2 rfl (fun u hu => absurd hu (by omega))).mono (Nat.le_refl _) ?_
    rintro _ _ ⟨m3, g1, g2, g3, g4⟩
    have e165 : m3 165 = m2 165 := by
      funext j
      exact g2.2 j List.not_mem_nil
    refine ⟨m3, _, A', m', g1, pz_mv_fr hv2 (by rw [e165]) (fun v _ _ => by rw [g2.1 176 (by decide) (by decide)]), pz_nf_trans (pz_nf_trans nf1 nf2) ⟨fun v hv => ?_, fun p hp => ?_, fun j _ _ => by rw [e165], fun p h1 h2 => by rw [pz_upq h2, pz_upq h1]⟩, by rw [e165]; exact j32, by rw [g2.1 175 (by decide) (by decide)]; exact j0, by rw [g2.1 178 (by decide) (by decide)]; exact j8, by rw [g2.1 179 (by decide) (by decide)]; exact j9, ?_, ?_, ?_⟩
    · have hvn : v ≠ n := fun e => hv (by rw [e]; exact hw)
      refine ⟨by rw [g2.1 175 (by decide) (by decide)], by rw [g2.1 176 (by decide) (by decide)], by rw [g2.1 177 (by decide) (by decide)], by rw [g2.1 178 (by decide) (by decide)], by rw [g2.1 179 (by decide) (by decide)], ?_, ?_, ?_⟩
      · funext u
        unfold pz_rwf
        by_cases hu : u < 240
        · rw [if_pos hu, if_pos hu]
          exact g3 _ (by omega)
        · rw [if_neg hu, if_neg hu]
      · rw [pz_upq (by decide), pz_up_ot hvn]
      · rw [pz_up_ot hvn, pz_upq (by decide)]
    · exact g2.1 p (by simp only [List.mem_cons, List.not_mem_nil, or_false]; omega) (by omega)
    · funext u
      unfold pz_rwf
      by_cases hu : u < 240
      · rw [if_pos hu, if_pos hu, g4 u hu, j182]
      · rw [if_neg hu, if_neg hu]
    · rw [pz_upq (by decide), pz_up_at]
    · rw [pz_up_at]
  · rw [en]
    have he' : n = like := by omega
    subst he'
    exact ⟨_, ml, A', m', ⟨rfl, rfl⟩, hv2, pz_nf_trans nf1 nf2, j32, j0, j8, j9, pz_rwf_eq j182 n, rfl, rfl⟩
end pzG
