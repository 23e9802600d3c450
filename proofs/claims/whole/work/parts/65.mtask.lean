/-! The reference's stepTask. -/
def pz_mR (mi : Nat → Nat → Int) (F : Int) (row : Nat → Int) (σ : Nat → Option Nat) : Prop := ∀ v, (v < 240 → match σ v with
  | none => row v = 0
  | some a => pz_vm mi F (row v) ∧ pz_cm mi (row v) = a) ∧ (6 * F ≤ (v : Int) → σ v = none)
def pz_P2 (mi : Nat → Nat → Int) (F : Int) (g f : Int) (row : Nat → Int) (lo hi : Int64) (x : pz_tk) : Prop := g = (x.1 : Int) ∧ f = (x.2.1 : Int) ∧ pz_mR mi F row x.2.2.1 ∧ lo = x.2.2.2.1 ∧ hi = x.2.2.2.2
def pz_PU : Int → Int → (Nat → Int) → Int64 → Int64 → pz_tk → Prop := fun _ _ _ _ _ _ => True
def pz_mW (mi : Nat → Nat → Int) (F nb N : Nat) (k : Nat → Nat × Nat) : Prop := pz_tm mi ∧ pz_gl mi ∧ pz_re4 mi ∧ mi 165 28 = (F : Int) ∧ F ≤ 40 ∧ 1 ≤ F ∧ mi 165 29 = (nb : Int) ∧ nb ≤ 1000 ∧ N ≤ 120 ∧ pz_mn mi (F : Int) N k
def pz_ns (V : List Nat) (mi : Nat → Nat → Int) (ml : Nat → Nat → Int64) (mi' : Nat → Nat → Int) (ml' : Nat → Nat → Int64) : Prop :=
  (∀ v ∈ V, mi' 175 v = mi 175 v ∧ mi' 176 v = mi 176 v ∧ mi' 177 v = mi 177 v ∧ mi' 178 v = mi 178 v ∧ mi' 179 v = mi 179 v ∧ pz_rwf mi' v = pz_rwf mi v ∧ ml' 180 v = ml 180 v ∧ ml' 181 v = ml 181 v) ∧ (∀ p, (p < 165 ∨ (165 < p ∧ p < 175) ∨ p = 183 ∨ 188 < p) → mi' p = mi p) ∧ (∀ j, j ∉ [12, 24, 27, 28, 29, 31, 32, 33, 35] → mi' 165 j = mi 165 j) ∧ ∀ p, p ≠ 180 → p ≠ 181 → ml' p = ml p
/-- how the reference's stepTask ends -/
def pz_oM (n0 : Nat) (mr : Nat → Nat → Option Nat) (c s : Nat) (V : List Nat) (mi : Nat → Nat → Int) (ml : Nat → Nat → Int64) (res : Option (Nat × (Option (Lean.RArray pz_tk) × Option pz_an) × Nat × Nat × (Nat → Nat × Nat))) : pz_O → pz_H → Prop := fun o h => ∃ mi' ml' X A m x ra, (o = .inl (some (.inl x)) ∧ h = pz_hp n0 mi' ml' mr c s) ∧ pz_mv mi' (X ++ V) A m ∧ (ra.2 ≠ none → X = []) ∧ pz_ns V mi ml mi' ml' ∧ match res with
  | none => mi' 165 31 = 1 ∧ pz_mlf pz_PU mi' ml' ra.1 x X ∧ pz_am pz_PU mi' ml' ra.2
  | some (F', ra', nb', N', k') => ra = ra' ∧ mi' 165 31 = 0 ∧ mi' 165 28 = (F' : Int) ∧ mi' 165 29 = (nb' : Int) ∧ pz_mn mi' (F' : Int) N' k' ∧ pz_mlf (pz_P2 mi' (F' : Int)) mi' ml' ra.1 x X ∧ pz_am (pz_P2 mi' (F' : Int)) mi' ml' ra.2
section pzI
variable {d n0 : Nat} {mi mi' : Nat → Nat → Int} {ml ml' : Nat → Nat → Int64} {mr : Nat → Nat → Option Nat} {c s : Nat} {σ : Nat → Option Nat} {V A W : List Nat} {m F nb N : Nat} {k : Nat → Nat × Nat}
theorem pz_mS_R {G : Int} {n : Nat} : pz_mS mi G n σ ↔ pz_mR mi G (pz_rwf mi n) σ := by
  unfold pz_mS pz_mR
  constructor
  · intro h v
    refine ⟨fun hv => ?_, (h v).2⟩
    have h1 := (h v).1 hv
    have e : pz_rwf mi n v = mi 182 (240 * n + v) := if_pos hv
    rw [e]
    exact h1
  · intro h v
    refine ⟨fun hv => ?_, (h v).2⟩
    have h1 := (h v).1 hv
    have e : pz_rwf mi n v = mi 182 (240 * n + v) := if_pos hv
    rw [e] at h1
    exact h1
theorem pz_mR_te {G : Int} {row : Nat → Int} (te : pz_te mi mi') (h : pz_mR mi G row σ) : pz_mR mi' G row σ := by
  unfold pz_mR
  rw [pz_vm_te te, pz_cm_te te]
  exact h
theorem pz_mR_mono {G G' : Int} {row : Nat → Int} (hG : G ≤ G') (h : pz_mR mi G row σ) : pz_mR mi G' row σ := by
  intro v
  refine ⟨fun hv => ?_, fun hv => (h v).2 (by omega)⟩
  have h1 := (h v).1 hv
  cases e : σ v with
  | none =>
    rw [e] at h1
    exact h1
  | some a =>
    rw [e] at h1
    exact ⟨pz_vm_mono hG h1.1, h1.2⟩
theorem pz_P2_te {G : Int} {g f : Int} {row : Nat → Int} {lo hi : Int64} {x : pz_tk} (te : pz_te mi mi') (h : pz_P2 mi G g f row lo hi x) : pz_P2 mi' G g f row lo hi x := ⟨h.1, h.2.1, pz_mR_te te h.2.2.1, h.2.2.2⟩
theorem pz_te_nf (h : pz_nfr W mi ml mi' ml') : pz_te mi mi' := by
  have g := h.2.1
  exact ⟨g 2 (by decide), g 3 (by decide), g 4 (by decide), g 5 (by decide), g 166 (by decide), g 167 (by decide), g 168 (by decide), h.2.2.1 1 (by decide) (by decide)⟩
theorem pz_mn_nf {G : Int} (h : pz_nfr W mi ml mi' ml') (hn : pz_mn mi G N k) : pz_mn mi' G N k := pz_mn_te (pz_te_nf h) (h.2.2.1 24 (by decide) (by decide)) (h.2.1 184 (by decide)) (h.2.1 185 (by decide)) hn
theorem pz_ns_trans {mi'' : Nat → Nat → Int} {ml'' : Nat → Nat → Int64} (h : pz_ns V mi ml mi' ml') (h' : pz_ns V mi' ml' mi'' ml'') : pz_ns V mi ml mi'' ml'' := by
  obtain ⟨a1, a2, a3, a4⟩ := h
  obtain ⟨b1, b2, b3, b4⟩ := h'
  refine ⟨fun v hv => ?_, fun p hp => (b2 p hp).trans (a2 p hp), fun j h1 => (b3 j h1).trans (a3 j h1), fun p h1 h2 => (b4 p h1 h2).trans (a4 p h1 h2)⟩
  obtain ⟨u1, u2, u3, u4, u5, u6, u7, u8⟩ := a1 v hv
  obtain ⟨v1, v2, v3, v4, v5, v6, v7, v8⟩ := b1 v hv
  exact ⟨v1.trans u1, v2.trans u2, v3.trans u3, v4.trans u4, v5.trans u5, v6.trans u6, v7.trans u7, v8.trans u8⟩
theorem pz_ns_nf (hV : ∀ v ∈ V, v ∉ W) (h : pz_nfr W mi ml mi' ml') : pz_ns V mi ml mi' ml' := by
  refine ⟨fun v hv => h.1 v (hV v hv), fun p hp => h.2.1 p (by omega), fun j hj => h.2.2.1 j (fun e => hj (by rw [e]; decide)) (fun e => hj (by rw [e]; decide)), h.2.2.2⟩
theorem pz_mV_ne {n : Nat} (h : pz_mv mi (n :: V) A m) : n < 62 ∧ ∀ v ∈ V, v ∉ [n] := by
  have nd := pz_mv_nd h
  refine ⟨by have := nd.2.1 n List.mem_cons_self; have := h.1; omega, fun v hv hn => ?_⟩
  have e := List.mem_singleton.mp hn
  subst e
  have c1 := List.nodup_iff_count.mp nd.1 v
  have c2 := List.count_pos_iff.mpr hv
  simp only [List.count_append, List.count_cons, beq_self_eq_true, if_true] at c1
  omega
/-- from a match's change of its own row -/
theorem pz_ns_aM {n : Nat} (hV : ∀ v ∈ V, v ∉ [n]) (f1 : pz_fr [182, 184, 185, 186, 187, 188] [24, 27, 29, 31, 33, 35] mi mi') (r1 : pz_rw n mi mi') (l1 : pz_lr n ml ml') : pz_ns V mi ml mi' ml' := by
  refine ⟨fun v hv => ?_, fun p hp => ?_, fun j hj => f1.2 j (fun e => hj ?_), fun p h1 h2 => ?_⟩
  · have hvn : v ≠ n := fun e => hV v hv (by rw [e]; exact List.mem_cons_self)
    refine ⟨by rw [f1.1 175 (by decide) (by decide)], by rw [f1.1 176 (by decide) (by decide)], by rw [f1.1 177 (by decide) (by decide)], by rw [f1.1 178 (by decide) (by decide)], by rw [f1.1 179 (by decide) (by decide)], ?_, l1 180 v (.inr hvn), l1 181 v (.inr hvn)⟩
    funext u
    unfold pz_rwf
    by_cases hu : u < 240
    · rw [if_pos hu, if_pos hu]
      exact r1 _ (by omega)
    · rw [if_neg hu, if_neg hu]
  · exact f1.1 p (by simp only [List.mem_cons, List.not_mem_nil, or_false]; omega) (by omega)
  · simp only [List.mem_cons, List.not_mem_nil, or_false] at e ⊢
    omega
  · funext j
    exact l1 p j (.inl ⟨h1, h2⟩)
/-- the task that matched, or did not, is freed -/
theorem pz_mtsk_free (hW : pz_mW mi F nb N k) {n : Nat} (hv : pz_mv mi (n :: V) A m) {x : pz_sr} {b : Int} (ha : pz_aM mi ml (F : Int) n x b mi' ml') (h32 : mi 165 32 = -1) :
    pz_Rn (d + 7) 131 (0, [], [(0, .inr (.inr (some 165))), (1, .inl (n : Int))], pz_hp n0 (if b = 0 then mi' else pz_up mi' 165 32 (n : Int)) ml' mr c s, true) (pz_K (d + 7 + 1) 134 55 [] [] (pz_oM n0 mr c s V mi ml (pz_rt F x)) true) := by
  obtain ⟨f1, r1, l1, hb, hx⟩ := ha
  obtain ⟨w1, w2, w3, w4, w5, w6, w7, w8, w9, w10⟩ := hW
  obtain ⟨n62, vne⟩ := pz_mV_ne hv
  have v1 : pz_mv mi' (n :: V) A m := pz_mv_fr hv (f1.2 12 (by decide)) (fun v _ _ => by rw [f1.1 176 (by decide) (by decide)])
  have NS := pz_ns_aM vne f1 r1 l1
  have h32' : mi' 165 32 = -1 := (f1.2 32 (by decide)).trans h32
  have h28 : mi' 165 28 = (F : Int) := (f1.2 28 (by decide)).trans w4
  -- the heap before the node is freed
  have key : ∀ m1 : Nat → Nat → Int, (∀ p, p ≠ 165 → m1 p = mi' p) → (∀ j, j ≠ 32 → m1 165 j = mi' 165 j) → (b = 0 → m1 165 32 = -1) → (b = 1 → m1 165 32 = (n : Int)) → pz_Rn (d + 7) 131 (0, [], [(0, .inr (.inr (some 165))), (1, .inl (n : Int))], pz_hp n0 m1 ml' mr c s, true) (pz_K (d + 7 + 1) 134 55 [] [] (pz_oM n0 mr c s V mi ml (pz_rt F x)) true) := by
    intro m1 e1 e165 eb0 eb1
    have vm1 : pz_mv m1 (n :: V) A m := pz_mv_fr v1 (e165 12 (by decide)) (fun v _ _ => by rw [e1 176 (by decide)])
    have N1 : pz_nfr [n] mi' ml' m1 ml' := ⟨fun v _ => ⟨by rw [e1 175 (by decide)], by rw [e1 176 (by decide)], by rw [e1 177 (by decide)], by rw [e1 178 (by decide)], by rw [e1 179 (by decide)], pz_rwf_eq (e1 182 (by decide)) v, rfl, rfl⟩, fun p hp => e1 p (by omega), fun j _ h2 => e165 j h2, fun _ _ _ => rfl⟩
    refine pz_Rn_c (d' := 0) (by omega) (pz_freeC (by omega)) ?_
    refine pz_g134_58 ?_
    have N2 : pz_nfr [n] mi' ml' (pz_up (pz_up m1 176 n (m1 165 12)) 165 12 (n : Int)) ml' := pz_nf_trans N1 (pz_nf_free List.mem_cons_self)
    have v2 := (pz_mv_give (U' := V) vm1 (List.Perm.refl _)).2
    have z32 : pz_up (pz_up m1 176 n (m1 165 12)) 165 12 (n : Int) 165 32 = m1 165 32 := by rw [pz_up_ot (by decide), pz_upq (by decide)]
    have z182 : pz_up (pz_up m1 176 n (m1 165 12)) 165 12 (n : Int) 182 = mi' 182 := by rw [pz_upq (by decide), pz_upq (by decide), e1 182 (by decide)]
    generalize pz_up (pz_up m1 176 n (m1 165 12)) 165 12 (n : Int) = m2 at *
    have NS2 : pz_ns V mi ml m2 ml' := pz_ns_trans NS (pz_ns_nf vne N2)
    have te2 := pz_te_nf N2
    cases x with
    | none =>
      have ov : mi' 165 31 = 1 := hx
      refine ⟨m2, ml', [], n :: A, m, -1, (none, if b = 1 then some (fun _ => none, 0, 0) else none), ⟨rfl, rfl⟩, v2, fun _ => rfl, NS2, (N2.2.2.1 31 (by decide) (by decide)).trans ov, ⟨rfl, rfl⟩, ?_⟩
      rcases hb with hb | hb
      · rw [if_neg (by omega)]
        show m2 165 32 = -1
        rw [z32]
        exact eb0 hb
      · rw [if_pos hb]
        exact ⟨n, by rw [z32]; exact eb1 hb, by omega, fun _ _ => trivial⟩
    | some z =>
      obtain ⟨ans, nb', N', k'⟩ := z
      obtain ⟨x1, x2, x3, x4⟩ := hx
      refine ⟨m2, ml', [], n :: A, m, -1, (none, ans), ⟨rfl, rfl⟩, v2, fun _ => rfl, NS2, rfl, (N2.2.2.1 31 (by decide) (by decide)).trans x1, (N2.2.2.1 28 (by decide) (by decide)).trans h28, (N2.2.2.1 29 (by decide) (by decide)).trans x2, pz_mn_nf N2 x3, ⟨rfl, rfl⟩, ?_⟩
      cases ans with
      | none =>
        show m2 165 32 = -1
        rw [z32]
        exact eb0 x4
      | some an =>
        obtain ⟨σ', lo', hi'⟩ := an
        obtain ⟨y1, y2, y3, y4⟩ := x4
        refine ⟨n, by rw [z32]; exact eb1 y1, by omega, fun g f => ⟨rfl, rfl, ?_, y3, y4⟩⟩
        have := pz_mR_te te2 (pz_mS_R.mp y2)
        rw [pz_rwf_eq z182]
        exact this
  by_cases hb0 : b = 0
  · rw [if_pos hb0]
    exact key mi' (fun _ _ => rfl) (fun _ _ => rfl) (fun _ => h32') (fun h => absurd h (by omega))
  · rw [if_neg hb0]
    exact key _ (fun p h => pz_upq h) (fun j h => pz_up_ot h) (fun h => absurd h hb0) (fun _ => pz_up_at)
end pzI
