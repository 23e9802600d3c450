/-! The class's goDown and goUp. -/
/-- the way down to the task whose turn it is: what stands above it, nearest first, and the task -/
def pz_cx (t : Lean.RArray pz_tk) (acc : List (Nat × Lean.RArray pz_tk)) : List (Nat × Lean.RArray pz_tk) × pz_tk := match t with
  | .leaf x => (acc, x)
  | .branch k a b => pz_cx a ((k, b) :: acc)
/-- what a sum or a product leaves whose first tree left this -/
def pz_fst1 (k : Nat) (b : Lean.RArray pz_tk) (ra : Option (Lean.RArray pz_tk) × Option pz_an) : Option (Lean.RArray pz_tk) × Option pz_an := match k, ra with
  | 0, (none, an) => (some b, an)
  | 0, (some a, an) => (some (.branch 0 b a), an)
  | _ + 1, (none, none) => (none, none)
  | k + 1, (some a, none) => (some (.branch (k + 1) a b), none)
  | k + 1, (none, some an) => (some (.leaf (k / 64, k % 64, an)), none)
  | k + 1, (some a, some an) => (some (.branch 0 (.leaf (k / 64, k % 64, an)) (.branch (k + 1) a b)), none)
def pz_rl (l : List (Nat × Lean.RArray pz_tk)) (ra : Option (Lean.RArray pz_tk) × Option pz_an) : Option (Lean.RArray pz_tk) × Option pz_an := match l with
  | [] => ra
  | e :: l => pz_rl l (pz_fst1 e.1 e.2 ra)
/-- what stands above, as the class has it: place, kind, second tree and its nodes -/
def pz_sx (P : Int → Int → Int → Int64 → Int64 → pz_tk → Prop) (mi : Nat → Nat → Int) (ml : Nat → Nat → Int64) (mr : Nat → Nat → Option Nat) (L : List (Nat × Nat × Lean.RArray pz_tk × List Nat)) (V : List Nat) : Prop := match L with
  | [] => V = []
  | e :: L => ∃ V', V = e.1 :: (e.2.2.2 ++ V') ∧ pz_nd e.1 ∧ ((e.2.1 = 0 ∧ mi e.1 0 = 2 ∧ ∃ r, mr e.1 2 = some r ∧ pz_cT P mi ml mr e.2.2.1 r e.2.2.2) ∨ (∃ k, e.2.1 = k + 1 ∧ mi e.1 0 = 3 ∧ mi e.1 3 = (k / 64 : Nat) ∧ mi e.1 4 = (k % 64 : Nat) ∧ e.2.2.2 = [])) ∧ pz_sx P mi ml mr L V'
def pz_pa (mr : Nat → Nat → Option Nat) (L : List (Nat × Nat × Lean.RArray pz_tk × List Nat)) : Prop := match L with
  | [] => True
  | e :: r => mr 145 r.length = some e.1 ∧ pz_pa mr r
def pz_lev (L : List (Nat × Nat × Lean.RArray pz_tk × List Nat)) : List (Nat × Lean.RArray pz_tk) := L.map (fun e => (e.2.1, e.2.2.1))
/-- a tree or none, at a place or null -/
def pz_lf (P : Int → Int → Int → Int64 → Int64 → pz_tk → Prop) (mi : Nat → Nat → Int) (ml : Nat → Nat → Int64) (mr : Nat → Nat → Option Nat) (t : Option (Lean.RArray pz_tk)) (x : Option Nat) (X : List Nat) : Prop := match t with
  | none => x = none ∧ X = []
  | some t => ∃ p, x = some p ∧ pz_cT P mi ml mr t p X
def pz_as (P : Int → Int → Int → Int64 → Int64 → pz_tk → Prop) (mi : Nat → Nat → Int) (ml : Nat → Nat → Int64) (ans : Option pz_an) : Prop := match ans with
  | none => mi 13 14 = 0
  | some an => mi 13 14 = 1 ∧ ∀ g f : Nat, P g f (mi 149 0) (ml 149 1) (ml 149 2) (g, f, an)
section pzA
variable {d n0 : Nat} {mi mi' : Nat → Nat → Int} {ml ml' : Nat → Nat → Int64} {mr mr' : Nat → Nat → Option Nat} {c s : Nat} {P : Int → Int → Int → Int64 → Int64 → pz_tk → Prop} {U S : List Nat}
theorem pz_sx_fr : ∀ (L : List (Nat × Nat × Lean.RArray pz_tk × List Nat)) (V : List Nat), (∀ q ∈ V, mi' q = mi q ∧ mi' (q + 1) = mi (q + 1) ∧ ml' (q + 1) = ml (q + 1) ∧ mr' q = mr q) → pz_sx P mi ml mr L V → pz_sx P mi' ml' mr' L V := by
  intro L
  induction L with
  | nil => exact fun V _ h => h
  | cons e L ih =>
    intro V h hs
    obtain ⟨V', h1, h2, h3, h4⟩ := hs
    obtain ⟨g1, g2, g3, g4⟩ := h e.1 (by rw [h1]; exact List.mem_cons_self)
    refine ⟨V', h1, h2, ?_, ih V' (fun q hq => h q (by rw [h1]; exact List.mem_cons_of_mem _ (List.mem_append_right _ hq))) h4⟩
    rcases h3 with ⟨u1, u2, r, u3, u4⟩ | ⟨k, u1, u2, u3, u4, u5⟩
    · exact .inl ⟨u1, by rw [g1]; exact u2, r, by rw [g4]; exact u3, pz_cT_fr _ _ _ (fun q hq => h q (by rw [h1]; exact List.mem_cons_of_mem _ (List.mem_append_left _ hq))) u4⟩
    · exact .inr ⟨k, u1, by rw [g1]; exact u2, by rw [g1]; exact u3, by rw [g1]; exact u4, u5⟩
theorem pz_sx_nd : ∀ (L : List (Nat × Nat × Lean.RArray pz_tk × List Nat)) (V : List Nat), pz_sx P mi ml mr L V → ∀ q ∈ V, pz_nd q := by
  intro L
  induction L with
  | nil =>
    intro V h q hq
    have : V = [] := h
    rw [this] at hq
    exact absurd hq List.not_mem_nil
  | cons e L ih =>
    intro V hs q hq
    obtain ⟨V', h1, h2, h3, h4⟩ := hs
    rw [h1] at hq
    rcases List.mem_cons.mp hq with rfl | hq
    · exact h2
    · rcases List.mem_append.mp hq with hq | hq
      · rcases h3 with ⟨u1, u2, r, u3, u4⟩ | ⟨k, u1, u2, u3, u4, u5⟩
        · exact (pz_cT_nd _ _ _ u4).2 q hq
        · rw [u5] at hq
          exact absurd hq List.not_mem_nil
      · exact ih V' h4 q hq
theorem pz_pa_fr {L : List (Nat × Nat × Lean.RArray pz_tk × List Nat)} (h : ∀ j, j < L.length → mr' 145 j = mr 145 j) (hp : pz_pa mr L) : pz_pa mr' L := by
  induction L with
  | nil => trivial
  | cons e L ih =>
    unfold pz_pa at hp ⊢
    rw [h L.length (by rw [List.length_cons]; omega)]
    exact ⟨hp.1, ih (fun j hj => h j (by rw [List.length_cons]; omega)) hp.2⟩
set_option maxHeartbeats 1000000 in
theorem pz_gd1 : ∀ (t : Lean.RArray pz_tk) (p : Nat) (A : List Nat) (L : List (Nat × Nat × Lean.RArray pz_tk × List Nat)) (V : List Nat) (mr : Nat → Nat → Option Nat), pz_cT P mi ml mr t p A → pz_sx P mi ml mr L V → pz_pa mr L → mr 13 10 = some p → L.length + A.length ≤ 64 →
    pz_Rn d 39 (7, [], [(0, .inr (.inr (some 13))), (2, .inl (L.length : Int))], pz_hp n0 mi ml mr c s, true) (fun o h => ∃ mr' L' V' q, (o = .inl (some (.inl (L'.length : Int))) ∧ h = pz_hp n0 mi ml mr' c s) ∧ (∀ p, p ≠ 13 → p ≠ 145 → mr' p = mr p) ∧ mr' 13 10 = some q ∧ pz_sx P mi ml mr' L' V' ∧ pz_pa mr' L' ∧ L'.length < 64 ∧ pz_cT P mi ml mr' (.leaf (pz_cx t (pz_lev L)).2) q [q] ∧ (q :: V').Perm (A ++ V) ∧ pz_lev L' = (pz_cx t (pz_lev L)).1) := by
  intro t
  induction t with
  | leaf x =>
    intro p A L V mr hc hs hp h10 hlen
    have hc' := hc
    obtain ⟨h1, h2, h3, h4⟩ := hc'
    subst h1
    rw [List.length_singleton] at hlen
    exact pz_g39_7 ⟨p, h10, h2, fun _ => ⟨mr, L, V, p, ⟨rfl, rfl⟩, fun _ _ _ => rfl, h10, hs, hp, by omega, hc, List.Perm.refl _, rfl⟩, fun h => absurd h3 h⟩
  | branch k a b iha ihb =>
    intro p A L V mr hc hs hp h10 hlen
    have step : ∀ (q : Nat) (A' B : List Nat), pz_nd p → mi p 0 ≠ 1 → mr p 1 = some q → pz_cT P mi ml mr a q A' → A = p :: (A' ++ B) → ((k = 0 ∧ mi p 0 = 2 ∧ ∃ r, mr p 2 = some r ∧ pz_cT P mi ml mr b r B) ∨ (∃ k', k = k' + 1 ∧ mi p 0 = 3 ∧ mi p 3 = (k' / 64 : Nat) ∧ mi p 4 = (k' % 64 : Nat) ∧ B = [])) → pz_Rn d 39 (7, [], [(0, .inr (.inr (some 13))), (2, .inl (L.length : Int))], pz_hp n0 mi ml mr c s, true) (fun o h => ∃ mr' L' V' q, (o = .inl (some (.inl (L'.length : Int))) ∧ h = pz_hp n0 mi ml mr' c s) ∧ (∀ p, p ≠ 13 → p ≠ 145 → mr' p = mr p) ∧ mr' 13 10 = some q ∧ pz_sx P mi ml mr' L' V' ∧ pz_pa mr' L' ∧ L'.length < 64 ∧ pz_cT P mi ml mr' (.leaf (pz_cx (.branch k a b) (pz_lev L)).2) q [q] ∧ (q :: V').Perm (A ++ V) ∧ pz_lev L' = (pz_cx (.branch k a b) (pz_lev L)).1) := by
      intro q A' B hnd hk1 h1 hca hA hkk
      have hnd' := hnd
      obtain ⟨n1, n2, n3⟩ := hnd'
      rw [hA, List.length_cons, List.length_append] at hlen
      have e0 : ((L.length : Int)).toNat = L.length := by omega
      have e1 : (L.length : Int) + 1 = (((p, k, b, B) :: L).length : Int) := by rw [List.length_cons]; omega
      refine pz_g39_7 ⟨p, h10, hnd, fun h => absurd h hk1, fun _ => ⟨fun h => absurd (h.symm.trans h1) (fun e => nomatch e), fun _ => ⟨fun h => absurd h (by omega), fun _ => ⟨by omega, by omega, ?_⟩⟩⟩⟩
      rw [e0, e1, pz_upq (show p ≠ 145 by omega), h1]
      have hmr : ∀ v, v ≠ 13 → v ≠ 145 → pz_up (pz_up mr 145 L.length (some p)) 13 10 (some q) v = mr v := by
        intro v h2 h3
        rw [pz_upq h2, pz_upq h3]
      have h145 : ∀ j, pz_up (pz_up mr 145 L.length (some p)) 13 10 (some q) 145 j = pz_up mr 145 L.length (some p) 145 j := by
        intro j
        rw [pz_upq (by decide)]
      have h1310 : pz_up (pz_up mr 145 L.length (some p)) 13 10 (some q) 13 10 = some q := pz_up_at
      have hp1 : pz_pa (pz_up (pz_up mr 145 L.length (some p)) 13 10 (some q)) ((p, k, b, B) :: L) := by
        unfold pz_pa
        refine ⟨?_, pz_pa_fr (fun j hj => ?_) hp⟩
        · rw [h145, pz_up_at]
        · rw [h145, pz_up_ot (by omega)]
      generalize pz_up (pz_up mr 145 L.length (some p)) 13 10 (some q) = mr1 at *
      have nds : ∀ v, pz_nd v → mr1 v = mr v := by
        intro v hv
        obtain ⟨v1, v2, v3⟩ := hv
        exact hmr v (by omega) (by omega)
      have ca1 : pz_cT P mi ml mr1 a q A' := pz_cT_fr _ _ _ (fun v hv => ⟨rfl, rfl, rfl, nds v ((pz_cT_nd _ _ _ hca).2 v hv)⟩) hca
      have sx1 : pz_sx P mi ml mr1 ((p, k, b, B) :: L) (p :: (B ++ V)) := by
        refine ⟨V, rfl, hnd, ?_, pz_sx_fr _ _ (fun v hv => ⟨rfl, rfl, rfl, nds v (pz_sx_nd _ _ hs v hv)⟩) hs⟩
        rcases hkk with ⟨u1, u2, r, u3, u4⟩ | ⟨k', u1, u2, u3, u4, u5⟩
        · exact .inl ⟨u1, u2, r, by rw [nds p hnd]; exact u3, pz_cT_fr _ _ _ (fun v hv => ⟨rfl, rfl, rfl, nds v ((pz_cT_nd _ _ _ u4).2 v hv)⟩) u4⟩
        · exact .inr ⟨k', u1, u2, u3, u4, u5⟩
      refine (iha q A' ((p, k, b, B) :: L) (p :: (B ++ V)) mr1 ca1 sx1 hp1 h1310 (by rw [List.length_cons]; omega)).mono (Nat.le_refl _) ?_
      rintro _ _ ⟨mr2, L', V', q', g1, g2, g3, g4, g5, g6, g7, g8, g9⟩
      refine ⟨mr2, L', V', q', g1, fun v h2 h3 => (g2 v h2 h3).trans (hmr v h2 h3), g3, g4, g5, g6, g7, g8.trans ?_, g9⟩
      rw [hA]
      simp only [List.perm_iff_count, List.count_append, List.count_cons]
      intro z
      omega
    cases k with
    | zero =>
      obtain ⟨q, r, A', B, h1, h2, h3, h4, h5, h6, h7⟩ := hc
      exact step q A' B h2 (by omega) h4 h6 h1 (.inl ⟨rfl, h3, r, h5, h7⟩)
    | succ k =>
      obtain ⟨q, A', h1, h2, h3, h4, h5, h6, h7⟩ := hc
      exact step q A' [] h2 (by omega) h6 h7 (by rw [List.append_nil]; exact h1) (.inr ⟨k, rfl, h3, h4, h5, rfl⟩)
theorem pz_iv_perm {U' : List Nat} (h : pz_iv mi mr U S) (hp : U.Perm U') : pz_iv mi mr U' S := ⟨h.1, h.2.1, (hp.symm.append_right S).trans h.2.2⟩
theorem pz_as_tf {ans : Option pz_an} {W : List Nat} (h : pz_tf W mi ml mr mi' ml' mr') (h13 : mi' 13 14 = mi 13 14) (ha : pz_as P mi ml ans) : pz_as P mi' ml' ans := by
  unfold pz_as at ha ⊢
  rw [h13, h.2.1 149 (by decide) (by decide), (h.2.2.1 149 (by decide)).1]
  exact ha
/-- how goUp ends -/
def pz_uQ (n0 c s : Nat) (P : Int → Int → Int → Int64 → Int64 → pz_tk → Prop) (mi : Nat → Nat → Int) (ml : Nat → Nat → Int64) (mr : Nat → Nat → Option Nat) (ra : Option (Lean.RArray pz_tk) × Option pz_an) : pz_O → pz_H → Prop := fun o h => ∃ mi' ml' mr' X' S' x', (o = .inl (some (.inr (.inr x'))) ∧ h = pz_hp n0 mi' ml' mr' c s) ∧ pz_iv mi' mr' X' S' ∧ pz_lf P mi' ml' mr' ra.1 x' X' ∧ pz_as P mi' ml' ra.2 ∧ pz_tf pz_NDL mi ml mr mi' ml' mr'
theorem pz_uQ_up {ra : Option (Lean.RArray pz_tk) × Option pz_an} (h : pz_tf pz_NDL mi ml mr mi' ml' mr') {o : pz_O} {hp : pz_H} : pz_uQ n0 c s P mi' ml' mr' ra o hp → pz_uQ n0 c s P mi ml mr ra o hp := by
  rintro ⟨m, l, r, X, S, x, g1, g2, g3, g4, g5⟩
  exact ⟨m, l, r, X, S, x, g1, g2, g3, g4, pz_tf_trans h g5⟩
end pzA
