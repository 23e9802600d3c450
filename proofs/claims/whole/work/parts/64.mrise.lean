/-! The reference's way up. -/
def pz_mx (P : Int → Int → (Nat → Int) → Int64 → Int64 → pz_tk → Prop) (mi : Nat → Nat → Int) (ml : Nat → Nat → Int64) (L : List (Nat × Nat × Lean.RArray pz_tk × List Nat)) (V : List Nat) : Prop := match L with
  | [] => V = []
  | e :: L => ∃ V', V = e.1 :: (e.2.2.2 ++ V') ∧ ((e.2.1 = 0 ∧ mi 175 e.1 = 1 ∧ ∃ r : Nat, mi 177 e.1 = (r : Int) ∧ pz_mT P mi ml e.2.2.1 r e.2.2.2) ∨ (∃ k, e.2.1 = k + 1 ∧ mi 175 e.1 = 2 ∧ mi 178 e.1 = (k / 64 : Nat) ∧ mi 179 e.1 = (k % 64 : Nat) ∧ e.2.2.2 = [])) ∧ pz_mx P mi ml L V'
def pz_mw (mi : Nat → Nat → Int) (L : List (Nat × Nat × Lean.RArray pz_tk × List Nat)) : Prop := match L with
  | [] => True
  | e :: r => mi 183 r.length = (e.1 : Int) ∧ pz_mw mi r
def pz_mlf (P : Int → Int → (Nat → Int) → Int64 → Int64 → pz_tk → Prop) (mi : Nat → Nat → Int) (ml : Nat → Nat → Int64) (t : Option (Lean.RArray pz_tk)) (x : Int) (X : List Nat) : Prop := match t with
  | none => x = -1 ∧ X = []
  | some t => ∃ n : Nat, x = (n : Int) ∧ pz_mT P mi ml t n X
def pz_am (P : Int → Int → (Nat → Int) → Int64 → Int64 → pz_tk → Prop) (mi : Nat → Nat → Int) (ml : Nat → Nat → Int64) (ans : Option pz_an) : Prop := match ans with
  | none => mi 165 32 = -1
  | some an => ∃ n : Nat, mi 165 32 = (n : Int) ∧ n < 63 ∧ ∀ g f : Nat, P g f (pz_rwf mi n) (ml 180 n) (ml 181 n) (g, f, an)
section pzH
variable {d n0 : Nat} {mi mi' : Nat → Nat → Int} {ml ml' : Nat → Nat → Int64} {mr : Nat → Nat → Option Nat} {c s : Nat} {P : Int → Int → (Nat → Int) → Int64 → Int64 → pz_tk → Prop} {U A W : List Nat} {m : Nat}
theorem pz_mT_nf {t : Lean.RArray pz_tk} {n : Nat} {X : List Nat} (h : pz_nfr W mi ml mi' ml') (hX : ∀ v ∈ X, v ∉ W) (hc : pz_mT P mi ml t n X) : pz_mT P mi' ml' t n X := pz_mT_fr _ _ _ (fun v hv => h.1 v (hX v hv)) hc
theorem pz_mx_nf {L : List (Nat × Nat × Lean.RArray pz_tk × List Nat)} {V : List Nat} (h : pz_nfr W mi ml mi' ml') (hX : ∀ v ∈ V, v ∉ W) (hc : pz_mx P mi ml L V) : pz_mx P mi' ml' L V := by
  induction L generalizing V with
  | nil => exact hc
  | cons e L ih =>
    obtain ⟨V', h1, h3, h4⟩ := hc
    obtain ⟨g1, g2, g3, g4, g5, g6, g7, g8⟩ := h.1 e.1 (hX e.1 (by rw [h1]; exact List.mem_cons_self))
    refine ⟨V', h1, ?_, ih (fun q hq => hX q (by rw [h1]; exact List.mem_cons_of_mem _ (List.mem_append_right _ hq))) h4⟩
    rcases h3 with ⟨u1, u2, r, u3, u4⟩ | ⟨k, u1, u2, u3, u4, u5⟩
    · exact .inl ⟨u1, by rw [g1]; exact u2, r, by rw [g3]; exact u3, pz_mT_nf h (fun q hq => hX q (by rw [h1]; exact List.mem_cons_of_mem _ (List.mem_append_left _ hq))) u4⟩
    · exact .inr ⟨k, u1, by rw [g1]; exact u2, by rw [g4]; exact u3, by rw [g5]; exact u4, u5⟩
theorem pz_mw_fr {L : List (Nat × Nat × Lean.RArray pz_tk × List Nat)} (h : ∀ j, j < L.length → mi' 183 j = mi 183 j) (hp : pz_mw mi L) : pz_mw mi' L := by
  induction L with
  | nil => trivial
  | cons e L ih =>
    unfold pz_mw at hp ⊢
    rw [h L.length (by rw [List.length_cons]; omega)]
    exact ⟨hp.1, ih (fun j hj => h j (by rw [List.length_cons]; omega)) hp.2⟩
theorem pz_am_r {ans : Option pz_an} (h32 : mi' 165 32 = mi 165 32) (hr : mi' 182 = mi 182) (hl : ml' = ml) (ha : pz_am P mi ml ans) : pz_am P mi' ml' ans := by
  unfold pz_am at ha ⊢
  rw [h32, hl]
  cases ans with
  | none => exact ha
  | some an =>
    obtain ⟨n, g1, g2, g3⟩ := ha
    exact ⟨n, g1, g2, fun g f => by rw [pz_rwf_eq hr]; exact g3 g f⟩
/-- how rise ends -/
def pz_rQ (n0 : Nat) (mr : Nat → Nat → Option Nat) (c s : Nat) (P : Int → Int → (Nat → Int) → Int64 → Int64 → pz_tk → Prop) (lim : Nat) (V : List Nat) (mi : Nat → Nat → Int) (ml : Nat → Nat → Int64) (ra : Option (Lean.RArray pz_tk) × Option pz_an) : pz_O → pz_H → Prop := fun o h => ∃ mi' ml' X A m x W, (o = .inl (some (.inl x)) ∧ h = pz_hp n0 mi' ml' mr c s) ∧ pz_mv mi' (X ++ V) A m ∧ pz_mlf P mi' ml' ra.1 x X ∧ pz_am P mi' ml' ra.2 ∧ pz_nfr W mi ml mi' ml' ∧ (∀ v ∈ V, v ∉ W) ∧ (ra.2 ≠ none → (X ++ V).length ≤ lim)
set_option maxHeartbeats 4000000 in
theorem pz_riseC {p k : Nat} {b : Lean.RArray pz_tk} {B V X : List Nat} {left : Option (Lean.RArray pz_tk)} {x : Int} {ans : Option pz_an} (hk : (k = 0 ∧ mi 175 p = 1 ∧ ∃ r : Nat, mi 177 p = (r : Int) ∧ pz_mT P mi ml b r B) ∨ (∃ k', k = k' + 1 ∧ mi 175 p = 2 ∧ mi 178 p = (k' / 64 : Nat) ∧ mi 179 p = (k' % 64 : Nat) ∧ B = [])) (hv : pz_mv mi (X ++ p :: (B ++ V)) A m) (hlf : pz_mlf P mi ml left x X) (ha : pz_am P mi ml ans) (hU : ans ≠ none → (X ++ p :: (B ++ V)).length ≤ 60) :
    pz_Rn (d + 2) 135 (0, [], [(0, .inr (.inr (some 165))), (1, .inl (p : Int)), (2, .inl x)], pz_hp n0 mi ml mr c s, true) (pz_rQ n0 mr c s P (X ++ p :: (B ++ V)).length V mi ml (pz_fst1 k b (left, ans))) := by
  have nd := pz_mv_nd hv
  have hp62 : p < 62 := by
    have := nd.2.1 p (List.mem_append_right _ List.mem_cons_self)
    have := hv.1
    omega
  have ep : ((p : Int)).toNat = p := by omega
  have cnt : ∀ v, (X.count v + ((if p == v then 1 else 0) + (B.count v + V.count v)) + A.count v) ≤ 1 := by
    intro v
    have c1 := List.nodup_iff_count.mp nd.1 v
    simp only [List.count_append, List.count_cons] at c1
    omega
  have dis : (∀ q ∈ X, q ≠ p) ∧ (∀ q ∈ B, q ≠ p) ∧ (∀ q ∈ V, q ≠ p) ∧ (∀ q ∈ A, q ≠ p) := by
    have c1 := cnt p
    simp only [beq_self_eq_true, if_true] at c1
    refine ⟨fun q hq e => ?_, fun q hq e => ?_, fun q hq e => ?_, fun q hq e => ?_⟩ <;> subst e <;> have := List.count_pos_iff.mpr hq <;> omega
  have n1 : ∀ {Z : List Nat}, (∀ q ∈ Z, q ≠ p) → ∀ q ∈ Z, q ∉ [p] := fun h q hq hn => h q hq (List.mem_singleton.mp hn)
  have wp : p ∈ [p] := List.mem_cons_self
  have G : pz_nfr [p] mi ml (pz_up (pz_up mi 176 p (mi 165 12)) 165 12 (p : Int)) ml := pz_nf_free wp
  have GA : pz_am P (pz_up (pz_up mi 176 p (mi 165 12)) 165 12 (p : Int)) ml ans := pz_am_r (by rw [pz_up_ot (by decide), pz_upq (by decide)]) (by rw [pz_upq (by decide), pz_upq (by decide)]) rfl ha
  rcases hk with ⟨k0, m1, r, hr, hcb⟩ | ⟨k', k0, m2, mg, mf, hB⟩
  · subst k0
    refine pz_g135_0 ⟨by omega, fun h => absurd (by rw [ep]; exact m1) h, fun _ => ⟨by omega, fun x9 e9 => ?_⟩⟩
    rw [ep, hr] at e9
    subst e9
    rw [ep]
    cases left with
    | none =>
      obtain ⟨hx, hX⟩ := hlf
      subst hx hX
      have hf : pz_fst1 0 b (none, ans) = (some b, ans) := rfl
      rw [hf]
      refine ⟨fun h => absurd rfl h, fun _ => ?_⟩
      refine pz_Rn_c (d' := 0) (by omega) (pz_freeC (by omega)) ?_
      refine pz_g135_27 ?_
      have v1 := (pz_mv_give (U' := B ++ V) hv (List.Perm.refl _)).2
      exact ⟨_, ml, B, p :: A, m, (r : Int), [p], ⟨rfl, rfl⟩, v1, ⟨r, rfl, pz_mT_nf G (n1 dis.2.1) hcb⟩, GA, G, n1 dis.2.2.1, fun _ => by simp only [List.length_append, List.length_cons]; omega⟩
    | some t' =>
      obtain ⟨x0, hx, hct⟩ := hlf
      subst hx
      have hf : pz_fst1 0 b (some t', ans) = (some (.branch 0 b t'), ans) := rfl
      rw [hf]
      refine ⟨fun _ => ⟨by omega, by omega, ?_⟩, fun h => absurd h (by omega)⟩
      have T : pz_nfr [p] mi ml (pz_up (pz_up mi 176 p (r : Int)) 177 p (x0 : Int)) ml := pz_nf_trans (pz_nf_up (by decide) wp) (pz_nf_up (by decide) wp)
      have v1 : pz_mv (pz_up (pz_up mi 176 p (r : Int)) 177 p (x0 : Int)) ((p :: (B ++ X)) ++ V) A m := by
        refine pz_mv_perm (pz_mv_fr hv (by rw [pz_upq (by decide), pz_upq (by decide)]) (fun v hvn _ => ?_)) ?_
        · rw [pz_upq (by decide), pz_up_ot (fun e => hvn (by rw [e]; exact List.mem_append_right _ List.mem_cons_self))]
        · simp only [List.perm_iff_count, List.count_append, List.count_cons]
          intro z
          omega
      refine ⟨_, ml, p :: (B ++ X), A, m, (p : Int), [p], ⟨rfl, rfl⟩, v1, ⟨p, rfl, r, x0, B, X, rfl, ?_, ?_, pz_up_at, pz_mT_nf T (n1 dis.2.1) hcb, pz_mT_nf T (n1 dis.1) hct⟩, pz_am_r (by rw [pz_upq (by decide), pz_upq (by decide)]) (by rw [pz_upq (by decide), pz_upq (by decide)]) rfl ha, T, n1 dis.2.2.1, fun _ => by simp only [List.length_append, List.length_cons]; omega⟩
      · rw [pz_upq (by decide), pz_upq (by decide)]
        exact m1
      · rw [pz_upq (by decide), pz_up_at]
  · subst k0 hB
    refine pz_g135_0 ⟨by omega, fun _ => ⟨fun h32 => ?_, fun h32 => ⟨by omega, by omega, ?_⟩⟩, fun h => absurd h (by rw [ep, m2]; decide)⟩
    · cases ans with
      | some an =>
        obtain ⟨n, g1, -⟩ := ha
        exact absurd h32 (by omega)
      | none =>
        rw [ep]
        cases left with
        | none =>
          obtain ⟨hx, hX⟩ := hlf
          subst hx hX
          have hf : pz_fst1 (k' + 1) b (none, none) = (none, none) := rfl
          rw [hf]
          refine ⟨fun h => absurd rfl h, fun _ => ?_⟩
          refine pz_Rn_c (d' := 0) (by omega) (pz_freeC (by omega)) ?_
          refine pz_g135_91 ?_
          have v1 := (pz_mv_give (U' := [] ++ V) hv (List.Perm.refl _)).2
          exact ⟨_, ml, [], p :: A, m, -1, [p], ⟨rfl, rfl⟩, v1, ⟨rfl, rfl⟩, GA, G, n1 dis.2.2.1, fun h => absurd rfl h⟩
        | some t' =>
          obtain ⟨x0, hx, hct⟩ := hlf
          subst hx
          have hf : pz_fst1 (k' + 1) b (some t', none) = (some (.branch (k' + 1) t' b), none) := rfl
          rw [hf]
          refine ⟨fun _ => ⟨by omega, ?_⟩, fun h => absurd h (by omega)⟩
          have T : pz_nfr [p] mi ml (pz_up mi 176 p (x0 : Int)) ml := pz_nf_up (by decide) wp
          have v1 : pz_mv (pz_up mi 176 p (x0 : Int)) ((p :: X) ++ V) A m := by
            refine pz_mv_perm (pz_mv_fr hv (by rw [pz_upq (by decide)]) (fun v hvn _ => ?_)) ?_
            · rw [pz_up_ot (fun e => hvn (by rw [e]; exact List.mem_append_right _ List.mem_cons_self))]
            · simp only [List.perm_iff_count, List.count_append, List.count_cons, List.count_nil]
              intro z
              omega
          refine ⟨_, ml, p :: X, A, m, (p : Int), [p], ⟨rfl, rfl⟩, v1, ⟨p, rfl, x0, X, rfl, ?_, ?_, ?_, pz_up_at, pz_mT_nf T (n1 dis.1) hct⟩, pz_am_r (by rw [pz_upq (by decide)]) (pz_upq (by decide)) rfl ha, T, n1 dis.2.2.1, fun h => absurd rfl h⟩
          · rw [pz_upq (by decide)]
            exact m2
          · rw [pz_upq (by decide)]
            exact mg
          · rw [pz_upq (by decide)]
            exact mf
    · cases ans with
      | none => exact absurd ha h32
      | some an =>
        obtain ⟨n, g1, g2, g3⟩ := ha
        have hU1 := hU (fun h => nomatch h)
        rw [ep, mg, mf, g1]
        obtain ⟨q, hq, hqU, hT⟩ := pz_taskM (d := d) (n0 := n0) (mr := mr) (c := c) (s := s) (ml := ml) (g := ((k' / 64 : Nat) : Int)) (f := ((k' % 64 : Nat) : Int)) hv (by omega) g2
        refine pz_Rn_e (Nat.le_refl _) hT ?_
        rintro _ _ ⟨ma, la, A1, mm1, ⟨rfl, rfl⟩, va, nfa, a32, a0, a8, a9, ar, al, ah⟩
        have hqp : q ≠ p := fun e => hqU (by rw [e]; exact List.mem_append_right _ List.mem_cons_self)
        have hqX : ∀ v ∈ X, v ≠ q := fun v hvv e => hqU (by rw [← e]; exact List.mem_append_left _ hvv)
        have hqV : ∀ v ∈ V, v ≠ q := fun v hvv e => hqU (by rw [← e]; exact List.mem_append_right _ (List.mem_cons_of_mem _ (List.mem_append_right _ hvv)))
        obtain ⟨y1, y2, y3, y4, y5, y6, y7, y8⟩ := nfa.1 p (fun e => hqp (List.mem_singleton.mp e).symm)
        have lfq : ∀ (mm : Nat → Nat → Int) (ll : Nat → Nat → Int64), mm 175 q = ma 175 q → mm 178 q = ma 178 q → mm 179 q = ma 179 q → pz_rwf mm q = pz_rwf ma q → ll = la → pz_mT P mm ll (.leaf (k' / 64, k' % 64, an)) q [q] := by
          intro mm ll z1 z2 z3 z4 z5
          refine ⟨rfl, by rw [z1]; exact a0, ?_⟩
          rw [z2, z3, z4, z5, a8, a9, ar, al, ah]
          exact g3 _ _
        have W2 : ∀ v ∈ V, v ∉ [p, q] := by
          intro v hvv hn
          rcases List.mem_cons.mp hn with e | hn
          · exact dis.2.2.1 v hvv e
          · exact hqV v hvv (List.mem_singleton.mp hn)
        have NA : pz_nfr [p, q] mi ml ma la := pz_nf_mono (fun v hvv => by rw [List.mem_singleton.mp hvv]; simp) nfa
        have w1 : p ∈ [p, q] := by simp
        cases left with
        | none =>
          obtain ⟨hx, hX⟩ := hlf
          subst hx hX
          have hf : pz_fst1 (k' + 1) b (none, some an) = (some (.leaf (k' / 64, k' % 64, an)), none) := rfl
          rw [hf]
          refine pz_g135_75 ⟨fun h => absurd rfl h, fun _ => ?_⟩
          have vb : pz_mv (pz_up ma 165 32 (-1)) (q :: ([] ++ p :: ([] ++ V))) A1 mm1 := pz_mv_fr va (pz_up_ot (by decide)) (fun _ _ _ => by rw [pz_upq (by decide)])
          refine pz_Rn_c (d' := 0) (by omega) (pz_freeC (by omega)) ?_
          refine pz_g135_91 ?_
          have vc := (pz_mv_give (n := p) (U' := [q] ++ V) vb (by
            simp only [List.perm_iff_count, List.count_append, List.count_cons, List.count_nil]
            intro z
            omega)).2
          refine ⟨_, la, [q], p :: A1, mm1, (q : Int), [p, q], ⟨rfl, rfl⟩, vc, ⟨q, rfl, lfq _ _ ?_ ?_ ?_ ?_ rfl⟩, ?_, pz_nf_trans (pz_nf_trans NA pz_nf_32) (pz_nf_free w1), W2, fun h => absurd rfl h⟩
          · rw [pz_upq (by decide), pz_upq (by decide), pz_upq (by decide)]
          · rw [pz_upq (by decide), pz_upq (by decide), pz_upq (by decide)]
          · rw [pz_upq (by decide), pz_upq (by decide), pz_upq (by decide)]
          · exact pz_rwf_eq (by rw [pz_upq (by decide), pz_upq (by decide), pz_upq (by decide)]) q
          · show _ = (-1 : Int)
            rw [pz_up_ot (by decide), pz_upq (by decide), pz_up_at]
        | some t' =>
          obtain ⟨x0, hx, hct⟩ := hlf
          subst hx
          have hf : pz_fst1 (k' + 1) b (some t', some an) = (some (.branch 0 (.leaf (k' / 64, k' % 64, an)) (.branch (k' + 1) t' b)), none) := rfl
          rw [hf]
          refine pz_g135_75 ⟨fun _ => ⟨by omega, fun _ => ?_, fun h => absurd h (by omega)⟩, fun h => absurd h (by omega)⟩
          rw [ep]
          have N1 : pz_nfr [p, q] mi ml (pz_up (pz_up ma 165 32 (-1)) 176 p (x0 : Int)) la := pz_nf_trans (pz_nf_trans NA pz_nf_32) (pz_nf_up (by decide) w1)
          have vb : pz_mv (pz_up (pz_up ma 165 32 (-1)) 176 p (x0 : Int)) (q :: (X ++ p :: ([] ++ V))) A1 mm1 := by
            refine pz_mv_fr va (by rw [pz_upq (by decide), pz_up_ot (by decide)]) (fun v hvn _ => ?_)
            rw [pz_up_ot (fun e => hvn (by rw [e]; exact List.mem_cons_of_mem _ (List.mem_append_right _ List.mem_cons_self))), pz_upq (by decide)]
          have b176 : pz_up (pz_up ma 165 32 (-1)) 176 p (x0 : Int) 176 p = (x0 : Int) := pz_up_at
          have b32 : pz_up (pz_up ma 165 32 (-1)) 176 p (x0 : Int) 165 32 = -1 := by rw [pz_upq (by decide), pz_up_at]
          have bo : ∀ z, z ≠ 165 → z ≠ 176 → pz_up (pz_up ma 165 32 (-1)) 176 p (x0 : Int) z = ma z := fun z z1 z2 => by rw [pz_upq z2, pz_upq z1]
          generalize pz_up (pz_up ma 165 32 (-1)) 176 p (x0 : Int) = mb at *
          obtain ⟨q2, A2, mm2, e12, hq2, hq2U, vc⟩ := pz_mv_take (kd := 1) vb (by rw [List.length_cons]; omega)
          refine pz_Rn_c (d' := 0) (by omega) (pz_createC e12 hq2) ?_
          have eq2 : ((q2 : Int)).toNat = q2 := by omega
          refine pz_g135_112 ⟨by omega, by omega, ?_⟩
          rw [eq2]
          have hq2q : q2 ≠ q := fun e => hq2U (by rw [e]; exact List.mem_cons_self)
          have hq2p : q2 ≠ p := fun e => hq2U (by rw [e]; exact List.mem_cons_of_mem _ (List.mem_append_right _ List.mem_cons_self))
          have hq2X : ∀ v ∈ X, v ≠ q2 := fun v hvv e => hq2U (by rw [← e]; exact List.mem_cons_of_mem _ (List.mem_append_left _ hvv))
          have hq2V : ∀ v ∈ V, v ≠ q2 := fun v hvv e => hq2U (by rw [← e]; exact List.mem_cons_of_mem _ (List.mem_append_right _ (List.mem_cons_of_mem _ (List.mem_append_right _ hvv))))
          have w2 : q2 ∈ [p, q, q2] := by simp
          have N2 : pz_nfr [p, q, q2] mb la (pz_up (pz_up mb 165 12 (mb 176 q2)) 175 q2 1) la := pz_nf_take w2
          have c175 : pz_up (pz_up mb 165 12 (mb 176 q2)) 175 q2 1 175 q2 = 1 := pz_up_at
          have co : ∀ z v, v ≠ q2 → z ≠ 165 → pz_up (pz_up mb 165 12 (mb 176 q2)) 175 q2 1 z v = mb z v := by
            intro z v z1 z2
            have e : pz_up (pz_up mb 165 12 (mb 176 q2)) 175 q2 1 z v = pz_up mb 165 12 (mb 176 q2) z v := by
              by_cases z3 : z = 175
              · subst z3
                exact pz_up_ot z1
              · rw [pz_upq z3]
            rw [e, pz_upq z2]
          have c182 : pz_up (pz_up mb 165 12 (mb 176 q2)) 175 q2 1 182 = mb 182 := by rw [pz_upq (by decide), pz_upq (by decide)]
          have c32 : pz_up (pz_up mb 165 12 (mb 176 q2)) 175 q2 1 165 32 = -1 := by rw [pz_upq (by decide), pz_up_ot (by decide)]; exact b32
          generalize pz_up (pz_up mb 165 12 (mb 176 q2)) 175 q2 1 = mc at *
          have N3 : pz_nfr [p, q, q2] mc la (pz_up (pz_up mc 176 q2 (q : Int)) 177 q2 (p : Int)) la := pz_nf_trans (pz_nf_up (by decide) w2) (pz_nf_up (by decide) w2)
          have N13 : pz_nfr [p, q, q2] mi ml (pz_up (pz_up mc 176 q2 (q : Int)) 177 q2 (p : Int)) la := pz_nf_trans (pz_nf_trans (pz_nf_mono (fun v hvv => by
            rcases List.mem_cons.mp hvv with rfl | hvv
            · simp
            · rw [List.mem_singleton.mp hvv]; simp) N1) N2) N3
          have dd : ∀ z v, v ≠ q2 → z ≠ 165 → pz_up (pz_up mc 176 q2 (q : Int)) 177 q2 (p : Int) z v = mb z v := by
            intro z v z1 z2
            have e : pz_up (pz_up mc 176 q2 (q : Int)) 177 q2 (p : Int) z v = mc z v := by
              unfold pz_up
              rw [if_neg (fun e => z1 e.2), if_neg (fun e => z1 e.2)]
            rw [e, co z v z1 z2]
          refine ⟨_, la, q2 :: ([q] ++ (p :: X)), A2, mm2, (q2 : Int), [p, q, q2], ⟨rfl, rfl⟩, ?_, ⟨q2, rfl, q, p, [q], p :: X, rfl, ?_, ?_, pz_up_at, lfq _ _ ?_ ?_ ?_ ?_ rfl, x0, X, rfl, ?_, ?_, ?_, ?_, ?_⟩, ?_, N13, ?_, fun h => absurd rfl h⟩
          · refine pz_mv_perm (pz_mv_fr vc (by rw [pz_upq (by decide), pz_upq (by decide)]) (fun v hvn _ => ?_)) ?_
            · rw [pz_upq (by decide), pz_up_ot (fun e => hvn (by rw [e]; exact List.mem_cons_self))]
            · simp only [List.perm_iff_count, List.count_append, List.count_cons, List.count_nil]
              intro z
              omega
          · rw [pz_upq (by decide), pz_upq (by decide)]
            exact c175
          · rw [pz_upq (by decide), pz_up_at]
          · rw [dd 175 q (fun e => hq2q e.symm) (by decide), bo 175 (by decide) (by decide)]
          · rw [dd 178 q (fun e => hq2q e.symm) (by decide), bo 178 (by decide) (by decide)]
          · rw [dd 179 q (fun e => hq2q e.symm) (by decide), bo 179 (by decide) (by decide)]
          · refine pz_rwf_eq ?_ q
            rw [pz_upq (by decide), pz_upq (by decide), c182, bo 182 (by decide) (by decide)]
          · rw [dd 175 p (fun e => hq2p e.symm) (by decide), bo 175 (by decide) (by decide), y1]
            exact m2
          · rw [dd 178 p (fun e => hq2p e.symm) (by decide), bo 178 (by decide) (by decide), y4]
            exact mg
          · rw [dd 179 p (fun e => hq2p e.symm) (by decide), bo 179 (by decide) (by decide), y5]
            exact mf
          · rw [dd 176 p (fun e => hq2p e.symm) (by decide)]
            exact b176
          · refine pz_mT_nf N13 (fun v hvv hn => ?_) hct
            rcases List.mem_cons.mp hn with e | hn
            · exact dis.1 v hvv e
            · rcases List.mem_cons.mp hn with e | hn
              · exact hqX v hvv e
              · exact hq2X v hvv (List.mem_singleton.mp hn)
          · show _ = (-1 : Int)
            rw [pz_upq (by decide), pz_upq (by decide)]
            exact c32
          · intro v hvv hn
            rcases List.mem_cons.mp hn with e | hn
            · exact dis.2.2.1 v hvv e
            · rcases List.mem_cons.mp hn with e | hn
              · exact hqV v hvv e
              · exact hq2V v hvv (List.mem_singleton.mp hn)
end pzH
