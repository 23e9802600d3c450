/-! Trees that may stand; a step keeps them so. -/
def pz_vT (mi : Nat → Nat → Int) (F N : Nat) (t : Lean.RArray pz_tk) : Prop := match t with
  | .leaf x => pz_vt1 mi F N x
  | .branch 0 a b => pz_vT mi F N a ∧ pz_vT mi F N b
  | .branch (k + 1) a _ => ((k / 64 : Nat) : Int) < mi 6 6 ∧ k % 64 < F ∧ pz_vT mi F N a
def pz_vO (mi : Nat → Nat → Int) (F N : Nat) (t : Option (Lean.RArray pz_tk)) : Prop := match t with
  | none => True
  | some t => pz_vT mi F N t
def pz_va (N : Nat) (ans : Option pz_an) : Prop := match ans with
  | none => True
  | some an => pz_gd an.1 ∧ pz_bz N an.2.1 an.2.2
def pz_vL (mi : Nat → Nat → Int) (F N : Nat) (l : List (Nat × Lean.RArray pz_tk)) : Prop := match l with
  | [] => True
  | e :: l => ((e.1 = 0 ∧ pz_vT mi F N e.2) ∨ ∃ k, e.1 = k + 1 ∧ ((k / 64 : Nat) : Int) < mi 6 6 ∧ k % 64 < F) ∧ pz_vL mi F N l
theorem pz_btA : (List.range 64).all (fun a => (List.range 64).all (fun j => pz_bt (Int64.ofNat 1 <<< Int64.ofNat a) j == decide (j = a))) = true := by decide +kernel
theorem pz_bt_bx {i j : Nat} (hj : j < 64) : pz_bt (pz_bx i) j = decide (j = i % 64) := by
  have h1 := List.all_eq_true.mp pz_btA (i % 64) (List.mem_range.mpr (Nat.mod_lt _ (by decide)))
  have h2 := List.all_eq_true.mp h1 j (List.mem_range.mpr hj)
  exact beq_iff_eq.mp h2
theorem pz_bt_and (x y : Int64) (j : Nat) : pz_bt (x &&& y) j = (pz_bt x j && pz_bt y j) := BitVec.getLsbD_and
theorem pz_bt_or (x y : Int64) (j : Nat) : pz_bt (x ||| y) j = (pz_bt x j || pz_bt y j) := BitVec.getLsbD_or
theorem pz_bz_dr {N i : Nat} {lo hi : Int64} (h : pz_bz N lo hi) : pz_bz N (pz_dr lo hi i).1 (pz_dr lo hi i).2 := by
  intro j h1 h2
  have hj := h j h1 h2
  by_cases hi64 : i < 64
  · rw [pz_dr_lo hi64]
    by_cases hj64 : j < 64
    · rw [pz_hs_lo hj64] at hj ⊢
      rw [pz_bt_and, hj]
      rfl
    · rw [pz_hs_hi (by omega)] at hj ⊢
      exact hj
  · rw [pz_dr_hi (by omega)]
    by_cases hj64 : j < 64
    · rw [pz_hs_lo hj64] at hj ⊢
      exact hj
    · rw [pz_hs_hi (by omega)] at hj ⊢
      rw [pz_bt_and, hj]
      rfl
theorem pz_bz_ad {N : Nat} {lo hi : Int64} (hN : N < 128) (h : pz_bz N lo hi) : pz_bz (N + 1) (pz_ad lo hi N).1 (pz_ad lo hi N).2 := by
  intro j h1 h2
  have hj := h j (by omega) h2
  by_cases hi64 : N < 64
  · rw [pz_ad_lo hi64]
    by_cases hj64 : j < 64
    · rw [pz_hs_lo hj64] at hj ⊢
      rw [pz_bt_or, hj, pz_bt_bx hj64, decide_eq_false (by omega)]
      rfl
    · rw [pz_hs_hi (by omega)] at hj ⊢
      exact hj
  · rw [pz_ad_hi (by omega)]
    by_cases hj64 : j < 64
    · omega
    · rw [pz_hs_hi (by omega)] at hj ⊢
      rw [pz_bt_or, hj, pz_bt_bx (by omega), decide_eq_false (by omega)]
      rfl
section pzP
variable {mi : Nat → Nat → Int} {F N F' N' nb : Nat} {k : Nat → Nat × Nat} {σ : Nat → Option Nat}
theorem pz_kc_bz : ∀ (m i nb r : Nat) (lo hi : Int64) {q : Bool} {lo' hi' : Int64} {nb' r' : Nat}, pz_bz N lo hi → pz_kc mi σ k m i lo hi nb r = some (q, lo', hi', nb', r') → pz_bz N lo' hi' := by
  intro m
  induction m with
  | zero =>
    intro i nb r lo hi q lo' hi' nb' r' hb h
    cases h
    exact hb
  | succ m ih =>
    intro i nb r lo hi q lo' hi' nb' r' hb h
    have e : pz_kc mi σ k (m + 1) i lo hi nb r = if pz_hs lo hi i = true then match pz_ma mi 501 σ nb [] r [k i] with
      | none => none
      | some (q, _, nb', _, r') => if q = true then (if nb' = nb then some (false, lo, hi, nb', r') else pz_kc mi σ k m (i + 1) lo hi nb' r') else pz_kc mi σ k m (i + 1) (pz_dr lo hi i).1 (pz_dr lo hi i).2 nb' r'
      else pz_kc mi σ k m (i + 1) lo hi nb r := rfl
    rw [e] at h
    split at h
    · cases ex : pz_ma mi 501 σ nb [] r [k i] with
      | none =>
        rw [ex] at h
        cases h
      | some z =>
        obtain ⟨q1, σ1, nb1, tr1, r1⟩ := z
        rw [ex] at h
        dsimp only at h
        split at h
        · split at h
          · cases h
            exact hb
          · exact ih _ _ _ _ _ hb h
        · exact ih _ _ _ _ _ (pz_bz_dr hb) h
    · exact ih _ _ _ _ _ hb h
theorem pz_bz_mono {lo hi : Int64} (h : N ≤ N') (hb : pz_bz N lo hi) : pz_bz N' lo hi := fun j h1 h2 => hb j (by omega) h2
theorem pz_vt1_mono {x : pz_tk} (hF : F ≤ F') (hN : N ≤ N') (h : pz_vt1 mi F N x) : pz_vt1 mi F' N' x := ⟨h.1, by have := h.2.1; omega, h.2.2.1, pz_bz_mono hN h.2.2.2⟩
theorem pz_vT_mono (hF : F ≤ F') (hN : N ≤ N') : ∀ {t : Lean.RArray pz_tk}, pz_vT mi F N t → pz_vT mi F' N' t := by
  intro t
  induction t with
  | leaf x => exact fun h => pz_vt1_mono hF hN h
  | branch k a b iha ihb =>
    intro h
    cases k with
    | zero => exact ⟨iha h.1, ihb h.2⟩
    | succ k => exact ⟨h.1, by have := h.2.1; omega, iha h.2.2⟩
theorem pz_vL_mono (hF : F ≤ F') (hN : N ≤ N') : ∀ {l : List (Nat × Lean.RArray pz_tk)}, pz_vL mi F N l → pz_vL mi F' N' l := by
  intro l
  induction l with
  | nil => exact fun _ => trivial
  | cons e l ih =>
    intro h
    refine ⟨?_, ih h.2⟩
    rcases h.1 with h1 | ⟨k, h1, h2, h3⟩
    · exact .inl ⟨h1.1, pz_vT_mono hF hN h1.2⟩
    · exact .inr ⟨k, h1, h2, by omega⟩
theorem pz_vT_cx : ∀ {t : Lean.RArray pz_tk} {acc : List (Nat × Lean.RArray pz_tk)}, pz_vT mi F N t → pz_vL mi F N acc → pz_vL mi F N (pz_cx t acc).1 ∧ pz_vt1 mi F N (pz_cx t acc).2 := by
  intro t
  induction t with
  | leaf x => exact fun h1 h2 => ⟨h2, h1⟩
  | branch k a b iha ihb =>
    intro acc h1 h2
    cases k with
    | zero => exact iha h1.1 ⟨.inl ⟨rfl, h1.2⟩, h2⟩
    | succ k => exact iha h1.2.2 ⟨.inr ⟨k, rfl, h1.1, h1.2.1⟩, h2⟩
theorem pz_vT_f1 {k : Nat} {b : Lean.RArray pz_tk} {ra : Option (Lean.RArray pz_tk) × Option pz_an} (he : (k = 0 ∧ pz_vT mi F N b) ∨ ∃ k', k = k' + 1 ∧ ((k' / 64 : Nat) : Int) < mi 6 6 ∧ k' % 64 < F) (h1 : pz_vO mi F N ra.1) (h2 : pz_va N ra.2) : pz_vO mi F N (pz_fst1 k b ra).1 ∧ pz_va N (pz_fst1 k b ra).2 := by
  obtain ⟨r, a⟩ := ra
  rcases he with ⟨rfl, hb⟩ | ⟨k', rfl, h3, h4⟩
  · cases r with
    | none => exact ⟨hb, h2⟩
    | some t => exact ⟨⟨hb, h1⟩, h2⟩
  · cases a with
    | none =>
      cases r with
      | none => exact ⟨trivial, trivial⟩
      | some t => exact ⟨⟨h3, h4, h1⟩, trivial⟩
    | some an =>
      cases r with
      | none => exact ⟨⟨h3, h4, h2.1, h2.2⟩, trivial⟩
      | some t => exact ⟨⟨⟨h3, h4, h2.1, h2.2⟩, h3, h4, h1⟩, trivial⟩
theorem pz_vT_rl : ∀ {l : List (Nat × Lean.RArray pz_tk)} {ra : Option (Lean.RArray pz_tk) × Option pz_an}, pz_vL mi F N l → pz_vO mi F N ra.1 → pz_va N ra.2 → pz_vO mi F N (pz_rl l ra).1 ∧ pz_va N (pz_rl l ra).2 := by
  intro l
  induction l with
  | nil => exact fun _ h1 h2 => ⟨h1, h2⟩
  | cons e l ih =>
    intro ra hl h1 h2
    obtain ⟨g1, g2⟩ := pz_vT_f1 hl.1 h1 h2
    exact ih hl.2 g1 g2
/-- a walk from what there is stays in what there is -/
theorem pz_W_lt {M : Nat} (h : ∀ u a, σ u = some a → a < 1000 → a < M) : ∀ (n : Nat) (b : Nat), (b < 1000 → b < M) → (pz_wk σ n b < 1000 → pz_wk σ n b < M) := by
  intro n
  induction n with
  | zero => exact fun b hb => hb
  | succ n ih =>
    intro b hb
    rcases pz_rs_or σ b with hr | ⟨h1, c, h2⟩
    · rw [pz_wk_rs hr]
      exact hb
    · rw [pz_wk_to h1 h2]
      exact ih c (h b c h2)
/-- what a task's step makes may stand -/
theorem pz_ts_v (ht : pz_tm mi) (hgl : pz_gl mi) (hre : pz_re4 mi) (hF40 : F ≤ 40) (hF1 : 1 ≤ F) (hN : N ≤ 120) {x : pz_tk} {b : Int} (hx : pz_vt1 mi F N x) (hS : pz_cS mi (F : Int) b x.2.2.1) {ra : Option (Lean.RArray pz_tk) × Option pz_an} {nb' : Nat} {k' : Nat → Nat × Nat} (h : pz_ts mi F nb N k x = some (F', ra, nb', N', k')) (hg : ∀ an, ra.2 = some an → pz_gd an.1) : F ≤ F' ∧ F' ≤ 40 ∧ N ≤ N' ∧ pz_vO mi F' N' ra.1 ∧ pz_va N' ra.2 := by
  obtain ⟨x1, x2, x3, x4⟩ := hx
  obtain ⟨g40, gk, gl⟩ := pz_gl_f hgl x1
  unfold pz_ts at h
  split at h
  · -- SAME
    unfold pz_sm at h
    cases ex : pz_ma mi 501 x.2.2.1 nb [] 500 [(pz_cs mi ((x.2.1 : Int) * 41 + mi 8 x.1), pz_cs mi ((x.2.1 : Int) * 41 + mi 9 x.1))] with
    | none =>
      rw [ex] at h
      cases h
    | some z =>
      obtain ⟨q1, σ1, nb1, tr1, r1⟩ := z
      rw [ex] at h
      dsimp only at h
      split at h
      · cases ex2 : pz_kc mi σ1 k N 0 x.2.2.2.1 x.2.2.2.2 nb1 r1 with
        | none =>
          rw [ex2] at h
          cases h
        | some z2 =>
          obtain ⟨q2, lo2, hi2, nb2, r2⟩ := z2
          rw [ex2] at h
          cases h
          refine ⟨Nat.le_refl _, hF40, Nat.le_refl _, trivial, ?_⟩
          cases q2 with
          | false => trivial
          | true => exact ⟨hg _ rfl, pz_kc_bz _ _ _ _ _ _ x4 ex2⟩
      · cases h
        exact ⟨Nat.le_refl _, hF40, Nat.le_refl _, trivial, trivial⟩
  · split at h
    · -- DIFFER
      unfold pz_df at h
      cases ex : pz_ma mi 501 x.2.2.1 nb [] 500 [(pz_cs mi ((x.2.1 : Int) * 41 + mi 8 x.1), pz_cs mi ((x.2.1 : Int) * 41 + mi 9 x.1))] with
      | none =>
        rw [ex] at h
        cases h
      | some z =>
        obtain ⟨q1, σ1, nb1, tr1, r1⟩ := z
        rw [ex] at h
        dsimp only at h
        split at h
        · split at h
          · cases h
            exact ⟨Nat.le_refl _, hF40, Nat.le_refl _, trivial, trivial⟩
          · split at h
            · cases h
            · cases h
              exact ⟨Nat.le_refl _, hF40, Nat.le_succ _, trivial, x3, pz_bz_ad (by omega) x4⟩
        · cases h
          exact ⟨Nat.le_refl _, hF40, Nat.le_refl _, trivial, x3, x4⟩
    · split at h
      · -- BOTH
        rename_i h2
        cases h
        have hg2 : 0 ≤ mi 8 x.1 ∧ mi 8 x.1 < mi 6 6 ∧ 0 ≤ mi 9 x.1 ∧ mi 9 x.1 < mi 6 6 := by
          rcases gl with gl | gl | gl <;> omega
        refine ⟨Nat.le_refl _, hF40, Nat.le_refl _, ⟨?_, ?_, ?_, x2, x3, x4⟩, trivial⟩
        · show (((64 * (mi 9 x.1).toNat + x.2.1) / 64 : Nat) : Int) < mi 6 6
          omega
        · show (64 * (mi 9 x.1).toNat + x.2.1) % 64 < F
          omega
        · show (((mi 8 x.1).toNat : Nat) : Int) < mi 6 6
          omega
      · split at h
        · -- EITHER
          rename_i h2
          cases h
          have hg2 : 0 ≤ mi 8 x.1 ∧ mi 8 x.1 < mi 6 6 ∧ 0 ≤ mi 9 x.1 ∧ mi 9 x.1 < mi 6 6 := by
            rcases gl with gl | gl | gl <;> omega
          refine ⟨Nat.le_refl _, hF40, Nat.le_refl _, ⟨⟨?_, x2, x3, x4⟩, ?_, x2, x3, x4⟩, trivial⟩
          · show (((mi 8 x.1).toNat : Nat) : Int) < mi 6 6
            omega
          · show (((mi 9 x.1).toNat : Nat) : Int) < mi 6 6
            omega
        · split at h
          · cases h
            exact ⟨Nat.le_refl _, hF40, Nat.le_refl _, trivial, trivial⟩
          · split at h
            · cases h
            · -- CALL
              rename_i k0 k1 k2 k3 hneg hov
              cases h
              have hg2 : pz_isT mi (mi 8 x.1) ∧ pz_isT mi (mi 9 x.1) ∧ pz_isT mi (mi 10 x.1) ∧ 0 ≤ mi 11 x.1 ∧ mi 11 x.1 < 4 := by
                rcases gl with gl | gl | gl
                · omega
                · omega
                · exact ⟨gl.2.1, gl.2.2.1, gl.2.2.2.1, gl.2.2.2.2.1, gl.2.2.2.2.2.1⟩
              obtain ⟨r1, r2, r3⟩ := hre (mi 11 x.1).toNat (by omega)
              refine ⟨Nat.le_succ _, by omega, Nat.le_refl _, ⟨?_, ?_, ?_, x4⟩, trivial⟩
              · show (((mi 12 (mi 11 x.1).toNat).toNat : Nat) : Int) < mi 6 6
                omega
              · show F < F + 1
                omega
              · -- walks go on ending
                have hcl : ∀ t, pz_isT mi t → pz_cs mi ((x.2.1 : Int) * 41 + t) < 1000 → pz_cs mi ((x.2.1 : Int) * 41 + t) < 6 * F := by
                  intro t hit hlt
                  have hvs : pz_vs mi (F : Int) ((x.2.1 : Int) * 41 + t) := pz_vs_it ht (by omega) hit
                  rcases pz_vs_b ht (by omega) hvs with hb | hb
                  · omega
                  · omega
                have hvl : ∀ u a, x.2.2.1 u = some a → a < 1000 → a < 6 * F := by
                  intro u a hua hlt
                  obtain ⟨l, g1, g2, g3, g4⟩ := hS
                  rw [g4 u] at hua
                  cases e : pz_lk l u with
                  | none =>
                    rw [e] at hua
                    cases hua
                  | some y =>
                    rw [e] at hua
                    have hya : pz_cs mi y = a := by
                      injection hua
                    have hvs : pz_vs mi (F : Int) y := (g3 _ (pz_lk_mem e)).2
                    rcases pz_vs_b ht (by omega) hvs with hb | hb
                    · omega
                    · omega
                have hhi : ∀ u, 6 * F ≤ u → x.2.2.1 u = none := fun u hu => pz_cS_hi hS (by omega)
                have hlo : ∀ u, u < 1000 → x.2.2.1 u ≠ none → u < 246 := by
                  intro u hu hn
                  apply Classical.byContradiction
                  intro hc
                  exact hn (hhi u (by omega))
                -- one binding more, of a new variable to what there is
                have step : ∀ (τ : Nat → Option Nat) (v a : Nat), pz_gd τ → τ v = none → 6 * F ≤ v → v < 6 * F + 3 → (∀ u b, τ u = some b → b < 1000 → b < 6 * F) → (∀ u, u < 1000 → τ u ≠ none → u < 246) → (a < 1000 → a < 6 * F) → pz_gd (pz_ub τ v a) ∧ (∀ u b, pz_ub τ v a u = some b → b < 1000 → b < 6 * F) ∧ ∀ u, u < 1000 → pz_ub τ v a u ≠ none → u < 246 := by
                  intro τ v a h1 h2 h3 h4 h5 h6 h7
                  refine ⟨pz_gd_ub h1 h6 h2 (by omega) ?_, ?_, ?_⟩
                  · intro e
                    have := pz_W_lt h5 246 a h7
                    unfold pz_W at e
                    omega
                  · intro u b hub
                    by_cases e : u = v
                    · subst e
                      rw [pz_ub_eq] at hub
                      cases hub
                      exact h7
                    · rw [pz_ub_ne e] at hub
                      exact h5 u b hub
                  · intro u hu hn
                    by_cases e : u = v
                    · omega
                    · rw [pz_ub_ne e] at hn
                      exact h6 u hu hn
                obtain ⟨s1, s2, s3⟩ := step x.2.2.1 (6 * F) _ x3 (hhi _ (Nat.le_refl _)) (by omega) (by omega) hvl hlo (hcl _ hg2.1)
                obtain ⟨t1, t2, t3⟩ := step _ (6 * F + 1) _ s1 (by rw [pz_ub_ne (by omega)]; exact hhi _ (by omega)) (by omega) (by omega) s2 s3 (hcl _ hg2.2.1)
                exact (step _ (6 * F + 2) _ t1 (by rw [pz_ub_ne (by omega), pz_ub_ne (by omega)]; exact hhi _ (by omega)) (by omega) (by omega) t2 t3 (hcl _ hg2.2.2.1)).1
/-- a step of the whole tree -/
def pz_stp (mi : Nat → Nat → Int) (F nb N : Nat) (k : Nat → Nat × Nat) (t : Lean.RArray pz_tk) : Option (Nat × (Option (Lean.RArray pz_tk) × Option pz_an) × Nat × Nat × (Nat → Nat × Nat)) := match pz_ts mi F nb N k (pz_cx t []).2 with
  | none => none
  | some (F', ra, nb', N', k') => some (F', pz_rl (pz_cx t []).1 ra, nb', N', k')
end pzP
