/-! Conditions as bits of two longs. -/
def pz_bt (x : Int64) (k : Nat) : Bool := x.toBitVec.getLsbD k
def pz_hs (lo hi : Int64) (i : Nat) : Bool := if i < 64 then pz_bt lo i else pz_bt hi (i - 64)
/-- no condition from N on -/
def pz_bz (N : Nat) (lo hi : Int64) : Prop := ∀ j, N ≤ j → j < 128 → pz_hs lo hi j = false
def pz_bx (i : Nat) : Int64 := Int64.ofNat 1 <<< Int64.ofNat (i % 64)
def pz_ad (lo hi : Int64) (i : Nat) : Int64 × Int64 := if i < 64 then (lo ||| pz_bx i, hi) else (lo, hi ||| pz_bx i)
def pz_dr (lo hi : Int64) (i : Nat) : Int64 × Int64 := if i < 64 then (lo &&& (pz_bx i ^^^ (-1 : Int64)), hi) else (lo, hi &&& (pz_bx i ^^^ (-1 : Int64)))
theorem pz_lc0 {x y : Int64} : pz_lc x y = 0 ↔ x = y := by
  unfold pz_lc
  constructor
  · intro h
    split at h
    · exact absurd h (by decide)
    · split at h
      · assumption
      · exact absurd h (by decide)
  · intro h
    subst h
    rw [if_neg (Int64.lt_irrefl), if_pos rfl]
theorem pz_sa1 : (List.range 128).all (fun a => decide ((Int32.ofInt (a : Int)).toInt64 &&& 63 = Int64.ofNat (a % 64))) = true := by decide +kernel
theorem pz_sa2 : (List.range 128).all (fun a => decide ((Int32.ofInt (a : Int)).toInt64.toUInt64 &&& Int64.toUInt64 63 = UInt64.ofNat (a % 64))) = true := by decide +kernel
theorem pz_sa3 : (List.range 64).all (fun a => decide (((UInt64.ofNat a) % 64).toBitVec.toNat = a ∧ ((Int64.ofNat a).toBitVec.smod 64#64).toNat = a)) = true := by decide +kernel
theorem pz_sh1 {a : Nat} (h : a < 128) : (Int32.ofInt (a : Int)).toInt64 &&& 63 = Int64.ofNat (a % 64) := of_decide_eq_true (List.all_eq_true.mp pz_sa1 a (List.mem_range.mpr h))
theorem pz_sh2 {a : Nat} (h : a < 128) : (Int32.ofInt (a : Int)).toInt64.toUInt64 &&& Int64.toUInt64 63 = UInt64.ofNat (a % 64) := of_decide_eq_true (List.all_eq_true.mp pz_sa2 a (List.mem_range.mpr h))
theorem pz_sh3 {a : Nat} (h : a < 64) : ((UInt64.ofNat a) % 64).toBitVec.toNat = a ∧ ((Int64.ofNat a).toBitVec.smod 64#64).toNat = a := of_decide_eq_true (List.all_eq_true.mp pz_sa3 a (List.mem_range.mpr h))
theorem pz_and1 (y : Int64) : y &&& Int64.ofNat 1 = if pz_bt y 0 = true then Int64.ofNat 1 else Int64.ofNat 0 := by
  apply Int64.toBitVec_inj.mp
  have e : (y &&& Int64.ofNat 1).toBitVec = y.toBitVec &&& 1#64 := rfl
  rw [e, BitVec.and_one_eq_setWidth_ofBool_getLsbD]
  unfold pz_bt
  cases y.toBitVec.getLsbD 0 <;> rfl
theorem pz_bt_u (x : Int64) {k : Nat} (h : k < 64) : pz_bt ((Int64.toUInt64 x >>> UInt64.ofNat k).toInt64) 0 = pz_bt x k := by
  have e : ((Int64.toUInt64 x >>> UInt64.ofNat k).toInt64).toBitVec = x.toBitVec >>> (((UInt64.ofNat k) % 64).toBitVec.toNat) := rfl
  unfold pz_bt
  rw [e, (pz_sh3 h).1, BitVec.getLsbD_ushiftRight, Nat.add_zero]
theorem pz_bt_s (x : Int64) {k : Nat} (h : k < 64) : pz_bt (x >>> Int64.ofNat k) 0 = pz_bt x k := by
  have e : (x >>> Int64.ofNat k).toBitVec = x.toBitVec.sshiftRight (((Int64.ofNat k).toBitVec.smod 64#64).toNat) := rfl
  unfold pz_bt
  rw [e, (pz_sh3 h).2, BitVec.getLsbD_sshiftRight, Nat.add_zero, if_pos h]
  rfl
theorem pz_cl0 (x : Int64) {k : Nat} (h : k < 64) : pz_lc ((Int64.toUInt64 x >>> UInt64.ofNat k).toInt64 &&& Int64.ofNat 1) (Int64.ofNat 0) = 0 ↔ pz_bt x k = false := by
  rw [pz_lc0, pz_and1, pz_bt_u x h]
  cases pz_bt x k
  · exact ⟨fun _ => rfl, fun _ => rfl⟩
  · exact ⟨fun h => absurd h (by decide), fun h => absurd h (by decide)⟩
theorem pz_ml1 (x : Int64) {k : Nat} (h : k < 64) : pz_lc ((x >>> Int64.ofNat k) &&& Int64.ofNat 1) (Int64.ofNat 1) = 0 ↔ pz_bt x k = true := by
  rw [pz_lc0, pz_and1, pz_bt_s x h]
  cases pz_bt x k
  · exact ⟨fun h => absurd h (by decide), fun h => absurd h (by decide)⟩
  · exact ⟨fun _ => rfl, fun _ => rfl⟩
theorem pz_hs_lo {lo hi : Int64} {i : Nat} (h : i < 64) : pz_hs lo hi i = pz_bt lo i := if_pos h
theorem pz_hs_hi {lo hi : Int64} {i : Nat} (h : 64 ≤ i) : pz_hs lo hi i = pz_bt hi (i - 64) := if_neg (by omega)
theorem pz_dr_lo {lo hi : Int64} {i : Nat} (h : i < 64) : pz_dr lo hi i = (lo &&& (pz_bx i ^^^ (-1 : Int64)), hi) := if_pos h
theorem pz_dr_hi {lo hi : Int64} {i : Nat} (h : 64 ≤ i) : pz_dr lo hi i = (lo, hi &&& (pz_bx i ^^^ (-1 : Int64))) := if_neg (by omega)
theorem pz_ad_lo {lo hi : Int64} {i : Nat} (h : i < 64) : pz_ad lo hi i = (lo ||| pz_bx i, hi) := if_pos h
theorem pz_ad_hi {lo hi : Int64} {i : Nat} (h : 64 ≤ i) : pz_ad lo hi i = (lo, hi ||| pz_bx i) := if_neg (by omega)
section pzm
variable {d n0 : Nat} {mi : Nat → Nat → Int} {ml : Nat → Nat → Int64} {mr : Nat → Nat → Option Nat} {c s : Nat}
/-- State.hasCondition -/
theorem pz_hasC {p : Nat} (hp : pz_sd p) {i : Nat} (hi : i < 128) : pz_Rn d 57 (0, [], [(0, .inr (.inr (some p))), (1, .inl (i : Int))], pz_hp n0 mi ml mr c s, true) (fun o h => o = .inl (some (.inl (if pz_hs (ml p 1) (ml p 2) i = true then 1 else 0))) ∧ h = pz_hp n0 mi ml mr c s) := by
  refine pz_g57_0 hp ⟨fun h => ?_, fun h => ?_⟩
  · have hk : i % 64 < 64 := Nat.mod_lt _ (by decide)
    have e : i - 64 = i % 64 := by omega
    rw [pz_sh2 hi, pz_hs_hi (by omega), e]
    refine ⟨fun g => ?_, fun g => ?_⟩
    · rw [(pz_cl0 _ hk).mp g]
      exact ⟨rfl, rfl⟩
    · cases eb : pz_bt (ml p 2) (i % 64)
      · exact absurd ((pz_cl0 _ hk).mpr eb) g
      · exact ⟨rfl, rfl⟩
  · have hk : i < 64 := by omega
    have e : i % 64 = i := by omega
    rw [pz_sh2 hi, pz_hs_lo hk, e]
    refine ⟨fun g => ?_, fun g => ?_⟩
    · rw [(pz_cl0 _ hk).mp g]
      exact ⟨rfl, rfl⟩
    · cases eb : pz_bt (ml p 1) i
      · exact absurd ((pz_cl0 _ hk).mpr eb) g
      · exact ⟨rfl, rfl⟩
/-- the reference's has -/
theorem pz_hasM {n : Nat} (hn : n < 64) {i : Nat} (hi : i < 128) : pz_Rn d 125 (0, [], [(0, .inr (.inr (some 165))), (1, .inl (n : Int)), (2, .inl (i : Int))], pz_hp n0 mi ml mr c s, true) (fun o h => o = .inl (some (.inl (if pz_hs (ml 180 n) (ml 181 n) i = true then 1 else 0))) ∧ h = pz_hp n0 mi ml mr c s) := by
  have en : ((n : Int)).toNat = n := by omega
  refine pz_g125_0 ⟨fun h => ⟨by omega, by omega, ?_⟩, fun h => ⟨by omega, ?_⟩⟩
  · have ei : (i : Int) - 64 = ((i - 64 : Nat) : Int) := by omega
    have hk : i - 64 < 64 := by omega
    have e : (i - 64) % 64 = i - 64 := by omega
    rw [en, ei, pz_sh1 (by omega), pz_hs_hi (by omega), e]
    refine ⟨fun g => ?_, fun g => ?_⟩
    · cases eb : pz_bt (ml 181 n) (i - 64)
      · exact ⟨rfl, rfl⟩
      · exact absurd ((pz_ml1 _ hk).mpr eb) g
    · rw [(pz_ml1 _ hk).mp g]
      exact ⟨rfl, rfl⟩
  · have hk : i < 64 := by omega
    have e : i % 64 = i := by omega
    rw [en, pz_sh1 hi, pz_hs_lo hk, e]
    refine ⟨fun g => ?_, fun g => ?_⟩
    · cases eb : pz_bt (ml 180 n) i
      · exact ⟨rfl, rfl⟩
      · exact absurd ((pz_ml1 _ hk).mpr eb) g
    · rw [(pz_ml1 _ hk).mp g]
      exact ⟨rfl, rfl⟩
/-- what a state's longs become -/
def pz_lg2 (ml : Nat → Nat → Int64) (p : Nat) (z : Int64 × Int64) : Nat → Nat → Int64 := pz_up (pz_up ml p 1 z.1) p 2 z.2
def pz_lm (ml : Nat → Nat → Int64) (n : Nat) (z : Int64 × Int64) : Nat → Nat → Int64 := pz_up (pz_up ml 180 n z.1) 181 n z.2
theorem pz_up_same {α : Type} (f : Nat → Nat → α) (p k : Nat) : pz_up f p k (f p k) = f := by
  funext q j
  unfold pz_up
  by_cases h : q = p ∧ j = k
  · rw [if_pos h, h.1, h.2]
  · rw [if_neg h]
theorem pz_lg2_lo {p : Nat} {y : Int64} : pz_lg2 ml p (y, ml p 2) = pz_up ml p 1 y := by
  have e := pz_up_same (pz_up ml p 1 y) p 2
  rw [pz_up_ot (by decide)] at e
  exact e
theorem pz_lg2_hi {p : Nat} {y : Int64} : pz_lg2 ml p (ml p 1, y) = pz_up ml p 2 y := by
  unfold pz_lg2
  rw [pz_up_same]
theorem pz_lm_lo {n : Nat} {y : Int64} : pz_lm ml n (y, ml 181 n) = pz_up ml 180 n y := by
  have e := pz_up_same (pz_up ml 180 n y) 181 n
  rw [pz_upq (by decide)] at e
  exact e
theorem pz_lm_hi {n : Nat} {y : Int64} : pz_lm ml n (ml 180 n, y) = pz_up ml 181 n y := by
  unfold pz_lm
  rw [pz_up_same]
/-- State.dropCondition -/
theorem pz_dropC {p : Nat} (hp : pz_sd p) {i : Nat} (hi : i < 128) : pz_Rn d 60 (0, [], [(0, .inr (.inr (some p))), (1, .inl (i : Int))], pz_hp n0 mi ml mr c s, true) (fun o h => o = .inl none ∧ h = pz_hp n0 mi (pz_lg2 ml p (pz_dr (ml p 1) (ml p 2) i)) mr c s) := by
  refine pz_g60_0 hp ⟨fun h => ⟨rfl, ?_⟩, fun h => ⟨rfl, ?_⟩⟩
  · rw [pz_sh1 hi, pz_dr_hi (by omega), pz_lg2_hi]
    rfl
  · rw [pz_sh1 hi, pz_dr_lo (by omega), pz_lg2_lo]
    rfl
/-- State.addCondition -/
theorem pz_addC {p : Nat} (hp : pz_sd p) {i : Nat} (hi : i < 128) : pz_Rn d 62 (0, [], [(0, .inr (.inr (some p))), (1, .inl (i : Int))], pz_hp n0 mi ml mr c s, true) (fun o h => o = .inl none ∧ h = pz_hp n0 mi (pz_lg2 ml p (pz_ad (ml p 1) (ml p 2) i)) mr c s) := by
  refine pz_g62_0 hp ⟨fun h => ⟨rfl, ?_⟩, fun h => ⟨rfl, ?_⟩⟩
  · rw [pz_sh1 hi, pz_ad_hi (by omega), pz_lg2_hi]
    rfl
  · rw [pz_sh1 hi, pz_ad_lo (by omega), pz_lg2_lo]
    rfl
theorem pz_mod2 {i : Nat} (h : 64 ≤ i) (h2 : i < 128) : (i - 64) % 64 = i % 64 := by omega
/-- the reference's setCondition -/
theorem pz_setM {n : Nat} (hn : n < 64) {i : Nat} (hi : i < 128) (b : Bool) : pz_Rn d 128 (0, [], [(0, .inr (.inr (some 165))), (1, .inl (n : Int)), (2, .inl (i : Int)), (3, .inl (if b then 1 else 0))], pz_hp n0 mi ml mr c s, true) (fun o h => o = .inl none ∧ h = pz_hp n0 mi (pz_lm ml n (if b then pz_ad (ml 180 n) (ml 181 n) i else pz_dr (ml 180 n) (ml 181 n) i)) mr c s) := by
  have en : ((n : Int)).toNat = n := by omega
  refine pz_g128_0 ⟨fun h => ⟨by omega, fun hb => ⟨by omega, by omega, rfl, ?_⟩, fun hb => ⟨by omega, by omega, rfl, ?_⟩⟩, fun h => ⟨fun hb => ⟨by omega, by omega, rfl, ?_⟩, fun hb => ⟨by omega, by omega, rfl, ?_⟩⟩⟩
  · have ei : (i : Int) - 64 = ((i - 64 : Nat) : Int) := by omega
    cases b with
    | true => exact absurd hb (by decide)
    | false =>
      rw [en, ei, pz_sh1 (by omega), pz_mod2 (by omega) hi]
      show _ = pz_hp n0 mi (pz_lm ml n (pz_dr (ml 180 n) (ml 181 n) i)) mr c s
      rw [pz_dr_hi (by omega), pz_lm_hi]
      rfl
  · have ei : (i : Int) - 64 = ((i - 64 : Nat) : Int) := by omega
    cases b with
    | false => exact absurd rfl hb
    | true =>
      rw [en, ei, pz_sh1 (by omega), pz_mod2 (by omega) hi]
      show _ = pz_hp n0 mi (pz_lm ml n (pz_ad (ml 180 n) (ml 181 n) i)) mr c s
      rw [pz_ad_hi (by omega), pz_lm_hi]
      rfl
  · cases b with
    | true => exact absurd hb (by decide)
    | false =>
      rw [en, pz_sh1 hi]
      show _ = pz_hp n0 mi (pz_lm ml n (pz_dr (ml 180 n) (ml 181 n) i)) mr c s
      rw [pz_dr_lo (by omega), pz_lm_lo]
      rfl
  · cases b with
    | false => exact absurd rfl hb
    | true =>
      rw [en, pz_sh1 hi]
      show _ = pz_hp n0 mi (pz_lm ml n (pz_ad (ml 180 n) (ml 181 n) i)) mr c s
      rw [pz_ad_lo (by omega), pz_lm_lo]
      rfl
end pzm
