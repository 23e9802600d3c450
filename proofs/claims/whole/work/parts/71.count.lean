/-! Long.bitCount and howManyConditions. -/
def pz_us (x : Int64) (k : Int) : Int64 := (Int64.toUInt64 x >>> ((Int32.ofInt k).toInt64.toUInt64 &&& Int64.toUInt64 63)).toInt64
def pz_jn (x : Int64) : Nat := x.toBitVec.toNat
theorem pz_us_n (x : Int64) (k : Nat) (h : k < 64) : pz_jn (pz_us x (k : Int)) = pz_jn x / 2 ^ k := by
  unfold pz_us pz_jn
  rw [pz_sh2 (by omega), Nat.mod_eq_of_lt h]
  have e : ((Int64.toUInt64 x >>> UInt64.ofNat k).toInt64).toBitVec = x.toBitVec >>> (((UInt64.ofNat k) % 64).toBitVec.toNat) := rfl
  rw [e, (pz_sh3 h).1, BitVec.toNat_ushiftRight, Nat.shiftRight_eq_div_pow]
theorem pz_jn_and (x y : Int64) : pz_jn (x &&& y) = pz_jn x &&& pz_jn y := BitVec.toNat_and x.toBitVec y.toBitVec
theorem pz_jn_add {x y : Int64} (h : pz_jn x + pz_jn y < 2 ^ 64) : pz_jn (x + y) = pz_jn x + pz_jn y := by
  have e : pz_jn (x + y) = (pz_jn x + pz_jn y) % 2 ^ 64 := BitVec.toNat_add x.toBitVec y.toBitVec
  rw [e, Nat.mod_eq_of_lt h]
theorem pz_jn_sub {x y : Int64} (h : pz_jn y ≤ pz_jn x) : pz_jn (x - y) = pz_jn x - pz_jn y := by
  have e : pz_jn (x - y) = (2 ^ 64 - pz_jn y + pz_jn x) % 2 ^ 64 := BitVec.toNat_sub x.toBitVec y.toBitVec
  have h1 : pz_jn x < 2 ^ 64 := x.toBitVec.isLt
  rw [e]
  omega
theorem pz_jn_lt (x : Int64) : pz_jn x < 2 ^ 64 := x.toBitVec.isLt
def pz_sw1 (a : Int64) : Int64 := a - (pz_us a 1 &&& (6148914691236517205 : Int64))
def pz_sw2 (x : Int64) : Int64 := (x &&& (3689348814741910323 : Int64)) + (pz_us x 2 &&& (3689348814741910323 : Int64))
def pz_sw3 (x : Int64) : Int64 := (x + pz_us x 4) &&& (1085102592571150095 : Int64)
def pz_sw4 (x : Int64) : Int64 := x + pz_us x 8
def pz_sw5 (x : Int64) : Int64 := x + pz_us x 16
def pz_sw6 (x : Int64) : Int64 := x + pz_us x 32
def pz_b64 (a : Int64) : Int64 := pz_sw6 (pz_sw5 (pz_sw4 (pz_sw3 (pz_sw2 (pz_sw1 a)))))
theorem pz_b64_n (a : Int64) : pz_jn (pz_b64 a) % 128 = pz_cbn 8 (pz_jn a) := by
  have hX := pz_jn_lt a
  have m1 : pz_jn (6148914691236517205 : Int64) = pz_rep 85 8 := by decide
  have m2 : pz_jn (3689348814741910323 : Int64) = pz_rep 51 8 := by decide
  have m3 : pz_jn (1085102592571150095 : Int64) = pz_rep 15 8 := by decide
  have r2 : pz_rep 51 8 = 3689348814741910323 := by decide
  obtain ⟨hend, h60⟩ := pz_po_end (pz_jn a)
  have s1 : ∀ x, pz_jn (pz_us x 1) = pz_jn x / 2 := fun x => pz_us_n x 1 (by decide)
  have s2 : ∀ x, pz_jn (pz_us x 2) = pz_jn x / 4 := fun x => pz_us_n x 2 (by decide)
  have s4 : ∀ x, pz_jn (pz_us x 4) = pz_jn x / 16 := fun x => pz_us_n x 4 (by decide)
  have s8 : ∀ x, pz_jn (pz_us x 8) = pz_jn x / 256 := fun x => pz_us_n x 8 (by decide)
  have s16 : ∀ x, pz_jn (pz_us x 16) = pz_jn x / 65536 := fun x => pz_us_n x 16 (by decide)
  have s32 : ∀ x, pz_jn (pz_us x 32) = pz_jn x / 4294967296 := fun x => pz_us_n x 32 (by decide)
  have e1 : pz_jn (pz_sw1 a) = pz_po1 8 (pz_jn a) := by
    have hle : pz_jn (pz_us a 1 &&& (6148914691236517205 : Int64)) ≤ pz_jn a := by
      rw [pz_jn_and, s1]
      exact Nat.le_trans Nat.and_le_left (Nat.div_le_self _ _)
    unfold pz_sw1
    rw [pz_jn_sub hle, pz_jn_and, s1, m1]
    rfl
  have l1 : pz_po1 8 (pz_jn a) &&& pz_rep 51 8 ≤ pz_rep 51 8 := Nat.and_le_right
  have l2 : pz_po1 8 (pz_jn a) / 4 &&& pz_rep 51 8 ≤ pz_rep 51 8 := Nat.and_le_right
  have e2 : pz_jn (pz_sw2 (pz_sw1 a)) = pz_po2 8 (pz_jn a) := by
    unfold pz_sw2
    rw [pz_jn_add, pz_jn_and, pz_jn_and, s2, e1, m2]
    · rfl
    · rw [pz_jn_and, pz_jn_and, s2, e1, m2]
      omega
  have h2 : pz_po2 8 (pz_jn a) ≤ 2 * 3689348814741910323 := by
    unfold pz_po2
    omega
  have e3 : pz_jn (pz_sw3 (pz_sw2 (pz_sw1 a))) = pz_po3 8 (pz_jn a) := by
    unfold pz_sw3
    rw [pz_jn_and, pz_jn_add, s4, e2, m3]
    · rfl
    · rw [s4, e2]
      omega
  have e4 : pz_jn (pz_sw4 (pz_sw3 (pz_sw2 (pz_sw1 a)))) = pz_po3 8 (pz_jn a) + pz_po3 8 (pz_jn a) / 256 := by
    unfold pz_sw4
    rw [pz_jn_add, s8, e3]
    rw [s8, e3]
    omega
  have e5 : pz_jn (pz_sw5 (pz_sw4 (pz_sw3 (pz_sw2 (pz_sw1 a))))) = pz_po3 8 (pz_jn a) + pz_po3 8 (pz_jn a) / 256 + (pz_po3 8 (pz_jn a) + pz_po3 8 (pz_jn a) / 256) / 65536 := by
    unfold pz_sw5
    rw [pz_jn_add, s16, e4]
    rw [s16, e4]
    omega
  rw [← hend]
  unfold pz_b64 pz_sw6
  rw [pz_jn_add, s32, e5]
  rw [s32, e5]
  omega
theorem pz_i7 (w : Int64) : pz_i32 (fun x y => x &&& y) ((Int64.toInt32 w).toInt) 127 = ((pz_jn w % 128 : Nat) : Int) := by
  unfold pz_i32
  rw [Int32.ofInt_toInt]
  have e : (Int64.toInt32 w &&& Int32.ofInt 127).toInt = ((w.toBitVec.signExtend 32) &&& 127#32).toInt := rfl
  have en : ((w.toBitVec.signExtend 32) &&& 127#32).toNat = pz_jn w % 128 := by
    rw [BitVec.toNat_and, BitVec.signExtend_eq_setWidth_of_le _ (by decide), BitVec.toNat_setWidth]
    show (w.toBitVec.toNat % 2 ^ 32) &&& 127 = _
    have : (127 : Nat) = 2 ^ 7 - 1 := rfl
    rw [this, Nat.and_two_pow_sub_one_eq_mod]
    unfold pz_jn
    omega
  show (Int64.toInt32 w &&& Int32.ofInt 127).toInt = _
  rw [e, BitVec.toInt_eq_toNat_of_lt (by rw [en]; omega), en]
section pzN
variable {d n0 : Nat} {mi mi' : Nat → Nat → Int} {ml : Nat → Nat → Int64} {mr : Nat → Nat → Option Nat} {c s : Nat}
theorem pz_bitC {a : Int64} : pz_Rn d 71 (0, [], [(0, .inr (.inl a))], pz_hp n0 mi ml mr c s, true) (fun o h => o = .inl (some (.inl ((pz_cbn 8 (pz_jn a) : Nat) : Int))) ∧ h = pz_hp n0 mi ml mr c s) := by
  refine pz_g71_0 ⟨?_, rfl⟩
  rw [← pz_b64_n a, ← pz_i7]
  rfl
/-- how many conditions there are -/
def pz_hn (N : Nat) (lo hi : Int64) : Nat := (List.range N).countP (fun i => pz_hs lo hi i)
theorem pz_hn_all {N : Nat} {lo hi : Int64} (hN : N ≤ 128) (h : pz_bz N lo hi) : pz_hn N lo hi = pz_cbn 8 (pz_jn lo) + pz_cbn 8 (pz_jn hi) := by
  have h1 : pz_hn 128 lo hi = pz_cbn 8 (pz_jn lo) + pz_cbn 8 (pz_jn hi) := by
    unfold pz_hn pz_cbn
    rw [show (128 : Nat) = 64 + 64 from rfl, List.range_add, List.countP_append, List.countP_map]
    have a1 : (List.range 64).countP (fun i => pz_hs lo hi i) = (List.range (8 * 8)).countP (fun i => (pz_jn lo).testBit i) := by
      refine List.countP_congr (fun i hi2 => ?_)
      have hi3 : i < 64 := List.mem_range.mp hi2
      rw [pz_hs_lo hi3]
      exact Iff.rfl
    have a2 : (List.range 64).countP ((fun i => pz_hs lo hi i) ∘ fun x => 64 + x) = (List.range (8 * 8)).countP (fun i => (pz_jn hi).testBit i) := by
      refine List.countP_congr (fun i hi2 => ?_)
      show pz_hs lo hi (64 + i) = true ↔ _
      rw [pz_hs_hi (by omega), show 64 + i - 64 = i by omega]
      exact Iff.rfl
    rw [a1, a2]
  rw [← h1]
  unfold pz_hn
  have e : (128 : Nat) = N + (128 - N) := by omega
  rw [e, List.range_add, List.countP_append, List.countP_map]
  have z : (List.range (128 - N)).countP ((fun i => pz_hs lo hi i) ∘ fun x => N + x) = 0 := by
    rw [List.countP_eq_zero]
    intro i hi2
    have hi3 := List.mem_range.mp hi2
    show ¬ pz_hs lo hi (N + i) = true
    rw [h (N + i) (by omega) (by omega)]
    decide
  rw [z]
  rfl
/-- State.howManyConditions -/
theorem pz_manyC {p N : Nat} (hp : pz_sd p) (hN : N ≤ 128) (h : pz_bz N (ml p 1) (ml p 2)) : pz_Rn (d + 1) 72 (0, [], [(0, .inr (.inr (some p)))], pz_hp n0 mi ml mr c s, true) (fun o hh => o = .inl (some (.inl ((pz_hn N (ml p 1) (ml p 2) : Nat) : Int))) ∧ hh = pz_hp n0 mi ml mr c s) := by
  refine pz_g72_0 hp ?_
  refine pz_Rn_c (d' := 0) (by omega) pz_bitC ?_
  refine pz_g72_7 hp ?_
  refine pz_Rn_c (d' := 0) (by omega) pz_bitC ?_
  have hb : ∀ X, pz_cbn 8 X ≤ 64 := by
    intro X
    unfold pz_cbn
    refine Nat.le_trans List.countP_le_length ?_
    rw [List.length_range]
    decide
  have h1 := hb (pz_jn (ml p 1))
  have h2 := hb (pz_jn (ml p 2))
  refine pz_g72_14 ⟨by omega, ?_, rfl⟩
  rw [pz_hn_all hN h]
  rfl
end pzN
