/-! Three numbers of ten bits in an int. -/
def pz_pk (old sym x : Int) : Int := pz_i32 (fun x y => x ||| y) (pz_i32 (fun x y => x &&& y) old (pz_i32 (fun x y => x ^^^ y) (pz_i32 (fun x y => x <<< (y &&& 31)) 1023 x) (-1))) (pz_i32 (fun x y => x <<< (y &&& 31)) sym x)
def pz_ex (w x : Int) : Int := pz_i32 (fun x y => x &&& y) (pz_i32 (fun x y => x >>> (y &&& 31)) w x) 1023
theorem pz_1023 : (List.range 32).all (fun i => (1023#32).getLsbD i == decide (i < 10)) = true := by decide +kernel
theorem pz_1023f {i : Nat} (h : i < 32) : (1023#32).getLsbD i = decide (i < 10) := beq_iff_eq.mp (List.all_eq_true.mp pz_1023 i (List.mem_range.mpr h))
theorem pz_pkX (O Sy : BitVec 32) (s k : Nat) (hk : k < 32) : ((O &&& ((1023#32 <<< s) ^^^ BitVec.allOnes 32)) ||| (Sy <<< s)).getLsbD k = ((O.getLsbD k && !(decide (s ≤ k) && decide (k - s < 10))) || (decide (s ≤ k) && Sy.getLsbD (k - s))) := by
  rw [BitVec.getLsbD_or, BitVec.getLsbD_and, BitVec.getLsbD_xor, BitVec.getLsbD_allOnes, BitVec.getLsbD_shiftLeft, BitVec.getLsbD_shiftLeft, pz_1023f (by omega)]
  by_cases h : s ≤ k
  · rw [decide_eq_true hk, decide_eq_true h, decide_eq_false (show ¬ k < s by omega)]
    simp
  · rw [decide_eq_true hk, decide_eq_false h, decide_eq_true (show k < s by omega)]
    simp
theorem pz_pkA (O Sy : BitVec 32) (s s' : Nat) (hs : s = 0 ∨ s = 10 ∨ s = 20) (hs' : s' = 0 ∨ s' = 10 ∨ s' = 20) (hSy : ∀ i, 10 ≤ i → Sy.getLsbD i = false) : ((((O &&& ((1023#32 <<< s) ^^^ BitVec.allOnes 32)) ||| (Sy <<< s)).sshiftRight s') &&& 1023#32) = if s' = s then Sy else ((O.sshiftRight s') &&& 1023#32) := by
  apply BitVec.eq_of_getLsbD_eq
  intro i hi
  have e : ∀ Z : BitVec 32, (Z.sshiftRight s' &&& 1023#32).getLsbD i = (decide (i < 10) && Z.getLsbD (s' + i)) := by
    intro Z
    rw [BitVec.getLsbD_and, BitVec.getLsbD_sshiftRight, pz_1023f hi]
    by_cases h10 : i < 10
    · rw [if_pos (by omega), decide_eq_false (show ¬ 32 ≤ i by omega), decide_eq_true h10]
      simp
    · rw [decide_eq_false h10]
      simp
  rw [e]
  by_cases h10 : i < 10
  · rw [pz_pkX _ _ _ _ (by omega), decide_eq_true h10]
    by_cases es : s' = s
    · rw [if_pos es]
      subst es
      rw [decide_eq_true (show s' ≤ s' + i by omega), decide_eq_true (show s' + i - s' < 10 by omega), show s' + i - s' = i by omega]
      simp
    · rw [if_neg es, e, decide_eq_true h10]
      by_cases hle : s ≤ s' + i
      · rw [decide_eq_true hle, decide_eq_false (show ¬ s' + i - s < 10 by omega), hSy _ (by omega)]
        simp
      · rw [decide_eq_false hle]
        simp
  · rw [decide_eq_false h10]
    by_cases es : s' = s
    · rw [if_pos es, hSy i (by omega)]
      rfl
    · rw [if_neg es, e, decide_eq_false h10]
      rfl
theorem pz_shA3 : ((Int32.ofInt 0 &&& 31).toBitVec.smod 32#32).toNat = 0 ∧ ((Int32.ofInt 10 &&& 31).toBitVec.smod 32#32).toNat = 10 ∧ ((Int32.ofInt 20 &&& 31).toBitVec.smod 32#32).toNat = 20 := by decide
theorem pz_sym_b {sym : Int} (h : 0 ≤ sym ∧ sym < 1024) : (∀ i, 10 ≤ i → (Int32.ofInt sym).toBitVec.getLsbD i = false) ∧ (Int32.ofInt sym).toInt = sym := by
  obtain ⟨n, rfl⟩ := Int.eq_ofNat_of_zero_le h.1
  have hn : n < 1024 := by omega
  have e : (Int32.ofInt (n : Int)).toBitVec.toNat = n := by
    show (BitVec.ofInt 32 (n : Int)).toNat = n
    rw [BitVec.toNat_ofInt]
    omega
  refine ⟨fun i hi => ?_, ?_⟩
  · have : (Int32.ofInt (n : Int)).toBitVec.getLsbD i = n.testBit i := by
      show Nat.testBit ((Int32.ofInt (n : Int)).toBitVec.toNat) i = _
      rw [e]
    rw [this]
    have h2 : 2 ^ 10 ≤ 2 ^ i := Nat.pow_le_pow_right (by decide) hi
    exact Nat.testBit_lt_two_pow (Nat.lt_of_lt_of_le hn h2)
  · rw [Int32.toInt_ofInt_of_le (by omega) (by omega)]
/-- a number that was put in is taken out; the others stand -/
theorem pz_ex_pk {old sym : Int} {j j' : Nat} (hsym : 0 ≤ sym ∧ sym < 1024) (hj : j < 3) (hj' : j' < 3) : pz_ex (pz_pk old sym (10 * (j : Int))) (10 * (j' : Int)) = if j' = j then sym else pz_ex old (10 * (j' : Int)) := by
  obtain ⟨b1, b2⟩ := pz_sym_b hsym
  obtain ⟨c0, c1, c2⟩ := pz_shA3
  have sh : ∀ i : Nat, i < 3 → ((Int32.ofInt (10 * (i : Int)) &&& 31).toBitVec.smod 32#32).toNat = 10 * i := by
    intro i hi
    match i, hi with
    | 0, _ => exact c0
    | 1, _ => exact c1
    | 2, _ => exact c2
  have key := pz_pkA (Int32.ofInt old).toBitVec (Int32.ofInt sym).toBitVec (10 * j) (10 * j') (by omega) (by omega) b1
  have eL : pz_ex (pz_pk old sym (10 * (j : Int))) (10 * (j' : Int)) = (((((Int32.ofInt old &&& ((Int32.ofInt 1023 <<< (Int32.ofInt (10 * (j : Int)) &&& 31)) ^^^ Int32.ofInt (-1))) ||| (Int32.ofInt sym <<< (Int32.ofInt (10 * (j : Int)) &&& 31)))) >>> (Int32.ofInt (10 * (j' : Int)) &&& 31)) &&& Int32.ofInt 1023).toInt := by
    unfold pz_ex pz_pk pz_i32
    simp only [Int32.ofInt_toInt]
  have eR : pz_ex old (10 * (j' : Int)) = ((Int32.ofInt old >>> (Int32.ofInt (10 * (j' : Int)) &&& 31)) &&& Int32.ofInt 1023).toInt := by
    unfold pz_ex pz_i32
    simp only [Int32.ofInt_toInt]
  have bL : (((((Int32.ofInt old &&& ((Int32.ofInt 1023 <<< (Int32.ofInt (10 * (j : Int)) &&& 31)) ^^^ Int32.ofInt (-1))) ||| (Int32.ofInt sym <<< (Int32.ofInt (10 * (j : Int)) &&& 31)))) >>> (Int32.ofInt (10 * (j' : Int)) &&& 31)) &&& Int32.ofInt 1023).toBitVec = (((((Int32.ofInt old).toBitVec &&& ((1023#32 <<< ((Int32.ofInt (10 * (j : Int)) &&& 31).toBitVec.smod 32#32).toNat) ^^^ BitVec.allOnes 32)) ||| ((Int32.ofInt sym).toBitVec <<< ((Int32.ofInt (10 * (j : Int)) &&& 31).toBitVec.smod 32#32).toNat)).sshiftRight ((Int32.ofInt (10 * (j' : Int)) &&& 31).toBitVec.smod 32#32).toNat) &&& 1023#32) := rfl
  have bR : ((Int32.ofInt old >>> (Int32.ofInt (10 * (j' : Int)) &&& 31)) &&& Int32.ofInt 1023).toBitVec = (((Int32.ofInt old).toBitVec.sshiftRight ((Int32.ofInt (10 * (j' : Int)) &&& 31).toBitVec.smod 32#32).toNat) &&& 1023#32) := rfl
  rw [sh j hj, sh j' hj', key] at bL
  rw [sh j' hj'] at bR
  rw [eL, eR]
  by_cases ej : j' = j
  · rw [if_pos ej]
    rw [if_pos (by omega)] at bL
    have := Int32.toBitVec_inj.mp bL
    rw [this]
    exact b2
  · rw [if_neg ej]
    rw [if_neg (by omega), ← bR] at bL
    rw [Int32.toBitVec_inj.mp bL]
