/-! Counting bits: Long.bitCount. -/
def pz_pc8 (B : Nat) : Nat := (List.range 8).countP (fun i => B.testBit i)
theorem pz_and8 {b x m y : Nat} (hb : b < 256) (hm : m < 256) : (b + 256 * x) &&& (m + 256 * y) = (b &&& m) + 256 * (x &&& y) := by
  have e : ∀ a c : Nat, a + 256 * c = 2 ^ 8 * c + a := by
    intro a c
    omega
  have hbm : b &&& m < 2 ^ 8 := Nat.and_lt_two_pow b hm
  apply Nat.eq_of_testBit_eq
  intro i
  rw [e, e, e, Nat.testBit_and, Nat.testBit_two_pow_mul_add _ hb, Nat.testBit_two_pow_mul_add _ hm, Nat.testBit_two_pow_mul_add _ hbm, Nat.testBit_and, Nat.testBit_and]
  split <;> rfl
def pz_pa1 (B : Nat) : Nat := B - (B / 2 &&& 85)
def pz_pa2 (b : Nat) : Nat := (b &&& 51) + (b / 4 &&& 51)
theorem pz_byA : (List.range 256).all (fun B => decide (B / 2 &&& 85 ≤ B) && decide (pz_pa1 B < 256) && decide (pz_pa2 (pz_pa1 B) ≤ 68) && decide (pz_pa2 (pz_pa1 B) % 16 ≤ 4) && decide (pz_pc8 B ≤ 8) && (List.range 2).all (fun z => decide ((B / 2 + 128 * z) &&& 85 = B / 2 &&& 85)) && (List.range 4).all (fun z => decide ((pz_pa1 B / 4 + 64 * z) &&& 51 = pz_pa1 B / 4 &&& 51)) && (List.range 5).all (fun z => decide ((pz_pa2 (pz_pa1 B) + pz_pa2 (pz_pa1 B) / 16 + 16 * z) &&& 15 = pz_pc8 B))) = true := by decide +kernel
theorem pz_byF {B : Nat} (h : B < 256) : B / 2 &&& 85 ≤ B ∧ pz_pa1 B < 256 ∧ pz_pa2 (pz_pa1 B) ≤ 68 ∧ pz_pa2 (pz_pa1 B) % 16 ≤ 4 ∧ pz_pc8 B ≤ 8 ∧ (∀ z, z < 2 → (B / 2 + 128 * z) &&& 85 = B / 2 &&& 85) ∧ (∀ z, z < 4 → (pz_pa1 B / 4 + 64 * z) &&& 51 = pz_pa1 B / 4 &&& 51) ∧ ∀ z, z < 5 → (pz_pa2 (pz_pa1 B) + pz_pa2 (pz_pa1 B) / 16 + 16 * z) &&& 15 = pz_pc8 B := by
  have h1 := List.all_eq_true.mp pz_byA B (List.mem_range.mpr h)
  simp only [Bool.and_eq_true, decide_eq_true_eq, List.all_eq_true, List.mem_range] at h1
  obtain ⟨⟨⟨⟨⟨⟨⟨a1, a2⟩, a3⟩, a4⟩, a5⟩, a6⟩, a7⟩, a8⟩ := h1
  exact ⟨a1, a2, a3, a4, a5, a6, a7, a8⟩
def pz_rep (v : Nat) (n : Nat) : Nat := match n with
  | 0 => 0
  | n + 1 => v + 256 * pz_rep v n
def pz_po1 (n X : Nat) : Nat := X - (X / 2 &&& pz_rep 85 n)
def pz_po2 (n X : Nat) : Nat := (pz_po1 n X &&& pz_rep 51 n) + (pz_po1 n X / 4 &&& pz_rep 51 n)
def pz_po3 (n X : Nat) : Nat := (pz_po2 n X + pz_po2 n X / 16) &&& pz_rep 15 n
theorem pz_po1_s {n B Y : Nat} (hB : B < 256) : pz_po1 (n + 1) (B + 256 * Y) = pz_pa1 B + 256 * pz_po1 n Y := by
  obtain ⟨a1, a2, a3, a4, a5, a6, a7, a8⟩ := pz_byF hB
  unfold pz_po1
  have e1 : (B + 256 * Y) / 2 = (B / 2 + 128 * (Y % 2)) + 256 * (Y / 2) := by omega
  have e2 : pz_rep 85 (n + 1) = 85 + 256 * pz_rep 85 n := rfl
  have h3 : Y / 2 &&& pz_rep 85 n ≤ Y / 2 := Nat.and_le_left
  rw [e1, e2, pz_and8 (by omega) (by decide), a6 _ (by omega)]
  unfold pz_pa1
  omega
theorem pz_po2_s {n B Y : Nat} (hB : B < 256) : pz_po2 (n + 1) (B + 256 * Y) = pz_pa2 (pz_pa1 B) + 256 * pz_po2 n Y := by
  obtain ⟨a1, a2, a3, a4, a5, a6, a7, a8⟩ := pz_byF hB
  unfold pz_po2
  rw [pz_po1_s hB]
  have e1 : (pz_pa1 B + 256 * pz_po1 n Y) / 4 = (pz_pa1 B / 4 + 64 * (pz_po1 n Y % 4)) + 256 * (pz_po1 n Y / 4) := by omega
  have e2 : pz_rep 51 (n + 1) = 51 + 256 * pz_rep 51 n := rfl
  rw [e1, e2, pz_and8 a2 (by decide), pz_and8 (by omega) (by decide), a7 _ (by omega)]
  have e3 : pz_pa2 (pz_pa1 B) = (pz_pa1 B &&& 51) + (pz_pa1 B / 4 &&& 51) := rfl
  rw [e3]
  omega
theorem pz_po2_m (n Y : Nat) : pz_po2 n Y % 16 ≤ 4 := by
  cases n with
  | zero =>
    have : pz_po2 0 Y = 0 := by
      unfold pz_po2
      show (_ &&& 0) + (_ &&& 0) = 0
      rw [Nat.and_zero, Nat.and_zero]
    rw [this]
    decide
  | succ n =>
    have e : Y = Y % 256 + 256 * (Y / 256) := by omega
    rw [e, pz_po2_s (Nat.mod_lt _ (by decide))]
    have := (pz_byF (B := Y % 256) (Nat.mod_lt _ (by decide))).2.2.2.1
    omega
theorem pz_po3_s {n B Y : Nat} (hB : B < 256) : pz_po3 (n + 1) (B + 256 * Y) = pz_pc8 B + 256 * pz_po3 n Y := by
  obtain ⟨a1, a2, a3, a4, a5, a6, a7, a8⟩ := pz_byF hB
  have hm := pz_po2_m n Y
  unfold pz_po3
  rw [pz_po2_s hB]
  have e1 : pz_pa2 (pz_pa1 B) + 256 * pz_po2 n Y + (pz_pa2 (pz_pa1 B) + 256 * pz_po2 n Y) / 16 = (pz_pa2 (pz_pa1 B) + pz_pa2 (pz_pa1 B) / 16 + 16 * (pz_po2 n Y % 16)) + 256 * (pz_po2 n Y + pz_po2 n Y / 16) := by omega
  have e2 : pz_rep 15 (n + 1) = 15 + 256 * pz_rep 15 n := rfl
  rw [e1, e2, pz_and8 (by omega) (by decide), a8 _ (by omega)]
/-- the bits of the first n bytes -/
def pz_cbn (n X : Nat) : Nat := (List.range (8 * n)).countP (fun i => X.testBit i)
theorem pz_cbn_s {n B Y : Nat} (hB : B < 256) : pz_cbn (n + 1) (B + 256 * Y) = pz_pc8 B + pz_cbn n Y := by
  unfold pz_cbn pz_pc8
  have e : 8 * (n + 1) = 8 + 8 * n := by omega
  have e2 : B + 256 * Y = 2 ^ 8 * Y + B := by omega
  rw [e, List.range_add, List.countP_append, List.countP_map, e2]
  congr 1
  · refine List.countP_congr (fun i hi => ?_)
    rw [Nat.testBit_two_pow_mul_add _ hB, if_pos (List.mem_range.mp hi)]
  · refine List.countP_congr (fun i hi => ?_)
    show (2 ^ 8 * Y + B).testBit (8 + i) = true ↔ _
    rw [Nat.testBit_two_pow_mul_add _ hB, if_neg (by omega), show 8 + i - 8 = i by omega]
/-- bytes' counts side by side -/
def pz_side (l : List Nat) : Nat := match l with
  | [] => 0
  | a :: l => a + 256 * pz_side l
def pz_bys (n X : Nat) : List Nat := match n with
  | 0 => []
  | n + 1 => pz_pc8 (X % 256) :: pz_bys n (X / 256)
theorem pz_po3_side (n : Nat) : ∀ X, pz_po3 n X = pz_side (pz_bys n X) ∧ pz_cbn n X = (pz_bys n X).sum := by
  induction n with
  | zero =>
    intro X
    refine ⟨?_, rfl⟩
    unfold pz_po3
    show _ &&& 0 = 0
    rw [Nat.and_zero]
  | succ n ih =>
    intro X
    have e : X = X % 256 + 256 * (X / 256) := by omega
    have eb : pz_bys (n + 1) X = pz_pc8 (X % 256) :: pz_bys n (X / 256) := rfl
    have h1 : pz_po3 (n + 1) X = pz_pc8 (X % 256) + 256 * pz_po3 n (X / 256) := by
      have := pz_po3_s (n := n) (B := X % 256) (Y := X / 256) (Nat.mod_lt _ (by decide))
      rw [← e] at this
      exact this
    have h2 : pz_cbn (n + 1) X = pz_pc8 (X % 256) + pz_cbn n (X / 256) := by
      have := pz_cbn_s (n := n) (B := X % 256) (Y := X / 256) (Nat.mod_lt _ (by decide))
      rw [← e] at this
      exact this
    obtain ⟨i1, i2⟩ := ih (X / 256)
    rw [eb, h1, h2, i1, i2]
    exact ⟨rfl, (List.sum_cons).symm⟩
theorem pz_po_end (X : Nat) : (pz_po3 8 X + pz_po3 8 X / 256 + (pz_po3 8 X + pz_po3 8 X / 256) / 65536 + (pz_po3 8 X + pz_po3 8 X / 256 + (pz_po3 8 X + pz_po3 8 X / 256) / 65536) / 4294967296) % 128 = pz_cbn 8 X ∧ pz_po3 8 X < 2 ^ 60 := by
  obtain ⟨h1, h2⟩ := pz_po3_side 8 X
  rw [h1, h2]
  have hb : ∀ Z, pz_pc8 (Z % 256) ≤ 8 := fun Z => (pz_byF (Nat.mod_lt _ (by decide))).2.2.2.2.1
  have e : pz_bys 8 X = [pz_pc8 (X % 256), pz_pc8 (X / 256 % 256), pz_pc8 (X / 256 / 256 % 256), pz_pc8 (X / 256 / 256 / 256 % 256), pz_pc8 (X / 256 / 256 / 256 / 256 % 256), pz_pc8 (X / 256 / 256 / 256 / 256 / 256 % 256), pz_pc8 (X / 256 / 256 / 256 / 256 / 256 / 256 % 256), pz_pc8 (X / 256 / 256 / 256 / 256 / 256 / 256 / 256 % 256)] := rfl
  rw [e]
  have b0 := hb X
  have b1 := hb (X / 256)
  have b2 := hb (X / 256 / 256)
  have b3 := hb (X / 256 / 256 / 256)
  have b4 := hb (X / 256 / 256 / 256 / 256)
  have b5 := hb (X / 256 / 256 / 256 / 256 / 256)
  have b6 := hb (X / 256 / 256 / 256 / 256 / 256 / 256)
  have b7 := hb (X / 256 / 256 / 256 / 256 / 256 / 256 / 256)
  generalize pz_pc8 (X % 256) = c0 at *
  generalize pz_pc8 (X / 256 % 256) = c1 at *
  generalize pz_pc8 (X / 256 / 256 % 256) = c2 at *
  generalize pz_pc8 (X / 256 / 256 / 256 % 256) = c3 at *
  generalize pz_pc8 (X / 256 / 256 / 256 / 256 % 256) = c4 at *
  generalize pz_pc8 (X / 256 / 256 / 256 / 256 / 256 % 256) = c5 at *
  generalize pz_pc8 (X / 256 / 256 / 256 / 256 / 256 / 256 % 256) = c6 at *
  generalize pz_pc8 (X / 256 / 256 / 256 / 256 / 256 / 256 / 256 % 256) = c7 at *
  have es : pz_side [c0, c1, c2, c3, c4, c5, c6, c7] = c0 + 256 * (c1 + 256 * (c2 + 256 * (c3 + 256 * (c4 + 256 * (c5 + 256 * (c6 + 256 * (c7 + 256 * 0))))))) := rfl
  have et : [c0, c1, c2, c3, c4, c5, c6, c7].sum = c0 + (c1 + (c2 + (c3 + (c4 + (c5 + (c6 + (c7 + 0))))))) := rfl
  rw [es, et]
  constructor
  · generalize hy : c0 + 256 * (c1 + 256 * (c2 + 256 * (c3 + 256 * (c4 + 256 * (c5 + 256 * (c6 + 256 * (c7 + 256 * 0))))))) = y
    have q1 : y / 256 = c1 + 256 * (c2 + 256 * (c3 + 256 * (c4 + 256 * (c5 + 256 * (c6 + 256 * c7))))) := by omega
    have q2 : y + y / 256 = (c0 + c1) + 256 * ((c1 + c2) + 256 * ((c2 + c3) + 256 * ((c3 + c4) + 256 * ((c4 + c5) + 256 * ((c5 + c6) + 256 * ((c6 + c7) + 256 * c7)))))) := by omega
    rw [q2]
    clear q1 q2 hy
    generalize hz : (c0 + c1) + 256 * ((c1 + c2) + 256 * ((c2 + c3) + 256 * ((c3 + c4) + 256 * ((c4 + c5) + 256 * ((c5 + c6) + 256 * ((c6 + c7) + 256 * c7)))))) = z
    have q3 : z / 65536 = (c2 + c3) + 256 * ((c3 + c4) + 256 * ((c4 + c5) + 256 * ((c5 + c6) + 256 * ((c6 + c7) + 256 * c7)))) := by omega
    have q4 : z + z / 65536 = (c0 + c1 + c2 + c3) + 256 * ((c1 + c2 + c3 + c4) + 256 * ((c2 + c3 + c4 + c5) + 256 * ((c3 + c4 + c5 + c6) + 256 * ((c4 + c5 + c6 + c7) + 256 * ((c5 + c6 + c7) + 256 * ((c6 + c7) + 256 * c7)))))) := by omega
    rw [q4]
    clear q3 q4 hz
    generalize hw : (c0 + c1 + c2 + c3) + 256 * ((c1 + c2 + c3 + c4) + 256 * ((c2 + c3 + c4 + c5) + 256 * ((c3 + c4 + c5 + c6) + 256 * ((c4 + c5 + c6 + c7) + 256 * ((c5 + c6 + c7) + 256 * ((c6 + c7) + 256 * c7)))))) = w
    have q5 : w / 4294967296 = (c4 + c5 + c6 + c7) + 256 * ((c5 + c6 + c7) + 256 * ((c6 + c7) + 256 * c7)) := by omega
    rw [q5]
    omega
  · omega
