/-! The methods' tables, checked. -/
def pz_len (i : Instr) : Nat := match i with
  | .bipush _ => 2
  | .iload _ => 2
  | .lload _ => 2
  | .aload _ => 2
  | .istore _ => 2
  | .lstore _ => 2
  | .astore _ => 2
  | .newarray _ => 2
  | .sipush _ => 3
  | .iinc _ _ => 3
  | .ifCond _ _ => 3
  | .if_icmp _ _ => 3
  | .goto _ => 3
  | .ifnull _ => 3
  | .ifnonnull _ => 3
  | .getfield _ => 3
  | .putfield _ => 3
  | .invokevirtual _ => 3
  | .invokespecial _ => 3
  | .invokestatic _ => 3
  | .new _ => 3
  | .anewarray _ => 3
  | .ldc2_w _ => 3
  | .tableswitch _ _ _ _ => 0
  | _ => 1
def pz_lenb (i : Instr) (n : Nat) : Bool := decide (n = pz_len i) || decide (pz_len i = 0)
theorem pz_lenq {i : Instr} {n j : Nat} (h : pz_lenb i n = true) (e : pz_len i = j) (hj : j ≠ 0) : n = j := by
  unfold pz_lenb at h
  rw [Bool.or_eq_true] at h
  rcases h with h | h
  · rw [← e]; exact of_decide_eq_true h
  · exact absurd (e.symm.trans (of_decide_eq_true h)) hj
def pz_dB (m : Nat) : Bool := (pz_m m).2.2.2.2.all (fun e => decide (decode (pz_m m).2.1 e.1 = .ok e.2) && pz_lenb e.2.1 e.2.2)
theorem pz_dG_0 : (List.range' 0 6).all pz_dB = true := by decide +kernel
theorem pz_dG_1 : (List.range' 6 6).all pz_dB = true := by decide +kernel
theorem pz_dG_2 : (List.range' 12 6).all pz_dB = true := by decide +kernel
theorem pz_dG_3 : (List.range' 18 6).all pz_dB = true := by decide +kernel
theorem pz_dG_4 : (List.range' 24 6).all pz_dB = true := by decide +kernel
theorem pz_dG_5 : (List.range' 30 6).all pz_dB = true := by decide +kernel
theorem pz_dG_6 : (List.range' 36 6).all pz_dB = true := by decide +kernel
theorem pz_dG_7 : (List.range' 42 6).all pz_dB = true := by decide +kernel
theorem pz_dG_8 : (List.range' 48 6).all pz_dB = true := by decide +kernel
theorem pz_dG_9 : (List.range' 54 6).all pz_dB = true := by decide +kernel
theorem pz_dG_10 : (List.range' 60 6).all pz_dB = true := by decide +kernel
theorem pz_dG_11 : (List.range' 66 6).all pz_dB = true := by decide +kernel
theorem pz_dG_12 : (List.range' 72 6).all pz_dB = true := by decide +kernel
theorem pz_dG_13 : (List.range' 78 6).all pz_dB = true := by decide +kernel
theorem pz_dG_14 : (List.range' 84 6).all pz_dB = true := by decide +kernel
theorem pz_dG_15 : (List.range' 90 6).all pz_dB = true := by decide +kernel
theorem pz_dG_16 : (List.range' 96 6).all pz_dB = true := by decide +kernel
theorem pz_dG_17 : (List.range' 102 6).all pz_dB = true := by decide +kernel
theorem pz_dG_18 : (List.range' 108 6).all pz_dB = true := by decide +kernel
theorem pz_dG_19 : (List.range' 114 6).all pz_dB = true := by decide +kernel
theorem pz_dG_20 : (List.range' 120 6).all pz_dB = true := by decide +kernel
theorem pz_dG_21 : (List.range' 126 6).all pz_dB = true := by decide +kernel
theorem pz_dG_22 : (List.range' 132 6).all pz_dB = true := by decide +kernel
theorem pz_dG_23 : (List.range' 138 6).all pz_dB = true := by decide +kernel
theorem pz_dG_24 : (List.range' 144 4).all pz_dB = true := by decide +kernel
