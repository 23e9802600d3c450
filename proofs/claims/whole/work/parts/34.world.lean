/-! What the two sides' heaps mean: codes of items, substitutions, walks, states, trees; the relation between class and reference. -/
section pzw
variable (mi : Nat → Nat → Int) (ml : Nat → Nat → Int64) (mr : Nat → Nat → Option Nat)
-- terms, goals, relations
def pz_isT (x : Int) : Prop := 0 ≤ x ∧ x < mi 2 3
def pz_tm1 (t : Nat) : Prop := mi 166 t = mi 3 t ∧ mi 167 t = mi 4 t ∧ ((mi 3 t = 0 ∧ 0 ≤ mi 4 t ∧ mi 4 t ≤ 9) ∨ (mi 3 t = 1 ∧ 0 ≤ mi 4 t ∧ mi 4 t ≤ 5) ∨ (mi 3 t = 2 ∧ 0 ≤ mi 4 t ∧ mi 4 t < t ∧ 0 ≤ mi 5 t ∧ mi 5 t < t ∧ mi 168 t = mi 5 t))
def pz_tm : Prop := 0 ≤ mi 2 3 ∧ mi 2 3 ≤ 40 ∧ mi 165 1 = mi 2 3 ∧ mi 3 40 = 1 ∧ mi 4 40 = 0 ∧ ∀ t : Nat, (t : Int) < mi 2 3 → pz_tm1 mi t
def pz_gl1 (g : Nat) : Prop := mi 169 g = mi 7 g ∧ (((mi 7 g = 0 ∨ mi 7 g = 1) ∧ pz_isT mi (mi 8 g) ∧ pz_isT mi (mi 9 g) ∧ mi 170 g = mi 8 g ∧ mi 171 g = mi 9 g) ∨
  ((mi 7 g = 2 ∨ mi 7 g = 3) ∧ 0 ≤ mi 8 g ∧ mi 8 g < mi 6 6 ∧ 0 ≤ mi 9 g ∧ mi 9 g < mi 6 6 ∧ mi 170 g = mi 8 g ∧ mi 171 g = mi 9 g) ∨
  (mi 7 g = 4 ∧ pz_isT mi (mi 8 g) ∧ pz_isT mi (mi 9 g) ∧ pz_isT mi (mi 10 g) ∧ 0 ≤ mi 11 g ∧ mi 11 g < 4 ∧ mi 170 g = mi 11 g ∧ mi 171 g = mi 8 g ∧ mi 172 g = mi 9 g ∧ mi 173 g = mi 10 g))
def pz_gl : Prop := 0 ≤ mi 6 6 ∧ mi 6 6 ≤ 40 ∧ mi 165 5 = mi 6 6 ∧ ∀ g : Nat, (g : Int) < mi 6 6 → pz_gl1 mi g
def pz_re4 : Prop := ∀ r : Nat, r < 4 → mi 174 r = mi 12 r ∧ -1 ≤ mi 12 r ∧ mi 12 r < mi 6 6
-- items and their codes: a variable is its number, what is no variable 1000 and its spot
def pz_cs (x : Int) : Nat := if mi 3 (x % 41).toNat = 1 then (x / 41 * 6 + mi 4 (x % 41).toNat).toNat else 1000 + x.toNat
def pz_cm (x : Int) : Nat := if 3000 ≤ x then (x - 3000).toNat else if mi 166 ((x - 1) / 64).toNat = 1 then (6 * ((x - 1) % 64) + mi 167 ((x - 1) / 64).toNat).toNat else 1000 + (41 * ((x - 1) % 64) + (x - 1) / 64).toNat
def pz_vs (F : Int) (x : Int) : Prop := 0 ≤ x ∧ x / 41 < F ∧ (x % 41 < mi 2 3 ∨ x % 41 = 40)
def pz_vm (F : Int) (x : Int) : Prop := (3000 ≤ x ∧ x < 3000 + 6 * F) ∨ (1 ≤ x ∧ x < 3000 ∧ (x - 1) / 64 < mi 2 3 ∧ (x - 1) % 64 < F)
-- walks
def pz_wk (σ : Nat → Option Nat) (n : Nat) (a : Nat) : Nat := match n with
  | 0 => a
  | n + 1 => if a < 1000 then match σ a with
    | some b => pz_wk σ n b
    | none => a
    else a
def pz_W (σ : Nat → Option Nat) (a : Nat) : Nat := pz_wk σ 246 a
def pz_rs (σ : Nat → Option Nat) (a : Nat) : Prop := 1000 ≤ a ∨ σ a = none
def pz_gd (σ : Nat → Option Nat) : Prop := ∀ a, pz_rs σ (pz_W σ a)
def pz_ub (σ : Nat → Option Nat) (v b : Nat) : Nat → Option Nat := fun u => if u = v then some b else σ u
-- what a code is, by the class's terms
def pz_ct1 (a : Nat) : Nat := (a - 1000) % 41
def pz_kd1 (a : Nat) : Int := if a < 1000 then 1 else mi 3 (pz_ct1 a)
def pz_hf (a : Nat) (first : Bool) : Nat := pz_cs mi (41 * ((a - 1000) / 41 : Nat) + (if first then mi 4 (pz_ct1 a) else mi 5 (pz_ct1 a)))
-- the occurs check and the match; r looks are left; none: too many
def pz_oc (σ : Nat → Option Nat) (v : Nat) (r : Nat) (st : List Nat) : Option (Bool × Nat) := match r, st with
  | r, [] => some (false, r)
  | 0, _ :: _ => none
  | r + 1, a :: st => if pz_W σ a = v then some (true, r) else if pz_kd1 mi (pz_W σ a) = 2 then pz_oc σ v r (pz_hf mi (pz_W σ a) true :: pz_hf mi (pz_W σ a) false :: st) else pz_oc σ v r st
-- how a match ends: matched, substitution, bindings made, the variables that it bound, looks left
def pz_mE : Type := Bool × (Nat → Option Nat) × Nat × List Nat × Nat
def pz_bd (σ : Nat → Option Nat) (nb : Nat) (tr : List Nat) (r x y : Nat) (k : (Nat → Option Nat) → Nat → List Nat → Nat → Option pz_mE) : Option pz_mE := match pz_oc mi σ x r [y] with
  | none => none
  | some (true, r') => some (false, σ, nb, tr, r')
  | some (false, r') => if nb = 1000 then none else k (pz_ub σ x y) (nb + 1) (x :: tr) r'
def pz_ma (n : Nat) (σ : Nat → Option Nat) (nb : Nat) (tr : List Nat) (r : Nat) (st : List (Nat × Nat)) : Option pz_mE := match n with
  | 0 => none
  | n + 1 => match st with
    | [] => some (true, σ, nb, tr, r)
    | (a, b) :: st => match r with
      | 0 => none
      | r + 1 =>
        if pz_kd1 mi (pz_W σ a) = 2 ∧ pz_kd1 mi (pz_W σ b) = 2 then pz_ma n σ nb tr r ((pz_hf mi (pz_W σ a) true, pz_hf mi (pz_W σ b) true) :: (pz_hf mi (pz_W σ a) false, pz_hf mi (pz_W σ b) false) :: st)
        else if pz_W σ a < 1000 then (if pz_W σ a = pz_W σ b then pz_ma n σ nb tr r st else pz_bd mi σ nb tr r (pz_W σ a) (pz_W σ b) (fun σ nb tr r => pz_ma n σ nb tr r st))
        else if pz_W σ b < 1000 then pz_bd mi σ nb tr r (pz_W σ b) (pz_W σ a) (fun σ nb tr r => pz_ma n σ nb tr r st)
        else if pz_kd1 mi (pz_W σ a) = pz_kd1 mi (pz_W σ b) ∧ mi 4 (pz_ct1 (pz_W σ a)) = mi 4 (pz_ct1 (pz_W σ b)) then pz_ma n σ nb tr r st
        else some (false, σ, nb, tr, r)
-- a substitution, as the class keeps it (a chain of bindings, or spread out), and as the reference does (a row)
def pz_lk (l : List (Nat × Int)) (v : Nat) : Option Int := match l with
  | [] => none
  | e :: r => if e.1 = v then some e.2 else pz_lk r v
def pz_ch (b : Int) (l : List (Nat × Int)) : Prop := match l with
  | [] => b = -1
  | e :: r => 0 ≤ b ∧ b < mi 150 5 ∧ mi 151 b.toNat = e.1 ∧ mi 152 b.toNat = e.2 ∧ pz_ch (mi 153 b.toNat) r
def pz_cS (F : Int) (b : Int) (σ : Nat → Option Nat) : Prop := ∃ l : List (Nat × Int), pz_ch mi b l ∧ (l.map (fun e => e.1)).Nodup ∧ (∀ e ∈ l, (e.1 : Int) < 6 * F ∧ pz_vs mi F e.2) ∧ ∀ v, σ v = (pz_lk l v).map (pz_cs mi)
def pz_sp (F : Int) (σ : Nat → Option Nat) : Prop := ∀ v, (v < 246 → match σ v with
  | none => mi 154 v < 0
  | some a => pz_vs mi F (mi 154 v) ∧ pz_cs mi (mi 154 v) = a) ∧ (6 * F ≤ (v : Int) → σ v = none)
def pz_mS (F : Int) (n : Nat) (σ : Nat → Option Nat) : Prop := ∀ v, (v < 240 → match σ v with
  | none => mi 182 (240 * n + v) = 0
  | some a => pz_vm mi F (mi 182 (240 * n + v)) ∧ pz_cm mi (mi 182 (240 * n + v)) = a) ∧ (6 * F ≤ (v : Int) → σ v = none)
end pzw
