/-! the line that is printed: its length and its cells -/
theorem lN_big {x : Nat} (hx : x < 4611686018427387904) : (lN x).toInt = (x : Int) := lg_ofNat_toInt (by omega)
theorem lN_div {x y : Nat} (hx : x < 4611686018427387904) (hy : y < 4611686018427387904) : lN x / lN y = lN (x / y) := by
  have hle := Nat.div_le_self x y
  rw [← Int64.toInt_inj, Int64.toInt_div, lN_big (by omega), lN_big (by omega), lN_big (by omega), ← Int.ofNat_tdiv]
  generalize x / y = q at hle
  simp only [Int.bmod]
  split <;> omega
theorem lN_mod27 {x : Nat} (hx : x < 4611686018427387904) : lN x - lN x / 27 * 27 = lN (x % 27) := by
  have h27 : (27 : Int64) = lN 27 := rfl
  rw [h27, lN_div hx (by omega), lN_mul, lN_sub (by omega)]
  congr 1
  omega
/-- a line's cells up to N are those of f, and its length is m -/
def LN (N : Nat) (s : Nat × (Nat → Int32)) (line : Nat → Int32) (len : Int32) : Prop := len = nI s.1 ∧ ∀ c, c < N → line c = s.2 c
def mk (s : Nat × (Nat → Int32)) (c : Nat) (v : Int32) : Nat × (Nat → Int32) := (max s.1 (c + 1), upd s.2 c v)
/-- letters printed from column c on: the cells c to c + k hold the letters 0 to k of l -/
def ltr (l : Nat → Nat) (c : Nat) (k : Nat) (f : Nat → Int32) : Nat → Int32 := fun j => if c ≤ j ∧ j < c + k then nI (96 + l (j - c)) else f j
/-- a whole box -/
def bxl (l : Nat → Nat) (m : Bool) (c k : Nat) (s : Nat × (Nat → Int32)) : Nat × (Nat → Int32) :=
  (max s.1 (c + k + 2), fun j => if j = c + 1 + k then (if m then 93 else 41) else if c + 1 ≤ j ∧ j < c + 1 + k then nI (96 + l (j - (c + 1))) else if j = c then (if m then 91 else 40) else s.2 j)
/-- a name as a number -/
def nmb (l : Nat → Nat) : Nat → Nat
  | 0 => 0
  | k + 1 => nmb l k * 27 + l k
theorem nmb_lt {l : Nat → Nat} {k : Nat} (h : ∀ i, i < k → l i < 27) : nmb l k < 27 ^ k := by
  induction k with
  | zero => show 0 < 1; omega
  | succ k ih =>
    have h1 := ih (fun i hi => h i (by omega))
    have h2 := h k (by omega)
    rw [Nat.pow_succ]
    unfold nmb
    omega
section PRINT
variable {line : Nat → Int32} {len : Int32} {s : Nat × (Nat → Int32)} {l : Nat → Nat} {N : Nat}
theorem LN.mk (h : LN N s line len) {c : Nat} {v : Int32} : LN N (mk s c v) (upd line c v) (nI (max s.1 (c + 1))) := by
  refine ⟨rfl, fun j hj => ?_⟩
  by_cases e : j = c
  · rw [e, upd_eq]; exact upd_eq.symm
  · rw [upd_ne e, h.2 j hj]; exact (upd_ne e).symm
theorem X4_printByte (h : LN 400 s line len) (hs : s.1 ≤ 400) {c : Nat} (hc : c < 400) {v : Int32} : p4_printByte len line (nI c) v = (upd line c v, nI (max s.1 (c + 1))) := by
  have n400 : (400 : Int32) = nI 400 := rfl
  unfold p4_printByte
  rw [put_in hc (by omega), n1, n400, nI_add, imin_nI (by omega) (by omega), h.1, imax_nI (by omega) (by omega)]
  simp only [lb]
  rw [Nat.min_eq_left (by omega)]
end PRINT
