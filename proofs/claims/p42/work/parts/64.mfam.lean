/-! the reference's row of numbers -/
def lO (k : Nat) : Int64 := if k < 12 then lN k else -1
theorem lO_i (k : Nat) : (lO k).toInt32 = oN k := by
  unfold lO oN
  split
  · exact lN_i k
  · rfl
def MX (n u : Nat) (pr a b : Nat → Nat) (fam : Nat → Int64) : Prop :=
  fam 0 = lN n ∧ fam 1 = lN u ∧ (∀ p, p < n → fam (2 + 4 * p + 1) = lO (pr p)) ∧ ∀ w, w < u → fam (66 + 3 * w) = lN (a w) ∧ fam (66 + 3 * w + 1) = lN (b w)
theorem idx_cases (v : Int32) (n : Nat) (hn : n < 2147483648) : (∃ p, p < n ∧ v = nI p) ∨ (v < 0 ∨ nI n ≤ v) := by
  by_cases h : v < 0
  · exact Or.inr (Or.inl h)
  · obtain ⟨j, hj, rfl⟩ := nI_of h
    by_cases h2 : j < n
    · exact Or.inl ⟨j, h2, rfl⟩
    · exact Or.inr (Or.inr (nI_le (by omega) hj))
theorem hasPerson_in {p n : Nat} (h : p < n) (hn : n < 2147483648) : p1_hasPerson (nI n) (nI p) = true := by
  unfold p1_hasPerson
  rw [n0, if_neg (nI_nlt (Nat.zero_le _) (by omega)), if_neg (nI_ge h hn)]
theorem hasPerson_out {v : Int32} {n : Nat} (h : v < 0 ∨ nI n ≤ v) : p1_hasPerson (nI n) v = false := by
  unfold p1_hasPerson
  by_cases e : v < 0
  · rw [if_pos e]
  · rw [if_neg e, if_pos (h.resolve_left e)]
section MFAM
variable {n u : Nat} {pr a b g : Nat → Nat} {an : Nat → Nat → Bool} {fam : Nat → Int64}
def wst (mask more : Int32) : Nat := sm (fun q => (if bt mask q then 0 else 2) + (if bt more q then 1 else 0)) 16
theorem bt_nbit {p q : Nat} (hp : p < 32) (hq : q < 32) : bt (((1 : Int32) <<< (nI p &&& 31)) ^^^ (-1)) q = !decide (q = p) := by
  rw [bt_xor, bt_shl hp, bt_m1 hq]
  cases decide (q = p) <;> rfl
/-- one partner of the union, met on the way -/
def aMask (mask : Int32) (x : Nat) : Int32 := mask ||| ((1 : Int32) <<< (nI x &&& 31))
def aMore (mask more : Int32) (x : Nat) : Int32 := if bt mask x then more else more ||| ((1 : Int32) <<< (nI x &&& 31))
end MFAM
