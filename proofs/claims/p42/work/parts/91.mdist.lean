/-! the reference's distance -/
section MDIST
variable {n u : Nat} {pr a b g : Nat → Nat} {fam : Nat → Int64}
theorem bt_sh (z : Int32) {i : Nat} (hi : i < 32) (q : Nat) : bt (z ||| ((1 : Int32) <<< (nI i &&& 31))) q = true ↔ bt z q = true ∨ q = i := by
  rw [bt_or, Bool.or_eq_true, bt_shl hi, decide_eq_true_iff]
/-- the sphere before it -/
def sph1 (n : Nat) (pr a b : Nat → Nat) (p : Nat) : Nat → Nat → Prop
  | 0, _ => False
  | k + 1, q => sph n pr a b p k q
theorem sph_front {p k q : Nat} : sph n pr a b p (k + 1) q ↔ sph n pr a b p k q ∨ nbr n pr a b (fun x => sph n pr a b p k x ∧ ¬ sph1 n pr a b p k x) q := by
  constructor
  · rintro (h | ⟨h1, x, h2, h3, h4⟩)
    · exact Or.inl h
    · by_cases c : sph1 n pr a b p k x
      · cases k with
        | zero => exact absurd c id
        | succ k => exact Or.inl (Or.inr ⟨h1, x, h2, c, h4⟩)
      · exact Or.inr ⟨h1, x, h2, ⟨h3, c⟩, h4⟩
  · rintro (h | ⟨h1, x, h2, h3, h4⟩)
    · exact Or.inl h
    · exact Or.inr ⟨h1, x, h2, h3.1, h4⟩
end MDIST
