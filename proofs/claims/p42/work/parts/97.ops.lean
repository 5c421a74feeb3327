section OPS
variable {n u : Nat} {pr a b g lc : Nat → Nat} {lt : Nat → Nat → Nat} {an : Nat → Nat → Bool} {yr uy : Nat → Int32} {pl : Nat → Nat} {bx : Nat → Nat → Nat} {fam fam' mh ms : Nat → Int64} {pu fp sp uY ge am lv rf od rs po fb sb hc hc' bA gM lM ro rS : Nat → Int32} {it : Nat → Bool} {next held uc rc R uH : Int32} {kept has : Bool}
theorem PM.congr2 (V : PM n lc lt yr fam) (h : ∀ p, p < n → fam' (2 + 4 * p) = fam (2 + 4 * p) ∧ fam' (2 + 4 * p + 2) = fam (2 + 4 * p + 2) ∧ fam' (2 + 4 * p + 3) = fam (2 + 4 * p + 3)) : PM n lc lt yr fam' := by
  refine ⟨fun p hp => ?_, fun p hp => ?_, fun p hp => ?_⟩
  · rw [(h p hp).2.2]; exact V.1 p hp
  · rw [(h p hp).2.1]; exact V.2.1 p hp
  · rw [(h p hp).1]; exact V.2.2 p hp
theorem reqUnion (x : Int32) (hu : u ≤ 12) : (∃ w, w < u ∧ x = nI w ∧ p9_requireUnion (nI u) x = some (.inr ())) ∨ ((x < 0 ∨ nI u ≤ x) ∧ p9_requireUnion (nI u) x = some (.inl 1)) := by
  have hh : ∀ y, p1_hasUnion (nI u) y = p1_hasPerson (nI u) y := fun _ => rfl
  rcases idx_cases x u (by omega) with ⟨p, hp, rfl⟩ | h
  · refine Or.inl ⟨p, hp, rfl, ?_⟩
    unfold p9_requireUnion
    rw [hh, hasPerson_in hp (by omega)]
    rfl
  · refine Or.inr ⟨h, ?_⟩
    unfold p9_requireUnion
    rw [hh, hasPerson_out h]
    rfl
end OPS
