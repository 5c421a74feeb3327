section MPLAIN
variable {n u : Nat} {pr a b g : Nat → Nat} {an : Nat → Nat → Bool} {fam : Nat → Int64} {ge lv ro rs bA : Nat → Int32} {it : Nat → Bool} {pl : Nat → Nat} {bx : Nat → Nat → Nat}
theorem MX.keep (F : MX n u pr a b fam) (hn : n ≤ 16) (hu : u ≤ 12) {fam' : Nat → Int64} (h : ∀ k, k < 102 → fam' k = fam k) : MX n u pr a b fam' := by
  refine ⟨by rw [h _ (by omega)]; exact F.1, by rw [h _ (by omega)]; exact F.2.1, fun p hp => by rw [h _ (by omega)]; exact F.2.2.1 p hp, fun w hw => ?_⟩
  rw [h _ (by omega), h _ (by omega)]
  exact F.2.2.2 w hw
theorem nI_toL {k : Nat} (h : k < 2147483648) : (nI k).toInt64 = lN k := nI_l h
end MPLAIN
