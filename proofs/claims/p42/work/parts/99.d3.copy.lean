/-! cells copied from the first on -/
theorem copy0 {N M c : Nat} {f t : Nat → Int32} (hi : c ≤ N) (hj : c ≤ M) (hn : N < 100000) (hm : M < 100000) (hc : c ≤ 1000) : ∃ t', p9_copyCells N M f t 0 0 (nI c) = some t' ∧ ∀ k, k < c → t' k = f k := by
  obtain ⟨t', e, h, -⟩ := X9_copy (n := N) (m := M) (i := 0) (j := 0) (c := c) (f := f) (t := t) (by omega) (by omega) hn hm hc
  exact ⟨t', e, fun k hk => by have := h k hk; rw [Nat.zero_add] at this; exact this⟩
