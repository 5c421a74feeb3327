/-! letters of a name, taken in -/
section RPERS
variable {B : Nat → Nat} {L lo : Nat} {bs bf : Nat → Int32} {n u : Nat} {pr a b g lc : Nat → Nat} {an : Nat → Nat → Bool} {lt : Nat → Nat → Nat} {yr uy lA letters py pu fp sp uY : Nat → Int32} {fam : Nat → Int64} {s e k c : Nat} {kind start stop value code errS next begins token error errorAt : Int32}
theorem X8_letters (H : BUF B L bs bf) (P : PT B L s e 1) (h8 : e - s ≤ 8) (hn : n < 16) (h0 : lA n = 0) :
    ∃ lA' le', p8_readPerson_L53 bs (nI 1) (nI s) (nI e) (nI n) FU 0 lA letters = some (lA', le') ∧ lA' n = nI (e - s) ∧ (∀ q, q ≠ n → lA' q = lA q) ∧ (∀ j, j < e - s → le' (n * 8 + j) = nI (96 + tl B s j)) ∧ ∀ q, q < n * 8 → le' q = letters q := by
  have hL := H.1
  obtain ⟨p1, p2, p3, p4, p5, p6, p7⟩ := P
  obtain ⟨z, e1, h1⟩ := loop_all (fun t i (z : (Nat → Int32) × (Nat → Int32)) => p8_readPerson_L53 bs (nI 1) (nI s) (nI e) (nI n) t (nI i) z.1 z.2) (e - s)
    (fun i z => z.1 n = nI i ∧ (∀ q, q ≠ n → z.1 q = lA q) ∧ (∀ j, j < i → z.2 (n * 8 + j) = nI (96 + tl B s j)) ∧ ∀ q, q < n * 8 → z.2 q = letters q)
    (fun z => z.1 n = nI (e - s) ∧ (∀ q, q ≠ n → z.1 q = lA q) ∧ (∀ j, j < e - s → z.2 (n * 8 + j) = nI (96 + tl B s j)) ∧ ∀ q, q < n * 8 → z.2 q = letters q) (by
      intro t z hz
      refine ⟨(z.1, z.2), ?_, hz⟩
      try dsimp only
      rw [p8_readPerson_L53, p8_readPerson_L53_B]
      unfold p3_wordLength
      rw [if_pos n1.symm, nI_sub p1, if_pos (nI_le (Nat.le_refl _) (by omega))]) (by
      intro t i z hi hz
      obtain ⟨z1, z2, z3, z4⟩ := hz
      have hb := H.2 (s + i) (by omega)
      have h97 := p5 rfl (s + i) (by omega) (by omega)
      refine ⟨(upd z.1 n (nI (i + 1)), upd z.2 (n * 8 + i) (nI (B (s + i)))), ?_, upd_eq, fun q hq => ?_, fun j hj => ?_, fun q hq => ?_⟩
      · try dsimp only
        rw [p8_readPerson_L53, p8_readPerson_L53_B]
        unfold p3_wordLength p1_addLetter p3_letter
        rw [if_pos n1.symm, nI_sub p1, if_neg (nI_ge hi (by omega)), at_in (by omega) (by omega), z1, nI_add, at_in (by omega) (by omega), hb.2.1]
        simp only [lb_eq, uc2]
        rw [n8, nI_mul, nI_add, put_in (by omega) (by omega), put_in (by omega) (by omega), n1, nI_add]
      · dsimp only
        rw [upd_ne hq]; exact z2 q hq
      · dsimp only
        by_cases q : j = i
        · rw [q, upd_eq]
          congr 1
          unfold tl; omega
        · rw [upd_ne (by omega)]; exact z3 j (by omega)
      · dsimp only
        rw [upd_ne (by omega)]; exact z4 q hq) FU 0 (lA, letters) (Nat.zero_le _) (by show e - s - 0 < 1024; omega) ⟨h0, fun _ _ => rfl, fun j hj => absurd hj (Nat.not_lt_zero _), fun _ _ => rfl⟩
  exact ⟨z.1, z.2, e1, h1⟩
end RPERS
