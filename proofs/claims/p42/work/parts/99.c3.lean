/-! words and names on both sides -/
theorem txl_le (w : Nat) : txl w ≤ 11 := by
  by_cases h : w < 5
  · have : ∀ w, w < 5 → txl w ≤ 11 := by decide
    exact this w h
  · unfold txl
    rw [List.getD_eq_getElem?_getD, List.getElem?_eq_none (by show 5 ≤ w; omega)]
    decide
theorem lN_eqB {x y : Nat} (hx : x < 4611686018427387904) (hy : y < 4611686018427387904) : lN x = lN y ↔ x = y := by
  constructor
  · intro h
    have h1 := lN_big hx
    rw [h, lN_big hy] at h1
    omega
  · intro h; rw [h]
theorem nmb_inj : ∀ (k k' : Nat) (l l' : Nat → Nat), (∀ i, i < k → l i < 27 ∧ 1 ≤ l i) → (∀ i, i < k' → l' i < 27 ∧ 1 ≤ l' i) → nmb l k = nmb l' k' → k = k' ∧ ∀ i, i < k → l i = l' i := by
  intro k
  induction k with
  | zero =>
    intro k' l l' _ h' e
    cases k' with
    | zero => exact ⟨rfl, fun i hi => absurd hi (Nat.not_lt_zero _)⟩
    | succ k' =>
      have e' : 0 = nmb l' k' * 27 + l' k' := e
      have := h' k' (by omega)
      omega
  | succ k ih =>
    intro k' l l' h h' e
    cases k' with
    | zero =>
      have e' : nmb l k * 27 + l k = 0 := e
      have := h k (by omega)
      omega
    | succ k' =>
      have e' : nmb l k * 27 + l k = nmb l' k' * 27 + l' k' := e
      have h1 := h k (by omega)
      have h2 := h' k' (by omega)
      obtain ⟨q1, q2⟩ := ih k' l l' (fun i hi => h i (by omega)) (fun i hi => h' i (by omega)) (by omega)
      subst q1
      refine ⟨rfl, fun i hi => ?_⟩
      by_cases c : i = k
      · rw [c]; omega
      · exact q2 i (by omega)
section WRD
variable {B : Nat → Nat} {L : Nat} {bs bf : Nat → Int32} {n : Nat} {lc : Nat → Nat} {lt : Nat → Nat → Nat} {lA letters : Nat → Int32} {fam : Nat → Int64} {s e k : Nat}
/-- the token is the name of p -/
def SAME (B : Nat → Nat) (s e : Nat) (lc : Nat → Nat) (lt : Nat → Nat → Nat) (p : Nat) : Prop := lc p = e - s ∧ ∀ i, i < lc p → lt p i = tl B s i
theorem spelled_ok (H : BUF B L bs bf) (P : PT B L s e 1) (hn : n ≤ 16) (C : LCX n lc lA) (T : LTX n lc lt letters) (hlc : ∀ p, p < n → lc p ≤ 8) (hlt : ∀ p, p < n → ∀ i, i < 8 → lt p i < 27 ∧ 1 ≤ lt p i) {p : Nat} (hp : p < n) :
    ∃ r, p3_isSpelled 128 (nI 1) (nI s) (nI e) bs letters (nI p * 8) (pAt 16 lA (nI p)) = some r ∧ (r = true ↔ SAME B s e lc lt p) := by
  have hL := H.1
  have hl := hlc p hp
  obtain ⟨p1, p2, p3, p4, p5, p6, p7⟩ := P
  unfold p3_isSpelled SAME
  rw [at_in (by omega) (by omega), C p hp, nI_sub p1, n1, if_pos rfl, n8, nI_mul]
  by_cases c2 : lc p = e - s
  case neg =>
    rw [if_neg (fun q => c2 ((nI_eq (by omega) (by omega)).mp q))]
    exact ⟨false, rfl, fun q => Bool.noConfusion q, fun q => absurd q.1 c2⟩
  rw [if_pos (by rw [c2])]
  obtain ⟨r1, e1, h1⟩ := loop_up (fun t i (_ : Unit) => p3_isSpelled_L26 bs (nI s) 128 letters (nI (p * 8)) (nI (lc p)) t (nI i)) (lc p) (fun i _ => ∀ j, j < i → lt p j = tl B s j)
    (fun r => (r = .inr () ∧ ∀ j, j < lc p → lt p j = tl B s j) ∨ (r = .inl false ∧ ¬ ∀ j, j < lc p → lt p j = tl B s j)) (by
      intro t _ hz
      refine ⟨.inr (), ?_, Or.inl ⟨rfl, hz⟩⟩
      try dsimp only
      rw [p3_isSpelled_L26, p3_isSpelled_L26_B, if_pos (nI_le (Nat.le_refl _) (by omega))]) (by
      intro t i _ hi hz
      have hb := H.2 (s + i) (by omega)
      have h97 := p5 rfl (s + i) (by omega) (by omega)
      have hlti := hlt p hp i (by omega)
      have hstep : p3_isSpelled_L26 bs (nI s) 128 letters (nI (p * 8)) (nI (lc p)) (t + 1) (nI i) = if lt p i = tl B s i then p3_isSpelled_L26 bs (nI s) 128 letters (nI (p * 8)) (nI (lc p)) t (nI (i + 1)) else some (.inl false) := by
        rw [p3_isSpelled_L26, p3_isSpelled_L26_B, if_neg (nI_ge hi (by omega)), nI_add, nI_add, at_in (by omega) (by omega), at_in (by omega) (by omega), hb.2.1, T p hp i hi]
        simp only [lb_eq]
        rw [n1, nI_add]
        by_cases c : lt p i = tl B s i
        · rw [if_pos c, if_pos (by congr 1; unfold tl at c; omega)]
        · rw [if_neg c, if_neg (fun q => c (by have := (nI_eq (by omega) (by omega)).mp q; unfold tl; omega))]
      by_cases c : lt p i = tl B s i
      · refine Or.inl ⟨(), ?_, fun j hj => ?_⟩
        · try dsimp only
          rw [hstep, if_pos c]
        · by_cases q : j = i
          · rw [q]; exact c
          · exact hz j (by omega)
      · refine Or.inr ⟨.inl false, ?_, Or.inr ⟨rfl, fun q => c (q i hi)⟩⟩
        try dsimp only
        rw [hstep, if_neg c]) FU 0 () (Nat.zero_le _) (by show lc p - 0 < 1024; omega) (fun j hj => absurd hj (Nat.not_lt_zero _))
  have e1' : p3_isSpelled_L26 bs (nI s) 128 letters (nI (p * 8)) (nI (lc p)) FU (nI 0) = some r1 := e1
  rw [n0, e1']
  rcases h1 with ⟨rfl, h1⟩ | ⟨rfl, h1⟩
  · exact ⟨true, rfl, fun _ => ⟨c2, h1⟩, fun _ => rfl⟩
  · exact ⟨false, rfl, fun q => Bool.noConfusion q, fun q => absurd q.2 h1⟩
end WRD
