/-! words and names on both sides -/
theorem txl_le (w : Nat) : txl w ≤ 11 := by
  by_cases h : w < 13
  · have : ∀ w, w < 13 → txl w ≤ 11 := by decide
    exact this w h
  · unfold txl
    rw [List.getD_eq_getElem?_getD, List.getElem?_eq_none (by show 13 ≤ w; omega)]
    decide
theorem lN_eqB {x y : Nat} (hx : x < 4611686018427387904) (hy : y < 4611686018427387904) : lN x = lN y ↔ x = y := by
  constructor
  · intro h
    have h1 := lN_big hx
    rw [h, lN_big hy] at h1
    omega
  · intro h; rw [h]
theorem nmb_inj : ∀ (k k' : Nat) (l l' : Nat → Nat), (∀ i, i < k → l i < 27 ∧ 1 ≤ l i) → (∀ i, i < k' → l' i < 27 ∧ 1 ≤ l' i) → nmb l k = nmb l' k' → k = k' ∧ ∀ i, i < k → l i = l' i := by
  intro k
  induction k with
  | zero =>
    intro k' l l' _ h' e
    cases k' with
    | zero => exact ⟨rfl, fun i hi => absurd hi (Nat.not_lt_zero _)⟩
    | succ k' =>
      have e' : 0 = nmb l' k' * 27 + l' k' := e
      have := h' k' (by omega)
      omega
  | succ k ih =>
    intro k' l l' h h' e
    cases k' with
    | zero =>
      have e' : nmb l k * 27 + l k = 0 := e
      have := h k (by omega)
      omega
    | succ k' =>
      have e' : nmb l k * 27 + l k = nmb l' k' * 27 + l' k' := e
      have h1 := h k (by omega)
      have h2 := h' k' (by omega)
      obtain ⟨q1, q2⟩ := ih k' l l' (fun i hi => h i (by omega)) (fun i hi => h' i (by omega)) (by omega)
      subst q1
      refine ⟨rfl, fun i hi => ?_⟩
      by_cases c : i = k
      · rw [c]; omega
      · exact q2 i (by omega)
section WRD
variable {B : Nat → Nat} {L : Nat} {bs bf : Nat → Int32} {n : Nat} {lc : Nat → Nat} {lt : Nat → Nat → Nat} {lA letters : Nat → Int32} {fam : Nat → Int64} {s e k : Nat}
theorem M_isWordE {next begins token error : Int32} {w : Nat} (h : ¬ error = 0) : p10_isWord next begins token error bf w = some false := by
  unfold p10_isWord
  rw [if_neg h]
  rfl
theorem isWord_ok (H : BUF B L bs bf) (P : PT B L s e k) (w : Nat) : ∃ r, p3_isWord (nI k) (nI s) (nI e) bs w = some r ∧ p10_isWord (nI e) (nI s) (nI k) 0 bf w = some r ∧ (r = true → k = 1) := by
  have hL := H.1
  have hw := txl_le w
  have hT : Int32.ofNat (txl w) = nI (txl w) := rfl
  obtain ⟨p1, p2, p3, p4, p5, p6, p7⟩ := P
  unfold p3_isWord p10_isWord
  rw [hT, nI_sub p1, if_pos rfl, n1]
  by_cases c1 : k = 1
  case neg =>
    have c1' : ¬ nI k = nI 1 := fun q => c1 ((nI_eq (by omega) (by omega)).mp q)
    rw [if_neg c1', if_neg c1']
    exact ⟨false, rfl, rfl, fun q => Bool.noConfusion q⟩
  subst c1
  rw [if_pos rfl, if_pos rfl]
  by_cases c2 : txl w = e - s
  case neg =>
    have c2' : ¬ nI (txl w) = nI (e - s) := fun q => c2 ((nI_eq (by omega) (by omega)).mp q)
    rw [if_neg c2', if_neg c2']
    exact ⟨false, rfl, rfl, fun q => Bool.noConfusion q⟩
  rw [c2, if_pos rfl, if_pos rfl]
  obtain ⟨r1, e1, h1⟩ := loop_up (fun t i (_ : Unit) => p3_isWord_L28 bs (nI s) w t (nI i)) (txl w) (fun i _ => ∀ j, j < i → chv w j = nI (B (s + j)))
    (fun r => (r = .inr () ∧ ∀ j, j < txl w → chv w j = nI (B (s + j))) ∨ (r = .inl false ∧ ¬ ∀ j, j < txl w → chv w j = nI (B (s + j)))) (by
      intro t _ hz
      refine ⟨.inr (), ?_, Or.inl ⟨rfl, hz⟩⟩
      try dsimp only
      rw [p3_isWord_L28, p3_isWord_L28_B, hT, if_pos (nI_le (Nat.le_refl _) (by omega))]) (by
      intro t i _ hi hz
      have hb := H.2 (s + i) (by omega)
      have hstep : p3_isWord_L28 bs (nI s) w (t + 1) (nI i) = if chv w i = nI (B (s + i)) then p3_isWord_L28 bs (nI s) w t (nI (i + 1)) else some (.inl false) := by
        rw [p3_isWord_L28, p3_isWord_L28_B, hT, if_neg (nI_ge hi (by omega)), gd_in hi (by omega), nI_clamp (by omega), nI_add, at_in (by omega) (by omega), hb.2.1]
        simp only [lb_eq]
        rw [n1, nI_add]
      by_cases c : chv w i = nI (B (s + i))
      · refine Or.inl ⟨(), ?_, fun j hj => ?_⟩
        · try dsimp only
          rw [hstep, if_pos c]
        · by_cases q : j = i
          · rw [q]; exact c
          · exact hz j (by omega)
      · refine Or.inr ⟨.inl false, ?_, Or.inr ⟨rfl, fun q => c (q i hi)⟩⟩
        try dsimp only
        rw [hstep, if_neg c]) FU 0 () (Nat.zero_le _) (by show txl w - 0 < 1024; omega) (fun j hj => absurd hj (Nat.not_lt_zero _))
  obtain ⟨r2, e2, h2⟩ := loop_up (fun t i (z : Bool) => p10_isWord_L39 (nI s) bf w t z (nI i)) (txl w) (fun i z => (z = true ∧ ∀ j, j < i → chv w j = nI (B (s + j))) ∨ (z = false ∧ ¬ ∀ j, j < txl w → chv w j = nI (B (s + j))))
    (fun r => (r = true ∧ ∀ j, j < txl w → chv w j = nI (B (s + j))) ∨ (r = false ∧ ¬ ∀ j, j < txl w → chv w j = nI (B (s + j)))) (by
      intro t z hz
      refine ⟨z, ?_, hz⟩
      try dsimp only
      rw [p10_isWord_L39, p10_isWord_L39_B, hT, if_pos (nI_le (Nat.le_refl _) (by omega))]
      cases z <;> rfl) (by
      intro t i z hi hz
      have hb := H.2 (s + i) (by omega)
      rcases hz with ⟨rfl, hz⟩ | ⟨rfl, hz⟩
      · have hstep : p10_isWord_L39 (nI s) bf w (t + 1) true (nI i) = if chv w i = nI (B (s + i)) then p10_isWord_L39 (nI s) bf w t true (nI (i + 1)) else p10_isWord_L39 (nI s) bf w t false (nI (i + 1)) := by
          rw [p10_isWord_L39, p10_isWord_L39_B, hT, cond_true, if_neg (nI_ge hi (by omega)), gd_in hi (by omega), nI_clamp (by omega), nI_add, gd_in (by omega) (by omega), nI_clamp (by omega), hb.2.2]
          simp only [lb_eq]
          rw [n1, nI_add]
        by_cases c : chv w i = nI (B (s + i))
        · refine Or.inl ⟨true, ?_, Or.inl ⟨rfl, fun j hj => ?_⟩⟩
          · try dsimp only
            rw [hstep, if_pos c]
          · by_cases q : j = i
            · rw [q]; exact c
            · exact hz j (by omega)
        · refine Or.inl ⟨false, ?_, Or.inr ⟨rfl, fun q => c (q i hi)⟩⟩
          try dsimp only
          rw [hstep, if_neg c]
      · exact Or.inr ⟨false, rfl, Or.inr ⟨rfl, hz⟩⟩) FU 0 true (Nat.zero_le _) (by show txl w - 0 < 1024; omega) (Or.inl ⟨rfl, fun j hj => absurd hj (Nat.not_lt_zero _)⟩)
  have e1' : p3_isWord_L28 bs (nI s) w FU (nI 0) = some r1 := e1
  have e2' : p10_isWord_L39 (nI s) bf w FU true (nI 0) = some r2 := e2
  unfold p10_isWord_J37
  rw [n0, e1', e2']
  rcases h1 with ⟨rfl, h1⟩ | ⟨rfl, h1⟩
  · rcases h2 with ⟨rfl, h2⟩ | ⟨rfl, h2⟩
    · exact ⟨true, rfl, rfl, fun _ => rfl⟩
    · exact absurd h1 h2
  · rcases h2 with ⟨rfl, h2⟩ | ⟨rfl, h2⟩
    · exact absurd h2 h1
    · exact ⟨false, rfl, rfl, fun _ => rfl⟩
/-- the token is the name of p -/
def SAME (B : Nat → Nat) (s e : Nat) (lc : Nat → Nat) (lt : Nat → Nat → Nat) (p : Nat) : Prop := lc p = e - s ∧ ∀ i, i < lc p → lt p i = tl B s i
theorem spelled_ok (H : BUF B L bs bf) (P : PT B L s e 1) (hn : n ≤ 16) (C : LCX n lc lA) (T : LTX n lc lt letters) (hlc : ∀ p, p < n → lc p ≤ 8) (hlt : ∀ p, p < n → ∀ i, i < 8 → lt p i < 27 ∧ 1 ≤ lt p i) {p : Nat} (hp : p < n) :
    ∃ r, p3_isSpelled 128 (nI 1) (nI s) (nI e) bs letters (nI p * 8) (pAt 16 lA (nI p)) = some r ∧ (r = true ↔ SAME B s e lc lt p) := by
  have hL := H.1
  have hl := hlc p hp
  obtain ⟨p1, p2, p3, p4, p5, p6, p7⟩ := P
  unfold p3_isSpelled SAME
  rw [at_in (by omega) (by omega), C p hp, nI_sub p1, n1, if_pos rfl, n8, nI_mul]
  by_cases c2 : lc p = e - s
  case neg =>
    rw [if_neg (fun q => c2 ((nI_eq (by omega) (by omega)).mp q))]
    exact ⟨false, rfl, fun q => Bool.noConfusion q, fun q => absurd q.1 c2⟩
  rw [if_pos (by rw [c2])]
  obtain ⟨r1, e1, h1⟩ := loop_up (fun t i (_ : Unit) => p3_isSpelled_L26 bs (nI s) 128 letters (nI (p * 8)) (nI (lc p)) t (nI i)) (lc p) (fun i _ => ∀ j, j < i → lt p j = tl B s j)
    (fun r => (r = .inr () ∧ ∀ j, j < lc p → lt p j = tl B s j) ∨ (r = .inl false ∧ ¬ ∀ j, j < lc p → lt p j = tl B s j)) (by
      intro t _ hz
      refine ⟨.inr (), ?_, Or.inl ⟨rfl, hz⟩⟩
      try dsimp only
      rw [p3_isSpelled_L26, p3_isSpelled_L26_B, if_pos (nI_le (Nat.le_refl _) (by omega))]) (by
      intro t i _ hi hz
      have hb := H.2 (s + i) (by omega)
      have h97 := p5 rfl (s + i) (by omega) (by omega)
      have hlti := hlt p hp i (by omega)
      have hstep : p3_isSpelled_L26 bs (nI s) 128 letters (nI (p * 8)) (nI (lc p)) (t + 1) (nI i) = if lt p i = tl B s i then p3_isSpelled_L26 bs (nI s) 128 letters (nI (p * 8)) (nI (lc p)) t (nI (i + 1)) else some (.inl false) := by
        rw [p3_isSpelled_L26, p3_isSpelled_L26_B, if_neg (nI_ge hi (by omega)), nI_add, nI_add, at_in (by omega) (by omega), at_in (by omega) (by omega), hb.2.1, T p hp i hi]
        simp only [lb_eq]
        rw [n1, nI_add]
        by_cases c : lt p i = tl B s i
        · rw [if_pos c, if_pos (by congr 1; unfold tl at c; omega)]
        · rw [if_neg c, if_neg (fun q => c (by have := (nI_eq (by omega) (by omega)).mp q; unfold tl; omega))]
      by_cases c : lt p i = tl B s i
      · refine Or.inl ⟨(), ?_, fun j hj => ?_⟩
        · try dsimp only
          rw [hstep, if_pos c]
        · by_cases q : j = i
          · rw [q]; exact c
          · exact hz j (by omega)
      · refine Or.inr ⟨.inl false, ?_, Or.inr ⟨rfl, fun q => c (q i hi)⟩⟩
        try dsimp only
        rw [hstep, if_neg c]) FU 0 () (Nat.zero_le _) (by show lc p - 0 < 1024; omega) (fun j hj => absurd hj (Nat.not_lt_zero _))
  have e1' : p3_isSpelled_L26 bs (nI s) 128 letters (nI (p * 8)) (nI (lc p)) FU (nI 0) = some r1 := e1
  rw [n0, e1']
  rcases h1 with ⟨rfl, h1⟩ | ⟨rfl, h1⟩
  · exact ⟨true, rfl, fun _ => ⟨c2, h1⟩, fun _ => rfl⟩
  · exact ⟨false, rfl, fun q => Bool.noConfusion q, fun q => absurd q.2 h1⟩
theorem named_ok (H : BUF B L bs bf) (P : PT B L s e 1) (hn : n ≤ 16) (C : LCX n lc lA) (T : LTX n lc lt letters) (hlc : ∀ p, p < n → lc p ≤ 8) (hlt : ∀ p, p < n → ∀ i, i < 8 → lt p i < 27 ∧ 1 ≤ lt p i) (h0 : fam 0 = lN n) (N : NMM n lc lt fam) :
    ∃ r, p8_personNamed (nI 1) (nI s) (nI e) (nI n) lA letters bs = some r ∧ p10_personHere (nI e) (nI s) (nI 1) bf fam = some r ∧ ((∃ p, p < n ∧ r = nI p) ∨ r = -1) := by
  have hL := H.1
  have P0 := P
  obtain ⟨p1, p2, p3, p4, p5, p6, p7⟩ := P
  have hpers : p10_persons fam = some (nI n) := by
    unfold p10_persons
    rw [n0, gd_in (by omega) (by omega), nI_clamp (by omega), h0, lN_i]
  obtain ⟨r1, e1, h1⟩ := loop_up (fun t i (_ : Unit) => p8_personNamed_L2 lA letters (nI n) bs (nI 1) (nI s) (nI e) t (nI i)) n (fun i _ => ∀ q, q < i → ¬ SAME B s e lc lt q)
    (fun r => (r = .inr () ∧ ∀ q, q < n → ¬ SAME B s e lc lt q) ∨ ∃ p, p < n ∧ r = .inl (nI p) ∧ SAME B s e lc lt p ∧ ∀ q, q < p → ¬ SAME B s e lc lt q) (by
      intro t _ hz
      refine ⟨.inr (), ?_, Or.inl ⟨rfl, hz⟩⟩
      try dsimp only
      rw [p8_personNamed_L2, p8_personNamed_L2_B, if_pos (nI_le (Nat.le_refl _) (by omega))]) (by
      intro t i _ hi hz
      obtain ⟨r, e2, h2⟩ := spelled_ok H P0 hn C T hlc hlt hi
      cases r with
      | true =>
        refine Or.inr ⟨.inl (nI i), ?_, Or.inr ⟨i, hi, rfl, h2.mp rfl, hz⟩⟩
        try dsimp only
        rw [p8_personNamed_L2, p8_personNamed_L2_B, if_neg (nI_ge hi (by omega)), e2]
        rfl
      | false =>
        refine Or.inl ⟨(), ?_, fun q hq => ?_⟩
        · try dsimp only
          rw [p8_personNamed_L2, p8_personNamed_L2_B, if_neg (nI_ge hi (by omega)), e2]
          simp only [ob, cond_false, lb_eq]
          rw [n1, nI_add]
        · by_cases c : q = i
          · rw [c]; exact fun z => Bool.noConfusion (h2.mpr z)
          · exact hz q (by omega)) FU 0 () (Nat.zero_le _) (by show n - 0 < 1024; omega) (fun q hq => absurd hq (Nat.not_lt_zero _))
  have e1' : p8_personNamed_L2 lA letters (nI n) bs (nI 1) (nI s) (nI e) FU (nI 0) = some r1 := e1
  obtain ⟨r2, e2, h2⟩ := loop_up (fun t i (_ : Unit) => p10_personHere_L2 (nI s) bf fam (nI e) (nI 1) t (nI i)) n (fun i _ => ∀ q, q < i → ¬ SAME B s e lc lt q)
    (fun r => (r = .inr () ∧ ∀ q, q < n → ¬ SAME B s e lc lt q) ∨ ∃ p, p < n ∧ r = .inl (nI p) ∧ SAME B s e lc lt p ∧ ∀ q, q < p → ¬ SAME B s e lc lt q) (by
      intro t _ hz
      refine ⟨.inr (), ?_, Or.inl ⟨rfl, hz⟩⟩
      try dsimp only
      rw [p10_personHere_L2, p10_personHere_L2_B, hpers]
      simp only [ob]
      rw [if_pos (nI_le (Nat.le_refl _) (by omega))]) (by
      intro t i _ hi hz
      by_cases c8 : e - s ≤ 8
      · have hlci := hlc i hi
        have hd1 : ∀ j, j < lc i → lt i j < 27 ∧ 1 ≤ lt i j := fun j hj => hlt i hi j (by omega)
        have hd2 : ∀ j, j < e - s → tl B s j < 27 ∧ 1 ≤ tl B s j := fun j hj => by have := p5 rfl (s + j) (by omega) (by omega); unfold tl; omega
        have b1 := nmb_lt (l := lt i) (k := lc i) (fun j hj => (hd1 j hj).1)
        have b2 := nmb_lt (l := tl B s) (k := e - s) (fun j hj => (hd2 j hj).1)
        have k1 : 27 ^ lc i ≤ 27 ^ 8 := Nat.pow_le_pow_right (by omega) (by omega)
        have k2 : 27 ^ (e - s) ≤ 27 ^ 8 := Nat.pow_le_pow_right (by omega) (by omega)
        have hS : lN (nmb (lt i) (lc i)) = lN (nmb (tl B s) (e - s)) ↔ SAME B s e lc lt i := by
          rw [lN_eqB (by omega) (by omega)]
          constructor
          · intro q
            have := nmb_inj _ _ _ _ hd1 hd2 q
            exact ⟨this.1, this.2⟩
          · rintro ⟨q1, q2⟩
            rw [q1] at q2 ⊢
            have key : ∀ m, (∀ j, j < m → lt i j = tl B s j) → nmb (lt i) m = nmb (tl B s) m := by
              intro m
              induction m with
              | zero => intro _; rfl
              | succ m ih =>
                intro h
                show nmb (lt i) m * 27 + lt i m = nmb (tl B s) m * 27 + tl B s m
                rw [ih (fun j hj => h j (by omega)), h m (by omega)]
            exact key _ q2
        have hstep : p10_personHere_L2 (nI s) bf fam (nI e) (nI 1) (t + 1) (nI i) = if lN (nmb (lt i) (lc i)) = lN (nmb (tl B s) (e - s)) then some (.inl (nI i)) else p10_personHere_L2 (nI s) bf fam (nI e) (nI 1) t (nI (i + 1)) := by
          rw [p10_personHere_L2, p10_personHere_L2_B, hpers]
          simp only [ob]
          rw [if_neg (nI_ge hi (by omega)), n1, if_pos rfl, nI_sub p1, n8, if_neg (nI_nlt c8 (by omega)), n2, M_ofPerson (by omega) (by omega), N i hi, M_nameHere H P0 c8]
          simp only [lb_eq]
          rw [nI_add]
        by_cases c : lN (nmb (lt i) (lc i)) = lN (nmb (tl B s) (e - s))
        · refine Or.inr ⟨.inl (nI i), ?_, Or.inr ⟨i, hi, rfl, hS.mp c, hz⟩⟩
          try dsimp only
          rw [hstep, if_pos c]
        · refine Or.inl ⟨(), ?_, fun q hq => ?_⟩
          · try dsimp only
            rw [hstep, if_neg c]
          · by_cases z : q = i
            · rw [z]; exact fun z => c (hS.mpr z)
            · exact hz q (by omega)
      · refine Or.inr ⟨.inr (), ?_, Or.inl ⟨rfl, fun q hq z => ?_⟩⟩
        · try dsimp only
          rw [p10_personHere_L2, p10_personHere_L2_B, hpers]
          simp only [ob]
          rw [if_neg (nI_ge hi (by omega)), n1, if_pos rfl, nI_sub p1, n8, if_pos (nI_lt (by omega) (by omega))]
        · have := hlc q hq
          have := z.1
          omega) FU 0 () (Nat.zero_le _) (by show n - 0 < 1024; omega) (fun q hq => absurd hq (Nat.not_lt_zero _))
  have e2' : p10_personHere_L2 (nI s) bf fam (nI e) (nI 1) FU (nI 0) = some r2 := e2
  unfold p8_personNamed p10_personHere
  rw [n0, e1', e2']
  rcases h1 with ⟨rfl, h1⟩ | ⟨p, hp, rfl, h1, h1'⟩
  · rcases h2 with ⟨rfl, h2⟩ | ⟨q, hq, rfl, h2, h2'⟩
    · exact ⟨-1, rfl, rfl, Or.inr rfl⟩
    · exact absurd h2 (h1 q hq)
  · rcases h2 with ⟨rfl, h2⟩ | ⟨q, hq, rfl, h2, h2'⟩
    · exact absurd h1 (h2 p hp)
    · have : p = q := by
        rcases Nat.lt_trichotomy p q with z | z | z
        · exact absurd h1 (h2' p z)
        · exact z
        · exact absurd h2 (h1' q z)
      subst this
      exact ⟨nI p, rfl, rfl, Or.inl ⟨p, hp, rfl⟩⟩
end WRD
