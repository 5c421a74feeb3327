section MLAY
variable {n u : Nat} {pr a b g : Nat → Nat} {an : Nat → Nat → Bool} {fam : Nat → Int64} {ge lv : Nat → Int32}
theorem upd_same {f : Nat → Int32} {k : Nat} {x : Int32} (h : x = f k) : upd f k x = f := by
  funext j
  by_cases e : j = k
  · subst e; rw [upd_eq, h]
  · rw [upd_ne e]
theorem M_round (W : WF n u pr a b g) (F : MX n u pr a b fam) (k : Nat) (hk : ∀ p, p < n → g p < k → ge p = nI (g p)) :
    ∃ (c : Bool) (ge' : Nat → Int32), p10_layGenerations_L33 fam FU false (nI 0) ge = some (c, ge') ∧ (∀ p, p < n → g p < k + 1 → ge' p = nI (g p)) ∧ (c = false → ge' = ge) ∧ ((∀ p, p < n → ge p = nI (g p)) → c = false) := by
  have hn := W.n16
  have hLP := loop_all (fun f i (s : Bool × (Nat → Int32)) => p10_layGenerations_L33 fam f s.1 (nI i) s.2) n
    (fun i s => (∀ p, p < n → (g p < k ∨ (g p < k + 1 ∧ p < i)) → s.2 p = nI (g p)) ∧ (s.1 = false → s.2 = ge) ∧ ((∀ p, p < n → ge p = nI (g p)) → s.1 = false))
    (fun r => (∀ p, p < n → g p < k + 1 → r.2 p = nI (g p)) ∧ (r.1 = false → r.2 = ge) ∧ ((∀ p, p < n → ge p = nI (g p)) → r.1 = false)) ?_ ?_ FU 0 (false, ge) (Nat.zero_le _) (by show n - 0 < 1024; omega) ⟨fun p hp h => hk p hp (by omega), fun _ => rfl, fun _ => rfl⟩
  · obtain ⟨r, h1, h2⟩ := hLP
    exact ⟨r.1, r.2, h1, h2⟩
  · intro f s hs
    obtain ⟨c, ge1⟩ := s
    refine ⟨(c, ge1), ?_, fun p hp h => hs.1 p hp (by omega), hs.2⟩
    try dsimp only
    rw [p10_layGenerations_L33, p10_layGenerations_L33_B, M_persons F]
    simp only [ob]
    rw [if_pos (nI_le (Nat.le_refl _) (by omega))]
  · intro f i s hi hs
    obtain ⟨c, ge1⟩ := s
    obtain ⟨hA, hB, hC⟩ := hs
    dsimp only at hA hB hC
    -- what is due at i
    obtain ⟨d, hd, hdr⟩ : ∃ d : Int32, p10_layGenerations_L33 fam (f + 1) c (nI i) ge1 = p10_layGenerations_J66 (p10_layGenerations_L33 fam f) ge1 c (nI i) d ∧ ((pr i < 12 → ge1 (a (pr i)) = nI (g (a (pr i))) ∧ ge1 (b (pr i)) = nI (g (b (pr i)))) → d = nI (g i)) := by
      rw [p10_layGenerations_L33, p10_layGenerations_L33_B, M_persons F]
      simp only [ob]
      rw [if_neg (nI_ge hi (by omega)), M_parentsOf F hn hi]
      simp only
      by_cases h12 : pr i < 12
      · have hw := W.pr12 hi h12
        obtain ⟨q1, q2, q3, q4, -⟩ := W.up hi h12
        rw [oN_in h12, if_neg (nI_m1 (by omega)), M_levelOf W F hw]
        simp only [lb]
        refine ⟨_, rfl, fun h => ?_⟩
        obtain ⟨e1, e2⟩ := h h12
        have := W.gen hi h12
        have := W.glt hi
        rw [e1, e2, imax_nI (by omega) (by omega), n1, nI_add, W.gen hi h12]
      · rw [oN_out h12, if_pos rfl]
        exact ⟨_, rfl, fun _ => by rw [W.gen0 hi h12]; rfl⟩
    have hJ : p10_layGenerations_J66 (p10_layGenerations_L33 fam f) ge1 c (nI i) d = p10_layGenerations_L33 fam f (if c then true else if d = ge1 i then false else true) (nI (i + 1)) (upd ge1 i d) := by
      have h86 : ∀ v, p10_layGenerations_J86 (p10_layGenerations_L33 fam f) ge1 (nI i) v d = p10_layGenerations_L33 fam f v (nI (i + 1)) (upd ge1 i d) := by
        intro v
        unfold p10_layGenerations_J86
        rw [gd_in (by omega) (by omega), nI_clamp (by omega)]
        simp only [lb]
        rw [n1, nI_add]
      unfold p10_layGenerations_J66 p10_layGenerations_J80
      rw [gd_in (by omega) (by omega), nI_clamp (by omega), h86, h86]
      cases c with
      | true => rfl
      | false =>
        rw [cond_false, if_neg (show ¬ (false = true) by decide)]
        by_cases e : d = ge1 i
        · rw [if_pos e, if_pos e]
        · rw [if_neg e, if_neg e]
    refine ⟨(if c then true else if d = ge1 i then false else true, upd ge1 i d), by rw [hd, hJ], fun p hp h => ?_, fun hc => ?_, fun hall => ?_⟩
    · dsimp only
      by_cases e : p = i
      · subst e
        rw [upd_eq]
        refine hdr fun h12 => ?_
        obtain ⟨q1, q2, q3, q4, -⟩ := W.up hi h12
        exact ⟨hA _ q1 (Or.inl (by omega)), hA _ q2 (Or.inl (by omega))⟩
      · rw [upd_ne e]; exact hA p hp (by omega)
    · dsimp only at hc ⊢
      cases c with
      | true => rw [if_pos rfl] at hc; cases hc
      | false =>
        rw [if_neg (by decide)] at hc
        by_cases e : d = ge1 i
        · rw [upd_same e]; exact hB rfl
        · rw [if_neg e] at hc; cases hc
    · dsimp only
      have hc := hC hall
      have hge := hB hc
      rw [hc, if_neg (by decide), if_pos]
      rw [hge, hall i hi]
      refine hdr fun h12 => ?_
      obtain ⟨q1, q2, q3, q4, -⟩ := W.up hi h12
      rw [hge]
      exact ⟨hall _ q1, hall _ q2⟩
theorem M_layGen (W : WF n u pr a b g) (F : MX n u pr a b fam) :
    ∃ ge' lv', p10_layGenerations fam ge lv = some (ge', lv', nI (rowsN g n)) ∧ (∀ p, p < n → ge' p = nI (g p)) ∧ ∀ w, w < u → lv' w = nI (lw a b g w) := by
  have hn := W.n16
  have hu := W.u12
  obtain ⟨ge1, e1, -⟩ := loop_all (fun k i (s : Nat → Int32) => p10_layGenerations_L2 fam k (nI i) s) n (fun _ _ => True) (fun _ => True) (by
      intro k s _
      refine ⟨s, ?_, trivial⟩
      try dsimp only
      rw [p10_layGenerations_L2, p10_layGenerations_L2_B, M_persons F]
      simp only [ob]
      rw [if_pos (nI_le (Nat.le_refl _) (by omega))]) (by
      intro k i s hi _
      refine ⟨upd s i 0, ?_, trivial⟩
      try dsimp only
      rw [p10_layGenerations_L2, p10_layGenerations_L2_B, M_persons F]
      simp only [ob]
      rw [if_neg (nI_ge hi (by omega)), gd_in (by omega) (by omega), nI_clamp (by omega)]
      simp only [lb]
      rw [n1, nI_add]) FU 0 ge (Nat.zero_le _) (by show n - 0 < 1024; omega) trivial
  have hz : (0 ≤ 18) ∧ (∀ p, p < n → g p < 0 → ge1 p = nI (g p)) ∧ (true = false → ∀ p, p < n → ge1 p = nI (g p)) ∧ (0 = 18 → true = false) :=
    ⟨by omega, fun p _ h => absurd h (Nat.not_lt_zero _), fun z => (by cases z), fun z => (by omega)⟩
  obtain ⟨ge2, e2, f2⟩ := loop_ms (fun f (s : Nat × Bool × (Nat → Int32)) => p10_layGenerations_L25 fam f s.2.1 s.2.2)
    (fun s => s.1 ≤ 18 ∧ (∀ p, p < n → g p < s.1 → s.2.2 p = nI (g p)) ∧ (s.2.1 = false → ∀ p, p < n → s.2.2 p = nI (g p)) ∧ (s.1 = 18 → s.2.1 = false)) (fun s => 18 - s.1)
    (fun r => ∀ p, p < n → r p = nI (g p)) (by
      intro f s hs
      obtain ⟨k, c, gs⟩ := s
      obtain ⟨h1, h2, h3, h4⟩ := hs
      dsimp only at h1 h2 h3 h4 ⊢
      cases c with
      | false =>
        refine Or.inr ⟨gs, ?_, h3 rfl⟩
        rw [p10_layGenerations_L25, p10_layGenerations_L25_B, cond_false]
      | true =>
        have hk : k ≠ 18 := fun e => by have := h4 e; cases this
        obtain ⟨c2, ge3, r1, r2, r3, r4⟩ := M_round W F k h2
        refine Or.inl ⟨(k + 1, c2, ge3), ?_, ⟨by show k + 1 ≤ 18; omega, r2, ?_, ?_⟩, by show 18 - (k + 1) < 18 - k; omega⟩
        · rw [p10_layGenerations_L25, p10_layGenerations_L25_B, cond_true, n0, r1]
          rfl
        · intro hc2 p hp
          dsimp only at hc2 ⊢
          have e3 := r3 hc2
          -- a round that changes nothing, again and again
          have hst : ∀ j, ∀ p, p < n → g p < j → gs p = nI (g p) := by
            intro j
            induction j with
            | zero => intro p _ h; omega
            | succ j ih =>
              obtain ⟨c4, ge4, s1, s2, s3, -⟩ := M_round W F j ih
              rw [r1] at s1
              cases s1
              rw [e3] at s2
              exact s2
          rw [e3]
          exact hst _ p hp (Nat.lt_succ_self _)
        · intro e18
          dsimp only at e18 ⊢
          exact r4 fun p hp => h2 p hp (by have := W.glt hp; omega)) FU (0, true, ge1) hz (by show 18 - 0 < 1024; omega)
  try dsimp only at e2
  have e3 := ex_eq (loop_all (fun k i (s : Int32) => p10_layGenerations_L109 fam ge2 k (nI i) s) n (fun i s => s = nI (rowsN g i)) (fun r => r = nI (rowsN g n)) (by
      intro k s hs
      refine ⟨s, ?_, hs⟩
      try dsimp only
      rw [p10_layGenerations_L109, p10_layGenerations_L109_B, M_persons F]
      simp only [ob]
      rw [if_pos (nI_le (Nat.le_refl _) (by omega))]) (by
      intro k i s hi hs
      have hr : rowsN g i ≤ 16 := rowsN_le fun p hp => by have := W.glt (p := p) (by omega); omega
      refine ⟨nI (rowsN g (i + 1)), ?_, rfl⟩
      have hg := W.glt hi
      try dsimp only
      rw [p10_layGenerations_L109, p10_layGenerations_L109_B, M_persons F]
      simp only [ob]
      rw [if_neg (nI_ge hi (by omega)), gd_in (by omega) (by omega), nI_clamp (by omega), f2 i hi, n1, nI_add, hs, imax_nI (by omega) (by omega)]
      simp only [lb]
      rw [nI_add]
      rfl) FU 0 (nI 0) (Nat.zero_le _) (by show n - 0 < 1024; omega) rfl)
  try dsimp only at e3
  obtain ⟨lv2, e4, f4⟩ := loop_all (fun k i (s : Nat → Int32) => p10_layGenerations_L144 fam ge2 k (nI i) s) u (fun i s => ∀ w, w < i → s w = nI (lw a b g w)) (fun r => ∀ w, w < u → r w = nI (lw a b g w)) (by
      intro k s hs
      refine ⟨s, ?_, hs⟩
      try dsimp only
      rw [p10_layGenerations_L144, p10_layGenerations_L144_B, M_unions F]
      simp only [ob]
      rw [if_pos (nI_le (Nat.le_refl _) (by omega))]) (by
      intro k i s hi hs
      obtain ⟨h1, h2, -⟩ := W.par hi
      have g1 := W.glt h1
      have g2 := W.glt h2
      refine ⟨upd s i (nI (lw a b g i)), ?_, fun w hw => ?_⟩
      · try dsimp only
        rw [p10_layGenerations_L144, p10_layGenerations_L144_B, M_unions F]
        simp only [ob]
        rw [if_neg (nI_ge hi (by omega)), M_levelOf W F hi]
        simp only
        rw [gd_in (by omega) (by omega), nI_clamp (by omega), f2 _ h1, f2 _ h2, imax_nI (by omega) (by omega)]
        simp only [lb]
        rw [n1, nI_add]
        rfl
      · by_cases e : w = i
        · rw [e, upd_eq]
        · rw [upd_ne e]; exact hs w (by omega)) FU 0 lv (Nat.zero_le _) (by show u - 0 < 1024; omega) (fun w hw => by omega)
  try dsimp only at e4
  refine ⟨ge2, lv2, ?_, f2, f4⟩
  unfold p10_layGenerations
  rw [n0, e1]
  simp only [ob]
  unfold p10_layGenerations_J23
  rw [e2]
  simp only [ob]
  unfold p10_layGenerations_J102
  rw [n0, e3]
  simp only [ob]
  unfold p10_layGenerations_J142
  rw [n0, e4]
  rfl
end MLAY
