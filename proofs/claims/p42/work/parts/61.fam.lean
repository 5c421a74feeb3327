/-! the family: n persons, u unions; pr p: the union of p's parents, 12 without; a w, b w: its partners; g: generations; an p q: q is an ancestor of p -/
def oN (k : Nat) : Int32 := if k < 12 then nI k else -1
def WF (n u : Nat) (pr a b g : Nat → Nat) : Prop :=
  n ≤ 16 ∧ u ≤ 12 ∧ (∀ p, p < n → pr p = 12 ∨ pr p < u) ∧ (∀ w, w < u → a w < n ∧ b w < n ∧ a w ≠ b w) ∧
  (∀ p, p < n → g p = if pr p < 12 then max (g (a (pr p))) (g (b (pr p))) + 1 else 0) ∧ ∀ p, p < n → g p < n
def ANC (n : Nat) (pr a b : Nat → Nat) (an : Nat → Nat → Bool) : Prop :=
  ∀ p, p < n → ∀ q, an p q = if pr p < 12 then (q == a (pr p) || q == b (pr p) || an (a (pr p)) q || an (b (pr p)) q) else false
/-- the rows of the class's family that tell of parents and partners -/
def FX (n u : Nat) (pr a b : Nat → Nat) (pu fp sp : Nat → Int32) : Prop :=
  (∀ p, p < n → pu p = oN (pr p)) ∧ (∀ w, w < u → fp w = nI (a w) ∧ sp w = nI (b w))
section FAM
variable {n u : Nat} {pr a b g : Nat → Nat} {an : Nat → Nat → Bool} {pu fp sp ge am lv rf : Nat → Int32}
theorem WF.n16 (W : WF n u pr a b g) : n ≤ 16 := W.1
theorem WF.u12 (W : WF n u pr a b g) : u ≤ 12 := W.2.1
theorem WF.pr12 (W : WF n u pr a b g) {p : Nat} (hp : p < n) (h : pr p < 12) : pr p < u := by
  rcases W.2.2.1 p hp with e | e <;> omega
theorem WF.no (W : WF n u pr a b g) {p : Nat} (hp : p < n) (h : ¬ pr p < 12) : pr p = 12 := by
  rcases W.2.2.1 p hp with e | e
  · exact e
  · have := W.u12; omega
theorem WF.par (W : WF n u pr a b g) {w : Nat} (h : w < u) : a w < n ∧ b w < n ∧ a w ≠ b w := W.2.2.2.1 w h
theorem WF.gen (W : WF n u pr a b g) {p : Nat} (hp : p < n) (h : pr p < 12) : g p = max (g (a (pr p))) (g (b (pr p))) + 1 := by
  have := W.2.2.2.2.1 p hp
  rwa [if_pos h] at this
theorem WF.gen0 (W : WF n u pr a b g) {p : Nat} (hp : p < n) (h : ¬ pr p < 12) : g p = 0 := by
  have := W.2.2.2.2.1 p hp
  rwa [if_neg h] at this
theorem WF.glt (W : WF n u pr a b g) {p : Nat} (hp : p < n) : g p < n := W.2.2.2.2.2 p hp
theorem oN_in {k : Nat} (h : k < 12) : oN k = nI k := if_pos h
theorem oN_12 : oN 12 = -1 := rfl
theorem oN_out {k : Nat} (h : ¬ k < 12) : oN k = -1 := if_neg h
theorem oN_m1 {k : Nat} : oN k = -1 ↔ ¬ k < 12 := by
  unfold oN
  by_cases h : k < 12
  · rw [if_pos h]; exact ⟨fun q => absurd q (nI_m1 (by omega)), fun q => absurd h q⟩
  · rw [if_neg h]; exact ⟨fun _ => h, fun _ => rfl⟩
theorem oN_nI {k w : Nat} (hw : w < 12) : oN k = nI w ↔ k = w := by
  unfold oN
  by_cases h : k < 12
  · rw [if_pos h]; exact nI_eq (by omega) (by omega)
  · rw [if_neg h]; exact ⟨fun q => absurd q (m1_nI (by omega)), fun q => absurd (q ▸ hw) h⟩
theorem FX.at_pu (F : FX n u pr a b pu fp sp) (hn : n ≤ 16) {p : Nat} (hp : p < n) : pAt 16 pu (nI p) = oN (pr p) := by
  rw [at_in (by omega) (by omega), F.1 p hp]
theorem FX.at_fp (F : FX n u pr a b pu fp sp) (hu : u ≤ 12) {w : Nat} (hw : w < u) : pAt 12 fp (nI w) = nI (a w) := by
  rw [at_in (by omega) (by omega), (F.2 w hw).1]
theorem FX.at_sp (F : FX n u pr a b pu fp sp) (hu : u ≤ 12) {w : Nat} (hw : w < u) : pAt 12 sp (nI w) = nI (b w) := by
  rw [at_in (by omega) (by omega), (F.2 w hw).2]
theorem X1_hasParents (W : WF n u pr a b g) (F : FX n u pr a b pu fp sp) {p : Nat} (hp : p < n) : p1_hasParents pu (nI p) = decide (pr p < 12) := by
  unfold p1_hasParents
  rw [F.at_pu W.n16 hp]
  by_cases h : pr p < 12
  · rw [if_neg (fun q => (oN_m1.mp q) h), decide_eq_true h]
  · rw [if_pos (oN_m1.mpr h), decide_eq_false h]
theorem X1_firstParent (W : WF n u pr a b g) (F : FX n u pr a b pu fp sp) {p : Nat} (hp : p < n) (h : pr p < 12) : p1_firstParent fp pu (nI p) = nI (a (pr p)) := by
  unfold p1_firstParent
  rw [F.at_pu W.n16 hp, oN_in h, F.at_fp W.u12 (W.pr12 hp h)]
theorem X1_secondParent (W : WF n u pr a b g) (F : FX n u pr a b pu fp sp) {p : Nat} (hp : p < n) (h : pr p < 12) : p1_secondParent pu sp (nI p) = nI (b (pr p)) := by
  unfold p1_secondParent
  rw [F.at_pu W.n16 hp, oN_in h, F.at_sp W.u12 (W.pr12 hp h)]
theorem X1_firstParent0 (W : WF n u pr a b g) (F : FX n u pr a b pu fp sp) {p : Nat} (hp : p < n) (h : ¬ pr p < 12) : p1_firstParent fp pu (nI p) = -1 := by
  unfold p1_firstParent
  rw [F.at_pu W.n16 hp, oN_out h, at_m1]
theorem X1_secondParent0 (W : WF n u pr a b g) (F : FX n u pr a b pu fp sp) {p : Nat} (hp : p < n) (h : ¬ pr p < 12) : p1_secondParent pu sp (nI p) = -1 := by
  unfold p1_secondParent
  rw [F.at_pu W.n16 hp, oN_out h, at_m1]
theorem X1_isPartner (W : WF n u pr a b g) (F : FX n u pr a b pu fp sp) {w p : Nat} (hw : w < u) (hp : p < 2147483648) : p1_isPartner fp sp (nI w) (nI p) = (a w == p || b w == p) := by
  have h1 := (W.par hw).1
  have h2 := (W.par hw).2.1
  have hn := W.n16
  unfold p1_isPartner
  rw [F.at_fp W.u12 hw, F.at_sp W.u12 hw]
  by_cases e : a w = p
  · rw [if_pos (by rw [e])]; simp [e]
  · rw [if_neg (fun q => e ((nI_eq (by omega) hp).mp q))]
    by_cases e2 : b w = p
    · rw [if_pos (by rw [e2])]; simp [e2]
    · rw [if_neg (fun q => e2 ((nI_eq (by omega) hp).mp q))]; simp [e, e2]
/-- generation and ancestors of p are as they should be -/
def RT (g : Nat → Nat) (an : Nat → Nat → Bool) (ge am : Nat → Int32) (p : Nat) : Prop := ge p = nI (g p) ∧ ∀ q, bt (am p) q = an p q
theorem X1_lineage {p : Nat} (hp : p < 16) (h : ∀ q, bt (am p) q = an p q) (q : Nat) : bt (p1_lineageMask am (nI p)) q = (q == p || an p q) := by
  unfold p1_lineageMask
  rw [bt_or, bt_bit hp, at_in hp (by omega), h]
  rfl
/-- passDown at p, whose parents are right: behind it p is right, the others stay -/
theorem X1_passDown (W : WF n u pr a b g) (AN : ANC n pr a b an) (F : FX n u pr a b pu fp sp) {p : Nat} (hp : p < n) (h0 : ¬ pr p < 12 → RT g an ge am p)
    (hr : pr p < 12 → RT g an ge am (a (pr p)) ∧ RT g an ge am (b (pr p))) :
    ∃ (c : Bool) (am' ge' : Nat → Int32), p1_passDown am fp ge pu sp (nI p) = (c, am', ge') ∧ RT g an ge' am' p ∧ (∀ q, q ≠ p → ge' q = ge q ∧ am' q = am q) ∧ (c = false → am' = am ∧ ge' = ge) := by
  have hn := W.n16
  unfold p1_passDown
  rw [X1_hasParents W F hp]
  by_cases h : pr p < 12
  · obtain ⟨⟨r1, r2⟩, r3, r4⟩ := hr h
    have hw := W.pr12 hp h
    obtain ⟨k1, k2, k3⟩ := W.par hw
    have kg1 := W.glt k1
    have kg2 := W.glt k2
    have hg := W.gen hp h
    have hgp := W.glt hp
    rw [decide_eq_true h]
    simp only [cond_true, lb]
    rw [X1_firstParent W F hp h, X1_secondParent W F hp h, at_in (i := a (pr p)) (by omega) (by omega), at_in (i := b (pr p)) (by omega) (by omega), r1, r3, imax_nI (by omega) (by omega), n1, nI_add, ← hg, at_in (i := p) (by omega) (by omega), at_in (i := p) (by omega) (by omega)]
    have hm : ∀ q, bt (p1_lineageMask am (nI (a (pr p))) ||| p1_lineageMask am (nI (b (pr p)))) q = an p q := by
      intro q
      rw [bt_or, X1_lineage (by omega) r2, X1_lineage (by omega) r4, AN p hp q, if_pos h]
      cases (q == a (pr p)) <;> cases (q == b (pr p)) <;> cases an (a (pr p)) q <;> rfl
    have hJ : ∃ (c : Bool) (am' ge' : Nat → Int32), p1_passDown_J86 am ge (nI p) (nI (g p)) (p1_lineageMask am (nI (a (pr p))) ||| p1_lineageMask am (nI (b (pr p)))) = (c, am', ge') ∧ RT g an ge' am' p ∧ (∀ q, q ≠ p → ge' q = ge q ∧ am' q = am q) ∧ (c = false → am' = am ∧ ge' = ge) := by
      refine ⟨true, upd am p _, upd ge p (nI (g p)), ?_, ⟨upd_eq, fun q => by rw [upd_eq]; exact hm q⟩, fun q hq => ⟨upd_ne hq, upd_ne hq⟩, fun z => by cases z⟩
      unfold p1_passDown_J86
      simp only [lb]
      rw [put_in (by omega) (by omega), put_in (by omega) (by omega)]
    by_cases e1 : nI (g p) = ge p
    · rw [if_pos e1]
      by_cases e2 : (p1_lineageMask am (nI (a (pr p))) ||| p1_lineageMask am (nI (b (pr p)))) = am p
      · rw [if_pos e2]
        exact ⟨false, am, ge, rfl, ⟨e1.symm, fun q => by rw [← e2]; exact hm q⟩, fun q _ => ⟨rfl, rfl⟩, fun _ => ⟨rfl, rfl⟩⟩
      · rw [if_neg e2]; exact hJ
    · rw [if_neg e1]; exact hJ
  · rw [decide_eq_false h]
    exact ⟨false, am, ge, rfl, h0 h, fun q _ => ⟨rfl, rfl⟩, fun _ => ⟨rfl, rfl⟩⟩
/-- all persons of generation at most k are right -/
def RTk (n : Nat) (g : Nat → Nat) (an : Nat → Nat → Bool) (ge am : Nat → Int32) (k : Nat) : Prop := ∀ p, p < n → g p ≤ k → RT g an ge am p
theorem X1_pass (W : WF n u pr a b g) (AN : ANC n pr a b an) (F : FX n u pr a b pu fp sp) (k : Nat) (hk : RTk n g an ge am k) :
    ∃ (c : Bool) (am' ge' : Nat → Int32), p1_refresh_L34 fp pu (nI n) sp FU false (nI 0) am ge = some (c, am', ge') ∧ RTk n g an ge' am' (k + 1) ∧ (c = false → am' = am ∧ ge' = ge) := by
  have hn := W.n16
  have hi0 : (∀ p, p < n → (g p ≤ k ∨ (g p ≤ k + 1 ∧ p < 0)) → RT g an ge am p) ∧ (false = false → am = am ∧ ge = ge) := ⟨fun p hp h => by
    rcases h with h | h
    · exact hk p hp h
    · omega, fun _ => ⟨rfl, rfl⟩⟩
  have hLP := loop_all (fun f i (s : Bool × (Nat → Int32) × (Nat → Int32)) => p1_refresh_L34 fp pu (nI n) sp f s.1 (nI i) s.2.1 s.2.2) n
    (fun i s => (∀ p, p < n → (g p ≤ k ∨ (g p ≤ k + 1 ∧ p < i)) → RT g an s.2.2 s.2.1 p) ∧ (s.1 = false → s.2.1 = am ∧ s.2.2 = ge))
    (fun r => RTk n g an r.2.2 r.2.1 (k + 1) ∧ (r.1 = false → r.2.1 = am ∧ r.2.2 = ge)) ?_ ?_ FU 0 (false, am, ge) (Nat.zero_le _) (by show n - 0 < 1024; omega) hi0
  · obtain ⟨r, h1, h2⟩ := hLP
    exact ⟨r.1, r.2.1, r.2.2, h1, h2⟩
  · intro f s hs
    obtain ⟨c, am1, ge1⟩ := s
    refine ⟨(c, am1, ge1), ?_, fun p hp hg => hs.1 p hp (by omega), hs.2⟩
    try dsimp only
    rw [p1_refresh_L34, p1_refresh_L34_B]
    rw [if_pos (nI_le (Nat.le_refl n) (by omega))]
  · intro f i s hi hs
    obtain ⟨c, am1, ge1⟩ := s
    dsimp only at hs
    have hpar : pr i < 12 → a (pr i) < n ∧ b (pr i) < n ∧ g (a (pr i)) < g i ∧ g (b (pr i)) < g i := fun h => by
      have hw := W.par (W.pr12 hi h)
      have hg := W.gen hi h
      exact ⟨hw.1, hw.2.1, by omega, by omega⟩
    by_cases hgi : g i ≤ k + 1
    · obtain ⟨c2, am2, ge2, e1, e2, e3, e4⟩ := X1_passDown (am := am1) (ge := ge1) W AN F hi (fun h => hs.1 i hi (Or.inl (by rw [W.gen0 hi h]; omega))) (fun h => by
        obtain ⟨q1, q2, q3, q4⟩ := hpar h
        exact ⟨hs.1 _ q1 (Or.inl (by omega)), hs.1 _ q2 (Or.inl (by omega))⟩)
      refine ⟨(cond c2 true c, am2, ge2), ?_, ?_, ?_⟩
      · try dsimp only
        rw [p1_refresh_L34, p1_refresh_L34_B]
        rw [if_neg (nI_ge hi (by omega)), e1]
        simp only [lb, uc3]
        rw [n1, nI_add]
        cases c2 <;> rfl
      · intro p hp hh
        by_cases e : p = i
        · rw [e]; exact e2
        · have := hs.1 p hp (by omega)
          unfold RT at this ⊢
          dsimp only
          rw [(e3 p e).1, (e3 p e).2]; exact this
      · intro hc
        dsimp only at hc ⊢
        cases c2 with
        | true => cases hc
        | false =>
          obtain ⟨q1, q2⟩ := e4 rfl
          obtain ⟨q3, q4⟩ := hs.2 hc
          exact ⟨q1.trans q3, q2.trans q4⟩
    · -- a person of a later generation: whatever happens, only this one changes
      have hq : ∃ (c2 : Bool) (am2 ge2 : Nat → Int32), p1_passDown am1 fp ge1 pu sp (nI i) = (c2, am2, ge2) ∧ (∀ q, q ≠ i → ge2 q = ge1 q ∧ am2 q = am1 q) ∧ (c2 = false → am2 = am1 ∧ ge2 = ge1) := by
        unfold p1_passDown
        rw [X1_hasParents W F hi]
        cases decide (pr i < 12) with
        | false => exact ⟨false, am1, ge1, rfl, fun q _ => ⟨rfl, rfl⟩, fun _ => ⟨rfl, rfl⟩⟩
        | true =>
          simp only [cond_true, lb]
          have hJ : ∀ x y, ∃ (c2 : Bool) (am2 ge2 : Nat → Int32), p1_passDown_J86 am1 ge1 (nI i) x y = (c2, am2, ge2) ∧ (∀ q, q ≠ i → ge2 q = ge1 q ∧ am2 q = am1 q) ∧ (c2 = false → am2 = am1 ∧ ge2 = ge1) := by
            intro x y
            unfold p1_passDown_J86
            simp only [lb]
            rw [put_in (by omega) (by omega), put_in (by omega) (by omega)]
            exact ⟨true, _, _, rfl, fun q hq => ⟨upd_ne hq, upd_ne hq⟩, fun z => by cases z⟩
          split
          · split
            · exact ⟨false, am1, ge1, rfl, fun q _ => ⟨rfl, rfl⟩, fun _ => ⟨rfl, rfl⟩⟩
            · exact hJ _ _
          · exact hJ _ _
      obtain ⟨c2, am2, ge2, e1, e3, e4⟩ := hq
      refine ⟨(cond c2 true c, am2, ge2), ?_, ?_, ?_⟩
      · try dsimp only
        rw [p1_refresh_L34, p1_refresh_L34_B]
        rw [if_neg (nI_ge hi (by omega)), e1]
        simp only [lb, uc3]
        rw [n1, nI_add]
        cases c2 <;> rfl
      · intro p hp hh
        by_cases e : p = i
        · subst e; omega
        · have := hs.1 p hp (by omega)
          unfold RT at this ⊢
          dsimp only
          rw [(e3 p e).1, (e3 p e).2]; exact this
      · intro hc
        dsimp only at hc ⊢
        cases c2 with
        | true => cases hc
        | false =>
          obtain ⟨q1, q2⟩ := e4 rfl
          obtain ⟨q3, q4⟩ := hs.2 hc
          exact ⟨q1.trans q3, q2.trans q4⟩
/-- the passes of refresh: all persons are right behind them -/
theorem X1_passes (W : WF n u pr a b g) (AN : ANC n pr a b an) (F : FX n u pr a b pu fp sp) (h0 : RTk n g an ge am 0) :
    ∃ (am' ge' : Nat → Int32), p1_refresh_L20 fp pu (nI n) sp FU true (nI 0) am ge = some (am', ge') ∧ ∀ p, p < n → RT g an ge' am' p := by
  have hn := W.n16
  have hall : ∀ {ge am : Nat → Int32} {k : Nat}, 16 ≤ k → RTk n g an ge am k → ∀ p, p < n → RT g an ge am p := fun hk h p hp => h p hp (by have := W.glt hp; omega)
  have hLP := loop_ms (fun f (s : Nat × Bool × (Nat → Int32) × (Nat → Int32)) => p1_refresh_L20 fp pu (nI n) sp f s.2.1 (nI s.1) s.2.2.1 s.2.2.2)
    (fun s => s.1 ≤ 17 ∧ RTk n g an s.2.2.2 s.2.2.1 s.1 ∧ (s.2.1 = false → ∀ p, p < n → RT g an s.2.2.2 s.2.2.1 p)) (fun s => 17 - s.1)
    (fun r => ∀ p, p < n → RT g an r.2 r.1 p) ?_ FU (0, true, am, ge) ⟨Nat.zero_le _, h0, fun z => by cases z⟩ (by show 17 - 0 < 1024; omega)
  · obtain ⟨r, h1, h2⟩ := hLP
    exact ⟨r.1, r.2, h1, h2⟩
  · intro f s hs
    obtain ⟨i, c, am1, ge1⟩ := s
    obtain ⟨hi, hR, hc⟩ := hs
    dsimp only at hi hR hc ⊢
    cases c with
    | false =>
      refine Or.inr ⟨(am1, ge1), ?_, hc rfl⟩
      try dsimp only
      rw [p1_refresh_L20, p1_refresh_L20_B]
      rw [cond_false]
    | true =>
      by_cases h17 : i = 17
      · refine Or.inr ⟨(am1, ge1), ?_, hall (by omega) hR⟩
        try dsimp only
        rw [p1_refresh_L20, p1_refresh_L20_B]
        rw [n16, h17, cond_true, if_pos (nI_lt (by omega) (by omega))]
      · obtain ⟨c2, am2, ge2, e1, e2, e3⟩ := X1_pass W AN F i hR
        refine Or.inl ⟨(i + 1, c2, am2, ge2), ?_, ⟨by show i + 1 ≤ 17; omega, e2, ?_⟩, by show 17 - (i + 1) < 17 - i; omega⟩
        · try dsimp only
          rw [p1_refresh_L20, p1_refresh_L20_B]
          rw [cond_true, n16, n0, if_neg (nI_nlt (by omega) (by omega)), e1]
          simp only [ob, uc3]
          unfold p1_refresh_J58
          simp only [lb]
          rw [n1, nI_add]
        · intro hc2
          obtain ⟨q1, q2⟩ := e3 hc2
          dsimp only
          -- a pass that changes nothing, again and again
          have hst : ∀ j, RTk n g an ge1 am1 j → RTk n g an ge1 am1 (j + 1) := by
            intro j hj
            obtain ⟨c3, am3, ge3, f1, f2, f3⟩ := X1_pass W AN F j hj
            rw [e1] at f1
            cases f1
            rw [q1, q2] at f2
            exact f2
          have hsj : ∀ j, RTk n g an ge1 am1 (i + j) := by
            intro j
            induction j with
            | zero => exact hR
            | succ j ih => exact hst _ ih
          rw [q1, q2]
          exact hall (k := i + 16) (by omega) (hsj 16)
end FAM
