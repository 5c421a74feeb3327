/-! ways: how many lines of a length lead up from p to x -/
def pth (pr a b : Nat → Nat) : Nat → Nat → Nat → Nat
  | 0, p, x => if p = x then 1 else 0
  | d + 1, p, x => if pr p < 12 then pth pr a b d (a (pr p)) x + pth pr a b d (b (pr p)) x else 0
def mlt (pr a b : Nat → Nat) (i x : Nat) : Nat := if pr i < 12 then (if a (pr i) = x then 1 else 0) + (if b (pr i) = x then 1 else 0) else 0
def WY (pr a b : Nat → Nat) (p d : Nat) (f : Nat → Int32) : Prop := ∀ x, x < 16 → f x = nI (pth pr a b d p x)
def lns (pr a b : Nat → Nat) (p q : Nat) : Nat := sm (fun d => pth pr a b d p q) 17
theorem sm_mul (f : Nat → Nat) (c n : Nat) : sm (fun i => f i * c) n = sm f n * c := by
  induction n with
  | zero => rw [show sm (fun i => f i * c) 0 = 0 from rfl, show sm f 0 = 0 from rfl, Nat.zero_mul]
  | succ n ih => rw [sm_s, sm_s, ih, Nat.add_mul]
theorem sm_front (f : Nat → Nat) (n : Nat) : sm f (n + 1) = f 0 + sm (fun i => f (i + 1)) n := by
  induction n with
  | zero => show 0 + f 0 = f 0 + 0; omega
  | succ n ih => rw [sm_s, ih, sm_s]; omega
section WAYS
variable {n u : Nat} {pr a b g : Nat → Nat} {fam : Nat → Int64} {pu fp sp ge : Nat → Int32}
theorem pth_step (W : WF n u pr a b g) : ∀ d p x, p < n → pth pr a b (d + 1) p x = sm (fun i => pth pr a b d p i * mlt pr a b i x) n := by
  intro d
  induction d with
  | zero =>
    intro p x hp
    rw [sm_one hp (fun i _ hne => by rw [show pth pr a b 0 p i = 0 from if_neg (Ne.symm hne), Nat.zero_mul])]
    rw [show pth pr a b 0 p p = 1 from if_pos rfl, Nat.one_mul]
    rfl
  | succ d ih =>
    intro p x hp
    by_cases c : pr p < 12
    · have U := W.up hp c
      have e : ∀ d x, pth pr a b (d + 1) p x = pth pr a b d (a (pr p)) x + pth pr a b d (b (pr p)) x := fun d x => if_pos c
      rw [e (d + 1) x, ih _ x U.1, ih _ x U.2.1, ← sm_add]
      refine sm_congr fun i _ => ?_
      rw [e d i, Nat.add_mul]
    · have e : ∀ d x, pth pr a b (d + 1) p x = 0 := fun d x => if_neg c
      rw [e (d + 1) x, sm_congr (g := fun _ => 0) (fun i _ => by rw [e d i, Nat.zero_mul]), sm_zero]
theorem pth_gen (W : WF n u pr a b g) : ∀ d p x, p < n → pth pr a b d p x ≠ 0 → g x + d ≤ g p := by
  intro d
  induction d with
  | zero =>
    intro p x _ h
    by_cases e : p = x
    · rw [e]; exact Nat.le_refl _
    · exact absurd (if_neg e) h
  | succ d ih =>
    intro p x hp h
    by_cases c : pr p < 12
    · have U := W.up hp c
      have e : pth pr a b (d + 1) p x = pth pr a b d (a (pr p)) x + pth pr a b d (b (pr p)) x := if_pos c
      rw [e] at h
      by_cases h1 : pth pr a b d (a (pr p)) x = 0
      · have := ih (b (pr p)) x U.2.1 (by omega)
        omega
      · have := ih (a (pr p)) x U.1 h1
        omega
    · exact absurd (if_neg c) h
theorem upd2 {f : Nat → Int32} {S : Nat → Nat} {y z w : Nat} (h : ∀ x, x < 16 → f x = nI (S x)) (hy : y < 16) (hz : z < 16) :
    ∀ x, x < 16 → upd (upd f y (f y + nI w)) z (upd f y (f y + nI w) z + nI w) x = nI (S x + w * ((if y = x then 1 else 0) + (if z = x then 1 else 0))) := by
  intro x hx
  by_cases e1 : x = z
  · subst e1
    rw [upd_eq, if_pos rfl]
    by_cases e2 : x = y
    · subst e2
      rw [upd_eq, if_pos rfl, h _ hx, nI_add, nI_add]
      congr 1; omega
    · rw [upd_ne e2, if_neg (Ne.symm e2), h _ hx, nI_add]
      congr 1; omega
  · rw [upd_ne e1, if_neg (Ne.symm e1)]
    by_cases e2 : x = y
    · subst e2
      rw [upd_eq, if_pos rfl, h _ hx, nI_add]
      congr 1; omega
    · rw [upd_ne e2, if_neg (Ne.symm e2), h _ hx]
      congr 1
theorem X6_begin {p : Nat} (hp : p < 16) {wy : Nat → Int32} : ∃ f, p9_fill 16 wy 0 = some f ∧ WY pr a b p 0 (pPut 16 f (nI p) 1) := by
  obtain ⟨f, e0, h0⟩ := X9_fill (N := 16) (f := wy) (x := 0) (by omega)
  refine ⟨f, e0, fun x hx => ?_⟩
  rw [put_in hp (by omega)]
  show _ = nI (if p = x then 1 else 0)
  by_cases e : x = p
  · rw [e, upd_eq, if_pos rfl]; rfl
  · rw [upd_ne e, if_neg (Ne.symm e), h0 x hx]; rfl
/-- a line to p itself has no length -/
theorem pth_self (W : WF n u pr a b g) {q d : Nat} (hq : q < n) : pth pr a b (d + 1) q q = 0 := Classical.byContradiction fun h => by
  have := pth_gen W (d + 1) q q hq h
  omega
theorem lns_self (W : WF n u pr a b g) {q : Nat} (hq : q < n) : lns pr a b q q = 1 := by
  unfold lns
  rw [show (17 : Nat) = 16 + 1 from rfl, sm_front, show pth pr a b 0 q q = 1 from if_pos rfl, sm_congr (g := fun _ => 0) (fun i _ => pth_self W hq), sm_zero]
theorem lns_none {p q : Nat} (hpq : p ≠ q) (c : ¬ pr p < 12) : lns pr a b p q = 0 := by
  unfold lns
  rw [show (17 : Nat) = 16 + 1 from rfl, sm_front, show pth pr a b 0 p q = 0 from if_neg hpq, sm_congr (g := fun _ => 0) (fun i _ => show pth pr a b (i + 1) p q = 0 from if_neg c), sm_zero]
theorem lns_up (W : WF n u pr a b g) {p q : Nat} (hp : p < n) (hpq : p ≠ q) (c : pr p < 12) : lns pr a b p q = lns pr a b (a (pr p)) q + lns pr a b (b (pr p)) q := by
  have U := W.up hp c
  have hn := W.n16
  have h16 : ∀ x, x < n → pth pr a b 16 x q = 0 := fun x hx => Classical.byContradiction fun h => by
    have := pth_gen W 16 x q hx h
    have := W.glt hx
    omega
  unfold lns
  rw [show (17 : Nat) = 16 + 1 from rfl, sm_front, show pth pr a b 0 p q = 0 from if_neg hpq, sm_congr (g := fun d => pth pr a b d (a (pr p)) q + pth pr a b d (b (pr p)) q) (fun i _ => show pth pr a b (i + 1) p q = _ from if_pos c), sm_add, sm_s (fun d => pth pr a b d (a (pr p)) q) 16, sm_s (fun d => pth pr a b d (b (pr p)) q) 16, h16 _ U.1, h16 _ U.2.1]
  omega
theorem X6_linesTo (W : WF n u pr a b g) (F : FX n u pr a b pu fp sp) (hg : ∀ p, p < n → ge p = nI (g p)) {p q : Nat} (hp : p < n) (hq : q < n) {wy : Nat → Int32} :
    ∃ wy', p6_countLines (nI n) (nI (rowsN g n)) wy fp ge pu sp (nI p) (nI q) = some (nI (lns pr a b p q), wy') := by
  have hn := W.n16
  have hR := rows16 W
  obtain ⟨f, e0, h0⟩ := X6_begin (pr := pr) (a := a) (b := b) (p := q) (wy := wy) (by omega)
  have hrow : ∀ k, 1 ≤ k → k < rowsN g n → ∀ w : Nat → Int32, (∀ p, p < n → (dnk g k 0 p ∨ p = q) → w p = nI (lns pr a b p q)) →
      ∃ w', p6_countLines_L33 fp ge pu (nI n) sp (nI q) (nI k) FU (nI 0) w = some w' ∧ ∀ p, p < n → (dnk g k n p ∨ p = q) → w' p = nI (lns pr a b p q) := by
    intro k h1 hk w hw
    exact loop_all (fun t i (z : Nat → Int32) => p6_countLines_L33 fp ge pu (nI n) sp (nI q) (nI k) t (nI i) z) n
      (fun i z => ∀ p, p < n → (dnk g k i p ∨ p = q) → z p = nI (lns pr a b p q)) (fun z => ∀ p, p < n → (dnk g k n p ∨ p = q) → z p = nI (lns pr a b p q)) (by
        intro t z hz
        refine ⟨z, ?_, hz⟩
        try dsimp only
        rw [p6_countLines_L33, p6_countLines_L33_B, if_pos (nI_le (Nat.le_refl _) (by omega))]) (by
        intro t i z hi hz
        have hgi := W.glt hi
        have hstep : p6_countLines_L33 fp ge pu (nI n) sp (nI q) (nI k) (t + 1) (nI i) z = if g i = k ∧ i ≠ q then p6_countLines_L33 fp ge pu (nI n) sp (nI q) (nI k) t (nI (i + 1)) (pPut 16 z (nI i) (pAt 16 z (p1_firstParent fp pu (nI i)) + pAt 16 z (p1_secondParent pu sp (nI i)))) else p6_countLines_L33 fp ge pu (nI n) sp (nI q) (nI k) t (nI (i + 1)) z := by
          rw [p6_countLines_L33, p6_countLines_L33_B, if_neg (nI_ge hi (by omega)), at_in (by omega) (by omega), hg i hi]
          simp only [lb]
          rw [n1, nI_add]
          by_cases c1 : g i = k
          · rw [if_pos (by rw [c1])]
            by_cases c2 : i = q
            · rw [if_pos (by rw [c2]), if_neg (fun h => h.2 c2)]
            · rw [if_neg (fun h => c2 ((nI_eq (by omega) (by omega)).mp h)), if_pos ⟨c1, c2⟩]
          · rw [if_neg (fun h => c1 ((nI_eq (by omega) (by omega)).mp h)), if_neg (fun h => c1 h.1)]
        by_cases c : g i = k ∧ i ≠ q
        · have cp : pr i < 12 := Classical.byContradiction fun h => by have := W.gen0 hi h; omega
          have U := W.up hi cp
          refine ⟨upd z i (nI (lns pr a b i q)), ?_, fun p hp hd => ?_⟩
          · try dsimp only
            rw [hstep, if_pos c, X1_firstParent W F hi cp, X1_secondParent W F hi cp, at_in (by omega) (by omega), at_in (by omega) (by omega), put_in (by omega) (by omega), hz _ U.1 (Or.inl (Or.inl (by omega))), hz _ U.2.1 (Or.inl (Or.inl (by omega))), nI_add, ← lns_up W hi c.2 cp]
          · by_cases e : p = i
            · rw [e, upd_eq]
            · rw [upd_ne e]
              refine hz p hp ?_
              rcases hd with hd | hd
              · left; unfold dnk at hd ⊢; omega
              · exact Or.inr hd
        · refine ⟨z, ?_, fun p hp hd => ?_⟩
          · try dsimp only
            rw [hstep, if_neg c]
          · refine hz p hp ?_
            rcases hd with hd | hd
            · by_cases e : p = i
              · by_cases e2 : i = q
                · right; omega
                · left
                  have : g i ≠ k := fun h => c ⟨h, e2⟩
                  rw [e] at hd ⊢
                  unfold dnk at hd ⊢; omega
              · left; unfold dnk at hd ⊢; omega
            · exact Or.inr hd) FU 0 w (Nat.zero_le _) (by show n - 0 < 1024; omega) hw
  have hR1 : 1 ≤ rowsN g n := by have := rowsN_lt (g := g) hp; omega
  obtain ⟨z, e1, h1⟩ := loop_all (fun t k (z : Nat → Int32) => p6_countLines_L19 fp ge pu (nI n) (nI (rowsN g n)) sp (nI q) t (nI k) z) (rowsN g n)
    (fun k z => 1 ≤ k ∧ ∀ p, p < n → (dnk g k 0 p ∨ p = q) → z p = nI (lns pr a b p q)) (fun z => ∀ p, p < n → z p = nI (lns pr a b p q)) (by
      intro t z hz
      refine ⟨z, ?_, fun p hp => hz.2 p hp (Or.inl (Or.inl (rowsN_lt hp)))⟩
      try dsimp only
      rw [p6_countLines_L19, p6_countLines_L19_B, if_pos (nI_le (Nat.le_refl _) (by omega))]) (by
      intro t k z hk hz
      obtain ⟨w', e2, h2⟩ := hrow k hz.1 hk z hz.2
      refine ⟨w', ?_, by omega, fun p hp hd => h2 p hp ?_⟩
      · try dsimp only
        rw [p6_countLines_L19, p6_countLines_L19_B, if_neg (nI_ge hk (by omega)), n0, e2]
        simp only [ob, p6_countLines_J115, lb]
        rw [n1, nI_add]
      · rcases hd with hd | hd
        · left; unfold dnk at hd ⊢; omega
        · exact Or.inr hd) FU 1 (pPut 16 f (nI q) 1) hR1 (by show rowsN g n - 1 < 1024; omega) (by
        refine ⟨Nat.le_refl _, fun p hp hd => ?_⟩
        rw [h0 p (by omega)]
        by_cases e : p = q
        · rw [e, lns_self W hq]
          show nI (if q = q then 1 else 0) = nI 1
          rw [if_pos rfl]
        · have hd' : g p = 0 := by
            rcases hd with hd | hd
            · unfold dnk at hd; omega
            · exact absurd hd e
          have cp : ¬ pr p < 12 := fun h => by have := W.gen hp h; omega
          rw [lns_none e cp]
          show nI (if q = p then 1 else 0) = nI 0
          rw [if_neg (Ne.symm e)])
  have e1' : p6_countLines_L19 fp ge pu (nI n) (nI (rowsN g n)) sp (nI q) FU (nI 1) (pPut 16 f (nI q) (nI 1)) = some z := e1
  refine ⟨z, ?_⟩
  unfold p6_countLines
  rw [e0]
  simp only [ob, lb]
  rw [n1, e1']
  simp only [p6_countLines_J121]
  rw [at_in (by omega) (by omega), h1 p hp]
end WAYS
