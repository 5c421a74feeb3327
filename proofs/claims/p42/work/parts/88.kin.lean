/-! kinships -/
def ltp (g : Nat → Nat) (p q : Nat) : Bool := decide (g q < g p ∨ (g q = g p ∧ q < p))
def KV (pr a b g : Nat → Nat) (kk : Nat → Nat → Int64) (p q : Nat) : Int64 :=
  if p = q then 549755813888 + (if pr p < 12 then kk (a (pr p)) (b (pr p)) / 2 else 0)
  else if ltp g p q then (if pr p < 12 then (kk q (a (pr p)) + kk q (b (pr p))) / 2 else 0)
  else (if pr q < 12 then (kk p (a (pr q)) + kk p (b (pr q))) / 2 else 0)
def kT (e : Nat → Int64) (p q : Nat) : Int64 := e (p * 16 + q)
def dnk (g : Nat → Nat) (k i p : Nat) : Prop := g p < k ∨ (g p = k ∧ p < i)
section KIN
variable {n u : Nat} {pr a b g : Nat → Nat} {an : Nat → Nat → Bool} {fam : Nat → Int64} {pu fp sp ge am lv : Nat → Int32} {e e0 : Nat → Int64}
theorem K6_get {p q : Nat} (hp : p < 16) (hq : q < 16) : p6_kinshipOf e (nI p) (nI q) = some (e (p * 16 + q)) := by
  unfold p6_kinshipOf
  rw [n16, nI_mul, nI_add]
  simp only [lb]
  rw [n0, if_neg (nI_nlt (by omega) (by omega)), if_neg (nI_nlt (by omega) (by omega)), if_neg (nI_nlt (by omega) (by omega)), show (256 : Int32) = nI 256 from rfl, if_pos (nI_lt (by omega) (by omega)), gd_in (by omega) (by omega), nI_clamp (by omega)]
theorem K6_get1 {x : Int32} : p6_kinshipOf e x (-1) = some 0 := by
  unfold p6_kinshipOf
  simp only [lb]
  split
  · rfl
  · rw [if_pos (by decide)]
theorem K6_put {p q : Nat} {v : Int64} (hp : p < 16) (hq : q < 16) : p6_putKinship e (nI p) (nI q) v = some (vp_updL e (p * 16 + q) v) := by
  unfold p6_putKinship
  rw [n16, nI_mul, nI_add]
  simp only [lb]
  rw [n0, if_neg (nI_nlt (by omega) (by omega)), if_neg (nI_nlt (by omega) (by omega)), if_neg (nI_nlt (by omega) (by omega)), show (256 : Int32) = nI 256 from rfl, if_neg (nI_ge (by omega) (by omega)), gd_in (by omega) (by omega), nI_clamp (by omega)]
theorem KV_congr (W : WF n u pr a b g) {kk kk' : Nat → Nat → Int64} {P : Nat → Prop} (hP : ∀ p, p < n → P p → pr p < 12 → P (a (pr p)) ∧ P (b (pr p))) (h : ∀ p q, p < n → q < n → P p → P q → kk p q = kk' p q) {p q : Nat} (hp : p < n) (hq : q < n) (p1 : P p) (p2 : P q) :
    KV pr a b g kk p q = KV pr a b g kk' p q := by
  unfold KV
  by_cases c1 : pr p < 12
  · have U := W.up hp c1
    have C := hP p hp p1 c1
    rw [if_pos c1, if_pos c1, if_pos c1, if_pos c1, h _ _ U.1 U.2.1 C.1 C.2, h _ _ hq U.1 p2 C.1, h _ _ hq U.2.1 p2 C.2]
    by_cases c2 : pr q < 12
    · have U2 := W.up hq c2
      have C2 := hP q hq p2 c2
      rw [if_pos c2, if_pos c2, h _ _ hp U2.1 p1 C2.1, h _ _ hp U2.2.1 p1 C2.2]
    · rw [if_neg c2, if_neg c2]
  · rw [if_neg c1, if_neg c1, if_neg c1, if_neg c1]
    by_cases c2 : pr q < 12
    · have U2 := W.up hq c2
      have C2 := hP q hq p2 c2
      rw [if_pos c2, if_pos c2, h _ _ hp U2.1 p1 C2.1, h _ _ hp U2.2.1 p1 C2.2]
    · rw [if_neg c2, if_neg c2]
theorem X6_noteOf (W : WF n u pr a b g) (F : FX n u pr a b pu fp sp) (hg : ∀ p, p < n → ge p = nI (g p)) {x : Nat} (hx : x < n) :
    ∃ e', p6_noteKinshipsOf (nI n) e0 fp ge pu sp (nI x) (nI (g x)) = some e' ∧ (∀ p q, p < 16 → q < 16 → p ≠ x → q ≠ x → kT e' p q = kT e0 p q) ∧ kT e' x x = KV pr a b g (kT e0) x x ∧
      ∀ j, j < n → ltp g x j = true → kT e' x j = KV pr a b g (kT e0) x j ∧ kT e' j x = KV pr a b g (kT e0) x j := by
  have hn := W.n16
  have hxne : pr x < 12 → a (pr x) ≠ x ∧ b (pr x) ≠ x := fun h => by
    have U := W.up hx h
    exact ⟨fun q => by have := U.2.2.1; rw [q] at this; omega, fun q => by have := U.2.2.2.1; rw [q] at this; omega⟩
  have hVj : ∀ j, j < n → ltp g x j = true → KV pr a b g (kT e0) x j = if pr x < 12 then (kT e0 j (a (pr x)) + kT e0 j (b (pr x))) / 2 else 0 := by
    intro j hj hl
    unfold KV
    rw [if_neg (fun q => by subst q; unfold ltp at hl; have := of_decide_eq_true hl; omega), if_pos hl]
  have hread : ∀ (e : Nat → Int64) {β : Type} (K : Int64 → Int64 → Option β) (p : Nat), p < n → p ≠ x → (∀ p q, p < 16 → q < 16 → p ≠ x → q ≠ x → kT e p q = kT e0 p q) → pr x < 12 →
      ob (p6_kinshipOf e (nI p) (p1_firstParent fp pu (nI x))) (fun r => ob (p6_kinshipOf e (nI p) (p1_secondParent pu sp (nI x))) (fun s => K r s)) = K (kT e0 p (a (pr x))) (kT e0 p (b (pr x))) := by
    intro e β K p hp hpx he c
    have U := W.up hx c
    have N := hxne c
    rw [X1_firstParent W F hx c, X1_secondParent W F hx c, K6_get (by omega) (by omega), K6_get (by omega) (by omega)]
    simp only [ob]
    rw [show e (p * 16 + a (pr x)) = kT e p (a (pr x)) from rfl, show e (p * 16 + b (pr x)) = kT e p (b (pr x)) from rfl, he _ _ (by omega) (by omega) hpx N.1, he _ _ (by omega) (by omega) hpx N.2]
  have hL := loop_all (fun t i (z : Nat → Int64) => p6_noteKinshipsOf_L22 ge (nI n) (p1_secondParent pu sp (nI x)) (p1_firstParent fp pu (nI x)) (nI x) (nI (g x)) t (nI i) z) n
    (fun i z => (∀ p q, p < 16 → q < 16 → p ≠ x → q ≠ x → kT z p q = kT e0 p q) ∧ ∀ j, j < i → ltp g x j = true → kT z x j = KV pr a b g (kT e0) x j ∧ kT z j x = KV pr a b g (kT e0) x j)
    (fun z => (∀ p q, p < 16 → q < 16 → p ≠ x → q ≠ x → kT z p q = kT e0 p q) ∧ ∀ j, j < n → ltp g x j = true → kT z x j = KV pr a b g (kT e0) x j ∧ kT z j x = KV pr a b g (kT e0) x j) (by
      intro t z hz
      refine ⟨z, ?_, hz⟩
      try dsimp only
      rw [p6_noteKinshipsOf_L22, p6_noteKinshipsOf_L22_B, if_pos (nI_le (Nat.le_refl _) (by omega))]) (by
      intro t i z hi hz
      have hgx := W.glt hx
      have hgi := W.glt hi
      have hskip : ltp g x i = false → (∀ p q, p < 16 → q < 16 → p ≠ x → q ≠ x → kT z p q = kT e0 p q) ∧ ∀ j, j < i + 1 → ltp g x j = true → kT z x j = KV pr a b g (kT e0) x j ∧ kT z j x = KV pr a b g (kT e0) x j := by
        intro hl
        refine ⟨hz.1, fun j hj hlj => hz.2 j ?_ hlj⟩
        have : j ≠ i := fun q => by rw [q, hl] at hlj; exact Bool.noConfusion hlj
        omega
      have hput : ltp g x i = true → ∃ s', p6_noteKinshipsOf_J66 z (p6_noteKinshipsOf_L22 ge (nI n) (p1_secondParent pu sp (nI x)) (p1_firstParent fp pu (nI x)) (nI x) (nI (g x)) t) (p1_secondParent pu sp (nI x)) (p1_firstParent fp pu (nI x)) (nI x) (nI i) = p6_noteKinshipsOf_L22 ge (nI n) (p1_secondParent pu sp (nI x)) (p1_firstParent fp pu (nI x)) (nI x) (nI (g x)) t (nI (i + 1)) s' ∧ ((∀ p q, p < 16 → q < 16 → p ≠ x → q ≠ x → kT s' p q = kT e0 p q) ∧ ∀ j, j < i + 1 → ltp g x j = true → kT s' x j = KV pr a b g (kT e0) x j ∧ kT s' j x = KV pr a b g (kT e0) x j) := by
        intro hl
        have hix : i ≠ x := fun q => by subst q; unfold ltp at hl; have := of_decide_eq_true hl; omega
        refine ⟨vp_updL (vp_updL z (x * 16 + i) (KV pr a b g (kT e0) x i)) (i * 16 + x) (KV pr a b g (kT e0) x i), ?_, fun p q hp hq h1 h2 => ?_, fun j hj hlj => ?_⟩
        · unfold p6_noteKinshipsOf_J66
          rw [hVj i hi hl]
          by_cases c : pr x < 12
          · rw [if_pos c, hread z _ i hi hix hz.1 c]
            simp only [lb]
            rw [K6_put (by omega) (by omega)]
            simp only [ob]
            rw [K6_put (by omega) (by omega)]
            rw [n1, nI_add]
          · rw [if_neg c, X1_firstParent0 W F hx c, X1_secondParent0 W F hx c, K6_get1]
            simp only [ob, lb]
            rw [K6_put (by omega) (by omega)]
            simp only [ob]
            rw [K6_put (by omega) (by omega)]
            rw [n1, nI_add]
            rfl
        · unfold kT
          rw [updL_ne (by omega), updL_ne (by omega)]
          exact hz.1 p q hp hq h1 h2
        · by_cases e : j = i
          · subst e
            unfold kT
            refine ⟨?_, updL_eq⟩
            rw [updL_ne (by omega), updL_eq]
          · have := hz.2 j (by omega) hlj
            have hjx : j ≠ x := fun q => by subst q; unfold ltp at hlj; have := of_decide_eq_true hlj; omega
            unfold kT at this ⊢
            rw [updL_ne (by omega), updL_ne (by omega), updL_ne (by omega), updL_ne (by omega)]
            exact this
      have hstep : p6_noteKinshipsOf_L22 ge (nI n) (p1_secondParent pu sp (nI x)) (p1_firstParent fp pu (nI x)) (nI x) (nI (g x)) (t + 1) (nI i) z = if ltp g x i then p6_noteKinshipsOf_J66 z (p6_noteKinshipsOf_L22 ge (nI n) (p1_secondParent pu sp (nI x)) (p1_firstParent fp pu (nI x)) (nI x) (nI (g x)) t) (p1_secondParent pu sp (nI x)) (p1_firstParent fp pu (nI x)) (nI x) (nI i) else p6_noteKinshipsOf_L22 ge (nI n) (p1_secondParent pu sp (nI x)) (p1_firstParent fp pu (nI x)) (nI x) (nI (g x)) t (nI (i + 1)) z := by
        rw [p6_noteKinshipsOf_L22, p6_noteKinshipsOf_L22_B, if_neg (nI_ge hi (by omega)), at_in (by omega) (by omega), hg i hi]
        simp only [lb]
        by_cases c1 : g i < g x
        · rw [if_pos (nI_lt c1 (by omega)), if_pos (by unfold ltp; exact decide_eq_true (Or.inl c1))]
        · rw [if_neg (nI_nlt (by omega) (by omega))]
          by_cases c2 : g i = g x
          · rw [if_pos (by rw [c2])]
            by_cases c3 : i < x
            · rw [if_neg (nI_ge c3 (by omega)), if_pos (by unfold ltp; exact decide_eq_true (Or.inr ⟨c2, c3⟩))]
            · rw [if_pos (nI_le (by omega) (by omega)), n1, nI_add, if_neg]
              unfold ltp
              intro q
              have := of_decide_eq_true q
              omega
          · rw [if_neg (fun q => c2 ((nI_eq (by omega) (by omega)).mp q)), n1, nI_add, if_neg]
            unfold ltp
            intro q
            have := of_decide_eq_true q
            omega
      by_cases hl : ltp g x i = true
      · obtain ⟨s', h1, h2⟩ := hput hl
        refine ⟨s', ?_, h2⟩
        try dsimp only
        rw [hstep, if_pos hl]
        exact h1
      · refine ⟨z, ?_, hskip (by rw [Bool.not_eq_true] at hl; exact hl)⟩
        try dsimp only
        rw [hstep, if_neg hl]) FU 0 e0 (Nat.zero_le _) (by show n - 0 < 1024; omega) ⟨fun _ _ _ _ _ _ => rfl, fun j hj => absurd hj (Nat.not_lt_zero _)⟩
  obtain ⟨z, e1, e2, e3⟩ := hL
  try dsimp only at e1
  have hxx : KV pr a b g (kT e0) x x = 549755813888 + (if pr x < 12 then kT e0 (a (pr x)) (b (pr x)) / 2 else 0) := by
    unfold KV
    rw [if_pos rfl]
  refine ⟨vp_updL z (x * 16 + x) (KV pr a b g (kT e0) x x), ?_, fun p q hp hq h1 h2 => ?_, updL_eq, fun j hj hl => ?_⟩
  · unfold p6_noteKinshipsOf
    simp only [lb]
    rw [n0, e1]
    simp only [ob, p6_noteKinshipsOf_J112]
    rw [hxx]
    by_cases c : pr x < 12
    · have U := W.up hx c
      have N := hxne c
      rw [if_pos c, X1_firstParent W F hx c, X1_secondParent W F hx c, K6_get (by omega) (by omega)]
      simp only [ob]
      rw [K6_put (by omega) (by omega), show z (a (pr x) * 16 + b (pr x)) = kT z (a (pr x)) (b (pr x)) from rfl, e2 _ _ (by omega) (by omega) N.1 N.2]
    · rw [if_neg c, X1_firstParent0 W F hx c, X1_secondParent0 W F hx c, K6_get1]
      simp only [ob]
      rw [K6_put (by omega) (by omega)]
      rfl
  · unfold kT
    rw [updL_ne (by omega)]
    exact e2 p q hp hq h1 h2
  · have hjx : j ≠ x := fun q => by subst q; unfold ltp at hl; have := of_decide_eq_true hl; omega
    have := e3 j hj hl
    unfold kT at this ⊢
    rw [updL_ne (by omega), updL_ne (by omega)]
    exact this
end KIN
