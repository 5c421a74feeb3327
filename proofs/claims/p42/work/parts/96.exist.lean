/-! a family without rings has generations and ancestors -/
def gF (pr a b : Nat → Nat) : Nat → Nat → Nat
  | 0, _ => 0
  | k + 1, p => if pr p < 12 then max (gF pr a b k (a (pr p))) (gF pr a b k (b (pr p))) + 1 else 0
def aF (pr a b : Nat → Nat) : Nat → Nat → Nat → Bool
  | 0, _, _ => false
  | k + 1, p, q => if pr p < 12 then (q == a (pr p) || q == b (pr p) || aF pr a b k (a (pr p)) q || aF pr a b k (b (pr p)) q) else false
theorem pigeon {f : Nat → Nat} {n m : Nat} (h : ∀ j, j < m → ∃ q, q < n ∧ f q = j) : m ≤ n := by
  have e1 : ∀ k, sm (fun _ => 1) k = k := fun k => by
    induction k with
    | zero => rfl
    | succ k ih => rw [sm_s, ih]
  have h1 : sm (fun _ => 1) m ≤ sm (fun j => sm (fun q => if f q = j then 1 else 0) n) m := sm_le fun j hj => by
    obtain ⟨q, hq, hf⟩ := h j hj
    have h2 : sm (fun i => if i = q then 1 else 0) n ≤ sm (fun q => if f q = j then 1 else 0) n := sm_le fun i _ => by
      by_cases e : i = q
      · rw [if_pos e, e, if_pos hf]; exact Nat.le_refl _
      · rw [if_neg e]; exact Nat.zero_le _
    rw [sm_one hq (fun i _ hne => if_neg hne), if_pos rfl] at h2
    exact h2
  have h3 : sm (fun q => sm (fun j => if f q = j then 1 else 0) m) n ≤ sm (fun _ => 1) n := sm_le fun q _ => by
    by_cases c : f q < m
    · rw [sm_one c (fun i _ hne => if_neg (Ne.symm hne)), if_pos rfl]; exact Nat.le_refl _
    · rw [sm_congr (g := fun _ => 0) (fun i hi => if_neg (by omega)), sm_zero]; exact Nat.zero_le _
  rw [e1, sm_swap] at h1
  rw [e1] at h3
  omega
section EXIST
variable {n u : Nat} {pr a b g : Nat → Nat} {an : Nat → Nat → Bool}
theorem fam_exists (hn : n ≤ 16) (hu : u ≤ 12) (hpr : ∀ p, p < n → pr p = 12 ∨ pr p < u) (hab : ∀ w, w < u → a w < n ∧ b w < n ∧ a w ≠ b w) {rk : Nat → Nat} {K : Nat} (hK : ∀ p, p < n → rk p < K) (hr : ∀ p, p < n → pr p < 12 → rk (a (pr p)) < rk p ∧ rk (b (pr p)) < rk p) :
    ∃ g an, WF n u pr a b g ∧ ANC n pr a b an := by
  have hup : ∀ p, p < n → pr p < 12 → a (pr p) < n ∧ b (pr p) < n := fun p hp c => by
    rcases hpr p hp with h | h
    · omega
    · exact ⟨(hab _ h).1, (hab _ h).2.1⟩
  have hg : ∀ m p, p < n → rk p < m → ∀ k k', rk p < k → rk p < k' → gF pr a b k p = gF pr a b k' p := by
    intro m
    induction m with
    | zero => intro p _ h; omega
    | succ m ih =>
      intro p hp hm k k' hk hk'
      obtain ⟨k, rfl⟩ : ∃ j, k = j + 1 := ⟨k - 1, by omega⟩
      obtain ⟨k', rfl⟩ : ∃ j, k' = j + 1 := ⟨k' - 1, by omega⟩
      unfold gF
      by_cases c : pr p < 12
      · have R := hr p hp c
        have U := hup p hp c
        rw [if_pos c, if_pos c, ih _ U.1 (by omega) k k' (by omega) (by omega), ih _ U.2 (by omega) k k' (by omega) (by omega)]
      · rw [if_neg c, if_neg c]
  have ha : ∀ m p, p < n → rk p < m → ∀ k k' q, rk p < k → rk p < k' → aF pr a b k p q = aF pr a b k' p q := by
    intro m
    induction m with
    | zero => intro p _ h; omega
    | succ m ih =>
      intro p hp hm k k' q hk hk'
      obtain ⟨k, rfl⟩ : ∃ j, k = j + 1 := ⟨k - 1, by omega⟩
      obtain ⟨k', rfl⟩ : ∃ j, k' = j + 1 := ⟨k' - 1, by omega⟩
      unfold aF
      by_cases c : pr p < 12
      · have R := hr p hp c
        have U := hup p hp c
        rw [if_pos c, if_pos c, ih _ U.1 (by omega) k k' q (by omega) (by omega), ih _ U.2 (by omega) k k' q (by omega) (by omega)]
      · rw [if_neg c, if_neg c]
  have eg : ∀ p, p < n → gF pr a b (K + 1) p = if pr p < 12 then max (gF pr a b (K + 1) (a (pr p))) (gF pr a b (K + 1) (b (pr p))) + 1 else 0 := by
    intro p hp
    show (if pr p < 12 then max (gF pr a b K (a (pr p))) (gF pr a b K (b (pr p))) + 1 else 0) = _
    by_cases c : pr p < 12
    · have U := hup p hp c
      have R := hr p hp c
      have k1 := hK _ hp
      rw [if_pos c, if_pos c, hg (K + 1) _ U.1 (by omega) K (K + 1) (by omega) (by omega), hg (K + 1) _ U.2 (by omega) K (K + 1) (by omega) (by omega)]
    · rw [if_neg c, if_neg c]
  refine ⟨gF pr a b (K + 1), aF pr a b (K + 1), ⟨hn, hu, hpr, hab, eg, ?_⟩, fun p hp q => ?_⟩
  · have hlev : ∀ m p, p < n → gF pr a b (K + 1) p < m → ∀ j, j ≤ gF pr a b (K + 1) p → ∃ q, q < n ∧ gF pr a b (K + 1) q = j := by
      intro m
      induction m with
      | zero => intro p _ h; omega
      | succ m ih =>
        intro p hp hm j hj
        by_cases e : j = gF pr a b (K + 1) p
        · exact ⟨p, hp, e.symm⟩
        · have e1 := eg p hp
          by_cases c : pr p < 12
          · have U := hup p hp c
            rw [if_pos c] at e1
            by_cases c2 : gF pr a b (K + 1) (b (pr p)) ≤ gF pr a b (K + 1) (a (pr p))
            · exact ih _ U.1 (by omega) j (by omega)
            · exact ih _ U.2 (by omega) j (by omega)
          · rw [if_neg c] at e1
            omega
    intro p hp
    exact pigeon fun j hj => hlev (gF pr a b (K + 1) p + 1) p hp (by omega) j (by omega)
  · show (if pr p < 12 then (q == a (pr p) || q == b (pr p) || aF pr a b K (a (pr p)) q || aF pr a b K (b (pr p)) q) else false) = _
    by_cases c : pr p < 12
    · have U := hup p hp c
      have R := hr p hp c
      have k1 := hK _ hp
      rw [if_pos c, if_pos c, ha (K + 1) _ U.1 (by omega) K (K + 1) q (by omega) (by omega), ha (K + 1) _ U.2 (by omega) K (K + 1) q (by omega) (by omega)]
    · rw [if_neg c, if_neg c]
/-- p gets the union w for its parents -/
theorem adopt_exists (W : WF n u pr a b g) (AN : ANC n pr a b an) {w p : Nat} (hw : w < u) (hp : p < n) (h1 : (p == a w || an (a w) p) = false) (h2 : (p == b w || an (b w) p) = false) :
    ∃ g' an', WF n u (updN pr p w) a b g' ∧ ANC n (updN pr p w) a b an' := by
  have hn := W.n16
  have hu := W.u12
  have hP := W.par hw
  refine fam_exists (rk := fun x => if x = p ∨ an x p = true then g x + 20 else g x) (K := 40) hn hu (fun x hx => ?_) W.2.2.2.1 (fun x hx => ?_) (fun x hx c => ?_)
  · unfold updN
    by_cases e : x = p
    · rw [if_pos e]; exact Or.inr hw
    · rw [if_neg e]; exact W.2.2.1 x hx
  · have := W.glt hx
    split <;> omega
  · have hno : ∀ y, y < n → (p == y || an y p) = false → (if y = p ∨ an y p = true then g y + 20 else g y) < 20 := fun y hy h => by
      rw [Bool.or_eq_false_iff, beq_eq_false_iff_ne] at h
      rw [if_neg (fun q => q.elim (fun q => h.1 q.symm) (fun q => by rw [h.2] at q; exact Bool.noConfusion q))]
      have := W.glt hy
      omega
    unfold updN at c ⊢
    by_cases e : x = p
    · simp only [if_pos e]
      have k1 := hno _ hP.1 h1
      have k2 := hno _ hP.2.1 h2
      simp only [if_pos (Or.inl e : x = p ∨ an x p = true)]
      omega
    · rw [if_neg e] at c
      simp only [if_neg e]
      have U := W.up hx c
      have step : ∀ y, y < n → (y = a (pr x) ∨ y = b (pr x)) → g y < g x → (if y = p ∨ an y p = true then g y + 20 else g y) < (if x = p ∨ an x p = true then g x + 20 else g x) := by
        intro y hy hpar hlt
        by_cases d : y = p ∨ an y p = true
        · have d2 : an x p = true := by
            rw [AN.par hx c]
            rcases hpar with rfl | rfl
            · rcases d with d | d
              · simp [d]
              · simp [d]
            · rcases d with d | d
              · simp [d]
              · simp [d]
          rw [if_pos d, if_pos (Or.inr d2)]
          omega
        · rw [if_neg d]
          split <;> omega
      exact ⟨step _ U.1 (Or.inl rfl) U.2.2.1, step _ U.2.1 (Or.inr rfl) U.2.2.2.1⟩
/-- p loses its parents -/
theorem release_exists (W : WF n u pr a b g) {p : Nat} : ∃ g' an', WF n u (updN pr p 12) a b g' ∧ ANC n (updN pr p 12) a b an' := by
  refine fam_exists (rk := g) (K := 16) W.n16 W.u12 (fun x hx => ?_) W.2.2.2.1 (fun x hx => by have := W.glt hx; have := W.n16; omega) (fun x hx c => ?_)
  · unfold updN
    by_cases e : x = p
    · rw [if_pos e]; exact Or.inl rfl
    · rw [if_neg e]; exact W.2.2.1 x hx
  · unfold updN at c ⊢
    by_cases e : x = p
    · rw [if_pos e] at c; omega
    · rw [if_neg e] at c
      simp only [if_neg e]
      have U := W.up hx c
      exact ⟨U.2.2.1, U.2.2.2.1⟩
/-- a new union changes no generation -/
theorem marry_wf (W : WF n u pr a b g) (AN : ANC n pr a b an) (hu : u < 12) {x y : Nat} (hx : x < n) (hy : y < n) (hxy : x ≠ y) : WF n (u + 1) pr (updN a u x) (updN b u y) g ∧ ANC n pr (updN a u x) (updN b u y) an := by
  have hne : ∀ p, p < n → pr p < 12 → pr p ≠ u := fun p hp c => by have := W.pr12 hp c; omega
  refine ⟨⟨W.n16, by omega, fun p hp => (W.2.2.1 p hp).imp id fun h => by omega, fun w hw => ?_, fun p hp => ?_, W.2.2.2.2.2⟩, fun p hp q => ?_⟩
  · unfold updN
    by_cases e : w = u
    · rw [if_pos e, if_pos e]; exact ⟨hx, hy, hxy⟩
    · rw [if_neg e, if_neg e]; exact W.par (by omega)
  · by_cases c : pr p < 12
    · rw [if_pos c]
      unfold updN
      rw [if_neg (hne p hp c), if_neg (hne p hp c)]
      exact W.gen hp c
    · rw [if_neg c]; exact W.gen0 hp c
  · by_cases c : pr p < 12
    · rw [if_pos c]
      unfold updN
      rw [if_neg (hne p hp c), if_neg (hne p hp c)]
      exact AN.par hp c
    · rw [if_neg c]; exact AN.none hp c
end EXIST
