theorem sm_lt {f g : Nat → Nat} {n k : Nat} (h : ∀ i, i < n → f i ≤ g i) (hk : k < n) (hlt : f k < g k) : sm f n < sm g n := by
  induction n with
  | zero => omega
  | succ n ih =>
    rw [sm_s, sm_s]
    have h1 := sm_le (n := n) (fun i hi => h i (by omega))
    have h2 := h n (by omega)
    by_cases e : k = n
    · subst e; omega
    · have := ih (fun i hi => h i (by omega)) (by omega); omega
section ANCS
variable {n u : Nat} {pr a b g : Nat → Nat} {an : Nat → Nat → Bool} {fam : Nat → Int64}
theorem ANC.par (AN : ANC n pr a b an) {p q : Nat} (hp : p < n) (h : pr p < 12) : an p q = (q == a (pr p) || q == b (pr p) || an (a (pr p)) q || an (b (pr p)) q) := by
  rw [AN p hp q, if_pos h]
theorem ANC.none (AN : ANC n pr a b an) {p q : Nat} (hp : p < n) (h : ¬ pr p < 12) : an p q = false := by
  rw [AN p hp q, if_neg h]
theorem WF.up (W : WF n u pr a b g) {p : Nat} (hp : p < n) (h : pr p < 12) : a (pr p) < n ∧ b (pr p) < n ∧ g (a (pr p)) < g p ∧ g (b (pr p)) < g p ∧ a (pr p) ≠ b (pr p) := by
  obtain ⟨h1, h2, h3⟩ := W.par (W.pr12 hp h)
  have := W.gen hp h
  exact ⟨h1, h2, by omega, by omega, h3⟩
theorem ANC.lt (W : WF n u pr a b g) (AN : ANC n pr a b an) : ∀ (k p q : Nat), g p < k → p < n → an p q = true → q < n ∧ g q < g p := by
  intro k
  induction k with
  | zero => intro p q h; omega
  | succ k ih =>
    intro p q hk hp h
    by_cases h12 : pr p < 12
    · obtain ⟨h1, h2, h3, h4, -⟩ := W.up hp h12
      rw [AN.par hp h12] at h
      simp only [Bool.or_eq_true, beq_iff_eq] at h
      rcases h with ((rfl | rfl) | h) | h
      · exact ⟨h1, h3⟩
      · exact ⟨h2, h4⟩
      · have := ih _ _ (by omega) h1 h; exact ⟨this.1, by omega⟩
      · have := ih _ _ (by omega) h2 h; exact ⟨this.1, by omega⟩
    · rw [AN.none hp h12] at h; cases h
/-- the parents of an ancestor are ancestors -/
theorem ANC.more (W : WF n u pr a b g) (AN : ANC n pr a b an) : ∀ (k p q : Nat), g p < k → p < n → an p q = true → pr q < 12 → an p (a (pr q)) = true ∧ an p (b (pr q)) = true := by
  intro k
  induction k with
  | zero => intro p q h; omega
  | succ k ih =>
    intro p q hk hp h hq
    by_cases h12 : pr p < 12
    · obtain ⟨h1, h2, h3, h4, -⟩ := W.up hp h12
      have hpar : ∀ x, an p x = (x == a (pr p) || x == b (pr p) || an (a (pr p)) x || an (b (pr p)) x) := fun x => AN.par hp h12
      rw [hpar] at h
      rw [hpar, hpar]
      simp only [Bool.or_eq_true, beq_iff_eq] at h ⊢
      rcases h with ((rfl | rfl) | h) | h
      · have e1 : an (a (pr p)) (a (pr (a (pr p)))) = true := by rw [AN.par h1 hq]; simp
        have e2 : an (a (pr p)) (b (pr (a (pr p)))) = true := by rw [AN.par h1 hq]; simp
        exact ⟨Or.inl (Or.inr e1), Or.inl (Or.inr e2)⟩
      · have e1 : an (b (pr p)) (a (pr (b (pr p)))) = true := by rw [AN.par h2 hq]; simp
        have e2 : an (b (pr p)) (b (pr (b (pr p)))) = true := by rw [AN.par h2 hq]; simp
        exact ⟨Or.inr e1, Or.inr e2⟩
      · obtain ⟨e1, e2⟩ := ih _ _ (by omega) h1 h hq
        exact ⟨Or.inl (Or.inr e1), Or.inl (Or.inr e2)⟩
      · obtain ⟨e1, e2⟩ := ih _ _ (by omega) h2 h hq
        exact ⟨Or.inr e1, Or.inr e2⟩
    · rw [AN.none hp h12] at h; cases h
theorem bt_aMask {mask : Int32} {x q : Nat} (hx : x < 32) : bt (aMask mask x) q = (bt mask q || decide (q = x)) := by
  unfold aMask
  rw [bt_or, bt_shl hx]
theorem bt_aMore {mask more : Int32} {x q : Nat} (hx : x < 32) : bt (aMore mask more x) q = (bt more q || (!bt mask x && decide (q = x))) := by
  unfold aMore
  cases e : bt mask x with
  | true => simp
  | false => rw [if_neg (by decide), bt_or, bt_shl hx]; simp
end ANCS
