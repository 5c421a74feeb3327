theorem sm_lt {f g : Nat → Nat} {n k : Nat} (h : ∀ i, i < n → f i ≤ g i) (hk : k < n) (hlt : f k < g k) : sm f n < sm g n := by
  induction n with
  | zero => omega
  | succ n ih =>
    rw [sm_s, sm_s]
    have h1 := sm_le (n := n) (fun i hi => h i (by omega))
    have h2 := h n (by omega)
    by_cases e : k = n
    · subst e; omega
    · have := ih (fun i hi => h i (by omega)) (by omega); omega
section ANCS
variable {n u : Nat} {pr a b g : Nat → Nat} {an : Nat → Nat → Bool} {fam : Nat → Int64}
theorem ANC.par (AN : ANC n pr a b an) {p q : Nat} (hp : p < n) (h : pr p < 12) : an p q = (q == a (pr p) || q == b (pr p) || an (a (pr p)) q || an (b (pr p)) q) := by
  rw [AN p hp q, if_pos h]
theorem ANC.none (AN : ANC n pr a b an) {p q : Nat} (hp : p < n) (h : ¬ pr p < 12) : an p q = false := by
  rw [AN p hp q, if_neg h]
theorem WF.up (W : WF n u pr a b g) {p : Nat} (hp : p < n) (h : pr p < 12) : a (pr p) < n ∧ b (pr p) < n ∧ g (a (pr p)) < g p ∧ g (b (pr p)) < g p ∧ a (pr p) ≠ b (pr p) := by
  obtain ⟨h1, h2, h3⟩ := W.par (W.pr12 hp h)
  have := W.gen hp h
  exact ⟨h1, h2, by omega, by omega, h3⟩
theorem ANC.lt (W : WF n u pr a b g) (AN : ANC n pr a b an) : ∀ (k p q : Nat), g p < k → p < n → an p q = true → q < n ∧ g q < g p := by
  intro k
  induction k with
  | zero => intro p q h; omega
  | succ k ih =>
    intro p q hk hp h
    by_cases h12 : pr p < 12
    · obtain ⟨h1, h2, h3, h4, -⟩ := W.up hp h12
      rw [AN.par hp h12] at h
      simp only [Bool.or_eq_true, beq_iff_eq] at h
      rcases h with ((rfl | rfl) | h) | h
      · exact ⟨h1, h3⟩
      · exact ⟨h2, h4⟩
      · have := ih _ _ (by omega) h1 h; exact ⟨this.1, by omega⟩
      · have := ih _ _ (by omega) h2 h; exact ⟨this.1, by omega⟩
    · rw [AN.none hp h12] at h; cases h
/-- the parents of an ancestor are ancestors -/
theorem ANC.more (W : WF n u pr a b g) (AN : ANC n pr a b an) : ∀ (k p q : Nat), g p < k → p < n → an p q = true → pr q < 12 → an p (a (pr q)) = true ∧ an p (b (pr q)) = true := by
  intro k
  induction k with
  | zero => intro p q h; omega
  | succ k ih =>
    intro p q hk hp h hq
    by_cases h12 : pr p < 12
    · obtain ⟨h1, h2, h3, h4, -⟩ := W.up hp h12
      have hpar : ∀ x, an p x = (x == a (pr p) || x == b (pr p) || an (a (pr p)) x || an (b (pr p)) x) := fun x => AN.par hp h12
      rw [hpar] at h
      rw [hpar, hpar]
      simp only [Bool.or_eq_true, beq_iff_eq] at h ⊢
      rcases h with ((rfl | rfl) | h) | h
      · have e1 : an (a (pr p)) (a (pr (a (pr p)))) = true := by rw [AN.par h1 hq]; simp
        have e2 : an (a (pr p)) (b (pr (a (pr p)))) = true := by rw [AN.par h1 hq]; simp
        exact ⟨Or.inl (Or.inr e1), Or.inl (Or.inr e2)⟩
      · have e1 : an (b (pr p)) (a (pr (b (pr p)))) = true := by rw [AN.par h2 hq]; simp
        have e2 : an (b (pr p)) (b (pr (b (pr p)))) = true := by rw [AN.par h2 hq]; simp
        exact ⟨Or.inr e1, Or.inr e2⟩
      · obtain ⟨e1, e2⟩ := ih _ _ (by omega) h1 h hq
        exact ⟨Or.inl (Or.inr e1), Or.inl (Or.inr e2)⟩
      · obtain ⟨e1, e2⟩ := ih _ _ (by omega) h2 h hq
        exact ⟨Or.inr e1, Or.inr e2⟩
    · rw [AN.none hp h12] at h; cases h
theorem bt_aMask {mask : Int32} {x q : Nat} (hx : x < 32) : bt (aMask mask x) q = (bt mask q || decide (q = x)) := by
  unfold aMask
  rw [bt_or, bt_shl hx]
theorem bt_aMore {mask more : Int32} {x q : Nat} (hx : x < 32) : bt (aMore mask more x) q = (bt more q || (!bt mask x && decide (q = x))) := by
  unfold aMore
  cases e : bt mask x with
  | true => simp
  | false => rw [if_neg (by decide), bt_or, bt_shl hx]; simp
theorem M_ancestorMask (W : WF n u pr a b g) (AN : ANC n pr a b an) (F : MX n u pr a b fam) {p0 : Nat} (hp0 : p0 < n) : p10_ancestorMask fam (nI p0) = some (mkm (an p0)) := by
  have hn := W.n16
  have h0 : (∀ q, bt (0 : Int32) q = true → q < n ∧ an p0 q = true) ∧ (∀ q, bt ((1 : Int32) <<< (nI p0 &&& 31)) q = true → q = p0 ∨ bt (0 : Int32) q = true) ∧
      ∀ q, (q = p0 ∨ bt (0 : Int32) q = true) → bt ((1 : Int32) <<< (nI p0 &&& 31)) q = false → pr q < 12 → bt (0 : Int32) (a (pr q)) = true ∧ bt (0 : Int32) (b (pr q)) = true := by
    refine ⟨fun q hq => ?_, fun q hq => ?_, fun q hq h2 _ => ?_⟩
    · rw [bt_zero] at hq; cases hq
    · rw [bt_shl (by omega)] at hq
      exact Or.inl (by simpa using hq)
    · rw [bt_shl (by omega)] at h2
      rcases hq with rfl | hq
      · simp at h2
      · rw [bt_zero] at hq; cases hq
  have h := ex_eq (loop_ms (fun k (s : Int32 × Int32) => p10_ancestorMask_L6 fam k s.1 s.2)
    (fun s => (∀ q, bt s.1 q = true → q < n ∧ an p0 q = true) ∧ (∀ q, bt s.2 q = true → q = p0 ∨ bt s.1 q = true) ∧
      ∀ q, (q = p0 ∨ bt s.1 q = true) → bt s.2 q = false → pr q < 12 → bt s.1 (a (pr q)) = true ∧ bt s.1 (b (pr q)) = true)
    (fun s => wst s.1 s.2) (fun r => r = mkm (an p0)) ?_ FU (0, (1 : Int32) <<< (nI p0 &&& 31)) h0 ?_)
  · unfold p10_ancestorMask
    simp only [lb]
    rw [h]
    rfl
  · intro k s hs
    obtain ⟨mask, more⟩ := s
    obtain ⟨ha, hb, hc⟩ := hs
    dsimp only at ha hb hc ⊢
    by_cases e0 : more = 0
    · refine Or.inr ⟨mask, ?_, mkm_eq fun q => ?_⟩
      · rw [p10_ancestorMask_L6, p10_ancestorMask_L6_B, if_pos e0]
      · have hcl : ∀ (k q : Nat), g q < k → q < n → (q = p0 ∨ bt mask q = true) → ∀ x, an q x = true → bt mask x = true := by
          intro k
          induction k with
          | zero => intro q h; omega
          | succ k ih =>
            intro q hk hq hq2 x hx
            by_cases h12 : pr q < 12
            · obtain ⟨h1, h2, h3, h4, -⟩ := W.up hq h12
              obtain ⟨m1, m2⟩ := hc q hq2 (by rw [e0, bt_zero]) h12
              rw [AN.par hq h12] at hx
              simp only [Bool.or_eq_true, beq_iff_eq] at hx
              rcases hx with ((rfl | rfl) | hx) | hx
              · exact m1
              · exact m2
              · exact ih _ (by omega) h1 (Or.inr m1) x hx
              · exact ih _ (by omega) h2 (Or.inr m2) x hx
            · rw [AN.none hq h12] at hx; cases hx
        cases e : bt mask q with
        | true =>
          obtain ⟨h1, h2⟩ := ha q e
          rw [h2, decide_eq_true (show q < 16 by omega)]; rfl
        | false =>
          cases e2 : an p0 q with
          | false => simp
          | true => rw [hcl _ p0 (Nat.lt_succ_self _) hp0 (Or.inl rfl) q e2] at e; cases e
    · -- a person waits
      have hex : ∃ q, q < n ∧ bt more q = true := by
        refine Classical.byContradiction fun hno => e0 (bt_ext fun q _ => ?_)
        rw [bt_zero]
        cases e : bt more q with
        | false => rfl
        | true =>
          refine absurd ⟨q, ?_, e⟩ hno
          rcases hb q e with rfl | h1
          · exact hp0
          · exact (ha q h1).1
      obtain ⟨q0, hq0, hq1⟩ := hex
      obtain ⟨p, -, hp2, hlow⟩ := M_low (x := more) (q := q0) (by omega) hq1
      have hp : p < n := by
        rcases hb p hp2 with rfl | h1
        · exact hp0
        · exact (ha p h1).1
      obtain ⟨t, ht⟩ : ∃ t, t = more &&& (((1 : Int32) <<< (nI p &&& 31)) ^^^ (-1)) := ⟨_, rfl⟩
      have htb : ∀ q, bt t q = (bt more q && !decide (q = p)) := by
        intro q
        rw [ht, bt_and]
        by_cases hq : q < 32
        · rw [bt_nbit (by omega) hq]
        · rw [bt_big (x := more) (by omega)]; rfl
      by_cases h12 : pr p < 12
      · obtain ⟨h1, h2, h3, h4, h5⟩ := W.up hp h12
        have hw := W.pr12 hp h12
        refine Or.inl ⟨(aMask (aMask mask (a (pr p))) (b (pr p)), aMore (aMask mask (a (pr p))) (aMore mask t (a (pr p))) (b (pr p))), ?_, ⟨?_, ?_, ?_⟩, ?_⟩
        · rw [p10_ancestorMask_L6, p10_ancestorMask_L6_B, if_neg e0, n0, hlow]
          simp only [ob]
          unfold p10_ancestorMask_J28
          simp only [lb]
          rw [M_parentsOf F hn hp, ← ht, oN_in h12]
          simp only [ob]
          rw [n0, M_meet F W hw]
          rfl
        · intro q hq
          dsimp only at hq
          rw [bt_aMask (by omega), bt_aMask (by omega)] at hq
          have hanc : an p0 (a (pr p)) = true ∧ an p0 (b (pr p)) = true := by
            rcases hb p hp2 with rfl | hm
            · exact ⟨by rw [AN.par hp h12]; simp, by rw [AN.par hp h12]; simp⟩
            · exact ANC.more W AN _ p0 p (Nat.lt_succ_self _) hp0 (ha p hm).2 h12
          simp only [Bool.or_eq_true, decide_eq_true_eq] at hq
          rcases hq with (hq | rfl) | rfl
          · exact ha q hq
          · exact ⟨h1, hanc.1⟩
          · exact ⟨h2, hanc.2⟩
        · intro q hq
          dsimp only at hq ⊢
          rw [bt_aMore (by omega), bt_aMore (by omega), htb] at hq
          rw [bt_aMask (by omega), bt_aMask (by omega)]
          simp only [Bool.or_eq_true, Bool.and_eq_true, decide_eq_true_eq, Bool.not_eq_true', decide_eq_false_iff_not] at hq ⊢
          rcases hq with (⟨hq, -⟩ | ⟨-, rfl⟩) | ⟨-, rfl⟩
          · rcases hb q hq with h | h
            · exact Or.inl h
            · exact Or.inr (Or.inl (Or.inl h))
          · exact Or.inr (Or.inl (Or.inr rfl))
          · exact Or.inr (Or.inr rfl)
        · intro q hq hm hq12
          dsimp only at hq hm ⊢
          rw [bt_aMore (by omega), bt_aMore (by omega), htb] at hm
          rw [bt_aMask (by omega), bt_aMask (by omega)] at hq ⊢
          rw [bt_aMask (by omega), bt_aMask (by omega)]
          by_cases eqp : q = p
          · subst eqp; simp
          · have hin : q = p0 ∨ bt mask q = true := by
              rcases hq with h | h
              · exact Or.inl h
              · refine Or.inr ?_
                cases em : bt mask q with
                | true => rfl
                | false =>
                  exfalso
                  rw [em] at h
                  simp only [Bool.or_eq_true, Bool.false_eq_true, false_or, decide_eq_true_eq] at h
                  rcases h with rfl | rfl
                  · rw [em] at hm; simp at hm
                  · rw [bt_aMask (by omega), em] at hm
                    simp [Ne.symm h5] at hm
            have hmq : bt more q = false := by
              cases em : bt more q with
              | false => rfl
              | true => rw [em] at hm; simp [eqp] at hm
            obtain ⟨r1, r2⟩ := hc q hin hmq hq12
            simp [r1, r2]
        · dsimp only
          refine sm_lt (k := p) (fun q hq => ?_) (by omega) ?_
          · rw [bt_aMore (by omega), bt_aMore (by omega), bt_aMask (by omega), bt_aMask (by omega), bt_aMask (by omega), htb]
            have d0 : ∀ x : Nat, decide (x = x) = true := fun x => decide_eq_true rfl
            have d1 : decide (a (pr p) = b (pr p)) = false := decide_eq_false h5
            have d2 : decide (b (pr p) = a (pr p)) = false := decide_eq_false (Ne.symm h5)
            by_cases e1 : q = a (pr p)
            · subst e1
              rw [d0, d1, d2]
              cases bt mask (a (pr p)) <;> cases bt more (a (pr p)) <;> cases bt mask (b (pr p)) <;> cases decide (a (pr p) = p) <;> decide
            · by_cases e2 : q = b (pr p)
              · subst e2
                rw [d0, d2]
                cases bt mask (a (pr p)) <;> cases bt more (b (pr p)) <;> cases bt mask (b (pr p)) <;> cases decide (b (pr p) = p) <;> decide
              · rw [decide_eq_false e1, decide_eq_false e2]
                cases bt mask q <;> cases bt more q <;> cases bt mask (a (pr p)) <;> cases bt mask (b (pr p)) <;> cases decide (q = p) <;> cases decide (b (pr p) = a (pr p)) <;> decide
          · have e1 : p ≠ a (pr p) := fun z => by rw [← z] at h3; omega
            have e2 : p ≠ b (pr p) := fun z => by rw [← z] at h4; omega
            rw [bt_aMore (by omega), bt_aMore (by omega), bt_aMask (by omega), bt_aMask (by omega), bt_aMask (by omega), htb, hp2]
            cases bt mask p <;> simp [e1, e2]
      · refine Or.inl ⟨(mask, t), ?_, ⟨ha, fun q hq => ?_, fun q hq hm hq12 => ?_⟩, ?_⟩
        · rw [p10_ancestorMask_L6, p10_ancestorMask_L6_B, if_neg e0, n0, hlow]
          simp only [ob]
          unfold p10_ancestorMask_J28
          simp only [lb]
          rw [M_parentsOf F hn hp, ← ht, oN_out h12]
          simp only [ob]
          rw [show FU = 1023 + 1 from rfl, p10_ancestorMask_L48, p10_ancestorMask_L48_B, n2, n0, if_neg (nI_ge (by omega) (by omega)), if_pos rfl]
          rfl
        · dsimp only at hq
          rw [htb] at hq
          simp only [Bool.and_eq_true] at hq
          exact hb q hq.1
        · dsimp only at hq hm ⊢
          by_cases eqp : q = p
          · subst eqp; exact absurd hq12 h12
          · refine hc q hq ?_ hq12
            rw [htb] at hm
            simpa [eqp] using hm
        · dsimp only
          refine sm_lt (k := p) (fun q hq => ?_) (by omega) ?_
          · rw [htb]
            cases bt mask q <;> cases bt more q <;> simp <;> split <;> omega
          · rw [htb, hp2]
            cases bt mask p <;> simp
  · show wst 0 ((1 : Int32) <<< (nI p0 &&& 31)) < 1024
    have : wst 0 ((1 : Int32) <<< (nI p0 &&& 31)) ≤ sm (fun _ => 3) 16 := sm_le fun q _ => by
      split <;> split <;> omega
    have h48 : sm (fun _ => 3) 16 = 48 := by decide
    omega
end ANCS
