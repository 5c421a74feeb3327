/-! the reference's distance -/
section MDIST
variable {n u : Nat} {pr a b g : Nat → Nat} {fam : Nat → Int64}
theorem M_isParent (W : WF n u pr a b g) (F : MX n u pr a b fam) {x y : Nat} (hx : x < n) (hy : y < n) : ∃ r, p10_isParent fam (nI x) (nI y) = some r ∧ (r = true ↔ par pr a b x y) := by
  have hn := W.n16
  unfold p10_isParent par
  rw [M_parentsOf F hn hy]
  simp only [ob]
  by_cases c : pr y < 12
  · rw [oN_in c, if_neg (nI_m1 (by omega)), M_isPartner W F (W.pr12 hy c) (by omega)]
    refine ⟨(a (pr y) == x || b (pr y) == x), by cases (a (pr y) == x || b (pr y) == x) <;> rfl, ?_⟩
    rw [Bool.or_eq_true, beq_iff_eq, beq_iff_eq]
    exact ⟨fun h => ⟨c, h.elim (fun h => Or.inl h.symm) (fun h => Or.inr h.symm)⟩, fun h => h.2.elim (fun h => Or.inl h.symm) (fun h => Or.inr h.symm)⟩
  · rw [oN_out c, if_pos rfl]
    exact ⟨false, rfl, fun h => Bool.noConfusion h, fun h => absurd h.1 c⟩
theorem bt_sh (z : Int32) {i : Nat} (hi : i < 32) (q : Nat) : bt (z ||| ((1 : Int32) <<< (nI i &&& 31))) q = true ↔ bt z q = true ∨ q = i := by
  rw [bt_or, Bool.or_eq_true, bt_shl hi, decide_eq_true_iff]
theorem M_dist52 (W : WF n u pr a b g) (F : MX n u pr a b fam) {f z0 : Int32} {x : Nat} (hx : x < n) :
    ∃ z, p10_distance_L52 fam f (nI x) FU z0 (nI 0) = some z ∧ ∀ q, bt z q = true ↔ bt z0 q = true ∨ (q < n ∧ bt f x = true ∧ (par pr a b x q ∨ par pr a b q x)) := by
  have hn := W.n16
  exact loop_up (fun t i (z : Int32) => p10_distance_L52 fam f (nI x) t z (nI i)) n
    (fun i z => ∀ q, bt z q = true ↔ bt z0 q = true ∨ (q < i ∧ bt f x = true ∧ (par pr a b x q ∨ par pr a b q x)))
    (fun z => ∀ q, bt z q = true ↔ bt z0 q = true ∨ (q < n ∧ bt f x = true ∧ (par pr a b x q ∨ par pr a b q x))) (by
      intro t z hz
      refine ⟨z, ?_, hz⟩
      try dsimp only
      rw [p10_distance_L52, p10_distance_L52_B, M_persons F]
      simp only [ob]
      rw [if_pos (nI_le (Nat.le_refl _) (by omega))]) (by
      intro t i z hi hz
      by_cases c : bt f x = true
      · have hon : ∀ q, bt (z ||| ((1 : Int32) <<< (nI i &&& 31))) q = true ↔ bt z q = true ∨ q = i := bt_sh z (by omega)
        obtain ⟨r1, e1, h1⟩ := M_isParent W F hx hi
        obtain ⟨r2, e2, h2⟩ := M_isParent W F hi hx
        by_cases c2 : par pr a b x i ∨ par pr a b i x
        · refine Or.inl ⟨z ||| ((1 : Int32) <<< (nI i &&& 31)), ?_, fun q => ?_⟩
          · try dsimp only
            rw [p10_distance_L52, p10_distance_L52_B, M_persons F]
            simp only [ob]
            rw [if_neg (nI_ge hi (by omega)), if_pos ((bt_shr1 (by omega)).mpr c), e1]
            simp only []
            rcases c2 with c2 | c2
            · rw [h1.mpr c2, cond_true]
              simp only [lb]
              rw [n1, nI_add]
            · cases r1 with
              | true =>
                rw [cond_true]
                simp only [lb]
                rw [n1, nI_add]
              | false =>
                rw [cond_false, e2, h2.mpr c2]
                simp only [cond_true, lb]
                rw [n1, nI_add]
          · rw [hon q, hz q]
            constructor
            · rintro ((h | ⟨h3, h4, h5⟩) | rfl)
              · exact Or.inl h
              · exact Or.inr ⟨by omega, h4, h5⟩
              · exact Or.inr ⟨by omega, c, c2⟩
            · rintro (h | ⟨h3, h4, h5⟩)
              · exact Or.inl (Or.inl h)
              · by_cases e : q = i
                · exact Or.inr e
                · exact Or.inl (Or.inr ⟨by omega, h4, h5⟩)
        · refine Or.inl ⟨z ||| 0, ?_, fun q => ?_⟩
          · try dsimp only
            rw [p10_distance_L52, p10_distance_L52_B, M_persons F]
            simp only [ob]
            rw [if_neg (nI_ge hi (by omega)), if_pos ((bt_shr1 (by omega)).mpr c), e1]
            simp only []
            have r10 : r1 = false := by
              cases r1 with
              | true => exact absurd (Or.inl (h1.mp rfl)) c2
              | false => rfl
            have r20 : r2 = false := by
              cases r2 with
              | true => exact absurd (Or.inr (h2.mp rfl)) c2
              | false => rfl
            rw [r10, cond_false, e2, r20]
            simp only [cond_false, lb]
            rw [n1, nI_add]
          · rw [bt_or, bt_zero, Bool.or_false, hz q]
            constructor
            · rintro (h | ⟨h3, h4, h5⟩)
              · exact Or.inl h
              · exact Or.inr ⟨by omega, h4, h5⟩
            · rintro (h | ⟨h3, h4, h5⟩)
              · exact Or.inl h
              · by_cases e : q = i
                · rw [e] at h5; exact absurd h5 c2
                · exact Or.inr ⟨by omega, h4, h5⟩
      · refine Or.inr ⟨z, ?_, fun q => ?_⟩
        · try dsimp only
          rw [p10_distance_L52, p10_distance_L52_B, M_persons F]
          simp only [ob]
          rw [if_neg (nI_ge hi (by omega)), if_neg (fun h => c ((bt_shr1 (by omega)).mp h))]
        · rw [hz q]
          exact ⟨fun h => h.elim Or.inl fun h => absurd h.2.1 c, fun h => h.elim Or.inl fun h => absurd h.2.1 c⟩) FU 0 z0 (Nat.zero_le _) (by show n - 0 < 1024; omega) (fun q => ⟨Or.inl, fun h => h.elim id fun h => absurd h.1 (Nat.not_lt_zero _)⟩)
theorem M_dist40 (W : WF n u pr a b g) (F : MX n u pr a b fam) {f : Int32} :
    ∃ z, p10_distance_L40 fam f FU (nI 0) (nI 0) = some z ∧ ∀ q, bt z q = true ↔ nbr n pr a b (fun x => bt f x = true) q := by
  have hn := W.n16
  exact loop_all (fun t i (z : Int32) => p10_distance_L40 fam f t z (nI i)) n
    (fun i z => ∀ q, bt z q = true ↔ q < n ∧ ∃ x, x < i ∧ bt f x = true ∧ (par pr a b x q ∨ par pr a b q x))
    (fun z => ∀ q, bt z q = true ↔ nbr n pr a b (fun x => bt f x = true) q) (by
      intro t z hz
      refine ⟨z, ?_, hz⟩
      try dsimp only
      rw [p10_distance_L40, p10_distance_L40_B, M_persons F]
      simp only [ob]
      rw [if_pos (nI_le (Nat.le_refl _) (by omega))]) (by
      intro t i z hi hz
      obtain ⟨z1, e1, h1⟩ := M_dist52 (f := f) (z0 := z) W F hi
      refine ⟨z1, ?_, fun q => ?_⟩
      · try dsimp only
        rw [p10_distance_L40, p10_distance_L40_B, M_persons F]
        simp only [ob]
        rw [if_neg (nI_ge hi (by omega)), n0, e1]
        simp only [p10_distance_J113, lb]
        rw [n1, nI_add]
      · rw [h1 q, hz q]
        constructor
        · rintro (⟨h2, x, h3, h4⟩ | ⟨h2, h3⟩)
          · exact ⟨h2, x, by omega, h4⟩
          · exact ⟨h2, i, by omega, h3⟩
        · rintro ⟨h2, x, h3, h4⟩
          by_cases e : x = i
          · rw [e] at h4; exact Or.inr ⟨h2, h4⟩
          · exact Or.inl ⟨h2, x, by omega, h4⟩) FU 0 (nI 0) (Nat.zero_le _) (by show n - 0 < 1024; omega) (fun q => by
        rw [← n0, bt_zero]
        exact ⟨fun h => Bool.noConfusion h, fun ⟨_, x, hx, _⟩ => absurd hx (Nat.not_lt_zero _)⟩)
/-- the sphere before it -/
def sph1 (n : Nat) (pr a b : Nat → Nat) (p : Nat) : Nat → Nat → Prop
  | 0, _ => False
  | k + 1, q => sph n pr a b p k q
theorem sph_front {p k q : Nat} : sph n pr a b p (k + 1) q ↔ sph n pr a b p k q ∨ nbr n pr a b (fun x => sph n pr a b p k x ∧ ¬ sph1 n pr a b p k x) q := by
  constructor
  · rintro (h | ⟨h1, x, h2, h3, h4⟩)
    · exact Or.inl h
    · by_cases c : sph1 n pr a b p k x
      · cases k with
        | zero => exact absurd c id
        | succ k => exact Or.inl (Or.inr ⟨h1, x, h2, c, h4⟩)
      · exact Or.inr ⟨h1, x, h2, ⟨h3, c⟩, h4⟩
  · rintro (h | ⟨h1, x, h2, h3, h4⟩)
    · exact Or.inl h
    · exact Or.inr ⟨h1, x, h2, h3.1, h4⟩
theorem M_distance (W : WF n u pr a b g) (F : MX n u pr a b fam) {p q : Nat} (hp : p < n) (hq : q < n) :
    ∃ r, p10_distance fam (nI p) (nI q) = some (r, 0) ∧ DST n pr a b p q r := by
  have hn := W.n16
  have hL := loop_up (fun t i (z : Int32 × Int32) => p10_distance_L21 fam (nI q) t z.1 z.2 (nI i)) 16
    (fun i z => (∀ y, bt z.1 y = true ↔ sph n pr a b p i y) ∧ (∀ y, bt z.2 y = true ↔ sph n pr a b p i y ∧ ¬ sph1 n pr a b p i y) ∧ (∀ j, j < i → ¬ sph n pr a b p j q) ∧ i ≤ cnt (bt z.1) n ∧ (¬ z.2 = 0 → i < cnt (bt z.1) n))
    (fun r => DST n pr a b p q (if (r.1 >>> (nI q &&& 31)) &&& 1 = 1 then r.2 else -1)) (by
      intro t z hz
      have hc := cnt_le (bt z.1) n
      have hz0 : z.2 = 0 := Classical.byContradiction fun h => by have := hz.2.2.2.2 h; omega
      have hst : ∀ y, sph n pr a b p 16 y → sph n pr a b p 15 y := fun y h => Classical.byContradiction fun h2 => by
        have h3 := (hz.2.1 y).mpr ⟨h, h2⟩
        rw [hz0, bt_zero] at h3
        exact Bool.noConfusion h3
      refine ⟨(z.1, nI 16), ?_, ?_⟩
      · try dsimp only
        rw [p10_distance_L21, p10_distance_L21_B, hz0]
        split
        · rfl
        · rfl
      · have hq16 : ¬ bt z.1 q = true := fun h => hz.2.2.1 15 (by omega) (hst q ((hz.1 q).mp h))
        show DST n pr a b p q (if (z.1 >>> (nI q &&& 31)) &&& 1 = 1 then nI 16 else -1)
        rw [if_neg (fun h => hq16 ((bt_shr1 (by omega)).mp h))]
        exact Or.inr ⟨fun k hk => hz.2.2.1 k hk, rfl⟩) (by
      intro t i z hi hz
      by_cases c : (z.1 >>> (nI q &&& 31)) &&& 1 = 0
      · have cq : ¬ sph n pr a b p i q := fun h => by
          have h1 := (hz.1 q).mpr h
          rw [(bt_shr (by omega)).mp c] at h1
          exact Bool.noConfusion h1
        by_cases c0 : z.2 = 0
        · have hst : ∀ y, sph n pr a b p i y → sph1 n pr a b p i y := fun y h => Classical.byContradiction fun h2 => by
            have h3 := (hz.2.1 y).mpr ⟨h, h2⟩
            rw [c0, bt_zero] at h3
            exact Bool.noConfusion h3
          refine Or.inr ⟨(z.1, nI i), ?_, ?_⟩
          · try dsimp only
            rw [p10_distance_L21, p10_distance_L21_B, if_pos c, if_pos c0]
          · show DST n pr a b p q (if (z.1 >>> (nI q &&& 31)) &&& 1 = 1 then nI i else -1)
            rw [c, if_neg (by decide)]
            refine Or.inr ⟨fun k hk h => ?_, rfl⟩
            have hall : ∀ m y, sph n pr a b p (i + m) y → sph n pr a b p i y := by
              intro m
              induction m with
              | zero => exact fun y h => h
              | succ m ih =>
                intro y h
                rcases h with h | ⟨h1, x, h2, h3, h4⟩
                · exact ih y h
                · have h5 := hst x (ih x h3)
                  cases i with
                  | zero => exact absurd h5 id
                  | succ i => exact Or.inr ⟨h1, x, h2, h5, h4⟩
            exact cq (hall k q (sph_mono (by omega) h))
        · obtain ⟨w, e1, h1⟩ := M_dist40 (f := z.2) W F
          have hnw : ∀ y, bt (w &&& (z.1 ^^^ -1)) y = true ↔ bt w y = true ∧ ¬ bt z.1 y = true := by
            intro y
            rw [bt_and, bt_xor]
            by_cases hy : y < 32
            · rw [bt_m1 hy]
              cases bt w y <;> cases bt z.1 y <;> simp
            · rw [bt_big (x := w) (by omega)]
              simp
          have hw : ∀ y, bt w y = true ↔ nbr n pr a b (fun x => sph n pr a b p i x ∧ ¬ sph1 n pr a b p i x) y := fun y => by
            rw [h1 y]
            unfold nbr
            constructor
            · rintro ⟨h2, x, h3, h4, h5⟩
              exact ⟨h2, x, h3, (hz.2.1 x).mp h4, h5⟩
            · rintro ⟨h2, x, h3, h4, h5⟩
              exact ⟨h2, x, h3, (hz.2.1 x).mpr h4, h5⟩
          have hnx : ∀ y, bt (z.1 ||| w) y = true ↔ sph n pr a b p (i + 1) y := by
            intro y
            rw [bt_or, Bool.or_eq_true, sph_front, ← hw y, hz.1 y]
          refine Or.inl ⟨(z.1 ||| w, w &&& (z.1 ^^^ -1)), ?_, hnx, fun y => ?_, fun j hj => ?_, ?_, fun hne => ?_⟩
          · try dsimp only
            rw [p10_distance_L21, p10_distance_L21_B, if_pos c, if_neg c0, n0, e1]
            simp only [ob, p10_distance_J119, lb]
            rw [n1, nI_add]
          · show bt (w &&& (z.1 ^^^ -1)) y = true ↔ sph n pr a b p (i + 1) y ∧ ¬ sph n pr a b p i y
            rw [hnw y, sph_front, ← hw y, hz.1 y]
            exact ⟨fun k => ⟨Or.inr k.1, k.2⟩, fun k => ⟨k.1.elim (fun k2 => absurd k2 k.2) id, k.2⟩⟩
          · by_cases e : j = i
            · rw [e]; exact cq
            · exact hz.2.2.1 j (by omega)
          · have h2 := hz.2.2.2.2 c0
            have h3 : cnt (bt z.1) n ≤ cnt (bt (z.1 ||| w)) n := by
              rw [cnt_sm, cnt_sm]
              refine sm_le fun y _ => ?_
              rw [bt_or]
              cases bt z.1 y <;> simp
            show i + 1 ≤ cnt (bt (z.1 ||| w)) n
            omega
          · have h2 := hz.2.2.2.2 c0
            have hex : ∃ y, y < n ∧ bt (w &&& (z.1 ^^^ -1)) y = true := Classical.byContradiction fun h => hne (bt_ext fun y _ => by
              rw [bt_zero]
              cases hb : bt (w &&& (z.1 ^^^ -1)) y with
              | false => rfl
              | true => exact absurd ⟨y, ((h1 y).mp ((hnw y).mp hb).1).1, hb⟩ h)
            obtain ⟨y, hy, hb⟩ := hex
            have h3 : cnt (bt z.1) n < cnt (bt (z.1 ||| w)) n := by
              rw [cnt_sm, cnt_sm]
              refine sm_lt (fun y _ => ?_) hy ?_
              · rw [bt_or]
                cases bt z.1 y <;> simp
              · have h4 := (hnw y).mp hb
                rw [bt_or, h4.1]
                have h5 := h4.2
                rw [Bool.not_eq_true] at h5
                rw [h5]
                decide
            show i + 1 < cnt (bt (z.1 ||| w)) n
            omega
      · have cq : sph n pr a b p i q := (hz.1 q).mp (by
          cases hb : bt z.1 q with
          | true => rfl
          | false => exact absurd ((bt_shr (by omega)).mpr hb) c)
        refine Or.inr ⟨(z.1, nI i), ?_, ?_⟩
        · try dsimp only
          rw [p10_distance_L21, p10_distance_L21_B, if_neg c]
        · show DST n pr a b p q (if (z.1 >>> (nI q &&& 31)) &&& 1 = 1 then nI i else -1)
          rw [if_pos ((bt_shr1 (by omega)).mpr ((hz.1 q).mpr cq))]
          exact Or.inl ⟨i, hi, cq, hz.2.2.1, rfl⟩) FU 0 ((1 : Int32) <<< (nI p &&& 31), (1 : Int32) <<< (nI p &&& 31)) (Nat.zero_le _) (by decide) (by
        have hb : ∀ y, bt ((1 : Int32) <<< (nI p &&& 31)) y = true ↔ y = p := fun y => by rw [bt_shl (by omega), decide_eq_true_iff]
        refine ⟨hb, fun y => ⟨fun h => ⟨(hb y).mp h, id⟩, fun h => (hb y).mpr h.1⟩, fun j hj => absurd hj (Nat.not_lt_zero _), Nat.zero_le _, fun _ => ?_⟩
        have := cnt_lt (f := bt ((1 : Int32) <<< (nI p &&& 31))) hp ((hb p).mpr rfl)
        show 0 < cnt (bt ((1 : Int32) <<< (nI p &&& 31))) n
        omega)
  obtain ⟨z, e1, h1⟩ := hL
  refine ⟨(if (z.1 >>> (nI q &&& 31)) &&& 1 = 1 then z.2 else -1), ?_, h1⟩
  have e1' : p10_distance_L21 fam (nI q) FU ((1 : Int32) <<< (nI p &&& 31)) ((1 : Int32) <<< (nI p &&& 31)) (nI 0) = some z := e1
  unfold p10_distance
  rw [M_arePersons F hn, hasPerson_in hp (by omega), hasPerson_in hq (by omega)]
  simp only [ob, uc2, Bool.and_self, cond_true, lb, if_true]
  rw [n0, e1']
  simp only [p10_distance_J138]
  split <;> rfl
end MDIST
