section OWN3
variable {n u : Nat} {pr a b g : Nat → Nat} {an : Nat → Nat → Bool} {pn ge lv : Nat → Int32} {un od : Nat → Nat → Int32} {nu no : Nat} {ln : Nat → Nat} {pl : Nat → Nat} {bx : Nat → Nat → Nat}
theorem O_impL (W : WF n u pr a b g) (F : OF n u pr a b pn un nu) (G : OG n u a b g ge lv) {v : Nat} (hv : v ≤ 5) :
    ∀ m i (s : Nat × (Nat → Nat) × (Nat → Nat → Nat)) (od : Nat → Nat → Int32) (fuel c : Nat), i + m = v → m + 1 < fuel → 0 < c → c < 1000 → OO n u a b g s.2.2 ln od no → LAY n u a b g s.2.1 s.2.2 →
      ∃ od', p10_improve_L7 ge lv ln no nu pn (nI n) (nI (rowsN g n)) un (nI u) (nI v) fuel (nI s.1) (nI c) (nI i) od = some (nI (impN n u pr a b g m s).1, od') ∧ OO n u a b g (impN n u pr a b g m s).2.2 ln od' no := by
  have hR := rows16 W
  intro m
  induction m with
  | zero =>
    intro i s od fuel c him hf hc0 hc1 M L
    obtain ⟨k, rfl⟩ : ∃ j, fuel = j + 1 := ⟨fuel - 1, by omega⟩
    refine ⟨od, ?_, M⟩
    rw [p10_improve_L7, p10_improve_L7_B, if_pos (nI_le (by omega) (by omega))]
    rfl
  | succ m ih =>
    intro i s od fuel c him hf hc0 hc1 M L
    obtain ⟨k, rfl⟩ : ∃ j, fuel = j + 1 := ⟨fuel - 1, by omega⟩
    obtain ⟨od1, e1, M1⟩ := O_impA W F G M L
    have L1 := impA_LAY (n := n) (u := u) (pr := pr) (a := a) (b := b) (g := g) (s := (0, s.2)) L (r := rowsN g n)
    have hle := impA_le (n := n) (u := u) (pr := pr) (a := a) (b := b) (g := g) (rowsN g n) (0, s.2)
    rw [p10_improve_L7, p10_improve_L7_B, if_neg (nI_ge (by omega) (by omega)), n0, if_neg (nI_ge hc0 (by omega)), e1]
    simp only [ob, uc2, p10_improve_J104, lb_eq]
    have es : ((0 : Nat), s.2.1, s.2.2) = (0, s.2) := rfl
    rw [es] at *
    unfold impN
    rw [nI_add, n1, nI_add]
    by_cases c : (impA n u pr a b g (rowsN g n) (0, s.2)).1 = 0
    · rw [if_pos c, c, Nat.add_zero]
      refine ⟨od1, ?_, M1⟩
      obtain ⟨k', rfl⟩ : ∃ j, k = j + 1 := ⟨k - 1, by omega⟩
      rw [p10_improve_L7, p10_improve_L7_B]
      split
      · rfl
      · rw [n0, if_pos (nI_le (Nat.le_refl _) (by omega))]
    · rw [if_neg c]
      exact ih (i + 1) (s.1 + (impA n u pr a b g (rowsN g n) (0, s.2)).1, (impA n u pr a b g (rowsN g n) (0, s.2)).2) od1 k _ (by omega) (by omega) (by omega) (by dsimp only at hle; omega) M1 L1
theorem O_improve (W : WF n u pr a b g) (F : OF n u pr a b pn un nu) (G : OG n u a b g ge lv) (O : OO n u a b g bx ln od no) (L : LAY n u a b g pl bx) {v : Nat} (hv : v ≤ 5) :
    ∃ od', p10_improve (nI n) (nI u) (nI (rowsN g n)) ge lv pn un nu ln od no (nI v) = some (nI (impN n u pr a b g v (0, pl, bx)).1, od') ∧ OO n u a b g (impN n u pr a b g v (0, pl, bx)).2.2 ln od' no := by
  obtain ⟨od', e, h⟩ := O_impL W F G hv v 0 (0, pl, bx) od FU 1 (by omega) (by show v + 1 < 1024; omega) (by omega) (by omega) O L
  refine ⟨od', ?_, h⟩
  unfold p10_improve
  rw [n0, n1, e]
  simp only [ob, uc2, p10_improve_J114]
end OWN3
