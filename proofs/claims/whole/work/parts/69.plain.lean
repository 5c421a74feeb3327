section MPLAIN
variable {n u : Nat} {pr a b g : Nat → Nat} {an : Nat → Nat → Bool} {fam : Nat → Int64} {ge lv ro rs bA : Nat → Int32} {it : Nat → Bool} {pl : Nat → Nat} {bx : Nat → Nat → Nat}
theorem MX.keep (F : MX n u pr a b fam) (hn : n ≤ 16) (hu : u ≤ 12) {fam' : Nat → Int64} (h : ∀ k, k < 102 → fam' k = fam k) : MX n u pr a b fam' := by
  refine ⟨by rw [h _ (by omega)]; exact F.1, by rw [h _ (by omega)]; exact F.2.1, fun p hp => by rw [h _ (by omega)]; exact F.2.2.1 p hp, fun w hw => ?_⟩
  rw [h _ (by omega), h _ (by omega)]
  exact F.2.2.2 w hw
theorem nI_toL {k : Nat} (h : k < 2147483648) : (nI k).toInt64 = lN k := nI_l h
theorem M_makePlain (W : WF n u pr a b g) (F : MX n u pr a b fam) :
    ∃ bA' fam' ge' it' lv' ro' rs', p10_makePlain bA fam ge it lv ro rs = some (bA', fam', ge', it', lv', ro', rs', nI (rowsN g n)) ∧ LM n u a b g (pbx n u a b g) bA' ge' it' lv' ro' rs' ∧
      PLM n u a b g (ppl n u a b g) fam' ∧ ∀ k, k < 102 → fam' k = fam k := by
  have hn := W.n16
  have hu := W.u12
  have hR := rows16 W
  obtain ⟨ge1, lv1, e1, f1, f2⟩ := M_layGen (ge := ge) (lv := lv) W F
  obtain ⟨it1, ro1, rs1, e2, f3⟩ := M_layBoxes (it := it) (ro := ro) (rs := rs) W F ⟨f1, f2⟩
  -- one row
  have hrow : ∀ r, r < 16 → ∀ fm : Nat → Int64, ∃ fm', p10_makePlain_L22 it1 ro1 (nI r) FU (nI 0) (nI 0) fm = some fm' ∧ (∀ x, x < 28 → th n u a b g x = true → rb a b g x = r → fm' (102 + x) = lN (ppl n u a b g x)) ∧ ∀ k, (k < 102 ∨ ∀ x, x < 28 → th n u a b g x = true → rb a b g x = r → k ≠ 102 + x) → fm' k = fm k := by
    intro r hr fm
    obtain ⟨s1, h1, h2, h3⟩ := loop_all (fun k i (s : Nat × (Nat → Int64)) => p10_makePlain_L22 it1 ro1 (nI r) k (nI s.1) (nI i) s.2) 28
      (fun i s => s.1 = cnt (inr n u a b g r) i ∧ (∀ x, x < i → th n u a b g x = true → rb a b g x = r → s.2 (102 + x) = lN (ppl n u a b g x)) ∧ ∀ k, (k < 102 ∨ ∀ x, x < 28 → th n u a b g x = true → rb a b g x = r → k ≠ 102 + x) → s.2 k = fm k)
      (fun (s : Nat → Int64) => (∀ x, x < 28 → th n u a b g x = true → rb a b g x = r → s (102 + x) = lN (ppl n u a b g x)) ∧ ∀ k, (k < 102 ∨ ∀ x, x < 28 → th n u a b g x = true → rb a b g x = r → k ≠ 102 + x) → s k = fm k) (by
        intro k s hs
        refine ⟨s.2, ?_, hs.2⟩
        try dsimp only
        rw [p10_makePlain_L22, p10_makePlain_L22_B, n28, if_pos (nI_le (Nat.le_refl _) (by omega))]) (by
        intro k i s hi hs
        obtain ⟨q1, q2, q3⟩ := hs
        obtain ⟨t1, t2⟩ := f3.1 i hi
        have hc := cnt_le (inr n u a b g r) i
        by_cases e : inr n u a b g r i = true
        · obtain ⟨e3, e4⟩ := inr_iff.mp e
          rw [e3, if_pos rfl, e4] at t2
          refine ⟨(cnt (inr n u a b g r) (i + 1), vp_updL s.2 (102 + i) (lN (cnt (inr n u a b g r) i))), ?_, rfl, fun x hx ht hxr => ?_, fun k hk => ?_⟩
          · try dsimp only
            rw [p10_makePlain_L22, p10_makePlain_L22_B, n28, if_neg (nI_ge hi (by omega)), gd_in (by omega) (by omega), nI_clamp (by omega), t1, e3, cond_true, gd_in (by omega) (by omega), t2, if_pos rfl, n102, nI_add, gd_in (by omega) (by omega), nI_clamp (by omega), q1, nI_toL (by omega)]
            simp only [lb]
            rw [n1, nI_add, nI_add, cnt_s, if_pos e]
          · dsimp only
            by_cases e5 : x = i
            · subst e5
              rw [updL_eq]
              unfold ppl
              rw [hxr]
            · rw [updL_ne (by omega)]; exact q2 x (by omega) ht hxr
          · dsimp only
            have : k ≠ 102 + i := by
              rcases hk with h | h
              · omega
              · exact h i hi e3 e4
            rw [updL_ne this]; exact q3 k hk
        · refine ⟨(s.1, s.2), ?_, by rw [q1, cnt_s, if_neg e, Nat.add_zero], fun x hx ht hxr => ?_, q3⟩
          · try dsimp only
            rw [p10_makePlain_L22, p10_makePlain_L22_B, n28, if_neg (nI_ge hi (by omega)), gd_in (by omega) (by omega), nI_clamp (by omega), t1, gd_in (by omega) (by omega)]
            simp only [lb]
            rw [n1]
            cases e3 : th n u a b g i with
            | false => rw [cond_false, nI_add]
            | true =>
              have hlt := rb_lt W e3
              rw [cond_true, t2, e3, if_pos rfl, if_neg (fun q => e (inr_iff.mpr ⟨e3, (nI_eq (by omega) (by omega)).mp q⟩)), nI_add]
          · by_cases e5 : x = i
            · subst e5; exact absurd (inr_iff.mpr ⟨ht, hxr⟩) e
            · exact q2 x (by omega) ht hxr) FU 0 (0, fm) (Nat.zero_le _) (by show 28 - 0 < 1024; omega) ⟨rfl, fun x hx => absurd hx (Nat.not_lt_zero _), fun _ _ => rfl⟩
    exact ⟨s1, h1, h2, h3⟩
  obtain ⟨fm, e4, f4, f5⟩ := loop_all (fun k i (s : Nat → Int64) => p10_makePlain_L10 it1 ro1 (nI (rowsN g n)) k (nI i) s) (rowsN g n)
    (fun i s => (∀ x, x < 28 → th n u a b g x = true → rb a b g x < i → s (102 + x) = lN (ppl n u a b g x)) ∧ ∀ k, k < 102 → s k = fam k)
    (fun s => (∀ x, x < 28 → th n u a b g x = true → s (102 + x) = lN (ppl n u a b g x)) ∧ ∀ k, k < 102 → s k = fam k) (by
      intro k s hs
      refine ⟨s, ?_, fun x hx ht => hs.1 x hx ht (th_row W ht), hs.2⟩
      try dsimp only
      rw [p10_makePlain_L10, p10_makePlain_L10_B, if_pos (nI_le (Nat.le_refl _) (by omega))]) (by
      intro k i s hi hs
      obtain ⟨fm', r1, r2, r3⟩ := hrow i (by omega) s
      refine ⟨fm', ?_, fun x hx ht hxr => ?_, fun k hk => by rw [r3 k (Or.inl hk)]; exact hs.2 k hk⟩
      · try dsimp only
        rw [p10_makePlain_L10, p10_makePlain_L10_B, if_neg (nI_ge hi (by omega)), n0, r1]
        simp only [ob]
        unfold p10_makePlain_J67
        simp only [lb]
        rw [n1, nI_add]
      · by_cases e5 : rb a b g x = i
        · exact r2 x hx ht e5
        · rw [r3 _ (Or.inr fun y hy hty hyr q => e5 (by rw [show x = y by omega]; exact hyr))]
          exact hs.1 x hx ht (by omega)) FU 0 fam (Nat.zero_le _) (by show rowsN g n - 0 < 1024; omega) ⟨fun x _ _ h => absurd h (Nat.not_lt_zero _), fun _ _ => rfl⟩
  obtain ⟨bA1, e5, f6⟩ := M_layPlaces (bA := bA) (fam := fm) W f3 f4 LAY.plain
  try dsimp only at e4
  refine ⟨bA1, fm, ge1, it1, lv1, ro1, rs1, ?_, ⟨⟨f1, f2⟩, f3, f6⟩, f4, f5⟩
  unfold p10_makePlain
  rw [e1]
  simp only [ob, uc3]
  rw [e2]
  simp only
  rw [n0, e4]
  simp only
  unfold p10_makePlain_J73
  rw [e5]
  rfl
end MPLAIN
