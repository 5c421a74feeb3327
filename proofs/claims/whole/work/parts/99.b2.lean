/-! repeated, inbreeding -/
def skk (kk : Nat → Nat → Int64) (a b : Nat → Nat) : Nat → Int64
  | 0 => 0
  | w + 1 => skk kk a b w + kk (a w) (b w)
theorem cmp_same {α : Type} {c : Prop} [Decidable c] (x : α) : (if c then some x else if c then none else if c then none else some x) = some x := by
  by_cases h : c
  · rw [if_pos h]
  · rw [if_neg h, if_neg h, if_neg h]
section RBF
variable {n u : Nat} {pr a b g lc : Nat → Nat} {lt : Nat → Nat → Nat} {an : Nat → Nat → Bool} {fam ek mk : Nat → Int64} {lA letters py pu fp sp uY ge am lv rf od rs po fb sb bA gM lM ro rS : Nat → Int32} {it : Nat → Bool} {pc uc rc R : Int32}
theorem R25 (I : FR pc uc rc lA letters py pu fp sp uY ge am lv rf od rs po fb sb fam) : ∃ z, pL_25 pc rc rs fam gM lM rS ro it bA = some z := by
  obtain ⟨n, lc, lt, yr, rfl, hC, hX, u, pr, a, b, g, an, uy, pl, bx, rfl, rfl, U, X, V, P⟩ := I
  have W := U.1
  have hn := W.n16
  unfold pL_25 p9_repeated p10_repeated
  obtain ⟨bA', gM', it', lM', ro', rS', e0, Gx, B, BAx⟩ := M_lay (bA := bA) (ge := gM) (it := it) (lv := lM) (ro := ro) (rs := rS) W V.1 V.2.1 U.2.2
  have hm0 := M_boxCountL (it := it') (f := th n u a b g) (fun x hx => (B.1 x hx).1) (k := 0) (by omega)
  have hm16 := M_boxCountL (it := it') (f := th n u a b g) (fun x hx => (B.1 x hx).1) (k := 16) (by omega)
  have h16 : cnt (th n u a b g) 16 = n := by
    rw [cnt_congr (g := fun x => decide (x < n)) (fun i hi => th_p hi)]
    exact cnt_below 16 hn
  have hle : cnt (th n u a b g) 16 ≤ cnt (th n u a b g) 28 := cnt_mono (by omega)
  have hle2 := cnt_le (th n u a b g) 28
  rw [show cnt (th n u a b g) 0 = 0 from rfl, Nat.sub_zero] at hm0
  rw [h16] at hm16
  rw [e0, X7_boxCount W X.2.2.2.1]
  simp only [ob, lb_eq, uc7]
  rw [show (0 : Int32) = nI 0 from rfl, show (16 : Int32) = nI 16 from rfl, hm0]
  simp only [ob]
  by_cases c : cnt (th n u a b g) 28 = 0
  · rw [c, if_neg (nI_nlt (Nat.le_refl _) (by omega)), if_pos rfl]
    simp only [uc9]
    rw [gn64_f0, gn64_f0]
    rw [cmp_same]
    exact ⟨_, rfl⟩
  · rw [if_pos (nI_lt (by omega) (by omega)), if_neg (fun q => c ((nI_eq (by omega) (by omega)).mp q)), hm16, nI_sub (by omega)]
    simp only []
    rw [gn32_div _ (by omega) (by omega), gn32_div _ (by omega) (by omega)]
    simp only [uc9]
    rw [gn64_f2d _ (by omega) (by omega), gn64_f2d _ (by omega) (by omega), cmp_same]
    exact ⟨_, rfl⟩
theorem X6_sum (W : WF n u pr a b g) (F : FX n u pr a b pu fp sp) : p6_sumOfPartners (nI u) ek fp sp = some (skk (kT ek) a b u) := by
  have hn := W.n16
  have hu := W.u12
  obtain ⟨z, e1, h1⟩ := loop_all (fun t i (s : Int64) => p6_sumOfPartners_L4 ek fp sp (nI u) t s (nI i)) u
    (fun i s => s = skk (kT ek) a b i) (fun s => s = skk (kT ek) a b u) (by
      intro t s hs
      refine ⟨s, ?_, hs⟩
      try dsimp only
      rw [p6_sumOfPartners_L4, p6_sumOfPartners_L4_B, if_pos (nI_le (Nat.le_refl _) (by omega))]) (by
      intro t i s hi hs
      obtain ⟨m1, m2, -⟩ := W.par hi
      refine ⟨s + kT ek (a i) (b i), ?_, by rw [hs]; rfl⟩
      try dsimp only
      rw [p6_sumOfPartners_L4, p6_sumOfPartners_L4_B, if_neg (nI_ge hi (by omega)), F.at_fp hu hi, F.at_sp hu hi, K6_get (by omega) (by omega)]
      simp only [ob, lb_eq]
      rw [n1, nI_add]
      rfl) FU 0 0 (Nat.zero_le _) (by show u - 0 < 1024; omega) rfl
  have e1' : p6_sumOfPartners_L4 ek fp sp (nI u) FU 0 (nI 0) = some z := e1
  unfold p6_sumOfPartners
  rw [n0, e1', h1]
  rfl
theorem M_sum (W : WF n u pr a b g) (F : MX n u pr a b fam) (hg : ∀ p, p < n → ge p = nI (g p)) {kk : Nat → Nat → Int64} (hk : ∀ p q, p < n → q < n → kk p q = KV pr a b g kk p q) (M0 : MEM n kk mk) :
    ∃ mk', p10_inbreeding_L13 fam ge FU 0 (nI 0) mk = some (skk kk a b u, mk') := by
  have hn := W.n16
  have hu := W.u12
  obtain ⟨z, e1, h1⟩ := loop_all (fun t i (s : Int64 × (Nat → Int64)) => p10_inbreeding_L13 fam ge t s.1 (nI i) s.2) u
    (fun i s => s.1 = skk kk a b i ∧ MEM n kk s.2) (fun s => s.1 = skk kk a b u) (by
      intro t s hs
      refine ⟨(s.1, s.2), ?_, hs.1⟩
      try dsimp only
      rw [p10_inbreeding_L13, p10_inbreeding_L13_B, M_unions F]
      simp only [ob]
      rw [if_pos (nI_le (Nat.le_refl _) (by omega))]) (by
      intro t i s hi hs
      obtain ⟨m1, m2, -⟩ := W.par hi
      have g1 := W.glt m1
      have g2 := W.glt m2
      obtain ⟨mk', e2, M'⟩ := M_kinshipOf W F hg hk 64 (a i) (b i) s.2 m1 m2 (by omega) hs.2
      refine ⟨(s.1 + kk (a i) (b i), mk'), ?_, ⟨by rw [hs.1]; rfl, M'⟩⟩
      try dsimp only
      rw [p10_inbreeding_L13, p10_inbreeding_L13_B, M_unions F]
      simp only [ob]
      rw [if_neg (nI_ge hi (by omega)), n0, M_partner0 F hu hi, n1, M_partner1 F hu hi]
      simp only []
      rw [e2]
      simp only [uc2, lb_eq]
      rw [nI_add]) FU 0 (0, mk) (Nat.zero_le _) (by show u - 0 < 1024; omega) ⟨rfl, M0⟩
  refine ⟨z.2, ?_⟩
  rw [← h1]
  exact e1
theorem R26 (I : FR pc uc rc lA letters py pu fp sp uY ge am lv rf od rs po fb sb fam) : ∃ z, pL_26 pc uc rc pu fp sp ge ek fam gM lM mk = some z := by
  obtain ⟨n, lc, lt, yr, rfl, hC, hX, u, pr, a, b, g, an, uy, pl, bx, rfl, rfl, U, X, V, P⟩ := I
  have W := U.1
  have hn := W.n16
  have hu := W.u12
  obtain ⟨e', q1, h1⟩ := X6_note (e0 := ek) W X.1 (fun p hp => (X.2.2.1.1 p hp).1)
  obtain ⟨ge', mk', lv', q2, h2, -, h3⟩ := M_forget (ge := gM) (lv := lM) (mk := mk) W V.1
  obtain ⟨mk2, q3⟩ := M_sum W V.1 h2 h1 (mk := mk') (fun p q hp hq => Or.inl (h3 _ (by omega)))
  unfold pL_26 p9_inbreeding p10_inbreeding
  rw [q2]
  simp only [ob, uc4]
  rw [show (0 : Int32) = nI 0 from rfl, q3]
  simp only [uc2]
  unfold p10_inbreeding_J46
  rw [M_unions V.1]
  simp only [ob]
  by_cases c : u = 0
  · rw [if_neg (show ¬ nI 0 < nI u by rw [c]; exact nI_nlt (Nat.le_refl _) (by omega)), if_pos (show nI u = 0 by rw [c]; rfl)]
    simp only [uc6]
    rw [cmp_same]
    exact ⟨_, rfl⟩
  · rw [if_pos (nI_lt (by omega) (by omega)), if_neg (show ¬ nI u = 0 from fun q => c ((nI_eq (by omega) (by omega)).mp q)), q1]
    simp only []
    rw [X6_sum W X.1]
    simp only []
    rw [nI_l (by omega), show (549755813888 : Int64) = lN 549755813888 from rfl, lN_mul, gn64_div _ (by omega) (by omega), gn64_div _ (by omega) (by omega)]
    simp only [uc6]
    rw [cmp_same]
    exact ⟨_, rfl⟩
end RBF
