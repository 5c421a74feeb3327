/-! a box, printed on both sides -/
def LTX (n : Nat) (lc : Nat → Nat) (lt : Nat → Nat → Nat) (letters : Nat → Int32) : Prop := ∀ p, p < n → ∀ i, i < lc p → letters (p * 8 + i) = nI (96 + lt p i)
def NMM (n : Nat) (lc : Nat → Nat) (lt : Nat → Nat → Nat) (fam : Nat → Int64) : Prop := ∀ p, p < n → fam (2 + 4 * p + 2) = lN (nmb (lt p) (lc p))
section PBOX
variable {n u : Nat} {pr a b g lc col : Nat → Nat} {lt : Nat → Nat → Nat} {an : Nat → Nat → Bool} {fam : Nat → Int64} {pu fp sp ge am lv rf od rs po fb sb bA lA fc mc cA line letters : Nat → Int32} {len : Int32} {pl : Nat → Nat} {bx : Nat → Nat → Nat} {s : Nat × (Nat → Int32)} {N : Nat}
theorem LN.congr {s' : Nat × (Nat → Int32)} (h : LN N s line len) (h1 : s.1 = s'.1) (h2 : ∀ j, j < N → s.2 j = s'.2 j) : LN N s' line len := by
  refine ⟨by rw [h.1, h1], fun j hj => by rw [h.2 j hj, h2 j hj]⟩
theorem X4_letters {c p k : Nat} (hc : c + k + 2 ≤ 400) (hp : p < 16) (hk : k ≤ 8) (l : Nat → Nat) (hlt : ∀ i, i < k → letters (p * 8 + i) = nI (96 + l i)) (h : LN 400 s line len) (hs : s.1 ≤ 400) (hs2 : c + 1 ≤ s.1) :
    ∃ line' len', p4_printBox_L67 letters (nI p) (nI k) (nI c) FU (nI 0) line len = some (line', len') ∧ LN 400 (max s.1 (c + 1 + k), ltr l (c + 1) k s.2) line' len' := by
  have hL := loop_all (fun t i (z : (Nat → Int32) × Int32) => p4_printBox_L67 letters (nI p) (nI k) (nI c) t (nI i) z.1 z.2) k
    (fun i z => LN 400 (max s.1 (c + 1 + i), ltr l (c + 1) i s.2) z.1 z.2) (fun z => LN 400 (max s.1 (c + 1 + k), ltr l (c + 1) k s.2) z.1 z.2) (by
      intro t z hz
      refine ⟨z, ?_, hz⟩
      try dsimp only
      rw [p4_printBox_L67, p4_printBox_L67_B, if_pos (nI_le (Nat.le_refl _) (by omega))]) (by
      intro t i z hi hz
      have n8' : (8 : Int32) = nI 8 := rfl
      refine ⟨(upd z.1 (c + 1 + i) (nI (96 + l i)), nI (max (max s.1 (c + 1 + i)) (c + 1 + i + 1))), ?_, ?_⟩
      · try dsimp only
        rw [p4_printBox_L67, p4_printBox_L67_B, if_neg (nI_ge hi (by omega)), n8', nI_mul, n1, nI_add, nI_add, nI_add, at_in (by omega) (by omega), hlt i hi, X4_printByte hz (by show max s.1 (c + 1 + i) ≤ 400; omega) (by omega)]
        simp only [lb, uc2]
        rw [nI_add]
      · have hm := hz.mk (c := c + 1 + i) (v := nI (96 + l i))
        refine hm.congr ?_ fun j hj => ?_
        · show max (max s.1 (c + 1 + i)) (c + 1 + i + 1) = max s.1 (c + 1 + (i + 1))
          omega
        · unfold mk ltr
          dsimp only
          by_cases e : j = c + 1 + i
          · rw [e, upd_eq, if_pos (by omega), show c + 1 + i - (c + 1) = i by omega]
          · rw [upd_ne e]
            by_cases e3 : c + 1 ≤ j ∧ j < c + 1 + i
            · rw [if_pos e3, if_pos (by omega)]
            · rw [if_neg e3, if_neg (by omega)]) FU 0 (line, len) (Nat.zero_le _) (by show k - 0 < 1024; omega) (by
      refine h.congr ?_ fun j hj => ?_
      · show s.1 = max s.1 (c + 1 + 0)
        omega
      · unfold ltr
        dsimp only
        rw [if_neg (by omega)])
  obtain ⟨z, e1, e2⟩ := hL
  exact ⟨z.1, z.2, e1, e2⟩
theorem bxl_of {m : Bool} {c k : Nat} {l : Nat → Nat} {j : Nat} :
    (mk (max (mk s c (if m then 91 else 40)).1 (c + 1 + k), ltr l (c + 1) k (mk s c (if m then 91 else 40)).2) (c + 1 + k) (if m then 93 else 41)).2 j = (bxl l m c k s).2 j := by
  unfold bxl mk ltr
  dsimp only
  by_cases e : j = c + 1 + k
  · rw [e, upd_eq, if_pos rfl]
  · rw [upd_ne e, if_neg e]
    by_cases e2 : c + 1 ≤ j ∧ j < c + 1 + k
    · rw [if_pos e2, if_pos e2]
    · rw [if_neg e2, if_neg e2]
      by_cases e3 : j = c
      · rw [e3, upd_eq, if_pos rfl]
      · rw [upd_ne e3, if_neg e3]
theorem X4_printBox (W : WF n u pr a b g) (Q : ∀ w, w < u → rf w = rN (rw_ a b g w)) (C : LCX n lc lA) (T : LTX n lc lt letters) (hlc : ∀ p, p < n → lc p ≤ 8) {x : Nat} (hx : x < 28) (ht : th n u a b g x = true) (hcol : fc x = nI (col x)) (hcb : col x ≤ 380) (h : LN 400 s line len) (hs : s.1 ≤ 400) :
    ∃ line' len', p4_printBox len fc lA letters rf line (nI x) = some (line', len') ∧ LN 400 (bxl (lt (pp a b g x)) (decide (x < 16)) (col x) (lc (pp a b g x)) s) line' len' := by
  have hn := W.n16
  have hp := pp_lt W ht
  have hk := hlc _ hp
  have hJ : ∀ m : Bool, ∃ line' len', p4_printBox_J12 fc lA letters rf line len (nI x) m = some (line', len') ∧ LN 400 (bxl (lt (pp a b g x)) m (col x) (lc (pp a b g x)) s) line' len' := by
    intro m
    have hm := h.mk (c := col x) (v := if m then 91 else 40)
    have hmle : (mk s (col x) (if m then 91 else 40)).1 ≤ 400 := by show max s.1 (col x + 1) ≤ 400; omega
    obtain ⟨line1, len1, e1, h1⟩ := X4_letters (c := col x) (p := pp a b g x) (k := lc (pp a b g x)) (letters := letters) (by omega) (by omega) hk (lt (pp a b g x)) (fun i hi => T _ hp i hi) hm hmle (by show col x + 1 ≤ max s.1 (col x + 1); omega)
    have h2 := h1.mk (c := col x + 1 + lc (pp a b g x)) (v := if m then 93 else 41)
    have hle : max (mk s (col x) (if m then 91 else 40)).1 (col x + 1 + lc (pp a b g x)) ≤ 400 := by omega
    refine ⟨_, _, ?_, h2.congr ?_ fun j _ => bxl_of⟩
    · unfold p4_printBox_J12
      rw [X7_personOf W Q hx ht]
      simp only [lb]
      rw [at_in (by omega) (by omega), at_in hx (by omega), C _ hp, hcol]
      cases m
      · rw [cond_false, X4_printByte h hs (by omega)]
        simp only [uc2]
        unfold p4_printBox_J64
        rw [n0]
        have e1' : p4_printBox_L67 letters (nI (pp a b g x)) (nI (lc (pp a b g x))) (nI (col x)) FU (nI 0) (upd line (col x) 40) (nI (max s.1 (col x + 1))) = some (line1, len1) := e1
        rw [e1']
        simp only [ob, uc2]
        unfold p4_printBox_J108
        rw [cond_false, n1, nI_add, nI_add, X4_printByte h1 hle (by omega)]
        rfl
      · rw [cond_true, X4_printByte h hs (by omega)]
        simp only [uc2]
        unfold p4_printBox_J64
        rw [n0]
        have e1' : p4_printBox_L67 letters (nI (pp a b g x)) (nI (lc (pp a b g x))) (nI (col x)) FU (nI 0) (upd line (col x) 91) (nI (max s.1 (col x + 1))) = some (line1, len1) := e1
        rw [e1']
        simp only [ob, uc2]
        unfold p4_printBox_J108
        rw [cond_true, n1, nI_add, nI_add, X4_printByte h1 hle (by omega)]
        rfl
    · show max (max (max s.1 (col x + 1)) (col x + 1 + lc (pp a b g x))) (col x + 1 + lc (pp a b g x) + 1) = max s.1 (col x + lc (pp a b g x) + 2)
      omega
  unfold p4_printBox
  by_cases h16 : x < 16
  · rw [n16, if_neg (nI_ge h16 (by omega)), decide_eq_true h16]; exact hJ true
  · rw [n16, if_pos (nI_le (by omega) (by omega)), decide_eq_false h16]; exact hJ false
end PBOX
