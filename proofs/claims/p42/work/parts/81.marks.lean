/-! the marks of unions and of children -/
def fcl (f : Nat → Int32) : Nat → Nat → Nat
  | 0, c => c
  | d + 1, c => if f c = 32 then c else fcl f d (c + 1)
theorem fcl_le {f : Nat → Int32} {M : Nat} (hM : f M = 32) : ∀ d c, c ≤ M → M < c + d → fcl f d c ≤ M := by
  intro d
  induction d with
  | zero => intro c h1 h2; omega
  | succ d ih =>
    intro c h1 h2
    unfold fcl
    by_cases e : f c = 32
    · rw [if_pos e]; exact h1
    · rw [if_neg e]
      have : c ≠ M := fun q => e (by rw [q]; exact hM)
      exact ih (c + 1) (by omega) (by omega)
def umk (a b g lc col : Nat → Nat) (r : Nat) : Nat → Nat × (Nat → Int32) → Nat × (Nat → Int32)
  | 0, s => s
  | w + 1, s => if lw a b g w = r then mk (umk a b g lc col r w s) (fcl (umk a b g lc col r w s).2 (400 - ucl a b g lc col w) (ucl a b g lc col w)) (nI (97 + w)) else umk a b g lc col r w s
def pmk (pr a b g lc col : Nat → Nat) (r : Nat) : Nat → Nat × (Nat → Int32) → Nat × (Nat → Int32)
  | 0, s => s
  | p + 1, s => if g p = r + 1 ∧ (pmk pr a b g lc col r p s).2 (mdc a b g lc col p) = 32 then mk (pmk pr a b g lc col r p s) (mdc a b g lc col p) (nI (97 + pr p)) else pmk pr a b g lc col r p s
/-- behind its length a line is blank -/
def BLK (s : Nat × (Nat → Int32)) : Prop := ∀ c, s.1 ≤ c → s.2 c = 32
section MARKS
variable {n u : Nat} {pr a b g lc col : Nat → Nat} {fam : Nat → Int64} {pu fp sp ge am lv rf fb sb lA fc mc cA line : Nat → Int32} {len : Int32} {pl : Nat → Nat} {bx : Nat → Nat → Nat} {s : Nat × (Nat → Int32)} {N : Nat}
theorem BLK.mk (h : BLK s) {c : Nat} {v : Int32} : BLK (mk s c v) := by
  intro j hj
  have hj2 : max s.1 (c + 1) ≤ j := hj
  exact (upd_ne (by omega)).trans (h j (by omega))
theorem n32 : (32 : Int32) = nI 32 := rfl
theorem n97 : (97 : Int32) = nI 97 := rfl
theorem X4_free (h : LN 400 s line len) : ∀ (d c fuel : Nat), c + d = 400 → d < fuel → p4_freeColumn_L2 line fuel (nI c) = some (nI (fcl s.2 d c)) := by
  intro d
  have n400 : (400 : Int32) = nI 400 := rfl
  induction d with
  | zero =>
    intro c fuel hc hf
    obtain ⟨f, rfl⟩ : ∃ f, fuel = f + 1 := ⟨fuel - 1, by omega⟩
    rw [p4_freeColumn_L2, p4_freeColumn_L2_B, n400, if_pos (nI_le (by omega) (by omega))]
    rfl
  | succ d ih =>
    intro c fuel hc hf
    obtain ⟨f, rfl⟩ : ∃ f, fuel = f + 1 := ⟨fuel - 1, by omega⟩
    rw [p4_freeColumn_L2, p4_freeColumn_L2_B, n400, if_neg (nI_ge (by omega) (by omega)), at_in (by omega) (by omega), h.2 c (by omega)]
    unfold fcl
    by_cases e : s.2 c = 32
    · rw [if_pos e, if_pos e]
    · rw [if_neg e, if_neg e]
      simp only [lb]
      rw [n1, nI_add]
      exact ih (c + 1) f (by omega) (by omega)
theorem umk_ok {r : Nat} (hb : BLK s) (hs : s.1 ≤ 308) (hu : u ≤ 12) (hcol : ∀ w, w < u → ucl a b g lc col w ≤ 308) : ∀ k, k ≤ u → BLK (umk a b g lc col r k s) ∧ (umk a b g lc col r k s).1 ≤ 309 + k := by
  intro k
  induction k with
  | zero => intro _; exact ⟨hb, by show s.1 ≤ 309; omega⟩
  | succ k ih =>
    intro hk
    obtain ⟨h1, h2⟩ := ih (by omega)
    have hc := hcol k (by omega)
    unfold umk
    by_cases e : lw a b g k = r
    · rw [if_pos e]
      refine ⟨h1.mk, ?_⟩
      have := fcl_le (f := (umk a b g lc col r k s).2) (M := 309 + k) (h1 _ h2) (400 - ucl a b g lc col k) (ucl a b g lc col k) (by omega) (by omega)
      show max (umk a b g lc col r k s).1 (fcl (umk a b g lc col r k s).2 (400 - ucl a b g lc col k) (ucl a b g lc col k) + 1) ≤ 309 + (k + 1)
      omega
    · rw [if_neg e]
      exact ⟨h1, by omega⟩
theorem X4_unions (hu : u ≤ 12) (hl : ∀ w, w < u → lv w = nI (lw a b g w)) (hlw : ∀ w, w < u → lw a b g w < 16) {r : Nat} (hr : r < 100) (hm : ∀ w, w < u → lw a b g w = r → p0_middleOfUnion mc fb sb (nI w) = nI (ucl a b g lc col w)) (hcol : ∀ w, w < u → ucl a b g lc col w ≤ 308) (hb : BLK s) (hs : s.1 ≤ 308) (h : LN 400 s line len) :
    ∃ line' len', p4_printUnionMarks (nI u) len mc lv line fb sb (nI r) = some (line', len') ∧ LN 400 (umk a b g lc col r u s) line' len' := by
  have hL := loop_all (fun t i (z : (Nat → Int32) × Int32) => p4_printUnionMarks_L2 mc lv (nI u) fb sb (nI r) t (nI i) z.1 z.2) u
    (fun i z => LN 400 (umk a b g lc col r i s) z.1 z.2) (fun z => LN 400 (umk a b g lc col r u s) z.1 z.2) (by
      intro t z hz
      refine ⟨z, ?_, hz⟩
      try dsimp only
      rw [p4_printUnionMarks_L2, p4_printUnionMarks_L2_B, if_pos (nI_le (Nat.le_refl _) (by omega))]) (by
      intro t i z hi hz
      obtain ⟨b1, b2⟩ := umk_ok (a := a) (b := b) (g := g) (lc := lc) (col := col) (r := r) hb hs hu hcol i (by omega)
      have hli := hlw i hi
      have hci := hcol i hi
      have hstep : umk a b g lc col r (i + 1) s = if lw a b g i = r then mk (umk a b g lc col r i s) (fcl (umk a b g lc col r i s).2 (400 - ucl a b g lc col i) (ucl a b g lc col i)) (nI (97 + i)) else umk a b g lc col r i s := rfl
      rw [hstep]
      by_cases e : lw a b g i = r
      · have hf := fcl_le (f := (umk a b g lc col r i s).2) (M := 309 + i) (b1 _ b2) (400 - ucl a b g lc col i) (ucl a b g lc col i) (by omega) (by omega)
        rw [if_pos e]
        refine ⟨(upd z.1 (fcl (umk a b g lc col r i s).2 (400 - ucl a b g lc col i) (ucl a b g lc col i)) (nI (97 + i)), nI (max (umk a b g lc col r i s).1 (fcl (umk a b g lc col r i s).2 (400 - ucl a b g lc col i) (ucl a b g lc col i) + 1))), ?_, hz.mk⟩
        try dsimp only
        rw [p4_printUnionMarks_L2, p4_printUnionMarks_L2_B, if_neg (nI_ge hi (by omega)), at_in (by omega) (by omega), hl i hi, if_pos (by rw [e]), hm i hi e]
        unfold p4_freeColumn
        rw [X4_free hz (400 - ucl a b g lc col i) (ucl a b g lc col i) FU (by omega) (by show 400 - ucl a b g lc col i < 1024; omega)]
        simp only [ob, p4_freeColumn_J28]
        unfold p4_markOf
        rw [n97, nI_add, X4_printByte hz (by omega) (by omega)]
        simp only [lb, uc2]
        rw [n1, nI_add]
      · rw [if_neg e]
        refine ⟨z, ?_, hz⟩
        try dsimp only
        rw [p4_printUnionMarks_L2, p4_printUnionMarks_L2_B, if_neg (nI_ge hi (by omega)), at_in (by omega) (by omega), hl i hi, if_neg (fun q => e ((nI_eq (by omega) (by omega)).mp q))]
        simp only [lb]
        rw [n1, nI_add]) FU 0 (line, len) (Nat.zero_le _) (by show u - 0 < 1024; omega) h
  obtain ⟨z, e1, e2⟩ := hL
  try dsimp only at e1
  refine ⟨z.1, z.2, ?_, e2⟩
  unfold p4_printUnionMarks
  rw [n0, e1]
  rfl
end MARKS
