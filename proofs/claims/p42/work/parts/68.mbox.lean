theorem lN_neg1 : (-1 : Int64).toInt32 = -1 := by decide
section MBOX
variable {n u : Nat} {pr a b g : Nat → Nat} {an : Nat → Nat → Bool} {fam : Nat → Int64} {ge lv ro rs bA : Nat → Int32} {it : Nat → Bool} {pl : Nat → Nat} {bx : Nat → Nat → Nat}
/-- generations and levels, as the reference has laid them -/
def GL (n u : Nat) (a b g : Nat → Nat) (ge lv : Nat → Int32) : Prop := (∀ p, p < n → ge p = nI (g p)) ∧ ∀ w, w < u → lv w = nI (lw a b g w)
theorem lw_lt (W : WF n u pr a b g) {w : Nat} (hw : w < u) : lw a b g w < 16 := by
  obtain ⟨h1, h2, -⟩ := W.par hw
  have := W.glt h1
  have := W.glt h2
  have := W.n16
  unfold lw; omega
theorem updB_eq {f : Nat → Bool} {k : Nat} {x : Bool} : updB f k x k = x := by simp [updB]
theorem updB_ne {f : Nat → Bool} {k j : Nat} {x : Bool} (h : j ≠ k) : updB f k x j = f j := by simp [updB, h]
/-- the boxes, as the reference has laid them -/
def BL (n u : Nat) (a b g : Nat → Nat) (it : Nat → Bool) (ro rs : Nat → Int32) : Prop :=
  (∀ x, x < 28 → it x = th n u a b g x ∧ ro x = if th n u a b g x then nI (rb a b g x) else -1) ∧ ∀ r, r < 16 → rs r = nI (sz n u a b g r)
theorem rb_lt (W : WF n u pr a b g) {x : Nat} (ht : th n u a b g x = true) : rb a b g x < 16 := by
  have := th_row W ht
  have := rows16 W
  omega
/-- the places stand in the row of numbers -/
def PLM (n u : Nat) (a b g : Nat → Nat) (pl : Nat → Nat) (fam : Nat → Int64) : Prop := ∀ x, x < 28 → th n u a b g x = true → fam (102 + x) = lN (pl x)
/-- boxAt, as the reference has laid it -/
def BA (n u : Nat) (a b g : Nat → Nat) (bx : Nat → Nat → Nat) (bA : Nat → Int32) : Prop := ∀ r k, r < 16 → k < sz n u a b g r → bA (28 * r + k) = nI (bx r k)
/-- everything that lay lays -/
def LM (n u : Nat) (a b g : Nat → Nat) (bx : Nat → Nat → Nat) (bA ge : Nat → Int32) (it : Nat → Bool) (lv ro rs : Nat → Int32) : Prop :=
  GL n u a b g ge lv ∧ BL n u a b g it ro rs ∧ BA n u a b g bx bA
end MBOX
