/-! collapse, nearest common ancestor -/
def msI (f : Nat → Int32) : Nat → Int32
  | 0 => 0
  | n + 1 => msI f n + f n
theorem msI_ext0 {f : Nat → Int32} {n m : Nat} (hm : n ≤ m) (h : ∀ i, n ≤ i → i < m → f i = 0) : msI f m = msI f n := by
  induction m with
  | zero => rw [Nat.le_zero.mp hm]
  | succ m ih =>
    by_cases e : n = m + 1
    · rw [e]
    · show msI f m + f m = msI f n
      rw [ih (by omega) (fun i h1 h2 => h i h1 (by omega)), h m (by omega) (by omega), Int32.add_zero]
def mis (x : Int32) : Int32 := if x ≤ 0 then 0 else x - 1
def mss (pr a b : Nat → Nat) (n d p : Nat) : Int32 := msI (fun i => mis (nI (pth pr a b d p i))) n
def nca (g : Nat → Nat) (T : Nat → Bool) : Nat → Nat
  | 0 => 16
  | i + 1 => if T i then (if nca g T i = 16 then i else if g i ≤ g (nca g T i) then nca g T i else i) else nca g T i
theorem nca_lt (g : Nat → Nat) (T : Nat → Bool) : ∀ i, nca g T i < i ∨ nca g T i = 16 := by
  intro i
  induction i with
  | zero => exact Or.inr rfl
  | succ i ih =>
    unfold nca
    split
    · split
      · exact Or.inl (by omega)
      · split
        · omega
        · exact Or.inl (by omega)
    · omega
section COLL
variable {n u : Nat} {pr a b g : Nat → Nat} {an : Nat → Nat → Bool} {fam : Nat → Int64} {pu fp sp ge am lv rf : Nat → Int32}
theorem pth_lt (W : WF n u pr a b g) : ∀ d p x, p < n → pth pr a b d p x ≠ 0 → x < n := by
  intro d
  induction d with
  | zero =>
    intro p x hp h
    by_cases e : p = x
    · omega
    · exact absurd (if_neg e) h
  | succ d ih =>
    intro p x hp h
    by_cases c : pr p < 12
    · have U := W.up hp c
      have e : pth pr a b (d + 1) p x = pth pr a b d (a (pr p)) x + pth pr a b d (b (pr p)) x := if_pos c
      rw [e] at h
      by_cases h1 : pth pr a b d (a (pr p)) x = 0
      · exact ih (b (pr p)) x U.2.1 (by omega)
      · exact ih (a (pr p)) x U.1 h1
    · exact absurd (if_neg c) h
def com (an : Nat → Nat → Bool) (p q : Nat) : Nat → Bool := fun x => (x == p || an p x) && (x == q || an q x)
end COLL
