/-! tokens -/
def kd (c : Nat) : Nat := if c = 32 ∨ c = 10 then 4 else if 97 ≤ c ∧ c ≤ 122 then 1 else if 48 ≤ c ∧ c ≤ 57 then 2 else 3
def skp (B : Nat → Nat) : Nat → Nat → Nat
  | 0, i => i
  | d + 1, i => if kd (B i) = 4 then skp B d (i + 1) else i
def rnk (B : Nat → Nat) (k : Nat) : Nat → Nat → Nat
  | 0, i => i
  | d + 1, i => if kd (B i) = k then rnk B k d (i + 1) else i
def nmr (B : Nat → Nat) (s : Nat) : Nat → Nat
  | 0 => 0
  | k + 1 => 10 * nmr B s k + (B (s + k) - 48)
def tS (B : Nat → Nat) (L i : Nat) : Nat := skp B (L - i) i
def tK (B : Nat → Nat) (L i : Nat) : Nat := if tS B L i < L then kd (B (tS B L i)) else 0
def tE (B : Nat → Nat) (L i : Nat) : Nat := if tK B L i = 0 then tS B L i else if tK B L i = 3 then tS B L i + 1 else rnk B (tK B L i) (L - tS B L i) (tS B L i)
/-- a token: from s to e, of the kind k -/
def PT (B : Nat → Nat) (L s e k : Nat) : Prop :=
  s ≤ e ∧ e ≤ L ∧ k < 4 ∧ (k ≠ 0 → s < e) ∧ (k = 1 → ∀ i, s ≤ i → i < e → 97 ≤ B i ∧ B i ≤ 122) ∧ (k = 2 → ∀ i, s ≤ i → i < e → 48 ≤ B i ∧ B i ≤ 57) ∧ (k = 3 → e = s + 1)
/-- the bytes on both sides -/
def BUF (B : Nat → Nat) (L : Nat) (bs bf : Nat → Int32) : Prop := L ≤ 800 ∧ ∀ i, i < L → B i < 256 ∧ bs i = nI (B i) ∧ bf i = nI (B i)
theorem kd4 {c : Nat} : kd c = 4 ↔ c = 32 ∨ c = 10 := by
  unfold kd
  by_cases h : c = 32 ∨ c = 10
  · rw [if_pos h]; exact ⟨fun _ => h, fun _ => rfl⟩
  · rw [if_neg h]; split
    · exact ⟨fun q => absurd q (by omega), fun q => absurd q h⟩
    · split <;> exact ⟨fun q => absurd q (by omega), fun q => absurd q h⟩
theorem kd1 {c : Nat} : kd c = 1 ↔ 97 ≤ c ∧ c ≤ 122 := by
  unfold kd
  split
  · omega
  · split
    · omega
    · split <;> omega
theorem kd2 {c : Nat} : kd c = 2 ↔ 48 ≤ c ∧ c ≤ 57 := by
  unfold kd
  split
  · omega
  · split
    · omega
    · split <;> omega
theorem kd_lt (c : Nat) : kd c < 5 ∧ 0 < kd c := by
  unfold kd
  split
  · omega
  · split
    · omega
    · split <;> omega
section TOK
variable {B : Nat → Nat} {L : Nat} {bs bf : Nat → Int32}
theorem skp_le : ∀ d i, i ≤ skp B d i ∧ skp B d i ≤ i + d := by
  intro d
  induction d with
  | zero => intro i; exact ⟨Nat.le_refl _, Nat.le_refl _⟩
  | succ d ih =>
    intro i
    have := ih (i + 1)
    unfold skp
    split <;> omega
theorem skp_n4 : ∀ d i, skp B d i < i + d → kd (B (skp B d i)) ≠ 4 := by
  intro d
  induction d with
  | zero => intro i h; exact absurd h (by show ¬ i < i + 0; omega)
  | succ d ih =>
    intro i h
    unfold skp at h ⊢
    by_cases c : kd (B i) = 4
    · rw [if_pos c] at h ⊢
      exact ih (i + 1) (by omega)
    · rw [if_neg c]
      exact c
theorem rnk_le {k : Nat} : ∀ d i, i ≤ rnk B k d i ∧ rnk B k d i ≤ i + d := by
  intro d
  induction d with
  | zero => intro i; exact ⟨Nat.le_refl _, Nat.le_refl _⟩
  | succ d ih =>
    intro i
    have := ih (i + 1)
    unfold rnk
    split <;> omega
theorem rnk_all {k : Nat} : ∀ d i j, i ≤ j → j < rnk B k d i → kd (B j) = k := by
  intro d
  induction d with
  | zero => intro i j h1 h2; exact absurd h2 (by show ¬ j < i; omega)
  | succ d ih =>
    intro i j h1 h2
    unfold rnk at h2
    by_cases c : kd (B i) = k
    · rw [if_pos c] at h2
      by_cases e : j = i
      · rw [e]; exact c
      · exact ih (i + 1) j (by omega) h2
    · rw [if_neg c] at h2
      omega
theorem tS_le {i : Nat} (hi : i ≤ L) : i ≤ tS B L i ∧ tS B L i ≤ L := by
  have := skp_le (B := B) (L - i) i
  unfold tS
  omega
theorem tok_PT {i : Nat} (hi : i ≤ L) : PT B L (tS B L i) (tE B L i) (tK B L i) ∧ (tK B L i ≠ 0 → i < tE B L i) := by
  have h1 := tS_le (B := B) hi
  have hk : tK B L i < 4 := by
    unfold tK
    split
    · rename_i h
      have h2 := skp_n4 (B := B) (L - i) i (by unfold tS at h; omega)
      have h3 := kd_lt (B (tS B L i))
      unfold tS at h3 ⊢
      omega
    · omega
  have hlt : tK B L i ≠ 0 → tS B L i < L ∧ kd (B (tS B L i)) = tK B L i := by
    unfold tK
    split
    · exact fun _ => ⟨by assumption, rfl⟩
    · exact fun q => absurd rfl q
  have hrun : tK B L i = 1 ∨ tK B L i = 2 → tE B L i = rnk B (tK B L i) (L - tS B L i) (tS B L i) ∧ tS B L i < tE B L i ∧ tE B L i ≤ L := by
    intro h
    have h2 := hlt (by omega)
    have e : tE B L i = rnk B (tK B L i) (L - tS B L i) (tS B L i) := by
      unfold tE
      rw [if_neg (by omega), if_neg (by omega)]
    have h3 := rnk_le (B := B) (k := tK B L i) (L - tS B L i) (tS B L i)
    have h4 : tS B L i < rnk B (tK B L i) (L - tS B L i) (tS B L i) := by
      obtain ⟨d, hd⟩ : ∃ d, L - tS B L i = d + 1 := ⟨L - tS B L i - 1, by omega⟩
      rw [hd]
      have h5 := rnk_le (B := B) (k := tK B L i) d (tS B L i + 1)
      show tS B L i < (if kd (B (tS B L i)) = tK B L i then rnk B (tK B L i) d (tS B L i + 1) else tS B L i)
      rw [if_pos h2.2]
      omega
    rw [e]
    exact ⟨rfl, h4, by omega⟩
  have h0 : tK B L i = 0 → tE B L i = tS B L i := fun h => by unfold tE; rw [if_pos h]
  have h3 : tK B L i = 3 → tE B L i = tS B L i + 1 := fun h => by unfold tE; rw [if_neg (by omega), if_pos h]
  have hle : tS B L i ≤ tE B L i ∧ tE B L i ≤ L ∧ (tK B L i ≠ 0 → tS B L i < tE B L i) := by
    by_cases c0 : tK B L i = 0
    · rw [h0 c0]; exact ⟨Nat.le_refl _, h1.2, fun q => absurd c0 q⟩
    · have h2 := hlt c0
      by_cases c3 : tK B L i = 3
      · rw [h3 c3]; omega
      · have := hrun (by omega)
        omega
  refine ⟨⟨hle.1, hle.2.1, hk, hle.2.2, fun h j j1 j2 => ?_, fun h j j1 j2 => ?_, h3⟩, fun h => by have := hle.2.2 h; omega⟩
  · have := hrun (Or.inl h)
    rw [this.1] at j2
    exact kd1.mp ((rnk_all _ _ j j1 j2).trans h)
  · have := hrun (Or.inr h)
    rw [this.1] at j2
    exact kd2.mp ((rnk_all _ _ j j1 j2).trans h)
theorem X3_kindOf {c : Nat} (hc : c < 256) : p3_kindOf (nI c) = nI (kd c) := by
  have : ∀ c, c < 256 → p3_kindOf (nI c) = nI (kd c) := by decide +kernel
  exact this c hc
theorem X3_skip (H : BUF B L bs bf) : ∀ d i fuel, i + d = L → d < fuel → p3_advance_L16 bs (nI L) fuel (nI i) = some (nI (skp B d i)) := by
  have hL := H.1
  intro d
  induction d with
  | zero =>
    intro i fuel h hf
    obtain ⟨f, rfl⟩ : ∃ j, fuel = j + 1 := ⟨fuel - 1, by omega⟩
    rw [p3_advance_L16, p3_advance_L16_B, if_pos (nI_le (by omega) (by omega))]
    rfl
  | succ d ih =>
    intro i fuel h hf
    obtain ⟨f, rfl⟩ : ∃ j, fuel = j + 1 := ⟨fuel - 1, by omega⟩
    have hb := H.2 i (by omega)
    rw [p3_advance_L16, p3_advance_L16_B, if_neg (nI_ge (by omega) (by omega)), at_in (by omega) (by omega), hb.2.1, X3_kindOf hb.1, n4]
    unfold skp
    by_cases c : kd (B i) = 4
    · rw [if_pos c, c, if_pos rfl]
      simp only [lb_eq]
      rw [n1, nI_add]
      exact ih (i + 1) f (by omega) (by omega)
    · have := kd_lt (B i)
      rw [if_neg c, if_neg (fun q => c ((nI_eq (a := kd (B i)) (b := 4) (by omega) (by omega)).mp q))]
end TOK
