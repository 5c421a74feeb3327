/-! advance, values, names, words -/
def VAL (B : Nat → Nat) (s e k : Nat) (v : Int32) : Prop := (k = 2 → v = nI (min 1000000 (nmr B s (e - s)))) ∧ (k = 3 → v = nI (B s))
section ADV
variable {B : Nat → Nat} {L : Nat} {bs bf : Nat → Int32}
theorem nmr_s (B : Nat → Nat) (s k : Nat) : nmr B s (k + 1) = 10 * nmr B s k + (B (s + k) - 48) := rfl
theorem X3_run1 (H : BUF B L bs bf) : ∀ d i fuel v, i + d = L → d < fuel → ∃ v', p3_advance_L137 bs (nI 1) (nI L) fuel (nI i) v = some (nI (rnk B 1 d i), v') := by
  have hL := H.1
  intro d
  induction d with
  | zero =>
    intro i fuel v h hf
    obtain ⟨f, rfl⟩ : ∃ j, fuel = j + 1 := ⟨fuel - 1, by omega⟩
    refine ⟨v, ?_⟩
    rw [p3_advance_L137, p3_advance_L137_B, n1, if_pos rfl]
    unfold p3_advance_J153
    rw [if_pos (nI_le (by omega) (by omega))]
    rfl
  | succ d ih =>
    intro i fuel v h hf
    obtain ⟨f, rfl⟩ : ∃ j, fuel = j + 1 := ⟨fuel - 1, by omega⟩
    have hb := H.2 i (by omega)
    have hk := kd_lt (B i)
    rw [p3_advance_L137, p3_advance_L137_B, n1, if_pos rfl]
    unfold p3_advance_J153
    rw [if_neg (nI_ge (by omega) (by omega)), at_in (by omega) (by omega), hb.2.1, X3_kindOf hb.1]
    rw [show rnk B 1 (d + 1) i = if kd (B i) = 1 then rnk B 1 d (i + 1) else i from rfl]
    by_cases c : kd (B i) = 1
    · rw [if_pos c, c, if_pos rfl, n1, if_pos rfl]
      unfold p3_advance_J228
      simp only [lb_eq]
      rw [n1, nI_add]
      exact ih (i + 1) f 0 (by omega) (by omega)
    · rw [if_neg c, if_neg (fun q => c ((nI_eq (by omega) (by omega)).mp q))]
      exact ⟨v, rfl⟩
theorem X3_run2 (H : BUF B L bs bf) {s : Nat} : ∀ d i fuel, i + d = L → s ≤ i → d < fuel → p3_advance_L137 bs (nI 2) (nI L) fuel (nI i) (nI (min 1000000 (nmr B s (i - s)))) = some (nI (rnk B 2 d i), nI (min 1000000 (nmr B s (rnk B 2 d i - s)))) := by
  have hL := H.1
  intro d
  induction d with
  | zero =>
    intro i fuel h hs hf
    obtain ⟨f, rfl⟩ : ∃ j, fuel = j + 1 := ⟨fuel - 1, by omega⟩
    rw [p3_advance_L137, p3_advance_L137_B, n1, n2, if_neg (by decide), if_pos rfl]
    unfold p3_advance_J153
    rw [if_pos (nI_le (by omega) (by omega))]
    rfl
  | succ d ih =>
    intro i fuel h hs hf
    obtain ⟨f, rfl⟩ : ∃ j, fuel = j + 1 := ⟨fuel - 1, by omega⟩
    have hb := H.2 i (by omega)
    have hk := kd_lt (B i)
    rw [p3_advance_L137, p3_advance_L137_B, n1, n2, if_neg (by decide), if_pos rfl]
    unfold p3_advance_J153
    rw [if_neg (nI_ge (by omega) (by omega)), at_in (by omega) (by omega), hb.2.1, X3_kindOf hb.1]
    rw [show rnk B 2 (d + 1) i = if kd (B i) = 2 then rnk B 2 d (i + 1) else i from rfl]
    by_cases c : kd (B i) = 2
    · have h48 := kd2.mp c
      have hi := ih (i + 1) f (by omega) (by omega) (by omega)
      rw [show i + 1 - s = (i - s) + 1 by omega, nmr_s, show s + (i - s) = i by omega] at hi
      rw [if_pos c, c, if_pos rfl, n1, if_neg (by decide)]
      unfold p3_advance_J228
      simp only [lb_eq]
      rw [n10, nI_mul, nI_add, show (48 : Int32) = nI 48 from rfl, nI_sub (by omega), show (1000000 : Int32) = nI 1000000 from rfl, imin_nI (by omega) (by omega), n1, nI_add]
      rw [show min 1000000 (min 1000000 (nmr B s (i - s)) * 10 + B i - 48) = min 1000000 (10 * nmr B s (i - s) + (B i - 48)) by omega]
      exact hi
    · rw [if_neg c, if_neg (fun q => c ((nI_eq (by omega) (by omega)).mp q))]
theorem X3_advance (H : BUF B L bs bf) {i : Nat} (hi : i ≤ L) (kind start value : Int32) :
    ∃ v, p3_advance (nI L) kind start (nI i) value 0 bs = some (nI (tK B L i), nI (tS B L i), nI (tE B L i), v) ∧ VAL B (tS B L i) (tE B L i) (tK B L i) v := by
  have hL := H.1
  have h1 := tS_le (B := B) hi
  unfold p3_advance p3_isFine
  rw [if_pos rfl, cond_true, X3_skip H (L - i) i FU (by omega) (by show L - i < 1024; omega)]
  simp only [ob]
  show ∃ v, p3_advance_J58 bs (nI L) (nI (tS B L i)) = _ ∧ _
  unfold p3_advance_J58
  by_cases c : tS B L i < L
  · have hb := H.2 _ c
    have hkd := kd_lt (B (tS B L i))
    have hk : tK B L i = kd (B (tS B L i)) := by unfold tK; rw [if_pos c]
    have h4 : kd (B (tS B L i)) ≠ 4 := skp_n4 (L - i) i (by unfold tS at c; omega)
    rw [if_neg (nI_ge c (by omega)), at_in (by omega) (by omega), hb.2.1, X3_kindOf hb.1]
    simp only [lb_eq]
    unfold p3_advance_J104 p3_advance_J137
    rw [← hk]
    by_cases c3 : tK B L i = 3
    · refine ⟨nI (B (tS B L i)), ?_, fun q => absurd q (by omega), fun _ => rfl⟩
      rw [c3, n3, if_pos rfl, at_in (by omega) (by omega), hb.2.1]
      simp only [lb_eq]
      rw [show FU = 1023 + 1 from rfl, p3_advance_L137, p3_advance_L137_B, n1, n2, if_neg (by decide), if_neg (by decide), nI_add]
      simp only [uc2, p3_advance_J241]
      unfold tE
      rw [c3, if_neg (by omega), if_pos rfl]
      rfl
    · rw [n3, if_neg (fun q => c3 ((nI_eq (by omega) (by omega)).mp q))]
      by_cases c1 : tK B L i = 1
      · obtain ⟨v, e1⟩ := X3_run1 H (L - tS B L i) (tS B L i) FU 0 (by omega) (by show L - tS B L i < 1024; omega)
        refine ⟨v, ?_, fun q => absurd q (by omega), fun q => absurd q c3⟩
        rw [c1, e1]
        simp only [uc2, p3_advance_J241]
        unfold tE
        rw [c1, if_neg (by omega), if_neg (by omega)]
        rfl
      · have c2 : tK B L i = 2 := by omega
        have e1 := X3_run2 H (s := tS B L i) (L - tS B L i) (tS B L i) FU (by omega) (Nat.le_refl _) (by show L - tS B L i < 1024; omega)
        rw [Nat.sub_self, show min 1000000 (nmr B (tS B L i) 0) = 0 from rfl] at e1
        refine ⟨nI (min 1000000 (nmr B (tS B L i) (tE B L i - tS B L i))), ?_, fun _ => rfl, fun q => absurd q c3⟩
        rw [c2, n0, e1]
        simp only [uc2, p3_advance_J241]
        unfold tE
        rw [c2, if_neg (by omega), if_neg (by omega)]
        rfl
  · have hk : tK B L i = 0 := by unfold tK; rw [if_neg c]
    refine ⟨0, ?_, fun q => absurd q (by omega), fun q => absurd q (by omega)⟩
    rw [if_pos (nI_le (by omega) (by omega))]
    unfold p3_advance_J104 p3_advance_J137
    rw [if_neg (by decide), show FU = 1023 + 1 from rfl, p3_advance_L137, p3_advance_L137_B, if_neg (by decide), if_neg (by decide)]
    simp only [uc2, p3_advance_J241]
    unfold tE
    rw [hk, if_pos rfl]
    rfl
/-- the letters of a word -/
def tl (B : Nat → Nat) (s : Nat) : Nat → Nat := fun i => B (s + i) - 96
end ADV
