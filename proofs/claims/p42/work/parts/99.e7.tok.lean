/-! tokens of the text that is told -/
theorem skp_eq {B : Nat → Nat} {s : Nat} : ∀ d i, i ≤ s → s < i + d → (∀ j, i ≤ j → j < s → kd (B j) = 4) → kd (B s) ≠ 4 → skp B d i = s := by
  intro d
  induction d with
  | zero => intro i h1 h2; omega
  | succ d ih =>
    intro i h1 h2 h3 h4
    unfold skp
    by_cases e : i = s
    · subst e
      rw [if_neg h4]
    · rw [if_pos (h3 i (Nat.le_refl _) (by omega))]
      exact ih (i + 1) (by omega) (by omega) (fun j q1 q2 => h3 j (by omega) q2) h4
theorem skp_end {B : Nat → Nat} {L : Nat} : ∀ d i, i + d = L → (∀ j, i ≤ j → j < L → kd (B j) = 4) → skp B d i = L := by
  intro d
  induction d with
  | zero => intro i h1 _; exact h1
  | succ d ih =>
    intro i h1 h3
    unfold skp
    rw [if_pos (h3 i (Nat.le_refl _) (by omega))]
    exact ih (i + 1) (by omega) (fun j q1 q2 => h3 j (by omega) q2)
theorem rnk_eq {B : Nat → Nat} {k e L : Nat} : ∀ d i, i + d = L → i ≤ e → e ≤ L → (∀ j, i ≤ j → j < e → kd (B j) = k) → (e = L ∨ kd (B e) ≠ k) → rnk B k d i = e := by
  intro d
  induction d with
  | zero => intro i h1 h2 h3 _ _; show i = e; omega
  | succ d ih =>
    intro i h1 h2 h3 h4 h5
    unfold rnk
    by_cases c : i = e
    · subst c
      rw [if_neg (h5.resolve_left (by omega))]
    · rw [if_pos (h4 i (Nat.le_refl _) (by omega))]
      exact ih (i + 1) (by omega) (by omega) h3 (fun j q1 q2 => h4 j (by omega) q2) h5
/-- the sentence S stands in T from P on -/
def AT (T : List Nat) (P : Nat) (S : List Nat) : Prop := P + S.length ≤ T.length ∧ ∀ j, j < S.length → gB T (P + j) = gB S j
theorem AT.app {T S1 S2 : List Nat} {P : Nat} (h : AT T P (S1 ++ S2)) : AT T P S1 ∧ AT T (P + S1.length) S2 := by
  obtain ⟨h1, h2⟩ := h
  rw [List.length_append] at h1 h2
  refine ⟨⟨by omega, fun j hj => ?_⟩, ⟨by omega, fun j hj => ?_⟩⟩
  · rw [h2 j (by omega), gB_app1 hj]
  · have := h2 (S1.length + j) (by omega)
    rw [gB_app3] at this
    rw [← this]
    congr 1
    omega
theorem AT.mk {T1 S T2 : List Nat} : AT (T1 ++ (S ++ T2)) T1.length S := by
  refine ⟨by simp only [List.length_append]; omega, fun j hj => ?_⟩
  rw [gB_app3, gB_app1 hj]
theorem AT.one {T : List Nat} {P c : Nat} (h : AT T P [c]) : P < T.length ∧ gB T P = c := by
  have h1 : P + 1 ≤ T.length := h.1
  have h2 := h.2 0 (by show 0 < 1; omega)
  exact ⟨by omega, h2⟩
theorem AT.sq {T : List Nat} {P m : Nat} {f : Nat → Nat} (h : AT T P (sq f m)) : P + m ≤ T.length ∧ ∀ j, j < m → gB T (P + j) = f j := by
  obtain ⟨h1, h2⟩ := h
  rw [sq_len] at h1 h2
  exact ⟨h1, fun j hj => by rw [h2 j hj, gB_sq hj]⟩
section YTOK
variable {T : List Nat} {bs : Nat → Int32} {n : Nat} {lc : Nat → Nat}
/-- the buffer holds the text -/
def BFT (T : List Nat) (bs : Nat → Int32) : Prop := T.length ≤ 800 ∧ (∀ i, i < T.length → bs i = nI (gB T i)) ∧ ∀ x, x ∈ T → x < 256
theorem BFT.buf (H : BFT T bs) : BUF (gB T) T.length bs bs := ⟨H.1, fun i hi => ⟨gB_lt H.2.2 i, H.2.1 i hi, H.2.1 i hi⟩⟩
/-- blanks, then a token of the kind 1 or 2 -/
theorem K_tok (H : BFT T bs) {i s e k : Nat} (hk : k = 1 ∨ k = 2) (h1 : i ≤ s) (h2 : s < e) (h3 : e ≤ T.length) (hb : ∀ j, i ≤ j → j < s → gB T j = 32) (hl : ∀ j, s ≤ j → j < e → kd (gB T j) = k) (he : e < T.length → kd (gB T e) ≠ k) (kind start value : Int32) :
    PT (gB T) T.length s e k ∧ ∃ v, p3_advance (nI T.length) kind start (nI i) value 0 bs = some (nI k, nI s, nI e, v) ∧ VAL (gB T) s e k v := by
  have hB := H.buf
  obtain ⟨v, e1, e2⟩ := X3_advance hB (i := i) (by omega) kind start value
  have hs4 : kd (gB T s) ≠ 4 := by rw [hl s (Nat.le_refl _) h2]; omega
  have ts : tS (gB T) T.length i = s := skp_eq (T.length - i) i h1 (by omega) (fun j q1 q2 => kd4.mpr (Or.inl (hb j q1 q2))) hs4
  have tk : tK (gB T) T.length i = k := by
    unfold tK
    rw [ts, if_pos (by omega), hl s (Nat.le_refl _) h2]
  have te : tE (gB T) T.length i = e := by
    unfold tE
    rw [tk, ts, if_neg (by omega), if_neg (by omega)]
    exact rnk_eq (L := T.length) (T.length - s) s (by omega) (by omega) h3 hl (by
      by_cases c : e = T.length
      · exact Or.inl c
      · exact Or.inr (he (by omega)))
  rw [ts, tk, te] at e1 e2
  refine ⟨⟨by omega, h3, by omega, fun _ => h2, fun q j q1 q2 => ?_, fun q j q1 q2 => ?_, fun q => by omega⟩, v, e1, e2⟩
  · have := hl j q1 q2
    rw [q] at this
    exact kd1.mp this
  · have := hl j q1 q2
    rw [q] at this
    exact kd2.mp this
theorem K_semi (H : BFT T bs) {i : Nat} (hi : i < T.length) (hc : gB T i = 59) (kind start value : Int32) : p3_advance (nI T.length) kind start (nI i) value 0 bs = some (nI 3, nI i, nI (i + 1), nI 59) := by
  have hB := H.buf
  obtain ⟨v, e1, e2⟩ := X3_advance hB (i := i) (by omega) kind start value
  have hk : kd 59 = 3 := by decide
  have ts : tS (gB T) T.length i = i := skp_eq (T.length - i) i (Nat.le_refl _) (by omega) (fun j q1 q2 => by omega) (by rw [hc, hk]; omega)
  have tk : tK (gB T) T.length i = 3 := by
    unfold tK
    rw [ts, if_pos hi, hc, hk]
  have te : tE (gB T) T.length i = i + 1 := by
    unfold tE
    rw [tk, ts, if_neg (by omega), if_pos rfl]
  rw [ts, tk, te] at e1 e2
  rw [e1, e2.2 rfl, hc]
theorem K_fin (H : BFT T bs) (kind start value : Int32) : ∃ v, p3_advance (nI T.length) kind start (nI T.length) value 0 bs = some (nI 0, nI T.length, nI T.length, v) := by
  have hB := H.buf
  obtain ⟨v, e1, -⟩ := X3_advance hB (i := T.length) (Nat.le_refl _) kind start value
  have ts : tS (gB T) T.length T.length = T.length := by
    unfold tS
    rw [Nat.sub_self]
    rfl
  have tk : tK (gB T) T.length T.length = 0 := by
    unfold tK
    rw [ts, if_neg (by omega)]
  have te : tE (gB T) T.length T.length = T.length := by
    unfold tE
    rw [tk, ts, if_pos rfl]
  rw [ts, tk, te] at e1
  exact ⟨v, e1⟩
theorem kd_nm (x : Nat) : kd (97 + x % 16) = 1 := kd1.mpr (by have := Nat.mod_lt x (show 16 > 0 by omega); omega)
theorem kd_dd (v d : Nat) : kd (dd v d) = 2 := kd2.mpr (by unfold dd; have := Nat.mod_lt (v / d) (show 10 > 0 by omega); omega)
/-- the digits of a number are digits, and tell it -/
theorem dgL_ok {v : Nat} (hv : v ≤ 2100) : 0 < (dgL v).length ∧ (∀ j, j < (dgL v).length → kd (gB (dgL v) j) = 2) ∧ nmr (gB (dgL v)) 0 (dgL v).length = v := by
  unfold dgL
  by_cases c1 : v < 10
  · rw [if_pos c1]
    refine ⟨by show 0 < 1; omega, fun j hj => ?_, ?_⟩
    · have hj' : j < 1 := hj
      rw [show j = 0 by omega]
      exact kd_dd v 1
    · show 10 * 0 + (dd v 1 - 48) = v
      unfold dd; omega
  · rw [if_neg c1]
    by_cases c2 : v < 100
    · rw [if_pos c2]
      refine ⟨by show 0 < 2; omega, fun j hj => ?_, ?_⟩
      · have hj' : j < 2 := hj
        rcases (show j = 0 ∨ j = 1 by omega) with rfl | rfl
        · exact kd_dd v 10
        · exact kd_dd v 1
      · show 10 * (10 * 0 + (dd v 10 - 48)) + (dd v 1 - 48) = v
        unfold dd; omega
    · rw [if_neg c2]
      by_cases c3 : v < 1000
      · rw [if_pos c3]
        refine ⟨by show 0 < 3; omega, fun j hj => ?_, ?_⟩
        · have hj' : j < 3 := hj
          rcases (show j = 0 ∨ j = 1 ∨ j = 2 by omega) with rfl | rfl | rfl
          · exact kd_dd v 100
          · exact kd_dd v 10
          · exact kd_dd v 1
        · show 10 * (10 * (10 * 0 + (dd v 100 - 48)) + (dd v 10 - 48)) + (dd v 1 - 48) = v
          unfold dd; omega
      · rw [if_neg c3]
        refine ⟨by show 0 < 4; omega, fun j hj => ?_, ?_⟩
        · have hj' : j < 4 := hj
          rcases (show j = 0 ∨ j = 1 ∨ j = 2 ∨ j = 3 by omega) with rfl | rfl | rfl | rfl
          · exact kd_dd v 1000
          · exact kd_dd v 100
          · exact kd_dd v 10
          · exact kd_dd v 1
        · show 10 * (10 * (10 * (10 * 0 + (dd v 1000 - 48)) + (dd v 100 - 48)) + (dd v 10 - 48)) + (dd v 1 - 48) = v
          unfold dd; omega
theorem nmr_at {S : List Nat} {P : Nat} (h : AT T P S) : ∀ k, k ≤ S.length → nmr (gB T) P k = nmr (gB S) 0 k := by
  intro k
  induction k with
  | zero => intro _; rfl
  | succ k ih =>
    intro hk
    rw [nmr_s, nmr_s, ih (by omega), h.2 k (by omega), Nat.zero_add]
/-- a blank, then a name -/
theorem K_name (H : BFT T bs) {P p : Nat} (hb : gB T P = 32) (hn : AT T (P + 1) (nmL lc p)) (hl : 2 ≤ lc p) (he : ∃ c, AT T (P + 1 + lc p) [c] ∧ (c = 32 ∨ c = 59)) (kind start value : Int32) :
    PT (gB T) T.length (P + 1) (P + 1 + lc p) 1 ∧ ∃ v, p3_advance (nI T.length) kind start (nI P) value 0 bs = some (nI 1, nI (P + 1), nI (P + 1 + lc p), v) := by
  obtain ⟨c, h1, h2⟩ := he
  obtain ⟨q1, q2⟩ := h1.one
  obtain ⟨n1', n2'⟩ := hn.sq
  obtain ⟨a1, v, a2, -⟩ := K_tok H (i := P) (s := P + 1) (e := P + 1 + lc p) (k := 1) (Or.inl rfl) (by omega) (by omega) (by omega) (fun j j1 j2 => by rw [show j = P by omega]; exact hb) (fun j j1 j2 => by
    have := n2' (j - (P + 1)) (by omega)
    rw [show P + 1 + (j - (P + 1)) = j by omega] at this
    rw [this]
    exact kd_nm _) (fun _ => by
    rw [q2]
    rcases h2 with h | h
    · rw [h]; decide
    · rw [h]; decide) kind start value
  exact ⟨a1, v, a2⟩
/-- a blank, then a number -/
theorem K_num (H : BFT T bs) {P y : Nat} (hy : y ≤ 2100) (hb : gB T P = 32) (hn : AT T (P + 1) (dgL y)) (he : ∃ c, AT T (P + 1 + (dgL y).length) [c] ∧ (c = 32 ∨ c = 59)) (kind start value : Int32) :
    p3_advance (nI T.length) kind start (nI P) value 0 bs = some (nI 2, nI (P + 1), nI (P + 1 + (dgL y).length), nI y) := by
  obtain ⟨c, h1, h2⟩ := he
  obtain ⟨q1, q2⟩ := h1.one
  obtain ⟨d1, d2, d3⟩ := dgL_ok hy
  obtain ⟨-, v, a2, a3⟩ := K_tok H (i := P) (s := P + 1) (e := P + 1 + (dgL y).length) (k := 2) (Or.inr rfl) (by omega) (by omega) (by omega) (fun j j1 j2 => by rw [show j = P by omega]; exact hb) (fun j j1 j2 => by
    have := hn.2 (j - (P + 1)) (by omega)
    rw [show P + 1 + (j - (P + 1)) = j by omega] at this
    rw [this]
    exact d2 _ (by omega)) (fun _ => by
    rw [q2]
    rcases h2 with h | h
    · rw [h]; decide
    · rw [h]; decide) kind start value
  rw [a2, a3.1 rfl, show P + 1 + (dgL y).length - (P + 1) = (dgL y).length by omega, nmr_at hn _ (Nat.le_refl _), d3, show min 1000000 y = y by omega]
end YTOK
