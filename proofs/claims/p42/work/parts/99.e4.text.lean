/-! the text that is told -/
def sq (f : Nat → Nat) : Nat → List Nat
  | 0 => []
  | m + 1 => sq f m ++ [f m]
theorem sq_len (f : Nat → Nat) : ∀ m, (sq f m).length = m := by
  intro m
  induction m with
  | zero => rfl
  | succ m ih => show (sq f m ++ [f m]).length = m + 1; rw [List.length_append, ih]; rfl
theorem gB_sq {f : Nat → Nat} : ∀ {m i : Nat}, i < m → gB (sq f m) i = f i := by
  intro m
  induction m with
  | zero => intro i h; omega
  | succ m ih =>
    intro i h
    show gB (sq f m ++ [f m]) i = f i
    by_cases c : i < m
    · rw [gB_app1 (by rw [sq_len]; exact c), ih c]
    · have e : i = m := by omega
      subst e
      rw [gB_app2 (by rw [sq_len]; exact Nat.le_refl _), sq_len, Nat.sub_self]
      rfl
def cw (w k : Nat) : Nat := (chv w k).toNatClampNeg
def wdL (w : Nat) : List Nat := sq (cw w) (txl w)
def nmL (lc : Nat → Nat) (p : Nat) : List Nat := sq (fun k => 97 + (p + k) % 16) (lc p)
def dd (v d : Nat) : Nat := 48 + v / d % 10
def dgL (v : Nat) : List Nat := if v < 10 then [dd v 1] else if v < 100 then [dd v 10] ++ [dd v 1] else if v < 1000 then [dd v 100] ++ [dd v 10] ++ [dd v 1] else [dd v 1000] ++ [dd v 100] ++ [dd v 10] ++ [dd v 1]
def ptL (lc yr : Nat → Nat) (p : Nat) : List Nat := wdL 2 ++ nmL lc p ++ (wdL 3 ++ dgL (yr p)) ++ [59]
def tpL (lc yr : Nat → Nat) : Nat → List Nat
  | 0 => []
  | m + 1 => tpL lc yr m ++ ptL lc yr m
def ktL (lc pr : Nat → Nat) (w : Nat) : Nat → List Nat
  | 0 => []
  | p + 1 => if pr p = w then ktL lc pr w p ++ ([32] ++ nmL lc p) else ktL lc pr w p
def utL (n : Nat) (lc pr a b uy : Nat → Nat) (w : Nat) : List Nat := wdL 4 ++ nmL lc (a w) ++ [32] ++ nmL lc (b w) ++ (wdL 3 ++ dgL (uy w)) ++ ktL lc pr w n ++ [59]
def tuL (n : Nat) (lc pr a b uy : Nat → Nat) : Nat → List Nat
  | 0 => []
  | w + 1 => tuL n lc pr a b uy w ++ utL n lc pr a b uy w
theorem cw_ok : ∀ w, w < 5 → ∀ k, k < txl w → chv w k = nI (cw w k) ∧ cw w k < 256 := by decide +kernel
theorem dgL_len (v : Nat) : (dgL v).length ≤ 4 := by
  unfold dgL
  split
  · show 1 ≤ 4; omega
  · split
    · show 2 ≤ 4; omega
    · split
      · show 3 ≤ 4; omega
      · show 4 ≤ 4; omega
/-- S is written behind what was written -/
def WRS (S : List Nat) (X : Int32 → (Nat → Int32) → (Nat → Int32) → Option ((Nat → Int32) × Int32 × (Nat → Int32))) : Prop :=
  ∀ (T : List Nat) (bf : Int32) (bytes p1 : Nat → Int32), WR T bf bytes p1 → T.length + S.length ≤ 780 → ∃ bytes' bf' p1', X bf bytes p1 = some (bytes', bf', p1') ∧ WR (T ++ S) bf' bytes' p1'
section YTXT
variable {lc yr pr a b uy : Nat → Nat} {letters year pn : Nat → Int32} {un : Nat → Nat → Int32} {n u : Nat}
theorem W_1 {b : Nat} (hb : b < 256) : WRS [b] (fun bf bytes p1 => pL_add 6 bf bytes p1 (nI b)) := fun T bf bytes p1 H hl => W_add H (by have : T.length + 1 ≤ 780 := hl; omega) hb
theorem W_word {w : Nat} (hw : w < 5) : WRS (wdL w) (fun bf bytes p1 => pL_word 6 bf bytes p1 w) := by
  intro T bf bytes p1 H hl
  have h11 := txl_le w
  unfold wdL at hl ⊢
  rw [sq_len] at hl
  have hL := loop_all (fun k i (s : (Nat → Int32) × Int32 × (Nat → Int32)) => pL_word_L2 6 w k (nI i) s.1 s.2.1 s.2.2) (txl w)
    (fun i s => WR (T ++ sq (cw w) i) s.2.1 s.1 s.2.2) (fun z => WR (T ++ sq (cw w) (txl w)) z.2.1 z.1 z.2.2) (by
      intro k s hs
      refine ⟨(s.1, s.2.1, s.2.2), ?_, hs⟩
      try dsimp only
      rw [pL_word_L2, pL_word_L2_B]
      exact if_pos (nI_le (Nat.le_refl _) (by omega))) (by
      intro k i s hi hs
      obtain ⟨c1, c2⟩ := cw_ok w hw i hi
      obtain ⟨bytes', bf', p1', e1, H1⟩ := W_add hs (by rw [List.length_append, sq_len]; omega) c2
      refine ⟨(bytes', bf', p1'), ?_, by rw [List.append_assoc] at H1; exact H1⟩
      try dsimp only
      rw [pL_word_L2, pL_word_L2_B, show Int32.ofNat (txl w) = nI (txl w) from rfl, if_neg (nI_ge hi (by omega)), gd_in hi (by omega), nI_clamp (by omega), c1, e1]
      simp only [ob, uc3, lb]
      rw [n1, nI_add]) FU 0 (bytes, bf, p1) (Nat.zero_le _) (by show txl w - 0 < 1024; omega) (by rw [show sq (cw w) 0 = [] from rfl, List.append_nil]; exact H)
  obtain ⟨z, e1, h1⟩ := hL
  refine ⟨z.1, z.2.1, z.2.2, ?_, h1⟩
  show pL_word 6 bf bytes p1 w = _
  unfold pL_word
  rw [n0]
  have e1' : pL_word_L2 6 w FU (nI 0) bytes bf p1 = some z := e1
  rw [e1']
  rfl
theorem W_name (hn : n ≤ 16) (hl8 : ∀ p, p < n → letters p = nI (lc p) ∧ lc p ≤ 8) {p : Nat} (hp : p < n) : WRS (nmL lc p) (fun bf bytes p1 => pL_name 6 bf bytes letters p1 (nI p)) := by
  intro T bf bytes p1 H hl
  obtain ⟨g1, g2⟩ := hl8 p hp
  unfold nmL at hl ⊢
  rw [sq_len] at hl
  have hL := loop_all (fun k i (s : (Nat → Int32) × Int32 × (Nat → Int32)) => pL_name_L3 letters 6 (nI p) k (nI i) s.1 s.2.1 s.2.2) (lc p)
    (fun i s => WR (T ++ sq (fun k => 97 + (p + k) % 16) i) s.2.1 s.1 s.2.2) (fun z => WR (T ++ sq (fun k => 97 + (p + k) % 16) (lc p)) z.2.1 z.1 z.2.2) (by
      intro k s hs
      refine ⟨(s.1, s.2.1, s.2.2), ?_, hs⟩
      try dsimp only
      rw [pL_name_L3, pL_name_L3_B, gd_in (by omega) (by omega), nI_clamp (by omega), g1, if_pos (nI_le (Nat.le_refl _) (by omega))]) (by
      intro k i s hi hs
      have hnm : p10_name (nI p) (nI i) = nI (97 + (p + i) % 16) := by
        unfold p10_name
        rw [nI_add, n16, nI_div (by omega) (by omega), nI_mul, nI_sub (Nat.div_mul_le_self (p + i) 16), show p + i - (p + i) / 16 * 16 = (p + i) % 16 by omega, show (97 : Int32) = nI 97 from rfl, nI_add]
        have : ∀ k, k < 16 → ((nI (97 + k)).toUInt32 % 65536).toInt32 = nI (97 + k) := by decide +kernel
        exact this _ (Nat.mod_lt _ (by omega))
      obtain ⟨bytes', bf', p1', e1, H1⟩ := W_add hs (by rw [List.length_append, sq_len]; omega) (show 97 + (p + i) % 16 < 256 by omega)
      refine ⟨(bytes', bf', p1'), ?_, by rw [List.append_assoc] at H1; exact H1⟩
      try dsimp only
      rw [pL_name_L3, pL_name_L3_B, gd_in (by omega) (by omega), nI_clamp (by omega), g1, if_neg (nI_ge hi (by omega)), hnm, e1]
      simp only [ob, uc3, lb]
      rw [n1, nI_add]) FU 0 (bytes, bf, p1) (Nat.zero_le _) (by show lc p - 0 < 1024; omega) (by rw [show sq (fun k => 97 + (p + k) % 16) 0 = [] from rfl, List.append_nil]; exact H)
  obtain ⟨z, e1, h1⟩ := hL
  refine ⟨z.1, z.2.1, z.2.2, ?_, h1⟩
  show pL_name 6 bf bytes letters p1 (nI p) = _
  unfold pL_name
  rw [n0]
  have e1' : pL_name_L3 letters 6 (nI p) FU (nI 0) bytes bf p1 = some z := e1
  rw [e1']
  rfl
theorem W_dig {T : List Nat} {bf : Int32} {bytes p1 : Nat → Int32} (H : WR T bf bytes p1) (hl : T.length < 780) {v d fuel : Nat} (hv : v ≤ 2100) (hd : 0 < d) (hd2 : d ≤ 1000) :
    ∃ bytes' bf' p1', pL_number_L18 6 (nI v) (fuel + 1) (nI d) bytes bf p1 = pL_number_L18 6 (nI v) fuel (nI (d / 10)) bytes' bf' p1' ∧ WR (T ++ [dd v d]) bf' bytes' p1' := by
  have hq : v / d ≤ v := Nat.div_le_self _ _
  obtain ⟨bytes', bf', p1', e1, H1⟩ := W_add H hl (b := dd v d) (by unfold dd; omega)
  refine ⟨bytes', bf', p1', ?_, H1⟩
  rw [pL_number_L18, pL_number_L18_B, if_neg (by rw [n0]; exact nI_ge hd (by omega))]
  unfold gz
  rw [if_neg (show ¬ nI d = (0 : Int32) from fun z => by have := (nI_eq (b := 0) (by omega) (by omega)).mp z; omega), nI_div (by omega) (by omega), show (48 : Int32) + (nI (v / d) - nI (v / d) / 10 * 10) = nI (dd v d) by
    rw [n10, nI_div (by omega) (by omega), nI_mul, nI_sub (Nat.div_mul_le_self _ 10), show (48 : Int32) = nI 48 from rfl, nI_add]
    unfold dd
    congr 1
    omega, e1]
  simp only [ob, uc3, lb]
  rw [n10, nI_div (by omega) (by omega)]
theorem W_dig0 {bf : Int32} {bytes p1 : Nat → Int32} {v fuel : Nat} : pL_number_L18 6 (nI v) (fuel + 1) (nI 0) bytes bf p1 = some (bytes, bf, p1) := by
  rw [pL_number_L18, pL_number_L18_B, if_pos (show nI 0 ≤ (0 : Int32) by decide)]
theorem W_top {v : Nat} (hv : v ≤ 2100) : pL_number_L2 (nI v) FU 1 = some (nI (if v < 10 then 1 else if v < 100 then 10 else if v < 1000 then 100 else 1000)) := by
  have h10 : nI v / 10 = nI (v / 10) := by rw [n10, nI_div (by omega) (by omega)]
  have stp : ∀ fuel d, d ≤ 1000 → pL_number_L2 (nI v) (fuel + 1) (nI d) = if v / 10 < d then some (nI d) else pL_number_L2 (nI v) fuel (nI (d * 10)) := fun fuel d hd => by
    rw [pL_number_L2, pL_number_L2_B, h10]
    by_cases c : v / 10 < d
    · rw [if_pos c, if_pos (nI_lt c (by omega))]
    · rw [if_neg c, if_neg (nI_nlt (by omega) (by omega))]
      simp only [lb]
      rw [n10, nI_mul]
  rw [show FU = 1020 + 1 + 1 + 1 + 1 from rfl, n1, stp _ _ (by omega)]
  by_cases c1 : v < 10
  · rw [if_pos c1, if_pos (by omega)]
  · rw [if_neg c1, if_neg (by omega), stp _ _ (by omega)]
    by_cases c2 : v < 100
    · rw [if_pos c2, if_pos (by omega)]
    · rw [if_neg c2, if_neg (by omega), stp _ _ (by omega)]
      by_cases c3 : v < 1000
      · rw [if_pos c3, if_pos (by omega)]
      · rw [if_neg c3, if_neg (by omega), stp _ _ (by omega), if_pos (by omega)]
theorem W_number {v : Nat} (hv : v ≤ 2100) : WRS (dgL v) (fun bf bytes p1 => pL_number 6 bf bytes p1 (nI v)) := by
  intro T bf bytes p1 H hl
  have key : ∃ bytes' bf' p1', pL_number_L18 6 (nI v) FU (nI (if v < 10 then 1 else if v < 100 then 10 else if v < 1000 then 100 else 1000)) bytes bf p1 = some (bytes', bf', p1') ∧ WR (T ++ dgL v) bf' bytes' p1' := by
    rw [show FU = 1019 + 1 + 1 + 1 + 1 + 1 from rfl]
    unfold dgL at hl ⊢
    by_cases c1 : v < 10
    · rw [if_pos c1] at hl ⊢
      rw [if_pos c1]
      have hl' : T.length + 1 ≤ 780 := hl
      obtain ⟨b1, f1, q1, e1, H1⟩ := W_dig (fuel := 1019 + 1 + 1 + 1 + 1) H (by omega) hv (d := 1) (by omega) (by omega)
      exact ⟨b1, f1, q1, by rw [e1]; exact W_dig0, H1⟩
    · rw [if_neg c1] at hl ⊢
      rw [if_neg c1]
      by_cases c2 : v < 100
      · rw [if_pos c2] at hl ⊢
        rw [if_pos c2]
        have hl' : T.length + 2 ≤ 780 := hl
        obtain ⟨b1, f1, q1, e1, H1⟩ := W_dig (fuel := 1019 + 1 + 1 + 1 + 1) H (by omega) hv (d := 10) (by omega) (by omega)
        obtain ⟨b2, f2, q2, e2, H2⟩ := W_dig (fuel := 1019 + 1 + 1 + 1) H1 (by rw [List.length_append]; show T.length + 1 < 780; omega) hv (d := 1) (by omega) (by omega)
        exact ⟨b2, f2, q2, by rw [e1, show 10 / 10 = 1 from rfl, e2]; exact W_dig0, by rw [List.append_assoc] at H2; exact H2⟩
      · rw [if_neg c2] at hl ⊢
        rw [if_neg c2]
        by_cases c3 : v < 1000
        · rw [if_pos c3] at hl ⊢
          rw [if_pos c3]
          have hl' : T.length + 3 ≤ 780 := hl
          obtain ⟨b1, f1, q1, e1, H1⟩ := W_dig (fuel := 1019 + 1 + 1 + 1 + 1) H (by omega) hv (d := 100) (by omega) (by omega)
          obtain ⟨b2, f2, q2, e2, H2⟩ := W_dig (fuel := 1019 + 1 + 1 + 1) H1 (by rw [List.length_append]; show T.length + 1 < 780; omega) hv (d := 10) (by omega) (by omega)
          obtain ⟨b3, f3, q3, e3, H3⟩ := W_dig (fuel := 1019 + 1 + 1) H2 (by rw [List.length_append, List.length_append]; show T.length + 1 + 1 < 780; omega) hv (d := 1) (by omega) (by omega)
          exact ⟨b3, f3, q3, by rw [e1, show 100 / 10 = 10 from rfl, e2, show 10 / 10 = 1 from rfl, e3]; exact W_dig0, by rw [List.append_assoc, List.append_assoc] at H3; exact H3⟩
        · rw [if_neg c3] at hl ⊢
          rw [if_neg c3]
          have hl' : T.length + 4 ≤ 780 := hl
          obtain ⟨b1, f1, q1, e1, H1⟩ := W_dig (fuel := 1019 + 1 + 1 + 1 + 1) H (by omega) hv (d := 1000) (by omega) (by omega)
          obtain ⟨b2, f2, q2, e2, H2⟩ := W_dig (fuel := 1019 + 1 + 1 + 1) H1 (by rw [List.length_append]; show T.length + 1 < 780; omega) hv (d := 100) (by omega) (by omega)
          obtain ⟨b3, f3, q3, e3, H3⟩ := W_dig (fuel := 1019 + 1 + 1) H2 (by rw [List.length_append, List.length_append]; show T.length + 1 + 1 < 780; omega) hv (d := 10) (by omega) (by omega)
          obtain ⟨b4, f4, q4, e4, H4⟩ := W_dig (fuel := 1019 + 1) H3 (by rw [List.length_append, List.length_append, List.length_append]; show T.length + 1 + 1 + 1 < 780; omega) hv (d := 1) (by omega) (by omega)
          exact ⟨b4, f4, q4, by rw [e1, show 1000 / 10 = 100 from rfl, e2, show 100 / 10 = 10 from rfl, e3, show 10 / 10 = 1 from rfl, e4]; exact W_dig0, by rw [List.append_assoc, List.append_assoc, List.append_assoc] at H4; exact H4⟩
  obtain ⟨b', f', q', e1, H1⟩ := key
  refine ⟨b', f', q', ?_, H1⟩
  show pL_number 6 bf bytes p1 (nI v) = _
  unfold pL_number
  rw [W_top hv]
  simp only [ob, pL_number_J18]
  rw [e1]
  rfl
end YTXT
