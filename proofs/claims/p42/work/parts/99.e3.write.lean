/-! writing a text byte by byte -/
theorem bt_shlN {x : Int32} {k q : Nat} (hk : k < 32) (hq : q < 32) : bt (x <<< (nI k &&& 31)) q = (decide (k ≤ q) && bt x (q - k)) := by
  unfold bt
  rw [Int32.toBitVec_shiftLeft, BitVec.shiftLeft_eq', shr_31 hk, BitVec.getLsbD_shiftLeft]
  by_cases c : k ≤ q
  · rw [decide_eq_true c, decide_eq_true hq, decide_eq_false (by omega)]
    simp
  · rw [decide_eq_false c, decide_eq_true (show q < k by omega)]
    simp
theorem bt_nI {b q : Nat} (hb : b < 4294967296) : bt (nI b) q = b.testBit q := by
  by_cases hq : q < 32
  · show (BitVec.ofNat 32 b).getLsbD q = b.testBit q
    rw [BitVec.getLsbD_ofNat, decide_eq_true hq, Bool.true_and]
  · rw [bt_big (by omega)]
    symm
    exact Nat.testBit_lt_two_pow (Nat.lt_of_lt_of_le hb (by
      have : 2 ^ 32 ≤ 2 ^ q := Nat.pow_le_pow_right (by omega) (by omega)
      omega))
/-- a byte of a text -/
def gB (T : List Nat) (i : Nat) : Nat := T[i]?.getD 0
theorem gB_lt {T : List Nat} (h : ∀ x, x ∈ T → x < 256) (i : Nat) : gB T i < 256 := by
  unfold gB
  by_cases c : i < T.length
  · rw [List.getElem?_eq_getElem c]
    exact h _ (List.getElem_mem c)
  · rw [List.getElem?_eq_none (by omega)]
    show 0 < 256
    omega
theorem gB_app1 {T S : List Nat} {i : Nat} (h : i < T.length) : gB (T ++ S) i = gB T i := by
  unfold gB
  rw [List.getElem?_append_left h]
theorem gB_app2 {T S : List Nat} {i : Nat} (h : T.length ≤ i) : gB (T ++ S) i = gB S (i - T.length) := by
  unfold gB
  rw [List.getElem?_append_right h]
theorem gB_app3 {T S : List Nat} {i : Nat} : gB (T ++ S) (T.length + i) = gB S i := by
  rw [gB_app2 (by omega), show T.length + i - T.length = i by omega]
/-- the text T is written: whole parts of twenty bytes fed, the rest packed -/
def WR (T : List Nat) (bf : Int32) (bytes p1 : Nat → Int32) : Prop :=
  (∀ x, x ∈ T → x < 256) ∧ bf = nI (T.length / 20 * 20) ∧ p1 5 = nI T.length ∧ (∀ i, i < T.length / 20 * 20 → bytes i = nI (gB T i)) ∧
  ∀ k, k < 5 → ∀ q, q < 32 → bt (p1 k) q = (decide (T.length / 20 * 20 + 4 * k + (3 - q / 8) < T.length) && (gB T (T.length / 20 * 20 + 4 * k + (3 - q / 8))).testBit (q % 8))
theorem W_feed {bytes : Nat → Int32} {f : Nat} (hf : f + 20 ≤ 800) {w : Nat → Int32} {B : Nat → Nat} (hB : ∀ i, B i < 256) (hw : ∀ k, k < 5 → ∀ q, q < 32 → bt (w k) q = (B (f + 4 * k + (3 - q / 8))).testBit (q % 8)) :
    ∃ bytes', p9_feed (nI f) bytes (w 0) (w 1) (w 2) (w 3) (w 4) = some (nI (f + 20), bytes', nI (f + 20)) ∧ (∀ i, i < f → bytes' i = bytes i) ∧ ∀ i, i < 20 → bytes' (f + i) = nI (B (f + i)) := by
  obtain ⟨b1, e1, u1, v1⟩ := X_append (bs := bytes) (f := f) (by omega) (w 0)
  obtain ⟨b2, e2, u2, v2⟩ := X_append (bs := b1) (f := f + 4) (by omega) (w 1)
  obtain ⟨b3, e3, u3, v3⟩ := X_append (bs := b2) (f := f + 4 + 4) (by omega) (w 2)
  obtain ⟨b4, e4, u4, v4⟩ := X_append (bs := b3) (f := f + 4 + 4 + 4) (by omega) (w 3)
  obtain ⟨b5, e5, u5, v5⟩ := X_append (bs := b4) (f := f + 4 + 4 + 4 + 4) (by omega) (w 4)
  have hby : ∀ k r, k < 5 → r < 4 → byI (w k) r = nI (B (f + 4 * k + r)) := fun k r hk hr => bt_ext fun q hq => by
    have hb := hB (f + 4 * k + r)
    rw [bt_byI hr, bt_nI (by omega)]
    by_cases c : q < 8
    · rw [decide_eq_true c, Bool.and_true, hw k hk _ (by omega), show 3 - (24 - 8 * r + q) / 8 = r by omega, show (24 - 8 * r + q) % 8 = q by omega]
    · rw [decide_eq_false c, Bool.and_false]
      symm
      exact Nat.testBit_lt_two_pow (Nat.lt_of_lt_of_le hb (by
        have : 2 ^ 8 ≤ 2 ^ q := Nat.pow_le_pow_right (by omega) (by omega)
        omega))
  refine ⟨b5, ?_, fun i hi => ?_, fun i hi => ?_⟩
  · unfold p9_feed p3_hasRoom
    rw [show (20 : Int32) = nI 20 from rfl, nI_add, show (800 : Int32) = nI 800 from rfl, if_neg (nI_nlt (by omega) (by omega))]
    simp only [cond]
    rw [e1]
    simp only [ob, uc2]
    rw [e2]
    simp only [ob, uc2]
    rw [e3]
    simp only [ob, uc2]
    rw [e4]
    simp only [ob, uc2]
    rw [e5]
  · rw [v5 i (by omega), v4 i (by omega), v3 i (by omega), v2 i (by omega), v1 i hi]
  · have h : i = 4 * 0 + i % 4 ∧ i / 4 = 0 ∨ i / 4 = 1 ∨ i / 4 = 2 ∨ i / 4 = 3 ∨ i / 4 = 4 := by omega
    rcases h with ⟨_, h⟩ | h | h | h | h
    · rw [show f + i = f + i % 4 by omega, v5 _ (by omega), v4 _ (by omega), v3 _ (by omega), v2 _ (by omega), u1 _ (by omega), hby 0 _ (by omega) (by omega)]
      exact congrArg (fun z => nI (B z)) (by omega)
    · rw [show f + i = f + 4 + i % 4 by omega, v5 _ (by omega), v4 _ (by omega), v3 _ (by omega), u2 _ (by omega), hby 1 _ (by omega) (by omega)]
    · rw [show f + i = f + 4 + 4 + i % 4 by omega, v5 _ (by omega), v4 _ (by omega), u3 _ (by omega), hby 2 _ (by omega) (by omega)]
    · rw [show f + i = f + 4 + 4 + 4 + i % 4 by omega, v5 _ (by omega), u4 _ (by omega), hby 3 _ (by omega) (by omega)]
    · rw [show f + i = f + 4 + 4 + 4 + 4 + i % 4 by omega, u5 _ (by omega), hby 4 _ (by omega) (by omega)]
theorem W_reset {p1 : Nat → Int32} : ∃ p1', pL_add_L65 6 FU 0 p1 = some p1' ∧ (∀ k, k < 5 → p1' k = 0) ∧ p1' 5 = p1 5 := by
  obtain ⟨z, e1, h1⟩ := loop_all (fun k i (s : Nat → Int32) => pL_add_L65 6 k (nI i) s) 5 (fun i s => (∀ k, k < i → s k = 0) ∧ s 5 = p1 5) (fun s => (∀ k, k < 5 → s k = 0) ∧ s 5 = p1 5) (by
    intro k s hs
    refine ⟨s, ?_, hs⟩
    try dsimp only
    rw [pL_add_L65, pL_add_L65_B, n5, if_pos (nI_le (Nat.le_refl _) (by omega))]) (by
    intro k i s hi hs
    refine ⟨upd s i 0, ?_, fun j hj => ?_, ?_⟩
    · try dsimp only
      rw [pL_add_L65, pL_add_L65_B, n5, if_neg (nI_ge hi (by omega)), gd_in (by omega) (by omega), nI_clamp (by omega)]
      simp only [lb]
      rw [n1, nI_add]
    · by_cases e : j = i
      · rw [e, upd_eq]
      · rw [upd_ne e]; exact hs.1 j (by omega)
    · rw [upd_ne (by omega)]; exact hs.2) FU 0 p1 (Nat.zero_le _) (by show 5 - 0 < 1024; omega) ⟨fun k hk => absurd hk (Nat.not_lt_zero _), rfl⟩
  exact ⟨z, e1, h1⟩
theorem c5 : (5 : Int32).toNatClampNeg = 5 := nI_clamp (n := 5) (by omega)
theorem g56 {α : Type} {k : Option α} : gd (5 : Int32) 6 k = k := by rw [n5, gd_in (by omega) (by omega)]
theorem g06 {α : Type} {k : Option α} : gd (0 : Int32) 6 k = k := by rw [n0, gd_in (by omega) (by omega)]
theorem g16 {α : Type} {k : Option α} : gd (1 : Int32) 6 k = k := by rw [n1, gd_in (by omega) (by omega)]
theorem g26 {α : Type} {k : Option α} : gd (2 : Int32) 6 k = k := by rw [n2, gd_in (by omega) (by omega)]
theorem g36 {α : Type} {k : Option α} : gd (3 : Int32) 6 k = k := by rw [n3, gd_in (by omega) (by omega)]
theorem g46 {α : Type} {k : Option α} : gd (4 : Int32) 6 k = k := by rw [n4, gd_in (by omega) (by omega)]
theorem W_add {T : List Nat} {bf : Int32} {bytes p1 : Nat → Int32} (H : WR T bf bytes p1) (hl : T.length < 780) {b : Nat} (hb : b < 256) :
    ∃ bytes' bf' p1', pL_add 6 bf bytes p1 (nI b) = some (bytes', bf', p1') ∧ WR (T ++ [b]) bf' bytes' p1' := by
  obtain ⟨h1, h2, h3, h4, h5⟩ := H
  generalize hc : T.length = c at *
  have hmem : ∀ x, x ∈ T ++ [b] → x < 256 := fun x hx => by
    rcases List.mem_append.mp hx with h | h
    · exact h1 x h
    · rw [List.mem_singleton.mp h]; exact hb
  have hlen : (T ++ [b]).length = c + 1 := by rw [List.length_append, hc]; rfl
  have hgb : gB (T ++ [b]) c = b := by rw [← hc, gB_app2 (Nat.le_refl _), Nat.sub_self]; rfl
  have hgo : ∀ i, i < c → gB (T ++ [b]) i = gB T i := fun i hi => gB_app1 (by omega)
  have hk5 : c % 20 / 4 < 5 := by omega
  have hidx : (nI c - nI c / 20 * 20) / 4 = nI (c % 20 / 4) := by
    rw [show (20 : Int32) = nI 20 from rfl, nI_div (by omega) (by omega), nI_mul, nI_sub (Nat.div_mul_le_self c 20), n4, nI_div (by omega) (by omega)]
    congr 1
    omega
  have hsh : (24 : Int32) - 8 * (nI c - nI c / 4 * 4) = nI (24 - 8 * (c % 4)) := by
    rw [nI_mod4 (by omega), show (8 : Int32) = nI 8 from rfl, nI_mul, show (24 : Int32) = nI 24 from rfl, nI_sub (by omega)]
  -- the words with the byte put in
  have hw : ∀ k, k < 5 → ∀ q, q < 32 → bt (upd p1 (c % 20 / 4) (p1 (c % 20 / 4) ||| (nI b <<< (nI (24 - 8 * (c % 4)) &&& 31))) k) q = (decide (c / 20 * 20 + 4 * k + (3 - q / 8) < c + 1) && (gB (T ++ [b]) (c / 20 * 20 + 4 * k + (3 - q / 8))).testBit (q % 8)) := by
    intro k hk q hq
    have hq3 : q / 8 < 4 := by omega
    by_cases e : k = c % 20 / 4
    · subst e
      rw [upd_eq, bt_or, h5 _ hk5 q hq, bt_shlN (by omega) hq, bt_nI (by omega)]
      generalize hi : c / 20 * 20 + 4 * (c % 20 / 4) + (3 - q / 8) = i
      by_cases e1 : i < c
      · have e2 : ¬ (24 - 8 * (c % 4) ≤ q ∧ q < 24 - 8 * (c % 4) + 8) := by omega
        rw [decide_eq_true e1, decide_eq_true (show i < c + 1 by omega), hgo i e1]
        have e3 : (decide (24 - 8 * (c % 4) ≤ q) && b.testBit (q - (24 - 8 * (c % 4)))) = false := by
          by_cases c1 : 24 - 8 * (c % 4) ≤ q
          · have : b.testBit (q - (24 - 8 * (c % 4))) = false := Nat.testBit_lt_two_pow (Nat.lt_of_lt_of_le hb (by
              have : 2 ^ 8 ≤ 2 ^ (q - (24 - 8 * (c % 4))) := Nat.pow_le_pow_right (by omega) (by omega)
              omega))
            rw [this, Bool.and_false]
          · rw [decide_eq_false c1, Bool.false_and]
        rw [e3, Bool.or_false]
      · rw [decide_eq_false e1, Bool.false_and, Bool.false_or]
        by_cases e2 : i = c
        · have e3 : 24 - 8 * (c % 4) ≤ q := by omega
          have e4 : q - (24 - 8 * (c % 4)) = q % 8 := by omega
          rw [decide_eq_true (show i < c + 1 by omega), decide_eq_true e3, e2, hgb, e4]
        · have e3 : ¬ 24 - 8 * (c % 4) ≤ q := by omega
          rw [decide_eq_false (show ¬ i < c + 1 by omega), decide_eq_false e3, Bool.false_and, Bool.false_and]
    · rw [upd_ne e, h5 k hk q hq]
      by_cases e1 : c / 20 * 20 + 4 * k + (3 - q / 8) < c
      · rw [decide_eq_true e1, decide_eq_true (by omega), hgo _ e1]
      · rw [decide_eq_false e1, decide_eq_false (by omega), Bool.false_and, Bool.false_and]
  have hx5 : upd p1 (c % 20 / 4) (p1 (c % 20 / 4) ||| (nI b <<< (nI (24 - 8 * (c % 4)) &&& 31))) 5 = nI c := by rw [upd_ne (by omega), h3]
  unfold pL_add
  simp only [c5, g56, lb_eq, h3, hidx, hsh, gd_in (show c % 20 / 4 < 6 by omega) (show (6 : Nat) < 2147483648 by omega), nI_clamp (show c % 20 / 4 < 2147483648 by omega)]
  generalize upd p1 (c % 20 / 4) (p1 (c % 20 / 4) ||| (nI b <<< (nI (24 - 8 * (c % 4)) &&& 31))) = g at hw hx5 ⊢
  have hc1 : nI c + 1 = nI (c + 1) := by rw [n1, nI_add]
  rw [hx5, upd_eq, hc1, show (20 : Int32) = nI 20 from rfl, nI_div (show c + 1 < 1073741824 by omega) (by omega), nI_mul, nI_sub (Nat.div_mul_le_self (c + 1) 20)]
  have hw5 : ∀ k, k < 5 → upd g 5 (nI (c + 1)) k = g k := fun k hk => upd_ne (by omega)
  by_cases d : (c + 1) % 20 = 0
  · obtain ⟨bytes', e1, u1, u2⟩ := W_feed (bytes := bytes) (f := c / 20 * 20) (by omega) (w := upd g 5 (nI (c + 1))) (B := gB (T ++ [b])) (gB_lt hmem) (fun k hk q hq => by
      rw [hw5 k hk, hw k hk q hq, decide_eq_true (by omega), Bool.true_and])
    obtain ⟨p2, e2, u3, u4⟩ := W_reset (p1 := upd g 5 (nI (c + 1)))
    rw [upd_eq] at u4
    rw [if_pos (show nI (c + 1 - (c + 1) / 20 * 20) = (0 : Int32) by rw [show c + 1 - (c + 1) / 20 * 20 = 0 by omega]; rfl), g06, g16, g26, g36, g46, c0, c1', c2, show (3 : Int32).toNatClampNeg = 3 from nI_clamp (n := 3) (by omega), show (4 : Int32).toNatClampNeg = 4 from nI_clamp (n := 4) (by omega), h2, e1]
    simp only [ob, uc3]
    rw [e2]
    refine ⟨bytes', nI (c / 20 * 20 + 20), p2, rfl, hmem, by rw [hlen]; congr 1; omega, by rw [hlen]; exact u4, fun i hi => ?_, fun k hk q hq => ?_⟩
    · rw [hlen] at hi
      by_cases c1 : i < c / 20 * 20
      · rw [u1 i c1, h4 i c1, hgo i (by omega)]
      · rw [show i = c / 20 * 20 + (i - c / 20 * 20) by omega]
        exact u2 _ (by omega)
    · rw [u3 k hk, bt_zero, hlen, decide_eq_false (by omega), Bool.false_and]
  · rw [if_neg (show ¬ nI (c + 1 - (c + 1) / 20 * 20) = (0 : Int32) from fun z => by
      have := (nI_eq (b := 0) (by omega) (by omega)).mp z
      omega)]
    refine ⟨bytes, bf, upd g 5 (nI (c + 1)), rfl, hmem, by rw [hlen, h2]; congr 1; omega, by rw [hlen, upd_eq], fun i hi => ?_, fun k hk q hq => ?_⟩
    · rw [hlen] at hi
      rw [h4 i (by omega), hgo i (by omega)]
    · rw [hw5 k hk, hw k hk q hq, hlen, show (c + 1) / 20 * 20 = c / 20 * 20 by omega]
