/-! the piece of a line that stands in a strip -/
theorem lN_ltB {x y : Nat} (hx : x < 4611686018427387904) (hy : y < 4611686018427387904) : lN x < lN y ↔ x < y := by
  rw [Int64.lt_iff_toInt_lt, lN_big hx, lN_big hy]; omega
theorem lN_subI {x y : Nat} (hx : x < 2305843009213693952) (hy : y < 2305843009213693952) : (lN x - lN y).toInt = (x : Int) - y := by
  rw [Int64.toInt_sub, lN_big (by omega), lN_big (by omega)]
  exact Int.bmod_eq_of_le (by omega) (by omega)
theorem lcut {m v x : Nat} (hm : m ≤ 400) (hv : v ≤ 200) (hx : x < 1099511627776) : (lmax (0 : Int64) (lmin (lN v) (lN m - lN x))).toInt32 = nI (min v (m - x)) := by
  have h0 : (0 : Int64) = lN 0 := rfl
  have hs := lN_subI (x := m) (y := x) (by omega) (by omega)
  unfold lmin lmax
  by_cases h : x ≤ m
  · rw [lN_sub h]
    by_cases h2 : m - x < v
    · rw [if_pos ((lN_ltB (by omega) (by omega)).mpr h2), h0, if_neg (fun q => absurd ((lN_ltB (by omega) (by omega)).mp q) (by omega)), lN_i]
      congr 1; omega
    · rw [if_neg (fun q => h2 ((lN_ltB (by omega) (by omega)).mp q)), h0, if_neg (fun q => absurd ((lN_ltB (by omega) (by omega)).mp q) (by omega)), lN_i]
      congr 1; omega
  · have h1 : lN m - lN x < lN v := by
      rw [Int64.lt_iff_toInt_lt, hs, lN_big (by omega)]; omega
    have h2 : lN m - lN x < 0 := by
      rw [h0, Int64.lt_iff_toInt_lt, hs, lN_big (by omega)]; omega
    rw [if_pos h1, if_pos h2, show min v (m - x) = 0 by omega]
    rfl
def TX (text : Nat → Int32) (tl : Int32) (fmt : Nat → Int32) (fl : Int32) : Prop := ∃ t, t ≤ 200 ∧ tl = nI t ∧ fl = nI t ∧ ∀ i, i < t → text i = fmt i
section FMT
variable {line text fmt : Nat → Int32} {len : Int32} {s : Nat × (Nat → Int32)}
theorem X4_cutText (h : LN 400 s line len) (hs : s.1 ≤ 400) {v k : Nat} (hv : v ≤ 200) (hk : k < 2147483648) :
    ∃ text', p4_cutText len line text (lN (k * v)) (nI v) = some (text', nI (min v (s.1 - k * v))) ∧ ∀ i, i < min v (s.1 - k * v) → text' i = s.2 (k * v + i) := by
  have hkv : k * v ≤ 2147483648 * 200 := Nat.mul_le_mul (by omega) hv
  have h0 : (0 : Int64) = lN 0 := rfl
  obtain ⟨hlen, hline⟩ := h
  unfold p4_cutText
  rw [h0, if_neg (fun q => absurd ((lN_ltB (by omega) (by omega)).mp q) (by omega)), hlen, nI_l (by omega)]
  by_cases hlt : k * v < s.1
  · rw [if_pos ((lN_ltB (by omega) (by omega)).mpr hlt), lN_i, nI_add, imin_nI (by omega) (by omega)]
    simp only [lb]
    obtain ⟨z, e1, e2, e3⟩ := loop_all (fun t i (z : Nat → Int32) => p4_cutText_L43 line (nI (min (k * v + v) s.1)) t (nI (k * v + i)) z (nI i)) (min v (s.1 - k * v))
      (fun i z => ∀ j, j < i → z j = s.2 (k * v + j)) (fun (z : (Nat → Int32) × Int32) => z.2 = nI (min v (s.1 - k * v)) ∧ ∀ j, j < min v (s.1 - k * v) → z.1 j = s.2 (k * v + j)) (by
        intro t z hz
        refine ⟨(z, nI (min v (s.1 - k * v))), ?_, rfl, hz⟩
        try dsimp only
        rw [p4_cutText_L43, p4_cutText_L43_B, if_pos (nI_le (by omega) (by omega))]) (by
        intro t i z hi hz
        refine ⟨upd z i (s.2 (k * v + i)), ?_, fun j hj => ?_⟩
        · try dsimp only
          rw [p4_cutText_L43, p4_cutText_L43_B, if_neg (nI_ge (by omega) (by omega)), at_in (by omega) (by omega), put_in (by omega) (by omega), hline _ (by omega)]
          simp only [lb]
          rw [n1, nI_add, nI_add]
          rfl
        · by_cases e : j = i
          · rw [e, upd_eq]
          · rw [upd_ne e]; exact hz j (by omega)) FU 0 text (Nat.zero_le _) (by show min v (s.1 - k * v) - 0 < 1024; omega) (fun j hj => absurd hj (Nat.not_lt_zero _))
    have e1' : p4_cutText_L43 line (nI (min (k * v + v) s.1)) FU (nI (k * v)) text (nI 0) = some z := e1
    refine ⟨z.1, ?_, e3⟩
    rw [n0, e1']
    simp only [ob, uc2, p4_cutText_J86]
    rw [← e2]
  · rw [if_neg (fun q => hlt ((lN_ltB (by omega) (by omega)).mp q)), show min v (s.1 - k * v) = 0 by omega]
    exact ⟨text, rfl, fun i hi => absurd hi (Nat.not_lt_zero _)⟩
end FMT
