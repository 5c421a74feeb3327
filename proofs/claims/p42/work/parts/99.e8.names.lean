/-! names told, read again -/
def ltF (p i : Nat) : Nat := 1 + (p + i) % 16
section YNAM
variable {T : List Nat} {bs : Nat → Int32} {m n : Nat} {lc : Nat → Nat} {lA letters : Nat → Int32} {s p : Nat} {errS : Int32}
theorem R_spell (H : BFT T bs) (P : PT (gB T) T.length s (s + lc p) 1) (hm : m ≤ 16) (hp : p < 16) (hn : AT T s (nmL lc p)) (C : LCX m lc lA) (X : LTX m lc ltF letters) (hlc : ∀ p, p < m → lc p ≤ 8) (hl2 : 2 ≤ lc p) {q : Nat} (hq : q < m) :
    p3_isSpelled 128 (nI 1) (nI s) (nI (s + lc p)) bs letters (nI q * 8) (pAt 16 lA (nI q)) = some (decide (q = p)) := by
  obtain ⟨r, e1, e2⟩ := spelled_ok H.buf P hm C X hlc (fun p _ i _ => by unfold ltF; have := Nat.mod_lt (p + i) (show 16 > 0 by omega); omega) hq
  obtain ⟨n1', n2'⟩ := hn.sq
  have htl : ∀ i, i < lc p → tl (gB T) s i = ltF p i := fun i hi => by
    show gB T (s + i) - 96 = 1 + (p + i) % 16
    rw [n2' i hi]
    omega
  rw [e1]
  by_cases c : q = p
  · subst c
    rw [decide_eq_true rfl, e2.mpr ⟨by omega, fun i hi => (htl i hi).symm⟩]
  · rw [decide_eq_false c]
    cases r with
    | false => rfl
    | true =>
      obtain ⟨s1, s2⟩ := e2.mp rfl
      have h0 := s2 0 (by omega)
      rw [htl 0 (by omega)] at h0
      unfold ltF at h0
      omega
theorem R_named (H : BFT T bs) (P : PT (gB T) T.length s (s + lc p) 1) (hm : m ≤ 16) (hp : p < 16) (hn : AT T s (nmL lc p)) (C : LCX m lc lA) (X : LTX m lc ltF letters) (hlc : ∀ p, p < m → lc p ≤ 8) (hl2 : 2 ≤ lc p) :
    p8_personNamed (nI 1) (nI s) (nI (s + lc p)) (nI m) lA letters bs = some (if p < m then nI p else -1) := by
  have key : ∀ d i k, m - i = d → i ≤ m → d < k → p8_personNamed_L2 lA letters (nI m) bs (nI 1) (nI s) (nI (s + lc p)) k (nI i) = some (if i ≤ p ∧ p < m then .inl (nI p) else .inr ()) := by
    intro d
    induction d with
    | zero =>
      intro i k h1 h2 h3
      obtain ⟨k, rfl⟩ : ∃ k', k = k' + 1 := ⟨k - 1, by omega⟩
      rw [p8_personNamed_L2, p8_personNamed_L2_B, if_pos (nI_le (by omega) (by omega)), if_neg (by omega)]
    | succ d ih =>
      intro i k h1 h2 h3
      obtain ⟨k, rfl⟩ : ∃ k', k = k' + 1 := ⟨k - 1, by omega⟩
      rw [p8_personNamed_L2, p8_personNamed_L2_B, if_neg (nI_ge (by omega) (by omega)), R_spell H P hm hp hn C X hlc hl2 (q := i) (by omega)]
      simp only [ob]
      by_cases c : i = p
      · rw [decide_eq_true c]
        simp only [cond]
        rw [if_pos (by omega), c]
      · rw [decide_eq_false c]
        simp only [cond, lb]
        rw [n1, nI_add]
        rw [ih (i + 1) k (by omega) (by omega) (by omega)]
        by_cases c2 : i ≤ p ∧ p < m
        · rw [if_pos c2, if_pos (by omega)]
        · rw [if_neg c2, if_neg (by omega)]
  have h := key m 0 FU (by omega) (by omega) (by show m < 1024; omega)
  unfold p8_personNamed
  rw [n0, h]
  by_cases c : p < m
  · rw [if_pos ⟨Nat.zero_le _, c⟩, if_pos c]; rfl
  · rw [if_neg (fun z => c z.2), if_neg c]; rfl
theorem R_new (H : BFT T bs) (P : PT (gB T) T.length s (s + lc p) 1) (hm : m ≤ p) (hp : p < 16) (hn : AT T s (nmL lc p)) (C : LCX m lc lA) (X : LTX m lc ltF letters) (hlc : ∀ p, p < m → lc p ≤ 8) (hl2 : 2 ≤ lc p) (hl8 : lc p ≤ 8) :
    p8_checkNewName (nI 1) (nI s) (nI (s + lc p)) 0 errS (nI m) lA letters bs = some (0, errS) := by
  have hL := H.1
  have hs := P.2.1
  unfold p8_checkNewName p3_wordLength
  rw [if_pos (show nI 1 = (1 : Int32) from rfl), if_pos (show nI 1 = (1 : Int32) from rfl), nI_sub (by omega), show (8 : Int32) = nI 8 from rfl, if_pos (nI_le (by omega) (by omega)), R_named H P (by omega) hp hn C X hlc hl2, if_neg (by omega)]
  simp only [ob]
  first
    | rw [if_pos trivial]
    | rw [if_pos rfl]
theorem R_checked (H : BFT T bs) (P : PT (gB T) T.length s (s + lc p) 1) (hm : m ≤ 16) (hp : p < m) (hn : AT T s (nmL lc p)) (C : LCX m lc lA) (X : LTX m lc ltF letters) (hlc : ∀ p, p < m → lc p ≤ 8) (hl2 : 2 ≤ lc p) :
    p8_checkedPerson (nI 1) (nI s) (nI (s + lc p)) 0 errS (nI m) lA letters bs = some (nI p, 0, errS) := by
  unfold p8_checkedPerson
  rw [if_pos (show nI 1 = (1 : Int32) from rfl), R_named H P hm (by omega) hn C X hlc hl2, if_pos hp]
  simp only [ob]
  rw [if_neg (nI_m1 (by omega))]
theorem R_year {L st e y : Nat} {k' s' e' v' : Int32} (hy : y ≤ 2100) (hn : p3_advance (nI L) (nI 2) (nI st) (nI e) (nI y) 0 bs = some (k', s', e', v')) : p8_readYear (nI L) (nI 2) (nI st) (nI e) (nI y) 0 errS bs = some (nI y, 0, errS, k', s', e', v') := by
  unfold p8_readYear
  rw [if_pos (show nI 2 = (2 : Int32) from rfl), n2100, if_pos (nI_le hy (by omega))]
  unfold p8_readYear_J45
  rw [hn]
  rfl
theorem R_semi {L st e : Nat} {k' s' e' v' : Int32} (hn : p3_advance (nI L) (nI 3) (nI st) (nI e) (nI 59) 0 bs = some (k', s', e', v')) : p8_readSemicolon (nI L) (nI 3) (nI st) (nI e) (nI 59) 0 errS bs = some (0, errS, k', s', e', v') := by
  have h : p3_isSign (nI 3) (nI 59) 59 = true := by decide
  unfold p8_readSemicolon
  rw [h]
  simp only [cond]
  unfold p8_readSemicolon_J20
  rw [hn]
  rfl
theorem R_isW {w e : Nat} (H : BFT T bs) (hw : w < 5) (he : e = s + txl w) (hL : e ≤ T.length) (h : ∀ j, j < txl w → gB T (s + j) = cw w j) : p3_isWord (nI 1) (nI s) (nI e) bs w = some true := by
  have h8 := H.1
  have h11 := txl_le w
  subst he
  have hLp := loop_all (fun k i (_ : Unit) => p3_isWord_L28 bs (nI s) w k (nI i)) (txl w) (fun _ _ => True) (fun z => z = .inr ()) (by
    intro k s' _
    refine ⟨_, ?_, rfl⟩
    try dsimp only
    rw [p3_isWord_L28, p3_isWord_L28_B]
    exact if_pos (nI_le (Nat.le_refl _) (by omega))) (by
    intro k i _ hi _
    refine ⟨(), ?_, trivial⟩
    try dsimp only
    rw [p3_isWord_L28, p3_isWord_L28_B, show Int32.ofNat (txl w) = nI (txl w) from rfl, if_neg (nI_ge hi (by omega)), gd_in hi (by omega), nI_clamp (by omega), nI_add, at_in (by omega) (by omega), H.2.1 _ (by omega), h i hi, (cw_ok w hw i hi).1, if_pos rfl]
    simp only [lb]
    rw [n1, nI_add]) FU 0 () (Nat.zero_le _) (by show txl w - 0 < 1024; omega) trivial
  obtain ⟨z, e1, rfl⟩ := hLp
  unfold p3_isWord
  rw [if_pos (show nI 1 = (1 : Int32) from rfl), nI_sub (by omega), show s + txl w - s = txl w by omega, show Int32.ofNat (txl w) = nI (txl w) from rfl, if_pos rfl, n0]
  have e1' : p3_isWord_L28 bs (nI s) w FU (nI 0) = some (.inr ()) := e1
  rw [e1']
  rfl
theorem R_notW {w e : Nat} (he : s ≤ e) (he2 : e < 1000) (h : txl w ≠ e - s) : p3_isWord (nI 1) (nI s) (nI e) bs w = some false := by
  have h11 := txl_le w
  unfold p3_isWord
  rw [if_pos (show nI 1 = (1 : Int32) from rfl), nI_sub he, show Int32.ofNat (txl w) = nI (txl w) from rfl, if_neg (fun z => h ((nI_eq (by omega) (by omega)).mp z))]
end YNAM
