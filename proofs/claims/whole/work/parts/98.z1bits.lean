/-! counting the bits of a mask of 16 -/
def bs : Nat → Nat → Nat
  | 0, _ => 0
  | k + 1, m => m % 2 + bs k (m / 2)
def bc1 (m : Nat) : Nat := m - ((m >>> 1) &&& 1431655765)
def bc2 (m : Nat) : Nat := (m &&& 858993459) + ((m >>> 2) &&& 858993459)
def bc3 (m : Nat) : Nat := (m + (m >>> 4)) &&& 252645135
def bc4 (m : Nat) : Nat := m + (m >>> 8)
def bc5 (m : Nat) : Nat := m + (m >>> 16)
def bcN (m : Nat) : Nat := bc5 (bc4 (bc3 (bc2 (bc1 m)))) &&& 63
def chkB (h l : Nat) : Bool := Nat.beq (bcN (256 * h + l)) (bs 8 h + bs 8 l)
def allb (f : Nat → Bool) : Nat → Bool
  | 0 => true
  | k + 1 => f k && allb f k
theorem allb_e {f : Nat → Bool} : ∀ k, allb f k = true → ∀ i, i < k → f i = true := by
  intro k
  induction k with
  | zero => intro _ i hi; omega
  | succ k ih =>
    intro h i hi
    have h' : (f k && allb f k) = true := h
    rw [Bool.and_eq_true] at h'
    by_cases e : i = k
    · rw [e]; exact h'.1
    · exact ih h'.2 i (by omega)
theorem chk_0 : allb (fun h => allb (chkB (0 + h)) 256) 16 = true := by decide +kernel
theorem chk_1 : allb (fun h => allb (chkB (16 + h)) 256) 16 = true := by decide +kernel
theorem chk_2 : allb (fun h => allb (chkB (32 + h)) 256) 16 = true := by decide +kernel
theorem chk_3 : allb (fun h => allb (chkB (48 + h)) 256) 16 = true := by decide +kernel
theorem chk_4 : allb (fun h => allb (chkB (64 + h)) 256) 16 = true := by decide +kernel
theorem chk_5 : allb (fun h => allb (chkB (80 + h)) 256) 16 = true := by decide +kernel
theorem chk_6 : allb (fun h => allb (chkB (96 + h)) 256) 16 = true := by decide +kernel
theorem chk_7 : allb (fun h => allb (chkB (112 + h)) 256) 16 = true := by decide +kernel
theorem chk_8 : allb (fun h => allb (chkB (128 + h)) 256) 16 = true := by decide +kernel
theorem chk_9 : allb (fun h => allb (chkB (144 + h)) 256) 16 = true := by decide +kernel
theorem chk_10 : allb (fun h => allb (chkB (160 + h)) 256) 16 = true := by decide +kernel
theorem chk_11 : allb (fun h => allb (chkB (176 + h)) 256) 16 = true := by decide +kernel
theorem chk_12 : allb (fun h => allb (chkB (192 + h)) 256) 16 = true := by decide +kernel
theorem chk_13 : allb (fun h => allb (chkB (208 + h)) 256) 16 = true := by decide +kernel
theorem chk_14 : allb (fun h => allb (chkB (224 + h)) 256) 16 = true := by decide +kernel
theorem chk_15 : allb (fun h => allb (chkB (240 + h)) 256) 16 = true := by decide +kernel
theorem bs_hl : ∀ k j m, bs (k + j) m = bs k m + bs j (m / 2 ^ k) := by
  intro k
  induction k with
  | zero => intro j m; rw [Nat.zero_add, Nat.pow_zero, Nat.div_one]; show _ = 0 + _; omega
  | succ k ih =>
    intro j m
    rw [show k + 1 + j = (k + j) + 1 by omega]
    show m % 2 + bs (k + j) (m / 2) = m % 2 + bs k (m / 2) + bs j (m / 2 ^ (k + 1))
    rw [ih j (m / 2), Nat.div_div_eq_div_mul, show 2 * 2 ^ k = 2 ^ (k + 1) by rw [Nat.pow_succ]; omega]
    omega
theorem bs_mod : ∀ k m, bs k (m % 2 ^ k) = bs k m := by
  intro k
  induction k with
  | zero => intro m; rfl
  | succ k ih =>
    intro m
    show m % 2 ^ (k + 1) % 2 + bs k (m % 2 ^ (k + 1) / 2) = m % 2 + bs k (m / 2)
    have h1 : m % 2 ^ (k + 1) % 2 = m % 2 := Nat.mod_mod_of_dvd m ⟨2 ^ k, by rw [Nat.pow_succ]; omega⟩
    have h2 : m % 2 ^ (k + 1) / 2 = m / 2 % 2 ^ k := by
      rw [Nat.pow_succ, Nat.mul_comm, Nat.mod_mul_right_div_self]
    rw [h1, h2, ih]
theorem chk_e {m : Nat} (h : m < 65536) : bcN m = bs 16 m := by
  have key : ∀ k, allb (fun h => allb (chkB (16 * k + h)) 256) 16 = true → m / 4096 = k → bcN m = bs 16 m := fun k hk e => by
    have h1 := allb_e 16 hk (m / 256 % 16) (by omega)
    have h2 := allb_e 256 h1 (m % 256) (by omega)
    rw [show 16 * k + m / 256 % 16 = m / 256 by omega] at h2
    have h3 := Nat.eq_of_beq_eq_true h2
    rw [show 256 * (m / 256) + m % 256 = m by omega] at h3
    rw [h3, show (16 : Nat) = 8 + 8 from rfl, bs_hl 8 8 m]
    have h4 := bs_mod 8 m
    rw [show (2 : Nat) ^ 8 = 256 from rfl] at h4 ⊢
    rw [h4]; omega
  have hk : m / 4096 < 16 := by omega
  by_cases c0 : m / 4096 = 0
  · exact key 0 chk_0 c0
  by_cases c1 : m / 4096 = 1
  · exact key 1 chk_1 c1
  by_cases c2 : m / 4096 = 2
  · exact key 2 chk_2 c2
  by_cases c3 : m / 4096 = 3
  · exact key 3 chk_3 c3
  by_cases c4 : m / 4096 = 4
  · exact key 4 chk_4 c4
  by_cases c5 : m / 4096 = 5
  · exact key 5 chk_5 c5
  by_cases c6 : m / 4096 = 6
  · exact key 6 chk_6 c6
  by_cases c7 : m / 4096 = 7
  · exact key 7 chk_7 c7
  by_cases c8 : m / 4096 = 8
  · exact key 8 chk_8 c8
  by_cases c9 : m / 4096 = 9
  · exact key 9 chk_9 c9
  by_cases c10 : m / 4096 = 10
  · exact key 10 chk_10 c10
  by_cases c11 : m / 4096 = 11
  · exact key 11 chk_11 c11
  by_cases c12 : m / 4096 = 12
  · exact key 12 chk_12 c12
  by_cases c13 : m / 4096 = 13
  · exact key 13 chk_13 c13
  by_cases c14 : m / 4096 = 14
  · exact key 14 chk_14 c14
  by_cases c15 : m / 4096 = 15
  · exact key 15 chk_15 c15
  omega
theorem nI_and (a b : Nat) : nI a &&& nI b = nI (a &&& b) := by
  refine Int32.toBitVec_inj.mp ?_
  rw [Int32.toBitVec_and]
  exact BitVec.ofNat_and.symm
theorem nI_ushr {m k : Nat} {s : UInt32} (hm : m < 4294967296) (hs : s.toNat % 32 = k) : ((nI m).toUInt32 >>> s).toInt32 = nI (m >>> k) := by
  refine Int32.toBitVec_inj.mp ?_
  refine BitVec.eq_of_toNat_eq ?_
  show ((nI m).toUInt32 >>> s).toNat = (BitVec.ofNat 32 (m >>> k)).toNat
  rw [UInt32.toNat_shiftRight, hs, BitVec.toNat_ofNat]
  have h1 : (nI m).toUInt32.toNat = m := by
    show (BitVec.ofNat 32 m).toNat = m
    rw [BitVec.toNat_ofNat]
    exact Nat.mod_eq_of_lt hm
  rw [h1, Nat.mod_eq_of_lt (Nat.lt_of_le_of_lt (Nat.shiftRight_le _ _) hm)]
theorem bc_le {m : Nat} (h : m < 65536) : bc1 m < 65536 := by unfold bc1; omega
theorem X_bitCount {m : Nat} (h : m < 65536) : pJ_bitCount (nI m) = nI (bs 16 m) := by
  have h1 : bcN m = bs 16 m := chk_e h
  have h2 : (m >>> 1) &&& 1431655765 ≤ m := Nat.le_trans Nat.and_le_left (Nat.shiftRight_le m 1)
  have k1 : bc1 m < 65536 := bc_le h
  have a1 := Nat.and_le_left (n := bc1 m) (m := 858993459)
  have a2 := Nat.and_le_left (n := bc1 m >>> 2) (m := 858993459)
  have a3 := Nat.shiftRight_le (bc1 m) 2
  have k2 : bc2 (bc1 m) < 131072 := by unfold bc2; omega
  have a4 := Nat.and_le_left (n := bc2 (bc1 m) + bc2 (bc1 m) >>> 4) (m := 252645135)
  have a5 := Nat.shiftRight_le (bc2 (bc1 m)) 4
  have k3 : bc3 (bc2 (bc1 m)) < 262144 := by unfold bc3; omega
  have a6 := Nat.shiftRight_le (bc3 (bc2 (bc1 m))) 8
  have k4 : bc4 (bc3 (bc2 (bc1 m))) < 524288 := by unfold bc4; omega
  unfold pJ_bitCount
  simp only [lb_eq]
  rw [show (1431655765 : Int32) = nI 1431655765 from rfl, show (858993459 : Int32) = nI 858993459 from rfl, show (252645135 : Int32) = nI 252645135 from rfl, show (63 : Int32) = nI 63 from rfl]
  rw [nI_ushr (m := m) (k := 1) (by omega) (by decide), nI_and, nI_sub h2, show m - (m >>> 1 &&& 1431655765) = bc1 m from rfl]
  rw [nI_ushr (m := bc1 m) (k := 2) (by omega) (by decide), nI_and, nI_and, nI_add, show (bc1 m &&& 858993459) + (bc1 m >>> 2 &&& 858993459) = bc2 (bc1 m) from rfl]
  rw [nI_ushr (m := bc2 (bc1 m)) (k := 4) (by omega) (by decide), nI_add, nI_and, show (bc2 (bc1 m) + bc2 (bc1 m) >>> 4) &&& 252645135 = bc3 (bc2 (bc1 m)) from rfl]
  rw [nI_ushr (m := bc3 (bc2 (bc1 m))) (k := 8) (by omega) (by decide), nI_add, show bc3 (bc2 (bc1 m)) + bc3 (bc2 (bc1 m)) >>> 8 = bc4 (bc3 (bc2 (bc1 m))) from rfl]
  rw [nI_ushr (m := bc4 (bc3 (bc2 (bc1 m)))) (k := 16) (by omega) (by decide), nI_add, nI_and, show (bc4 (bc3 (bc2 (bc1 m))) + bc4 (bc3 (bc2 (bc1 m))) >>> 16) &&& 63 = bcN m from rfl, h1]
theorem bs_zero : ∀ k m, m < 2 ^ k → bs k m = 0 → m = 0 := by
  intro k
  induction k with
  | zero => intro m h _; simpa using h
  | succ k ih =>
    intro m h hb
    have hb' : m % 2 + bs k (m / 2) = 0 := hb
    have := ih (m / 2) (by rw [Nat.pow_succ] at h; omega) (by omega)
    omega
theorem bs_low : ∀ k m, m < 2 ^ k → 0 < m → bs k (m &&& (m - 1)) + 1 = bs k m := by
  intro k
  induction k with
  | zero => intro m h h0; rw [Nat.pow_zero] at h; omega
  | succ k ih =>
    intro m h h0
    rw [Nat.pow_succ] at h
    show (m &&& (m - 1)) % 2 + bs k ((m &&& (m - 1)) / 2) + 1 = m % 2 + bs k (m / 2)
    rw [Nat.and_div_two]
    have hz : (m &&& (m - 1)) % 2 = 0 := by
      have h1 : (m &&& (m - 1)).testBit 0 = false := by
        rw [Nat.testBit_and, Nat.testBit_zero, Nat.testBit_zero]
        by_cases e : m % 2 = 1
        · rw [show (m - 1) % 2 = 0 by omega]; simp
        · rw [show m % 2 = 0 by omega]; simp
      rw [Nat.testBit_zero] at h1
      have := of_decide_eq_false h1
      omega
    rw [hz]
    by_cases e : m % 2 = 1
    · rw [show (m - 1) / 2 = m / 2 by omega, Nat.and_self, e]; omega
    · have := ih (m / 2) (by omega) (by omega)
      rw [show (m - 1) / 2 = m / 2 - 1 by omega]
      omega
theorem M_membersL : ∀ d c m fuel, m < 65536 → c + d < 1000 → bs 16 m = d → d < fuel → p10_members_L4 fuel (nI c) (nI m) = some (nI (c + d)) := by
  intro d
  induction d with
  | zero =>
    intro c m fuel hm hc hz hf
    obtain ⟨f, rfl⟩ : ∃ j, fuel = j + 1 := ⟨fuel - 1, by omega⟩
    have hz' : m = 0 := bs_zero 16 m hm hz
    subst hz'
    rw [p10_members_L4, p10_members_L4_B, n0, if_pos rfl]
    rfl
  | succ d ih =>
    intro c m fuel hm hc hz hf
    obtain ⟨f, rfl⟩ : ∃ j, fuel = j + 1 := ⟨fuel - 1, by omega⟩
    have e : m ≠ 0 := fun q => by
      rw [q] at hz
      have : bs 16 0 = 0 := by decide
      omega
    have hl := bs_low 16 m hm (by omega)
    rw [p10_members_L4, p10_members_L4_B, n0, if_neg (fun q => e ((nI_eq (by omega) (by omega)).mp q))]
    simp only [lb_eq]
    rw [n1, nI_add, nI_sub (by omega), nI_and]
    have := Nat.and_le_left (n := m) (m := m - 1)
    rw [ih (c + 1) _ f (by omega) (by omega) (by omega) (by omega)]
    congr 2; omega
theorem bs_le : ∀ k m, bs k m ≤ k := by
  intro k
  induction k with
  | zero => intro m; exact Nat.le_refl _
  | succ k ih => intro m; have := ih (m / 2); show m % 2 + bs k (m / 2) ≤ k + 1; omega
theorem M_membersN {m : Nat} (h : m < 65536) : p10_members (nI m) = some (nI (bs 16 m)) := by
  have := bs_le 16 m
  unfold p10_members
  rw [n0, M_membersL _ 0 m FU h (by omega) rfl (by show bs 16 m < 1024; omega), Nat.zero_add]
  rfl
theorem bs_cnt : ∀ k m, cnt (fun q => m.testBit q) k = bs k m := by
  intro k
  induction k with
  | zero => intro m; rfl
  | succ k ih =>
    intro m
    rw [cnt_sm, sm_front]
    unfold bs
    rw [← ih (m / 2), cnt_sm]
    have h0 : (if m.testBit 0 = true then 1 else 0) = m % 2 := by
      rw [Nat.testBit_zero]
      by_cases e : m % 2 = 1
      · rw [if_pos (by simpa using e), e]
      · rw [if_neg (by simpa using e)]; omega
    rw [h0]
    congr 1
    refine sm_congr fun i _ => ?_
    rw [Nat.testBit_succ]
theorem mkm_nI (f : Nat → Bool) : ∃ m, m < 65536 ∧ mkm f = nI m ∧ bs 16 m = cnt f 16 := by
  have hb : ∀ q, (mkm f).toBitVec.toNat.testBit q = (decide (q < 16) && f q) := fun q => bt_mkm f q
  refine ⟨(mkm f).toBitVec.toNat, ?_, ?_, ?_⟩
  · refine Nat.lt_pow_two_of_testBit (n := 16) _ fun i hi => ?_
    rw [hb, decide_eq_false (by omega), Bool.false_and]
  · refine Int32.toBitVec_inj.mp (BitVec.eq_of_toNat_eq ?_)
    show _ = (BitVec.ofNat 32 (mkm f).toBitVec.toNat).toNat
    rw [BitVec.toNat_ofNat, Nat.mod_eq_of_lt (mkm f).toBitVec.isLt]
  · rw [← bs_cnt]
    refine cnt_congr fun i hi => ?_
    rw [hb, decide_eq_true hi, Bool.true_and]
theorem X_count (f : Nat → Bool) : pJ_bitCount (mkm f) = nI (cnt f 16) := by
  obtain ⟨m, h1, h2, h3⟩ := mkm_nI f
  rw [h2, X_bitCount h1, h3]
theorem M_count (f : Nat → Bool) : p10_members (mkm f) = some (nI (cnt f 16)) := by
  obtain ⟨m, h1, h2, h3⟩ := mkm_nI f
  rw [h2, M_membersN h1, h3]
