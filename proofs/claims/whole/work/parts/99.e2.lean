/-! the loop's numbers; the first state -/
theorem and63 (x : Int32) : ∃ k, k < 64 ∧ x &&& 63 = nI k := by
  refine ⟨(x.toBitVec &&& 63#32).toNat, ?_, ?_⟩
  · rw [BitVec.toNat_and]
    exact Nat.lt_of_le_of_lt Nat.and_le_right (by decide)
  · apply Int32.toBitVec_inj.mp
    show x.toBitVec &&& 63#32 = BitVec.ofNat 32 (x.toBitVec &&& 63#32).toNat
    rw [BitVec.ofNat_toNat, BitVec.setWidth_eq]
theorem len6 {nL i : Nat} (hn : nL ≤ 3072) (hi : i ≤ nL) : nI nL - 6 < nI i ↔ ¬ i + 6 ≤ nL := by
  by_cases c : 6 ≤ nL
  · rw [n6, nI_sub c]
    constructor
    · intro h q
      exact nI_nlt (a := nL - 6) (b := i) (by omega) (by omega) h
    · intro h
      exact nI_lt (by omega) (by omega)
  · have h : ∀ k, k < 6 → (nI k - 6).toInt < 0 := by decide +kernel
    have h1 := h nL (by omega)
    constructor
    · intro _ q; omega
    · intro _
      rw [Int32.lt_iff_toInt_lt, nI_toInt (by omega)]
      omega
theorem INV_first : INV 0 0 0 (fun _ => 0) (fun _ => 0) (fun _ => 0) (fun _ => 0) (fun _ => 0) (fun _ => 0) (fun _ => 0) (fun _ => 0) (fun _ => 0) (fun _ => 0) (fun _ => 0) (fun _ => 0) (fun _ => 0) (fun _ => 0) (fun _ => 0) (fun _ => 0) (fun _ => 0) (fun _ => 0) 0 0 (fun _ => 0) 0 false (fun _ => 0) false 0 0 (fun _ => 0) (fun _ => 0) (-1) (-1) (fun _ => 0) 400 (fun _ => 0) 0 (fun _ => 0) 0 := by
  have W : WF 0 0 (fun _ => 12) (fun _ => 0) (fun _ => 0) (fun _ => 0) := ⟨by omega, by omega, fun p hp => absurd hp (Nat.not_lt_zero _), fun p hp => absurd hp (Nat.not_lt_zero _), fun p hp => absurd hp (Nat.not_lt_zero _), fun p hp => absurd hp (Nat.not_lt_zero _)⟩
  have AN : ANC 0 (fun _ => 12) (fun _ => 0) (fun _ => 0) (fun _ _ => false) := fun p hp => absurd hp (Nat.not_lt_zero _)
  have hz : ∀ {P : Nat → Prop} (p : Nat), p < 0 → P p := fun p hp => absurd hp (Nat.not_lt_zero _)
  refine ⟨⟨0, fun _ => 0, fun _ _ => 1, fun _ => 0, rfl, ⟨hz, hz⟩, ⟨hz, hz, hz⟩, ⟨0, fun _ => 12, fun _ => 0, fun _ => 0, fun _ => 0, fun _ _ => false, fun _ => 0, ppl 0 0 (fun _ => 0) (fun _ => 0) (fun _ => 0), pbx 0 0 (fun _ => 0) (fun _ => 0) (fun _ => 0), rfl, rfl, ⟨W, AN, LAY.plain⟩, ⟨⟨hz, hz⟩, hz, ⟨hz, hz⟩, ?_⟩, ⟨⟨rfl, rfl, hz, hz⟩, ?_, hz⟩, ⟨hz, hz, hz⟩⟩, ⟨0, 0, by omega, by omega, rfl, rfl, rfl, hz⟩, ?_⟩, ⟨fun _ => 0, 0, rfl, rfl, by omega, hz⟩, rfl, ⟨400, by omega, rfl, fun c h1 h2 => by omega⟩, ⟨0, by omega, rfl, rfl, hz⟩⟩
  · have ht : ∀ x, th 0 0 (fun _ => 0) (fun _ => 0) (fun _ => 0) x = false := fun x => by
      unfold th
      simp
    refine ⟨fun r hr => ?_, fun r k hr => absurd hr (Nat.not_lt_zero _), fun x hx h => ?_, fun w hw => absurd hw (Nat.not_lt_zero _)⟩
    · have h0 : r = 0 := by
        have : r ≤ 0 := hr
        omega
      subst h0
      rfl
    · rw [ht x] at h
      exact Bool.noConfusion h
  · intro x hx ht
    have : th 0 0 (fun _ => 0) (fun _ => 0) (fun _ => 0) x = false := by
      unfold th
      simp
    rw [this] at ht
    exact Bool.noConfusion ht
  · exact ⟨rfl, fun q => Bool.noConfusion q⟩
