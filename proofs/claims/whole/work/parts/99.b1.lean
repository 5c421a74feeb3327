/-! floats: what comes out is a number -/
abbrev FC64 : Jvm.FP.Core.Fmt := Jvm.FP.Core.b64
abbrev FC32 : Jvm.FP.Core.Fmt := Jvm.FP.Core.b32
def finz (d : Jvm.FP.Core.Datum) : Bool := match d with | .fin _ d _ => d != 0 | _ => false
def okd (f : Jvm.FP.Core.Fmt) (d : Jvm.FP.Core.Datum) : Prop := match d with | .nan => False | .inf _ => True | .fin _ c q => c < 2 ^ f.p ∧ q ≤ f.qmax
theorem okd_settle {f : Jvm.FP.Core.Fmt} (ht : f.tails < 2 ^ f.p) (s : Bool) (c : Nat) (q : Int) : okd f (Jvm.FP.Core.settle f s c q) := by
  unfold Jvm.FP.Core.settle Jvm.FP.Core.bound
  split
  · split
    · exact ⟨by assumption, by assumption⟩
    · exact trivial
  · split
    · exact ⟨ht, by assumption⟩
    · exact trivial
theorem okd_ratio {f : Jvm.FP.Core.Fmt} (ht : f.tails < 2 ^ f.p) (hq : f.qmin ≤ f.qmax) (s : Bool) (a b : Nat) (e : Int) : okd f (Jvm.FP.Core.roundRatio f s a b e) := by
  unfold Jvm.FP.Core.roundRatio
  split
  · exact ⟨by omega, hq⟩
  · exact okd_settle ht _ _ _
theorem okd_quot {f : Jvm.FP.Core.Fmt} (ht : f.tails < 2 ^ f.p) (hq : f.qmin ≤ f.qmax) {x y : Jvm.FP.Core.Datum} (hx : x ≠ .nan) (hy : finz y = true) : okd f (Jvm.FP.Core.quotient f x y) := by
  cases y with
  | nan => exact Bool.noConfusion hy
  | inf t => exact Bool.noConfusion hy
  | fin t d r =>
    have hd : d ≠ 0 := by
      intro q
      rw [q] at hy
      exact Bool.noConfusion (show false = true from hy)
    cases x with
    | nan => exact absurd rfl hx
    | inf s => exact trivial
    | fin s c q =>
      show okd f (if d = 0 then (if c = 0 then .nan else .inf (s != t)) else Jvm.FP.Core.roundRatio f (s != t) c d (q - r))
      rw [if_neg hd]
      exact okd_ratio ht hq _ _ _ _
theorem okd_round {f : Jvm.FP.Core.Fmt} (ht : f.tails < 2 ^ f.p) (hq : f.qmin ≤ f.qmax) {x : Jvm.FP.Core.Datum} (hx : x ≠ .nan) : okd f (Jvm.FP.Core.round f x) := by
  cases x with
  | nan => exact absurd rfl hx
  | inf s => exact trivial
  | fin s c q => exact okd_ratio ht hq _ _ _ _
theorem enc64 {d : Jvm.FP.Core.Datum} (h : okd FC64 d) : ∃ s low, s < 2 ∧ low ≤ 9218868437227405312 ∧ Jvm.FP.Core.encode FC64 d = s * 9223372036854775808 + low := by
  have e1 : FC64.exps = 2048 := by decide
  have e2 : FC64.tails = 4503599627370496 := by decide
  have e3 : FC64.qmin = -1074 := by decide
  have e4 : FC64.qmax = 971 := by decide
  have hs : ∀ s : Bool, s.toNat < 2 := fun s => by cases s <;> decide
  cases d with
  | nan => exact absurd h id
  | inf s =>
    refine ⟨s.toNat, 9218868437227405312, hs s, Nat.le_refl _, ?_⟩
    show (s.toNat * FC64.exps + (FC64.exps - 1)) * FC64.tails + 0 = _
    rw [e1, e2]; omega
  | fin s c q =>
    obtain ⟨h1, h2⟩ := h
    have h1' : c < 9007199254740992 := h1
    rw [e4] at h2
    show ∃ s' low, s' < 2 ∧ low ≤ 9218868437227405312 ∧ (if c < FC64.tails then (s.toNat * FC64.exps + 0) * FC64.tails + c else (s.toNat * FC64.exps + ((q - FC64.qmin).toNat + 1)) * FC64.tails + (c - FC64.tails)) = s' * 9223372036854775808 + low
    rw [e1, e2, e3]
    split
    · exact ⟨s.toNat, c, hs s, by omega, by omega⟩
    · exact ⟨s.toNat, ((q - -1074).toNat + 1) * 4503599627370496 + (c - 4503599627370496), hs s, by omega, by omega⟩
theorem enc32 {d : Jvm.FP.Core.Datum} (h : okd FC32 d) : ∃ s low, s < 2 ∧ low ≤ 2139095040 ∧ Jvm.FP.Core.encode FC32 d = s * 2147483648 + low := by
  have e1 : FC32.exps = 256 := by decide
  have e2 : FC32.tails = 8388608 := by decide
  have e3 : FC32.qmin = -149 := by decide
  have e4 : FC32.qmax = 104 := by decide
  have hs : ∀ s : Bool, s.toNat < 2 := fun s => by cases s <;> decide
  cases d with
  | nan => exact absurd h id
  | inf s =>
    refine ⟨s.toNat, 2139095040, hs s, Nat.le_refl _, ?_⟩
    show (s.toNat * FC32.exps + (FC32.exps - 1)) * FC32.tails + 0 = _
    rw [e1, e2]; omega
  | fin s c q =>
    obtain ⟨h1, h2⟩ := h
    have h1' : c < 16777216 := h1
    rw [e4] at h2
    show ∃ s' low, s' < 2 ∧ low ≤ 2139095040 ∧ (if c < FC32.tails then (s.toNat * FC32.exps + 0) * FC32.tails + c else (s.toNat * FC32.exps + ((q - FC32.qmin).toNat + 1)) * FC32.tails + (c - FC32.tails)) = s' * 2147483648 + low
    rw [e1, e2, e3]
    split
    · exact ⟨s.toNat, c, hs s, by omega, by omega⟩
    · exact ⟨s.toNat, ((q - -149).toNat + 1) * 8388608 + (c - 8388608), hs s, by omega, by omega⟩
theorem dec64 {s low : Nat} (h : low ≤ 9218868437227405312) : Jvm.FP.Core.decode FC64 (s * 9223372036854775808 + low) ≠ .nan := by
  have e1 : FC64.exps = 2048 := by decide
  have e2 : FC64.tails = 4503599627370496 := by decide
  unfold Jvm.FP.Core.decode Jvm.FP.Core.fieldE Jvm.FP.Core.fieldT
  rw [e1, e2]
  split
  · rw [if_pos (by omega)]; intro q; cases q
  · split
    · intro q; cases q
    · intro q; cases q
theorem dec32 {s low : Nat} (h : low ≤ 2139095040) : Jvm.FP.Core.decode FC32 (s * 2147483648 + low) ≠ .nan := by
  have e1 : FC32.exps = 256 := by decide
  have e2 : FC32.tails = 8388608 := by decide
  unfold Jvm.FP.Core.decode Jvm.FP.Core.fieldE Jvm.FP.Core.fieldT
  rw [e1, e2]
  split
  · rw [if_pos (by omega)]; intro q; cases q
  · split
    · intro q; cases q
    · intro q; cases q
theorem ok64 : FC64.tails < 2 ^ FC64.p ∧ FC64.qmin ≤ FC64.qmax := by decide
theorem ok32 : FC32.tails < 2 ^ FC32.p ∧ FC32.qmin ≤ FC32.qmax := by decide
/-- the bits of a datum of the format that is no NaN -/
theorem num64 {d : Jvm.FP.Core.Datum} (h : okd FC64 d) : (UInt64.ofNat (Jvm.FP.Core.encode FC64 d)) &&& 0x7fffffffffffffff ≤ 0x7ff0000000000000 ∧ Jvm.FP.Core.decode FC64 (UInt64.ofNat (Jvm.FP.Core.encode FC64 d)).toNat ≠ .nan := by
  obtain ⟨s, low, h1, h2, h3⟩ := enc64 h
  rw [h3]
  have h4 : (UInt64.ofNat (s * 9223372036854775808 + low)).toNat = s * 9223372036854775808 + low := UInt64.toNat_ofNat_of_lt' (by show _ < 18446744073709551616; omega)
  refine ⟨?_, by rw [h4]; exact dec64 h2⟩
  rw [UInt64.le_iff_toNat_le, UInt64.toNat_and, h4]
  show (s * 9223372036854775808 + low) &&& (2 ^ 63 - 1) ≤ 9218868437227405312
  rw [Nat.and_two_pow_sub_one_eq_mod]
  omega
theorem num32 {d : Jvm.FP.Core.Datum} (h : okd FC32 d) : (UInt32.ofNat (Jvm.FP.Core.encode FC32 d)) &&& 0x7fffffff ≤ 0x7f800000 ∧ Jvm.FP.Core.decode FC32 (UInt32.ofNat (Jvm.FP.Core.encode FC32 d)).toNat ≠ .nan := by
  obtain ⟨s, low, h1, h2, h3⟩ := enc32 h
  rw [h3]
  have h4 : (UInt32.ofNat (s * 2147483648 + low)).toNat = s * 2147483648 + low := UInt32.toNat_ofNat_of_lt' (by show _ < 4294967296; omega)
  refine ⟨?_, by rw [h4]; exact dec32 h2⟩
  rw [UInt32.le_iff_toNat_le, UInt32.toNat_and, h4]
  show (s * 2147483648 + low) &&& (2 ^ 31 - 1) ≤ 2139095040
  rw [Nat.and_two_pow_sub_one_eq_mod]
  omega
theorem l2d_num (r : Int64) : Jvm.FP.Core.decode FC64 (FP.l2d r).toNat ≠ .nan := (num64 (okd_round ok64.1 ok64.2 (by intro q; cases q))).2
theorem i2f_num (r : Int32) : Jvm.FP.Core.decode FC32 (FP.i2f r).toNat ≠ .nan := (num32 (okd_round ok32.1 ok32.2 (by intro q; cases q))).2
theorem fin64 : ∀ u, u < 13 → (u == 0 || finz (Jvm.FP.Core.decode FC64 (FP.l2d (lN (u * 549755813888))).toNat)) = true := by decide +kernel
theorem fin32 : ∀ u, u < 29 → (u == 0 || finz (Jvm.FP.Core.decode FC32 (FP.i2f (nI u)).toNat)) = true := by decide +kernel
theorem gn64_div {α : Type} (r : Int64) {u : Nat} (h0 : 0 < u) (h : u < 13) (k : Option α) : gn64 (FP.ddiv (FP.l2d r) (FP.l2d (lN (u * 549755813888)))) k = k := by
  have hf := fin64 u h
  rw [show (u == 0) = false from beq_eq_false_iff_ne.mpr (by omega), Bool.false_or] at hf
  exact if_pos (num64 (okd_quot ok64.1 ok64.2 (l2d_num r) hf)).1
theorem fdiv_num (r : Int32) {u : Nat} (h0 : 0 < u) (h : u < 29) : okd FC32 (Jvm.FP.Core.quotient FC32 (Jvm.FP.Core.decode FC32 (FP.i2f r).toNat) (Jvm.FP.Core.decode FC32 (FP.i2f (nI u)).toNat)) := by
  have hf := fin32 u h
  rw [show (u == 0) = false from beq_eq_false_iff_ne.mpr (by omega), Bool.false_or] at hf
  exact okd_quot ok32.1 ok32.2 (i2f_num r) hf
theorem gn32_div {α : Type} (r : Int32) {u : Nat} (h0 : 0 < u) (h : u < 29) (k : Option α) : gn32 (FP.fdiv (FP.i2f r) (FP.i2f (nI u))) k = k := by
  exact if_pos (num32 (fdiv_num r h0 h)).1
theorem gn64_f2d {α : Type} (r : Int32) {u : Nat} (h0 : 0 < u) (h : u < 29) (k : Option α) : gn64 (FP.f2d (FP.fdiv (FP.i2f r) (FP.i2f (nI u)))) k = k := by
  have h2 := (num32 (fdiv_num r h0 h)).2
  have hn : Jvm.FP.Core.fIsNaN (FP.fdiv (FP.i2f r) (FP.i2f (nI u))) = false := decide_eq_false h2
  have he : FP.f2d (FP.fdiv (FP.i2f r) (FP.i2f (nI u))) = Jvm.FP.Core.f2d (FP.fdiv (FP.i2f r) (FP.i2f (nI u))) := by
    unfold FP.f2d
    rw [hn]
    rfl
  rw [he]
  exact if_pos (num64 (okd_round ok64.1 ok64.2 h2)).1
theorem gn64_f0 {α : Type} (k : Option α) : gn64 (FP.f2d 0) k = k := by
  unfold gn64
  rw [if_pos (by decide +kernel)]
