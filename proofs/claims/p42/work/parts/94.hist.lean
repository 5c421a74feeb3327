/-! states that are kept: persons, unions, order -/
def PC (n : Nat) (lc : Nat → Nat) (lt : Nat → Nat → Nat) : Prop := (∀ p, p < n → lc p ≤ 8) ∧ ∀ p, p < n → ∀ i, i < 8 → lt p i < 27 ∧ 1 ≤ lt p i
def PX (n : Nat) (lc : Nat → Nat) (lt : Nat → Nat → Nat) (yr : Nat → Int32) (lA letters py : Nat → Int32) : Prop := LCX n lc lA ∧ LTX n lc lt letters ∧ ∀ p, p < n → py p = yr p
def PM (n : Nat) (lc : Nat → Nat) (lt : Nat → Nat → Nat) (yr : Nat → Int32) (fam : Nat → Int64) : Prop := LCM n lc fam ∧ NMM n lc lt fam ∧ ∀ p, p < n → fam (2 + 4 * p) = (yr p).toInt64
def US (n u : Nat) (pr a b g : Nat → Nat) (an : Nat → Nat → Bool) (pl : Nat → Nat) (bx : Nat → Nat → Nat) : Prop := WF n u pr a b g ∧ ANC n pr a b an ∧ LAY n u a b g pl bx
def UX (n u : Nat) (pr a b g : Nat → Nat) (an : Nat → Nat → Bool) (uy : Nat → Int32) (pl : Nat → Nat) (bx : Nat → Nat → Nat) (pu fp sp uY ge am lv rf od rs po fb sb : Nat → Int32) : Prop :=
  FX n u pr a b pu fp sp ∧ (∀ w, w < u → uY w = uy w) ∧ RF n u a b g an ge am lv rf ∧ RX n u a b g pl bx od rs po fb sb
def UM (n u : Nat) (pr a b g : Nat → Nat) (uy : Nat → Int32) (pl : Nat → Nat) (fam : Nat → Int64) : Prop :=
  MX n u pr a b fam ∧ PLM n u a b g pl fam ∧ ∀ w, w < u → fam (66 + 3 * w + 2) = (uy w).toInt64
theorem lb_eq {α β : Type} (a : α) (k : α → β) : lb a k = k a := id rfl
/-- a state in the class's cells, from o on -/
def CBK (n u : Nat) (pr a b g : Nat → Nat) (uy : Nat → Int32) (bx : Nat → Nat → Nat) (hc : Nat → Int32) (o : Nat) : Prop :=
  hc o = nI u ∧ (∀ w, w < u → hc (o + 1 + w) = nI (a w) ∧ hc (o + 13 + w) = nI (b w) ∧ hc (o + 25 + w) = uy w) ∧ (∀ p, p < n → hc (o + 37 + p) = oN (pr p)) ∧
  ∀ r k, r < rowsN g n → k < sz n u a b g r → hc (o + 53 + (st n u a b g r + k)) = nI (bx r k)
/-- the same state on both sides -/
def SAV (n : Nat) (lc : Nat → Nat) (lt : Nat → Nat → Nat) (yr : Nat → Int32) (hc : Nat → Int32) (o : Nat) (fam : Nat → Int64) : Prop :=
  ∃ u pr a b g an uy pl bx, US n u pr a b g an pl bx ∧ CBK n u pr a b g uy bx hc o ∧ UM n u pr a b g uy pl fam ∧ PM n lc lt yr fam
def HIS (n : Nat) (lc : Nat → Nat) (lt : Nat → Nat → Nat) (yr : Nat → Int32) (hc : Nat → Int32) (next held : Int32) (mh : Nat → Int64) (uc : Int32) : Prop :=
  ∃ h x, h ≤ 10 ∧ x < 10 ∧ held = nI h ∧ uc = nI h ∧ next = nI x ∧ ∀ i, i < h → SAV n lc lt yr hc ((x + 9 - i) % 10 * 81) (fun k => mh (130 * (h - 1 - i) + k))
def SNP (n : Nat) (lc : Nat → Nat) (lt : Nat → Nat → Nat) (yr : Nat → Int32) (hc : Nat → Int32) (kept : Bool) (ms : Nat → Int64) (has : Bool) : Prop :=
  has = kept ∧ (kept = true → SAV n lc lt yr hc 810 ms)
section HIST
variable {n u : Nat} {pr a b g lc : Nat → Nat} {lt : Nat → Nat → Nat} {an : Nat → Nat → Bool} {yr uy : Nat → Int32} {pl : Nat → Nat} {bx : Nat → Nat → Nat} {fam mh ms : Nat → Int64} {pu fp sp uY ge am lv rf od rs po fb sb hc : Nat → Int32}
theorem X2_save (W : WF n u pr a b g) (X : UX n u pr a b g an uy pl bx pu fp sp uY ge am lv rf od rs po fb sb) {o : Nat} (ho : o + 81 ≤ 891) :
    ∃ hc', p2_save (nI u) fp pu sp uY hc od (nI o) = some hc' ∧ CBK n u pr a b g uy bx hc' o ∧ ∀ k, (k < o ∨ o + 81 ≤ k) → hc' k = hc k := by
  have hn := W.n16
  have hu := W.u12
  obtain ⟨F, hY, -, R⟩ := X
  obtain ⟨h1, e1, a1, b1⟩ := X9_copy (n := 12) (m := 891) (i := 0) (j := o + 1) (c := 12) (f := fp) (t := upd hc o (nI u)) (by omega) (by omega) (by omega) (by omega) (by omega)
  obtain ⟨h2, e2, a2, b2⟩ := X9_copy (n := 12) (m := 891) (i := 0) (j := o + 13) (c := 12) (f := sp) (t := h1) (by omega) (by omega) (by omega) (by omega) (by omega)
  obtain ⟨h3, e3, a3, b3⟩ := X9_copy (n := 12) (m := 891) (i := 0) (j := o + 25) (c := 12) (f := uY) (t := h2) (by omega) (by omega) (by omega) (by omega) (by omega)
  obtain ⟨h4, e4, a4, b4⟩ := X9_copy (n := 16) (m := 891) (i := 0) (j := o + 37) (c := 16) (f := pu) (t := h3) (by omega) (by omega) (by omega) (by omega) (by omega)
  obtain ⟨h5, e5, a5, b5⟩ := X9_copy (n := 28) (m := 891) (i := 0) (j := o + 53) (c := 28) (f := od) (t := h4) (by omega) (by omega) (by omega) (by omega) (by omega)
  refine ⟨h5, ?_, ⟨?_, fun w hw => ⟨?_, ?_, ?_⟩, fun p hp => ?_, fun r k hr hk => ?_⟩, fun k hk => ?_⟩
  · unfold p2_save
    rw [put_in (by omega) (by omega)]
    simp only [lb_eq]
    rw [n0, n1, n12, n16, nI_add, e1]
    simp only [ob]
    rw [nI_add, show o + 1 + 12 = o + 13 by omega, e2]
    simp only []
    rw [nI_add, show o + 13 + 12 = o + 25 by omega, e3]
    simp only []
    rw [nI_add, show o + 25 + 12 = o + 37 by omega, e4]
    simp only []
    unfold p7_saveOrder
    rw [nI_add, show o + 37 + 16 = o + 53 by omega, n0, n28, e5]
    simp only [ob]
  · rw [b5 _ (by omega), b4 _ (by omega), b3 _ (by omega), b2 _ (by omega), b1 _ (by omega), upd_eq]
  · rw [b5 _ (by omega), b4 _ (by omega), b3 _ (by omega), b2 _ (by omega), a1 _ (by omega), Nat.zero_add]
    exact (F.2 w hw).1
  · rw [b5 _ (by omega), b4 _ (by omega), b3 _ (by omega), a2 _ (by omega), Nat.zero_add]
    exact (F.2 w hw).2
  · rw [b5 _ (by omega), b4 _ (by omega), a3 _ (by omega), Nat.zero_add]
    exact hY w hw
  · rw [b5 _ (by omega), a4 _ (by omega), Nat.zero_add]
    exact F.1 p hp
  · have := place_lt W hr hk
    rw [a5 _ (by omega), Nat.zero_add]
    exact R.2.1 r k hr hk
  · rw [b5 _ (by omega), b4 _ (by omega), b3 _ (by omega), b2 _ (by omega), b1 _ (by omega), upd_ne (by omega)]
theorem X2_bring {u0 : Int32} (U : US n u pr a b g an pl bx) {o : Nat} (ho : o + 81 ≤ 891) (C : CBK n u pr a b g uy bx hc o) :
    ∃ am' fp' ge' lv' pu' rf' sp' uY' fb' od' po' rs' sb', p2_bring (nI n) am fp ge lv pu rf sp uY hc fb od po rs sb (nI o) = some (am', fp', ge', lv', pu', rf', nI (rowsN g n), sp', nI u, uY', fb', od', po', rs', sb') ∧
      UX n u pr a b g an uy pl bx pu' fp' sp' uY' ge' am' lv' rf' od' rs' po' fb' sb' := by
  obtain ⟨W, AN, L⟩ := U
  obtain ⟨c1, c2, c3, c4⟩ := C
  have hn := W.n16
  have hu := W.u12
  obtain ⟨fp', e1, a1, -⟩ := X9_copy (n := 891) (m := 12) (i := o + 1) (j := 0) (c := 12) (f := hc) (t := fp) (by omega) (by omega) (by omega) (by omega) (by omega)
  obtain ⟨sp', e2, a2, -⟩ := X9_copy (n := 891) (m := 12) (i := o + 13) (j := 0) (c := 12) (f := hc) (t := sp) (by omega) (by omega) (by omega) (by omega) (by omega)
  obtain ⟨uY', e3, a3, -⟩ := X9_copy (n := 891) (m := 12) (i := o + 25) (j := 0) (c := 12) (f := hc) (t := uY) (by omega) (by omega) (by omega) (by omega) (by omega)
  obtain ⟨pu', e4, a4, -⟩ := X9_copy (n := 891) (m := 16) (i := o + 37) (j := 0) (c := 16) (f := hc) (t := pu) (by omega) (by omega) (by omega) (by omega) (by omega)
  have F : FX n u pr a b pu' fp' sp' := by
    refine ⟨fun p hp => ?_, fun w hw => ⟨?_, ?_⟩⟩
    · have := a4 p (by omega)
      rw [Nat.zero_add] at this
      rw [this]; exact c3 p hp
    · have := a1 w (by omega)
      rw [Nat.zero_add] at this
      rw [this]; exact (c2 w hw).1
    · have := a2 w (by omega)
      rw [Nat.zero_add] at this
      rw [this]; exact (c2 w hw).2.1
  obtain ⟨am', ge', lv', rf', e5, R⟩ := X1_refresh (am := am) (ge := ge) (lv := lv) (rf := rf) W AN F
  obtain ⟨fb', od1, po1, rs', sb', e6, RX1⟩ := X7_layPlain (fb := fb) (od := od) (po := po) (rs := rs) (sb := sb) W F R
  obtain ⟨od', e7, a7, -⟩ := X9_copy (n := 891) (m := 28) (i := o + 53) (j := 0) (c := 28) (f := hc) (t := od1) (by omega) (by omega) (by omega) (by omega) (by omega)
  have O : ORX n u a b g bx od' := by
    intro r k hr hk
    have h1 := place_lt W hr hk
    have h2 := a7 (st n u a b g r + k) h1
    rw [Nat.zero_add] at h2
    rw [h2]; exact c4 r k hr hk
  obtain ⟨po', e8, P⟩ := X7_notePlaces (po := po1) W RX1.1 O L
  refine ⟨am', fp', ge', lv', pu', rf', sp', uY', fb', od', po', rs', sb', ?_, F, fun w hw => ?_, R, RX1.1, O, P, RX1.2.2.2⟩
  · unfold p2_bring
    rw [at_in (by omega) (by omega), c1]
    simp only [lb_eq]
    rw [n0, n1, n12, n16, nI_add, e1]
    simp only [ob]
    rw [nI_add, show o + 1 + 12 = o + 13 by omega, e2]
    simp only []
    rw [nI_add, show o + 13 + 12 = o + 25 by omega, e3]
    simp only []
    rw [nI_add, show o + 25 + 12 = o + 37 by omega, e4]
    simp only []
    rw [e5]
    simp only [uc5]
    unfold p7_bringOrder
    rw [e6]
    simp only [ob, uc5]
    rw [nI_add, show o + 37 + 16 = o + 53 by omega, n0, n28, e7]
    simp only []
    rw [e8]
  · have := a3 w (by omega)
    rw [Nat.zero_add] at this
    rw [this]; exact (c2 w hw).2.2
end HIST
