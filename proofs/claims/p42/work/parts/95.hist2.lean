/-! record, undo, snapshot -/
/-- the family and its rows on both sides, n persons given -/
def FS (n : Nat) (lc : Nat → Nat) (lt : Nat → Nat → Nat) (yr : Nat → Int32) (uc rc : Int32) (pu fp sp uY ge am lv rf od rs po fb sb : Nat → Int32) (fam : Nat → Int64) : Prop :=
  ∃ u pr a b g an uy pl bx, uc = nI u ∧ rc = nI (rowsN g n) ∧ US n u pr a b g an pl bx ∧ UX n u pr a b g an uy pl bx pu fp sp uY ge am lv rf od rs po fb sb ∧ UM n u pr a b g uy pl fam ∧ PM n lc lt yr fam
section HISTB
variable {n u : Nat} {pr a b g lc : Nat → Nat} {lt : Nat → Nat → Nat} {an : Nat → Nat → Bool} {yr uy : Nat → Int32} {pl : Nat → Nat} {bx : Nat → Nat → Nat} {fam fam' mh ms : Nat → Int64} {pu fp sp uY ge am lv rf od rs po fb sb hc hc' : Nat → Int32} {next held uc rc : Int32} {kept has : Bool}
theorem UM.congr (V : UM n u pr a b g uy pl fam) (hn : n ≤ 16) (hu : u ≤ 12) (h : ∀ k, k < 130 → fam' k = fam k) : UM n u pr a b g uy pl fam' := by
  refine ⟨V.1.keep hn hu fun k hk => h k (by omega), fun x hx ht => ?_, fun w hw => ?_⟩
  · rw [h _ (by omega)]; exact V.2.1 x hx ht
  · rw [h _ (by omega)]; exact V.2.2 w hw
theorem PM.congr (V : PM n lc lt yr fam) (hn : n ≤ 16) (h : ∀ k, k < 66 → fam' k = fam k) : PM n lc lt yr fam' := by
  refine ⟨fun p hp => ?_, fun p hp => ?_, fun p hp => ?_⟩
  · rw [h _ (by omega)]; exact V.1 p hp
  · rw [h _ (by omega)]; exact V.2.1 p hp
  · rw [h _ (by omega)]; exact V.2.2 p hp
theorem CBK.congr (W : WF n u pr a b g) {o : Nat} (C : CBK n u pr a b g uy bx hc o) (h : ∀ k, o ≤ k → k < o + 81 → hc' k = hc k) : CBK n u pr a b g uy bx hc' o := by
  have hn := W.n16
  have hu := W.u12
  obtain ⟨c1, c2, c3, c4⟩ := C
  refine ⟨?_, fun w hw => ⟨?_, ?_, ?_⟩, fun p hp => ?_, fun r k hr hk => ?_⟩
  · rw [h _ (by omega) (by omega)]; exact c1
  · rw [h _ (by omega) (by omega)]; exact (c2 w hw).1
  · rw [h _ (by omega) (by omega)]; exact (c2 w hw).2.1
  · rw [h _ (by omega) (by omega)]; exact (c2 w hw).2.2
  · rw [h _ (by omega) (by omega)]; exact c3 p hp
  · have := place_lt W hr hk
    rw [h _ (by omega) (by omega)]; exact c4 r k hr hk
theorem SAV.congr {o : Nat} (S : SAV n lc lt yr hc o fam) (h1 : ∀ k, o ≤ k → k < o + 81 → hc' k = hc k) (h2 : ∀ k, k < 130 → fam' k = fam k) : SAV n lc lt yr hc' o fam' := by
  obtain ⟨u, pr, a, b, g, an, uy, pl, bx, U, C, V, P⟩ := S
  exact ⟨u, pr, a, b, g, an, uy, pl, bx, U, C.congr U.1 h1, V.congr U.1.n16 U.1.u12 h2, P.congr U.1.n16 fun k hk => h2 k (by omega)⟩
theorem nI_mod10 {v : Nat} (hv : v < 1073741824) : nI v - nI v / 10 * 10 = nI (v % 10) := by
  rw [n10, nI_div hv (by omega), nI_mul, nI_sub (by omega)]
  congr 1
  omega
end HISTB
