/-! swap, improve, arrange -/
def impN (n u : Nat) (pr a b g : Nat → Nat) : Nat → Nat × (Nat → Nat) × (Nat → Nat → Nat) → Nat × (Nat → Nat) × (Nat → Nat → Nat)
  | 0, s => s
  | m + 1, s => if (impA n u pr a b g (rowsN g n) (0, s.2)).1 = 0 then (s.1, (impA n u pr a b g (rowsN g n) (0, s.2)).2)
      else impN n u pr a b g m (s.1 + (impA n u pr a b g (rowsN g n) (0, s.2)).1, (impA n u pr a b g (rowsN g n) (0, s.2)).2)
section OPSC
variable {n u : Nat} {pr a b g lc : Nat → Nat} {lt : Nat → Nat → Nat} {an : Nat → Nat → Bool} {yr uy : Nat → Int32} {pl : Nat → Nat} {bx : Nat → Nat → Nat} {fam fam' mh ms : Nat → Int64} {pu fp sp uY ge am lv rf od rs po fb sb hc hc' bA gM lM ro rS ks : Nat → Int32} {it : Nat → Bool} {next held uc rc R uH : Int32} {kept has : Bool}
theorem impA_le (r : Nat) (s : Nat × (Nat → Nat) × (Nat → Nat → Nat)) : (impA n u pr a b g r s).1 ≤ s.1 + r * 28 := by
  have h1 : ∀ r k s, (impR n u pr a b g r k s).1 ≤ s.1 + k := by
    intro r k
    induction k with
    | zero => intro s; exact Nat.le_refl _
    | succ k ih =>
      intro s
      have h := ih s
      show (imp1 n u pr a b g r k (impR n u pr a b g r k s)).1 ≤ s.1 + (k + 1)
      unfold imp1
      split
      · show (impR n u pr a b g r k s).1 + 1 ≤ _
        omega
      · omega
  induction r with
  | zero => show s.1 ≤ _; omega
  | succ r ih =>
    have h := h1 r (sz n u a b g r - 1) (impA n u pr a b g r s)
    have h2 : sz n u a b g r ≤ 28 := cnt_le _ _
    show (impR n u pr a b g r (sz n u a b g r - 1) (impA n u pr a b g r s)).1 ≤ _
    omega
theorem impN_LAY : ∀ m (s : Nat × (Nat → Nat) × (Nat → Nat → Nat)), LAY n u a b g s.2.1 s.2.2 → LAY n u a b g (impN n u pr a b g m s).2.1 (impN n u pr a b g m s).2.2 := by
  intro m
  induction m with
  | zero => exact fun s h => h
  | succ m ih =>
    intro s h
    have h1 := impA_LAY (n := n) (u := u) (pr := pr) (a := a) (b := b) (g := g) (s := (0, s.2)) h (r := rowsN g n)
    unfold impN
    split
    · exact h1
    · exact ih _ h1
theorem X9_impL (W : WF n u pr a b g) (F : FX n u pr a b pu fp sp) (hl : ∀ w, w < u → lv w = nI (lw a b g w)) {v : Nat} (hv : v ≤ 5) :
    ∀ m i (s : Nat × (Nat → Nat) × (Nat → Nat → Nat)) (od po : Nat → Int32) (fuel : Nat), i + m = v → m < fuel → RX n u a b g s.2.1 s.2.2 od rs po fb sb → LAY n u a b g s.2.1 s.2.2 →
      ∃ od' po', p9_improve_L31 lv pu (nI (rowsN g n)) (nI u) fb rs sb (nI v) fuel (nI s.1) (nI i) od po = some (nI (impN n u pr a b g m s).1, od', po') ∧ RX n u a b g (impN n u pr a b g m s).2.1 (impN n u pr a b g m s).2.2 od' rs po' fb sb := by
  have hR := rows16 W
  intro m
  induction m with
  | zero =>
    intro i s od po fuel him hf RR L
    obtain ⟨k, rfl⟩ : ∃ j, fuel = j + 1 := ⟨fuel - 1, by omega⟩
    refine ⟨od, po, ?_, RR⟩
    rw [p9_improve_L31, p9_improve_L31_B, if_pos (nI_le (by omega) (by omega))]
    rfl
  | succ m ih =>
    intro i s od po fuel him hf RR L
    obtain ⟨k, rfl⟩ : ∃ j, fuel = j + 1 := ⟨fuel - 1, by omega⟩
    obtain ⟨od1, po1, e1, R1⟩ := X7_improve W F hl RR L
    have L1 := impA_LAY (n := n) (u := u) (pr := pr) (a := a) (b := b) (g := g) (s := (0, s.2)) L (r := rowsN g n)
    have hle := impA_le (n := n) (u := u) (pr := pr) (a := a) (b := b) (g := g) (rowsN g n) (0, s.2)
    rw [p9_improve_L31, p9_improve_L31_B, if_neg (nI_ge (by omega) (by omega)), e1]
    simp only [ob, uc3]
    have es : ((0 : Nat), s.2.1, s.2.2) = (0, s.2) := rfl
    rw [es] at *
    unfold impN
    by_cases c : (impA n u pr a b g (rowsN g n) (0, s.2)).1 = 0
    · rw [if_pos c, c, show (0 : Int32) = nI 0 from rfl, if_pos rfl]
      exact ⟨od1, po1, rfl, R1⟩
    · rw [if_neg c, show (0 : Int32) = nI 0 from rfl, if_neg (fun q => c ((nI_eq (by dsimp only at hle; omega) (by omega)).mp q))]
      simp only [lb_eq]
      rw [nI_add, n1, nI_add]
      exact ih (i + 1) (s.1 + (impA n u pr a b g (rowsN g n) (0, s.2)).1, (impA n u pr a b g (rowsN g n) (0, s.2)).2) od1 po1 k (by omega) (by omega) R1 L1
theorem MPS.UM (V : UM n u pr a b g uy pl fam) (hu : u ≤ 12) {pl' : Nat → Nat} {bx' : Nat → Nat → Nat} (M : MPS n u pr a b g pl' bx' fam bA fam') : UM n u pr a b g uy pl' fam' :=
  ⟨M.2.2.1, M.2.1, fun w hw => by rw [M.2.2.2 _ (by omega)]; exact V.2.2 w hw⟩
end OPSC
