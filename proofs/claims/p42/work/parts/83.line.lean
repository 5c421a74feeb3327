/-! a line by its number -/
def colF (n u : Nat) (pr a b g lc : Nat → Nat) (bx : Nat → Nat → Nat) : Nat → Nat := call n u pr a b g lc bx (rowsN g n) (fun _ => 0)
def lnS (n u : Nat) (pr a b g lc : Nat → Nat) (lt : Nat → Nat → Nat) (bx : Nat → Nat → Nat) (v : Nat) : Nat × (Nat → Int32) :=
  if v % 3 = 0 then rowL a b g lc (colF n u pr a b g lc bx) lt bx (v / 3) (sz n u a b g (v / 3)) (0, fun _ => 32)
  else if v % 3 = 1 then umk a b g lc (colF n u pr a b g lc bx) (v / 3) u (0, fun _ => 32)
  else pmk pr a b g lc (colF n u pr a b g lc bx) (v / 3) n (0, fun _ => 32)
/-- the class's line between two prints: blank behind its length -/
def LB (line : Nat → Int32) (len : Int32) : Prop := ∃ m, m ≤ 400 ∧ len = nI m ∧ ∀ c, m ≤ c → c < 400 → line c = 32
theorem nI_mod3 {v : Nat} (hv : v < 1073741824) : nI v - nI v / 3 * 3 = nI (v % 3) := by
  rw [n3, nI_div hv (by omega), nI_mul, nI_sub (by omega)]
  congr 1
  omega
section LINE
variable {n u : Nat} {pr a b g lc : Nat → Nat} {lt : Nat → Nat → Nat} {an : Nat → Nat → Bool} {fam : Nat → Int64} {pu fp sp ge am lv rf od rs po fb sb rS bA lA fc mc cA line letters : Nat → Int32} {len : Int32} {pl : Nat → Nat} {bx : Nat → Nat → Nat} {s : Nat × (Nat → Int32)} {N : Nat}
theorem X4_clear (h : LB line len) : ∃ line', p4_clearLine len line = some (line', 0) ∧ LN 400 (0, fun _ => 32) line' 0 := by
  obtain ⟨m, hm, rfl, hb⟩ := h
  obtain ⟨z, e1, e2⟩ := loop_all (fun t i (z : Nat → Int32) => p4_clearLine_L2 (nI m) t (nI i) z) m
    (fun i z => ∀ c, c < 400 → (c < i ∨ m ≤ c) → z c = 32) (fun z => ∀ c, c < 400 → z c = 32) (by
      intro t z hz
      refine ⟨z, ?_, fun c hc => hz c hc (by omega)⟩
      try dsimp only
      rw [p4_clearLine_L2, p4_clearLine_L2_B, if_pos (nI_le (Nat.le_refl _) (by omega))]) (by
      intro t i z hi hz
      refine ⟨upd z i 32, ?_, fun c hc hcc => ?_⟩
      · try dsimp only
        rw [p4_clearLine_L2, p4_clearLine_L2_B, if_neg (nI_ge hi (by omega)), put_in (by omega) (by omega)]
        simp only [lb]
        rw [n1, nI_add]
      · by_cases e : c = i
        · rw [e, upd_eq]
        · rw [upd_ne e]; exact hz c hc (by omega)) FU 0 line (Nat.zero_le _) (by show m - 0 < 1024; omega) (fun c hc hcc => hb c (by omega) hc)
  try dsimp only at e1
  refine ⟨z, ?_, rfl, e2⟩
  unfold p4_clearLine
  rw [n0, e1]
  rfl
theorem BLK0 : BLK ((0, fun _ => 32) : Nat × (Nat → Int32)) := fun _ _ => rfl
theorem BLK_bxl (h : BLK s) {l : Nat → Nat} {m : Bool} {c k : Nat} : BLK (bxl l m c k s) := by
  intro j hj
  have hj2 : max s.1 (c + k + 2) ≤ j := hj
  unfold bxl
  dsimp only
  rw [if_neg (by omega), if_neg (by omega), if_neg (by omega)]
  exact h j (by omega)
theorem dn_all (W : WF n u pr a b g) {x : Nat} (hx : x < 28) (ht : th n u a b g x = true) : dn n u a b g pl (rowsN g n) 0 x := ⟨hx, ht, Or.inl (th_row W ht)⟩
theorem colF_le (W : WF n u pr a b g) (hlc : ∀ p, p < n → lc p ≤ 8) (L : LAY n u a b g pl bx) : ∀ x, x < 28 → th n u a b g x = true → colF n u pr a b g lc bx x + lc (pp a b g x) + 3 ≤ 308 := by
  intro x hx ht
  have := call_lt (c := fun _ => 0) W hlc L hx ht
  unfold colF
  unfold wd at this
  omega
theorem mdF_le (W : WF n u pr a b g) (hlc : ∀ p, p < n → lc p ≤ 8) (L : LAY n u a b g pl bx) {x : Nat} (hx : x < 28) (ht : th n u a b g x = true) : mdc a b g lc (colF n u pr a b g lc bx) x ≤ 308 := by
  have := colF_le W hlc L x hx ht
  unfold mdc wd
  omega
theorem ucF_le (W : WF n u pr a b g) (hlc : ∀ p, p < n → lc p ≤ 8) (L : LAY n u a b g pl bx) : ∀ w, w < u → ucl a b g lc (colF n u pr a b g lc bx) w ≤ 308 := by
  intro w hw
  obtain ⟨a1, a2, a3⟩ := bxa_ok W hw
  obtain ⟨b1, b2, b3⟩ := bxb_ok W hw
  have h1 := mdF_le (lc := lc) W hlc L a1 a2
  have h2 := mdF_le (lc := lc) W hlc L b1 b2
  unfold ucl
  omega
end LINE
