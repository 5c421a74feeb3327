/-! the law's own family, by its rows: parents, partners; generations, levels; orders -/
def OF (n u : Nat) (pr a b : Nat → Nat) (pn : Nat → Int32) (un : Nat → Nat → Int32) (nu : Nat) : Prop := (∀ p, p < n → pn p = oN (pr p)) ∧ nu = u ∧ ∀ w, w < u → un w 0 = nI (a w) ∧ un w 1 = nI (b w)
def OG (n u : Nat) (a b g : Nat → Nat) (ge lv : Nat → Int32) : Prop := (∀ p, p < n → ge p = nI (g p)) ∧ ∀ w, w < u → lv w = nI (lw a b g w)
def OO (n u : Nat) (a b g : Nat → Nat) (bx : Nat → Nat → Nat) (ln : Nat → Nat) (od : Nat → Nat → Int32) (no : Nat) : Prop := no = rowsN g n ∧ ∀ r, r < rowsN g n → ln r = sz n u a b g r ∧ ∀ k, k < sz n u a b g r → od r k = nI (bx r k)
theorem g03 {α : Type} {k : Option α} : gd (0 : Int32) 3 k = k := by rw [n0, gd_in (by omega) (by omega)]
theorem g13 {α : Type} {k : Option α} : gd (1 : Int32) 3 k = k := by rw [n1, gd_in (by omega) (by omega)]
theorem c0 : (0 : Int32).toNatClampNeg = 0 := nI_clamp (n := 0) (by omega)
theorem c1 : (1 : Int32).toNatClampNeg = 1 := nI_clamp (n := 1) (by omega)
section OWN1
variable {n u : Nat} {pr a b g : Nat → Nat} {an : Nat → Nat → Bool} {pn ge lv : Nat → Int32} {un od : Nat → Nat → Int32} {nu no : Nat} {ln : Nat → Nat} {pl : Nat → Nat} {bx : Nat → Nat → Nat}
theorem O_gen (W : WF n u pr a b g) (G : OG n u a b g ge lv) {p : Nat} (hp : p < n) : p10_gen ge (nI p) = some (nI (g p)) := by
  have := W.n16
  unfold p10_gen
  rw [gd_in (by omega) (by omega), nI_clamp (by omega), G.1 p hp]
theorem O_level (W : WF n u pr a b g) (G : OG n u a b g ge lv) {w : Nat} (hw : w < u) : p10_level lv (nI w) = some (nI (lw a b g w)) := by
  have := W.u12
  unfold p10_level
  rw [gd_in (by omega) (by omega), nI_clamp (by omega), G.2 w hw]
theorem O_in (W : WF n u pr a b g) (F : OF n u pr a b pn un nu) {w p : Nat} (hw : w < u) (hp : p < 2147483648) : p10_in un nu (nI w) (nI p) = some (a w == p || b w == p) := by
  have hu := W.u12
  have hab := W.par hw
  have hn := W.n16
  unfold p10_in
  rw [F.2.1, gd_in (by omega) (by omega), gd_in hw (by omega), g03, gd_in (by omega) (by omega), gd_in hw (by omega), g13, nI_clamp (by omega), c0, c1, (F.2.2 w hw).1, (F.2.2 w hw).2]
  by_cases e : a w = p
  · rw [if_pos (by rw [e])]
    simp [e]
  · rw [if_neg (fun z => e ((nI_eq (by omega) hp).mp z))]
    by_cases e2 : b w = p
    · rw [if_pos (by rw [e2])]
      simp [e2]
    · rw [if_neg (fun z => e2 ((nI_eq (by omega) hp).mp z))]
      simp [e, e2]
theorem O_less (W : WF n u pr a b g) (F : OF n u pr a b pn un nu) (G : OG n u a b g ge lv) {w : Nat} (hw : w < u) : p10_less ge lv un nu (nI w) = some (rN (rw_ a b g w)) := by
  have hu := W.u12
  have hn := W.n16
  obtain ⟨ha, hb, -⟩ := W.par hw
  have ga := W.glt ha
  have gb := W.glt hb
  unfold p10_less
  rw [O_level W G hw]
  simp only [ob]
  rw [F.2.1, gd_in (by omega) (by omega), gd_in hw (by omega), g03, nI_clamp (by omega), c0, c1, (F.2.2 w hw).1, (F.2.2 w hw).2, O_gen W G ha]
  simp only [ob]
  rw [gd_in (by omega) (by omega), gd_in hw (by omega), g13, O_gen W G hb]
  simp only [ob]
  rw [gd_in (by omega) (by omega), gd_in hw (by omega), g03]
  unfold rw_ lw
  by_cases h1 : g (a w) < g (b w)
  · rw [if_pos h1, if_neg (nI_ge (by omega) (by omega)), gd_in (by omega) (by omega), gd_in hw (by omega), rN_in (by omega)]
  · rw [if_neg h1, if_pos (nI_le (by omega) (by omega))]
    by_cases h2 : g (b w) < g (a w)
    · rw [if_pos h2, if_neg (nI_ge (by omega) (by omega)), g13, rN_in (by omega)]
    · rw [if_neg h2, if_pos (nI_le (by omega) (by omega))]
      rfl
theorem oN_ge {k : Nat} : 0 ≤ oN k ↔ k < 12 := by
  by_cases h : k < 12
  · rw [oN_in h]
    exact ⟨fun _ => h, fun _ => (nI_leI (a := 0) (b := k) (by omega) (by omega)).mpr (by omega)⟩
  · rw [oN_out h]
    exact ⟨fun q => absurd q (by decide), fun q => absurd q h⟩
theorem oN_lt {k : Nat} : oN k < 0 ↔ ¬ k < 12 := by
  rw [← oN_ge (k := k), Int32.not_le]
theorem O_finds (W : WF n u pr a b g) (F : OF n u pr a b pn un nu) : ∀ d p, p < n → g p < d → p10_finds d pn un nu (nI p) = some (nI (g p)) := by
  have hu := W.u12
  have hn := W.n16
  intro d
  induction d with
  | zero => intro p _ h; omega
  | succ d ih =>
    intro p hp hg
    rw [p10_finds, p10_finds_O, gd_in (by omega) (by omega), nI_clamp (by omega), F.1 p hp]
    by_cases c : pr p < 12
    · have hw := W.pr12 hp c
      obtain ⟨ha, hb, -⟩ := W.par hw
      have hge := W.gen hp c
      rw [if_pos (oN_ge.mpr c), gd_in (by omega) (by omega), oN_in c]
      simp only [lb]
      rw [F.2.1, gd_in (by omega) (by omega), gd_in hw (by omega), g03, nI_clamp (by omega), c0, c1, (F.2.2 _ hw).1, (F.2.2 _ hw).2, ← F.2.1, ih _ ha (by omega)]
      simp only [ob]
      rw [gd_in (by omega) (by omega), F.2.1, gd_in (by omega) (by omega), gd_in hw (by omega), g13, ← F.2.1, ih _ hb (by omega)]
      simp only [ob]
      have ga := W.glt ha
      have gb := W.glt hb
      rw [imax_nI (by omega) (by omega), n1, nI_add, hge]
      congr 2
      omega
    · rw [if_neg (fun z => c (oN_ge.mp z)), W.gen0 hp c]
      rfl
theorem O_up (W : WF n u pr a b g) (AN : ANC n pr a b an) (F : OF n u pr a b pn un nu) : ∀ d p, p < n → g p < d → ∃ m, p10_up d pn un nu (nI p) = some m ∧ ∀ q, bt m q = an p q := by
  have hu := W.u12
  have hn := W.n16
  intro d
  induction d with
  | zero => intro p _ h; omega
  | succ d ih =>
    intro p hp hg
    rw [p10_up, p10_up_O, gd_in (by omega) (by omega), nI_clamp (by omega), F.1 p hp]
    by_cases c : pr p < 12
    · have hw := W.pr12 hp c
      obtain ⟨ha, hb, -⟩ := W.par hw
      have hge := W.gen hp c
      obtain ⟨m1, e1, f1⟩ := ih _ ha (by omega)
      obtain ⟨m2, e2, f2⟩ := ih _ hb (by omega)
      rw [if_pos (oN_ge.mpr c), gd_in (by omega) (by omega), oN_in c]
      simp only [lb]
      rw [F.2.1, gd_in (by omega) (by omega), gd_in hw (by omega), g03, g13, g03, nI_clamp (by omega), c0, c1, (F.2.2 _ hw).1, (F.2.2 _ hw).2, ← F.2.1, e1]
      simp only [ob]
      rw [g13, e2]
      simp only [ob]
      refine ⟨_, rfl, fun q => ?_⟩
      rw [bt_or, bt_or, bt_or, bt_shl (by omega), bt_shl (by omega), f1, f2, AN.par hp c]
      by_cases x1 : q = a (pr p)
      · simp [x1]
      · by_cases x2 : q = b (pr p)
        · simp [x2]
        · rw [show (q == a (pr p)) = false from beq_eq_false_iff_ne.mpr x1, show (q == b (pr p)) = false from beq_eq_false_iff_ne.mpr x2]
          simp [x1, x2]
    · rw [if_neg (fun z => c (oN_ge.mp z))]
      exact ⟨0, rfl, fun q => by rw [bt_zero, AN.none hp c]⟩
theorem O_boxA (W : WF n u pr a b g) (F : OF n u pr a b pn un nu) (G : OG n u a b g ge lv) {w : Nat} (hw : w < u) : p10_box ge lv un nu (nI w) 0 = some (nI (bxa a b g w)) := by
  have hu := W.u12
  have hn := W.n16
  obtain ⟨ha, hb, -⟩ := W.par hw
  have ga := W.glt ha
  have gb := W.glt hb
  have hl : lw a b g w = max (g (a w)) (g (b w)) := rfl
  have hr := rw_a W hw
  unfold p10_box
  rw [F.2.1, gd_in (by omega) (by omega), gd_in hw (by omega), g03, nI_clamp (by omega), c0, (F.2.2 w hw).1]
  simp only [lb]
  rw [O_gen W G ha]
  simp only [ob]
  rw [O_level W G hw]
  simp only [ob]
  unfold bxa
  by_cases h1 : rw_ a b g w = a w
  · rw [if_pos h1, if_neg (nI_ge (hr.mp h1) (by omega)), n16, nI_add]
  · rw [if_neg h1, if_pos (nI_le (by have := mt hr.mpr h1; omega) (by omega))]
theorem O_boxB (W : WF n u pr a b g) (F : OF n u pr a b pn un nu) (G : OG n u a b g ge lv) {w : Nat} (hw : w < u) : p10_box ge lv un nu (nI w) 1 = some (nI (bxb a b g w)) := by
  have hu := W.u12
  have hn := W.n16
  obtain ⟨ha, hb, -⟩ := W.par hw
  have ga := W.glt ha
  have gb := W.glt hb
  have hl : lw a b g w = max (g (a w)) (g (b w)) := rfl
  have hr := rw_b W hw
  unfold p10_box
  rw [F.2.1, gd_in (by omega) (by omega), gd_in hw (by omega), g13, nI_clamp (by omega), c1, (F.2.2 w hw).2]
  simp only [lb]
  rw [O_gen W G hb]
  simp only [ob]
  rw [O_level W G hw]
  simp only [ob]
  unfold bxb
  by_cases h1 : rw_ a b g w = b w
  · rw [if_pos h1, if_neg (nI_ge (hr.mp h1) (by omega)), n16, nI_add]
  · rw [if_neg h1, if_pos (nI_le (by have := mt hr.mpr h1; omega) (by omega))]
theorem O_place (W : WF n u pr a b g) (O : OO n u a b g bx ln od no) (L : LAY n u a b g pl bx) {x : Nat} (hx : x < 28) (ht : th n u a b g x = true) : p10_place ln od no (nI (rb a b g x)) (nI x) = some (nI (pl x)) := by
  have hr := th_row W ht
  have h16 := rows16 W
  obtain ⟨hpl, hbx⟩ := L.1 x hx ht
  have hsz := sz_le W (r := rb a b g x)
  obtain ⟨hln, hod⟩ := O.2 _ hr
  unfold p10_place
  have hL := loop_up (fun k i (_ : Unit) => p10_place_L2 ln no od (nI (rb a b g x)) (nI x) k (nI i)) (pl x)
    (fun _ _ => True) (fun r => r = .inl (nI (pl x))) (by
      intro k s _
      refine ⟨.inl (nI (pl x)), ?_, rfl⟩
      try dsimp only
      rw [p10_place_L2, p10_place_L2_B, O.1, gd_in (by omega) (by omega), gd_in hr (by omega), nI_clamp (by omega), hln]
      show (if nI (sz n u a b g (rb a b g x)) ≤ nI (pl x) then _ else _) = _
      rw [if_neg (nI_ge hpl (by omega)), gd_in (by omega) (by omega), gd_in hr (by omega), gd_in hpl (by omega), nI_clamp (by omega), hod _ hpl, hbx, if_pos rfl]) (by
      intro k i s hi _
      refine Or.inl ⟨(), ?_, trivial⟩
      try dsimp only
      have hne : ¬ bx (rb a b g x) i = x := fun q => by
        have := (L.2 (rb a b g x) i (by omega)).2.2.2
        rw [q] at this
        omega
      have hb28 := (L.2 (rb a b g x) i (by omega)).1
      rw [p10_place_L2, p10_place_L2_B, O.1, gd_in (by omega) (by omega), gd_in hr (by omega), nI_clamp (by omega), hln]
      show (if nI (sz n u a b g (rb a b g x)) ≤ nI i then _ else _) = _
      rw [if_neg (nI_ge (by omega) (by omega)), gd_in (by omega) (by omega), gd_in hr (by omega), gd_in (by omega) (by omega), nI_clamp (by omega), hod i (by omega), if_neg (fun q => hne ((nI_eq (by omega) (by omega)).mp q))]
      simp only [lb]
      rw [n1, nI_add]) FU 0 () (Nat.zero_le _) (by show pl x - 0 < 1024; omega) trivial
  obtain ⟨s, e1, f1⟩ := hL
  try dsimp only at e1
  rw [n0, e1, f1]
  rfl
theorem O_atA (W : WF n u pr a b g) (F : OF n u pr a b pn un nu) (G : OG n u a b g ge lv) (O : OO n u a b g bx ln od no) (L : LAY n u a b g pl bx) {w : Nat} (hw : w < u) : p10_at ge lv un nu ln od no (nI w) 0 = some (nI (pa a b g pl w)) := by
  obtain ⟨h1, h2, h3⟩ := bxa_ok W hw
  unfold p10_at
  rw [O_level W G hw]
  simp only [ob]
  rw [O_boxA W F G hw]
  simp only [ob]
  rw [← h3, O_place W O L h1 h2]
  rfl
theorem O_atB (W : WF n u pr a b g) (F : OF n u pr a b pn un nu) (G : OG n u a b g ge lv) (O : OO n u a b g bx ln od no) (L : LAY n u a b g pl bx) {w : Nat} (hw : w < u) : p10_at ge lv un nu ln od no (nI w) 1 = some (nI (pb a b g pl w)) := by
  obtain ⟨h1, h2, h3⟩ := bxb_ok W hw
  unfold p10_at
  rw [O_level W G hw]
  simp only [ob]
  rw [O_boxB W F G hw]
  simp only [ob]
  rw [← h3, O_place W O L h1 h2]
  rfl
theorem O_middle (W : WF n u pr a b g) (F : OF n u pr a b pn un nu) (G : OG n u a b g ge lv) (O : OO n u a b g bx ln od no) (L : LAY n u a b g pl bx) {w : Nat} (hw : w < u) : p10_middle ge lv un nu ln od no (nI w) = some (nI (mid a b g pl w)) := by
  unfold p10_middle
  rw [O_atA W F G O L hw]
  simp only [ob]
  rw [O_atB W F G O L hw]
  simp only [ob]
  rw [nI_add]
  rfl
end OWN1
