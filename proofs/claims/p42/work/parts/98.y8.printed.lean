/-! isPrinted is true: strips, lines, the whole -/
abbrev PST : Type := (Nat → Int32) × (Nat → Int32) × (Nat → Int32) × Int32 × (Nat → Int32) × Int32
section YPRL
variable {n u : Nat} {pr a b g : Nat → Nat} {an : Nat → Nat → Bool} {uy : Nat → Int32} {pl lc col : Nat → Nat} {lt bx : Nat → Nat → Nat} {pu fp sp uY ge am lv rf od rs po fb sb lA letters py fc mc line text : Nat → Int32} {len tl : Int32}
theorem P_38 (W : WF n u pr a b g) (F : FX n u pr a b pu fp sp) (Q : RF n u a b g an ge am lv rf) (C : LCX n lc lA) (T : LTX n lc lt letters) (hlc : ∀ p, p < n → lc p ≤ 8) (R : RX n u a b g pl bx od rs po fb sb) (L : LAY n u a b g pl bx) (B : LB line len) {v w S x y : Nat} (hv : v < 3 * rowsN g n) (h1 : 10 ≤ w) (h2 : w ≤ 200) (hS : S ≤ 100) (hm : (lnS n u pr a b g lc lt bx v).1 ≤ S * w) :
    ∃ fc' mc' line' len' text' tl', pL_isPrinted_L38 ge lA letters lv pu (nI n) rf (nI (rowsN g n)) (nI u) (nI S) fb od rs sb (nI w) (nI v) FU (nI x) (nI y) 0 false 0 fc mc line len text tl =
      some (.inr (nI (x + if v % 3 = 1 then nbL n u pr a b g lc lt bx v else 0), nI (y + if v % 3 = 2 then nbL n u pr a b g lc lt bx v else 0), nI (lnS n u pr a b g lc lt bx v).1, fc', mc', line', len', text', tl')) ∧ LB line' len' := by
  have hR := rows16 W
  obtain ⟨b1, b2⟩ := lnS_ok (lt := lt) W hlc L (v := v)
  unfold nbL
  generalize hm1 : (lnS n u pr a b g lc lt bx v).1 = m at hm b2 ⊢
  generalize hf1 : (lnS n u pr a b g lc lt bx v).2 = f
  have hL := loop_all (fun k i (s : PST) => pL_isPrinted_L38 ge lA letters lv pu (nI n) rf (nI (rowsN g n)) (nI u) (nI S) fb od rs sb (nI w) (nI v) k
      (nI (x + if v % 3 = 1 then cnt (NB f) (min m (i * w)) else 0)) (nI (y + if v % 3 = 2 then cnt (NB f) (min m (i * w)) else 0)) (nI (min m (i * w))) (decide (m < i * w)) (nI i) s.1 s.2.1 s.2.2.1 s.2.2.2.1 s.2.2.2.2.1 s.2.2.2.2.2) S
    (fun _ s => LB s.2.2.1 s.2.2.2.1)
    (fun z => ∃ fc' mc' line' len' text' tl', z = .inr (nI (x + if v % 3 = 1 then cnt (NB f) (min m (S * w)) else 0), nI (y + if v % 3 = 2 then cnt (NB f) (min m (S * w)) else 0), nI (min m (S * w)), fc', mc', line', len', text', tl') ∧ LB line' len') (by
      intro k s hs
      refine ⟨_, ?_, s.1, s.2.1, s.2.2.1, s.2.2.2.1, s.2.2.2.2.1, s.2.2.2.2.2, rfl, hs⟩
      try dsimp only
      rw [pL_isPrinted_L38, pL_isPrinted_L38_B, if_pos (nI_le (Nat.le_refl _) (by omega))]) (by
      intro k i s hi hs
      obtain ⟨f1, m1, l1, n1', t1, e1, B1, ht⟩ := A_format (fc := s.1) (mc := s.2.1) (line := s.2.2.1) (len := s.2.2.2.1) (text := s.2.2.2.2.1) W F Q C T hlc R L hs hv (show i < 2147483648 by omega) h1 h2
      rw [hm1] at e1 ht
      rw [hf1] at ht
      have hsucc : (i + 1) * w = i * w + w := Nat.succ_mul i w
      rw [hsucc]
      generalize hK : i * w = K at *
      generalize hP : min w (m - K) = P at *
      have hPw : P ≤ w := by omega
      have hcp : cnt (NB f) (min m K) + cnt (NB t1) P = cnt (NB f) (min m (K + w)) := by
        have h := cnt_piece (f := f) (text := t1) (o := min m K) (t := P) (fun i hi => by
          rw [ht i hi]
          congr 1
          omega)
        rw [h]
        congr 1
        omega
      refine ⟨(f1, m1, l1, n1', t1, nI P), ?_, B1⟩
      try dsimp only
      have hx : (x + if v % 3 = 1 then cnt (NB f) (min m K) else 0) + (if v % 3 = 1 then cnt (NB t1) P else 0) = x + if v % 3 = 1 then cnt (NB f) (min m (K + w)) else 0 := by
        by_cases c : v % 3 = 1
        · rw [if_pos c, if_pos c, if_pos c]; omega
        · rw [if_neg c, if_neg c, if_neg c]
      have hy : (y + if v % 3 = 2 then cnt (NB f) (min m K) else 0) + (if v % 3 = 2 then cnt (NB t1) P else 0) = y + if v % 3 = 2 then cnt (NB f) (min m (K + w)) else 0 := by
        by_cases c : v % 3 = 2
        · rw [if_pos c, if_pos c, if_pos c]; omega
        · rw [if_neg c, if_neg c, if_neg c]
      have h65 : ∀ (kk : Int32 → Int32 → Int32 → Bool → Int32 → (Nat → Int32) → (Nat → Int32) → (Nat → Int32) → Int32 → (Nat → Int32) → Int32 → Option ((Bool × (Nat → Int32) × (Nat → Int32) × (Nat → Int32) × Int32 × (Nat → Int32) × Int32) ⊕ (Int32 × Int32 × Int32 × (Nat → Int32) × (Nat → Int32) × (Nat → Int32) × Int32 × (Nat → Int32) × Int32))),
          pL_isPrinted_J65 kk (nI w) (nI (x + if v % 3 = 1 then cnt (NB f) (min m K) else 0)) (nI (y + if v % 3 = 2 then cnt (NB f) (min m K) else 0)) (nI v) (nI (min m K)) (nI i) n1' (nI P) f1 m1 l1 t1 (nI P) =
            kk (nI (x + if v % 3 = 1 then cnt (NB f) (min m (K + w)) else 0)) (nI (y + if v % 3 = 2 then cnt (NB f) (min m (K + w)) else 0)) (nI (min m (K + w))) (decide (m < K + w)) (nI (i + 1)) f1 m1 l1 n1' t1 (nI P) := by
        intro kk
        have h86 : ∀ q : Bool, q = decide (m < K + w) → pL_isPrinted_J86 kk (nI (x + if v % 3 = 1 then cnt (NB f) (min m K) else 0)) (nI (y + if v % 3 = 2 then cnt (NB f) (min m K) else 0)) (nI v) (nI (min m K)) (nI i) n1' (nI P) f1 m1 l1 t1 q (nI P) =
            kk (nI (x + if v % 3 = 1 then cnt (NB f) (min m (K + w)) else 0)) (nI (y + if v % 3 = 2 then cnt (NB f) (min m (K + w)) else 0)) (nI (min m (K + w))) (decide (m < K + w)) (nI (i + 1)) f1 m1 l1 n1' t1 (nI P) := by
          intro q hq
          unfold pL_isPrinted_J86
          simp only [lb]
          rw [P_96 (by omega) (by omega), hx, hy]
          simp only [ob, uc2, pL_isPrinted_J171, lb]
          rw [nI_add, n1, nI_add, hq, show min m K + P = min m (K + w) by omega]
        unfold pL_isPrinted_J65
        rw [if_pos (nI_le hPw (by omega))]
        by_cases d : w ≤ P
        · rw [if_pos (nI_le d (by omega))]
          exact h86 false (decide_eq_false (by omega)).symm
        · rw [if_neg (nI_ge (by omega) (by omega))]
          exact h86 true (decide_eq_true (by omega)).symm
      rw [pL_isPrinted_L38, pL_isPrinted_L38_B, if_neg (nI_ge hi (by omega)), e1]
      simp only [on, uc7]
      by_cases c : m < K
      · rw [decide_eq_true c]
        simp only [cond]
        rw [if_neg (by
          rw [show P = 0 by omega]
          decide), h65]
      · rw [decide_eq_false c]
        simp only [cond]
        rw [h65]) FU 0 (fc, mc, line, len, text, tl) (Nat.zero_le _) (by show S - 0 < 1024; omega) B
  obtain ⟨z, e1, fc', mc', line', len', text', tl', rfl, B'⟩ := hL
  refine ⟨fc', mc', line', len', text', tl', ?_, B'⟩
  try dsimp only at e1
  have hz : ∀ c : Prop, [Decidable c] → (if c then cnt (NB f) (min m (0 * w)) else 0) = 0 := fun c _ => by
    rw [Nat.zero_mul, Nat.min_zero]
    by_cases h : c
    · rw [if_pos h]; rfl
    · rw [if_neg h]
  rw [hz, hz, Nat.zero_mul, Nat.min_zero, decide_eq_false (Nat.not_lt_zero _), Nat.min_eq_left hm] at e1
  exact e1
theorem P_17 (W : WF n u pr a b g) (F : FX n u pr a b pu fp sp) (Q : RF n u a b g an ge am lv rf) (C : LCX n lc lA) (T : LTX n lc lt letters) (hlc : ∀ p, p < n → lc p ≤ 8) (R : RX n u a b g pl bx od rs po fb sb) (L : LAY n u a b g pl bx) (B : LB line len) {w S : Nat} (h1 : 10 ≤ w) (h2 : w ≤ 200) (hS : S ≤ 100) (hm : wdS n u pr a b g lc lt bx (3 * rowsN g n) ≤ S * w) :
    ∃ fc' mc' line' len' text' tl', pL_isPrinted_L17 fp ge lA letters lv pu (nI n) rf (nI (rowsN g n)) sp (nI u) (nI S) fb od rs sb (nI w) FU 0 0 0 0 fc mc line len text tl =
      some (.inr (nI (sm (fun i => if i % 3 = 1 then nbL n u pr a b g lc lt bx i else 0) (3 * rowsN g n)), nI (sm (fun i => if i % 3 = 2 then nbL n u pr a b g lc lt bx i else 0) (3 * rowsN g n)), nI (wdS n u pr a b g lc lt bx (3 * rowsN g n)), fc', mc', line', len', text', tl')) ∧ LB line' len' := by
  have hR := rows16 W
  have hL := loop_all (fun k i (s : PST) => pL_isPrinted_L17 fp ge lA letters lv pu (nI n) rf (nI (rowsN g n)) sp (nI u) (nI S) fb od rs sb (nI w) k
      (nI (sm (fun i => if i % 3 = 1 then nbL n u pr a b g lc lt bx i else 0) i)) (nI (sm (fun i => if i % 3 = 2 then nbL n u pr a b g lc lt bx i else 0) i)) (nI (wdS n u pr a b g lc lt bx i)) (nI i) s.1 s.2.1 s.2.2.1 s.2.2.2.1 s.2.2.2.2.1 s.2.2.2.2.2) (3 * rowsN g n)
    (fun _ s => LB s.2.2.1 s.2.2.2.1)
    (fun z => ∃ fc' mc' line' len' text' tl', z = .inr (nI (sm (fun i => if i % 3 = 1 then nbL n u pr a b g lc lt bx i else 0) (3 * rowsN g n)), nI (sm (fun i => if i % 3 = 2 then nbL n u pr a b g lc lt bx i else 0) (3 * rowsN g n)), nI (wdS n u pr a b g lc lt bx (3 * rowsN g n)), fc', mc', line', len', text', tl') ∧ LB line' len') (by
      intro k s hs
      refine ⟨_, ?_, s.1, s.2.1, s.2.2.1, s.2.2.2.1, s.2.2.2.2.1, s.2.2.2.2.2, rfl, hs⟩
      try dsimp only
      rw [pL_isPrinted_L17, pL_isPrinted_L17_B, A_count2]
      simp only [ob]
      rw [show (3 : Int32) * nI (rowsN g n) = nI (3 * rowsN g n) from nI_mul 3 _, if_pos (nI_le (Nat.le_refl _) (by omega))]) (by
      intro k i s hi hs
      have hmi : (lnS n u pr a b g lc lt bx i).1 ≤ S * w := Nat.le_trans (wdS_ge _ hi) hm
      obtain ⟨f1, m1, l1, n1', t1, tl1, e1, B1⟩ := P_38 (fc := s.1) (mc := s.2.1) (line := s.2.2.1) (len := s.2.2.2.1) (text := s.2.2.2.2.1) (tl := s.2.2.2.2.2) (x := sm (fun i => if i % 3 = 1 then nbL n u pr a b g lc lt bx i else 0) i) (y := sm (fun i => if i % 3 = 2 then nbL n u pr a b g lc lt bx i else 0) i) W F Q C T hlc R L hs hi h1 h2 hS hmi
      obtain ⟨f2, m2, l2, n2', t2, e2, B2, -⟩ := A_format (fc := f1) (mc := m1) (line := l1) (len := n1') (text := t1) W F Q C T hlc R L B1 hi (show S < 2147483648 by omega) h1 h2
      rw [show min w ((lnS n u pr a b g lc lt bx i).1 - S * w) = 0 by omega] at e2
      have hws := wdS_400 (lt := lt) W hlc L i
      have hls := (lnS_ok (lt := lt) W hlc L (v := i)).2
      refine ⟨(f2, m2, l2, n2', t2, nI 0), ?_, B2⟩
      try dsimp only
      rw [pL_isPrinted_L17, pL_isPrinted_L17_B, A_count2]
      simp only [ob]
      rw [show (3 : Int32) * nI (rowsN g n) = nI (3 * rowsN g n) from nI_mul 3 _, if_neg (nI_ge hi (by omega)), e1]
      simp only [os, uc9, pL_isPrinted_J177, lb]
      rw [e2]
      simp only [on, uc7]
      rw [if_pos (show nI 0 = (0 : Int32) from rfl), n1, nI_add, imax_nI (by omega) (by omega)]
      rfl) FU 0 (fc, mc, line, len, text, tl) (Nat.zero_le _) (by show 3 * rowsN g n - 0 < 1024; omega) B
  obtain ⟨z, e1, fc', mc', line', len', text', tl', rfl, B'⟩ := hL
  exact ⟨fc', mc', line', len', text', tl', e1, B'⟩
theorem P_211 (W : WF n u pr a b g) (F : FX n u pr a b pu fp sp) {rc : Int32} : pL_isPrinted_L211 fp ge lA pu (nI n) py rc sp (nI u) rs FU 0 0 = some (nI (cnt (fun p => decide (pr p < 12)) n)) := by
  have hn := W.n16
  have hL := loop_all (fun k i (_ : Unit) => pL_isPrinted_L211 fp ge lA pu (nI n) py rc sp (nI u) rs k (nI (cnt (fun p => decide (pr p < 12)) i)) (nI i)) n
    (fun _ _ => True)
    (fun z => z = nI (cnt (fun p => decide (pr p < 12)) n)) (by
      intro k s _
      refine ⟨_, ?_, rfl⟩
      try dsimp only
      rw [pL_isPrinted_L211, pL_isPrinted_L211_B, A_count0]
      simp only [ob]
      rw [if_pos (nI_le (Nat.le_refl _) (by omega))]) (by
      intro k i s hi _
      refine ⟨(), ?_, trivial⟩
      try dsimp only
      rw [pL_isPrinted_L211, pL_isPrinted_L211_B, A_count0]
      simp only [ob]
      rw [if_neg (nI_ge hi (by omega)), A_person2 hn hi]
      simp only [on]
      rw [F.1 i hi, cnt_s]
      by_cases c : pr i < 12
      · rw [if_pos (oN_ge.mpr c), if_pos (decide_eq_true c)]
        simp only [lb]
        rw [n1, nI_add, nI_add]
      · rw [if_neg (fun z => c (oN_ge.mp z)), if_neg (by simpa using c)]
        simp only [lb]
        rw [n1, nI_add, n0, nI_add]) FU 0 () (Nat.zero_le _) (by show n - 0 < 1024; omega) trivial
  obtain ⟨z, e1, rfl⟩ := hL
  exact e1
theorem sm3 (f : Nat → Nat) : ∀ R, sm f (3 * R) = sm (fun r => f (3 * r) + f (3 * r + 1) + f (3 * r + 2)) R := by
  intro R
  induction R with
  | zero => rfl
  | succ R ih => rw [show 3 * (R + 1) = 3 * R + 1 + 1 + 1 by omega, sm_s, sm_s, sm_s, ih, sm_s]; omega
theorem nb1_all (W : WF n u pr a b g) (hlc : ∀ p, p < n → lc p ≤ 8) (L : LAY n u a b g pl bx) : sm (fun i => if i % 3 = 1 then nbL n u pr a b g lc lt bx i else 0) (3 * rowsN g n) = u := by
  rw [sm3, sm_congr (g := fun r => cnt (fun w => decide (lw a b g w + 1 = r + 1)) u) (fun r hr => ?_), sm_cls (fun w => lw a b g w + 1) ?_]
  · rw [cnt_congr (g := fun x => decide (x < u)) (fun i hi => by rw [decide_eq_true (show 0 < lw a b g i + 1 by omega), decide_eq_true hi]), cnt_ltn, Nat.min_self]
  · intro w hw
    obtain ⟨ha, hb, -⟩ := W.par hw
    have h1 := rowsN_lt (g := g) ha
    have h2 := rowsN_lt (g := g) hb
    have : lw a b g w = max (g (a w)) (g (b w)) := rfl
    omega
  · rw [if_neg (by omega), if_pos (by omega), if_neg (by omega), nb1 W hlc L (by omega), show (3 * r + 1) / 3 = r by omega]
    rw [Nat.zero_add, Nat.add_zero]
    exact cnt_congr fun i _ => by rw [decide_eq_decide]; omega
theorem nb2_all (W : WF n u pr a b g) (hlc : ∀ p, p < n → lc p ≤ 8) (L : LAY n u a b g pl bx) : sm (fun i => if i % 3 = 2 then nbL n u pr a b g lc lt bx i else 0) (3 * rowsN g n) = cnt (fun p => decide (pr p < 12)) n := by
  rw [sm3, sm_congr (g := fun r => cnt (fun p => decide (g p = r + 1)) n) (fun r hr => ?_), sm_cls g (fun p hp => Nat.le_of_lt (rowsN_lt hp))]
  · refine cnt_congr fun p hp => ?_
    by_cases c : pr p < 12
    · have := W.gen hp c
      rw [decide_eq_true c, decide_eq_true (show 0 < g p by omega)]
    · have := W.gen0 hp c
      rw [decide_eq_false c, decide_eq_false (show ¬ 0 < g p by omega)]
  · rw [if_neg (by omega), if_neg (by omega), if_pos (by omega), nb2 W hlc L (by omega), show (3 * r + 2) / 3 = r by omega, Nat.zero_add]
theorem P_printed (U : US n u pr a b g an pl bx) (X : UX n u pr a b g an uy pl bx pu fp sp uY ge am lv rf od rs po fb sb) (C : LCX n lc lA) (T : LTX n lc lt letters) (hlc : ∀ p, p < n → lc p ≤ 8) (B : LB line len) {w : Nat} (h1 : 10 ≤ w) (h2 : w ≤ 200) :
    ∃ fc' mc' line' len' text' tl', pL_isPrinted (nI n) (nI u) (nI (rowsN g n)) len tl fc mc fp ge lA letters lv pu py rf sp line text fb od rs sb (nI w) = some (true, fc', mc', line', len', text', tl') ∧ LB line' len' := by
  obtain ⟨W, AN, L⟩ := U
  obtain ⟨F, -, Q, R⟩ := X
  have hW := wdS_400 (lt := lt) W hlc L (3 * rowsN g n)
  generalize hWd : wdS n u pr a b g lc lt bx (3 * rowsN g n) = Wd at hW
  obtain ⟨f1, m1, l1, n1', e1, B1⟩ := A_strips (fc := fc) (mc := mc) (lt := lt) W F Q C T hlc R L B h1 h2 (by omega)
  have hS : (Wd + w - 1) / w ≤ 100 := by
    have : (Wd + w - 1) / w ≤ (Wd + w - 1) / 10 := Nat.div_le_div_left h1 (by omega)
    omega
  have hm : Wd ≤ (Wd + w - 1) / w * w := by
    have h3 := Nat.div_add_mod (Wd + w - 1) w
    have h4 := Nat.mod_lt (Wd + w - 1) (show w > 0 by omega)
    rw [Nat.mul_comm] at h3
    omega
  obtain ⟨f2, m2, l2, n2', t2, tl2, e2, B2⟩ := P_17 (fc := f1) (mc := m1) (line := l1) (len := n1') (text := text) (tl := tl) (S := (Wd + w - 1) / w) W F Q C T hlc R L B1 h1 h2 hS (by rw [hWd]; exact hm)
  obtain ⟨f3, m3, l3, n3', e3, B3⟩ := A_width (fc := f2) (mc := m2) (lt := lt) W F Q C T hlc R L B2
  obtain ⟨f4, m4, e4⟩ := A_cut (fc := f3) (mc := m3) W F Q C hlc R L (w := 200) (by omega) (by omega)
  refine ⟨f4, m4, l3, n3', t2, tl2, ?_, B3⟩
  unfold pL_isPrinted
  rw [e1]
  simp only [on, uc5]
  rw [hWd, e2]
  simp only [os, uc9, pL_isPrinted_J205]
  rw [P_211 W F]
  simp only [ob, pL_isPrinted_J247]
  rw [A_count1]
  simp only [ob]
  rw [nb1_all W hlc L, nb2_all W hlc L]
  first
    | rw [if_pos rfl, if_pos rfl]
    | rw [if_pos trivial, if_pos trivial]
  rw [e3]
  simp only [ob, uc5]
  first
    | rw [if_pos rfl]
    | rw [if_pos trivial]
  rw [n200, e4]
  simp only [on, uc3]
  have hcs : cutS n u a b g lc (colF n u pr a b g lc bx) 200 ≤ 28 := cnt_le _ _
  rw [n0, if_neg (nI_nlt (Nat.zero_le _) (by omega))]
end YPRL
