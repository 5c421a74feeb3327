/-! isSound is true -/
section YSND
variable {n u : Nat} {pr a b g : Nat → Nat} {an : Nat → Nat → Bool} {uy : Nat → Int32} {pl lc : Nat → Nat} {bx : Nat → Nat → Nat} {pu fp sp uY ge am lv rf od rs po fb sb lA py fc mc wy : Nat → Int32} {e0 : Nat → Int64}
theorem S_172 (W : WF n u pr a b g) (AN : ANC n pr a b an) (F : FX n u pr a b pu fp sp) (hr : ∀ p, p < n → RT g an ge am p) {p : Nat} (hp : p < n) :
    ∃ e' w', pL_isSound_L172 fp ge pu (nI n) (nI (rowsN g n)) sp (nI n) (nI p) (am p) FU 0 e0 wy = some (.inr (e', w')) := by
  have hn := W.n16
  have hg : ∀ p, p < n → ge p = nI (g p) := fun p hp => (hr p hp).1
  have hL := loop_all (fun k i (s : (Nat → Int64) × (Nat → Int32)) => pL_isSound_L172 fp ge pu (nI n) (nI (rowsN g n)) sp (nI n) (nI p) (am p) k (nI (3 * i)) s.1 s.2) ((n + 2) / 3)
    (fun _ _ => True)
    (fun z => ∃ e' w', z = .inr (e', w')) (by
      intro k s _
      refine ⟨.inr (s.1, s.2), ?_, s.1, s.2, rfl⟩
      try dsimp only
      rw [pL_isSound_L172, pL_isSound_L172_B, if_pos (nI_le (by omega) (by omega))]) (by
      intro k i s hi _
      have hq : 3 * i < n := by omega
      obtain ⟨e1, k1, K1⟩ := A_kinship (e0 := s.1) W F hg hp hq
      obtain ⟨e2, k2, K2⟩ := A_kinship (e0 := e1) W F hg hq hp
      obtain ⟨r, d1, D1⟩ := A_distance W F hp hq
      obtain ⟨r', d2, D2⟩ := A_distance W F hq hp
      have hrr : r = r' := DST.uniq D1 (D2.sym hq hp)
      obtain ⟨w', l1⟩ := A_linesTo (wy := s.2) W F hg hp hq
      have hlb := lns_le W hq (g p + 1) p hp (Nat.lt_succ_self _)
      have hgp := W.glt hp
      have h16 : 2 ^ g p ≤ 2 ^ 16 := Nat.pow_le_pow_right (by omega) (by omega)
      have hps := lns_pos W AN hq (g p + 1) p hp (Nat.lt_succ_self _)
      refine ⟨(e2, w'), ?_, trivial⟩
      try dsimp only
      rw [pL_isSound_L172, pL_isSound_L172_B, if_neg (nI_ge hq (by omega)), k1]
      simp only [on, uc2]
      rw [k2]
      simp only [on, uc2]
      rw [if_pos (KV_sym W K1 K2 hp hq), d1]
      simp only [on]
      rw [d2]
      simp only [on]
      rw [if_pos hrr, l1]
      simp only [on, uc2]
      have h3 : nI (3 * i) + 3 = nI (3 * (i + 1)) := by rw [n3, nI_add]; congr 1
      by_cases c : 0 < lns pr a b p (3 * i)
      · rw [show (if nI (lns pr a b p (3 * i)) ≤ 0 then _ else _) = _ from if_neg (by rw [n0]; exact nI_ge c (by omega))]
        by_cases e : p = 3 * i
        · rw [if_pos (by rw [← e])]
          first
            | rw [if_pos trivial]
            | rw [if_pos rfl]
          simp only [lb]
          rw [h3]
        · rw [if_neg (fun z => e ((nI_eq (by omega) (by omega)).mp z)), if_pos ((bt_shr1 (by omega)).mpr (by rw [(hr p hp).2]; exact (hps.mp c).resolve_left e))]
          first
            | rw [if_pos trivial]
            | rw [if_pos rfl]
          simp only [lb]
          rw [h3]
      · have c0 : lns pr a b p (3 * i) = 0 := by omega
        have c1 : p ≠ 3 * i := fun z => c (hps.mpr (Or.inl z))
        have c2 : ¬ an p (3 * i) = true := fun z => c (hps.mpr (Or.inr z))
        rw [show (if nI (lns pr a b p (3 * i)) ≤ 0 then _ else _) = _ from if_pos (by rw [c0, n0]; exact nI_le (Nat.le_refl _) (by omega)),
          if_neg (fun z => c1 ((nI_eq (by omega) (by omega)).mp z)), if_neg (fun z => c2 (by rw [← (hr p hp).2]; exact (bt_shr1 (by omega)).mp z))]
        first
          | rw [if_pos trivial]
          | rw [if_pos rfl]
        simp only [lb]
        rw [h3]) FU 0 (e0, wy) (Nat.zero_le _) (by show (n + 2) / 3 - 0 < 1024; omega) trivial
  obtain ⟨z, e1, e', w', rfl⟩ := hL
  exact ⟨e', w', e1⟩
theorem S_122 (W : WF n u pr a b g) (AN : ANC n pr a b an) (L : LAY n u a b g pl bx) (F : FX n u pr a b pu fp sp) (Q : RF n u a b g an ge am lv rf) (R : RX n u a b g pl bx od rs po fb sb) {p : Nat} (hp : p < n)
    (kk : Int32 → (Nat → Int32) → (Nat → Int32) → (Nat → Int64) → (Nat → Int32) → Option ((Bool × (Nat → Int32) × (Nat → Int32) × (Nat → Int64) × (Nat → Int32)) ⊕ ((Nat → Int32) × (Nat → Int32) × (Nat → Int64) × (Nat → Int32)))) :
    ∃ e' w', pL_isSound_J122 e0 wy fp ge lA pu (nI n) py rf (nI (rowsN g n)) sp (nI u) kk (nI n) fb od po rs sb (nI p) fc mc (am p) = kk (nI (p + 1)) fc mc e' w' := by
  have hn := W.n16
  have hx : p < 28 := by omega
  have h16 : p < 16 := by omega
  have ht : th n u a b g p = true := by rw [th_p h16]; exact decide_eq_true hp
  have hrb : rb a b g p = g p := rb_p h16
  obtain ⟨l1, l2⟩ := L.1 p hx ht
  rw [hrb] at l1 l2
  have hrow : g p < rowsN g n := rowsN_lt hp
  obtain ⟨e', w', q1⟩ := S_172 (e0 := e0) (wy := wy) W AN F Q.1 hp
  refine ⟨e', w', ?_⟩
  unfold pL_isSound_J122
  rw [A_person1 hn hp]
  simp only [on]
  rw [A_place hn hp]
  simp only [on]
  rw [(Q.1 p hp).1, R.2.2.1 p hx ht, A_box0 W (fun w hw => (Q.2 w hw).2) R L hrow l1]
  simp only [on, uc3]
  rw [l2, show pp a b g p = p from if_pos h16, if_pos rfl, A_box1 W R hrow l1 l2 h16]
  simp only [on, uc3]
  first
    | rw [if_pos trivial]
    | rw [if_pos rfl]
  rw [q1]
  simp only [os, uc2, pL_isSound_J267, lb]
  rw [n1, nI_add]
theorem S_13 (W : WF n u pr a b g) (AN : ANC n pr a b an) (L : LAY n u a b g pl bx) (F : FX n u pr a b pu fp sp) (Q : RF n u a b g an ge am lv rf) (R : RX n u a b g pl bx od rs po fb sb) :
    ∃ fc' mc' e' w', pL_isSound_L13 am fp ge lA lv pu (nI n) py rf (nI (rowsN g n)) sp (nI u) uY (nI n) fb od po rs sb FU 0 fc mc e0 wy = some (.inr (fc', mc', e', w')) := by
  have hn := W.n16
  have hu := W.u12
  have hL := loop_all (fun k i (s : (Nat → Int32) × (Nat → Int32) × (Nat → Int64) × (Nat → Int32)) => pL_isSound_L13 am fp ge lA lv pu (nI n) py rf (nI (rowsN g n)) sp (nI u) uY (nI n) fb od po rs sb k (nI i) s.1 s.2.1 s.2.2.1 s.2.2.2) n
    (fun _ _ => True)
    (fun z => ∃ fc' mc' e' w', z = .inr (fc', mc', e', w')) (by
      intro k s _
      refine ⟨.inr (s.1, s.2.1, s.2.2.1, s.2.2.2), ?_, s.1, s.2.1, s.2.2.1, s.2.2.2, rfl⟩
      try dsimp only
      rw [pL_isSound_L13, pL_isSound_L13_B, if_pos (nI_le (Nat.le_refl _) (by omega))]) (by
      intro k i s hi _
      have hg := W.glt hi
      have haa : an i i = false := by
        cases h : an i i with
        | false => rfl
        | true => have := (AN.lt W (g i + 1) i i (Nat.lt_succ_self _) hi h).2; omega
      obtain ⟨e', w', q1⟩ := S_122 (e0 := s.2.2.1) (wy := s.2.2.2) (lA := lA) (py := py) (fc := s.1) (mc := s.2.1) W AN L F Q R hi (pL_isSound_L13 am fp ge lA lv pu (nI n) py rf (nI (rowsN g n)) sp (nI u) uY (nI n) fb od po rs sb k)
      refine ⟨(s.1, s.2.1, e', w'), ?_, trivial⟩
      try dsimp only
      rw [pL_isSound_L13, pL_isSound_L13_B, if_neg (nI_ge hi (by omega)), A_ancestors hn hi]
      simp only [on]
      rw [if_neg (fun z => by
        have := (bt_shr1 (by omega)).mp z
        rw [(Q.1 i hi).2, haa] at this
        cases this), A_descendants W Q.1 hi]
      simp only [on]
      rw [if_neg (fun z => by
        have := (bt_shr1 (by omega)).mp z
        rw [bt_mkm, haa, Bool.and_false, Bool.and_false] at this
        cases this), A_person2 hn hi]
      simp only [on]
      rw [F.1 i hi]
      by_cases c : pr i < 12
      · have hw := W.pr12 hi c
        have hgen := W.gen hi c
        have hlw : lw a b g (pr i) = max (g (a (pr i))) (g (b (pr i))) := rfl
        rw [if_pos (oN_ge.mpr c), oN_in c, A_children W F hw]
        simp only [on]
        rw [if_neg (fun z => by
          have := (bt_shr (by omega)).mp z
          rw [bt_mkm, decide_eq_true (show i < 16 by omega), decide_eq_true hi] at this
          simp at this), A_person1 hn hi]
        simp only [on]
        rw [A_union3 hu hw]
        simp only [on, uc3]
        rw [(Q.1 i hi).1, (Q.2 _ hw).1, if_pos (by rw [n1, nI_add, hgen, hlw]), q1]
      · have h0 : am i = 0 := bt_ext fun q _ => by rw [(Q.1 i hi).2, AN.none hi c, bt_zero]
        rw [if_neg (fun z => c (oN_ge.mp z)), if_pos h0, A_person1 hn hi]
        simp only [on]
        rw [(Q.1 i hi).1, W.gen0 hi c, if_pos (show nI 0 = 0 from rfl), q1]) FU 0 (fc, mc, e0, wy) (Nat.zero_le _) (by show n - 0 < 1024; omega) trivial
  obtain ⟨z, e1, fc', mc', e', w', rfl⟩ := hL
  exact ⟨fc', mc', e', w', e1⟩
theorem S_292 (W : WF n u pr a b g) (L : LAY n u a b g pl bx) (F : FX n u pr a b pu fp sp) (Q : RF n u a b g an ge am lv rf) (R : RX n u a b g pl bx od rs po fb sb) (C : LCX n lc lA) (hlc : ∀ p, p < n → lc p ≤ 8) {r : Nat} (hr : r < rowsN g n) :
    ∃ fc' mc', pL_isSound_L292 lA pu rf (nI (rowsN g n)) fb od rs sb (nI r) FU 0 0 fc mc = some (.inr (fc', mc')) := by
  have hsz := sz_le W (r := r)
  have hQ := fun w hw => (Q.2 w hw).2
  have hL := loop_all (fun k i (s : Nat × (Nat → Int32) × (Nat → Int32)) => pL_isSound_L292 lA pu rf (nI (rowsN g n)) fb od rs sb (nI r) k (nI s.1) (nI i) s.2.1 s.2.2) (sz n u a b g r)
    (fun i s => (i = 0 → s.1 = 0) ∧ ∀ j, i = j + 1 → s.1 = colF n u pr a b g lc bx (bx r j) + wd a b g lc (bx r j) + 1)
    (fun z => ∃ fc' mc', z = .inr (fc', mc')) (by
      intro k s _
      refine ⟨.inr (s.2.1, s.2.2), ?_, s.2.1, s.2.2, rfl⟩
      try dsimp only
      rw [pL_isSound_L292, pL_isSound_L292_B, A_boxes W R.1 hr]
      simp only [on]
      rw [if_pos (nI_le (Nat.le_refl _) (by omega))]) (by
      intro k i s hi hs
      obtain ⟨f1, m1, b1⟩ := A_box2 (fc := s.2.1) (mc := s.2.2) W F hQ C hlc R L hr hi
      obtain ⟨f2, m2, b2⟩ := A_box2 (fc := f1) (mc := m1) W F hQ C hlc R L hr hi
      obtain ⟨q1, q2, -⟩ := L.2 r i hi
      have hcl := call_lt (c := fun _ => 0) (pr := pr) W hlc L q1 q2
      have hcf : colF n u pr a b g lc bx (bx r i) = call n u pr a b g lc bx (rowsN g n) (fun _ => 0) (bx r i) := rfl
      have hle : s.1 ≤ colF n u pr a b g lc bx (bx r i) := by
        by_cases c : i = 0
        · rw [hs.1 c]; exact Nat.zero_le _
        · rw [hs.2 (i - 1) (by omega)]
          have := colF_apart (lc := lc) (pr := pr) L hr (show i - 1 + 1 < sz n u a b g r by omega)
          rw [show i - 1 + 1 = i by omega] at this
          exact this
      refine ⟨(colF n u pr a b g lc bx (bx r i) + wd a b g lc (bx r i) + 1, f2, m2), ?_, fun z => by omega, fun j hj => by rw [show j = i by omega]⟩
      try dsimp only
      rw [pL_isSound_L292, pL_isSound_L292_B, A_boxes W R.1 hr]
      simp only [on]
      rw [if_neg (nI_ge hi (by omega)), b1]
      simp only [on, uc3]
      rw [if_pos (nI_le hle (by omega)), b2]
      simp only [on, uc3]
      rw [A_box3 W hQ C R L hr hi]
      simp only [on, uc3, lb]
      rw [n1, nI_add, nI_add, nI_add]) FU 0 (0, fc, mc) (Nat.zero_le _) (by show sz n u a b g r - 0 < 1024; omega) ⟨fun _ => rfl, fun j hj => by omega⟩
  obtain ⟨z, e1, fc', mc', rfl⟩ := hL
  exact ⟨fc', mc', e1⟩
theorem S_276 (W : WF n u pr a b g) (L : LAY n u a b g pl bx) (F : FX n u pr a b pu fp sp) (Q : RF n u a b g an ge am lv rf) (R : RX n u a b g pl bx od rs po fb sb) (C : LCX n lc lA) (hlc : ∀ p, p < n → lc p ≤ 8) :
    ∃ fc' mc', pL_isSound_L276 fp lA lv pu (nI n) rf (nI (rowsN g n)) sp (nI u) fb od po rs sb FU 0 0 0 fc mc = some (.inr (nI (st n u a b g (rowsN g n)), nI (tot n u pr a b g pl), fc', mc')) := by
  have hR := rows16 W
  have hL := loop_all (fun k i (s : (Nat → Int32) × (Nat → Int32)) => pL_isSound_L276 fp lA lv pu (nI n) rf (nI (rowsN g n)) sp (nI u) fb od po rs sb k (nI (st n u a b g i)) (nI (sm (fun r => ci u a b g pl r + cb n pr a b g pl r) i)) (nI i) s.1 s.2) (rowsN g n)
    (fun _ _ => True)
    (fun z => ∃ fc' mc', z = .inr (nI (st n u a b g (rowsN g n)), nI (tot n u pr a b g pl), fc', mc')) (by
      intro k s _
      refine ⟨_, ?_, s.1, s.2, rfl⟩
      try dsimp only
      rw [pL_isSound_L276, pL_isSound_L276_B, A_count2]
      simp only [ob]
      rw [if_pos (nI_le (Nat.le_refl _) (by omega))]
      rfl) (by
      intro k i s hi _
      obtain ⟨f1, m1, q1⟩ := S_292 (fc := s.1) (mc := s.2) W L F Q R C hlc hi
      refine ⟨(f1, m1), ?_, trivial⟩
      try dsimp only
      rw [pL_isSound_L276, pL_isSound_L276_B, A_count2]
      simp only [ob]
      rw [if_neg (nI_ge hi (by omega)), q1]
      simp only [os, uc2, pL_isSound_J348]
      rw [A_boxes W R.1 hi]
      simp only [on, lb]
      rw [A_crossIn W (fun w hw => (Q.2 w hw).1) R L hi]
      simp only [on]
      rw [A_crossBelow W F R L hi]
      simp only [on]
      rw [n1, nI_add, nI_add, nI_add, nI_add]
      rfl) FU 0 (fc, mc) (Nat.zero_le _) (by show rowsN g n - 0 < 1024; omega) trivial
  obtain ⟨z, e1, fc', mc', rfl⟩ := hL
  exact ⟨fc', mc', e1⟩
theorem S_sound (U : US n u pr a b g an pl bx) (X : UX n u pr a b g an uy pl bx pu fp sp uY ge am lv rf od rs po fb sb) (C : LCX n lc lA) (hlc : ∀ p, p < n → lc p ≤ 8) :
    ∃ fc' mc' e' w', pL_isSound (nI n) (nI u) (nI (rowsN g n)) fc mc e0 wy am fp ge lA lv pu py rf sp uY fb od po rs sb = some (true, fc', mc', e', w') := by
  obtain ⟨W, AN, L⟩ := U
  obtain ⟨F, -, Q, R⟩ := X
  obtain ⟨f1, m1, e', w', q1⟩ := S_13 (e0 := e0) (wy := wy) (lA := lA) (py := py) (uY := uY) (fc := fc) (mc := mc) W AN L F Q R
  obtain ⟨f2, m2, q2⟩ := S_276 (fc := f1) (mc := m1) W L F Q R C hlc
  refine ⟨f2, m2, e', w', ?_⟩
  have hc := RCN_le W
  have hu := W.u12
  unfold pL_isSound
  rw [A_count0]
  simp only [ob]
  rw [q1]
  simp only [os, uc4, pL_isSound_J273]
  rw [show bI false = 0 from rfl, q2]
  simp only [os, uc4, pL_isSound_J381]
  rw [A_count3 W R.1]
  simp only [ob]
  rw [if_pos (by rw [st_all W, th_cnt W]), A_count4 W R.1]
  simp only [ob]
  rw [if_pos (by rw [st_all W, th_cnt W, nI_add]), A_crossings W F (fun w hw => (Q.2 w hw).1) R L]
  simp only [ob]
  first
    | rw [if_pos trivial]
    | rw [if_pos rfl]
  rw [A_count1]
  simp only [ob]
  rw [if_neg (nI_nlt hc (by omega))]
end YSND
