section OWN2
variable {n u : Nat} {pr a b g : Nat → Nat} {an : Nat → Nat → Bool} {pn ge lv : Nat → Int32} {un od : Nat → Nat → Int32} {nu no : Nat} {ln : Nat → Nat} {pl : Nat → Nat} {bx : Nat → Nat → Nat}
/-- two lines cross, as the law asks it -/
theorem O_crs {α : Type} {A B C D : Nat} (hA : A < 100) (hB : B < 100) (hC : C < 100) (hD : D < 100) (T F : α) :
    (if nI (min C D) ≤ nI (min A B) then (if nI (min A B) ≤ nI (min C D) then F else (if nI (max C D) ≤ nI (min A B) then F else (if nI (max A B) ≤ nI (max C D) then F else T))) else
      (if nI (max A B) ≤ nI (min C D) then (if nI (min A B) ≤ nI (min C D) then F else (if nI (max C D) ≤ nI (min A B) then F else (if nI (max A B) ≤ nI (max C D) then F else T))) else
        (if nI (max A B) < nI (max C D) then T else (if nI (min A B) ≤ nI (min C D) then F else (if nI (max C D) ≤ nI (min A B) then F else (if nI (max A B) ≤ nI (max C D) then F else T)))))) = if XP A B C D then T else F := by
  have e1 : nI (min C D) ≤ nI (min A B) ↔ min C D ≤ min A B := nI_leI (by omega) (by omega)
  have e2 : nI (min A B) ≤ nI (min C D) ↔ min A B ≤ min C D := nI_leI (by omega) (by omega)
  have e3 : nI (max C D) ≤ nI (min A B) ↔ max C D ≤ min A B := nI_leI (by omega) (by omega)
  have e4 : nI (max A B) ≤ nI (max C D) ↔ max A B ≤ max C D := nI_leI (by omega) (by omega)
  have e5 : nI (max A B) ≤ nI (min C D) ↔ max A B ≤ min C D := nI_leI (by omega) (by omega)
  have e6 : nI (max A B) < nI (max C D) ↔ max A B < max C D := nI_ltI (by omega) (by omega)
  simp only [e1, e2, e3, e4, e5, e6]
  by_cases hX : XP A B C D
  · rw [if_pos hX]
    unfold XP at hX
    repeat' split
    all_goals first | rfl | (exfalso; omega)
  · rw [if_neg hX]
    unfold XP at hX
    repeat' split
    all_goals first | rfl | (exfalso; omega)
theorem O_inRow (W : WF n u pr a b g) (F : OF n u pr a b pn un nu) (G : OG n u a b g ge lv) (O : OO n u a b g bx ln od no) (L : LAY n u a b g pl bx) {r : Nat} (hr : r < 100) :
    p10_inRow (nI u) ge lv un nu ln od no (nI r) = some (nI (ci u a b g pl r)) := by
  have hu := W.u12
  have hci : ci u a b g pl r = sm (fun w => cnt (fun v => decide (w < v) && cpr a b g pl r w v) u) u := by
    unfold ci
    refine (sm_lower (f := fun w v => cpr a b g pl r w v) fun x y => ?_).symm
    try dsimp only
    unfold cpr
    rw [crs_sym, Bool.and_comm (decide (lw a b g x = r))]
  have hin : ∀ w, w < u → ∀ s0, p10_inRow_L17 ge lv ln no nu od un (nI u) (nI r) (nI w) FU (nI s0) (nI (w + 1)) = some (nI (s0 + cnt (fun v => decide (w < v) && cpr a b g pl r w v) u)) := by
    intro w hw s0
    have kw := lw_lt W hw
    have hL := loop_all (fun k i (s : Nat) => p10_inRow_L17 ge lv ln no nu od un (nI u) (nI r) (nI w) k (nI s) (nI i)) u
      (fun i s => w < i ∧ s = s0 + cnt (fun v => decide (w < v) && cpr a b g pl r w v) i) (fun s => s = nI (s0 + cnt (fun v => decide (w < v) && cpr a b g pl r w v) u)) (by
        intro k s hs
        refine ⟨nI s, ?_, by rw [hs.2]⟩
        try dsimp only
        rw [p10_inRow_L17, p10_inRow_L17_B, if_pos (nI_le (Nat.le_refl _) (by omega))]) (by
        intro k i s hi hs
        have ki := lw_lt W (w := i) hi
        refine ⟨s0 + cnt (fun v => decide (w < v) && cpr a b g pl r w v) (i + 1), ?_, by omega, rfl⟩
        try dsimp only
        rw [p10_inRow_L17, p10_inRow_L17_B, if_neg (nI_ge hi (by omega)), O_level W G hw, cnt_s, hs.2]
        simp only [ob]
        have hwi : decide (w < i) = true := decide_eq_true hs.1
        by_cases e : lw a b g w = r
        · rw [if_pos (by rw [e]), O_level W G hi]
          simp only [ob]
          by_cases e2 : lw a b g i = r
          · have q1 := pa_lt W L hw
            have q2 := pb_lt W L hw
            have q3 := pa_lt W L hi
            have q4 := pb_lt W L hi
            rw [if_pos (by rw [e2]), O_atA W F G O L hw]
            simp only [ob]
            rw [O_atB W F G O L hw]
            simp only [ob, lb]
            rw [O_atA W F G O L hi]
            simp only [ob, lb]
            rw [O_atB W F G O L hi]
            simp only [ob, lb]
            rw [imin_nI (by omega) (by omega), imax_nI (by omega) (by omega), imin_nI (by omega) (by omega), imax_nI (by omega) (by omega)]
            simp only [p10_inRow_J141, lb]
            rw [O_crs (by omega) (by omega) (by omega) (by omega)]
            have hc : (decide (w < i) && cpr a b g pl r w i) = decide (XP (pa a b g pl w) (pb a b g pl w) (pa a b g pl i) (pb a b g pl i)) := by
              unfold cpr crs
              rw [hwi, decide_eq_true e, decide_eq_true e2, Bool.true_and, Bool.true_and, Bool.true_and]
            rw [hc]
            by_cases hX : XP (pa a b g pl w) (pb a b g pl w) (pa a b g pl i) (pb a b g pl i)
            · rw [if_pos hX, decide_eq_true hX, if_pos rfl, n1, nI_add, nI_add]; rfl
            · rw [if_neg hX, decide_eq_false hX, n1, nI_add]; rfl
          · rw [if_neg (fun z => e2 ((nI_eq (by omega) (by omega)).mp z))]
            have hc : (decide (w < i) && cpr a b g pl r w i) = false := by
              unfold cpr
              rw [decide_eq_false e2]; simp
            simp only [lb]
            rw [hc, n1, nI_add]; rfl
        · rw [if_neg (fun z => e ((nI_eq (by omega) (by omega)).mp z))]
          have hc : (decide (w < i) && cpr a b g pl r w i) = false := by
            unfold cpr
            rw [decide_eq_false e]; simp
          simp only [lb]
          rw [hc, n1, nI_add]; rfl) FU (w + 1) s0 (by omega) (by show u - (w + 1) < 1024; omega) ⟨by omega, by rw [cnt_ge (n := u) hw]; rfl⟩
    obtain ⟨s, e1, f1⟩ := hL
    try dsimp only at e1
    rw [e1, f1]
  unfold p10_inRow
  have hL := loop_all (fun k i (s : Nat) => p10_inRow_L4 ge lv ln no nu od un (nI u) (nI r) k (nI s) (nI i)) u
    (fun i s => s = sm (fun w => cnt (fun v => decide (w < v) && cpr a b g pl r w v) u) i) (fun s => s = nI (ci u a b g pl r)) (by
      intro k s hs
      refine ⟨nI s, ?_, by rw [hs, hci]⟩
      try dsimp only
      rw [p10_inRow_L4, p10_inRow_L4_B, if_pos (nI_le (Nat.le_refl _) (by omega))]) (by
      intro k i s hi hs
      refine ⟨sm (fun w => cnt (fun v => decide (w < v) && cpr a b g pl r w v) u) (i + 1), ?_, rfl⟩
      try dsimp only
      rw [p10_inRow_L4, p10_inRow_L4_B, if_neg (nI_ge hi (by omega)), n1, nI_add]
      simp only [lb]
      rw [hin i hi]
      simp only [ob, p10_inRow_J171, lb]
      rw [n1, nI_add, sm_s, hs]) FU 0 0 (Nat.zero_le _) (by show u - 0 < 1024; omega) rfl
  obtain ⟨s, e1, f1⟩ := hL
  try dsimp only at e1
  rw [n0, e1]
  simp only [ob, p10_inRow_J177]
  rw [f1]
/-- children p, o of the row below r cross -/
def obl (pr a b g pl : Nat → Nat) (r p o : Nat) : Bool := decide (pr p < 12) && decide (pr o < 12) && decide (lw a b g (pr p) = r) && decide (lw a b g (pr o) = r) && decide (mid a b g pl (pr p) < mid a b g pl (pr o)) && decide (pl o < pl p)
theorem obl_ivp (W : WF n u pr a b g) {r p o : Nat} (hp : p < n) (ho : o < n) : obl pr a b g pl r p o = ivp n pr a b g pl r o p := by
  have h : ∀ x, x < n → (decide (pr x < 12) && decide (lw a b g (pr x) = r)) = decide (g x = r + 1) := by
    intro x hx
    by_cases c : pr x < 12
    · rw [decide_eq_true c, Bool.true_and]
      exact decide_eq_decide.mpr (W.lvl hx c).symm
    · rw [decide_eq_false c, Bool.false_and]
      have := W.gen0 hx c
      exact (decide_eq_false (by omega)).symm
  unfold obl ivp
  rw [decide_eq_true hp, decide_eq_true ho, ← h p hp, ← h o ho]
  cases decide (pr p < 12) <;> cases decide (pr o < 12) <;> cases decide (lw a b g (pr p) = r) <;> cases decide (lw a b g (pr o) = r) <;> cases decide (mid a b g pl (pr p) < mid a b g pl (pr o)) <;> cases decide (pl o < pl p) <;> rfl
theorem cb_obl (W : WF n u pr a b g) {r : Nat} : cb n pr a b g pl r = sm (fun p => cnt (obl pr a b g pl r p) n) n := by
  unfold cb
  have e1 : ∀ c, cnt (ivp n pr a b g pl r c) n = sm (fun d => if ivp n pr a b g pl r c d then 1 else 0) n := fun c => cnt_sm _ _
  have e2 : ∀ p, cnt (obl pr a b g pl r p) n = sm (fun o => if obl pr a b g pl r p o then 1 else 0) n := fun p => cnt_sm _ _
  rw [sm_congr (fun c _ => e1 c), sm_swap, sm_congr (fun p _ => e2 p)]
  refine sm_congr fun p hp => sm_congr fun o ho => ?_
  rw [obl_ivp W hp ho]
theorem O_placeP (W : WF n u pr a b g) (O : OO n u a b g bx ln od no) (L : LAY n u a b g pl bx) {p : Nat} (hp : p < n) : p10_place ln od no (nI (g p)) (nI p) = some (nI (pl p)) := by
  have hn := W.n16
  have h := O_place W O L (x := p) (by omega) (by rw [th_p (by omega)]; exact decide_eq_true hp)
  rw [rb_p (by omega)] at h
  exact h
theorem pl28 (W : WF n u pr a b g) (L : LAY n u a b g pl bx) {x : Nat} (hx : x < 28) (ht : th n u a b g x = true) : pl x < 28 := by
  have := (L.1 x hx ht).1
  have := sz_le W (r := rb a b g x)
  omega
theorem plP28 (W : WF n u pr a b g) (L : LAY n u a b g pl bx) {p : Nat} (hp : p < n) : pl p < 28 := by
  have hn := W.n16
  exact pl28 W L (by omega) (by rw [th_p (by omega)]; exact decide_eq_true hp)
theorem O_below (W : WF n u pr a b g) (F : OF n u pr a b pn un nu) (G : OG n u a b g ge lv) (O : OO n u a b g bx ln od no) (L : LAY n u a b g pl bx) {r : Nat} (hr : r < 100) :
    p10_below (nI n) ge lv pn un nu ln od no (nI r) = some (nI (cb n pr a b g pl r)) := by
  have hu := W.u12
  have hn := W.n16
  have hin : ∀ p, p < n → ∀ s0, p10_below_L15 ge lv ln no nu od pn (nI n) un (nI r) (nI p) FU (nI s0) (nI 0) = some (nI (s0 + cnt (obl pr a b g pl r p) n)) := by
    intro p hp s0
    have hL := loop_all (fun k i (s : Nat) => p10_below_L15 ge lv ln no nu od pn (nI n) un (nI r) (nI p) k (nI s) (nI i)) n
      (fun i s => s = s0 + cnt (obl pr a b g pl r p) i) (fun s => s = nI (s0 + cnt (obl pr a b g pl r p) n)) (by
        intro k s hs
        refine ⟨nI s, ?_, by rw [hs]⟩
        try dsimp only
        rw [p10_below_L15, p10_below_L15_B, if_pos (nI_le (Nat.le_refl _) (by omega))]) (by
        intro k i s hi hs
        refine ⟨s0 + cnt (obl pr a b g pl r p) (i + 1), ?_, rfl⟩
        try dsimp only
        rw [p10_below_L15, p10_below_L15_B, if_neg (nI_ge hi (by omega)), gd_in (by omega) (by omega), nI_clamp (by omega), F.1 p hp, cnt_s, hs]
        have no0 : obl pr a b g pl r p i = false → lb (nI i + 1) (fun t122 => p10_below_L15 ge lv ln no nu od pn (nI n) un (nI r) (nI p) k (nI (s0 + cnt (obl pr a b g pl r p) i)) t122) = p10_below_L15 ge lv ln no nu od pn (nI n) un (nI r) (nI p) k (nI (s0 + (cnt (obl pr a b g pl r p) i + if obl pr a b g pl r p i = true then 1 else 0))) (nI (i + 1)) := by
          intro h
          simp only [lb]
          rw [h, n1, nI_add]; rfl
        by_cases c1 : pr p < 12
        · rw [if_neg (fun q => (oN_lt.mp q) c1), gd_in (by omega) (by omega), nI_clamp (by omega), F.1 i hi]
          have hw := W.pr12 hp c1
          by_cases c2 : pr i < 12
          · have hv := W.pr12 hi c2
            have kw := lw_lt W hw
            have kv := lw_lt W hv
            rw [if_neg (fun q => (oN_lt.mp q) c2), gd_in (by omega) (by omega), oN_in c1, oN_in c2, O_level W G hw]
            simp only [ob]
            by_cases e1 : lw a b g (pr p) = r
            · rw [if_pos (by rw [e1]), gd_in (by omega) (by omega), O_level W G hv]
              simp only [ob]
              by_cases e2 : lw a b g (pr i) = r
              · have m1 := mid_lt W L hw
                have m2 := mid_lt W L hv
                rw [if_pos (by rw [e2]), gd_in (by omega) (by omega), O_middle W F G O L hw]
                simp only [ob]
                rw [gd_in (by omega) (by omega), O_middle W F G O L hv]
                simp only [ob]
                by_cases e3 : mid a b g pl (pr p) < mid a b g pl (pr i)
                · have gp : g p = r + 1 := (W.lvl hp c1).mpr e1
                  have gi : g i = r + 1 := (W.lvl hi c2).mpr e2
                  have P1 := O_placeP W O L hp
                  have P2 := O_placeP W O L hi
                  have l1 := plP28 W L hp
                  have l2 := plP28 W L hi
                  rw [gp] at P1
                  rw [gi] at P2
                  rw [if_neg (nI_ge e3 (by omega)), n1, nI_add, P1]
                  simp only [ob]
                  rw [P2]
                  simp only [ob]
                  by_cases e4 : pl i < pl p
                  · have h : obl pr a b g pl r p i = true := by
                      unfold obl
                      rw [decide_eq_true c1, decide_eq_true c2, decide_eq_true e1, decide_eq_true e2, decide_eq_true e3, decide_eq_true e4]; rfl
                    rw [if_neg (nI_ge e4 (by omega)), h, if_pos rfl]
                    simp only [lb]
                    rw [nI_add, nI_add]
                    congr 2
                  · rw [if_pos (nI_le (by omega) (by omega))]
                    exact no0 (by unfold obl; rw [decide_eq_false e4]; simp)
                · rw [if_pos (nI_le (by omega) (by omega))]
                  exact no0 (by unfold obl; rw [decide_eq_false e3]; simp)
              · rw [if_neg (fun z => e2 ((nI_eq (by omega) (by omega)).mp z))]
                exact no0 (by unfold obl; rw [decide_eq_false e2]; simp)
            · rw [if_neg (fun z => e1 ((nI_eq (by omega) (by omega)).mp z))]
              exact no0 (by unfold obl; rw [decide_eq_false e1]; simp)
          · rw [if_pos (oN_lt.mpr c2)]
            exact no0 (by unfold obl; rw [decide_eq_false c2]; simp)
        · rw [if_pos (oN_lt.mpr c1)]
          exact no0 (by unfold obl; rw [decide_eq_false c1]; simp)) FU 0 s0 (Nat.zero_le _) (by show n - 0 < 1024; omega) rfl
    obtain ⟨s, e1, f1⟩ := hL
    try dsimp only at e1
    rw [e1, f1]
  unfold p10_below
  have hL := loop_all (fun k i (s : Nat) => p10_below_L4 ge lv ln no nu od pn (nI n) un (nI r) k (nI s) (nI i)) n
    (fun i s => s = sm (fun p => cnt (obl pr a b g pl r p) n) i) (fun s => s = nI (cb n pr a b g pl r)) (by
      intro k s hs
      refine ⟨nI s, ?_, by rw [hs, cb_obl W]⟩
      try dsimp only
      rw [p10_below_L4, p10_below_L4_B, if_pos (nI_le (Nat.le_refl _) (by omega))]) (by
      intro k i s hi hs
      refine ⟨sm (fun p => cnt (obl pr a b g pl r p) n) (i + 1), ?_, rfl⟩
      try dsimp only
      rw [p10_below_L4, p10_below_L4_B, if_neg (nI_ge hi (by omega)), n0, hin i hi]
      simp only [ob, p10_below_J128, lb]
      rw [n1, nI_add, sm_s, hs]) FU 0 0 (Nat.zero_le _) (by show n - 0 < 1024; omega) rfl
  obtain ⟨s, e1, f1⟩ := hL
  try dsimp only at e1
  rw [n0, e1]
  simp only [ob, p10_below_J134]
  rw [f1]
theorem O_all (W : WF n u pr a b g) (F : OF n u pr a b pn un nu) (G : OG n u a b g ge lv) (O : OO n u a b g bx ln od no) (L : LAY n u a b g pl bx) :
    p10_all (nI n) (nI u) (nI (rowsN g n)) ge lv pn un nu ln od no = some (nI (tot n u pr a b g pl)) := by
  have h16 := rows16 W
  unfold p10_all
  have hL := loop_all (fun k i (s : Nat) => p10_all_L4 ge lv ln no nu od pn (nI n) (nI (rowsN g n)) un (nI u) k (nI s) (nI i)) (rowsN g n)
    (fun i s => s = sm (fun r => ci u a b g pl r + cb n pr a b g pl r) i) (fun s => s = nI (tot n u pr a b g pl)) (by
      intro k s hs
      refine ⟨nI s, ?_, by rw [hs]; rfl⟩
      try dsimp only
      rw [p10_all_L4, p10_all_L4_B, if_pos (nI_le (Nat.le_refl _) (by omega))]) (by
      intro k i s hi hs
      refine ⟨sm (fun r => ci u a b g pl r + cb n pr a b g pl r) (i + 1), ?_, rfl⟩
      try dsimp only
      rw [p10_all_L4, p10_all_L4_B, if_neg (nI_ge hi (by omega)), O_inRow W F G O L (by omega)]
      simp only [ob]
      rw [O_below W F G O L (by omega)]
      simp only [ob, lb]
      rw [n1, nI_add, nI_add, nI_add, sm_s, hs]) FU 0 0 (Nat.zero_le _) (by show rowsN g n - 0 < 1024; omega) rfl
  obtain ⟨s, e1, f1⟩ := hL
  try dsimp only at e1
  rw [n0, e1]
  simp only [ob, p10_all_J32]
  rw [f1]
theorem O_turn (W : WF n u pr a b g) (O : OO n u a b g bx ln od no) {r i j : Nat} (hr : r < rowsN g n) (hi : i < sz n u a b g r) (hj : j < sz n u a b g r) :
    ∃ od', p10_turn ln od no (nI r) (nI i) (nI j) = some od' ∧ OO n u a b g (bxS r i j bx) ln od' no := by
  have h16 := rows16 W
  have hsz := sz_le W (r := r)
  obtain ⟨hln, hod⟩ := O.2 r hr
  refine ⟨upR (upR od r (upd (od r) i (od r j))) r (upd (upR od r (upd (od r) i (od r j)) r) j (od r i)), ?_, ?_⟩
  · unfold p10_turn
    rw [O.1]
    simp only [gd_in (show r < 16 by omega) (show (16 : Nat) < 2147483648 by omega), gd_in hr (show rowsN g n < 2147483648 by omega), nI_clamp (show r < 2147483648 by omega), nI_clamp (show i < 2147483648 by omega), nI_clamp (show j < 2147483648 by omega), hln, gd_in hi (show sz n u a b g r < 2147483648 by omega), gd_in hj (show sz n u a b g r < 2147483648 by omega), lb]
  · refine ⟨O.1, fun r' hr' => ⟨(O.2 r' hr').1, fun k hk => ?_⟩⟩
    unfold upR bxS
    by_cases e : r' = r
    · subst e
      rw [if_pos rfl, if_pos rfl, if_pos rfl]
      unfold upd
      by_cases e1 : k = j
      · rw [if_pos e1, if_pos e1, hod i hi]
      · rw [if_neg e1, if_neg e1]
        by_cases e2 : k = i
        · rw [if_pos e2, if_pos e2, hod j hj]
        · rw [if_neg e2, if_neg e2, hod k hk]
    · rw [if_neg e, if_neg e, if_neg e]
      exact (O.2 r' hr').2 k hk
theorem O_impRow (W : WF n u pr a b g) (F : OF n u pr a b pn un nu) (G : OG n u a b g ge lv) {s0 : Nat × (Nat → Nat) × (Nat → Nat → Nat)} (O : OO n u a b g s0.2.2 ln od no) (L : LAY n u a b g s0.2.1 s0.2.2) {r : Nat} (hr : r < rowsN g n) :
    ∃ od', p10_improve_L34 ge lv ln no nu pn (nI n) (nI (rowsN g n)) un (nI u) (nI r) FU (nI s0.1) (nI 1) od = some (nI (impR n u pr a b g r (sz n u a b g r - 1) s0).1, od') ∧
      OO n u a b g (impR n u pr a b g r (sz n u a b g r - 1) s0).2.2 ln od' no := by
  have h0 := O.1
  subst h0
  have hR := rows16 W
  have hsz := sz_le W (r := r)
  have hL := loop_all (fun k i (s : Nat → Nat → Int32) => p10_improve_L34 ge lv ln (rowsN g n) nu pn (nI n) (nI (rowsN g n)) un (nI u) (nI r) k (nI (impR n u pr a b g r i s0).1) (nI (i + 1)) s) (sz n u a b g r - 1)
    (fun i s => OO n u a b g (impR n u pr a b g r i s0).2.2 ln s (rowsN g n))
    (fun (z : Int32 × (Nat → Nat → Int32)) => z.1 = nI (impR n u pr a b g r (sz n u a b g r - 1) s0).1 ∧ OO n u a b g (impR n u pr a b g r (sz n u a b g r - 1) s0).2.2 ln z.2 (rowsN g n)) (by
      intro k s hs
      refine ⟨(nI (impR n u pr a b g r (sz n u a b g r - 1) s0).1, s), ?_, rfl, hs⟩
      try dsimp only
      rw [p10_improve_L34, p10_improve_L34_B, gd_in (by omega) (by omega), gd_in hr (by omega), nI_clamp (by omega), (hs.2 r hr).1]
      exact if_pos (nI_le (by omega) (by omega))) (by
      intro k i s hi hs
      have hi1 : i + 1 < sz n u a b g r := by omega
      have Li := impR_LAY (pr := pr) L (r := r) (k := i) (by omega)
      have hstep : impR n u pr a b g r (i + 1) s0 = imp1 n u pr a b g r i (impR n u pr a b g r i s0) := rfl
      rw [hstep]
      generalize impR n u pr a b g r i s0 = Z at hs Li ⊢
      obtain ⟨od1, e1, M1⟩ := O_turn W hs hr (i := i) (j := i + 1) (by omega) hi1
      have L1 := Li.swap (r := r) (i := i) (j := i + 1) (by omega) hi1
      have k1 := tot_le (pl := Z.2.1) W
      have k2 := tot_le (pl := plS Z.2.2 r i (i + 1) Z.2.1) W
      have hhead : ∀ (kk : Int32 → Int32 → (Nat → Nat → Int32) → Option (Int32 × (Nat → Nat → Int32))), p10_improve_L34_B ge lv ln (rowsN g n) nu pn (nI n) (nI (rowsN g n)) un (nI u) (nI r) kk (nI Z.1) (nI (i + 1)) s = (if nI (tot n u pr a b g Z.2.1) ≤ nI (tot n u pr a b g (plS Z.2.2 r i (i + 1) Z.2.1)) then ob (p10_turn ln od1 (rowsN g n) (nI r) (nI i) (nI (i + 1))) (fun n_od_89 => kk (nI Z.1) (nI (i + 1 + 1)) n_od_89) else kk (nI (Z.1 + 1)) (nI (i + 1 + 1)) od1) := by
        intro kk
        rw [p10_improve_L34_B, gd_in (by omega) (by omega), gd_in hr (by omega), nI_clamp (by omega), (hs.2 r hr).1]
        rw [show (if Int32.ofNat (sz n u a b g r) ≤ nI (i + 1) then some (nI Z.1, s) else _) = _ from if_neg (nI_ge hi1 (by omega))]
        rw [O_all W F G hs Li]
        simp only [ob]
        rw [n1, nI_sub (by omega), show i + 1 - 1 = i by omega, e1]
        simp only [ob]
        rw [O_all W F G M1 L1]
        simp only [ob, lb]
        rw [nI_add, nI_add]
      by_cases hb : tot n u pr a b g (plS Z.2.2 r i (i + 1) Z.2.1) < tot n u pr a b g Z.2.1
      · have h1 : imp1 n u pr a b g r i Z = (Z.1 + 1, plS Z.2.2 r i (i + 1) Z.2.1, bxS r i (i + 1) Z.2.2) := if_pos hb
        rw [h1]
        refine ⟨od1, ?_, M1⟩
        try dsimp only
        rw [p10_improve_L34, hhead, if_neg (nI_ge (by omega) (by omega))]
      · have h1 : imp1 n u pr a b g r i Z = Z := if_neg hb
        rw [h1]
        obtain ⟨od2, e2, M2⟩ := O_turn W M1 hr (i := i) (j := i + 1) (by omega) hi1
        rw [bxS_back] at M2
        refine ⟨od2, ?_, M2⟩
        try dsimp only
        rw [p10_improve_L34, hhead, if_pos (nI_le (by omega) (by omega)), e2]
        rfl) FU 0 od (Nat.zero_le _) (by show sz n u a b g r - 1 - 0 < 1024; omega) O
  obtain ⟨z, e1, e2, e3⟩ := hL
  refine ⟨z.2, ?_, e3⟩
  rw [← e2]
  exact e1
theorem O_impA (W : WF n u pr a b g) (F : OF n u pr a b pn un nu) (G : OG n u a b g ge lv) (O : OO n u a b g bx ln od no) (L : LAY n u a b g pl bx) :
    ∃ od', p10_improve_L22 ge lv ln no nu pn (nI n) (nI (rowsN g n)) un (nI u) FU (nI 0) (nI 0) od = some (nI (impA n u pr a b g (rowsN g n) (0, pl, bx)).1, od') ∧
      OO n u a b g (impA n u pr a b g (rowsN g n) (0, pl, bx)).2.2 ln od' no := by
  have h0 := O.1
  subst h0
  have hR := rows16 W
  have hL := loop_all (fun k i (s : Nat → Nat → Int32) => p10_improve_L22 ge lv ln (rowsN g n) nu pn (nI n) (nI (rowsN g n)) un (nI u) k (nI (impA n u pr a b g i (0, pl, bx)).1) (nI i) s) (rowsN g n)
    (fun i s => OO n u a b g (impA n u pr a b g i (0, pl, bx)).2.2 ln s (rowsN g n))
    (fun (z : Int32 × (Nat → Nat → Int32)) => z.1 = nI (impA n u pr a b g (rowsN g n) (0, pl, bx)).1 ∧ OO n u a b g (impA n u pr a b g (rowsN g n) (0, pl, bx)).2.2 ln z.2 (rowsN g n)) (by
      intro k s hs
      refine ⟨(nI (impA n u pr a b g (rowsN g n) (0, pl, bx)).1, s), ?_, rfl, hs⟩
      try dsimp only
      rw [p10_improve_L22, p10_improve_L22_B, if_pos (nI_le (Nat.le_refl _) (by omega))]) (by
      intro k i s hi hs
      have Li := impA_LAY (n := n) (u := u) (pr := pr) (a := a) (b := b) (g := g) (s := (0, pl, bx)) L (r := i)
      have hstep : impA n u pr a b g (i + 1) (0, pl, bx) = impR n u pr a b g i (sz n u a b g i - 1) (impA n u pr a b g i (0, pl, bx)) := rfl
      rw [hstep]
      generalize impA n u pr a b g i (0, pl, bx) = Z at hs Li ⊢
      obtain ⟨od1, e1, M1⟩ := O_impRow W F G hs Li hi
      refine ⟨od1, ?_, M1⟩
      try dsimp only
      rw [p10_improve_L22, p10_improve_L22_B, if_neg (nI_ge hi (by omega)), n1, e1]
      simp only [ob, uc2, p10_improve_J98, lb]
      rw [n1, nI_add]) FU 0 od (Nat.zero_le _) (by show rowsN g n - 0 < 1024; omega) O
  obtain ⟨z, e1, e2, e3⟩ := hL
  refine ⟨z.2, ?_, e3⟩
  rw [← e2]
  exact e1
end OWN2
