/-! strips of a line put together are the line; each mark is printed once -/
theorem sm_cls {N R : Nat} (f : Nat → Nat) (h : ∀ w, w < N → f w ≤ R) : sm (fun r => cnt (fun w => decide (f w = r + 1)) N) R = cnt (fun w => decide (0 < f w)) N := by
  rw [sm_congr (g := fun r => sm (fun w => if decide (f w = r + 1) then 1 else 0) N) (fun r _ => cnt_sm _ _), sm_swap, cnt_sm]
  refine sm_congr fun w hw => ?_
  have hR := h w hw
  by_cases c : 0 < f w
  · rw [sm_one (k := f w - 1) (by omega) (fun i hi ne => if_neg (by simp; omega)), if_pos (by simp; omega), if_pos (by simpa using c)]
  · rw [sm_congr (g := fun _ => 0) (fun i _ => if_neg (by simp; omega)), sm_zero, if_neg (by simpa using c)]
theorem cnt_flip {P P' : Nat → Bool} {c : Nat} (h0 : P c = false) (h1 : P' c = true) (h : ∀ j, j ≠ c → P' j = P j) : ∀ N, c < N → cnt P' N = cnt P N + 1 := by
  intro N
  induction N with
  | zero => intro h; omega
  | succ N ih =>
    intro hc
    rw [cnt_s, cnt_s]
    by_cases e : c = N
    · subst e
      rw [h0, h1, cnt_congr (f := P') (g := P) (fun i hi => h i (by omega))]
      rfl
    · rw [ih (by omega), h N (fun z => e z.symm)]
      omega
theorem fcl_blank {f : Nat → Int32} {M : Nat} (hM : f M = 32) : ∀ d c, c ≤ M → M < c + d → f (fcl f d c) = 32 := by
  intro d
  induction d with
  | zero => intro c h1 h2; omega
  | succ d ih =>
    intro c h1 h2
    unfold fcl
    by_cases e : f c = 32
    · rw [if_pos e]; exact e
    · rw [if_neg e]
      exact ih (c + 1) (by
        by_cases q : c = M
        · subst q; exact absurd hM e
        · omega) (by omega)
/-- a cell that isn't blank -/
def NB (f : Nat → Int32) (c : Nat) : Bool := !decide (f c = 32)
theorem cnt_blk {s : Nat × (Nat → Int32)} (hb : BLK s) {N : Nat} (h : s.1 ≤ N) : cnt (NB s.2) N = cnt (NB s.2) s.1 := by
  rw [show N = s.1 + (N - s.1) by omega, cnt_split]
  have : cnt (fun i => NB s.2 (s.1 + i)) (N - s.1) = 0 := by
    rw [cnt_sm, sm_congr (g := fun _ => 0) (fun i _ => if_neg (by unfold NB; rw [hb (s.1 + i) (by omega)]; simp)), sm_zero]
  omega
theorem nI97 {w : Nat} (hw : w < 100) : ¬ nI (97 + w) = 32 := fun z => by
  rw [n32] at z
  have := (nI_eq (by omega) (by omega)).mp z
  omega
section YPRT
variable {n u : Nat} {pr a b g : Nat → Nat} {an : Nat → Nat → Bool} {uy : Nat → Int32} {pl lc col : Nat → Nat} {lt bx : Nat → Nat → Nat} {pu fp sp uY ge am lv rf od rs po fb sb lA letters py fc mc line text : Nat → Int32} {len tl : Int32} {s : Nat × (Nat → Int32)}
theorem umk_cnt {r : Nat} (hb : BLK s) (hs : s.1 ≤ 308) (h0 : cnt (NB s.2) 400 = 0) (hu : u ≤ 12) (hcol : ∀ w, w < u → ucl a b g lc col w ≤ 308) : ∀ k, k ≤ u → cnt (NB (umk a b g lc col r k s).2) 400 = cnt (fun w => decide (lw a b g w = r)) k := by
  intro k
  induction k with
  | zero => intro _; exact h0
  | succ k ih =>
    intro hk
    obtain ⟨b1, b2⟩ := umk_ok (r := r) hb hs hu hcol k (by omega)
    have hc := hcol k (by omega)
    rw [cnt_s (fun w => decide (lw a b g w = r)) k, ← ih (by omega), show umk a b g lc col r (k + 1) s = if lw a b g k = r then mk (umk a b g lc col r k s) (fcl (umk a b g lc col r k s).2 (400 - ucl a b g lc col k) (ucl a b g lc col k)) (nI (97 + k)) else umk a b g lc col r k s from rfl]
    by_cases e : lw a b g k = r
    · rw [if_pos e, if_pos (decide_eq_true e)]
      have hM : (umk a b g lc col r k s).2 321 = 32 := b1 321 (by omega)
      have f1 := fcl_blank hM (400 - ucl a b g lc col k) (ucl a b g lc col k) (by omega) (by omega)
      have f2 := fcl_le hM (400 - ucl a b g lc col k) (ucl a b g lc col k) (by omega) (by omega)
      refine cnt_flip (c := fcl (umk a b g lc col r k s).2 (400 - ucl a b g lc col k) (ucl a b g lc col k)) ?_ ?_ ?_ 400 (by omega)
      · unfold NB; rw [f1]; rfl
      · show (!decide (upd _ _ _ _ = 32)) = true
        rw [upd_eq, decide_eq_false (nI97 (by omega))]; rfl
      · intro j hj
        show (!decide (upd _ _ _ j = 32)) = _
        rw [upd_ne hj]; rfl
    · rw [if_neg e, if_neg (by simpa using e)]; omega
theorem pmk_cnt {r : Nat} (h0 : ∀ c, s.2 c = 32) (hn : n ≤ 16) (hm : ∀ p, p < n → mdc a b g lc col p ≤ 308) (hu : ∀ p, p < n → g p = r + 1 → pr p < 12) (hd : ∀ p q, p < n → q < n → p ≠ q → g p = r + 1 → g q = r + 1 → mdc a b g lc col p ≠ mdc a b g lc col q) :
    ∀ k, k ≤ n → cnt (NB (pmk pr a b g lc col r k s).2) 400 = cnt (fun p => decide (g p = r + 1)) k ∧ ∀ c, (pmk pr a b g lc col r k s).2 c ≠ 32 → ∃ q, q < k ∧ g q = r + 1 ∧ c = mdc a b g lc col q := by
  intro k
  induction k with
  | zero =>
    intro _
    refine ⟨?_, fun c hc => absurd (h0 c) hc⟩
    show cnt (NB s.2) 400 = 0
    rw [cnt_sm, sm_congr (g := fun _ => 0) (fun i _ => if_neg (by unfold NB; rw [h0]; simp)), sm_zero]
  | succ k ih =>
    intro hk
    obtain ⟨i1, i2⟩ := ih (by omega)
    rw [cnt_s (fun p => decide (g p = r + 1)) k, ← i1, show pmk pr a b g lc col r (k + 1) s = if g k = r + 1 ∧ (pmk pr a b g lc col r k s).2 (mdc a b g lc col k) = 32 then mk (pmk pr a b g lc col r k s) (mdc a b g lc col k) (nI (97 + pr k)) else pmk pr a b g lc col r k s from rfl]
    by_cases e : g k = r + 1
    · have hbl : (pmk pr a b g lc col r k s).2 (mdc a b g lc col k) = 32 := Classical.byContradiction fun z => by
        obtain ⟨q, q1, q2, q3⟩ := i2 _ z
        exact hd k q (by omega) (by omega) (by omega) e q2 q3
      have hk16 := hu k (by omega) e
      have hmk := hm k (by omega)
      rw [if_pos ⟨e, hbl⟩, if_pos (decide_eq_true e)]
      refine ⟨cnt_flip (c := mdc a b g lc col k) ?_ ?_ ?_ 400 (by omega), fun c hc => ?_⟩
      · unfold NB; rw [hbl]; rfl
      · show (!decide (upd _ _ _ _ = 32)) = true
        rw [upd_eq, decide_eq_false (nI97 (by omega))]; rfl
      · intro j hj
        show (!decide (upd _ _ _ j = 32)) = _
        rw [upd_ne hj]; rfl
      · by_cases q : c = mdc a b g lc col k
        · exact ⟨k, by omega, e, q⟩
        · have hc' : upd (pmk pr a b g lc col r k s).2 (mdc a b g lc col k) (nI (97 + pr k)) c ≠ 32 := hc
          rw [upd_ne q] at hc'
          obtain ⟨q1, q2, q3, q4⟩ := i2 c hc'
          exact ⟨q1, by omega, q3, q4⟩
    · rw [if_neg (fun z => e z.1), if_neg (by simpa using e)]
      refine ⟨by omega, fun c hc => ?_⟩
      obtain ⟨q1, q2, q3, q4⟩ := i2 c hc
      exact ⟨q1, by omega, q3, q4⟩
theorem colF_far {r i : Nat} (L : LAY n u a b g pl bx) (hr : r < rowsN g n) : ∀ j, i < j → j < sz n u a b g r → colF n u pr a b g lc bx (bx r i) + wd a b g lc (bx r i) + 1 ≤ colF n u pr a b g lc bx (bx r j) := by
  intro j
  induction j with
  | zero => intro h; omega
  | succ j ih =>
    intro h1 h2
    have h3 := colF_apart (lc := lc) (pr := pr) L hr h2
    by_cases e : i = j
    · subst e; exact h3
    · have := ih (by omega) (by omega)
      omega
theorem mdc_ne (W : WF n u pr a b g) (L : LAY n u a b g pl bx) {p q : Nat} (hp : p < n) (hq : q < n) (hpq : p ≠ q) (hg : g p = g q) : mdc a b g lc (colF n u pr a b g lc bx) p ≠ mdc a b g lc (colF n u pr a b g lc bx) q := by
  have hn := W.n16
  have hx : ∀ x, x < n → pl x < sz n u a b g (g x) ∧ bx (g x) (pl x) = x := fun x hx => by
    have := L.1 x (by omega) (by rw [th_p (show x < 16 by omega)]; exact decide_eq_true hx)
    rwa [rb_p (show x < 16 by omega)] at this
  obtain ⟨p1, p2⟩ := hx p hp
  obtain ⟨q1, q2⟩ := hx q hq
  rw [← hg] at q1 q2
  have hne : pl p ≠ pl q := fun z => hpq (by rw [← p2, ← q2, z])
  have key : ∀ x y, pl x < pl y → pl y < sz n u a b g (g p) → bx (g p) (pl x) = x → bx (g p) (pl y) = y → mdc a b g lc (colF n u pr a b g lc bx) x < mdc a b g lc (colF n u pr a b g lc bx) y := by
    intro x y h1 h2 h3 h4
    have h := colF_far (lc := lc) (pr := pr) L (rowsN_lt hp) (pl y) h1 h2
    rw [h3, h4] at h
    unfold mdc
    have : wd a b g lc x / 2 ≤ wd a b g lc x := Nat.div_le_self _ _
    omega
  intro z
  rcases Nat.lt_or_gt_of_ne hne with h | h
  · have := key p q h q1 p2 q2; omega
  · have := key q p h p1 q2 p2; omega
/-- what isn't blank on a line -/
def nbL (n u : Nat) (pr a b g lc : Nat → Nat) (lt bx : Nat → Nat → Nat) (v : Nat) : Nat := cnt (NB (lnS n u pr a b g lc lt bx v).2) (lnS n u pr a b g lc lt bx v).1
theorem nb1 (W : WF n u pr a b g) (hlc : ∀ p, p < n → lc p ≤ 8) (L : LAY n u a b g pl bx) {v : Nat} (hv : v % 3 = 1) : nbL n u pr a b g lc lt bx v = cnt (fun w => decide (lw a b g w = v / 3)) u := by
  obtain ⟨b1, b2⟩ := lnS_ok (lt := lt) W hlc L (v := v)
  unfold nbL
  rw [← cnt_blk b1 (show _ ≤ 400 by omega)]
  unfold lnS
  rw [if_neg (by omega), if_pos hv]
  refine umk_cnt (s := (0, fun _ => 32)) (fun _ _ => rfl) (Nat.zero_le _) ?_ W.u12 (fun w hw => ucF_le W hlc L w hw) u (Nat.le_refl _)
  rw [cnt_sm, sm_congr (g := fun _ => 0) (fun i _ => if_neg (by simp [NB])), sm_zero]
theorem nb2 (W : WF n u pr a b g) (hlc : ∀ p, p < n → lc p ≤ 8) (L : LAY n u a b g pl bx) {v : Nat} (hv : v % 3 = 2) : nbL n u pr a b g lc lt bx v = cnt (fun p => decide (g p = v / 3 + 1)) n := by
  have hn := W.n16
  obtain ⟨b1, b2⟩ := lnS_ok (lt := lt) W hlc L (v := v)
  unfold nbL
  rw [← cnt_blk b1 (show _ ≤ 400 by omega)]
  unfold lnS
  rw [if_neg (by omega), if_neg (by omega)]
  refine (pmk_cnt (s := (0, fun _ => 32)) (fun _ => rfl) hn (fun p hp => mdF_le W hlc L (by omega) (by rw [th_p (show p < 16 by omega)]; exact decide_eq_true hp)) (fun p hp hg => Classical.byContradiction fun c => by have := W.gen0 hp c; omega) (fun p q hp hq hpq h1 h2 => mdc_ne W L hp hq hpq (by omega)) n (Nat.le_refl _)).1
end YPRT
