/-! how long the text is; its end -/
section YEND
variable {lc yr pr a b uy : Nat → Nat} {letters year pn : Nat → Int32} {un : Nat → Nat → Int32} {n u : Nat}
theorem ptL_len (h : ∀ p, p < n → lc p ≤ 8) {p : Nat} (hp : p < n) : (ptL lc yr p).length ≤ 21 := by
  have h1 := h p hp
  have h2 := dgL_len (yr p)
  unfold ptL wdL nmL
  simp only [List.length_append, sq_len]
  have h3 : txl 2 = 7 := by decide
  have h4 : txl 3 = 1 := by decide
  have h5 : ([59] : List Nat).length = 1 := rfl
  omega
theorem tpL_len (h : ∀ p, p < n → lc p ≤ 8) : ∀ m, m ≤ n → (tpL lc yr m).length ≤ 21 * m := by
  intro m
  induction m with
  | zero => intro _; exact Nat.le_refl _
  | succ m ih =>
    intro hm
    have h1 := ih (by omega)
    have h2 := ptL_len (yr := yr) h (p := m) (by omega)
    rw [show tpL lc yr (m + 1) = tpL lc yr m ++ ptL lc yr m from rfl, List.length_append]
    omega
theorem ktL_len {w : Nat} (h : ∀ p, p < n → lc p ≤ 8) : ∀ m, m ≤ n → (ktL lc pr w m).length ≤ 9 * cnt (fun p => decide (pr p = w)) m := by
  intro m
  induction m with
  | zero => intro _; exact Nat.le_refl _
  | succ m ih =>
    intro hm
    have h1 := ih (by omega)
    have h2 := h m (by omega)
    rw [cnt_s, show ktL lc pr w (m + 1) = if pr m = w then ktL lc pr w m ++ ([32] ++ nmL lc m) else ktL lc pr w m from rfl]
    by_cases c : pr m = w
    · rw [if_pos c, if_pos (decide_eq_true c)]
      unfold nmL
      simp only [List.length_append, sq_len]
      have h5 : ([32] : List Nat).length = 1 := rfl
      omega
    · rw [if_neg c, if_neg (by simpa using c)]
      omega
theorem cnt_kids (k : Nat) : ∀ m, cnt (fun p => decide (pr p < k + 1)) m = cnt (fun p => decide (pr p < k)) m + cnt (fun p => decide (pr p = k)) m := by
  intro m
  induction m with
  | zero => rfl
  | succ m ih =>
    rw [cnt_s, cnt_s, cnt_s, ih]
    by_cases c1 : pr m < k
    · rw [if_pos (decide_eq_true (show pr m < k + 1 by omega)), if_pos (decide_eq_true c1), if_neg (by simp; omega)]; omega
    · by_cases c2 : pr m = k
      · rw [if_pos (decide_eq_true (show pr m < k + 1 by omega)), if_neg (by simpa using c1), if_pos (decide_eq_true c2)]; omega
      · rw [if_neg (by simp; omega), if_neg (by simpa using c1), if_neg (by simpa using c2)]; omega
theorem utL_len (h : ∀ p, p < n → lc p ≤ 8) {w : Nat} (ha : a w < n) (hb : b w < n) : (utL n lc pr a b uy w).length ≤ 29 + 9 * cnt (fun p => decide (pr p = w)) n := by
  have h1 := h _ ha
  have h2 := h _ hb
  have h3 := dgL_len (uy w)
  have h4 := ktL_len (pr := pr) (w := w) h n (Nat.le_refl _)
  unfold utL wdL nmL
  simp only [List.length_append, sq_len]
  have h5 : txl 4 = 6 := by decide
  have h6 : txl 3 = 1 := by decide
  have h7 : ([59] : List Nat).length = 1 := rfl
  have h8 : ([32] : List Nat).length = 1 := rfl
  omega
theorem tuL_len (h : ∀ p, p < n → lc p ≤ 8) (hab : ∀ w, w < u → a w < n ∧ b w < n) : ∀ k, k ≤ u → (tuL n lc pr a b uy k).length ≤ 29 * k + 9 * cnt (fun p => decide (pr p < k)) n := by
  intro k
  induction k with
  | zero => intro _; exact Nat.zero_le _
  | succ k ih =>
    intro hk
    have h1 := ih (by omega)
    have h2 := utL_len (pr := pr) (uy := uy) h (hab k (by omega)).1 (hab k (by omega)).2
    rw [show tuL n lc pr a b uy (k + 1) = tuL n lc pr a b uy k ++ utL n lc pr a b uy k from rfl, List.length_append, cnt_kids]
    omega
theorem W_unions (hn : n ≤ 13) (hu : u ≤ 9) (hl8 : ∀ p, p < n → letters p = nI (lc p) ∧ lc p ≤ 8) (hpn : ∀ p, p < n → pn p = oN (pr p)) (hun : ∀ w, w < u → un w 0 = nI (a w) ∧ un w 1 = nI (b w) ∧ un w 2 = nI (uy w) ∧ uy w ≤ 2100 ∧ a w < n ∧ b w < n) {bf : Int32} {bytes p1 : Nat → Int32} (H : WR (tpL lc yr n) bf bytes p1) :
    ∃ bytes' bf' p1', pL_tell_L52 letters u 6 pn (nI n) un (nI u) FU 0 bytes bf p1 = some (bytes', bf', p1') ∧ WR (tpL lc yr n ++ tuL n lc pr a b uy u) bf' bytes' p1' ∧ (tpL lc yr n ++ tuL n lc pr a b uy u).length ≤ 760 := by
  have hlen : ∀ k, k ≤ u → (tpL lc yr n).length + (tuL n lc pr a b uy k).length ≤ 660 := fun k hk => by
    have h1 := tpL_len (yr := yr) (fun p hp => (hl8 p hp).2) n (Nat.le_refl _)
    have h2 := tuL_len (pr := pr) (uy := uy) (u := u) (a := a) (b := b) (fun p hp => (hl8 p hp).2) (fun w hw => (hun w hw).2.2.2.2) k hk
    have h3 := cnt_le (fun p => decide (pr p < k)) n
    omega
  have hL := loop_all (fun k i (s : (Nat → Int32) × Int32 × (Nat → Int32)) => pL_tell_L52 letters u 6 pn (nI n) un (nI u) k (nI i) s.1 s.2.1 s.2.2) u
    (fun i s => WR (tpL lc yr n ++ tuL n lc pr a b uy i) s.2.1 s.1 s.2.2) (fun z => WR (tpL lc yr n ++ tuL n lc pr a b uy u) z.2.1 z.1 z.2.2) (by
      intro k s hs
      refine ⟨(s.1, s.2.1, s.2.2), ?_, hs⟩
      try dsimp only
      rw [pL_tell_L52, pL_tell_L52_B, if_pos (nI_le (Nat.le_refl _) (by omega))]) (by
      intro k i s hi hs
      have hstep : tuL n lc pr a b uy (i + 1) = tuL n lc pr a b uy i ++ utL n lc pr a b uy i := rfl
      have h9 := hlen (i + 1) hi
      rw [hstep, List.length_append] at h9
      obtain ⟨b', f', q', e1, H1⟩ := W_union (k := k) (by omega) (by omega) hl8 hpn hun hs hi (by rw [List.length_append]; omega)
      exact ⟨(b', f', q'), e1, by rw [List.append_assoc] at H1; rw [hstep]; exact H1⟩) FU 0 (bytes, bf, p1) (Nat.zero_le _) (by show u - 0 < 1024; omega) (by rw [show tuL n lc pr a b uy 0 = [] from rfl, List.append_nil]; exact H)
  obtain ⟨z, e1, h1⟩ := hL
  exact ⟨z.1, z.2.1, z.2.2, e1, h1, by rw [List.length_append]; have := hlen u (Nat.le_refl _); omega⟩
theorem W_pad : ∀ j fuel (T : List Nat) (bf : Int32) (bytes p1 : Nat → Int32), WR T bf bytes p1 → j < 20 → (T.length + j) % 20 = 0 → T.length + j ≤ 780 → j < fuel →
    ∃ bytes' bf' p1' R, pL_end_L4 6 fuel bytes bf p1 = some (bytes', bf', p1') ∧ WR (T ++ R) bf' bytes' p1' ∧ (T ++ R).length = T.length + j := by
  intro j
  induction j with
  | zero =>
    intro fuel T bf bytes p1 H h1 h2 h3 h4
    obtain ⟨k, rfl⟩ : ∃ k, fuel = k + 1 := ⟨fuel - 1, by omega⟩
    refine ⟨bytes, bf, p1, [], ?_, by rw [List.append_nil]; exact H, by rw [List.append_nil]; rfl⟩
    rw [pL_end_L4, pL_end_L4_B, g56, c5, H.2.2.1, show (20 : Int32) = nI 20 from rfl, nI_div (by omega) (by omega), nI_mul, nI_sub (Nat.div_mul_le_self _ 20), if_pos (show nI (T.length - T.length / 20 * 20) = (0 : Int32) by rw [show T.length - T.length / 20 * 20 = 0 by omega]; rfl)]
  | succ j ih =>
    intro fuel T bf bytes p1 H h1 h2 h3 h4
    obtain ⟨k, rfl⟩ : ∃ k, fuel = k + 1 := ⟨fuel - 1, by omega⟩
    obtain ⟨b1, f1, q1, e1, H1⟩ := W_add H (b := 32) (by omega) (by omega)
    have hone : (T ++ [32]).length = T.length + 1 := by rw [List.length_append]; rfl
    obtain ⟨b2, f2, q2, R, e2, H2, h5⟩ := ih k (T ++ [32]) f1 b1 q1 H1 (by omega) (by rw [hone]; omega) (by rw [hone]; omega) (by omega)
    refine ⟨b2, f2, q2, [32] ++ R, ?_, by rw [← List.append_assoc]; exact H2, by rw [← List.append_assoc, h5, hone]; omega⟩
    rw [pL_end_L4, pL_end_L4_B, g56, c5, H.2.2.1, show (20 : Int32) = nI 20 from rfl, nI_div (by omega) (by omega), nI_mul, nI_sub (Nat.div_mul_le_self _ 20), if_neg (show ¬ nI (T.length - T.length / 20 * 20) = (0 : Int32) from fun z => by
      have := (nI_eq (b := 0) (by omega) (by omega)).mp z
      omega), show (32 : Int32) = nI 32 from rfl, e1]
    exact e2
theorem W_end {T : List Nat} {bf : Int32} {bytes p1 : Nat → Int32} (H : WR T bf bytes p1) (hl : T.length ≤ 760) :
    ∃ bytes' M p1', pL_end 6 bf bytes p1 = some (nI T.length, bytes', nI M, p1') ∧ T.length ≤ M ∧ M ≤ 780 ∧ ∀ i, i < T.length → bytes' i = nI (gB T i) := by
  obtain ⟨b1, f1, q1, R, e1, H1, h1⟩ := W_pad ((20 - T.length % 20) % 20) FU T bf bytes p1 H (Nat.mod_lt _ (by omega)) (by omega) (by omega) (by show _ < 1024; omega)
  obtain ⟨k1, k2, k3, k4, k5⟩ := H1
  have hM : (T ++ R).length / 20 * 20 = (T ++ R).length := by rw [h1]; omega
  rw [hM] at k2 k4
  refine ⟨b1, (T ++ R).length, upd q1 5 0, ?_, by rw [h1]; omega, by rw [h1]; omega, fun i hi => ?_⟩
  · unfold pL_end
    rw [g56, c5, H.2.2.1]
    simp only [lb]
    rw [e1]
    simp only [ob, uc3, pL_end_J23, lb]
    rw [g56, c5, k2]
  · rw [k4 i (by rw [h1]; omega), gB_app1 hi]
end YEND
