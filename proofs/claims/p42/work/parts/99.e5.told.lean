/-! all of the text -/
section YTOL
variable {lc yr pr a b uy : Nat → Nat} {g : Nat → Nat} {letters year pn : Nat → Int32} {un : Nat → Nat → Int32} {n u : Nat}
theorem W_nil {bytes : Nat → Int32} : WR [] 0 bytes (fun _ => 0) := by
  refine ⟨fun x hx => absurd hx List.not_mem_nil, rfl, rfl, fun i hi => absurd hi (Nat.not_lt_zero _), fun k hk q hq => ?_⟩
  rw [bt_zero]
  show false = (decide (0 / 20 * 20 + 4 * k + (3 - q / 8) < 0) && _)
  rw [decide_eq_false (by omega), Bool.false_and]
theorem WRS.app {S1 S2 : List Nat} {X Y : Int32 → (Nat → Int32) → (Nat → Int32) → Option ((Nat → Int32) × Int32 × (Nat → Int32))} (h1 : WRS S1 X) (h2 : WRS S2 Y) : WRS (S1 ++ S2) (fun bf bytes p1 => ob (X bf bytes p1) (uc3 fun bytes' bf' p1' => Y bf' bytes' p1')) := by
  intro T bf bytes p1 H hl
  rw [List.length_append] at hl
  obtain ⟨b1, f1, q1, e1, H1⟩ := h1 T bf bytes p1 H (by omega)
  obtain ⟨b2, f2, q2, e2, H2⟩ := h2 (T ++ S1) f1 b1 q1 H1 (by rw [List.length_append]; omega)
  refine ⟨b2, f2, q2, ?_, by rw [List.append_assoc] at H2; exact H2⟩
  show ob (X bf bytes p1) _ = _
  rw [e1]
  exact e2
theorem W_with {v : Nat} (hv : v ≤ 2100) : WRS (wdL 3 ++ dgL v) (fun bf bytes p1 => pL_with 6 bf bytes p1 3 (nI v)) := by
  intro T bf bytes p1 H hl
  obtain ⟨b1, f1, q1, e1, H1⟩ := (W_word (w := 3) (by omega)).app (W_number hv) T bf bytes p1 H hl
  have e2 : ob (pL_word 6 bf bytes p1 3) (uc3 fun bytes' bf' p1' => pL_number 6 bf' bytes' p1' (nI v)) = some (b1, f1, q1) := e1
  refine ⟨b1, f1, q1, ?_, H1⟩
  obtain ⟨⟨b0, f0, q0⟩, e3, e4⟩ := ob_s e2
  have e5 : pL_number 6 f0 b0 q0 (nI v) = some (b1, f1, q1) := e4
  show pL_with 6 bf bytes p1 3 (nI v) = _
  unfold pL_with
  rw [e3]
  simp only [ob, uc3]
  rw [e5]
/-- a person's sentence -/
theorem W_person (hn : n ≤ 16) (hl8 : ∀ p, p < n → letters p = nI (lc p) ∧ lc p ≤ 8) (hy : ∀ p, p < n → year p = nI (yr p) ∧ yr p ≤ 2100) {T : List Nat} {bf : Int32} {bytes p1 : Nat → Int32} (H : WR T bf bytes p1) {p k : Nat} (hp : p < n) (hl : T.length + (ptL lc yr p).length ≤ 780) :
    ∃ bytes' bf' p1', pL_tell_L2 letters 6 (nI n) year (k + 1) (nI p) bytes bf p1 = pL_tell_L2 letters 6 (nI n) year k (nI (p + 1)) bytes' bf' p1' ∧ WR (T ++ ptL lc yr p) bf' bytes' p1' := by
  obtain ⟨y1, y2⟩ := hy p hp
  unfold ptL at hl ⊢
  rw [List.length_append, List.length_append, List.length_append] at hl
  obtain ⟨b1, f1, q1, e1, H1⟩ := W_word (w := 2) (by omega) T bf bytes p1 H (by omega)
  obtain ⟨b2, f2, q2, e2, H2⟩ := W_name hn hl8 hp (T ++ wdL 2) f1 b1 q1 H1 (by rw [List.length_append]; omega)
  obtain ⟨b3, f3, q3, e3, H3⟩ := W_with y2 (T ++ wdL 2 ++ nmL lc p) f2 b2 q2 H2 (by rw [List.length_append, List.length_append]; omega)
  obtain ⟨b4, f4, q4, e4, H4⟩ := W_add H3 (b := 59) (by
    have : ([59] : List Nat).length = 1 := rfl
    rw [List.length_append, List.length_append, List.length_append]; omega) (by omega)
  refine ⟨b4, f4, q4, ?_, by
    rw [show T ++ (wdL 2 ++ nmL lc p ++ (wdL 3 ++ dgL (yr p)) ++ [59]) = T ++ wdL 2 ++ nmL lc p ++ (wdL 3 ++ dgL (yr p)) ++ [59] by simp only [List.append_assoc]]
    exact H4⟩
  rw [pL_tell_L2, pL_tell_L2_B, if_neg (nI_ge hp (by omega))]
  dsimp only at e1 e2 e3
  rw [e1]
  simp only [ob, uc3]
  rw [e2]
  simp only []
  rw [gd_in (by omega) (by omega), nI_clamp (by omega), y1, e3]
  simp only []
  rw [show (59 : Int32) = nI 59 from rfl, e4]
  simp only [lb]
  rw [n1, nI_add]
theorem W_persons (hn : n ≤ 16) (hl8 : ∀ p, p < n → letters p = nI (lc p) ∧ lc p ≤ 8) (hy : ∀ p, p < n → year p = nI (yr p) ∧ yr p ≤ 2100) {bytes : Nat → Int32} (hl : ∀ m, m ≤ n → (tpL lc yr m).length ≤ 780) :
    ∃ bytes' bf' p1', pL_tell_L2 letters 6 (nI n) year FU 0 bytes 0 (fun _ => 0) = some (bytes', bf', p1') ∧ WR (tpL lc yr n) bf' bytes' p1' := by
  have hL := loop_all (fun k i (s : (Nat → Int32) × Int32 × (Nat → Int32)) => pL_tell_L2 letters 6 (nI n) year k (nI i) s.1 s.2.1 s.2.2) n
    (fun i s => WR (tpL lc yr i) s.2.1 s.1 s.2.2) (fun z => WR (tpL lc yr n) z.2.1 z.1 z.2.2) (by
      intro k s hs
      refine ⟨(s.1, s.2.1, s.2.2), ?_, hs⟩
      try dsimp only
      rw [pL_tell_L2, pL_tell_L2_B, if_pos (nI_le (Nat.le_refl _) (by omega))]) (by
      intro k i s hi hs
      obtain ⟨b', f', q', e1, H1⟩ := W_person (k := k) hn hl8 hy hs hi (by
        have := hl (i + 1) hi
        rw [show tpL lc yr (i + 1) = tpL lc yr i ++ ptL lc yr i from rfl, List.length_append] at this
        exact this)
      exact ⟨(b', f', q'), e1, H1⟩) FU 0 (bytes, 0, fun _ => 0) (Nat.zero_le _) (by show n - 0 < 1024; omega) W_nil
  obtain ⟨z, e1, h1⟩ := hL
  exact ⟨z.1, z.2.1, z.2.2, e1, h1⟩
theorem W_kids (hn : n ≤ 16) (hl8 : ∀ p, p < n → letters p = nI (lc p) ∧ lc p ≤ 8) (hpn : ∀ p, p < n → pn p = oN (pr p)) {w : Nat} (hw : w < 12) {T : List Nat} {bf : Int32} {bytes p1 : Nat → Int32} (H : WR T bf bytes p1) (hl : ∀ m, m ≤ n → T.length + (ktL lc pr w m).length ≤ 780) :
    ∃ bytes' bf' p1', pL_tell_L120 letters 6 pn (nI n) (nI w) FU 0 bytes bf p1 = some (bytes', bf', p1') ∧ WR (T ++ ktL lc pr w n) bf' bytes' p1' := by
  have hL := loop_all (fun k i (s : (Nat → Int32) × Int32 × (Nat → Int32)) => pL_tell_L120 letters 6 pn (nI n) (nI w) k (nI i) s.1 s.2.1 s.2.2) n
    (fun i s => WR (T ++ ktL lc pr w i) s.2.1 s.1 s.2.2) (fun z => WR (T ++ ktL lc pr w n) z.2.1 z.1 z.2.2) (by
      intro k s hs
      refine ⟨(s.1, s.2.1, s.2.2), ?_, hs⟩
      try dsimp only
      rw [pL_tell_L120, pL_tell_L120_B, if_pos (nI_le (Nat.le_refl _) (by omega))]) (by
      intro k i s hi hs
      have h9 := hl (i + 1) hi
      have hst : ktL lc pr w (i + 1) = if pr i = w then ktL lc pr w i ++ ([32] ++ nmL lc i) else ktL lc pr w i := rfl
      rw [hst] at h9 ⊢
      by_cases c : pr i = w
      · rw [if_pos c] at h9 ⊢
        have hone : ([32] : List Nat).length = 1 := rfl
        rw [List.length_append, List.length_append] at h9
        obtain ⟨b1, f1, q1, e1, H1⟩ := W_add hs (b := 32) (by rw [List.length_append]; omega) (by omega)
        obtain ⟨b2, f2, q2, e2, H2⟩ := W_name hn hl8 hi _ f1 b1 q1 H1 (by rw [List.length_append, List.length_append]; omega)
        refine ⟨(b2, f2, q2), ?_, by
          rw [show T ++ (ktL lc pr w i ++ ([32] ++ nmL lc i)) = T ++ ktL lc pr w i ++ [32] ++ nmL lc i by simp only [List.append_assoc]]
          exact H2⟩
        dsimp only at e2 ⊢
        rw [pL_tell_L120, pL_tell_L120_B, if_neg (nI_ge hi (by omega)), gd_in (by omega) (by omega), nI_clamp (by omega), hpn i hi, if_pos (by rw [c, oN_in hw]), show (32 : Int32) = nI 32 from rfl, e1]
        simp only [ob, uc3]
        rw [e2]
        simp only [lb]
        rw [n1, nI_add]
      · rw [if_neg c] at h9 ⊢
        refine ⟨(s.1, s.2.1, s.2.2), ?_, hs⟩
        dsimp only
        rw [pL_tell_L120, pL_tell_L120_B, if_neg (nI_ge hi (by omega)), gd_in (by omega) (by omega), nI_clamp (by omega), hpn i hi, if_neg (fun z => c ((oN_nI hw).mp z))]
        simp only [lb]
        rw [n1, nI_add]) FU 0 (bytes, bf, p1) (Nat.zero_le _) (by show n - 0 < 1024; omega) (by rw [show ktL lc pr w 0 = [] from rfl, List.append_nil]; exact H)
  obtain ⟨z, e1, h1⟩ := hL
  exact ⟨z.1, z.2.1, z.2.2, e1, h1⟩
theorem ktL_mono {w : Nat} : ∀ m, (ktL lc pr w m).length ≤ (ktL lc pr w (m + 1)).length := by
  intro m
  show _ ≤ (if pr m = w then ktL lc pr w m ++ ([32] ++ nmL lc m) else ktL lc pr w m).length
  split
  · rw [List.length_append]; omega
  · exact Nat.le_refl _
theorem ktL_le {w : Nat} : ∀ m n, m ≤ n → (ktL lc pr w m).length ≤ (ktL lc pr w n).length := by
  intro m n
  induction n with
  | zero => intro h; rw [Nat.le_zero.mp h]; exact Nat.le_refl _
  | succ n ih =>
    intro h
    by_cases e : m = n + 1
    · rw [e]; exact Nat.le_refl _
    · exact Nat.le_trans (ih (by omega)) (ktL_mono n)
theorem W_union (hn : n ≤ 16) (hu : u ≤ 12) (hl8 : ∀ p, p < n → letters p = nI (lc p) ∧ lc p ≤ 8) (hpn : ∀ p, p < n → pn p = oN (pr p)) (hun : ∀ w, w < u → un w 0 = nI (a w) ∧ un w 1 = nI (b w) ∧ un w 2 = nI (uy w) ∧ uy w ≤ 2100 ∧ a w < n ∧ b w < n) {T : List Nat} {bf : Int32} {bytes p1 : Nat → Int32} (H : WR T bf bytes p1) {w k : Nat} (hw : w < u) (hl : T.length + (utL n lc pr a b uy w).length ≤ 780) :
    ∃ bytes' bf' p1', pL_tell_L52 letters u 6 pn (nI n) un (nI u) (k + 1) (nI w) bytes bf p1 = pL_tell_L52 letters u 6 pn (nI n) un (nI u) k (nI (w + 1)) bytes' bf' p1' ∧ WR (T ++ utL n lc pr a b uy w) bf' bytes' p1' := by
  obtain ⟨y0, y1, y2, y3, ya, yb⟩ := hun w hw
  have hone : ([32] : List Nat).length = 1 := rfl
  have hone2 : ([59] : List Nat).length = 1 := rfl
  unfold utL at hl ⊢
  simp only [List.length_append] at hl
  obtain ⟨b1, f1, q1, e1, H1⟩ := W_word (w := 4) (by omega) T bf bytes p1 H (by omega)
  obtain ⟨b2, f2, q2, e2, H2⟩ := W_name hn hl8 ya _ f1 b1 q1 H1 (by simp only [List.length_append]; omega)
  obtain ⟨b3, f3, q3, e3, H3⟩ := W_add H2 (b := 32) (by simp only [List.length_append]; omega) (by omega)
  obtain ⟨b4, f4, q4, e4, H4⟩ := W_name hn hl8 yb _ f3 b3 q3 H3 (by simp only [List.length_append]; omega)
  obtain ⟨b5, f5, q5, e5, H5⟩ := W_with y3 _ f4 b4 q4 H4 (by simp only [List.length_append]; omega)
  obtain ⟨b6, f6, q6, e6, H6⟩ := W_kids hn hl8 hpn (show w < 12 by omega) H5 (fun m hm => by
    have := ktL_le (lc := lc) (pr := pr) (w := w) m n hm
    simp only [List.length_append]; omega)
  obtain ⟨b7, f7, q7, e7, H7⟩ := W_add H6 (b := 59) (by simp only [List.length_append]; omega) (by omega)
  refine ⟨b7, f7, q7, ?_, by
    rw [show T ++ (wdL 4 ++ nmL lc (a w) ++ [32] ++ nmL lc (b w) ++ (wdL 3 ++ dgL (uy w)) ++ ktL lc pr w n ++ [59]) = T ++ wdL 4 ++ nmL lc (a w) ++ [32] ++ nmL lc (b w) ++ (wdL 3 ++ dgL (uy w)) ++ ktL lc pr w n ++ [59] by simp only [List.append_assoc]]
    exact H7⟩
  dsimp only at e1 e2 e3 e4 e5
  rw [pL_tell_L52, pL_tell_L52_B, if_neg (nI_ge hw (by omega)), e1]
  simp only [ob, uc3]
  rw [gd_in (by omega) (by omega), gd_in hw (by omega), g03, nI_clamp (show w < 2147483648 by omega), c0, y0, e2]
  simp only []
  rw [show (32 : Int32) = nI 32 from rfl, e3]
  simp only []
  rw [gd_in (by omega) (by omega), gd_in hw (by omega), g13, c1', y1, e4]
  simp only []
  rw [gd_in (by omega) (by omega), gd_in hw (by omega), n2, gd_in (by omega) (by omega), ← n2, c2, y2, e5]
  simp only []
  rw [e6]
  simp only [pL_tell_J164]
  rw [show (59 : Int32) = nI 59 from rfl, e7]
  simp only [ob, uc3, lb]
  rw [n1, nI_add]
end YTOL
