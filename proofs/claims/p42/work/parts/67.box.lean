/-! boxes 0 to 15: persons; 16 to 27: reference boxes of unions -/
def th (n u : Nat) (a b g : Nat → Nat) (x : Nat) : Bool := if x < 16 then decide (x < n) else (decide (x - 16 < u) && decide (rw_ a b g (x - 16) < 16))
def rb (a b g : Nat → Nat) (x : Nat) : Nat := if x < 16 then g x else lw a b g (x - 16)
def inr (n u : Nat) (a b g : Nat → Nat) (r x : Nat) : Bool := th n u a b g x && rb a b g x == r
def sz (n u : Nat) (a b g : Nat → Nat) (r : Nat) : Nat := cnt (inr n u a b g r) 28
def st (n u : Nat) (a b g : Nat → Nat) (r : Nat) : Nat := sm (sz n u a b g) r
def bxa (a b g : Nat → Nat) (w : Nat) : Nat := if rw_ a b g w = a w then 16 + w else a w
def bxb (a b g : Nat → Nat) (w : Nat) : Nat := if rw_ a b g w = b w then 16 + w else b w
/-- an order of the boxes: pl x is the place of the box x in its row, bx r k the box at the place k of the row r -/
def LAY (n u : Nat) (a b g : Nat → Nat) (pl : Nat → Nat) (bx : Nat → Nat → Nat) : Prop :=
  (∀ x, x < 28 → th n u a b g x = true → pl x < sz n u a b g (rb a b g x) ∧ bx (rb a b g x) (pl x) = x) ∧
  ∀ r k, k < sz n u a b g r → bx r k < 28 ∧ th n u a b g (bx r k) = true ∧ rb a b g (bx r k) = r ∧ pl (bx r k) = k
/-- the k-th number below N with f -/
def nth (f : Nat → Bool) : Nat → Nat → Nat
  | 0, _ => 0
  | N + 1, k => if f N && cnt f N == k then N else nth f N k
theorem nth_spec {f : Nat → Bool} {N k : Nat} (h : k < cnt f N) : nth f N k < N ∧ f (nth f N k) = true ∧ cnt f (nth f N k) = k := by
  induction N with
  | zero => exact absurd h (Nat.not_lt_zero _)
  | succ N ih =>
    rw [cnt_s] at h
    unfold nth
    by_cases e : (f N && cnt f N == k) = true
    · rw [if_pos e]
      simp only [Bool.and_eq_true, beq_iff_eq] at e
      exact ⟨Nat.lt_succ_self _, e.1, e.2⟩
    · rw [if_neg e]
      have h1 : k < cnt f N := by
        by_cases hf : f N = true
        · rw [if_pos hf] at h
          simp only [Bool.and_eq_true, beq_iff_eq] at e
          have : cnt f N ≠ k := fun z => e ⟨hf, z⟩
          omega
        · rw [if_neg hf] at h; omega
      obtain ⟨q1, q2, q3⟩ := ih h1
      exact ⟨by omega, q2, q3⟩
theorem nth_cnt {f : Nat → Bool} {N x : Nat} (hx : x < N) (hf : f x = true) : nth f N (cnt f x) = x := by
  obtain ⟨q1, q2, q3⟩ := nth_spec (cnt_lt hx hf)
  rcases Nat.lt_trichotomy (nth f N (cnt f x)) x with h | h | h
  · have := cnt_lt h q2; omega
  · exact h
  · have := cnt_lt h hf; omega
/-- the plain order -/
def ppl (n u : Nat) (a b g : Nat → Nat) (x : Nat) : Nat := cnt (inr n u a b g (rb a b g x)) x
def pbx (n u : Nat) (a b g : Nat → Nat) (r k : Nat) : Nat := nth (inr n u a b g r) 28 k
section BOX
variable {n u : Nat} {pr a b g : Nat → Nat}
theorem inr_self {x : Nat} (h : th n u a b g x = true) : inr n u a b g (rb a b g x) x = true := by
  unfold inr; simp [h]
theorem inr_iff {r x : Nat} : inr n u a b g r x = true ↔ th n u a b g x = true ∧ rb a b g x = r := by
  unfold inr; simp
theorem LAY.plain : LAY n u a b g (ppl n u a b g) (pbx n u a b g) := by
  refine ⟨fun x hx ht => ⟨cnt_lt hx (inr_self ht), nth_cnt hx (inr_self ht)⟩, fun r k hk => ?_⟩
  obtain ⟨q1, q2, q3⟩ := nth_spec hk
  obtain ⟨q4, q5⟩ := inr_iff.mp q2
  refine ⟨q1, q4, q5, ?_⟩
  unfold ppl pbx
  rw [q5]; exact q3
theorem th_p {x : Nat} (h : x < 16) : th n u a b g x = decide (x < n) := if_pos h
theorem th_u {w : Nat} : th n u a b g (16 + w) = (decide (w < u) && decide (rw_ a b g w < 16)) := by
  unfold th
  rw [if_neg (by omega), show 16 + w - 16 = w by omega]
theorem rb_p {x : Nat} (h : x < 16) : rb a b g x = g x := if_pos h
theorem rb_u {w : Nat} : rb a b g (16 + w) = lw a b g w := by
  unfold rb
  rw [if_neg (by omega), show 16 + w - 16 = w by omega]
/-- every box lies in a row of the chart -/
theorem th_row (W : WF n u pr a b g) {x : Nat} (ht : th n u a b g x = true) : rb a b g x < rowsN g n := by
  unfold th at ht
  unfold rb
  by_cases h : x < 16
  · rw [if_pos h] at ht ⊢
    exact rowsN_lt (by simpa using ht)
  · rw [if_neg h] at ht ⊢
    simp only [Bool.and_eq_true, decide_eq_true_eq] at ht
    obtain ⟨h1, h2, -⟩ := W.par ht.1
    have := rowsN_lt (g := g) h1
    have := rowsN_lt (g := g) h2
    unfold lw; omega
theorem rows16 (W : WF n u pr a b g) : rowsN g n ≤ 16 := rowsN_le fun p hp => by have := W.glt hp; have := W.n16; omega
theorem th28 (W : WF n u pr a b g) {x : Nat} (ht : th n u a b g x = true) : x < 28 := by
  have := W.u12
  unfold th at ht
  by_cases h : x < 16
  · omega
  · rw [if_neg h] at ht
    simp only [Bool.and_eq_true, decide_eq_true_eq] at ht
    omega
/-- the rows' sizes are all boxes together -/
theorem st_all (W : WF n u pr a b g) : st n u a b g (rowsN g n) = cnt (th n u a b g) 28 := by
  unfold st
  rw [sm_congr (f := sz n u a b g) (g := fun r => sm (fun x => if inr n u a b g r x then 1 else 0) 28) (fun r _ => cnt_sm _ _), sm_swap, cnt_sm]
  refine sm_congr fun x _ => ?_
  by_cases h : th n u a b g x = true
  · rw [if_pos h, sm_one (th_row W h) (fun r _ hne => by rw [if_neg]; intro q; exact hne (inr_iff.mp q).2.symm), if_pos (inr_self h)]
  · rw [if_neg h, sm_congr (g := fun _ => 0) (fun r _ => by rw [if_neg]; intro q; exact h (inr_iff.mp q).1), sm_zero]
theorem sm_mono {f : Nat → Nat} {n m : Nat} (h : n ≤ m) : sm f n ≤ sm f m := by
  induction m with
  | zero => rw [Nat.le_zero.mp h]; exact Nat.le_refl _
  | succ m ih =>
    by_cases e : n = m + 1
    · rw [e]; exact Nat.le_refl _
    · have := ih (by omega)
      rw [sm_s]; omega
theorem st_le (W : WF n u pr a b g) {r : Nat} (h : r ≤ rowsN g n) : st n u a b g r ≤ 28 := by
  have h1 : st n u a b g r ≤ st n u a b g (rowsN g n) := sm_mono h
  have h2 := cnt_le (th n u a b g) 28
  rw [st_all W] at h1
  omega
theorem st_s (r : Nat) : st n u a b g (r + 1) = st n u a b g r + sz n u a b g r := rfl
theorem place_lt (W : WF n u pr a b g) {r k : Nat} (hr : r < rowsN g n) (hk : k < sz n u a b g r) : st n u a b g r + k < 28 := by
  have := st_le W (r := r + 1) (by omega)
  rw [st_s] at this
  omega
theorem sz_le (W : WF n u pr a b g) {r : Nat} : sz n u a b g r ≤ 28 := cnt_le _ _
/-- a union's partner boxes -/
theorem rw_a (W : WF n u pr a b g) {w : Nat} (hw : w < u) : rw_ a b g w = a w ↔ g (a w) < lw a b g w := by
  obtain ⟨h1, h2, h3⟩ := W.par hw
  have hn := W.n16
  unfold rw_ lw
  split
  · exact ⟨fun _ => by omega, fun _ => rfl⟩
  · split
    · exact ⟨fun q => absurd q.symm h3, fun _ => by omega⟩
    · exact ⟨fun q => by omega, fun _ => by omega⟩
theorem rw_b (W : WF n u pr a b g) {w : Nat} (hw : w < u) : rw_ a b g w = b w ↔ g (b w) < lw a b g w := by
  obtain ⟨h1, h2, h3⟩ := W.par hw
  have hn := W.n16
  unfold rw_ lw
  split
  · exact ⟨fun q => absurd q h3, fun _ => by omega⟩
  · split
    · exact ⟨fun _ => by omega, fun _ => rfl⟩
    · exact ⟨fun q => by omega, fun _ => by omega⟩
theorem bxa_ok (W : WF n u pr a b g) {w : Nat} (hw : w < u) : bxa a b g w < 28 ∧ th n u a b g (bxa a b g w) = true ∧ rb a b g (bxa a b g w) = lw a b g w := by
  obtain ⟨h1, h2, h3⟩ := W.par hw
  have hn := W.n16
  have hu := W.u12
  unfold bxa
  by_cases e : rw_ a b g w = a w
  · rw [if_pos e, th_u, rb_u]
    exact ⟨by omega, by rw [e, decide_eq_true hw, decide_eq_true (by omega)]; rfl, rfl⟩
  · rw [if_neg e, th_p (by omega), rb_p (by omega)]
    have : ¬ g (a w) < lw a b g w := fun q => e ((rw_a W hw).mpr q)
    exact ⟨by omega, decide_eq_true h1, by unfold lw at this ⊢; omega⟩
theorem bxb_ok (W : WF n u pr a b g) {w : Nat} (hw : w < u) : bxb a b g w < 28 ∧ th n u a b g (bxb a b g w) = true ∧ rb a b g (bxb a b g w) = lw a b g w := by
  obtain ⟨h1, h2, h3⟩ := W.par hw
  have hn := W.n16
  have hu := W.u12
  unfold bxb
  by_cases e : rw_ a b g w = b w
  · rw [if_pos e, th_u, rb_u]
    exact ⟨by omega, by rw [e, decide_eq_true hw, decide_eq_true (by omega)]; rfl, rfl⟩
  · rw [if_neg e, th_p (by omega), rb_p (by omega)]
    have : ¬ g (b w) < lw a b g w := fun q => e ((rw_b W hw).mpr q)
    exact ⟨by omega, decide_eq_true h2, by unfold lw at this ⊢; omega⟩
theorem rw_le (W : WF n u pr a b g) {w : Nat} (hw : w < u) : rw_ a b g w ≤ 16 := by
  obtain ⟨h1, h2, h3⟩ := W.par hw
  have hn := W.n16
  unfold rw_
  split
  · omega
  · split <;> omega
end BOX
