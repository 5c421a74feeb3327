/-! boxes sorted by the middle of the parents -/
def kyP (pr a b g pl : Nat → Nat) (p : Nat) : Nat := if pr p < 12 then mid a b g pl (pr p) else 1000
def kyO (a b g : Nat → Nat) (w : Nat) : Nat := if a w = rw_ a b g w then b w else a w
def ky (pr a b g pl : Nat → Nat) (x : Nat) : Nat := if x < 16 then kyP pr a b g pl x else kyP pr a b g pl (kyO a b g (x - 16))
def srt1 (key : Nat → Nat) (r : Nat) : Nat → (Nat → Nat) × (Nat → Nat → Nat) → (Nat → Nat) × (Nat → Nat → Nat)
  | 0, s => s
  | k + 1, s => if key (s.2 r (k + 1)) < key (s.2 r k) then srt1 key r k (plS s.2 r k (k + 1) s.1, bxS r k (k + 1) s.2) else s
def srtR (key : Nat → Nat) (r : Nat) : Nat → (Nat → Nat) × (Nat → Nat → Nat) → (Nat → Nat) × (Nat → Nat → Nat)
  | 0, s => s
  | k + 1, s => srt1 key r k (srtR key r k s)
/-- the rows from 1 on -/
def srtA (n u : Nat) (pr a b g : Nat → Nat) : Nat → (Nat → Nat) × (Nat → Nat → Nat) → (Nat → Nat) × (Nat → Nat → Nat)
  | 0, s => s
  | r + 1, s => srtR (ky pr a b g (srtA n u pr a b g r s).1) (r + 1) (sz n u a b g (r + 1)) (srtA n u pr a b g r s)
section ARR
variable {n u : Nat} {pr a b g : Nat → Nat} {an : Nat → Nat → Bool} {fam : Nat → Int64} {pu fp sp ge am lv rf od rs po fb sb bA ks : Nat → Int32} {pl pl' : Nat → Nat} {bx : Nat → Nat → Nat} {key : Nat → Nat}
theorem srt1_LAY {r k : Nat} {s : (Nat → Nat) × (Nat → Nat → Nat)} (L : LAY n u a b g s.1 s.2) (hk : k < sz n u a b g r) : LAY n u a b g (srt1 key r k s).1 (srt1 key r k s).2 := by
  induction k generalizing s with
  | zero => exact L
  | succ k ih =>
    unfold srt1
    split
    · exact ih (s := (plS s.2 r k (k + 1) s.1, bxS r k (k + 1) s.2)) (L.swap (by omega) hk) (by omega)
    · exact L
theorem srtR_LAY {r k : Nat} {s : (Nat → Nat) × (Nat → Nat → Nat)} (L : LAY n u a b g s.1 s.2) (hk : k ≤ sz n u a b g r) : LAY n u a b g (srtR key r k s).1 (srtR key r k s).2 := by
  induction k with
  | zero => exact L
  | succ k ih => exact srt1_LAY (ih (by omega)) (by omega)
theorem srtA_LAY {r : Nat} {s : (Nat → Nat) × (Nat → Nat → Nat)} (L : LAY n u a b g s.1 s.2) : LAY n u a b g (srtA n u pr a b g r s).1 (srtA n u pr a b g r s).2 := by
  induction r with
  | zero => exact L
  | succ r ih => exact srtR_LAY ih (Nat.le_refl _)
/-- a sort of a row leaves the other rows -/
theorem srt1_keep {r k : Nat} {s : (Nat → Nat) × (Nat → Nat → Nat)} (L : LAY n u a b g s.1 s.2) (hk : k < sz n u a b g r) {x : Nat} (hx : rb a b g x ≠ r) : (srt1 key r k s).1 x = s.1 x := by
  induction k generalizing s with
  | zero => rfl
  | succ k ih =>
    unfold srt1
    split
    · rw [ih (s := (plS s.2 r k (k + 1) s.1, bxS r k (k + 1) s.2)) (L.swap (by omega) hk) (by omega)]
      exact plS_row L (by omega) hk hx
    · rfl
theorem srtR_keep {r k : Nat} {s : (Nat → Nat) × (Nat → Nat → Nat)} (L : LAY n u a b g s.1 s.2) (hk : k ≤ sz n u a b g r) {x : Nat} (hx : rb a b g x ≠ r) : (srtR key r k s).1 x = s.1 x := by
  induction k with
  | zero => rfl
  | succ k ih => exact (srt1_keep (srtR_LAY L (by omega)) (by omega) hx).trans (ih (by omega))
/-- the person whose parents tell a box's key stands in the box's row -/
theorem kyO_ok (W : WF n u pr a b g) {w : Nat} (hw : w < u) (hr : rw_ a b g w < 16) : kyO a b g w < n ∧ g (kyO a b g w) = lw a b g w := by
  obtain ⟨h1, h2, h3⟩ := W.par hw
  unfold kyO
  by_cases e : a w = rw_ a b g w
  · have := (rw_a W hw).mp e.symm
    rw [if_pos e]
    refine ⟨h2, ?_⟩
    unfold lw at this ⊢
    omega
  · have h4 : ¬ g (a w) < lw a b g w := fun q => e ((rw_a W hw).mpr q).symm
    rw [if_neg e]
    refine ⟨h1, ?_⟩
    unfold lw at h4 ⊢
    omega
def kyQ (a b g : Nat → Nat) (x : Nat) : Nat := if x < 16 then x else kyO a b g (x - 16)
theorem ky_Q {x : Nat} : ky pr a b g pl x = kyP pr a b g pl (kyQ a b g x) := by
  unfold ky kyQ
  by_cases h : x < 16
  · rw [if_pos h, if_pos h]
  · rw [if_neg h, if_neg h]
theorem kyQ_ok (W : WF n u pr a b g) {x r : Nat} (ht : th n u a b g x = true) (hr : rb a b g x = r) : kyQ a b g x < n ∧ g (kyQ a b g x) = r := by
  unfold kyQ
  by_cases h : x < 16
  · rw [if_pos h]
    rw [th_p h] at ht
    rw [rb_p h] at hr
    exact ⟨of_decide_eq_true ht, hr⟩
  · rw [if_neg h]
    have hx : x = 16 + (x - 16) := by omega
    rw [hx, th_u] at ht
    rw [hx, rb_u] at hr
    simp only [Bool.and_eq_true, decide_eq_true_eq] at ht
    obtain ⟨k1, k2⟩ := kyO_ok W ht.1 ht.2
    exact ⟨k1, k2.trans hr⟩
theorem ky_congr (W : WF n u pr a b g) {x r : Nat} (ht : th n u a b g x = true) (hr : rb a b g x = r) (h : ∀ y, rb a b g y ≠ r → pl' y = pl y) : ky pr a b g pl' x = ky pr a b g pl x := by
  obtain ⟨k1, k2⟩ := kyQ_ok W ht hr
  rw [ky_Q, ky_Q]
  unfold kyP
  by_cases e : pr (kyQ a b g x) < 12
  · rw [if_pos e, if_pos e]
    refine mid_congr W (W.pr12 k1 e) fun y _ _ h3 => h y ?_
    have := W.gen k1 e
    unfold lw at h3
    omega
  · rw [if_neg e, if_neg e]
theorem ky_lt (W : WF n u pr a b g) (L : LAY n u a b g pl bx) {x : Nat} (ht : th n u a b g x = true) : ky pr a b g pl x < 1001 := by
  obtain ⟨k1, k2⟩ := kyQ_ok W ht rfl
  rw [ky_Q]
  unfold kyP
  by_cases e : pr (kyQ a b g x) < 12
  · rw [if_pos e]
    have := mid_lt W L (W.pr12 k1 e)
    omega
  · rw [if_neg e]; omega
theorem X7_keyOf (W : WF n u pr a b g) (F : FX n u pr a b pu fp sp) (Q : RF n u a b g an ge am lv rf) (P : PLX n u a b g pl po) (B : FBX u a b g fb sb) {x r : Nat} (hx : x < 28) (ht : th n u a b g x = true) (hr : rb a b g x = r) :
    p7_keyOf fp ge pu rf sp fb po sb (nI x) (nI r) = nI (ky pr a b g pl x) := by
  have hn := W.n16
  have hu := W.u12
  obtain ⟨k1, k2⟩ := kyQ_ok W ht hr
  have hJ : p7_keyOf_J29 ge pu fb po sb (nI r) (nI (kyQ a b g x)) = nI (ky pr a b g pl x) := by
    unfold p7_keyOf_J29
    rw [at_in (by omega) (by omega), (Q.1 _ k1).1, k2, if_pos rfl, X1_hasParents W F k1, ky_Q]
    unfold kyP
    by_cases e : pr (kyQ a b g x) < 12
    · rw [decide_eq_true e, cond_true, if_pos e]
      unfold p7_keyOf_J64
      rw [cond_true, X7_midPar W F P B k1 (W.pr12 k1 e)]
    · rw [decide_eq_false e, cond_false, if_neg e]
      rfl
  unfold p7_keyOf p9_unionOfReference
  by_cases h : x < 16
  · have hq : kyQ a b g x = x := if_pos h
    rw [hq] at hJ
    rw [n16, if_neg (nI_ge h (by omega))]
    simp only [lb]
    rw [if_pos trivial]
    exact hJ
  · have hxe : x = 16 + (x - 16) := by omega
    have ht2 := ht
    rw [hxe, th_u] at ht2
    simp only [Bool.and_eq_true, decide_eq_true_eq] at ht2
    obtain ⟨h1, h2, h3⟩ := W.par ht2.1
    have hq : kyQ a b g x = kyO a b g (x - 16) := if_neg h
    rw [hq] at hJ
    rw [n16, if_pos (nI_le (by omega) (by omega)), nI_sub (by omega)]
    simp only [lb]
    rw [if_neg (nI_m1 (by omega))]
    unfold p7_personOf p9_unionOfReference p1_otherPartner
    rw [n16, if_pos (nI_le (by omega) (by omega)), if_pos (nI_le (by omega) (by omega)), nI_sub (by omega), at_in (f := rf) (by omega) (by omega), (Q.2 _ ht2.1).2, F.at_fp hu ht2.1, F.at_sp hu ht2.1]
    simp only [lb]
    unfold kyO at hJ
    by_cases e : a (x - 16) = rw_ a b g (x - 16)
    · rw [if_pos e] at hJ
      rw [if_pos ((nI_rN (by omega) (by omega)).mpr e.symm)]
      exact hJ
    · rw [if_neg e] at hJ
      rw [if_neg (fun q => e ((nI_rN (by omega) (by omega)).mp q).symm)]
      exact hJ
theorem nI_dec {k : Nat} : nI (k + 1) + (-1 : Int32) = nI k := by
  rw [← nI_add]
  have : nI 1 + (-1 : Int32) = 0 := by decide
  rw [Int32.add_assoc, this, Int32.add_zero]
theorem X7_sort1 (W : WF n u pr a b g) {r : Nat} (hr : r < rowsN g n) (hkey : ∀ x, th n u a b g x = true → rb a b g x = r → key x < 2000) (hks : ∀ x, x < 28 → th n u a b g x = true → rb a b g x = r → ks x = nI (key x)) :
    ∀ (k fuel : Nat) (s : (Nat → Nat) × (Nat → Nat → Nat)) (od po : Nat → Int32), k < fuel → k < sz n u a b g r → RX n u a b g s.1 s.2 od rs po fb sb → LAY n u a b g s.1 s.2 →
    ∃ od' po', p7_sortRow_L13 ks rs (nI r) fuel (nI k) od po = some (od', po') ∧ RX n u a b g (srt1 key r k s).1 (srt1 key r k s).2 od' rs po' fb sb := by
  intro k
  induction k with
  | zero =>
    intro fuel s od po hf hk R L
    obtain ⟨f, rfl⟩ : ∃ f, fuel = f + 1 := ⟨fuel - 1, by omega⟩
    refine ⟨od, po, ?_, R⟩
    rw [p7_sortRow_L13, p7_sortRow_L13_B, if_pos (by decide)]
  | succ k ih =>
    intro fuel s od po hf hk R L
    obtain ⟨f, rfl⟩ : ∃ f, fuel = f + 1 := ⟨fuel - 1, by omega⟩
    have hsz := sz_le W (r := r)
    obtain ⟨q1, q2, q3, q4⟩ := L.2 r k (by omega)
    obtain ⟨v1, v2, v3, v4⟩ := L.2 r (k + 1) hk
    have b1 := hkey _ q2 q3
    have b2 := hkey _ v2 v3
    rw [p7_sortRow_L13, p7_sortRow_L13_B, n0, if_neg (nI_ge (by omega) (by omega)), n1, nI_sub (by omega), show k + 1 - 1 = k from rfl]
    unfold p7_keyAt
    rw [X7_boxAt W R.1 R.2.1 hr (by omega), X7_boxAt W R.1 R.2.1 hr hk, at_in q1 (by omega), at_in v1 (by omega), hks _ q1 q2 q3, hks _ v1 v2 v3]
    unfold srt1
    by_cases e : key (s.2 r (k + 1)) < key (s.2 r k)
    · rw [if_neg (nI_ge e (by omega)), if_pos e]
      obtain ⟨od1, po1, e1, R1⟩ := X7_exchange W R L hr (i := k) (j := k + 1) (by omega) hk
      rw [e1]
      simp only [lb, uc2]
      rw [show (-nI 1 : Int32) = -1 from rfl, nI_dec]
      exact ih f (plS s.2 r k (k + 1) s.1, bxS r k (k + 1) s.2) od1 po1 (by omega) (by omega) R1 (L.swap (by omega) hk)
    · rw [if_pos (nI_le (by omega) (by omega)), if_neg e]
      exact ⟨od, po, rfl, R⟩
theorem X7_sortRow (W : WF n u pr a b g) {r : Nat} (hr : r < rowsN g n) {s : (Nat → Nat) × (Nat → Nat → Nat)} (R : RX n u a b g s.1 s.2 od rs po fb sb) (L : LAY n u a b g s.1 s.2) (hkey : ∀ x, th n u a b g x = true → rb a b g x = r → key x < 2000) (hks : ∀ x, x < 28 → th n u a b g x = true → rb a b g x = r → ks x = nI (key x)) (h1 : 1 ≤ sz n u a b g r) :
    ∃ od' po', p7_sortRow ks od po rs (nI r) = some (od', po') ∧ RX n u a b g (srtR key r (sz n u a b g r) s).1 (srtR key r (sz n u a b g r) s).2 od' rs po' fb sb := by
  have hsz := sz_le W (r := r)
  have hL := loop_all (fun k i (z : (Nat → Int32) × (Nat → Int32)) => p7_sortRow_L2 ks rs (nI r) k (nI i) z.1 z.2) (sz n u a b g r)
    (fun i z => RX n u a b g (srtR key r i s).1 (srtR key r i s).2 z.1 rs z.2 fb sb)
    (fun z => RX n u a b g (srtR key r (sz n u a b g r) s).1 (srtR key r (sz n u a b g r) s).2 z.1 rs z.2 fb sb) (by
      intro k z hz
      refine ⟨z, ?_, hz⟩
      try dsimp only
      rw [p7_sortRow_L2, p7_sortRow_L2_B, X7_boxCountOf W hz.1 hr, if_pos (nI_le (Nat.le_refl _) (by omega))]) (by
      intro k i z hi hz
      obtain ⟨od1, po1, e1, R1⟩ := X7_sort1 (fb := fb) (sb := sb) W hr hkey hks i FU (srtR key r i s) z.1 z.2 (by show i < 1024; omega) hi hz (srtR_LAY L (by omega))
      refine ⟨(od1, po1), ?_, R1⟩
      try dsimp only
      rw [p7_sortRow_L2, p7_sortRow_L2_B, X7_boxCountOf W hz.1 hr, if_neg (nI_ge hi (by omega)), e1]
      simp only [ob, uc2, p7_sortRow_J49, lb]
      rw [n1, nI_add]) FU 1 (od, po) h1 (by show sz n u a b g r - 1 < 1024; omega) R
  obtain ⟨z, e1, e2⟩ := hL
  try dsimp only at e1
  refine ⟨z.1, z.2, ?_, e2⟩
  unfold p7_sortRow
  rw [n1, e1]
  rfl
/-- every row of the chart has a box -/
theorem rowsN_at {g : Nat → Nat} {n : Nat} (h : 0 < rowsN g n) : ∃ p, p < n ∧ g p + 1 = rowsN g n := by
  induction n with
  | zero => exact absurd h (Nat.lt_irrefl _)
  | succ n ih =>
    unfold rowsN at h ⊢
    by_cases e : rowsN g n ≤ g n + 1
    · exact ⟨n, by omega, by omega⟩
    · obtain ⟨p, h1, h2⟩ := ih (by omega)
      exact ⟨p, by omega, by omega⟩
theorem gen_at (W : WF n u pr a b g) : ∀ (k p : Nat), p < n → k ≤ g p → ∃ q, q < n ∧ g q = k := by
  intro k p
  generalize hd : g p - k = d
  induction d generalizing p with
  | zero => intro hp hk; exact ⟨p, hp, by omega⟩
  | succ d ih =>
    intro hp hk
    have h12 : pr p < 12 := by
      by_cases e : pr p < 12
      · exact e
      · have := W.gen0 hp e; omega
    have hg := W.gen hp h12
    obtain ⟨h1, h2, h3⟩ := W.par (W.pr12 hp h12)
    by_cases e : g (b (pr p)) ≤ g (a (pr p))
    · exact ih (a (pr p)) (by omega) h1 (by omega)
    · exact ih (b (pr p)) (by omega) h2 (by omega)
theorem sz_pos (W : WF n u pr a b g) {r : Nat} (hr : r < rowsN g n) : 1 ≤ sz n u a b g r := by
  have hn := W.n16
  obtain ⟨p, h1, h2⟩ := rowsN_at (g := g) (n := n) (by omega)
  obtain ⟨q, h3, h4⟩ := gen_at W r p h1 (by omega)
  have := cnt_lt (f := inr n u a b g r) (i := q) (n := 28) (by omega) ((inr_p h3 hn).mpr h4)
  unfold sz; omega
theorem X7_keys (W : WF n u pr a b g) (F : FX n u pr a b pu fp sp) (Q : RF n u a b g an ge am lv rf) (R : RX n u a b g pl bx od rs po fb sb) (L : LAY n u a b g pl bx) {r : Nat} (hr : r < rowsN g n) :
    ∃ ks', p7_sortByKeys_L15 fp ge pu rf sp fb od po rs sb (nI r) FU (nI 0) ks = some ks' ∧ ∀ x, x < 28 → th n u a b g x = true → rb a b g x = r → ks' x = nI (ky pr a b g pl x) := by
  have hsz := sz_le W (r := r)
  have hL := loop_all (fun k i (z : Nat → Int32) => p7_sortByKeys_L15 fp ge pu rf sp fb od po rs sb (nI r) k (nI i) z) (sz n u a b g r)
    (fun i z => ∀ k, k < i → z (bx r k) = nI (ky pr a b g pl (bx r k))) (fun z => ∀ k, k < sz n u a b g r → z (bx r k) = nI (ky pr a b g pl (bx r k))) (by
      intro k z hz
      refine ⟨z, ?_, hz⟩
      try dsimp only
      rw [p7_sortByKeys_L15, p7_sortByKeys_L15_B, X7_boxCountOf W R.1 hr, if_pos (nI_le (Nat.le_refl _) (by omega))]) (by
      intro k i z hi hz
      obtain ⟨q1, q2, q3, q4⟩ := L.2 r i hi
      refine ⟨upd z (bx r i) (nI (ky pr a b g pl (bx r i))), ?_, fun j hj => ?_⟩
      · try dsimp only
        rw [p7_sortByKeys_L15, p7_sortByKeys_L15_B, X7_boxCountOf W R.1 hr, if_neg (nI_ge hi (by omega)), X7_boxAt W R.1 R.2.1 hr hi]
        simp only [lb]
        rw [X7_keyOf W F Q R.2.2.1 R.2.2.2 q1 q2 q3, put_in q1 (by omega), n1, nI_add]
      · by_cases e : j = i
        · rw [e, upd_eq]
        · obtain ⟨v1, v2, v3, v4⟩ := L.2 r j (by omega)
          rw [upd_ne (fun q => by rw [q, q4] at v4; omega)]
          exact hz j (by omega)) FU 0 ks (Nat.zero_le _) (by show sz n u a b g r - 0 < 1024; omega) (fun k hk => absurd hk (Nat.not_lt_zero _))
  obtain ⟨z, e1, e2⟩ := hL
  try dsimp only at e1
  refine ⟨z, e1, fun x hx ht hxr => ?_⟩
  obtain ⟨l1, l2⟩ := L.1 x hx ht
  rw [hxr] at l1 l2
  have := e2 _ l1
  rw [l2] at this
  exact this
theorem X7_arrange (W : WF n u pr a b g) (F : FX n u pr a b pu fp sp) (Q : RF n u a b g an ge am lv rf) (R : RX n u a b g pl bx od rs po fb sb) (L : LAY n u a b g pl bx) :
    ∃ ks' od' po', p7_sortByKeys (nI (rowsN g n)) fp ge pu rf sp fb ks od po rs sb = some (ks', od', po') ∧
      RX n u a b g (srtA n u pr a b g (rowsN g n - 1) (pl, bx)).1 (srtA n u pr a b g (rowsN g n - 1) (pl, bx)).2 od' rs po' fb sb := by
  have hR := rows16 W
  by_cases h0 : rowsN g n = 0
  · refine ⟨ks, od, po, ?_, ?_⟩
    · unfold p7_sortByKeys
      rw [h0, show FU = 1023 + 1 from rfl, p7_sortByKeys_L2, p7_sortByKeys_L2_B, if_pos (by decide)]
      rfl
    · rw [h0]; exact R
  have hL := loop_all (fun k i (z : (Nat → Int32) × (Nat → Int32) × (Nat → Int32)) => p7_sortByKeys_L2 fp ge pu rf (nI (rowsN g n)) sp fb rs sb k (nI (i + 1)) z.1 z.2.1 z.2.2) (rowsN g n - 1)
    (fun i z => RX n u a b g (srtA n u pr a b g i (pl, bx)).1 (srtA n u pr a b g i (pl, bx)).2 z.2.1 rs z.2.2 fb sb)
    (fun z => RX n u a b g (srtA n u pr a b g (rowsN g n - 1) (pl, bx)).1 (srtA n u pr a b g (rowsN g n - 1) (pl, bx)).2 z.2.1 rs z.2.2 fb sb) (by
      intro k z hz
      refine ⟨z, ?_, hz⟩
      try dsimp only
      rw [p7_sortByKeys_L2, p7_sortByKeys_L2_B, if_pos (nI_le (by omega) (by omega))]) (by
      intro k i z hi hz
      have hi1 : i + 1 < rowsN g n := by omega
      have Li := srtA_LAY (n := n) (u := u) (pr := pr) (a := a) (b := b) (g := g) (s := (pl, bx)) L (r := i)
      obtain ⟨ks1, e1, hk1⟩ := X7_keys (ks := z.1) W F Q hz Li hi1
      obtain ⟨od1, po1, e2, R1⟩ := X7_sortRow W hi1 hz Li (fun x hx1 _ => by have := ky_lt W Li hx1; omega) hk1 (sz_pos W hi1)
      refine ⟨(ks1, od1, po1), ?_, R1⟩
      try dsimp only
      rw [p7_sortByKeys_L2, p7_sortByKeys_L2_B, if_neg (nI_ge hi1 (by omega)), n0, e1]
      simp only [ob, p7_sortByKeys_J51]
      rw [e2]
      simp only [uc2, lb]
      rw [n1, nI_add]) FU 0 (ks, od, po) (Nat.zero_le _) (by show rowsN g n - 1 - 0 < 1024; omega) R
  obtain ⟨z, e1, e2⟩ := hL
  try dsimp only at e1
  refine ⟨z.1, z.2.1, z.2.2, ?_, e2⟩
  unfold p7_sortByKeys
  rw [n1, e1]
  rfl
end ARR
