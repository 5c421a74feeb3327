/-! swap, improve, arrange -/
def impN (n u : Nat) (pr a b g : Nat → Nat) : Nat → Nat × (Nat → Nat) × (Nat → Nat → Nat) → Nat × (Nat → Nat) × (Nat → Nat → Nat)
  | 0, s => s
  | m + 1, s => if (impA n u pr a b g (rowsN g n) (0, s.2)).1 = 0 then (s.1, (impA n u pr a b g (rowsN g n) (0, s.2)).2)
      else impN n u pr a b g m (s.1 + (impA n u pr a b g (rowsN g n) (0, s.2)).1, (impA n u pr a b g (rowsN g n) (0, s.2)).2)
section OPSC
variable {n u : Nat} {pr a b g lc : Nat → Nat} {lt : Nat → Nat → Nat} {an : Nat → Nat → Bool} {yr uy : Nat → Int32} {pl : Nat → Nat} {bx : Nat → Nat → Nat} {fam fam' mh ms : Nat → Int64} {pu fp sp uY ge am lv rf od rs po fb sb hc hc' bA gM lM ro rS ks : Nat → Int32} {it : Nat → Bool} {next held uc rc R uH : Int32} {kept has : Bool}
theorem impA_le (r : Nat) (s : Nat × (Nat → Nat) × (Nat → Nat → Nat)) : (impA n u pr a b g r s).1 ≤ s.1 + r * 28 := by
  have h1 : ∀ r k s, (impR n u pr a b g r k s).1 ≤ s.1 + k := by
    intro r k
    induction k with
    | zero => intro s; exact Nat.le_refl _
    | succ k ih =>
      intro s
      have h := ih s
      show (imp1 n u pr a b g r k (impR n u pr a b g r k s)).1 ≤ s.1 + (k + 1)
      unfold imp1
      split
      · show (impR n u pr a b g r k s).1 + 1 ≤ _
        omega
      · omega
  induction r with
  | zero => show s.1 ≤ _; omega
  | succ r ih =>
    have h := h1 r (sz n u a b g r - 1) (impA n u pr a b g r s)
    have h2 : sz n u a b g r ≤ 28 := cnt_le _ _
    show (impR n u pr a b g r (sz n u a b g r - 1) (impA n u pr a b g r s)).1 ≤ _
    omega
theorem impN_LAY : ∀ m (s : Nat × (Nat → Nat) × (Nat → Nat → Nat)), LAY n u a b g s.2.1 s.2.2 → LAY n u a b g (impN n u pr a b g m s).2.1 (impN n u pr a b g m s).2.2 := by
  intro m
  induction m with
  | zero => exact fun s h => h
  | succ m ih =>
    intro s h
    have h1 := impA_LAY (n := n) (u := u) (pr := pr) (a := a) (b := b) (g := g) (s := (0, s.2)) h (r := rowsN g n)
    unfold impN
    split
    · exact h1
    · exact ih _ h1
theorem X9_impL (W : WF n u pr a b g) (F : FX n u pr a b pu fp sp) (hl : ∀ w, w < u → lv w = nI (lw a b g w)) {v : Nat} (hv : v ≤ 5) :
    ∀ m i (s : Nat × (Nat → Nat) × (Nat → Nat → Nat)) (od po : Nat → Int32) (fuel : Nat), i + m = v → m < fuel → RX n u a b g s.2.1 s.2.2 od rs po fb sb → LAY n u a b g s.2.1 s.2.2 →
      ∃ od' po', p9_improve_L31 lv pu (nI (rowsN g n)) (nI u) fb rs sb (nI v) fuel (nI s.1) (nI i) od po = some (nI (impN n u pr a b g m s).1, od', po') ∧ RX n u a b g (impN n u pr a b g m s).2.1 (impN n u pr a b g m s).2.2 od' rs po' fb sb := by
  have hR := rows16 W
  intro m
  induction m with
  | zero =>
    intro i s od po fuel him hf RR L
    obtain ⟨k, rfl⟩ : ∃ j, fuel = j + 1 := ⟨fuel - 1, by omega⟩
    refine ⟨od, po, ?_, RR⟩
    rw [p9_improve_L31, p9_improve_L31_B, if_pos (nI_le (by omega) (by omega))]
    rfl
  | succ m ih =>
    intro i s od po fuel him hf RR L
    obtain ⟨k, rfl⟩ : ∃ j, fuel = j + 1 := ⟨fuel - 1, by omega⟩
    obtain ⟨od1, po1, e1, R1⟩ := X7_improve W F hl RR L
    have L1 := impA_LAY (n := n) (u := u) (pr := pr) (a := a) (b := b) (g := g) (s := (0, s.2)) L (r := rowsN g n)
    have hle := impA_le (n := n) (u := u) (pr := pr) (a := a) (b := b) (g := g) (rowsN g n) (0, s.2)
    rw [p9_improve_L31, p9_improve_L31_B, if_neg (nI_ge (by omega) (by omega)), e1]
    simp only [ob, uc3]
    have es : ((0 : Nat), s.2.1, s.2.2) = (0, s.2) := rfl
    rw [es] at *
    unfold impN
    by_cases c : (impA n u pr a b g (rowsN g n) (0, s.2)).1 = 0
    · rw [if_pos c, c, show (0 : Int32) = nI 0 from rfl, if_pos rfl]
      exact ⟨od1, po1, rfl, R1⟩
    · rw [if_neg c, show (0 : Int32) = nI 0 from rfl, if_neg (fun q => c ((nI_eq (by dsimp only at hle; omega) (by omega)).mp q))]
      simp only [lb_eq]
      rw [nI_add, n1, nI_add]
      exact ih (i + 1) (s.1 + (impA n u pr a b g (rowsN g n) (0, s.2)).1, (impA n u pr a b g (rowsN g n) (0, s.2)).2) od1 po1 k (by omega) (by omega) R1 L1
theorem M_impL (W : WF n u pr a b g) {fam0 : Nat → Int64} (G : GL n u a b g gM lM) (hS : ∀ r, r < 16 → rS r = nI (sz n u a b g r)) {v : Nat} (hv : v ≤ 5) :
    ∀ m i (s : Nat × (Nat → Nat) × (Nat → Nat → Nat)) (bA : Nat → Int32) (fam : Nat → Int64) (fuel c : Nat), i + m = v → m + 1 < fuel → 0 < c → c < 1000 → MPS n u pr a b g s.2.1 s.2.2 fam0 bA fam → LAY n u a b g s.2.1 s.2.2 →
      ∃ bA' fam', p10_improve_L38 gM lM rS (nI (rowsN g n)) (nI v) fuel (nI s.1) (nI c) (nI i) bA fam = some (nI (impN n u pr a b g m s).1, bA', fam') ∧ MPS n u pr a b g (impN n u pr a b g m s).2.1 (impN n u pr a b g m s).2.2 fam0 bA' fam' := by
  have hR := rows16 W
  intro m
  induction m with
  | zero =>
    intro i s bA fam fuel c him hf hc0 hc1 M L
    obtain ⟨k, rfl⟩ : ∃ j, fuel = j + 1 := ⟨fuel - 1, by omega⟩
    refine ⟨bA, fam, ?_, M⟩
    rw [p10_improve_L38, p10_improve_L38_B, if_pos (nI_le (by omega) (by omega))]
    rfl
  | succ m ih =>
    intro i s bA fam fuel c him hf hc0 hc1 M L
    obtain ⟨k, rfl⟩ : ∃ j, fuel = j + 1 := ⟨fuel - 1, by omega⟩
    obtain ⟨bA1, fam1, e1, M1⟩ := M_improve W G hS M L
    have L1 := impA_LAY (n := n) (u := u) (pr := pr) (a := a) (b := b) (g := g) (s := (0, s.2)) L (r := rowsN g n)
    have hle := impA_le (n := n) (u := u) (pr := pr) (a := a) (b := b) (g := g) (rowsN g n) (0, s.2)
    rw [p10_improve_L38, p10_improve_L38_B, if_neg (nI_ge (by omega) (by omega)), n0, if_neg (nI_ge hc0 (by omega)), e1]
    simp only [ob, uc3, lb_eq]
    have es : ((0 : Nat), s.2.1, s.2.2) = (0, s.2) := rfl
    rw [es] at *
    unfold impN
    rw [nI_add, n1, nI_add]
    by_cases c : (impA n u pr a b g (rowsN g n) (0, s.2)).1 = 0
    · rw [if_pos c, c, Nat.add_zero]
      refine ⟨bA1, fam1, ?_, M1⟩
      obtain ⟨k', rfl⟩ : ∃ j, k = j + 1 := ⟨k - 1, by omega⟩
      rw [p10_improve_L38, p10_improve_L38_B]
      split
      · rfl
      · rw [n0, if_pos (nI_le (Nat.le_refl _) (by omega))]
    · rw [if_neg c]
      exact ih (i + 1) (s.1 + (impA n u pr a b g (rowsN g n) (0, s.2)).1, (impA n u pr a b g (rowsN g n) (0, s.2)).2) bA1 fam1 k _ (by omega) (by omega) (by omega) (by dsimp only at hle; omega) M1 L1
theorem reqPlace (W : WF n u pr a b g) (RS : RSX n u a b g rs) (hS : ∀ r, r < 16 → rS r = nI (sz n u a b g r)) (x y : Int32) :
    (∃ r k, r < rowsN g n ∧ k < sz n u a b g r ∧ x = nI r ∧ y = nI k ∧ p9_requirePlace (nI (rowsN g n)) rs x y = some (.inr ()) ∧ p10_isPlace (nI (rowsN g n)) rS x y = some true) ∨
    (p9_requirePlace (nI (rowsN g n)) rs x y = some (.inl 1) ∧ p10_isPlace (nI (rowsN g n)) rS x y = some false) := by
  have hR := rows16 W
  have h1 : (1 : Int64) = lN 1 := rfl
  unfold p9_requirePlace p10_isPlace p9_requireRow p10_isRow
  rw [nI_l (by omega)]
  rcases idx_cases x (rowsN g n) (by omega) with ⟨r, hr, rfl⟩ | h
  · have hsz := sz_le W (r := r)
    rw [inRange_in hr (by omega), cond_true, gd_in (by omega) (by omega), nI_clamp (by omega), hS r (by omega), n0, if_neg (nI_nlt (by omega) (by omega)), if_pos (nI_lt hr (by omega)), nI_l (by omega), X7_boxCountOf W RS hr]
    simp only [ox, oi]
    rcases idx_cases y (sz n u a b g r) (by omega) with ⟨k, hk, rfl⟩ | h
    · refine Or.inl ⟨r, k, hr, hk, rfl, rfl, ?_, ?_⟩
      · rw [if_neg (nI_nlt (by omega) (by omega)), if_pos (nI_lt hk (by omega))]
      · rw [inRange_in hk (by omega)]; rfl
    · refine Or.inr ⟨?_, by rw [inRange_out h (by omega)]; rfl⟩
      by_cases c : y < nI 0
      · rw [if_pos c]
      · rw [if_neg c, if_neg]
        rcases h with h | h
        · exact absurd h c
        · obtain ⟨j, hj, rfl⟩ := nI_of c
          rw [nI_leI (by omega) hj] at h
          exact nI_nlt h hj
  · refine Or.inr ⟨?_, by rw [inRange_out h (by omega)]; rfl⟩
    by_cases c : x < 0
    · rw [if_pos c]; rfl
    · rw [if_neg c, if_neg]
      · rfl
      · rcases h with h | h
        · exact absurd h c
        · obtain ⟨j, hj, rfl⟩ := nI_of c
          rw [nI_leI (by omega) hj] at h
          exact nI_nlt h hj
theorem MPS.UM (V : UM n u pr a b g uy pl fam) (hu : u ≤ 12) {pl' : Nat → Nat} {bx' : Nat → Nat → Nat} (M : MPS n u pr a b g pl' bx' fam bA fam') : UM n u pr a b g uy pl' fam' :=
  ⟨M.2.2.1, M.2.1, fun w hw => by rw [M.2.2.2 _ (by omega)]; exact V.2.2 w hw⟩
theorem swap_ok (F0 : FS n lc lt yr uc rc pu fp sp uY ge am lv rf od rs po fb sb fam) (H : HIS n lc lt yr hc next held mh uH) (S : SNP n lc lt yr hc kept ms has) (x y z : Int32) :
    ∃ bA' gM' it' lM' ro' rS' R', (∃ r0, p9_swap uc rc next held fp lv pu sp uY hc fb od po rs sb x y z = some (.inl 1) ∧ p10_swap uH bA gM mh it lM fam ro rS x y z = some (r0, bA', gM', mh, it', lM', fam, ro', rS', R', 1, uH)) ∨
    (∃ r od' po' hc' next' held' mh' fam' uH',
      p9_swap uc rc next held fp lv pu sp uY hc fb od po rs sb x y z = some (.inr (r, hc', held', next', od', po')) ∧
      p10_swap uH bA gM mh it lM fam ro rS x y z = some (r, bA', gM', mh', it', lM', fam', ro', rS', R', 0, uH') ∧
      FS n lc lt yr uc rc pu fp sp uY ge am lv rf od' rs po' fb sb fam' ∧ HIS n lc lt yr hc' next' held' mh' uH' ∧ SNP n lc lt yr hc' kept ms has) := by
  obtain ⟨u, pr, a, b, g, an, uy, pl, bx, rfl, rfl, U, X, V, P⟩ := F0
  have W := U.1
  have hn := W.n16
  have hu := W.u12
  obtain ⟨bA', gM', it', lM', ro', rS', e0, G, B, BAx⟩ := M_lay (bA := bA) (ge := gM) (it := it) (lv := lM) (ro := ro) (rs := rS) W V.1 V.2.1 U.2.2
  unfold p9_swap p10_swap
  rw [e0]
  simp only [ob, uc7]
  rcases reqPlace W X.2.2.2.1 B.2 x y with ⟨r, i, hr, hi, rfl, rfl, e1, e2⟩ | ⟨e1, e2⟩
  case inr => exact ⟨bA', gM', it', lM', ro', rS', nI (rowsN g n), Or.inl ⟨0, by rw [e1]; rfl, by rw [e2]; rfl⟩⟩
  rw [e1, e2]
  simp only [ox, cond_true]
  rcases reqPlace W X.2.2.2.1 B.2 (nI r) z with ⟨r2, j, hr2, hj, e3, rfl, e4, e5⟩ | ⟨e4, e5⟩
  case inr => exact ⟨bA', gM', it', lM', ro', rS', nI (rowsN g n), Or.inl ⟨0, by rw [e4], by rw [e5]; rfl⟩⟩
  have hR := rows16 W
  have e3' : r2 = r := ((nI_eq (by omega) (by omega)).mp e3).symm
  subst e3'
  rw [e4, e5]
  simp only [cond_true]
  obtain ⟨hc', next', held', mh', uH', q1, q2, H', S'⟩ := record_ok (has := has) (kept := kept) (ms := ms) U X V P H S
  obtain ⟨od', po', e6, R'⟩ := X7_exchange W X.2.2.2 U.2.2 hr hi hj
  obtain ⟨bA2, fam', e7, M'⟩ := M_swap (fam0 := fam) W ⟨BAx, V.2.1, V.1, fun _ _ => rfl⟩ U.2.2 hr hi hj
  have L' := LAY.swap U.2.2 hi hj
  refine ⟨bA2, gM', it', lM', ro', rS', nI (rowsN g n), Or.inr ⟨nI (tot n u pr a b g (plS bx r2 i j pl)), od', po', hc', next', held', mh', fam', uH', ?_, ?_, ⟨u, pr, a, b, g, an, uy, _, _, rfl, rfl, ⟨W, U.2.1, L'⟩, ⟨X.1, X.2.1, X.2.2.1, R'⟩, MPS.UM V hu M', P.congr hn fun k hk => M'.2.2.2 k (by omega)⟩, H', S'⟩⟩
  · rw [q1]
    simp only [uc3, lb_eq]
    rw [e6]
    simp only [uc2]
    rw [X7_all W X.1 (fun w hw => (X.2.2.1.2 w hw).1) R' L']
    rfl
  · rw [q2]
    simp only [uc2]
    rw [e7]
    simp only []
    rw [M_all W M'.2.2.1 G M'.2.1 L']
theorem improve_ok (F0 : FS n lc lt yr uc rc pu fp sp uY ge am lv rf od rs po fb sb fam) (H : HIS n lc lt yr hc next held mh uH) (S : SNP n lc lt yr hc kept ms has) (x : Int32) :
    (∃ r0, p9_improve uc rc next held fp lv pu sp uY hc fb od po rs sb x = some (.inl 2) ∧ p10_improve uH R bA gM mh it lM fam ro rS x = some (r0, bA, gM, mh, it, lM, fam, ro, rS, R, 1, uH)) ∨
    (∃ r od' po' hc' next' held' bA' gM' it' lM' ro' rS' R' mh' fam' uH',
      p9_improve uc rc next held fp lv pu sp uY hc fb od po rs sb x = some (.inr (r, hc', held', next', od', po')) ∧
      p10_improve uH R bA gM mh it lM fam ro rS x = some (r, bA', gM', mh', it', lM', fam', ro', rS', R', 0, uH') ∧
      FS n lc lt yr uc rc pu fp sp uY ge am lv rf od' rs po' fb sb fam' ∧ HIS n lc lt yr hc' next' held' mh' uH' ∧ SNP n lc lt yr hc' kept ms has) := by
  obtain ⟨u, pr, a, b, g, an, uy, pl, bx, rfl, rfl, U, X, V, P⟩ := F0
  have W := U.1
  have hn := W.n16
  have hu := W.u12
  unfold p9_improve p10_improve
  rw [show p10_inRange x.toInt64 0 5 = _ from inR x 0 5]
  by_cases c1 : x < 0
  · exact Or.inl ⟨0, by rw [if_pos c1], by rw [if_pos c1]; rfl⟩
  rw [if_neg c1, if_neg c1]
  by_cases c2 : x ≤ 5
  case neg => exact Or.inl ⟨0, by rw [if_neg c2], by rw [if_neg c2]; rfl⟩
  rw [if_pos c2, if_pos c2, cond_true]
  obtain ⟨v, hv, rfl⟩ := nI_of2 (M := 5) (n := 5) rfl c1 c2
  obtain ⟨hc', next', held', mh', uH', q1, q2, H', S'⟩ := record_ok (has := has) (kept := kept) (ms := ms) U X V P H S
  obtain ⟨bA', gM', it', lM', ro', rS', e0, G, B, BAx⟩ := M_lay (bA := bA) (ge := gM) (it := it) (lv := lM) (ro := ro) (rs := rS) W V.1 V.2.1 U.2.2
  obtain ⟨od', po', e6, R'⟩ := X9_impL W X.1 (fun w hw => (X.2.2.1.2 w hw).1) hv v 0 (0, pl, bx) od po FU (by omega) (by show v < 1024; omega) X.2.2.2 U.2.2
  obtain ⟨bA2, fam', e7, M'⟩ := M_impL (fam0 := fam) W G B.2 hv v 0 (0, pl, bx) bA' fam FU 1 (by omega) (by show v + 1 < 1024; omega) (by omega) (by omega) ⟨BAx, V.2.1, V.1, fun _ _ => rfl⟩ U.2.2
  have L' := impN_LAY (n := n) (u := u) (pr := pr) (a := a) (b := b) (g := g) v (0, pl, bx) U.2.2
  refine Or.inr ⟨nI (impN n u pr a b g v (0, pl, bx)).1, od', po', hc', next', held', bA2, gM', it', lM', ro', rS', nI (rowsN g n), mh', fam', uH', ?_, ?_, ⟨u, pr, a, b, g, an, uy, _, _, rfl, rfl, ⟨W, U.2.1, L'⟩, ⟨X.1, X.2.1, X.2.2.1, R'⟩, MPS.UM V hu M', P.congr hn fun k hk => M'.2.2.2 k (by omega)⟩, H', S'⟩
  · rw [q1]
    simp only [ob, uc3]
    rw [n0, e6]
    rfl
  · rw [q2]
    simp only [ob, uc2]
    rw [e0]
    simp only [uc7]
    rw [n0, n1, e7]
    rfl
theorem arrange_ok (F0 : FS n lc lt yr uc rc pu fp sp uY ge am lv rf od rs po fb sb fam) (H : HIS n lc lt yr hc next held mh uH) (S : SNP n lc lt yr hc kept ms has) :
    ∃ r ks' od' po' hc' next' held' bA' gM' it' lM' ro' rS' R' mh' fam' uH',
      p9_arrange uc rc next held fp ge lv pu rf sp uY hc fb ks od po rs sb = some (r, hc', held', next', ks', od', po') ∧
      p10_arrange uH bA gM mh it lM fam ro rS = some (r, bA', gM', mh', it', lM', fam', ro', rS', R', 0, uH') ∧
      FS n lc lt yr uc rc pu fp sp uY ge am lv rf od' rs po' fb sb fam' ∧ HIS n lc lt yr hc' next' held' mh' uH' ∧ SNP n lc lt yr hc' kept ms has := by
  obtain ⟨u, pr, a, b, g, an, uy, pl, bx, rfl, rfl, U, X, V, P⟩ := F0
  have W := U.1
  have hn := W.n16
  have hu := W.u12
  obtain ⟨hc', next', held', mh', uH', q1, q2, H', S'⟩ := record_ok (has := has) (kept := kept) (ms := ms) U X V P H S
  obtain ⟨bA', gM', it', lM', ro', rS', e0, G, B, BAx⟩ := M_lay (bA := bA) (ge := gM) (it := it) (lv := lM) (ro := ro) (rs := rS) W V.1 V.2.1 U.2.2
  obtain ⟨ks', od', po', e6, R'⟩ := X7_arrange (ks := ks) W X.1 X.2.2.1 X.2.2.2 U.2.2
  obtain ⟨bA2, fam', e7, M'⟩ := M_arrange (fam0 := fam) W G B.2 ⟨BAx, V.2.1, V.1, fun _ _ => rfl⟩ U.2.2
  have L' := srtA_LAY (n := n) (u := u) (pr := pr) (a := a) (b := b) (g := g) (r := rowsN g n - 1) (s := (pl, bx)) U.2.2
  refine ⟨nI (tot n u pr a b g (srtA n u pr a b g (rowsN g n - 1) (pl, bx)).1), ks', od', po', hc', next', held', bA2, gM', it', lM', ro', rS', nI (rowsN g n), mh', fam', uH', ?_, ?_, ⟨u, pr, a, b, g, an, uy, _, _, rfl, rfl, ⟨W, U.2.1, L'⟩, ⟨X.1, X.2.1, X.2.2.1, R'⟩, MPS.UM V hu M', P.congr hn fun k hk => M'.2.2.2 k (by omega)⟩, H', S'⟩
  · unfold p9_arrange
    rw [q1]
    simp only [ob, uc3]
    rw [e6]
    simp only []
    rw [X7_all W X.1 (fun w hw => (X.2.2.1.2 w hw).1) R' L']
  · unfold p10_arrange
    rw [q2]
    simp only [ob, uc2]
    rw [e0]
    simp only [uc7]
    rw [n1, e7]
    simp only [p10_arrange_J93]
    rw [M_all W M'.2.2.1 G M'.2.1 L']
    rfl
end OPSC
