/-! the law's calls that change the family -/
section RAF
variable {fam mh ms : Nat → Int64} {o : Nat → Int64} {hc lA letters py pu fp sp uY ge am lv rf od rs po fb sb bA gM lM ro rS ks : Nat → Int32} {it : Nat → Bool} {kept has : Bool} {pc uc rc R next held uH : Int32} {nL : Nat} {xs : Nat → Int32} {v4 : Int32}
theorem R27 (G : GDV nL v4) (I : FI pc uc rc lA letters py pu fp sp uY ge am lv rf od rs po fb sb fam hc next held mh uH kept ms has) :
    ∃ am' fp' ge' lv' rf' rc' sp' uc' uY' hc' held' next' bA' gM' mh' it' lM' fam' ro' rS' R' t' uH' o' fb' od' po' rs' sb',
      pL_27 nL xs v4 pc uc rc next held pu fp sp uY ge am lv rf od rs po fb sb hc uH R fam mh gM lM rS ro it bA o = some (am', fp', ge', lv', rf', rc', sp', uc', uY', hc', held', next', bA', gM', mh', it', lM', fam', ro', rS', R', t', uH', o', fb', od', po', rs', sb') ∧
      FI pc uc' rc' lA letters py pu fp' sp' uY' ge' am' lv' rf' od' rs' po' fb' sb' fam' hc' next' held' mh' uH' kept ms has := by
  have I0 := I
  obtain ⟨n, lc, lt, yr, rfl, hC, hX, F0, H, S⟩ := I
  unfold pL_27 pL_marry
  simp only [gd1 G, gd2 G, gd3 G]
  generalize xs (v4 + 1).toNatClampNeg = x
  generalize xs (v4 + 2).toNatClampNeg = y
  generalize xs (v4 + 3).toNatClampNeg = z
  rcases marry_ok (R := R) (bA := bA) (gM := gM) (it := it) (lM := lM) (ro := ro) (rS := rS) F0 H S x y z with ⟨e, r0, he, e1, e2⟩ | ⟨r, uc', rc', fp', sp', uY', ge', am', lv', rf', od', rs', po', fb', sb', hc', next', held', bA', gM', mh', it', lM', fam', ro', rS', R', uH', e1, e2, F', H', S'⟩
  · rw [e1, e2]
    rcases he with rfl | rfl
    · exact ⟨_, _, _, _, _, _, _, _, _, _, _, _, _, _, _, _, _, _, _, _, _, _, _, _, _, _, _, _, _, rfl, I0⟩
    · exact ⟨_, _, _, _, _, _, _, _, _, _, _, _, _, _, _, _, _, _, _, _, _, _, _, _, _, _, _, _, _, rfl, I0⟩
  · rw [e1, e2]
    simp only [ob, oh, uc18, uc19, uc12, lb_eq, gd01, updL_eq', p10_thrown, if_true]
    exact ⟨_, _, _, _, _, _, _, _, _, _, _, _, _, _, _, _, _, _, _, _, _, _, _, _, _, _, _, _, _, rfl, n, lc, lt, yr, rfl, hC, hX, F', H', S'⟩
theorem R28 (G : GDV nL v4) (I : FI pc uc rc lA letters py pu fp sp uY ge am lv rf od rs po fb sb fam hc next held mh uH kept ms has) :
    ∃ am' ge' lv' pu' rf' rc' hc' held' next' bA' gM' mh' it' lM' fam' ro' rS' R' t' uH' o' fb' od' po' rs' sb',
      pL_28 nL xs v4 pc uc rc next held pu fp sp uY ge am lv rf od rs po fb sb hc uH R fam mh gM lM rS ro it bA o = some (am', ge', lv', pu', rf', rc', hc', held', next', bA', gM', mh', it', lM', fam', ro', rS', R', t', uH', o', fb', od', po', rs', sb') ∧
      FI pc uc rc' lA letters py pu' fp sp uY ge' am' lv' rf' od' rs' po' fb' sb' fam' hc' next' held' mh' uH' kept ms has := by
  have I0 := I
  obtain ⟨n, lc, lt, yr, rfl, hC, hX, F0, H, S⟩ := I
  unfold pL_28 pL_adopt
  simp only [gd1 G, gd2 G]
  generalize xs (v4 + 1).toNatClampNeg = x
  generalize xs (v4 + 2).toNatClampNeg = y
  rcases adopt_ok (R := R) (bA := bA) (gM := gM) (it := it) (lM := lM) (ro := ro) (rS := rS) F0 H S x y with ⟨r0, e1, e2⟩ | ⟨r, rc', pu', ge', am', lv', rf', od', rs', po', fb', sb', hc', next', held', bA', gM', mh', it', lM', fam', ro', rS', R', uH', e1, e2, F', H', S'⟩
  · rw [e1, e2]
    exact ⟨_, _, _, _, _, _, _, _, _, _, _, _, _, _, _, _, _, _, _, _, _, _, _, _, _, _, rfl, I0⟩
  · rw [e1, e2]
    simp only [ob, oh, uc15, uc16, uc12, lb_eq, gd01, updL_eq', p10_thrown, if_true]
    exact ⟨_, _, _, _, _, _, _, _, _, _, _, _, _, _, _, _, _, _, _, _, _, _, _, _, _, _, rfl, n, lc, lt, yr, rfl, hC, hX, F', H', S'⟩
theorem R29 (G : GDV nL v4) (I : FI pc uc rc lA letters py pu fp sp uY ge am lv rf od rs po fb sb fam hc next held mh uH kept ms has) :
    ∃ am' ge' lv' pu' rf' rc' hc' held' next' bA' gM' mh' it' lM' fam' ro' rS' R' t' uH' o' fb' od' po' rs' sb',
      pL_29 nL xs v4 pc uc rc next held pu fp sp uY ge am lv rf od rs po fb sb hc uH R fam mh gM lM rS ro it bA o = some (am', ge', lv', pu', rf', rc', hc', held', next', bA', gM', mh', it', lM', fam', ro', rS', R', t', uH', o', fb', od', po', rs', sb') ∧
      FI pc uc rc' lA letters py pu' fp sp uY ge' am' lv' rf' od' rs' po' fb' sb' fam' hc' next' held' mh' uH' kept ms has := by
  have I0 := I
  obtain ⟨n, lc, lt, yr, rfl, hC, hX, F0, H, S⟩ := I
  unfold pL_29 pL_release
  simp only [gd1 G]
  generalize xs (v4 + 1).toNatClampNeg = x
  rcases release_ok (R := R) (bA := bA) (gM := gM) (it := it) (lM := lM) (ro := ro) (rS := rS) F0 H S x with ⟨r0, e1, e2⟩ | ⟨r, rc', pu', ge', am', lv', rf', od', rs', po', fb', sb', hc', next', held', bA', gM', mh', it', lM', fam', ro', rS', R', uH', e1, e2, F', H', S'⟩
  · rw [e1, e2]
    exact ⟨_, _, _, _, _, _, _, _, _, _, _, _, _, _, _, _, _, _, _, _, _, _, _, _, _, _, rfl, I0⟩
  · rw [e1, e2]
    simp only [ob, oh, uc15, uc16, uc12, lb_eq, gd01, updL_eq', p10_thrown, if_true]
    exact ⟨_, _, _, _, _, _, _, _, _, _, _, _, _, _, _, _, _, _, _, _, _, _, _, _, _, _, rfl, n, lc, lt, yr, rfl, hC, hX, F', H', S'⟩
theorem R30 (G : GDV nL v4) (I : FI pc uc rc lA letters py pu fp sp uY ge am lv rf od rs po fb sb fam hc next held mh uH kept ms has) :
    ∃ hc' held' next' bA' gM' mh' it' lM' fam' ro' rS' R' t' uH' o' od' po',
      pL_30 nL xs v4 uc rc next held pu fp sp uY lv od rs po fb sb hc uH fam mh gM lM rS ro it bA o = some (hc', held', next', bA', gM', mh', it', lM', fam', ro', rS', R', t', uH', o', od', po') ∧
      FI pc uc rc lA letters py pu fp sp uY ge am lv rf od' rs po' fb sb fam' hc' next' held' mh' uH' kept ms has := by
  have I0 := I
  obtain ⟨n, lc, lt, yr, rfl, hC, hX, F0, H, S⟩ := I
  unfold pL_30 pL_swap
  simp only [gd1 G, gd2 G, gd3 G]
  generalize xs (v4 + 1).toNatClampNeg = x
  generalize xs (v4 + 2).toNatClampNeg = y
  generalize xs (v4 + 3).toNatClampNeg = z
  obtain ⟨bA', gM', it', lM', ro', rS', R', ⟨r0, e1, e2⟩ | ⟨r, od', po', hc', next', held', mh', fam', uH', e1, e2, F', H', S'⟩⟩ := swap_ok (bA := bA) (gM := gM) (it := it) (lM := lM) (ro := ro) (rS := rS) F0 H S x y z
  · rw [e1, e2]
    exact ⟨_, _, _, _, _, _, _, _, _, _, _, _, _, _, _, _, _, rfl, I0⟩
  · rw [e1, e2]
    simp only [ob, oh, uc6, uc7, uc12, lb_eq, gd01, updL_eq', p10_thrown, if_true]
    exact ⟨_, _, _, _, _, _, _, _, _, _, _, _, _, _, _, _, _, rfl, n, lc, lt, yr, rfl, hC, hX, F', H', S'⟩
theorem R31 (G : GDV nL v4) (I : FI pc uc rc lA letters py pu fp sp uY ge am lv rf od rs po fb sb fam hc next held mh uH kept ms has) :
    ∃ hc' held' next' bA' gM' mh' it' lM' fam' ro' rS' R' t' uH' o' od' po',
      pL_31 nL xs v4 uc rc next held pu fp sp uY lv od rs po fb sb hc uH R fam mh gM lM rS ro it bA o = some (hc', held', next', bA', gM', mh', it', lM', fam', ro', rS', R', t', uH', o', od', po') ∧
      FI pc uc rc lA letters py pu fp sp uY ge am lv rf od' rs po' fb sb fam' hc' next' held' mh' uH' kept ms has := by
  have I0 := I
  obtain ⟨n, lc, lt, yr, rfl, hC, hX, F0, H, S⟩ := I
  unfold pL_31 pL_improve
  simp only [gd1 G]
  generalize xs (v4 + 1).toNatClampNeg = x
  rcases improve_ok (R := R) (bA := bA) (gM := gM) (it := it) (lM := lM) (ro := ro) (rS := rS) F0 H S x with ⟨r0, e1, e2⟩ | ⟨r, od', po', hc', next', held', bA', gM', it', lM', ro', rS', R', mh', fam', uH', e1, e2, F', H', S'⟩
  · rw [e1, e2]
    exact ⟨_, _, _, _, _, _, _, _, _, _, _, _, _, _, _, _, _, rfl, I0⟩
  · rw [e1, e2]
    simp only [ob, oh, uc6, uc7, uc12, lb_eq, gd01, updL_eq', p10_thrown, if_true]
    exact ⟨_, _, _, _, _, _, _, _, _, _, _, _, _, _, _, _, _, rfl, n, lc, lt, yr, rfl, hC, hX, F', H', S'⟩
theorem R32 (I : FI pc uc rc lA letters py pu fp sp uY ge am lv rf od rs po fb sb fam hc next held mh uH kept ms has) :
    ∃ hc' held' next' bA' gM' mh' it' lM' fam' ro' rS' R' t' uH' ks' od' po',
      pL_32 uc rc next held pu fp sp uY ge lv rf od rs po fb sb ks hc uH fam mh gM lM rS ro it bA = some (hc', held', next', bA', gM', mh', it', lM', fam', ro', rS', R', t', uH', ks', od', po') ∧
      FI pc uc rc lA letters py pu fp sp uY ge am lv rf od' rs po' fb sb fam' hc' next' held' mh' uH' kept ms has := by
  obtain ⟨n, lc, lt, yr, rfl, hC, hX, F0, H, S⟩ := I
  obtain ⟨r, ks', od', po', hc', next', held', bA', gM', it', lM', ro', rS', R', mh', fam', uH', e1, e2, F', H', S'⟩ := arrange_ok (ks := ks) (bA := bA) (gM := gM) (it := it) (lM := lM) (ro := ro) (rS := rS) F0 H S
  unfold pL_32
  rw [e1, e2]
  simp only [ob, uc7, uc12, if_true]
  exact ⟨_, _, _, _, _, _, _, _, _, _, _, _, _, _, _, _, _, rfl, n, lc, lt, yr, rfl, hC, hX, F', H', S'⟩
theorem R33 (I : FI pc uc rc lA letters py pu fp sp uY ge am lv rf od rs po fb sb fam hc next held mh uH kept ms has) :
    ∃ hc' held' next' bA' gM' mh' it' lM' fam' ro' rS' R' t' uH' fb' od' po' rs' sb',
      pL_33 pc uc rc next held pu fp sp uY ge lv rf od rs po fb sb hc uH fam mh gM lM rS ro it bA = some (hc', held', next', bA', gM', mh', it', lM', fam', ro', rS', R', t', uH', fb', od', po', rs', sb') ∧
      FI pc uc rc lA letters py pu fp sp uY ge am lv rf od' rs' po' fb' sb' fam' hc' next' held' mh' uH' kept ms has := by
  obtain ⟨n, lc, lt, yr, rfl, hC, hX, F0, H, S⟩ := I
  obtain ⟨od', rs', po', fb', sb', hc', next', held', bA', gM', mh', it', lM', fam', ro', rS', R', uH', e1, e2, F', H', S'⟩ := plain_ok (bA := bA) (gM := gM) (it := it) (lM := lM) (ro := ro) (rS := rS) F0 H S
  unfold pL_33
  rw [e1, e2]
  simp only [ob, uc8, uc11]
  exact ⟨_, _, _, _, _, _, _, _, _, _, _, _, _, _, _, _, _, _, _, rfl, n, lc, lt, yr, rfl, hC, hX, F', H', S'⟩
theorem R34 (I : FI pc uc rc lA letters py pu fp sp uY ge am lv rf od rs po fb sb fam hc next held mh uH kept ms has) : ∃ z, pL_34 held uH = some z := by
  obtain ⟨n, lc, lt, yr, rfl, hC, hX, F0, ⟨h, x, -, -, rfl, rfl, -, -⟩, S⟩ := I
  exact ⟨0, if_pos rfl⟩
theorem R35 (I : FI pc uc rc lA letters py pu fp sp uY ge am lv rf od rs po fb sb fam hc next held mh uH kept ms has) :
    ∃ am' fp' ge' lv' pu' rf' rc' sp' uc' uY' held' next' fam' t' uH' fb' od' po' rs' sb',
      pL_35 pc uc rc next held pu fp sp uY ge am lv rf od rs po fb sb hc uH fam mh = some (am', fp', ge', lv', pu', rf', rc', sp', uc', uY', held', next', fam', t', uH', fb', od', po', rs', sb') ∧
      FI pc uc' rc' lA letters py pu' fp' sp' uY' ge' am' lv' rf' od' rs' po' fb' sb' fam' hc next' held' mh uH' kept ms has := by
  obtain ⟨n, lc, lt, yr, rfl, hC, hX, F0, H, S⟩ := I
  obtain ⟨r, uc', rc', pu', fp', sp', uY', ge', am', lv', rf', od', rs', po', fb', sb', fam', next', held', uH', e1, e2, F', H'⟩ := undo_ok F0 H
  unfold pL_35
  rw [e1, e2]
  simp only [ob, uc18, uc4, if_true]
  exact ⟨_, _, _, _, _, _, _, _, _, _, _, _, _, _, _, _, _, _, _, _, rfl, n, lc, lt, yr, rfl, hC, hX, F', H', S⟩
theorem R36 (I : FI pc uc rc lA letters py pu fp sp uY ge am lv rf od rs po fb sb fam hc next held mh uH kept ms has) :
    ∃ hc' kept' has' ms' t', pL_36 uc pu fp sp uY od hc fam ms = some (hc', kept', has', ms', t') ∧
      FI pc uc rc lA letters py pu fp sp uY ge am lv rf od rs po fb sb fam hc' next held mh uH kept' ms' has' := by
  obtain ⟨n, lc, lt, yr, rfl, hC, hX, F0, H, S⟩ := I
  have F00 := F0
  obtain ⟨u, pr, a, b, g, an, uy, pl, bx, rfl, rfl, U, X, V, P⟩ := F0
  obtain ⟨hc', ms', e1, e2, H', S'⟩ := snap_ok (ms := ms) U X V P H
  unfold pL_36
  rw [e1, e2]
  simp only [ob, uc2, uc3]
  exact ⟨_, _, _, _, _, rfl, n, lc, lt, yr, rfl, hC, hX, F00, H', S'⟩
theorem R37 (I : FI pc uc rc lA letters py pu fp sp uY ge am lv rf od rs po fb sb fam hc next held mh uH kept ms has) :
    ∃ am' fp' ge' lv' pu' rf' rc' sp' uc' uY' held' fam' t' uH' fb' od' po' rs' sb',
      pL_37 pc uc rc held kept pu fp sp uY ge am lv rf od rs po fb sb hc uH has fam ms = some (am', fp', ge', lv', pu', rf', rc', sp', uc', uY', held', fam', t', uH', fb', od', po', rs', sb') ∧
      FI pc uc' rc' lA letters py pu' fp' sp' uY' ge' am' lv' rf' od' rs' po' fb' sb' fam' hc next held' mh uH' kept ms has := by
  obtain ⟨n, lc, lt, yr, rfl, hC, hX, F0, H, S⟩ := I
  obtain ⟨r, uc', rc', pu', fp', sp', uY', ge', am', lv', rf', od', rs', po', fb', sb', fam', held', uH', e1, e2, F', H'⟩ := restore_ok F0 H S
  unfold pL_37
  rw [e1, e2]
  simp only [ob, uc17, uc4, if_true]
  exact ⟨_, _, _, _, _, _, _, _, _, _, _, _, _, _, _, _, _, _, _, rfl, n, lc, lt, yr, rfl, hC, hX, F', H', S⟩
end RAF
