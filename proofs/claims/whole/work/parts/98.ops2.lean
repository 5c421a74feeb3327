/-! adopt, release, plain -/
section OPSB
variable {n u : Nat} {pr a b g lc : Nat → Nat} {lt : Nat → Nat → Nat} {an : Nat → Nat → Bool} {yr uy : Nat → Int32} {pl : Nat → Nat} {bx : Nat → Nat → Nat} {fam fam' mh ms : Nat → Int64} {pu fp sp uY ge am lv rf od rs po fb sb hc hc' bA gM lM ro rS : Nat → Int32} {it : Nat → Bool} {next held uc rc R uH : Int32} {kept has : Bool}
theorem M_ownAnc (W : WF n u pr a b g) (AN : ANC n pr a b an) (F : MX n u pr a b fam) {w p : Nat} (hw : w < u) (hp : p < n) :
    p10_isAncestorOfBoth fam (nI w) (nI p) = some (p == a w || an (a w) p || (p == b w || an (b w) p)) := by
  have hn := W.n16
  obtain ⟨h1, h2, -⟩ := W.par hw
  unfold p10_isAncestorOfBoth
  rw [n0, n1, M_partner0 F W.u12 hw]
  simp only [ob]
  rw [M_ancestorMask W AN F h1]
  simp only []
  rw [M_partner1 F W.u12 hw]
  simp only []
  rw [M_ancestorMask W AN F h2]
  simp only [lb_eq]
  rw [M_isPartner W F hw (by omega)]
  simp only []
  have hb : (mkm (an (a w)) ||| mkm (an (b w))) >>> (nI p &&& 31) &&& 1 = 1 ↔ (an (a w) p || an (b w) p) = true := by
    rw [bt_shr1 (by omega), bt_or, bt_mkm, bt_mkm, decide_eq_true (show p < 16 by omega)]
    simp
  rw [← n1]
  by_cases c1 : (a w == p || b w == p) = true
  · rw [c1, cond_true]
    congr 1
    rw [Bool.or_eq_true, beq_iff_eq, beq_iff_eq] at c1
    rcases c1 with h | h <;> simp [h]
  · rw [Bool.not_eq_true] at c1
    rw [c1, cond_false]
    rw [Bool.or_eq_false_iff, beq_eq_false_iff_ne, beq_eq_false_iff_ne] at c1
    have k1 : (p == a w) = false := beq_eq_false_iff_ne.mpr (Ne.symm c1.1)
    have k2 : (p == b w) = false := beq_eq_false_iff_ne.mpr (Ne.symm c1.2)
    rw [k1, k2, Bool.false_or, Bool.false_or]
    cases e : (an (a w) p || an (b w) p) with
    | true => rw [if_pos (hb.mpr e)]
    | false => rw [if_neg (fun q => by rw [hb.mp q] at e; cases e)]
theorem pr_FX (F : FX n u pr a b pu fp sp) {p x : Nat} {v : Int32} (hv : v = oN x) : FX n u (updN pr p x) a b (upd pu p v) fp sp := by
  refine ⟨fun q hq => ?_, F.2⟩
  unfold updN
  by_cases e : q = p
  · rw [e, upd_eq, if_pos rfl]; exact hv
  · rw [upd_ne e, if_neg e]; exact F.1 q hq
theorem pr_MX (F : MX n u pr a b fam) (hn : n ≤ 16) (hu : u ≤ 12) {p x : Nat} (hp : p < n) {v : Int64} (hv : v = lO x) : MX n u (updN pr p x) a b (vp_updL fam (2 + 4 * p + 1) v) := by
  refine ⟨by rw [updL_ne (by omega)]; exact F.1, by rw [updL_ne (by omega)]; exact F.2.1, fun q hq => ?_, fun w hw => by rw [updL_ne (by omega), updL_ne (by omega)]; exact F.2.2.2 w hw⟩
  unfold updN
  by_cases e : q = p
  · rw [e, updL_eq, if_pos rfl]; exact hv
  · rw [updL_ne (by omega), if_neg e]; exact F.2.2.1 q hq
theorem adopt_ok (F0 : FS n lc lt yr uc rc pu fp sp uY ge am lv rf od rs po fb sb fam) (H : HIS n lc lt yr hc next held mh uH) (S : SNP n lc lt yr hc kept ms has) (x y : Int32) :
    (∃ r0, p9_adopt (nI n) uc rc next held am fp ge lv pu rf sp uY hc fb od po rs sb x y = some (.inl 1) ∧ p10_adopt uH R bA gM mh it lM fam ro rS x y = some (r0, bA, gM, mh, it, lM, fam, ro, rS, R, 1, uH)) ∨
    (∃ r rc' pu' ge' am' lv' rf' od' rs' po' fb' sb' hc' next' held' bA' gM' mh' it' lM' fam' ro' rS' R' uH',
      p9_adopt (nI n) uc rc next held am fp ge lv pu rf sp uY hc fb od po rs sb x y = some (.inr (r, am', ge', lv', pu', rf', rc', hc', held', next', fb', od', po', rs', sb')) ∧
      p10_adopt uH R bA gM mh it lM fam ro rS x y = some (r, bA', gM', mh', it', lM', fam', ro', rS', R', 0, uH') ∧
      FS n lc lt yr uc rc' pu' fp sp uY ge' am' lv' rf' od' rs' po' fb' sb' fam' ∧ HIS n lc lt yr hc' next' held' mh' uH' ∧ SNP n lc lt yr hc' kept ms has) := by
  have F00 := F0
  obtain ⟨u, pr, a, b, g, an, uy, pl, bx, rfl, rfl, U, X, V, P⟩ := F0
  have W := U.1
  have hn := W.n16
  have hu := W.u12
  unfold p9_adopt p10_adopt
  rcases reqUnion x hu with ⟨w, hw, rfl, ex⟩ | ⟨hx, ex⟩
  case inr => exact Or.inl ⟨0, by rw [ex]; rfl, by rw [M_isNU V.1 hu hx]; rfl⟩
  rw [ex, M_isU V.1 hu hw]
  rcases reqPerson (fam := fam) y hn with ⟨p, hp, rfl, ey, -⟩ | ⟨hy, ey⟩
  case inr => exact Or.inl ⟨0, by rw [ey]; rfl, by rw [M_isNP V.1 hn hy]; rfl⟩
  rw [ey, M_isP V.1 hn hp]
  simp only [ox, ob, cond_true]
  unfold p10_adopt_J25
  rw [if_pos rfl, X1_hasParents W X.1 hp, M_parentsOf V.1 hn hp]
  right
  by_cases c1 : pr p < 12
  · exact ⟨-2, nI (rowsN g n), pu, ge, am, lv, rf, od, rs, po, fb, sb, hc, next, held, bA, gM, mh, it, lM, fam, ro, rS, R, uH, by rw [decide_eq_true c1]; rfl, by
      rw [oN_in c1]
      simp only [ob]
      rw [if_neg (nI_m1 (by omega))]
      unfold p10_adopt_J52
      rw [M_parentsOf V.1 hn hp, oN_in c1]
      simp only [ob]
      rw [if_neg (nI_m1 (by omega))], F00, H, S⟩
  · rw [decide_eq_false c1, oN_out c1]
    simp only [ob, if_true, cond_false]
    rw [X1_ownAnc W X.1 (fun p hp => (X.2.2.1.1 p hp).2) hw hp, M_ownAnc W U.2.1 V.1 hw hp]
    simp only []
    cases c2 : (p == a w || an (a w) p || (p == b w || an (b w) p)) with
    | true => exact ⟨-3, nI (rowsN g n), pu, ge, am, lv, rf, od, rs, po, fb, sb, hc, next, held, bA, gM, mh, it, lM, fam, ro, rS, R, uH, rfl, by
        rw [cond_true]
        unfold p10_adopt_J52
        rw [M_parentsOf V.1 hn hp, oN_out c1]
        simp only [ob, if_true], F00, H, S⟩
    | false =>
      rw [Bool.or_eq_false_iff] at c2
      obtain ⟨g', an', W', AN'⟩ := adopt_exists W U.2.1 hw hp c2.1 c2.2
      obtain ⟨hc', next', held', mh', uH', r1, r2, H', S'⟩ := record_ok (has := has) (kept := kept) (ms := ms) U X V P H S
      have hP1 : PM n lc lt yr (vp_updL fam (2 + 4 * p + 1) (lN w)) := P.congr2 fun q hq => ⟨updL_ne (by omega), updL_ne (by omega), updL_ne (by omega)⟩
      have hlO : lN w = lO w := (if_pos (by omega)).symm
      obtain ⟨am', ge', lv', rf', fb', od', po', rs', sb', bA', fam', gM', it', lM', ro', rS', q1, q2, U', X', V', P', g1⟩ := ren_ok (am := am) (ge := ge) (lv := lv) (rf := rf) (fb := fb) (od := od) (po := po) (rs := rs) (sb := sb) (bA := bA) (gM := gM) (it := it) (lM := lM) (ro := ro) (rS := rS) W' AN' (pr_FX X.1 (p := p) (x := w) (v := nI w) (oN_in (by omega)).symm) X.2.1 (pr_MX V.1 hn hu hp hlO) (fun v hv => by rw [updL_ne (by omega)]; exact V.2.2 v hv) hP1
      refine ⟨nI (g' p), nI (rowsN g' n), upd pu p (nI w), ge', am', lv', rf', od', rs', po', fb', sb', hc', next', held', bA', gM', mh', it', lM', fam', ro', rS', nI (rowsN g' n), uH', ?_, ?_, ⟨u, updN pr p w, a, b, g', an', uy, _, _, rfl, rfl, U', X', V', P'⟩, H', S'⟩
      · rw [cond_false, r1]
        simp only [uc3, lb_eq]
        rw [put_in (by omega) (by omega), q1]
        simp only [uc10]
        rw [at_in (by omega) (by omega), (X'.2.2.1.1 p hp).1]
        rfl
      · rw [cond_false, r2]
        simp only [uc2]
        rw [n1, M_putPerson (by omega) (by omega), nI_l (by omega)]
        simp only []
        rw [q2]
        simp only [uc8]
        rw [gd_in (by omega) (by omega), nI_clamp (by omega), g1 p hp]
theorem release_ok (F0 : FS n lc lt yr uc rc pu fp sp uY ge am lv rf od rs po fb sb fam) (H : HIS n lc lt yr hc next held mh uH) (S : SNP n lc lt yr hc kept ms has) (x : Int32) :
    (∃ r0, p9_release (nI n) uc rc next held am fp ge lv pu rf sp uY hc fb od po rs sb x = some (.inl 1) ∧ p10_release uH R bA gM mh it lM fam ro rS x = some (r0, bA, gM, mh, it, lM, fam, ro, rS, R, 1, uH)) ∨
    (∃ r rc' pu' ge' am' lv' rf' od' rs' po' fb' sb' hc' next' held' bA' gM' mh' it' lM' fam' ro' rS' R' uH',
      p9_release (nI n) uc rc next held am fp ge lv pu rf sp uY hc fb od po rs sb x = some (.inr (r, am', ge', lv', pu', rf', rc', hc', held', next', fb', od', po', rs', sb')) ∧
      p10_release uH R bA gM mh it lM fam ro rS x = some (r, bA', gM', mh', it', lM', fam', ro', rS', R', 0, uH') ∧
      FS n lc lt yr uc rc' pu' fp sp uY ge' am' lv' rf' od' rs' po' fb' sb' fam' ∧ HIS n lc lt yr hc' next' held' mh' uH' ∧ SNP n lc lt yr hc' kept ms has) := by
  have F00 := F0
  obtain ⟨u, pr, a, b, g, an, uy, pl, bx, rfl, rfl, U, X, V, P⟩ := F0
  have W := U.1
  have hn := W.n16
  have hu := W.u12
  unfold p9_release p10_release
  rcases reqPerson (fam := fam) x hn with ⟨p, hp, rfl, ey, -⟩ | ⟨hy, ey⟩
  case inr => exact Or.inl ⟨0, by rw [ey]; rfl, by rw [M_isNP V.1 hn hy]; rfl⟩
  rw [ey, M_isP V.1 hn hp]
  simp only [ox, ob, cond_true, lb_eq]
  rw [X.1.at_pu hn hp, M_parentsOf V.1 hn hp]
  simp only []
  right
  by_cases c1 : pr p < 12
  · obtain ⟨g', an', W', AN'⟩ := release_exists W (p := p)
    obtain ⟨hc', next', held', mh', uH', r1, r2, H', S'⟩ := record_ok (has := has) (kept := kept) (ms := ms) U X V P H S
    have hP1 : PM n lc lt yr (vp_updL fam (2 + 4 * p + 1) (-1)) := P.congr2 fun q hq => ⟨updL_ne (by omega), updL_ne (by omega), updL_ne (by omega)⟩
    obtain ⟨am', ge', lv', rf', fb', od', po', rs', sb', bA', fam', gM', it', lM', ro', rS', q1, q2, U', X', V', P', -⟩ := ren_ok (am := am) (ge := ge) (lv := lv) (rf := rf) (fb := fb) (od := od) (po := po) (rs := rs) (sb := sb) (bA := bA) (gM := gM) (it := it) (lM := lM) (ro := ro) (rS := rS) W' AN' (pr_FX X.1 (p := p) (x := 12) (v := -1) rfl) X.2.1 (pr_MX V.1 hn hu hp (x := 12) (v := -1) rfl) (fun v hv => by rw [updL_ne (by omega)]; exact V.2.2 v hv) hP1
    refine ⟨nI (pr p), nI (rowsN g' n), upd pu p (-1), ge', am', lv', rf', od', rs', po', fb', sb', hc', next', held', bA', gM', mh', it', lM', fam', ro', rS', nI (rowsN g' n), uH', ?_, ?_, ⟨u, updN pr p 12, a, b, g', an', uy, _, _, rfl, rfl, U', X', V', P'⟩, H', S'⟩
    · rw [oN_in c1, if_neg (nI_m1 (by omega)), r1]
      simp only [uc3]
      rw [put_in (by omega) (by omega), q1]
      rfl
    · rw [oN_in c1, if_neg (nI_m1 (by omega)), r2]
      simp only [uc2]
      rw [show p10_putPerson fam (nI p) 1 (-1) = some (vp_updL fam (2 + 4 * p + 1) (-1)) from M_putPerson (f := 1) (by omega) (by omega) (-1)]
      simp only []
      rw [q2]
      rfl
  · rw [oN_out c1]
    exact ⟨-2, nI (rowsN g n), pu, ge, am, lv, rf, od, rs, po, fb, sb, hc, next, held, bA, gM, mh, it, lM, fam, ro, rS, R, uH, rfl, rfl, F00, H, S⟩
theorem plain_ok (F0 : FS n lc lt yr uc rc pu fp sp uY ge am lv rf od rs po fb sb fam) (H : HIS n lc lt yr hc next held mh uH) (S : SNP n lc lt yr hc kept ms has) :
    ∃ od' rs' po' fb' sb' hc' next' held' bA' gM' mh' it' lM' fam' ro' rS' R' uH',
      p9_plain (nI n) uc rc next held fp ge lv pu rf sp uY hc fb od po rs sb = some (hc', held', next', fb', od', po', rs', sb') ∧
      p10_plain uH bA gM mh it lM fam ro rS = some (bA', gM', mh', it', lM', fam', ro', rS', R', 0, uH') ∧
      FS n lc lt yr uc rc pu fp sp uY ge am lv rf od' rs' po' fb' sb' fam' ∧ HIS n lc lt yr hc' next' held' mh' uH' ∧ SNP n lc lt yr hc' kept ms has := by
  obtain ⟨u, pr, a, b, g, an, uy, pl, bx, rfl, rfl, U, X, V, P⟩ := F0
  have W := U.1
  have hn := W.n16
  have hu := W.u12
  obtain ⟨hc', next', held', mh', uH', r1, r2, H', S'⟩ := record_ok (has := has) (kept := kept) (ms := ms) U X V P H S
  obtain ⟨fb', od', po', rs', sb', e2, R2⟩ := X7_layPlain (fb := fb) (od := od) (po := po) (rs := rs) (sb := sb) W X.1 X.2.2.1
  obtain ⟨bA', fam', gM', it', lM', ro', rS', e3, L3, P3, k3⟩ := M_makePlain (bA := bA) (ge := gM) (it := it) (lv := lM) (ro := ro) (rs := rS) W V.1
  refine ⟨od', rs', po', fb', sb', hc', next', held', bA', gM', mh', it', lM', fam', ro', rS', nI (rowsN g n), uH', ?_, ?_, ⟨u, pr, a, b, g, an, uy, ppl n u a b g, pbx n u a b g, rfl, rfl, ⟨W, U.2.1, LAY.plain⟩, ⟨X.1, X.2.1, X.2.2.1, R2⟩, ⟨V.1.keep hn hu k3, P3, fun w hw => by rw [k3 _ (by omega)]; exact V.2.2 w hw⟩, P.congr hn fun k hk => k3 k (by omega)⟩, H', S'⟩
  · unfold p9_plain
    rw [r1]
    simp only [ob, uc3]
    rw [e2]
    rfl
  · unfold p10_plain
    rw [r2]
    simp only [ob, uc2]
    rw [e3]
    rfl
end OPSB
