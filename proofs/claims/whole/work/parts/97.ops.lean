/-! operations: what they have in common -/
theorem inR (v lo hi : Int32) : p10_inRange v.toInt64 lo.toInt64 hi.toInt64 = (if v < lo then false else if v ≤ hi then true else false) := by
  unfold p10_inRange
  have h1 : v.toInt64 < lo.toInt64 ↔ v < lo := by rw [Int64.lt_iff_toInt_lt, Int32.toInt_toInt64, Int32.toInt_toInt64, Int32.lt_iff_toInt_lt]
  have h2 : hi.toInt64 < v.toInt64 ↔ ¬ v ≤ hi := by rw [Int64.lt_iff_toInt_lt, Int32.toInt_toInt64, Int32.toInt_toInt64, Int32.le_iff_toInt_le]; omega
  by_cases c1 : v < lo
  · rw [if_pos (h1.mpr c1), if_pos c1]
  · rw [if_neg (fun q => c1 (h1.mp q)), if_neg c1]
    by_cases c2 : v ≤ hi
    · rw [if_neg (fun q => h2.mp q c2), if_pos c2]
    · rw [if_pos (h2.mpr c2), if_neg c2]
section OPS
variable {n u : Nat} {pr a b g lc : Nat → Nat} {lt : Nat → Nat → Nat} {an : Nat → Nat → Bool} {yr uy : Nat → Int32} {pl : Nat → Nat} {bx : Nat → Nat → Nat} {fam fam' mh ms : Nat → Int64} {pu fp sp uY ge am lv rf od rs po fb sb hc hc' bA gM lM ro rS : Nat → Int32} {it : Nat → Bool} {next held uc rc R uH : Int32} {kept has : Bool}
theorem M_pair (W : WF n u pr a b g) (F : MX n u pr a b fam) {p q : Nat} (hp : p < 2147483648) (hq : q < 2147483648) : p10_unionOf fam (nI p) (nI q) = some (oN (upair a b p q u 0)) := by
  have hu := W.u12
  have key : ∀ d i k, u - i = d → i ≤ u → d < k → ∃ r, p10_unionOf_L2 fam (nI p) (nI q) k (nI i) = some r ∧ ((r = .inr () ∧ upair a b p q d i = 12) ∨ ∃ w, w < u ∧ r = .inl (nI w) ∧ upair a b p q d i = w) := by
    intro d
    induction d with
    | zero =>
      intro i k h1 h2 h3
      obtain ⟨k, rfl⟩ : ∃ j, k = j + 1 := ⟨k - 1, by omega⟩
      have e : i = u := by omega
      subst e
      refine ⟨.inr (), ?_, Or.inl ⟨rfl, rfl⟩⟩
      rw [p10_unionOf_L2, p10_unionOf_L2_B, M_unions F]
      simp only [ob]
      rw [if_pos (nI_le (Nat.le_refl _) (by omega))]
    | succ d ih =>
      intro i k h1 h2 h3
      obtain ⟨k, rfl⟩ : ∃ j, k = j + 1 := ⟨k - 1, by omega⟩
      have hi : i < u := by omega
      obtain ⟨r, f1, f2⟩ := ih (i + 1) k (by omega) (by omega) (by omega)
      have hb : p10_unionOf_L2 fam (nI p) (nI q) (k + 1) (nI i) = cond (a i == p || b i == p) (cond (a i == q || b i == q) (if nI p = nI q then p10_unionOf_L2 fam (nI p) (nI q) k (nI (i + 1)) else some (.inl (nI i))) (p10_unionOf_L2 fam (nI p) (nI q) k (nI (i + 1)))) (p10_unionOf_L2 fam (nI p) (nI q) k (nI (i + 1))) := by
        rw [p10_unionOf_L2, p10_unionOf_L2_B, M_unions F]
        simp only [ob]
        rw [if_neg (nI_ge hi (by omega)), M_isPartner W F hi hp]
        simp only []
        rw [M_isPartner W F hi hq]
        simp only [lb]
        rw [n1, nI_add]
      rw [hb]
      unfold upair
      by_cases e : p = q
      · subst e
        rw [if_pos rfl, if_neg (show ¬ (p != p && (a i == p || b i == p) && (a i == p || b i == p)) = true by simp)]
        refine ⟨r, ?_, f2⟩
        rw [← f1]
        cases (a i == p || b i == p) with
        | false => rfl
        | true => rfl
      · have hne : (p != q) = true := by simpa using e
        rw [hne, if_neg (fun z => e ((nI_eq hp hq).mp z))]
        cases e1 : (a i == p || b i == p) with
        | false => rw [if_neg (by simp)]; exact ⟨r, f1, f2⟩
        | true =>
          cases e2 : (a i == q || b i == q) with
          | false => rw [if_neg (by simp)]; exact ⟨r, f1, f2⟩
          | true => rw [if_pos (by simp)]; exact ⟨.inl (nI i), rfl, Or.inr ⟨i, hi, rfl, rfl⟩⟩
  obtain ⟨r, f1, f2⟩ := key u 0 FU rfl (Nat.zero_le _) (by show u < 1024; omega)
  unfold p10_unionOf
  rw [n0, f1]
  rcases f2 with ⟨rfl, f3⟩ | ⟨w, hw, rfl, f3⟩
  · rw [f3]; rfl
  · rw [f3, oN_in (by omega)]; rfl
theorem PM.congr2 (V : PM n lc lt yr fam) (h : ∀ p, p < n → fam' (2 + 4 * p) = fam (2 + 4 * p) ∧ fam' (2 + 4 * p + 2) = fam (2 + 4 * p + 2) ∧ fam' (2 + 4 * p + 3) = fam (2 + 4 * p + 3)) : PM n lc lt yr fam' := by
  refine ⟨fun p hp => ?_, fun p hp => ?_, fun p hp => ?_⟩
  · rw [(h p hp).2.2]; exact V.1 p hp
  · rw [(h p hp).2.1]; exact V.2.1 p hp
  · rw [(h p hp).1]; exact V.2.2 p hp
theorem ren_ok (W : WF n u pr a b g) (AN : ANC n pr a b an) (F : FX n u pr a b pu fp sp) (hY : ∀ w, w < u → uY w = uy w) (FM : MX n u pr a b fam) (hUy : ∀ w, w < u → fam (66 + 3 * w + 2) = (uy w).toInt64) (P : PM n lc lt yr fam) :
    ∃ am' ge' lv' rf' fb' od' po' rs' sb' bA' fam' gM' it' lM' ro' rS',
      p9_renewRows (nI n) (nI u) am fp ge lv pu rf sp fb od po rs sb = some (am', ge', lv', rf', nI (rowsN g n), fb', od', po', rs', sb') ∧
      p10_makePlain bA fam gM it lM ro rS = some (bA', fam', gM', it', lM', ro', rS', nI (rowsN g n)) ∧
      US n u pr a b g an (ppl n u a b g) (pbx n u a b g) ∧ UX n u pr a b g an uy (ppl n u a b g) (pbx n u a b g) pu fp sp uY ge' am' lv' rf' od' rs' po' fb' sb' ∧ UM n u pr a b g uy (ppl n u a b g) fam' ∧ PM n lc lt yr fam' ∧ ∀ p, p < n → gM' p = nI (g p) := by
  have hn := W.n16
  have hu := W.u12
  obtain ⟨am', ge', lv', rf', e1, R1⟩ := X1_refresh (am := am) (ge := ge) (lv := lv) (rf := rf) W AN F
  obtain ⟨fb', od', po', rs', sb', e2, R2⟩ := X7_layPlain (fb := fb) (od := od) (po := po) (rs := rs) (sb := sb) W F R1
  obtain ⟨bA', fam', gM', it', lM', ro', rS', e3, L3, P3, k3⟩ := M_makePlain (bA := bA) (ge := gM) (it := it) (lv := lM) (ro := ro) (rs := rS) W FM
  refine ⟨am', ge', lv', rf', fb', od', po', rs', sb', bA', fam', gM', it', lM', ro', rS', ?_, e3, ⟨W, AN, LAY.plain⟩, ⟨F, hY, R1, R2⟩, ⟨FM.keep hn hu k3, P3, fun w hw => ?_⟩, P.congr hn fun k hk => k3 k (by omega), L3.1.1⟩
  · unfold p9_renewRows
    rw [e1]
    simp only [ob, uc5]
    rw [e2]
  · rw [k3 _ (by omega)]; exact hUy w hw
theorem reqPerson (x : Int32) (hn : n ≤ 16) : (∃ p, p < n ∧ x = nI p ∧ p9_requirePerson (nI n) x = some (.inr ()) ∧ p10_isPerson fam x = p10_isPerson fam (nI p)) ∨ ((x < 0 ∨ nI n ≤ x) ∧ p9_requirePerson (nI n) x = some (.inl 1)) := by
  rcases idx_cases x n (by omega) with ⟨p, hp, rfl⟩ | h
  · refine Or.inl ⟨p, hp, rfl, ?_, rfl⟩
    unfold p9_requirePerson
    rw [hasPerson_in hp (by omega)]
    rfl
  · refine Or.inr ⟨h, ?_⟩
    unfold p9_requirePerson
    rw [hasPerson_out h]
    rfl
theorem M_isP (F : MX n u pr a b fam) (hn : n ≤ 16) {p : Nat} (hp : p < n) : p10_isPerson fam (nI p) = some true := by
  rw [M_isPerson F, inRange_in hp (by omega)]
theorem M_isNP (F : MX n u pr a b fam) (hn : n ≤ 16) {x : Int32} (h : x < 0 ∨ nI n ≤ x) : p10_isPerson fam x = some false := by
  rw [M_isPerson F, inRange_out h (by omega)]
theorem reqUnion (x : Int32) (hu : u ≤ 12) : (∃ w, w < u ∧ x = nI w ∧ p9_requireUnion (nI u) x = some (.inr ())) ∨ ((x < 0 ∨ nI u ≤ x) ∧ p9_requireUnion (nI u) x = some (.inl 1)) := by
  have hh : ∀ y, p1_hasUnion (nI u) y = p1_hasPerson (nI u) y := fun _ => rfl
  rcases idx_cases x u (by omega) with ⟨p, hp, rfl⟩ | h
  · refine Or.inl ⟨p, hp, rfl, ?_⟩
    unfold p9_requireUnion
    rw [hh, hasPerson_in hp (by omega)]
    rfl
  · refine Or.inr ⟨h, ?_⟩
    unfold p9_requireUnion
    rw [hh, hasPerson_out h]
    rfl
theorem M_isU (F : MX n u pr a b fam) (hu : u ≤ 12) {w : Nat} (hw : w < u) : p10_isUnion fam (nI w) = some true := by
  rw [M_isUnion F, inRange_in hw (by omega)]
theorem M_isNU (F : MX n u pr a b fam) (hu : u ≤ 12) {x : Int32} (h : x < 0 ∨ nI u ≤ x) : p10_isUnion fam x = some false := by
  rw [M_isUnion F, inRange_out h (by omega)]
theorem marry_ok (F0 : FS n lc lt yr uc rc pu fp sp uY ge am lv rf od rs po fb sb fam) (H : HIS n lc lt yr hc next held mh uH) (S : SNP n lc lt yr hc kept ms has) (x y z : Int32) :
    (∃ e r0, (e = 1 ∨ e = 2) ∧ p9_marry (nI n) uc rc next held am fp ge lv pu rf sp uY hc fb od po rs sb x y z = some (.inl e) ∧ p10_marry uH R bA gM mh it lM fam ro rS x y z = some (r0, bA, gM, mh, it, lM, fam, ro, rS, R, nI e, uH)) ∨
    (∃ r uc' rc' fp' sp' uY' ge' am' lv' rf' od' rs' po' fb' sb' hc' next' held' bA' gM' mh' it' lM' fam' ro' rS' R' uH',
      p9_marry (nI n) uc rc next held am fp ge lv pu rf sp uY hc fb od po rs sb x y z = some (.inr (r, am', fp', ge', lv', rf', rc', sp', uc', uY', hc', held', next', fb', od', po', rs', sb')) ∧
      p10_marry uH R bA gM mh it lM fam ro rS x y z = some (r, bA', gM', mh', it', lM', fam', ro', rS', R', 0, uH') ∧
      FS n lc lt yr uc' rc' pu fp' sp' uY' ge' am' lv' rf' od' rs' po' fb' sb' fam' ∧ HIS n lc lt yr hc' next' held' mh' uH' ∧ SNP n lc lt yr hc' kept ms has) := by
  have F00 := F0
  obtain ⟨u, pr, a, b, g, an, uy, pl, bx, rfl, rfl, U, X, V, P⟩ := F0
  have W := U.1
  have hn := W.n16
  have hu := W.u12
  unfold p9_marry p10_marry
  rcases reqPerson (fam := fam) x hn with ⟨p, hp, rfl, ex, -⟩ | ⟨hx, ex⟩
  case inr => exact Or.inl ⟨1, 0, Or.inl rfl, by rw [ex]; rfl, by rw [M_isNP V.1 hn hx]; rfl⟩
  rw [ex, M_isP V.1 hn hp]
  rcases reqPerson (fam := fam) y hn with ⟨q, hq, rfl, ey, -⟩ | ⟨hy, ey⟩
  case inr => exact Or.inl ⟨1, 0, Or.inl rfl, by rw [ey]; rfl, by rw [M_isNP V.1 hn hy]; rfl⟩
  rw [ey, M_isP V.1 hn hq, show p10_inRange z.toInt64 0 2100 = _ from inR z 0 2100]
  simp only [ox, ob, cond_true]
  by_cases c1 : z < 0
  · exact Or.inl ⟨2, 0, Or.inr rfl, by rw [if_pos c1], by rw [if_pos c1]; rfl⟩
  rw [if_neg c1, if_neg c1]
  by_cases c2 : z ≤ 2100
  case neg => exact Or.inl ⟨2, 0, Or.inr rfl, by rw [if_neg c2], by rw [if_neg c2]; rfl⟩
  rw [if_pos c2, if_pos c2, cond_true]
  unfold p10_marry_J41
  rw [if_pos rfl]
  right
  by_cases c3 : p = q
  · rw [if_pos (by rw [c3]), if_pos (by rw [c3])]
    exact ⟨-2, nI u, nI (rowsN g n), fp, sp, uY, ge, am, lv, rf, od, rs, po, fb, sb, hc, next, held, bA, gM, mh, it, lM, fam, ro, rS, R, uH, rfl, rfl, F00, H, S⟩
  · have c3' : ¬ nI p = nI q := fun z => c3 ((nI_eq (by omega) (by omega)).mp z)
    rw [if_neg c3', if_neg c3', X1_pair W X.1 (by omega) (by omega), M_pair W V.1 (by omega) (by omega)]
    simp only [ob]
    by_cases c4 : upair a b p q u 0 < 12
    · rw [oN_in c4]
      exact ⟨-2, nI u, nI (rowsN g n), fp, sp, uY, ge, am, lv, rf, od, rs, po, fb, sb, hc, next, held, bA, gM, mh, it, lM, fam, ro, rS, R, uH, by rw [if_neg (nI_m1 (by omega))]; rfl, by rw [if_neg (nI_m1 (by omega))], F00, H, S⟩
    · rw [oN_out c4, M_unions V.1]
      simp only [if_true]
      by_cases c5 : u = 12
      · exact ⟨-3, nI u, nI (rowsN g n), fp, sp, uY, ge, am, lv, rf, od, rs, po, fb, sb, hc, next, held, bA, gM, mh, it, lM, fam, ro, rS, R, uH, by rw [if_neg (by rw [c5]; decide)]; rfl, by rw [if_pos (by rw [c5]; rfl)], F00, H, S⟩
      · have hu2 : u < 12 := by omega
        obtain ⟨hc', next', held', mh', uH', r1, r2, H', S'⟩ := record_ok (has := has) (kept := kept) (ms := ms) U X V P H S
        have hM := marry_wf W U.2.1 hu2 hp hq c3
        have FX' : FX n (u + 1) pr (updN a u p) (updN b u q) pu (upd fp u (nI p)) (upd sp u (nI q)) := by
          refine ⟨X.1.1, fun w hw => ?_⟩
          unfold updN
          by_cases e : w = u
          · rw [e, upd_eq, upd_eq, if_pos rfl, if_pos rfl]; exact ⟨rfl, rfl⟩
          · rw [upd_ne e, upd_ne e, if_neg e, if_neg e]; exact X.1.2 w (by omega)
        have hadd : p10_addUnion fam (nI p) (nI q) z = some (vp_updL (vp_updL (vp_updL (vp_updL fam (66 + 3 * u) (lN p)) (66 + 3 * u + 1) (lN q)) (66 + 3 * u + 2) z.toInt64) 1 (lN (u + 1))) := by
          unfold p10_addUnion
          rw [M_unions V.1]
          simp only [ob, lb_eq]
          rw [n66, n3, n1, n2, nI_mul, nI_add, nI_add, nI_add, gd_in (by omega) (by omega), gd_in (by omega) (by omega), gd_in (by omega) (by omega), gd_in (by omega) (by omega), gd_in (by omega) (by omega), nI_clamp (by omega), nI_clamp (by omega), nI_clamp (by omega), nI_clamp (by omega), updL_ne (by omega), updL_ne (by omega), updL_ne (by omega), V.1.2.1, lN_1, nI_l (by omega), nI_l (by omega)]
        generalize hf1 : vp_updL (vp_updL (vp_updL (vp_updL fam (66 + 3 * u) (lN p)) (66 + 3 * u + 1) (lN q)) (66 + 3 * u + 2) z.toInt64) 1 (lN (u + 1)) = fam1 at hadd
        have hf : ∀ k, k ≠ 1 → (k < 66 + 3 * u ∨ 66 + 3 * u + 3 ≤ k) → fam1 k = fam k := fun k h1 h2 => by
          rw [← hf1, updL_ne h1, updL_ne (by omega), updL_ne (by omega), updL_ne (by omega)]
        have FM : MX n (u + 1) pr (updN a u p) (updN b u q) fam1 := by
          refine ⟨by rw [hf 0 (by omega) (by omega)]; exact V.1.1, by rw [← hf1, updL_eq], fun x hx => by rw [hf _ (by omega) (by omega)]; exact V.1.2.2.1 x hx, fun w hw => ?_⟩
          unfold updN
          by_cases e : w = u
          · rw [if_pos e, if_pos e, ← hf1, e]
            exact ⟨by rw [updL_ne (by omega), updL_ne (by omega), updL_ne (by omega), updL_eq], by rw [updL_ne (by omega), updL_ne (by omega), updL_eq]⟩
          · rw [if_neg e, if_neg e, hf _ (by omega) (by omega), hf _ (by omega) (by omega)]; exact V.1.2.2.2 w (by omega)
        have hY : ∀ w, w < u + 1 → upd uY u z w = upd uy u z w := fun w hw => by
          by_cases e : w = u
          · rw [e, upd_eq, upd_eq]
          · rw [upd_ne e, upd_ne e]; exact X.2.1 w (by omega)
        have hUy : ∀ w, w < u + 1 → fam1 (66 + 3 * w + 2) = (upd uy u z w).toInt64 := fun w hw => by
          by_cases e : w = u
          · rw [e, upd_eq, ← hf1, updL_ne (by omega), updL_eq]
          · rw [upd_ne e, hf _ (by omega) (by omega)]; exact V.2.2 w (by omega)
        obtain ⟨am', ge', lv', rf', fb', od', po', rs', sb', bA', fam', gM', it', lM', ro', rS', q1, q2, U', X', V', P', -⟩ := ren_ok (am := am) (ge := ge) (lv := lv) (rf := rf) (fb := fb) (od := od) (po := po) (rs := rs) (sb := sb) (bA := bA) (gM := gM) (it := it) (lM := lM) (ro := ro) (rS := rS) hM.1 hM.2 FX' hY FM hUy (P.congr2 fun x hx => ⟨hf _ (by omega) (by omega), hf _ (by omega) (by omega), hf _ (by omega) (by omega)⟩)
        refine ⟨nI u, nI (u + 1), nI (rowsN g n), upd fp u (nI p), upd sp u (nI q), upd uY u z, ge', am', lv', rf', od', rs', po', fb', sb', hc', next', held', bA', gM', mh', it', lM', fam', ro', rS', nI (rowsN g n), uH', ?_, ?_, ⟨u + 1, pr, updN a u p, updN b u q, g, an, upd uy u z, _, _, rfl, rfl, U', X', V', P'⟩, H', S'⟩
        · rw [n12, if_pos (nI_lt hu2 (by omega)), r1]
          unfold p1_addUnion
          simp only [uc3, lb_eq, uc5]
          rw [put_in hu2 (by omega), put_in hu2 (by omega), put_in hu2 (by omega), n1, nI_add, q1]
          rfl
        · rw [n12, if_neg (fun q => c5 ((nI_eq (by omega) (by omega)).mp q)), r2]
          simp only [uc2]
          rw [hadd]
          simp only []
          rw [q2]
          simp only [uc8]
          rw [M_unions V'.1]
          simp only []
          rw [n1, nI_sub (by omega)]
          rfl
end OPS
