/-! record, undo, snapshot -/
/-- the family and its rows on both sides, n persons given -/
def FS (n : Nat) (lc : Nat → Nat) (lt : Nat → Nat → Nat) (yr : Nat → Int32) (uc rc : Int32) (pu fp sp uY ge am lv rf od rs po fb sb : Nat → Int32) (fam : Nat → Int64) : Prop :=
  ∃ u pr a b g an uy pl bx, uc = nI u ∧ rc = nI (rowsN g n) ∧ US n u pr a b g an pl bx ∧ UX n u pr a b g an uy pl bx pu fp sp uY ge am lv rf od rs po fb sb ∧ UM n u pr a b g uy pl fam ∧ PM n lc lt yr fam
section HISTB
variable {n u : Nat} {pr a b g lc : Nat → Nat} {lt : Nat → Nat → Nat} {an : Nat → Nat → Bool} {yr uy : Nat → Int32} {pl : Nat → Nat} {bx : Nat → Nat → Nat} {fam fam' mh ms : Nat → Int64} {pu fp sp uY ge am lv rf od rs po fb sb hc hc' : Nat → Int32} {next held uc rc : Int32} {kept has : Bool}
theorem UM.congr (V : UM n u pr a b g uy pl fam) (hn : n ≤ 16) (hu : u ≤ 12) (h : ∀ k, k < 130 → fam' k = fam k) : UM n u pr a b g uy pl fam' := by
  refine ⟨V.1.keep hn hu fun k hk => h k (by omega), fun x hx ht => ?_, fun w hw => ?_⟩
  · rw [h _ (by omega)]; exact V.2.1 x hx ht
  · rw [h _ (by omega)]; exact V.2.2 w hw
theorem PM.congr (V : PM n lc lt yr fam) (hn : n ≤ 16) (h : ∀ k, k < 66 → fam' k = fam k) : PM n lc lt yr fam' := by
  refine ⟨fun p hp => ?_, fun p hp => ?_, fun p hp => ?_⟩
  · rw [h _ (by omega)]; exact V.1 p hp
  · rw [h _ (by omega)]; exact V.2.1 p hp
  · rw [h _ (by omega)]; exact V.2.2 p hp
theorem CBK.congr (W : WF n u pr a b g) {o : Nat} (C : CBK n u pr a b g uy bx hc o) (h : ∀ k, o ≤ k → k < o + 81 → hc' k = hc k) : CBK n u pr a b g uy bx hc' o := by
  have hn := W.n16
  have hu := W.u12
  obtain ⟨c1, c2, c3, c4⟩ := C
  refine ⟨?_, fun w hw => ⟨?_, ?_, ?_⟩, fun p hp => ?_, fun r k hr hk => ?_⟩
  · rw [h _ (by omega) (by omega)]; exact c1
  · rw [h _ (by omega) (by omega)]; exact (c2 w hw).1
  · rw [h _ (by omega) (by omega)]; exact (c2 w hw).2.1
  · rw [h _ (by omega) (by omega)]; exact (c2 w hw).2.2
  · rw [h _ (by omega) (by omega)]; exact c3 p hp
  · have := place_lt W hr hk
    rw [h _ (by omega) (by omega)]; exact c4 r k hr hk
theorem SAV.congr {o : Nat} (S : SAV n lc lt yr hc o fam) (h1 : ∀ k, o ≤ k → k < o + 81 → hc' k = hc k) (h2 : ∀ k, k < 130 → fam' k = fam k) : SAV n lc lt yr hc' o fam' := by
  obtain ⟨u, pr, a, b, g, an, uy, pl, bx, U, C, V, P⟩ := S
  exact ⟨u, pr, a, b, g, an, uy, pl, bx, U, C.congr U.1 h1, V.congr U.1.n16 U.1.u12 h2, P.congr U.1.n16 fun k hk => h2 k (by omega)⟩
theorem nI_mod10 {v : Nat} (hv : v < 1073741824) : nI v - nI v / 10 * 10 = nI (v % 10) := by
  rw [n10, nI_div hv (by omega), nI_mul, nI_sub (by omega)]
  congr 1
  omega
theorem M_record {h : Nat} (hh : h ≤ 10) : ∃ mh', p10_record (nI h) mh fam = some (mh', nI (min (h + 1) 10)) ∧ (∀ k, k < 130 → mh' (130 * (min (h + 1) 10 - 1) + k) = fam k) ∧
    (h < 10 → ∀ j k, j < h → k < 130 → mh' (130 * j + k) = mh (130 * j + k)) ∧ (h = 10 → ∀ j k, j < 9 → k < 130 → mh' (130 * j + k) = mh (130 * (j + 1) + k)) := by
  have hput : ∀ (q : Nat) (m : Nat → Int64), q < 10 → ∃ m', p10_record_J48 fam (nI q) m = some (m', nI (q + 1)) ∧ (∀ k, k < 130 → m' (130 * q + k) = fam k) ∧ ∀ j k, j < q → k < 130 → m' (130 * j + k) = m (130 * j + k) := by
    intro q m hq
    obtain ⟨m', e, h1, h2⟩ := M_copy (N := 130) (M := 1300) (i := 0) (j := q) (f := fam) (t := m) (by omega) (by omega) (by omega) (by omega)
    refine ⟨m', ?_, fun k hk => ?_, fun j k hj hk => h2 _ (by omega)⟩
    · unfold p10_record_J48
      rw [n0, e]
      simp only [ob, lb_eq]
      rw [n1, nI_add]
    · rw [h1 k hk, Nat.mul_zero, Nat.zero_add]
  by_cases c : h = 10
  · subst c
    obtain ⟨z, e1, h1⟩ := loop_all (fun t i (z : Nat → Int64) => p10_record_L11 t (nI i) z) 10
      (fun i z => 1 ≤ i ∧ (∀ j k, j + 1 < i → k < 130 → z (130 * j + k) = mh (130 * (j + 1) + k)) ∧ ∀ j k, i ≤ j → k < 130 → z (130 * j + k) = mh (130 * j + k)) (fun z => ∀ j k, j < 9 → k < 130 → z (130 * j + k) = mh (130 * (j + 1) + k)) (by
        intro t z hz
        refine ⟨z, ?_, fun j k hj hk => hz.2.1 j k (by omega) hk⟩
        try dsimp only
        rw [p10_record_L11, p10_record_L11_B, n10, if_pos (nI_le (Nat.le_refl _) (by omega))]) (by
        intro t i z hi hz
        obtain ⟨m', e, h1, h2⟩ := M_copyS (N := 1300) (i := i) (j := i - 1) (f := z) (by omega) (by omega) (by omega) (by omega)
        refine ⟨m', ?_, by omega, fun j k hj hk => ?_, fun j k hj hk => ?_⟩
        · try dsimp only
          rw [p10_record_L11, p10_record_L11_B, n10, if_neg (nI_ge hi (by omega)), n1, nI_sub hz.1, e]
          simp only [ob, lb_eq]
          rw [nI_add]
        · by_cases e2 : j + 1 = i
          · rw [show j = i - 1 by omega, h1 k hk, hz.2.2 i k (Nat.le_refl _) hk, show i - 1 + 1 = i by omega]
          · rw [h2 _ (by omega)]; exact hz.2.1 j k (by omega) hk
        · rw [h2 _ (by omega)]; exact hz.2.2 j k (by omega) hk) FU 1 mh (by decide) (by decide) ⟨Nat.le_refl _, fun j k hj _ => absurd hj (by omega), fun _ _ _ _ => rfl⟩
    have e1' : p10_record_L11 FU (nI 1) mh = some z := e1
    obtain ⟨m', e2, h2, h3⟩ := hput 9 z (by omega)
    refine ⟨m', ?_, h2, fun q => absurd q (by omega), fun _ j k hj hk => ?_⟩
    · unfold p10_record
      rw [n10, if_pos rfl, n1, e1']
      simp only [ob, p10_record_J38]
      rw [n1, nI_sub (by omega)]
      simp only [lb_eq]
      exact e2
    · rw [h3 j k hj hk]; exact h1 j k hj hk
  · obtain ⟨m', e2, h2, h3⟩ := hput h mh (by omega)
    refine ⟨m', ?_, ?_, fun _ j k hj hk => h3 j k hj hk, fun q => absurd q c⟩
    · unfold p10_record
      rw [n10, if_neg (fun q => c ((nI_eq (by omega) (by omega)).mp q)), e2, show min (h + 1) 10 = h + 1 by omega]
    · rw [show min (h + 1) 10 - 1 = h by omega]; exact h2
theorem record_ok (U : US n u pr a b g an pl bx) (X : UX n u pr a b g an uy pl bx pu fp sp uY ge am lv rf od rs po fb sb) (V : UM n u pr a b g uy pl fam) (P : PM n lc lt yr fam) (H : HIS n lc lt yr hc next held mh uc) (S : SNP n lc lt yr hc kept ms has) :
    ∃ hc' next' held' mh' uc', p2_record (nI u) next held fp pu sp uY hc od = some (hc', held', next') ∧ p10_record uc mh fam = some (mh', uc') ∧ HIS n lc lt yr hc' next' held' mh' uc' ∧ SNP n lc lt yr hc' kept ms has := by
  obtain ⟨h, x, hh, hx, rfl, rfl, rfl, hs⟩ := H
  obtain ⟨hc', e1, C, keep⟩ := X2_save (hc := hc) U.1 X (o := x * 81) (by omega)
  obtain ⟨mh', e2, h1, h2, h3⟩ := M_record (mh := mh) (fam := fam) hh
  refine ⟨hc', nI ((x + 1) % 10), nI (min (h + 1) 10), mh', nI (min (h + 1) 10), ?_, e2, ⟨min (h + 1) 10, (x + 1) % 10, by omega, by omega, rfl, rfl, rfl, fun i hi => ?_⟩, S.1, fun k => (S.2 k).congr (fun k _ _ => keep k (by omega)) fun _ _ => rfl⟩
  · unfold p2_record
    rw [show (81 : Int32) = nI 81 from rfl, nI_mul, e1]
    simp only [ob, lb_eq]
    rw [n1, nI_add, nI_add, nI_mod10 (by omega), n10, imin_nI (by omega) (by omega)]
  · by_cases c : i = 0
    · have e3 : ((x + 1) % 10 + 9 - i) % 10 * 81 = x * 81 := by omega
      rw [e3]
      refine ⟨u, pr, a, b, g, an, uy, pl, bx, U, C, V.congr U.1.n16 U.1.u12 fun k hk => ?_, P.congr U.1.n16 fun k hk => ?_⟩
      · rw [show min (h + 1) 10 - 1 - i = min (h + 1) 10 - 1 by omega]; exact h1 k hk
      · rw [show min (h + 1) 10 - 1 - i = min (h + 1) 10 - 1 by omega]; exact h1 k (by omega)
    · have e3 : ((x + 1) % 10 + 9 - i) % 10 = (x + 9 - (i - 1)) % 10 := by omega
      have e4 : (x + 9 - (i - 1)) % 10 ≠ x := by omega
      rw [e3]
      refine (hs (i - 1) (by omega)).congr (fun k k1 k2 => keep k (by omega)) fun k hk => ?_
      by_cases c10 : h = 10
      · rw [h3 c10 _ k (by omega) hk]
        congr 2; omega
      · rw [h2 (by omega) _ k (by omega) hk]
        congr 2; omega
theorem undo_ok (F0 : FS n lc lt yr uc rc pu fp sp uY ge am lv rf od rs po fb sb fam) {uH : Int32} (H : HIS n lc lt yr hc next held mh uH) :
    ∃ r uc' rc' pu' fp' sp' uY' ge' am' lv' rf' od' rs' po' fb' sb' fam' next' held' uH',
      p9_undo (nI n) uc rc next held am fp ge lv pu rf sp uY hc fb od po rs sb = some (r, am', fp', ge', lv', pu', rf', rc', sp', uc', uY', held', next', fb', od', po', rs', sb') ∧
      p10_undo uH mh fam = some (r, fam', 0, uH') ∧ FS n lc lt yr uc' rc' pu' fp' sp' uY' ge' am' lv' rf' od' rs' po' fb' sb' fam' ∧ HIS n lc lt yr hc next' held' mh uH' := by
  obtain ⟨h, x, hh, hx, rfl, rfl, rfl, hs⟩ := H
  by_cases c : h = 0
  · subst c
    exact ⟨-1, uc, rc, pu, fp, sp, uY, ge, am, lv, rf, od, rs, po, fb, sb, fam, nI x, nI 0, nI 0, rfl, rfl, F0, 0, x, by omega, hx, rfl, rfl, rfl, hs⟩
  · obtain ⟨u, pr, a, b, g, an, uy, pl, bx, U, C, V, P⟩ := hs 0 (by omega)
    obtain ⟨am', fp', ge', lv', pu', rf', sp', uY', fb', od', po', rs', sb', e1, X'⟩ := X2_bring (pu := pu) (fp := fp) (sp := sp) (uY := uY) (ge := ge) (am := am) (lv := lv) (rf := rf) (od := od) (rs := rs) (po := po) (fb := fb) (sb := sb) (u0 := 0) U (by omega) C
    obtain ⟨fam', e2, h2, -⟩ := M_copy (N := 1300) (M := 130) (i := h - 1) (j := 0) (f := mh) (t := fam) (by omega) (by omega) (by omega) (by omega)
    have h2' : ∀ k, k < 130 → fam' k = mh (130 * (h - 1) + k) := fun k hk => by
      have := h2 k hk
      rw [Nat.mul_zero, Nat.zero_add] at this
      exact this
    refine ⟨nI (h - 1), nI u, nI (rowsN g n), pu', fp', sp', uY', ge', am', lv', rf', od', rs', po', fb', sb', fam', nI ((x + 9) % 10), nI (h - 1), nI (h - 1), ?_, ?_, ⟨u, pr, a, b, g, an, uy, pl, bx, rfl, rfl, U, X', V.congr U.1.n16 U.1.u12 fun k hk => h2' k hk, P.congr U.1.n16 fun k hk => h2' k (by omega)⟩, h - 1, (x + 9) % 10, by omega, by omega, rfl, rfl, rfl, fun i hi => ?_⟩
    · unfold p9_undo
      rw [n0, if_pos (nI_lt (by omega) (by omega))]
      unfold p2_takeBack
      simp only [lb_eq]
      rw [n10, nI_add, n1, nI_sub (by omega), ← n10, nI_mod10 (by omega), nI_sub (by omega), show (81 : Int32) = nI 81 from rfl, nI_mul, show x + 10 - 1 = x + 9 by omega]
      have e1' := e1
      rw [show (x + 9 - 0) % 10 * 81 = (x + 9) % 10 * 81 by omega] at e1'
      rw [e1']
      simp only [ob, uc15, uc17]
    · unfold p10_undo
      rw [n0, if_neg (fun q => c ((nI_eq (by omega) (by omega)).mp q)), n1, nI_sub (by omega)]
      simp only [lb_eq]
      rw [e2]
      rfl
    · have e3 : ((x + 9) % 10 + 9 - i) % 10 = (x + 9 - (i + 1)) % 10 := by omega
      have e4 : h - 1 - 1 - i = h - 1 - (i + 1) := by omega
      rw [e3, e4]
      exact hs (i + 1) (by omega)
theorem snap_ok (U : US n u pr a b g an pl bx) (X : UX n u pr a b g an uy pl bx pu fp sp uY ge am lv rf od rs po fb sb) (V : UM n u pr a b g uy pl fam) (P : PM n lc lt yr fam) {uH : Int32} (H : HIS n lc lt yr hc next held mh uH) :
    ∃ hc' ms', p9_saveSnapshot (nI u) fp pu sp uY hc od = some (hc', true) ∧ p10_saveSnapshot fam ms = some (true, ms', 0) ∧ HIS n lc lt yr hc' next held mh uH ∧ SNP n lc lt yr hc' true ms' true := by
  obtain ⟨h, x, hh, hx, h1, h2, h3, hs⟩ := H
  obtain ⟨hc', e1, C, keep⟩ := X2_save (hc := hc) U.1 X (o := 810) (by omega)
  obtain ⟨ms', e2, m2, -⟩ := M_copy (N := 130) (M := 130) (i := 0) (j := 0) (f := fam) (t := ms) (by omega) (by omega) (by omega) (by omega)
  have m2' : ∀ k, k < 130 → ms' k = fam k := fun k hk => by
    have := m2 k hk
    rw [Nat.mul_zero, Nat.zero_add] at this
    exact this
  refine ⟨hc', ms', ?_, ?_, ⟨h, x, hh, hx, h1, h2, h3, fun i hi => (hs i hi).congr (fun k k1 k2 => keep k (by omega)) fun _ _ => rfl⟩, rfl, fun _ => ⟨u, pr, a, b, g, an, uy, pl, bx, U, C, V.congr U.1.n16 U.1.u12 m2', P.congr U.1.n16 fun k hk => m2' k (by omega)⟩⟩
  · unfold p9_saveSnapshot p2_keepSnapshot
    rw [show (810 : Int32) = nI 810 from rfl, e1]
    rfl
  · unfold p10_saveSnapshot
    rw [n0, e2]
    rfl
theorem restore_ok (F0 : FS n lc lt yr uc rc pu fp sp uY ge am lv rf od rs po fb sb fam) {uH : Int32} (H : HIS n lc lt yr hc next held mh uH) (S : SNP n lc lt yr hc kept ms has) :
    ∃ r uc' rc' pu' fp' sp' uY' ge' am' lv' rf' od' rs' po' fb' sb' fam' held' uH',
      p9_restoreSnapshot (nI n) uc rc held kept am fp ge lv pu rf sp uY hc fb od po rs sb = some (r, am', fp', ge', lv', pu', rf', rc', sp', uc', uY', held', fb', od', po', rs', sb') ∧
      p10_restoreSnapshot uH has fam ms = some (r, fam', 0, uH') ∧ FS n lc lt yr uc' rc' pu' fp' sp' uY' ge' am' lv' rf' od' rs' po' fb' sb' fam' ∧ HIS n lc lt yr hc next held' mh uH' := by
  obtain ⟨rfl, hS⟩ := S
  cases has with
  | false => exact ⟨false, uc, rc, pu, fp, sp, uY, ge, am, lv, rf, od, rs, po, fb, sb, fam, held, uH, rfl, rfl, F0, H⟩
  | true =>
    obtain ⟨u, pr, a, b, g, an, uy, pl, bx, U, C, V, P⟩ := hS rfl
    obtain ⟨h, x, hh, hx, h1, h2, h3, hs⟩ := H
    obtain ⟨am', fp', ge', lv', pu', rf', sp', uY', fb', od', po', rs', sb', e1, X'⟩ := X2_bring (pu := pu) (fp := fp) (sp := sp) (uY := uY) (ge := ge) (am := am) (lv := lv) (rf := rf) (od := od) (rs := rs) (po := po) (fb := fb) (sb := sb) (u0 := 0) U (by omega) C
    obtain ⟨fam', e2, m2, -⟩ := M_copy (N := 130) (M := 130) (i := 0) (j := 0) (f := ms) (t := fam) (by omega) (by omega) (by omega) (by omega)
    have m2' : ∀ k, k < 130 → fam' k = ms k := fun k hk => by
      have := m2 k hk
      rw [Nat.mul_zero, Nat.zero_add] at this
      exact this
    refine ⟨true, nI u, nI (rowsN g n), pu', fp', sp', uY', ge', am', lv', rf', od', rs', po', fb', sb', fam', nI 0, nI 0, ?_, ?_, ⟨u, pr, a, b, g, an, uy, pl, bx, rfl, rfl, U, X', V.congr U.1.n16 U.1.u12 m2', P.congr U.1.n16 fun k hk => m2' k (by omega)⟩, 0, x, by omega, hx, rfl, rfl, h3, fun i hi => absurd hi (Nat.not_lt_zero _)⟩
    · unfold p9_restoreSnapshot p2_bringSnapshot
      rw [show (810 : Int32) = nI 810 from rfl, e1]
      rfl
    · unfold p10_restoreSnapshot
      rw [n0, e2]
      rfl
end HISTB
