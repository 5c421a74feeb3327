/-! the class's operations alone, with the states that its history keeps -/
abbrev STT : Type := Nat × (Nat → Nat) × (Nat → Nat) × (Nat → Nat) × (Nat → Nat) × (Nat → Nat → Bool) × (Nat → Int32) × (Nat → Nat) × (Nat → Nat → Nat)
/-- the state t is kept in the class's cells from o on -/
def SAVt (n : Nat) (hc : Nat → Int32) (o : Nat) (t : STT) : Prop := US n t.1 t.2.1 t.2.2.1 t.2.2.2.1 t.2.2.2.2.1 t.2.2.2.2.2.1 t.2.2.2.2.2.2.2.1 t.2.2.2.2.2.2.2.2 ∧ CBK n t.1 t.2.1 t.2.2.1 t.2.2.2.1 t.2.2.2.2.1 t.2.2.2.2.2.2.1 t.2.2.2.2.2.2.2.2 hc o
/-- the history: h states, the last one first -/
def HISt (n : Nat) (hc : Nat → Int32) (next held : Int32) (h : Nat) (hs : Nat → STT) : Prop := h ≤ 10 ∧ ∃ x, x < 10 ∧ held = nI h ∧ next = nI x ∧ ∀ i, i < h → SAVt n hc ((x + 9 - i) % 10 * 81) (hs i)
def psh (t : STT) (hs : Nat → STT) : Nat → STT := fun i => if i = 0 then t else hs (i - 1)
section KOPS
variable {n u : Nat} {pr a b g : Nat → Nat} {an : Nat → Nat → Bool} {uy : Nat → Int32} {pl : Nat → Nat} {bx : Nat → Nat → Nat} {pu fp sp uY ge am lv rf od rs po fb sb hc hc' ks : Nat → Int32} {next held : Int32} {kept : Bool} {h : Nat} {hs : Nat → STT}
theorem SAVt.congr {o : Nat} {t : STT} (S : SAVt n hc o t) (h1 : ∀ k, o ≤ k → k < o + 81 → hc' k = hc k) : SAVt n hc' o t := ⟨S.1, S.2.congr S.1.1 h1⟩
theorem K_record (U : US n u pr a b g an pl bx) (X : UX n u pr a b g an uy pl bx pu fp sp uY ge am lv rf od rs po fb sb) (H : HISt n hc next held h hs) :
    ∃ hc' next' held', p2_record (nI u) next held fp pu sp uY hc od = some (hc', held', next') ∧ HISt n hc' next' held' (min (h + 1) 10) (psh (u, pr, a, b, g, an, uy, pl, bx) hs) ∧ ∀ k, 810 ≤ k → hc' k = hc k := by
  obtain ⟨hh, x, hx, rfl, rfl, hs⟩ := H
  obtain ⟨hc', e1, C, keep⟩ := X2_save (hc := hc) U.1 X (o := x * 81) (by omega)
  refine ⟨hc', nI ((x + 1) % 10), nI (min (h + 1) 10), ?_, ⟨by omega, (x + 1) % 10, by omega, rfl, rfl, fun i hi => ?_⟩, fun k hk => keep k (by omega)⟩
  · unfold p2_record
    rw [show (81 : Int32) = nI 81 from rfl, nI_mul, e1]
    simp only [ob, lb_eq]
    rw [n1, nI_add, nI_add, nI_mod10 (by omega), n10, imin_nI (by omega) (by omega)]
  · unfold psh
    by_cases c : i = 0
    · have e3 : ((x + 1) % 10 + 9 - i) % 10 * 81 = x * 81 := by omega
      rw [e3, if_pos c]
      exact ⟨U, C⟩
    · have e3 : ((x + 1) % 10 + 9 - i) % 10 = (x + 9 - (i - 1)) % 10 := by omega
      have e4 : (x + 9 - (i - 1)) % 10 ≠ x := by omega
      rw [e3, if_neg c]
      exact (hs (i - 1) (by omega)).congr (fun k k1 k2 => keep k (by omega))
theorem K_undo0 {uc rc : Int32} (H : HISt n hc next held 0 hs) : p9_undo (nI n) uc rc next held am fp ge lv pu rf sp uY hc fb od po rs sb = some (-1, am, fp, ge, lv, pu, rf, rc, sp, uc, uY, held, next, fb, od, po, rs, sb) := by
  obtain ⟨hh, x, hx, rfl, rfl, hs⟩ := H
  rfl
theorem K_undo {uc rc : Int32} (H : HISt n hc next held (h + 1) hs) (ht : hs 0 = (u, pr, a, b, g, an, uy, pl, bx)) :
    ∃ am' fp' ge' lv' pu' rf' sp' uY' held' next' fb' od' po' rs' sb',
      p9_undo (nI n) uc rc next held am fp ge lv pu rf sp uY hc fb od po rs sb = some (nI h, am', fp', ge', lv', pu', rf', nI (rowsN g n), sp', nI u, uY', held', next', fb', od', po', rs', sb') ∧
      US n u pr a b g an pl bx ∧ UX n u pr a b g an uy pl bx pu' fp' sp' uY' ge' am' lv' rf' od' rs' po' fb' sb' ∧ HISt n hc next' held' h (fun i => hs (i + 1)) := by
  obtain ⟨hh, x, hx, rfl, rfl, hs'⟩ := H
  obtain ⟨U, C⟩ := hs' 0 (by omega)
  rw [ht] at U C
  obtain ⟨am', fp', ge', lv', pu', rf', sp', uY', fb', od', po', rs', sb', e1, X'⟩ := X2_bring (pu := pu) (fp := fp) (sp := sp) (uY := uY) (ge := ge) (am := am) (lv := lv) (rf := rf) (od := od) (rs := rs) (po := po) (fb := fb) (sb := sb) (u0 := 0) U (by omega) C
  refine ⟨am', fp', ge', lv', pu', rf', sp', uY', nI h, nI ((x + 9) % 10), fb', od', po', rs', sb', ?_, U, X', by omega, (x + 9) % 10, by omega, rfl, rfl, fun i hi => ?_⟩
  · unfold p9_undo
    rw [n0, if_pos (nI_lt (by omega) (by omega))]
    unfold p2_takeBack
    simp only [lb_eq]
    rw [n10, nI_add, n1, nI_sub (by omega), ← n10, nI_mod10 (by omega), nI_sub (by omega), show (81 : Int32) = nI 81 from rfl, nI_mul, show x + 10 - 1 = x + 9 by omega]
    have e1' := e1
    rw [show (x + 9 - 0) % 10 * 81 = (x + 9) % 10 * 81 by omega] at e1'
    rw [e1']
    simp only [ob, uc15, uc17]
    rw [show h + 1 - 1 = h by omega]
  · have e3 : ((x + 9) % 10 + 9 - i) % 10 = (x + 9 - (i + 1)) % 10 := by omega
    rw [e3]
    exact hs' (i + 1) (by omega)
theorem K_snap (U : US n u pr a b g an pl bx) (X : UX n u pr a b g an uy pl bx pu fp sp uY ge am lv rf od rs po fb sb) (H : HISt n hc next held h hs) :
    ∃ hc', p9_saveSnapshot (nI u) fp pu sp uY hc od = some (hc', true) ∧ HISt n hc' next held h hs ∧ SAVt n hc' 810 (u, pr, a, b, g, an, uy, pl, bx) := by
  obtain ⟨hh, x, hx, h1, h2, hs⟩ := H
  obtain ⟨hc', e1, C, keep⟩ := X2_save (hc := hc) U.1 X (o := 810) (by omega)
  refine ⟨hc', ?_, ⟨hh, x, hx, h1, h2, fun i hi => (hs i hi).congr fun k k1 k2 => keep k (by omega)⟩, U, C⟩
  unfold p9_saveSnapshot p2_keepSnapshot
  rw [show (810 : Int32) = nI 810 from rfl, e1]
  rfl
theorem K_restore {uc rc : Int32} (H : HISt n hc next held h hs) (S : SAVt n hc 810 (u, pr, a, b, g, an, uy, pl, bx)) :
    ∃ am' fp' ge' lv' pu' rf' sp' uY' fb' od' po' rs' sb',
      p9_restoreSnapshot (nI n) uc rc held true am fp ge lv pu rf sp uY hc fb od po rs sb = some (true, am', fp', ge', lv', pu', rf', nI (rowsN g n), sp', nI u, uY', nI 0, fb', od', po', rs', sb') ∧
      US n u pr a b g an pl bx ∧ UX n u pr a b g an uy pl bx pu' fp' sp' uY' ge' am' lv' rf' od' rs' po' fb' sb' := by
  obtain ⟨U, C⟩ := S
  obtain ⟨am', fp', ge', lv', pu', rf', sp', uY', fb', od', po', rs', sb', e1, X'⟩ := X2_bring (pu := pu) (fp := fp) (sp := sp) (uY := uY) (ge := ge) (am := am) (lv := lv) (rf := rf) (od := od) (rs := rs) (po := po) (fb := fb) (sb := sb) (u0 := 0) U (by omega) C
  refine ⟨am', fp', ge', lv', pu', rf', sp', uY', fb', od', po', rs', sb', ?_, U, X'⟩
  unfold p9_restoreSnapshot p2_bringSnapshot
  rw [show (810 : Int32) = nI 810 from rfl, e1]
  rfl
theorem K_ren (W : WF n u pr a b g) (AN : ANC n pr a b an) (F : FX n u pr a b pu fp sp) (hY : ∀ w, w < u → uY w = uy w) :
    ∃ am' ge' lv' rf' fb' od' po' rs' sb',
      p9_renewRows (nI n) (nI u) am fp ge lv pu rf sp fb od po rs sb = some (am', ge', lv', rf', nI (rowsN g n), fb', od', po', rs', sb') ∧
      US n u pr a b g an (ppl n u a b g) (pbx n u a b g) ∧ UX n u pr a b g an uy (ppl n u a b g) (pbx n u a b g) pu fp sp uY ge' am' lv' rf' od' rs' po' fb' sb' := by
  obtain ⟨am', ge', lv', rf', e1, R1⟩ := X1_refresh (am := am) (ge := ge) (lv := lv) (rf := rf) W AN F
  obtain ⟨fb', od', po', rs', sb', e2, R2⟩ := X7_layPlain (fb := fb) (od := od) (po := po) (rs := rs) (sb := sb) W F R1
  refine ⟨am', ge', lv', rf', fb', od', po', rs', sb', ?_, ⟨W, AN, LAY.plain⟩, ⟨F, hY, R1, R2⟩⟩
  unfold p9_renewRows
  rw [e1]
  simp only [ob, uc5]
  rw [e2]
theorem hasP_in {p n : Nat} (h : p < n) (hn : n < 2147483648) : p1_hasPerson (nI n) (nI p) = true := by
  unfold p1_hasPerson
  rw [n0, if_neg (nI_nlt (by omega) (by omega)), if_neg (nI_ge h (by omega))]
theorem K_reqP (hn : n ≤ 16) {p : Nat} (hp : p < n) : p9_requirePerson (nI n) (nI p) = some (.inr ()) := by
  unfold p9_requirePerson
  rw [hasP_in hp (by omega)]
  rfl
theorem K_reqU (hu : u ≤ 12) {w : Nat} (hw : w < u) : p9_requireUnion (nI u) (nI w) = some (.inr ()) := by
  have hh : p1_hasUnion (nI u) (nI w) = p1_hasPerson (nI u) (nI w) := rfl
  unfold p9_requireUnion
  rw [hh, hasP_in hw (by omega)]
  rfl
theorem K_reqR (W : WF n u pr a b g) {r : Nat} (hr : r < rowsN g n) : p9_requireRow (nI (rowsN g n)) (nI r) = some (.inr ()) := by
  have hR := rows16 W
  unfold p9_requireRow
  rw [n0, if_neg (nI_nlt (by omega) (by omega)), if_pos (nI_lt hr (by omega))]
  rfl
theorem K_reqPl (W : WF n u pr a b g) (RS : RSX n u a b g rs) {r k : Nat} (hr : r < rowsN g n) (hk : k < sz n u a b g r) : p9_requirePlace (nI (rowsN g n)) rs (nI r) (nI k) = some (.inr ()) := by
  have hR := rows16 W
  have hsz := sz_le W (r := r)
  unfold p9_requirePlace
  rw [K_reqR W hr, X7_boxCountOf W RS hr]
  simp only [ox, oi]
  rw [n0, if_neg (nI_nlt (by omega) (by omega)), if_pos (nI_lt hk (by omega))]
theorem K_marryNo {rc : Int32} (W : WF n u pr a b g) (F : FX n u pr a b pu fp sp) {p q zn : Nat} (hp : p < n) (hq : q < n) (hz : zn ≤ 2100) (c : p = q ∨ upair a b p q u 0 < 12) :
    p9_marry (nI n) (nI u) rc next held am fp ge lv pu rf sp uY hc fb od po rs sb (nI p) (nI q) (nI zn) = some (.inr (-2, am, fp, ge, lv, rf, rc, sp, nI u, uY, hc, held, next, fb, od, po, rs, sb)) := by
  have hn := W.n16
  have hu := W.u12
  unfold p9_marry
  rw [K_reqP hn hp, K_reqP hn hq]
  simp only [ox]
  rw [n0, if_neg (nI_nlt (by omega) (by omega)), n2100, if_pos (nI_le hz (by omega))]
  by_cases c3 : p = q
  · rw [if_pos (by rw [c3])]; rfl
  · have c4 : upair a b p q u 0 < 12 := c.resolve_left c3
    rw [if_neg (fun z => c3 ((nI_eq (by omega) (by omega)).mp z)), X1_pair W F (by omega) (by omega)]
    simp only [ob]
    rw [oN_in c4, if_neg (nI_m1 (by omega))]; rfl
theorem K_marryFull {rc : Int32} (W : WF n u pr a b g) (F : FX n u pr a b pu fp sp) {p q zn : Nat} (hp : p < n) (hq : q < n) (hz : zn ≤ 2100) (c3 : p ≠ q) (c4 : ¬ upair a b p q u 0 < 12) (c5 : u = 12) :
    p9_marry (nI n) (nI u) rc next held am fp ge lv pu rf sp uY hc fb od po rs sb (nI p) (nI q) (nI zn) = some (.inr (-3, am, fp, ge, lv, rf, rc, sp, nI u, uY, hc, held, next, fb, od, po, rs, sb)) := by
  have hn := W.n16
  have hu := W.u12
  unfold p9_marry
  rw [K_reqP hn hp, K_reqP hn hq]
  simp only [ox]
  rw [n0, if_neg (nI_nlt (by omega) (by omega)), n2100, if_pos (nI_le hz (by omega)), if_neg (fun z => c3 ((nI_eq (by omega) (by omega)).mp z)), X1_pair W F (by omega) (by omega)]
  simp only [ob]
  rw [oN_out c4]
  simp only [if_true]
  rw [if_neg (by rw [c5]; decide)]
  rfl
theorem K_marry {rc : Int32} (U : US n u pr a b g an pl bx) (X : UX n u pr a b g an uy pl bx pu fp sp uY ge am lv rf od rs po fb sb) (H : HISt n hc next held h hs) {p q zn : Nat} (hp : p < n) (hq : q < n) (hz : zn ≤ 2100) (c3 : p ≠ q) (c4 : ¬ upair a b p q u 0 < 12) (c5 : u < 12) :
    ∃ am' fp' ge' lv' rf' sp' uY' hc' held' next' fb' od' po' rs' sb',
      p9_marry (nI n) (nI u) rc next held am fp ge lv pu rf sp uY hc fb od po rs sb (nI p) (nI q) (nI zn) = some (.inr (nI u, am', fp', ge', lv', rf', nI (rowsN g n), sp', nI (u + 1), uY', hc', held', next', fb', od', po', rs', sb')) ∧
      US n (u + 1) pr (updN a u p) (updN b u q) g an (ppl n (u + 1) (updN a u p) (updN b u q) g) (pbx n (u + 1) (updN a u p) (updN b u q) g) ∧
      UX n (u + 1) pr (updN a u p) (updN b u q) g an (upd uy u (nI zn)) (ppl n (u + 1) (updN a u p) (updN b u q) g) (pbx n (u + 1) (updN a u p) (updN b u q) g) pu fp' sp' uY' ge' am' lv' rf' od' rs' po' fb' sb' ∧
      HISt n hc' next' held' (min (h + 1) 10) (psh (u, pr, a, b, g, an, uy, pl, bx) hs) ∧ ∀ k, 810 ≤ k → hc' k = hc k := by
  have W := U.1
  have hn := W.n16
  have hu := W.u12
  obtain ⟨hc', next', held', r1, H', k810⟩ := K_record U X H
  have hM := marry_wf W U.2.1 c5 hp hq c3
  have FX' : FX n (u + 1) pr (updN a u p) (updN b u q) pu (upd fp u (nI p)) (upd sp u (nI q)) := by
    refine ⟨X.1.1, fun w hw => ?_⟩
    unfold updN
    by_cases e : w = u
    · rw [e, upd_eq, upd_eq, if_pos rfl, if_pos rfl]; exact ⟨rfl, rfl⟩
    · rw [upd_ne e, upd_ne e, if_neg e, if_neg e]; exact X.1.2 w (by omega)
  have hY : ∀ w, w < u + 1 → upd uY u (nI zn) w = upd uy u (nI zn) w := fun w hw => by
    by_cases e : w = u
    · rw [e, upd_eq, upd_eq]
    · rw [upd_ne e, upd_ne e]; exact X.2.1 w (by omega)
  obtain ⟨am', ge', lv', rf', fb', od', po', rs', sb', q1, U', X'⟩ := K_ren (am := am) (ge := ge) (lv := lv) (rf := rf) (fb := fb) (od := od) (po := po) (rs := rs) (sb := sb) hM.1 hM.2 FX' hY
  refine ⟨am', upd fp u (nI p), ge', lv', rf', upd sp u (nI q), upd uY u (nI zn), hc', held', next', fb', od', po', rs', sb', ?_, U', X', H', k810⟩
  unfold p9_marry
  rw [K_reqP hn hp, K_reqP hn hq]
  simp only [ox]
  rw [n0, if_neg (nI_nlt (by omega) (by omega)), n2100, if_pos (nI_le hz (by omega)), if_neg (fun z => c3 ((nI_eq (by omega) (by omega)).mp z)), X1_pair W X.1 (by omega) (by omega)]
  simp only [ob]
  rw [oN_out c4]
  simp only [if_true]
  rw [n12, if_pos (nI_lt c5 (by omega)), r1]
  unfold p1_addUnion
  simp only [uc3, lb_eq, uc5]
  rw [put_in c5 (by omega), put_in c5 (by omega), put_in c5 (by omega), n1, nI_add, q1]
  rfl
theorem K_adoptNo2 {rc : Int32} (W : WF n u pr a b g) (F : FX n u pr a b pu fp sp) {w p : Nat} (hw : w < u) (hp : p < n) (c1 : pr p < 12) :
    p9_adopt (nI n) (nI u) rc next held am fp ge lv pu rf sp uY hc fb od po rs sb (nI w) (nI p) = some (.inr (-2, am, ge, lv, pu, rf, rc, hc, held, next, fb, od, po, rs, sb)) := by
  have hn := W.n16
  have hu := W.u12
  unfold p9_adopt
  rw [K_reqU hu hw, K_reqP hn hp]
  simp only [ox]
  rw [X1_hasParents W F hp, decide_eq_true c1]
  rfl
theorem K_adoptNo3 {rc : Int32} (W : WF n u pr a b g) (AN : ANC n pr a b an) (F : FX n u pr a b pu fp sp) (hr : ∀ p, p < n → ∀ q, bt (am p) q = an p q) {w p : Nat} (hw : w < u) (hp : p < n) (c1 : ¬ pr p < 12) (c2 : (p == a w || an (a w) p || (p == b w || an (b w) p)) = true) :
    p9_adopt (nI n) (nI u) rc next held am fp ge lv pu rf sp uY hc fb od po rs sb (nI w) (nI p) = some (.inr (-3, am, ge, lv, pu, rf, rc, hc, held, next, fb, od, po, rs, sb)) := by
  have hn := W.n16
  have hu := W.u12
  unfold p9_adopt
  rw [K_reqU hu hw, K_reqP hn hp]
  simp only [ox]
  rw [X1_hasParents W F hp, decide_eq_false c1]
  simp only [ob, cond_false]
  rw [X1_ownAnc W F hr hw hp, c2]
  rfl
theorem K_adopt {rc : Int32} (U : US n u pr a b g an pl bx) (X : UX n u pr a b g an uy pl bx pu fp sp uY ge am lv rf od rs po fb sb) (H : HISt n hc next held h hs) {w p : Nat} (hw : w < u) (hp : p < n) (c1 : ¬ pr p < 12) (c2 : (p == a w || an (a w) p || (p == b w || an (b w) p)) = false) :
    ∃ g' an' am' ge' lv' pu' rf' hc' held' next' fb' od' po' rs' sb',
      p9_adopt (nI n) (nI u) rc next held am fp ge lv pu rf sp uY hc fb od po rs sb (nI w) (nI p) = some (.inr (nI (g' p), am', ge', lv', pu', rf', nI (rowsN g' n), hc', held', next', fb', od', po', rs', sb')) ∧
      US n u (updN pr p w) a b g' an' (ppl n u a b g') (pbx n u a b g') ∧
      UX n u (updN pr p w) a b g' an' uy (ppl n u a b g') (pbx n u a b g') pu' fp sp uY ge' am' lv' rf' od' rs' po' fb' sb' ∧
      HISt n hc' next' held' (min (h + 1) 10) (psh (u, pr, a, b, g, an, uy, pl, bx) hs) ∧ ∀ k, 810 ≤ k → hc' k = hc k := by
  have W := U.1
  have hn := W.n16
  have hu := W.u12
  have c2' := c2
  rw [Bool.or_eq_false_iff] at c2'
  obtain ⟨g', an', W', AN'⟩ := adopt_exists W U.2.1 hw hp c2'.1 c2'.2
  obtain ⟨hc', next', held', r1, H', k810⟩ := K_record U X H
  obtain ⟨am', ge', lv', rf', fb', od', po', rs', sb', q1, U', X'⟩ := K_ren (am := am) (ge := ge) (lv := lv) (rf := rf) (fb := fb) (od := od) (po := po) (rs := rs) (sb := sb) W' AN' (pr_FX X.1 (p := p) (x := w) (v := nI w) (oN_in (by omega)).symm) X.2.1
  refine ⟨g', an', am', ge', lv', upd pu p (nI w), rf', hc', held', next', fb', od', po', rs', sb', ?_, U', X', H', k810⟩
  unfold p9_adopt
  rw [K_reqU hu hw, K_reqP hn hp]
  simp only [ox]
  rw [X1_hasParents W X.1 hp, decide_eq_false c1]
  simp only [ob, cond_false]
  rw [X1_ownAnc W X.1 (fun p hp => (X.2.2.1.1 p hp).2) hw hp, c2]
  simp only [cond_false]
  rw [r1]
  simp only [uc3, lb_eq]
  rw [put_in (by omega) (by omega), q1]
  simp only [uc10]
  rw [at_in (by omega) (by omega), (X'.2.2.1.1 p hp).1]
  rfl
theorem K_releaseNo {rc uc : Int32} (W : WF n u pr a b g) (F : FX n u pr a b pu fp sp) {p : Nat} (hp : p < n) (c1 : ¬ pr p < 12) :
    p9_release (nI n) uc rc next held am fp ge lv pu rf sp uY hc fb od po rs sb (nI p) = some (.inr (-2, am, ge, lv, pu, rf, rc, hc, held, next, fb, od, po, rs, sb)) := by
  have hn := W.n16
  unfold p9_release
  rw [K_reqP hn hp]
  simp only [ox, lb_eq]
  rw [F.at_pu hn hp, oN_out c1]
  rfl
theorem K_release {rc : Int32} (U : US n u pr a b g an pl bx) (X : UX n u pr a b g an uy pl bx pu fp sp uY ge am lv rf od rs po fb sb) (H : HISt n hc next held h hs) {p : Nat} (hp : p < n) (c1 : pr p < 12) :
    ∃ g' an' am' ge' lv' pu' rf' hc' held' next' fb' od' po' rs' sb',
      p9_release (nI n) (nI u) rc next held am fp ge lv pu rf sp uY hc fb od po rs sb (nI p) = some (.inr (nI (pr p), am', ge', lv', pu', rf', nI (rowsN g' n), hc', held', next', fb', od', po', rs', sb')) ∧
      US n u (updN pr p 12) a b g' an' (ppl n u a b g') (pbx n u a b g') ∧
      UX n u (updN pr p 12) a b g' an' uy (ppl n u a b g') (pbx n u a b g') pu' fp sp uY ge' am' lv' rf' od' rs' po' fb' sb' ∧
      HISt n hc' next' held' (min (h + 1) 10) (psh (u, pr, a, b, g, an, uy, pl, bx) hs) ∧ ∀ k, 810 ≤ k → hc' k = hc k := by
  have W := U.1
  have hn := W.n16
  obtain ⟨g', an', W', AN'⟩ := release_exists W (p := p)
  obtain ⟨hc', next', held', r1, H', k810⟩ := K_record U X H
  obtain ⟨am', ge', lv', rf', fb', od', po', rs', sb', q1, U', X'⟩ := K_ren (am := am) (ge := ge) (lv := lv) (rf := rf) (fb := fb) (od := od) (po := po) (rs := rs) (sb := sb) W' AN' (pr_FX X.1 (p := p) (x := 12) (v := -1) rfl) X.2.1
  refine ⟨g', an', am', ge', lv', upd pu p (-1), rf', hc', held', next', fb', od', po', rs', sb', ?_, U', X', H', k810⟩
  unfold p9_release
  rw [K_reqP hn hp]
  simp only [ox, lb_eq]
  rw [X.1.at_pu hn hp, oN_in c1, if_neg (nI_m1 (by omega)), r1]
  simp only [oi, ob, uc3, lb_eq]
  rw [put_in (by omega) (by omega), q1]
  rfl
theorem K_plain {rc : Int32} (U : US n u pr a b g an pl bx) (X : UX n u pr a b g an uy pl bx pu fp sp uY ge am lv rf od rs po fb sb) (hrc : rc = nI (rowsN g n)) (H : HISt n hc next held h hs) :
    ∃ hc' held' next' fb' od' po' rs' sb',
      p9_plain (nI n) (nI u) rc next held fp ge lv pu rf sp uY hc fb od po rs sb = some (hc', held', next', fb', od', po', rs', sb') ∧
      US n u pr a b g an (ppl n u a b g) (pbx n u a b g) ∧ UX n u pr a b g an uy (ppl n u a b g) (pbx n u a b g) pu fp sp uY ge am lv rf od' rs' po' fb' sb' ∧
      HISt n hc' next' held' (min (h + 1) 10) (psh (u, pr, a, b, g, an, uy, pl, bx) hs) ∧ ∀ k, 810 ≤ k → hc' k = hc k := by
  subst hrc
  have W := U.1
  obtain ⟨hc', next', held', r1, H', k810⟩ := K_record U X H
  obtain ⟨fb', od', po', rs', sb', e2, R2⟩ := X7_layPlain (fb := fb) (od := od) (po := po) (rs := rs) (sb := sb) W X.1 X.2.2.1
  refine ⟨hc', held', next', fb', od', po', rs', sb', ?_, ⟨W, U.2.1, LAY.plain⟩, ⟨X.1, X.2.1, X.2.2.1, R2⟩, H', k810⟩
  unfold p9_plain
  rw [r1]
  simp only [ob, uc3]
  rw [e2]
  rfl
theorem K_swap {rc : Int32} (U : US n u pr a b g an pl bx) (X : UX n u pr a b g an uy pl bx pu fp sp uY ge am lv rf od rs po fb sb) (hrc : rc = nI (rowsN g n)) (H : HISt n hc next held h hs) {r i j : Nat} (hr : r < rowsN g n) (hi : i < sz n u a b g r) (hj : j < sz n u a b g r) :
    ∃ hc' held' next' od' po',
      p9_swap (nI u) rc next held fp lv pu sp uY hc fb od po rs sb (nI r) (nI i) (nI j) = some (.inr (nI (tot n u pr a b g (plS bx r i j pl)), hc', held', next', od', po')) ∧
      US n u pr a b g an (plS bx r i j pl) (bxS r i j bx) ∧ UX n u pr a b g an uy (plS bx r i j pl) (bxS r i j bx) pu fp sp uY ge am lv rf od' rs po' fb sb ∧
      HISt n hc' next' held' (min (h + 1) 10) (psh (u, pr, a, b, g, an, uy, pl, bx) hs) ∧ ∀ k, 810 ≤ k → hc' k = hc k := by
  subst hrc
  have W := U.1
  obtain ⟨hc', next', held', r1, H', k810⟩ := K_record U X H
  obtain ⟨od', po', e6, R'⟩ := X7_exchange W X.2.2.2 U.2.2 hr hi hj
  have L' := LAY.swap U.2.2 hi hj
  refine ⟨hc', held', next', od', po', ?_, ⟨W, U.2.1, L'⟩, ⟨X.1, X.2.1, X.2.2.1, R'⟩, H', k810⟩
  unfold p9_swap
  rw [K_reqPl W X.2.2.2.1 hr hi, K_reqPl W X.2.2.2.1 hr hj]
  simp only [ox]
  rw [r1]
  simp only [ob, uc3, lb_eq]
  rw [e6]
  simp only [uc2]
  rw [X7_all W X.1 (fun w hw => (X.2.2.1.2 w hw).1) R' L']
  rfl
theorem K_improve {rc : Int32} (U : US n u pr a b g an pl bx) (X : UX n u pr a b g an uy pl bx pu fp sp uY ge am lv rf od rs po fb sb) (hrc : rc = nI (rowsN g n)) (H : HISt n hc next held h hs) {v : Nat} (hv : v ≤ 5) :
    ∃ hc' held' next' od' po',
      p9_improve (nI u) rc next held fp lv pu sp uY hc fb od po rs sb (nI v) = some (.inr (nI (impN n u pr a b g v (0, pl, bx)).1, hc', held', next', od', po')) ∧
      US n u pr a b g an (impN n u pr a b g v (0, pl, bx)).2.1 (impN n u pr a b g v (0, pl, bx)).2.2 ∧ UX n u pr a b g an uy (impN n u pr a b g v (0, pl, bx)).2.1 (impN n u pr a b g v (0, pl, bx)).2.2 pu fp sp uY ge am lv rf od' rs po' fb sb ∧
      HISt n hc' next' held' (min (h + 1) 10) (psh (u, pr, a, b, g, an, uy, pl, bx) hs) ∧ ∀ k, 810 ≤ k → hc' k = hc k := by
  subst hrc
  have W := U.1
  obtain ⟨hc', next', held', r1, H', k810⟩ := K_record U X H
  obtain ⟨od', po', e6, R'⟩ := X9_impL W X.1 (fun w hw => (X.2.2.1.2 w hw).1) hv v 0 (0, pl, bx) od po FU (by omega) (by show v < 1024; omega) X.2.2.2 U.2.2
  have L' := impN_LAY (n := n) (u := u) (pr := pr) (a := a) (b := b) (g := g) v (0, pl, bx) U.2.2
  refine ⟨hc', held', next', od', po', ?_, ⟨W, U.2.1, L'⟩, ⟨X.1, X.2.1, X.2.2.1, R'⟩, H', k810⟩
  unfold p9_improve
  rw [n0, if_neg (nI_nlt (by omega) (by omega)), n5, if_pos (nI_le hv (by omega)), r1]
  simp only [ob, uc3]
  try dsimp only at e6
  rw [e6]
  rfl
theorem K_arrange {rc : Int32} (U : US n u pr a b g an pl bx) (X : UX n u pr a b g an uy pl bx pu fp sp uY ge am lv rf od rs po fb sb) (hrc : rc = nI (rowsN g n)) (H : HISt n hc next held h hs) :
    ∃ hc' held' next' ks' od' po',
      p9_arrange (nI u) rc next held fp ge lv pu rf sp uY hc fb ks od po rs sb = some (nI (tot n u pr a b g (srtA n u pr a b g (rowsN g n - 1) (pl, bx)).1), hc', held', next', ks', od', po') ∧
      US n u pr a b g an (srtA n u pr a b g (rowsN g n - 1) (pl, bx)).1 (srtA n u pr a b g (rowsN g n - 1) (pl, bx)).2 ∧ UX n u pr a b g an uy (srtA n u pr a b g (rowsN g n - 1) (pl, bx)).1 (srtA n u pr a b g (rowsN g n - 1) (pl, bx)).2 pu fp sp uY ge am lv rf od' rs po' fb sb ∧
      HISt n hc' next' held' (min (h + 1) 10) (psh (u, pr, a, b, g, an, uy, pl, bx) hs) ∧ ∀ k, 810 ≤ k → hc' k = hc k := by
  subst hrc
  have W := U.1
  obtain ⟨hc', next', held', r1, H', k810⟩ := K_record U X H
  obtain ⟨ks', od', po', e6, R'⟩ := X7_arrange (ks := ks) W X.1 X.2.2.1 X.2.2.2 U.2.2
  have L' := srtA_LAY (n := n) (u := u) (pr := pr) (a := a) (b := b) (g := g) (r := rowsN g n - 1) (s := (pl, bx)) U.2.2
  refine ⟨hc', held', next', ks', od', po', ?_, ⟨W, U.2.1, L'⟩, ⟨X.1, X.2.1, X.2.2.1, R'⟩, H', k810⟩
  unfold p9_arrange
  rw [r1]
  simp only [ob, uc3]
  rw [e6]
  simp only []
  rw [X7_all W X.1 (fun w hw => (X.2.2.1.2 w hw).1) R' L']
end KOPS
