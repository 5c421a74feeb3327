/-! all acts undone; the snapshot -/
section YLAY
variable {n : Nat} {lc : Nat → Nat} {lt : Nat → Nat → Nat} {lA letters py : Nat → Int32} {t0 : STT} {adV : Nat → Nat} {hc fc mc : Nat → Int32} {N : Nat → Int64}
theorem T_299 : ∀ h fuel (u : Nat) (pr a b g : Nat → Nat) (an : Nat → Nat → Bool) (uy : Nat → Int32) (pl : Nat → Nat) (bx : Nat → Nat → Nat) (hs : Nat → STT) (am fp ge lv pu rf sp uY : Nat → Int32) (held next : Int32) (fb od po rs sb : Nat → Int32), h < fuel →
    US n u pr a b g an pl bx → UX n u pr a b g an uy pl bx pu fp sp uY ge am lv rf od rs po fb sb → HISt n hc next held h hs → (∀ j, j < h → N j = DGt n (hs (h - 1 - j))) →
    ∃ (u' : Nat) (pr' a' b' g' : Nat → Nat) (an' : Nat → Nat → Bool) (uy' : Nat → Int32) (pl' : Nat → Nat) (bx' : Nat → Nat → Nat) (hs' : Nat → STT) (am' fp' ge' lv' pu' rf' sp' uY' : Nat → Int32) (held' next' : Int32) (fb' od' po' rs' sb' : Nat → Int32),
      pL_law_L299 N lA (nI n) py hc fuel (nI h - 1) fc mc am fp ge lv pu rf (nI (rowsN g n)) sp (nI u) uY held next fb od po rs sb = some (.inr (fc, mc, am', fp', ge', lv', pu', rf', nI (rowsN g' n), sp', nI u', uY', held', next', fb', od', po', rs', sb')) ∧
      US n u' pr' a' b' g' an' pl' bx' ∧ UX n u' pr' a' b' g' an' uy' pl' bx' pu' fp' sp' uY' ge' am' lv' rf' od' rs' po' fb' sb' ∧ HISt n hc next' held' 0 hs' := by
  intro h
  induction h with
  | zero =>
    intro fuel u pr a b g an uy pl bx hs am fp ge lv pu rf sp uY held next fb od po rs sb hf U X H hN
    obtain ⟨k, rfl⟩ : ∃ k, fuel = k + 1 := ⟨fuel - 1, by omega⟩
    refine ⟨u, pr, a, b, g, an, uy, pl, bx, hs, am, fp, ge, lv, pu, rf, sp, uY, held, next, fb, od, po, rs, sb, ?_, U, X, H⟩
    rw [pL_law_L299, pL_law_L299_B, if_pos (show nI 0 - (1 : Int32) < 0 by decide)]
  | succ h ih =>
    intro fuel u pr a b g an uy pl bx hs am fp ge lv pu rf sp uY held next fb od po rs sb hf U X H hN
    obtain ⟨k, rfl⟩ : ∃ k, fuel = k + 1 := ⟨fuel - 1, by omega⟩
    have hh10 : h + 1 ≤ 10 := H.1
    have h0 := hN h (by omega)
    rw [show h + 1 - 1 - h = 0 by omega] at h0
    rcases ht : hs 0 with ⟨u1, pr1, a1, b1, g1, an1, uy1, pl1, bx1⟩
    rw [ht] at h0
    obtain ⟨am', fp', ge', lv', pu', rf', sp', uY', held', next', fb', od', po', rs', sb', e1, U', X', H'⟩ := K_undo (am := am) (fp := fp) (ge := ge) (lv := lv) (pu := pu) (rf := rf) (sp := sp) (uY := uY) (fb := fb) (od := od) (po := po) (rs := rs) (sb := sb) (uc := nI u) (rc := nI (rowsN g n)) H ht
    obtain ⟨u2, pr2, a2, b2, g2, an2, uy2, pl2, bx2, hs2, am2, fp2, ge2, lv2, pu2, rf2, sp2, uY2, held2, next2, fb2, od2, po2, rs2, sb2, e2, U2, X2, H2⟩ := ih k u1 pr1 a1 b1 g1 an1 uy1 pl1 bx1 (fun i => hs (i + 1)) am' fp' ge' lv' pu' rf' sp' uY' held' next' fb' od' po' rs' sb' (by omega) U' X' H' (fun j hj => by
      rw [hN j (by omega)]
      congr 2
      omega)
    refine ⟨u2, pr2, a2, b2, g2, an2, uy2, pl2, bx2, hs2, am2, fp2, ge2, lv2, pu2, rf2, sp2, uY2, held2, next2, fb2, od2, po2, rs2, sb2, ?_, U2, X2, H2⟩
    have hv : nI (h + 1) - 1 = nI h := by rw [n1, nI_sub (by omega)]; rfl
    have hm : ∀ y : Int32, y + (-1 : Int32) = y - 1 := fun y => (Int32.sub_eq_add_neg y 1).symm
    rw [pL_law_L299, pL_law_L299_B, hv, n0, if_neg (nI_nlt (Nat.zero_le _) (by omega)), e1]
    simp only [ob, uc18]
    first
      | rw [if_pos trivial]
      | rw [if_pos rfl]
    rw [D_all U' X']
    simp only [uc3]
    rw [gd_in (by omega) (by omega), nI_clamp (by omega), if_pos (show DG n u1 pr1 a1 b1 g1 pl1 = N h from h0.symm)]
    simp only [lb]
    rw [hm, e2]
end YLAY
