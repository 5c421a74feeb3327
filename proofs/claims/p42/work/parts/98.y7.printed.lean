/-! isPrinted is true -/
section YPRD
variable {n u : Nat} {pr a b g : Nat → Nat} {an : Nat → Nat → Bool} {uy : Nat → Int32} {pl lc col : Nat → Nat} {lt bx : Nat → Nat → Nat} {pu fp sp uY ge am lv rf od rs po fb sb lA letters py fc mc line text : Nat → Int32} {len tl : Int32}
theorem K_reqS {w : Nat} (h1 : 10 ≤ w) (h2 : w ≤ 200) : p9_requireStripWidth (nI w) = some (.inr ()) := by
  unfold p9_requireStripWidth
  rw [n10, if_neg (nI_nlt h1 (by omega)), n200, if_pos (nI_le h2 (by omega))]
  rfl
theorem A_format (W : WF n u pr a b g) (F : FX n u pr a b pu fp sp) (Q : RF n u a b g an ge am lv rf) (C : LCX n lc lA) (T : LTX n lc lt letters) (hlc : ∀ p, p < n → lc p ≤ 8) (R : RX n u a b g pl bx od rs po fb sb) (L : LAY n u a b g pl bx) (B : LB line len) {v k w : Nat} (hv : v < 3 * rowsN g n) (hk : k < 2147483648) (h1 : 10 ≤ w) (h2 : w ≤ 200) :
    ∃ fc' mc' line' len' text', p9_format (nI n) (nI u) (nI (rowsN g n)) len fc mc ge lA letters lv pu rf line text fb od rs sb (nI v) (nI k) (nI w) = some (.inr (nI (min w ((lnS n u pr a b g lc lt bx v).1 - k * w)), fc', mc', line', len', text', nI (min w ((lnS n u pr a b g lc lt bx v).1 - k * w)))) ∧ LB line' len' ∧
      ∀ i, i < min w ((lnS n u pr a b g lc lt bx v).1 - k * w) → text' i = (lnS n u pr a b g lc lt bx v).2 (k * w + i) := by
  have hR := rows16 W
  obtain ⟨fc', mc', e3, CXx⟩ := X0_layOut (fc := fc) (mc := mc) W F (fun w hw => (Q.2 w hw).2) C hlc R L
  obtain ⟨line1, len1, e4, LN1⟩ := X4_line (lt := lt) W F Q C T hlc R L CXx B hv
  obtain ⟨b1, b2⟩ := lnS_ok (lt := lt) W hlc L (v := v)
  obtain ⟨text', e6, t6⟩ := X4_cutText (text := text) LN1 (by omega) (v := w) (k := k) (by omega) hk
  refine ⟨fc', mc', line1, len1, text', ?_, LN1.LB b1 (by omega), t6⟩
  unfold p9_format
  rw [n0, if_neg (nI_nlt (by omega) (by omega)), show (3 : Int32) * nI (rowsN g n) = nI (3 * rowsN g n) from nI_mul 3 _, if_neg (nI_ge hv (by omega)), if_pos (nI_le (Nat.zero_le _) hk), K_reqS h1 h2]
  simp only [ox]
  rw [e3]
  simp only [ob, uc2]
  rw [e4]
  simp only [ob, uc2]
  rw [nI_l hk, nI_l (show w < 2147483648 by omega), lN_mul, e6]
  rfl
theorem A_strips (W : WF n u pr a b g) (F : FX n u pr a b pu fp sp) (Q : RF n u a b g an ge am lv rf) (C : LCX n lc lA) (T : LTX n lc lt letters) (hlc : ∀ p, p < n → lc p ≤ 8) (R : RX n u a b g pl bx od rs po fb sb) (L : LAY n u a b g pl bx) (B : LB line len) {w : Nat} (h1 : 10 ≤ w) (h2 : w ≤ 200) (hW : wdS n u pr a b g lc lt bx (3 * rowsN g n) ≤ 400) :
    ∃ fc' mc' line' len', p9_strips (nI n) (nI u) (nI (rowsN g n)) len fc mc ge lA letters lv pu rf line fb od rs sb (nI w) = some (.inr (nI ((wdS n u pr a b g lc lt bx (3 * rowsN g n) + w - 1) / w), fc', mc', line', len')) ∧ LB line' len' := by
  obtain ⟨fc', mc', e3, CXx⟩ := X0_layOut (fc := fc) (mc := mc) W F (fun w hw => (Q.2 w hw).2) C hlc R L
  obtain ⟨line', len', e4, B'⟩ := X4_widest (lt := lt) W F Q C T hlc R L CXx B
  refine ⟨fc', mc', line', len', ?_, B'⟩
  unfold p9_strips
  rw [K_reqS h1 h2]
  simp only [ox]
  rw [e3]
  simp only [ob, uc2]
  rw [e4]
  simp only [ob, uc3]
  rw [gz_nI (by omega) (by omega), n1, nI_add, nI_sub (by omega), nI_div (by omega) (by omega)]
  rfl
theorem A_width (W : WF n u pr a b g) (F : FX n u pr a b pu fp sp) (Q : RF n u a b g an ge am lv rf) (C : LCX n lc lA) (T : LTX n lc lt letters) (hlc : ∀ p, p < n → lc p ≤ 8) (R : RX n u a b g pl bx od rs po fb sb) (L : LAY n u a b g pl bx) (B : LB line len) :
    ∃ fc' mc' line' len', p9_width (nI n) (nI u) (nI (rowsN g n)) len fc mc ge lA letters lv pu rf line fb od rs sb = some (nI (wdS n u pr a b g lc lt bx (3 * rowsN g n)), fc', mc', line', len') ∧ LB line' len' := by
  obtain ⟨fc', mc', e3, CXx⟩ := X0_layOut (fc := fc) (mc := mc) W F (fun w hw => (Q.2 w hw).2) C hlc R L
  obtain ⟨line', len', e4, B'⟩ := X4_widest (lt := lt) W F Q C T hlc R L CXx B
  refine ⟨fc', mc', line', len', ?_, B'⟩
  unfold p9_width
  rw [e3]
  simp only [ob, uc2]
  rw [e4]
  rfl
theorem A_cut (W : WF n u pr a b g) (F : FX n u pr a b pu fp sp) (Q : RF n u a b g an ge am lv rf) (C : LCX n lc lA) (hlc : ∀ p, p < n → lc p ≤ 8) (R : RX n u a b g pl bx od rs po fb sb) (L : LAY n u a b g pl bx) {w : Nat} (h1 : 10 ≤ w) (h2 : w ≤ 200) :
    ∃ fc' mc', p9_cutBoxes (nI (rowsN g n)) fc mc lA pu rf fb od rs sb (nI w) = some (.inr (nI (cutS n u a b g lc (colF n u pr a b g lc bx) w), fc', mc')) := by
  obtain ⟨fc', mc', e3, CXx⟩ := X0_layOut (fc := fc) (mc := mc) W F (fun w hw => (Q.2 w hw).2) C hlc R L
  have hcol : ∀ x, x < 28 → th n u a b g x = true → colF n u pr a b g lc bx x + wd a b g lc x < 1000 := fun x hx ht => by
    have := colF_le W hlc L x hx ht
    unfold wd
    omega
  refine ⟨fc', mc', ?_⟩
  unfold p9_cutBoxes
  rw [K_reqS h1 h2]
  simp only [ox]
  rw [e3]
  simp only [ob, uc2]
  rw [X0_countCut W (fun w hw => (Q.2 w hw).2) C R L (v := w) (col := colF n u pr a b g lc bx) (by omega) (by omega) (fun x hx ht => (CXx x (dn_all W hx ht)).1) hcol]
  rfl
theorem wdS_400 (W : WF n u pr a b g) (hlc : ∀ p, p < n → lc p ≤ 8) (L : LAY n u a b g pl bx) : ∀ k, wdS n u pr a b g lc lt bx k ≤ 321 := by
  intro k
  induction k with
  | zero => exact Nat.zero_le _
  | succ k ih =>
    have := (lnS_ok (lt := lt) W hlc L (v := k)).2
    show max _ _ ≤ 321
    omega
theorem wdS_ge {v : Nat} : ∀ k, v < k → (lnS n u pr a b g lc lt bx v).1 ≤ wdS n u pr a b g lc lt bx k := by
  intro k
  induction k with
  | zero => intro h; omega
  | succ k ih =>
    intro h
    show _ ≤ max _ _
    by_cases e : v = k
    · subst e; omega
    · have := ih (by omega); omega
theorem P_byte {t i : Nat} (hi : i < t) (ht : t ≤ 200) : p9_formattedByte (nI t) text (nI i) = text i := by
  unfold p9_formattedByte
  rw [n0, if_neg (nI_nlt (by omega) (by omega)), if_pos (nI_lt hi (by omega)), at_in (by omega) (by omega)]
/-- bytes of a piece -/
theorem P_96 {v t x y : Nat} (hv : v < 100) (ht : t ≤ 200) : pL_isPrinted_L96 (nI t) text (nI t) (nI v) FU (nI x) (nI y) 0 = some (nI (x + if v % 3 = 1 then cnt (NB text) t else 0), nI (y + if v % 3 = 2 then cnt (NB text) t else 0)) := by
  have hL := loop_all (fun k i (_ : Unit) => pL_isPrinted_L96 (nI t) text (nI t) (nI v) k (nI (x + if v % 3 = 1 then cnt (NB text) i else 0)) (nI (y + if v % 3 = 2 then cnt (NB text) i else 0)) (nI i)) t
    (fun _ _ => True)
    (fun z => z = (nI (x + if v % 3 = 1 then cnt (NB text) t else 0), nI (y + if v % 3 = 2 then cnt (NB text) t else 0))) (by
      intro k s _
      refine ⟨_, ?_, rfl⟩
      try dsimp only
      rw [pL_isPrinted_L96, pL_isPrinted_L96_B, if_pos (nI_le (Nat.le_refl _) (by omega))]) (by
      intro k i s hi _
      refine ⟨(), ?_, trivial⟩
      try dsimp only
      rw [pL_isPrinted_L96, pL_isPrinted_L96_B, if_neg (nI_ge hi (by omega)), P_byte hi ht, cnt_s]
      have hm : nI v - nI v / 3 * 3 = nI (v % 3) := nI_mod3 (by omega)
      have h0 : (v % 3 = 0 ∨ v % 3 = 1 ∨ v % 3 = 2) := by omega
      have d1 : ∀ z : Nat, nI z + 1 = nI (z + 1) := fun z => by rw [n1, nI_add]
      have d0 : ∀ z : Nat, nI z + 0 = nI z := fun z => by rw [n0, nI_add]; rfl
      by_cases c : text i = 32
      · have hnb : NB text i = false := by unfold NB; rw [c]; rfl
        rw [if_pos c]
        simp only [pL_isPrinted_J121, pL_isPrinted_J142, cond, lb, hnb, d0, d1, if_false, Nat.add_zero, Bool.false_eq_true]
      · have hnb : NB text i = true := by unfold NB; rw [decide_eq_false c]; rfl
        rw [if_neg c]
        simp only [pL_isPrinted_J121, pL_isPrinted_J142, cond, lb, hnb, d0, d1, hm, if_true]
        rcases h0 with h | h | h
        · rw [h, n1, n2, if_neg (fun z => by have := (nI_eq (by omega) (by omega)).mp z; omega), if_neg (fun z => by have := (nI_eq (by omega) (by omega)).mp z; omega)]
          simp only [Nat.zero_ne_one, if_false, show ¬ (0 = 2) by omega]
        · rw [h, n1, n2]
          simp only [if_true, show ¬ (1 = 2) by omega, if_false, if_neg (show ¬ nI 1 = nI 2 from fun z => by have := (nI_eq (by omega) (by omega)).mp z; omega)]
          rfl
        · rw [h, n1, n2]
          simp only [if_true, show ¬ (2 = 1) by omega, if_false, if_neg (show ¬ nI 2 = nI 1 from fun z => by have := (nI_eq (by omega) (by omega)).mp z; omega)]
          rfl) FU 0 () (Nat.zero_le _) (by show t - 0 < 1024; omega) trivial
  obtain ⟨z, e1, rfl⟩ := hL
  have e2 : (fun (_ : Unit) => pL_isPrinted_L96 (nI t) text (nI t) (nI v) FU (nI (x + if v % 3 = 1 then cnt (NB text) 0 else 0)) (nI (y + if v % 3 = 2 then cnt (NB text) 0 else 0)) (nI 0)) () = some _ := e1
  have hz : ∀ c : Prop, [Decidable c] → (if c then cnt (NB text) 0 else 0) = 0 := fun c _ => by
    by_cases h : c
    · rw [if_pos h]; rfl
    · rw [if_neg h]
  rw [hz, hz] at e2
  exact e2
theorem cnt_piece {f text : Nat → Int32} {o t : Nat} (h : ∀ i, i < t → text i = f (o + i)) : cnt (NB f) o + cnt (NB text) t = cnt (NB f) (o + t) := by
  rw [cnt_split]
  congr 1
  exact cnt_congr fun i hi => by unfold NB; rw [h i hi]
end YPRD
