/-! what the class tells of its state, number by number -/
theorem cnt_ltn (n : Nat) : ∀ N, cnt (fun x => decide (x < n)) N = min n N := by
  intro N
  induction N with
  | zero => exact (Nat.min_zero n).symm
  | succ N ih =>
    rw [cnt_s, ih]
    by_cases h : N < n
    · rw [if_pos (decide_eq_true h)]; omega
    · rw [if_neg (by simpa using h)]; omega
theorem cnt_imp {f g : Nat → Bool} {n : Nat} (h : ∀ i, i < n → f i = true → g i = true) : cnt f n ≤ cnt g n := by
  rw [cnt_sm, cnt_sm]
  exact sm_le fun i hi => by
    by_cases c : f i = true
    · rw [if_pos c, if_pos (h i hi c)]; exact Nat.le_refl _
    · rw [if_neg c]; exact Nat.zero_le _
section YACC
variable {n u : Nat} {pr a b g : Nat → Nat} {an : Nat → Nat → Bool} {uy : Nat → Int32} {pl lc : Nat → Nat} {bx : Nat → Nat → Nat} {pu fp sp uY ge am lv rf od rs po fb sb lA py fc mc wy : Nat → Int32} {e0 : Nat → Int64}
/-- references drawn -/
def RCN (u : Nat) (a b g : Nat → Nat) : Nat := cnt (fun w => decide (w < u) && decide (rw_ a b g w < 16)) 12
theorem th_cnt (W : WF n u pr a b g) : cnt (th n u a b g) 28 = n + RCN u a b g := by
  have hn := W.n16
  rw [show (28 : Nat) = 16 + 12 from rfl, cnt_split, cnt_congr (f := th n u a b g) (g := fun x => decide (x < n)) (fun i hi => th_p hi), cnt_ltn, cnt_congr (f := fun i => th n u a b g (16 + i)) (g := fun w => decide (w < u) && decide (rw_ a b g w < 16)) (fun i _ => th_u), Nat.min_eq_left hn]
  rfl
theorem RCN_le (W : WF n u pr a b g) : RCN u a b g ≤ u := by
  have hu := W.u12
  have h : RCN u a b g ≤ cnt (fun x => decide (x < u)) 12 := cnt_imp fun i _ h => by
    rw [Bool.and_eq_true] at h
    exact h.1
  rw [cnt_ltn] at h
  omega
theorem A_count0 {pn uc rc : Int32} : p9_count pn uc rc fp pu sp rs 0 = some pn := by unfold p9_count; rw [if_pos rfl]
theorem A_count1 {pn uc rc : Int32} : p9_count pn uc rc fp pu sp rs 1 = some uc := by unfold p9_count; rw [if_neg (by decide), if_pos rfl]
theorem A_count2 {pn uc rc : Int32} : p9_count pn uc rc fp pu sp rs 2 = some rc := by unfold p9_count; rw [if_neg (by decide), if_neg (by decide), if_pos rfl]
theorem A_count3 (W : WF n u pr a b g) (R : RSX n u a b g rs) {pn uc : Int32} : p9_count pn uc (nI (rowsN g n)) fp pu sp rs 3 = some (nI (n + RCN u a b g)) := by
  unfold p9_count; rw [if_neg (by decide), if_neg (by decide), if_neg (by decide), if_pos rfl, X7_boxCount W R, th_cnt W]
theorem A_count4 (W : WF n u pr a b g) (R : RSX n u a b g rs) {uc : Int32} : p9_count (nI n) uc (nI (rowsN g n)) fp pu sp rs 4 = some (nI (RCN u a b g)) := by
  unfold p9_count; rw [if_neg (by decide), if_neg (by decide), if_neg (by decide), if_neg (by decide), if_pos rfl, X7_boxCount W R, th_cnt W, nI_sub (by omega), show n + RCN u a b g - n = RCN u a b g by omega]
theorem A_person0 (hn : n ≤ 16) {p : Nat} (hp : p < n) {uc : Int32} : p9_person (nI n) uc fp ge lA pu py sp (nI p) 0 = some (.inr (py p)) := by
  unfold p9_person; rw [K_reqP hn hp]; simp only [ox]; rw [if_pos trivial, at_in (by omega) (by omega)]; rfl
theorem A_person1 (hn : n ≤ 16) {p : Nat} (hp : p < n) {uc : Int32} : p9_person (nI n) uc fp ge lA pu py sp (nI p) 1 = some (.inr (ge p)) := by
  unfold p9_person; rw [K_reqP hn hp]; simp only [ox]; rw [if_neg (by decide), if_pos trivial, at_in (by omega) (by omega)]; rfl
theorem A_person2 (hn : n ≤ 16) {p : Nat} (hp : p < n) {uc : Int32} : p9_person (nI n) uc fp ge lA pu py sp (nI p) 2 = some (.inr (pu p)) := by
  unfold p9_person; rw [K_reqP hn hp]; simp only [ox]; rw [if_neg (by decide), if_neg (by decide), if_pos trivial, at_in (by omega) (by omega)]; rfl
theorem A_union0 (hu : u ≤ 12) {w : Nat} (hw : w < u) {pn rc : Int32} : p9_union pn (nI u) rc fc mc fp lA lv pu rf sp uY fb od po rs sb (nI w) 0 = some (.inr (fp w, fc, mc)) := by
  unfold p9_union; rw [K_reqU hu hw]; simp only [ox]; rw [if_pos trivial, at_in (by omega) (by omega)]; rfl
theorem A_union1 (hu : u ≤ 12) {w : Nat} (hw : w < u) {pn rc : Int32} : p9_union pn (nI u) rc fc mc fp lA lv pu rf sp uY fb od po rs sb (nI w) 1 = some (.inr (sp w, fc, mc)) := by
  unfold p9_union; rw [K_reqU hu hw]; simp only [ox]; rw [if_neg (by decide), if_pos trivial, at_in (by omega) (by omega)]; rfl
theorem A_union3 (hu : u ≤ 12) {w : Nat} (hw : w < u) {pn rc : Int32} : p9_union pn (nI u) rc fc mc fp lA lv pu rf sp uY fb od po rs sb (nI w) 3 = some (.inr (lv w, fc, mc)) := by
  unfold p9_union; rw [K_reqU hu hw]; simp only [ox]; rw [if_neg (by decide), if_neg (by decide), if_neg (by decide), if_pos trivial, at_in (by omega) (by omega)]; rfl
theorem A_union5 (W : WF n u pr a b g) (R : RX n u a b g pl bx od rs po fb sb) {w : Nat} (hw : w < u) {pn rc : Int32} : p9_union pn (nI u) rc fc mc fp lA lv pu rf sp uY fb od po rs sb (nI w) 5 = some (.inr (nI (mid a b g pl w), fc, mc)) := by
  unfold p9_union; rw [K_reqU W.u12 hw]; simp only [ox]; rw [if_neg (by decide), if_neg (by decide), if_neg (by decide), if_neg (by decide), if_neg (by decide), if_pos trivial, X7_middleOf W R.2.2.1 R.2.2.2 hw]; rfl
theorem A_place (hn : n ≤ 16) {p : Nat} (hp : p < n) : p9_place (nI n) po (nI p) = some (.inr (po p)) := by
  unfold p9_place; rw [K_reqP hn hp]; simp only [ox]; rw [at_in (by omega) (by omega)]; rfl
theorem A_boxes (W : WF n u pr a b g) (R : RSX n u a b g rs) {r : Nat} (hr : r < rowsN g n) : p9_boxes (nI (rowsN g n)) rs (nI r) = some (.inr (nI (sz n u a b g r))) := by
  unfold p9_boxes; rw [K_reqR W hr]; simp only [ox]; rw [X7_boxCountOf W R hr]; rfl
theorem A_box0 (W : WF n u pr a b g) (Q : ∀ w, w < u → rf w = rN (rw_ a b g w)) (R : RX n u a b g pl bx od rs po fb sb) (L : LAY n u a b g pl bx) {r k : Nat} (hr : r < rowsN g n) (hk : k < sz n u a b g r) : p9_box (nI (rowsN g n)) fc mc lA pu rf fb od rs sb (nI r) (nI k) 0 = some (.inr (nI (pp a b g (bx r k)), fc, mc)) := by
  obtain ⟨q1, q2, -⟩ := L.2 r k hk
  unfold p9_box; rw [K_reqPl W R.1 hr hk]; simp only [ox, lb_eq]; rw [if_pos trivial, X7_boxAt W R.1 R.2.1 hr hk, X7_personOf W Q q1 q2]; rfl
theorem A_box1 (W : WF n u pr a b g) (R : RX n u a b g pl bx od rs po fb sb) {r k x : Nat} (hr : r < rowsN g n) (hk : k < sz n u a b g r) (hx : bx r k = x) (h16 : x < 16) : p9_box (nI (rowsN g n)) fc mc lA pu rf fb od rs sb (nI r) (nI k) 1 = some (.inr (-1, fc, mc)) := by
  unfold p9_box; rw [K_reqPl W R.1 hr hk]; simp only [ox, lb_eq]; rw [if_neg (by decide), if_pos trivial, X7_boxAt W R.1 R.2.1 hr hk, hx]
  have h : p9_unionOfReference (nI x) = -1 := by
    unfold p9_unionOfReference
    rw [n16]
    first
      | rw [if_pos (nI_lt h16 (by omega))]
      | rw [if_neg (nI_ge h16 (by omega))]
  rw [h]; rfl
theorem A_box2 (W : WF n u pr a b g) (F : FX n u pr a b pu fp sp) (Q : ∀ w, w < u → rf w = rN (rw_ a b g w)) (C : LCX n lc lA) (hlc : ∀ p, p < n → lc p ≤ 8) (R : RX n u a b g pl bx od rs po fb sb) (L : LAY n u a b g pl bx) {r k : Nat} (hr : r < rowsN g n) (hk : k < sz n u a b g r) :
    ∃ fc' mc', p9_box (nI (rowsN g n)) fc mc lA pu rf fb od rs sb (nI r) (nI k) 2 = some (.inr (nI (colF n u pr a b g lc bx (bx r k)), fc', mc')) := by
  obtain ⟨fc', mc', e1, CXx⟩ := X0_layOut (fc := fc) (mc := mc) W F Q C hlc R L
  obtain ⟨q1, q2, -⟩ := L.2 r k hk
  refine ⟨fc', mc', ?_⟩
  unfold p9_box; rw [K_reqPl W R.1 hr hk]; simp only [ox, lb_eq]; rw [if_neg (by decide), if_neg (by decide), if_pos trivial, e1]
  simp only [ob, uc2]
  rw [X7_boxAt W R.1 R.2.1 hr hk, at_in q1 (by omega), (CXx (bx r k) ⟨q1, q2, Or.inl (th_row W q2)⟩).1]; rfl
theorem A_box3 (W : WF n u pr a b g) (Q : ∀ w, w < u → rf w = rN (rw_ a b g w)) (C : LCX n lc lA) (R : RX n u a b g pl bx od rs po fb sb) (L : LAY n u a b g pl bx) {r k : Nat} (hr : r < rowsN g n) (hk : k < sz n u a b g r) :
    p9_box (nI (rowsN g n)) fc mc lA pu rf fb od rs sb (nI r) (nI k) 3 = some (.inr (nI (wd a b g lc (bx r k)), fc, mc)) := by
  obtain ⟨q1, q2, -⟩ := L.2 r k hk
  unfold p9_box; rw [K_reqPl W R.1 hr hk]; simp only [ox, lb_eq]; rw [if_neg (by decide), if_neg (by decide), if_neg (by decide), if_pos trivial, X7_boxAt W R.1 R.2.1 hr hk, X0_widthOf W Q C q1 q2]; rfl
theorem A_children (W : WF n u pr a b g) (F : FX n u pr a b pu fp sp) {w : Nat} (hw : w < u) : p9_children (nI n) (nI u) pu (nI w) = some (.inr (mkm fun q => decide (q < n) && pr q == w)) := by
  have hu := W.u12
  unfold p9_children; rw [K_reqU hu hw]; simp only [ox]; rw [X1_childMask W F (by omega)]; rfl
theorem A_ancestors (hn : n ≤ 16) {p : Nat} (hp : p < n) : p9_ancestors (nI n) am (nI p) = some (.inr (am p)) := by
  unfold p9_ancestors; rw [K_reqP hn hp]; simp only [ox]; rw [at_in (by omega) (by omega)]; rfl
theorem A_descendants (W : WF n u pr a b g) (hr : ∀ p, p < n → RT g an ge am p) {p : Nat} (hp : p < n) : p9_descendants (nI n) am (nI p) = some (.inr (mkm fun q => decide (q < n) && an q p)) := by
  unfold p9_descendants; rw [K_reqP W.n16 hp]; simp only [ox]; rw [X1_desc W hr hp]; rfl
theorem A_kinship (W : WF n u pr a b g) (F : FX n u pr a b pu fp sp) (hg : ∀ p, p < n → ge p = nI (g p)) {p q : Nat} (hp : p < n) (hq : q < n) :
    ∃ e', p9_kinship (nI n) (nI (rowsN g n)) e0 fp ge pu sp (nI p) (nI q) = some (.inr (kT e' p q, e')) ∧ ∀ p q, p < n → q < n → kT e' p q = KV pr a b g (kT e') p q := by
  have hn := W.n16
  obtain ⟨e', e1, h1⟩ := X6_note (e0 := e0) W F hg
  refine ⟨e', ?_, h1⟩
  unfold p9_kinship; rw [K_reqP hn hp, K_reqP hn hq]; simp only [ox]; rw [e1]
  simp only [ob]
  rw [K6_get (by omega) (by omega)]; rfl
theorem A_distance (W : WF n u pr a b g) (F : FX n u pr a b pu fp sp) {p q : Nat} (hp : p < n) (hq : q < n) :
    ∃ r, p9_distance (nI n) fp pu sp (nI p) (nI q) = some (.inr r) ∧ DST n pr a b p q r := by
  have hn := W.n16
  obtain ⟨r, e1, h1⟩ := X6_distance W F hp hq
  refine ⟨r, ?_, h1⟩
  unfold p9_distance; rw [K_reqP hn hp, K_reqP hn hq]; simp only [ox]; rw [e1]; rfl
theorem A_linesTo (W : WF n u pr a b g) (F : FX n u pr a b pu fp sp) (hg : ∀ p, p < n → ge p = nI (g p)) {p q : Nat} (hp : p < n) (hq : q < n) :
    ∃ wy', p9_linesTo (nI n) (nI (rowsN g n)) wy fp ge pu sp (nI p) (nI q) = some (.inr (nI (lns pr a b p q), wy')) := by
  have hn := W.n16
  obtain ⟨wy', e1⟩ := X6_linesTo (wy := wy) W F hg hp hq
  refine ⟨wy', ?_⟩
  unfold p9_linesTo; rw [K_reqP hn hp, K_reqP hn hq]; simp only [ox]; rw [e1]; rfl
theorem A_crossings (W : WF n u pr a b g) (F : FX n u pr a b pu fp sp) (hl : ∀ w, w < u → lv w = nI (lw a b g w)) (R : RX n u a b g pl bx od rs po fb sb) (L : LAY n u a b g pl bx) :
    p9_crossings (nI u) (nI (rowsN g n)) lv pu fb od po rs sb = some (nI (tot n u pr a b g pl)) := by
  unfold p9_crossings; rw [X7_all W F hl R L]; rfl
theorem A_crossIn (W : WF n u pr a b g) (hl : ∀ w, w < u → lv w = nI (lw a b g w)) (R : RX n u a b g pl bx od rs po fb sb) (L : LAY n u a b g pl bx) {r : Nat} (hr : r < rowsN g n) :
    p9_crossingsOf (nI u) (nI (rowsN g n)) lv pu fb od po rs sb (nI r) false = some (.inr (nI (ci u a b g pl r))) := by
  have hR := rows16 W
  unfold p9_crossingsOf; rw [K_reqR W hr]; simp only [ox, cond]; rw [X7_countIn W hl R.2.2.1 R.2.2.2 L (by omega)]; rfl
theorem A_crossBelow (W : WF n u pr a b g) (F : FX n u pr a b pu fp sp) (R : RX n u a b g pl bx od rs po fb sb) (L : LAY n u a b g pl bx) {r : Nat} (hr : r < rowsN g n) :
    p9_crossingsOf (nI u) (nI (rowsN g n)) lv pu fb od po rs sb (nI r) true = some (.inr (nI (cb n pr a b g pl r))) := by
  have hR := rows16 W
  unfold p9_crossingsOf; rw [K_reqR W hr]; simp only [ox, cond]; rw [X7_countBelow W F R L (by omega)]; rfl
theorem A_crossIf (W : WF n u pr a b g) (F : FX n u pr a b pu fp sp) (hl : ∀ w, w < u → lv w = nI (lw a b g w)) (R : RX n u a b g pl bx od rs po fb sb) (L : LAY n u a b g pl bx) {r i j : Nat} (hr : r < rowsN g n) (hi : i < sz n u a b g r) (hj : j < sz n u a b g r) :
    ∃ od' po', p9_crossingsIf (nI u) (nI (rowsN g n)) lv pu fb od po rs sb (nI r) (nI i) (nI j) = some (.inr (nI (tot n u pr a b g (plS bx r i j pl)), od', po')) ∧ RX n u a b g pl bx od' rs po' fb sb := by
  obtain ⟨od1, po1, e1, R1⟩ := X7_exchange W R L hr hi hj
  have L1 := LAY.swap L hi hj
  obtain ⟨od2, po2, e2, R2⟩ := X7_exchange W R1 L1 hr hi hj
  rw [plS_back (L.2 r i hi).2.2.2 (L.2 r j hj).2.2.2, bxS_back] at R2
  refine ⟨od2, po2, ?_, R2⟩
  unfold p9_crossingsIf; rw [K_reqPl W R.1 hr hi, K_reqPl W R.1 hr hj]; simp only [ox, lb_eq]; rw [e1]
  simp only [uc2]
  rw [X7_all W F hl R1 L1]
  simp only [ob]
  rw [e2]
  rfl
end YACC
