theorem lN_neg1 : (-1 : Int64).toInt32 = -1 := by decide
section MBOX
variable {n u : Nat} {pr a b g : Nat → Nat} {an : Nat → Nat → Bool} {fam : Nat → Int64} {ge lv ro rs bA : Nat → Int32} {it : Nat → Bool} {pl : Nat → Nat} {bx : Nat → Nat → Nat}
/-- generations and levels, as the reference has laid them -/
def GL (n u : Nat) (a b g : Nat → Nat) (ge lv : Nat → Int32) : Prop := (∀ p, p < n → ge p = nI (g p)) ∧ ∀ w, w < u → lv w = nI (lw a b g w)
theorem lw_lt (W : WF n u pr a b g) {w : Nat} (hw : w < u) : lw a b g w < 16 := by
  obtain ⟨h1, h2, -⟩ := W.par hw
  have := W.glt h1
  have := W.glt h2
  have := W.n16
  unfold lw; omega
theorem M_referred (W : WF n u pr a b g) (F : MX n u pr a b fam) (G : GL n u a b g ge lv) {w : Nat} (hw : w < u) : p10_referred fam ge lv (nI w) = some (rN (rw_ a b g w)) := by
  have hn := W.n16
  have hu := W.u12
  obtain ⟨h1, h2, h3⟩ := W.par hw
  have k1 := W.glt h1
  have k2 := W.glt h2
  have kl := lw_lt W hw
  unfold p10_referred
  rw [n0, n1, M_partner0 F hu hw]
  simp only [ob]
  rw [M_partner1 F hu hw]
  simp only
  rw [gd_in (by omega) (by omega), gd_in (by omega) (by omega), nI_clamp (by omega), nI_clamp (by omega), gd_in (by omega) (by omega), gd_in (by omega) (by omega), nI_clamp (by omega), G.1 _ h1, G.1 _ h2, G.2 _ hw]
  by_cases e1 : g (a w) < g (b w)
  · have hr : rw_ a b g w = a w := by unfold rw_; rw [if_pos e1]
    have hl : g (a w) < lw a b g w := by unfold lw; omega
    rw [if_neg (nI_ge hl (by omega)), hr, rN_in (by omega)]
  · have hl : lw a b g w ≤ g (a w) := by unfold lw; omega
    rw [if_pos (nI_le hl (by omega))]
    by_cases e2 : g (b w) < g (a w)
    · have hr : rw_ a b g w = b w := by unfold rw_; rw [if_neg e1, if_pos e2]
      have hl2 : g (b w) < lw a b g w := by unfold lw; omega
      rw [if_neg (nI_ge hl2 (by omega)), hr, rN_in (by omega)]
    · have hr : rw_ a b g w = 16 := by unfold rw_; rw [if_neg e1, if_neg e2]
      have hl2 : lw a b g w ≤ g (b w) := by unfold lw; omega
      rw [if_pos (nI_le hl2 (by omega)), hr]
      rfl
theorem updB_eq {f : Nat → Bool} {k : Nat} {x : Bool} : updB f k x k = x := by simp [updB]
theorem updB_ne {f : Nat → Bool} {k j : Nat} {x : Bool} (h : j ≠ k) : updB f k x j = f j := by simp [updB, h]
/-- the boxes, as the reference has laid them -/
def BL (n u : Nat) (a b g : Nat → Nat) (it : Nat → Bool) (ro rs : Nat → Int32) : Prop :=
  (∀ x, x < 28 → it x = th n u a b g x ∧ ro x = if th n u a b g x then nI (rb a b g x) else -1) ∧ ∀ r, r < 16 → rs r = nI (sz n u a b g r)
theorem rb_lt (W : WF n u pr a b g) {x : Nat} (ht : th n u a b g x = true) : rb a b g x < 16 := by
  have := th_row W ht
  have := rows16 W
  omega
theorem M_layBoxes (W : WF n u pr a b g) (F : MX n u pr a b fam) (G : GL n u a b g ge lv) : ∃ it' ro' rs', p10_layBoxes fam ge it lv ro rs = some (it', ro', rs') ∧ BL n u a b g it' ro' rs' := by
  have hn := W.n16
  have hu := W.u12
  obtain ⟨s1, e1, f1⟩ := loop_all (fun k i (s : (Nat → Bool) × (Nat → Int32)) => p10_layBoxes_L2 fam ge lv k (nI i) s.1 s.2) 28
    (fun i s => ∀ x, x < i → s.1 x = th n u a b g x ∧ s.2 x = if th n u a b g x then nI (rb a b g x) else -1)
    (fun s => ∀ x, x < 28 → s.1 x = th n u a b g x ∧ s.2 x = if th n u a b g x then nI (rb a b g x) else -1) (by
      intro k s hs
      refine ⟨s, ?_, hs⟩
      try dsimp only
      rw [p10_layBoxes_L2, p10_layBoxes_L2_B, n28, if_pos (nI_le (Nat.le_refl _) (by omega))]) (by
      intro k i s hi hs
      have hJ : ∀ v2, (16 ≤ i → v2 = nI (i - 16)) → (th n u a b g i = true → 16 ≤ i → i - 16 < u) → p10_layBoxes_J63 (p10_layBoxes_L2 fam ge lv k) ge lv s.2 (nI i) v2 (updB s.1 i (th n u a b g i)) = p10_layBoxes_L2 fam ge lv k (nI (i + 1)) (updB s.1 i (th n u a b g i)) (upd s.2 i (if th n u a b g i then nI (rb a b g i) else -1)) := by
        intro v2 hv2 hu2
        unfold p10_layBoxes_J63
        rw [gd_in (by omega) (by omega), nI_clamp (by omega), updB_eq]
        cases e : th n u a b g i with
        | false =>
          rw [cond_false, gd_in (by omega) (by omega)]
          simp only [lb]
          rw [n1, nI_add]
          rfl
        | true =>
          rw [cond_true, n16]
          by_cases h16 : 16 ≤ i
          · have hw := hu2 e h16
            rw [if_pos (nI_le h16 (by omega)), hv2 h16, gd_in (by omega) (by omega), gd_in (by omega) (by omega), nI_clamp (by omega), G.2 _ hw]
            simp only [lb]
            rw [if_pos trivial, n1, nI_add]
            unfold rb
            rw [if_neg (by omega)]
          · have hp : i < n := by
              have := th_p (n := n) (u := u) (a := a) (b := b) (g := g) (x := i) (by omega)
              rw [e] at this
              exact of_decide_eq_true this.symm
            rw [if_neg (nI_ge (by omega) (by omega)), gd_in (by omega) (by omega), gd_in (by omega) (by omega), G.1 _ hp]
            simp only [lb]
            rw [if_pos trivial, n1, nI_add, rb_p (by omega)]
      refine ⟨(updB s.1 i (th n u a b g i), upd s.2 i (if th n u a b g i then nI (rb a b g i) else -1)), ?_, fun x hx => ?_⟩
      · try dsimp only
        rw [p10_layBoxes_L2, p10_layBoxes_L2_B, n28, if_neg (nI_ge hi (by omega))]
        simp only [lb]
        rw [n16]
        by_cases h16 : 16 ≤ i
        · have ei : i = 16 + (i - 16) := by omega
          have hth : th n u a b g i = (decide (i - 16 < u) && decide (rw_ a b g (i - 16) < 16)) := by
            rw [ei, th_u, show 16 + (i - 16) - 16 = i - 16 by omega]
          rw [if_pos (nI_le h16 (by omega)), M_unions F, nI_sub h16]
          simp only [ob]
          rw [gd_in (by omega) (by omega), gd_in (by omega) (by omega), nI_clamp (by omega)]
          by_cases hw : i - 16 < u
          · rw [if_neg (nI_ge hw (by omega)), M_referred W F G hw]
            simp only
            by_cases hr : rw_ a b g (i - 16) < 16
            · rw [if_neg (fun q => (rN_m1.mp q) hr)]
              have ht : th n u a b g i = true := by rw [hth, decide_eq_true hw, decide_eq_true hr]; rfl
              have := hJ (nI (i - 16)) (fun _ => rfl) (fun _ _ => hw)
              rw [ht] at this ⊢
              exact this
            · rw [if_pos (rN_m1.mpr hr)]
              have ht : th n u a b g i = false := by rw [hth, decide_eq_false hr]; simp
              have := hJ (nI (i - 16)) (fun _ => rfl) (fun _ _ => hw)
              rw [ht] at this ⊢
              exact this
          · rw [if_pos (nI_le (by omega) (by omega))]
            have ht : th n u a b g i = false := by rw [hth, decide_eq_false hw]; rfl
            have := hJ (nI (i - 16)) (fun _ => rfl) (fun z => by rw [ht] at z; cases z)
            rw [ht] at this ⊢
            exact this
        · have hth : th n u a b g i = decide (i < n) := th_p (by omega)
          rw [if_neg (nI_ge (by omega) (by omega)), M_persons F]
          simp only [ob]
          rw [gd_in (by omega) (by omega), gd_in (by omega) (by omega), nI_clamp (by omega)]
          by_cases hp : i < n
          · rw [if_neg (nI_ge hp (by omega))]
            have ht : th n u a b g i = true := by rw [hth, decide_eq_true hp]
            have := hJ (nI i - nI 16) (fun z => absurd z h16) (fun _ z => absurd z h16)
            rw [ht] at this ⊢
            exact this
          · rw [if_pos (nI_le (by omega) (by omega))]
            have ht : th n u a b g i = false := by rw [hth, decide_eq_false hp]
            have := hJ (nI i - nI 16) (fun z => absurd z h16) (fun _ z => absurd z h16)
            rw [ht] at this ⊢
            exact this
      · dsimp only
        by_cases e : x = i
        · subst e; rw [updB_eq, upd_eq]; exact ⟨rfl, rfl⟩
        · rw [updB_ne e, upd_ne e]; exact hs x (by omega)) FU 0 (it, ro) (Nat.zero_le _) (by show 28 - 0 < 1024; omega) (fun x hx => absurd hx (Nat.not_lt_zero _))
  obtain ⟨s2, e2, f2⟩ := loop_all (fun k i (s : Nat → Int32) => p10_layBoxes_L111 k (nI i) s) 16 (fun i s => ∀ r, r < i → s r = nI 0) (fun s => ∀ r, r < 16 → s r = nI 0) (by
      intro k s hs
      refine ⟨s, ?_, hs⟩
      try dsimp only
      rw [p10_layBoxes_L111, p10_layBoxes_L111_B, n16, if_pos (nI_le (Nat.le_refl _) (by omega))]) (by
      intro k i s hi hs
      refine ⟨upd s i (nI 0), ?_, fun r hr => ?_⟩
      · try dsimp only
        rw [p10_layBoxes_L111, p10_layBoxes_L111_B, n16, if_neg (nI_ge hi (by omega)), gd_in (by omega) (by omega), nI_clamp (by omega)]
        simp only [lb]
        rw [n1, nI_add]
        rfl
      · by_cases e : r = i
        · rw [e, upd_eq]
        · rw [upd_ne e]; exact hs r (by omega)) FU 0 rs (Nat.zero_le _) (by show 16 - 0 < 1024; omega) (fun x hx => absurd hx (Nat.not_lt_zero _))
  obtain ⟨s3, e3, f3⟩ := loop_all (fun k i (s : Nat → Int32) => p10_layBoxes_L132 s1.1 s1.2 k (nI i) s) 28 (fun i s => ∀ r, r < 16 → s r = nI (cnt (inr n u a b g r) i)) (fun s => ∀ r, r < 16 → s r = nI (sz n u a b g r)) (by
      intro k s hs
      refine ⟨s, ?_, hs⟩
      try dsimp only
      rw [p10_layBoxes_L132, p10_layBoxes_L132_B, n28, if_pos (nI_le (Nat.le_refl _) (by omega))]) (by
      intro k i s hi hs
      obtain ⟨t1, t2⟩ := f1 i hi
      cases e : th n u a b g i with
      | false =>
        refine ⟨s, ?_, fun r hr => ?_⟩
        · try dsimp only
          rw [p10_layBoxes_L132, p10_layBoxes_L132_B, n28, if_neg (nI_ge hi (by omega)), gd_in (by omega) (by omega), nI_clamp (by omega), t1, e, cond_false]
          simp only [lb]
          rw [n1, nI_add]
        · rw [hs r hr, cnt_s, if_neg (by unfold inr; rw [e]; simp), Nat.add_zero]
      | true =>
        have hr16 := rb_lt W e
        rw [e, if_pos rfl] at t2
        refine ⟨upd s (rb a b g i) (nI (cnt (inr n u a b g (rb a b g i)) (i + 1))), ?_, fun r hr => ?_⟩
        · try dsimp only
          have hc := cnt_le (inr n u a b g (rb a b g i)) i
          rw [p10_layBoxes_L132, p10_layBoxes_L132_B, n28, if_neg (nI_ge hi (by omega)), gd_in (by omega) (by omega), nI_clamp (by omega), t1, e, cond_true, gd_in (by omega) (by omega), t2, gd_in (by omega) (by omega), gd_in (by omega) (by omega), nI_clamp (by omega), hs _ hr16, n1, nI_add]
          simp only [lb]
          rw [nI_add, cnt_s, if_pos (inr_self e)]
        · by_cases e2 : r = rb a b g i
          · rw [e2, upd_eq]
          · rw [upd_ne e2, hs r hr, cnt_s, if_neg (by intro q; exact e2 (inr_iff.mp q).2.symm), Nat.add_zero]) FU 0 s2 (Nat.zero_le _) (by show 28 - 0 < 1024; omega) f2
  try dsimp only at e1
  try dsimp only at e2
  try dsimp only at e3
  refine ⟨s1.1, s1.2, s3, ?_, f1, f3⟩
  unfold p10_layBoxes
  rw [n0, e1]
  simp only [ob, uc2]
  unfold p10_layBoxes_J109
  rw [n0, e2]
  simp only [ob]
  unfold p10_layBoxes_J130
  rw [n0, e3]
  rfl
/-- the places stand in the row of numbers -/
def PLM (n u : Nat) (a b g : Nat → Nat) (pl : Nat → Nat) (fam : Nat → Int64) : Prop := ∀ x, x < 28 → th n u a b g x = true → fam (102 + x) = lN (pl x)
/-- boxAt, as the reference has laid it -/
def BA (n u : Nat) (a b g : Nat → Nat) (bx : Nat → Nat → Nat) (bA : Nat → Int32) : Prop := ∀ r k, r < 16 → k < sz n u a b g r → bA (28 * r + k) = nI (bx r k)
theorem M_placeOf (P : PLM n u a b g pl fam) {x : Nat} (hx : x < 28) (ht : th n u a b g x = true) : p10_placeOf fam (nI x) = some (nI (pl x)) := by
  unfold p10_placeOf
  rw [n102, nI_add, gd_in (by omega) (by omega), nI_clamp (by omega), P x hx ht, lN_i]
theorem M_layPlaces (W : WF n u pr a b g) (B : BL n u a b g it ro rs) (P : PLM n u a b g pl fam) (L : LAY n u a b g pl bx) : ∃ bA', p10_layPlaces bA fam it ro = some bA' ∧ BA n u a b g bx bA' := by
  obtain ⟨s1, e1, f1⟩ := loop_all (fun k i (s : Nat → Int32) => p10_layPlaces_L2 fam it ro k (nI i) s) 28
    (fun i s => ∀ x, x < i → th n u a b g x = true → s (28 * rb a b g x + pl x) = nI x)
    (fun s => ∀ x, x < 28 → th n u a b g x = true → s (28 * rb a b g x + pl x) = nI x) (by
      intro k s hs
      refine ⟨s, ?_, hs⟩
      try dsimp only
      rw [p10_layPlaces_L2, p10_layPlaces_L2_B, n28, if_pos (nI_le (Nat.le_refl _) (by omega))]) (by
      intro k i s hi hs
      obtain ⟨t1, t2⟩ := B.1 i hi
      cases e : th n u a b g i with
      | false =>
        refine ⟨s, ?_, fun x hx ht => ?_⟩
        · try dsimp only
          rw [p10_layPlaces_L2, p10_layPlaces_L2_B, n28, if_neg (nI_ge hi (by omega)), gd_in (by omega) (by omega), nI_clamp (by omega), t1, e, cond_false]
          simp only [lb]
          rw [n1, nI_add]
        · by_cases e2 : x = i
          · subst e2; rw [e] at ht; cases ht
          · exact hs x (by omega) ht
      | true =>
        have hr16 := rb_lt W e
        have hpl := (L.1 i hi e).1
        have hsz := sz_le W (r := rb a b g i)
        rw [e, if_pos rfl] at t2
        refine ⟨upd s (28 * rb a b g i + pl i) (nI i), ?_, fun x hx ht => ?_⟩
        · try dsimp only
          rw [p10_layPlaces_L2, p10_layPlaces_L2_B, n28, if_neg (nI_ge hi (by omega)), gd_in (by omega) (by omega), nI_clamp (by omega), t1, e, cond_true, gd_in (by omega) (by omega), M_placeOf P hi e]
          simp only [ob]
          rw [t2, nI_mul, nI_add, gd_in (by omega) (by omega), nI_clamp (by omega)]
          simp only [lb]
          rw [n1, nI_add]
        · by_cases e2 : x = i
          · rw [e2, upd_eq]
          · have hx28 : x < 28 := by omega
            have hne : 28 * rb a b g x + pl x ≠ 28 * rb a b g i + pl i := by
              intro q
              have h1 := (L.1 x hx28 ht).1
              have h2 := sz_le W (r := rb a b g x)
              have h3 : rb a b g x = rb a b g i := by omega
              have h4 : pl x = pl i := by omega
              have h5 := (L.1 x hx28 ht).2
              rw [h3, h4, (L.1 i hi e).2] at h5
              exact e2 h5.symm
            rw [upd_ne hne]
            exact hs x (by omega) ht) FU 0 bA (Nat.zero_le _) (by show 28 - 0 < 1024; omega) (fun x hx => absurd hx (Nat.not_lt_zero _))
  try dsimp only at e1
  refine ⟨s1, ?_, fun r k hr hk => ?_⟩
  · unfold p10_layPlaces
    rw [n0, e1]
    rfl
  · obtain ⟨q1, q2, q3, q4⟩ := L.2 r k hk
    have := f1 _ q1 q2
    rw [q3, q4] at this
    exact this
/-- everything that lay lays -/
def LM (n u : Nat) (a b g : Nat → Nat) (bx : Nat → Nat → Nat) (bA ge : Nat → Int32) (it : Nat → Bool) (lv ro rs : Nat → Int32) : Prop :=
  GL n u a b g ge lv ∧ BL n u a b g it ro rs ∧ BA n u a b g bx bA
theorem M_lay (W : WF n u pr a b g) (F : MX n u pr a b fam) (P : PLM n u a b g pl fam) (L : LAY n u a b g pl bx) :
    ∃ bA' ge' it' lv' ro' rs', p10_lay bA fam ge it lv ro rs = some (bA', ge', it', lv', ro', rs', nI (rowsN g n)) ∧ LM n u a b g bx bA' ge' it' lv' ro' rs' := by
  obtain ⟨ge1, lv1, e1, f1, f2⟩ := M_layGen (ge := ge) (lv := lv) W F
  obtain ⟨it1, ro1, rs1, e2, f3⟩ := M_layBoxes (it := it) (ro := ro) (rs := rs) W F ⟨f1, f2⟩
  obtain ⟨bA1, e3, f4⟩ := M_layPlaces (bA := bA) W f3 P L
  refine ⟨bA1, ge1, it1, lv1, ro1, rs1, ?_, ⟨f1, f2⟩, f3, f4⟩
  unfold p10_lay
  rw [e1]
  simp only [ob, uc3]
  rw [e2]
  simp only
  rw [e3]
end MBOX
