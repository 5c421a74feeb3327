/-! children of a union read -/
section RCHI
variable {B : Nat → Nat} {L lo : Nat} {bs bf : Nat → Int32} {n u : Nat} {pr a b g lc : Nat → Nat} {an : Nat → Nat → Bool} {lt : Nat → Nat → Nat} {yr uy lA letters py pu fp sp uY am : Nat → Int32} {fam : Nat → Int64} {s e k c : Nat} {kind start stop value code errS next begins token error errorAt : Int32}
theorem X1_ownAnc2 (W : WF n u pr a b g) (F : FX n u pr a b pu fp sp) {w p : Nat} (hw : w < u) (hp : p < n) (h1 : ∀ q, bt (am (a w)) q = an (a w) q) (h2 : ∀ q, bt (am (b w)) q = an (b w) q) :
    p1_partnerOrAncestor am fp sp (nI w) (nI p) = (p == a w || an (a w) p || (p == b w || an (b w) p)) := by
  have hn := W.n16
  obtain ⟨m1, m2, -⟩ := W.par hw
  unfold p1_partnerOrAncestor
  rw [F.at_fp W.u12 hw, F.at_sp W.u12 hw]
  simp only [lb]
  have hbt := bt_one (x := p1_lineageMask am (nI (a w)) ||| p1_lineageMask am (nI (b w))) (b := p9_bit (nI p)) (p := p) (fun q => bt_bit (by omega)) (by omega)
  rw [bt_or, X1_lineage (by omega) h1, X1_lineage (by omega) h2] at hbt
  cases q : (p == a w || an (a w) p || (p == b w || an (b w) p)) with
  | false => rw [if_pos (hbt.mpr q)]
  | true => rw [if_neg (fun z => by rw [hbt.mp z] at q; cases q)]
theorem anc_keep (W : WF n u pr a b g) (AN : ANC n pr a b an) {p w : Nat} {an' : Nat → Nat → Bool} (AN' : ANC n (updN pr p w) a b an') :
    ∀ m x, g x < m → x < n → x ≠ p → an x p = false → ∀ q, an' x q = an x q := by
  intro m
  induction m with
  | zero => intro x h; omega
  | succ m ih =>
    intro x hm hx hne hno q
    have e : updN pr p w x = pr x := if_neg hne
    by_cases c : pr x < 12
    · have U := W.up hx c
      have h1 := AN.par (q := p) hx c
      rw [hno] at h1
      have h2 := h1.symm
      rw [Bool.or_eq_false_iff, Bool.or_eq_false_iff, Bool.or_eq_false_iff, beq_eq_false_iff_ne, beq_eq_false_iff_ne] at h2
      obtain ⟨⟨⟨k1, k2⟩, k3⟩, k4⟩ := h2
      rw [AN.par hx c, AN'.par hx (by rw [e]; exact c), e, ih _ (by omega) U.1 (Ne.symm k1) k3 q, ih _ (by omega) U.2.1 (Ne.symm k2) k4 q]
    · rw [AN.none hx c, AN'.none hx (by rw [e]; exact c)]
def CHI (n u : Nat) (a b : Nat → Nat) (lc : Nat → Nat) (lt : Nat → Nat → Nat) (yr uy : Nat → Int32) (am pu fp sp : Nat → Int32) (fam : Nat → Int64) : Prop :=
  ∃ pr g an, WF n (u + 1) pr a b g ∧ ANC n pr a b an ∧ FX n (u + 1) pr a b pu fp sp ∧ MX n (u + 1) pr a b fam ∧ (∀ q, bt (am (a u)) q = an (a u) q) ∧ (∀ q, bt (am (b u)) q = an (b u) q) ∧ PM n lc lt yr fam ∧ ∀ w, w < u + 1 → fam (66 + 3 * w + 2) = (uy w).toInt64
def FXH (n u : Nat) (a b : Nat → Nat) (pu fp sp : Nat → Int32) : Prop := ∃ (pr g : Nat → Nat) (an : Nat → Nat → Bool), WF n (u + 1) pr a b g ∧ ANC n pr a b an ∧ FX n (u + 1) pr a b pu fp sp
theorem CHI.fxh {a b : Nat → Nat} (I : CHI n u a b lc lt yr uy am pu fp sp fam) : FXH n u a b pu fp sp := by
  obtain ⟨pr, g, an, W, AN, F, -⟩ := I
  exact ⟨pr, g, an, W, AN, F⟩
theorem child_fine (H : BUF B L bs bf) (P : PT B L s e k) (hC : PC n lc lt) (hX1 : LCX n lc lA) (hX2 : LTX n lc lt letters) (I : CHI n u a b lc lt yr uy am pu fp sp fam) (hu : u < 12) (value errorAt : Int32) :
    ∃ pu' kind' start' stop' value' code' errS' next' begins' token' errorAt' fam', p8_readChild (nI L) (nI k) (nI s) (nI e) value 0 (-1) (nI n) am fp lA letters pu sp bs (nI u) = some (pu', code', errS', kind', start', stop', value') ∧
      p10_readChild (nI L) (nI e) (nI s) (nI k) 0 errorAt bf fam (nI u) = some (begins', code', errorAt', fam', next', token') ∧
      SIM B L e kind' start' stop' value' code' errS' next' begins' token' code' errorAt' ∧ (code' = 0 → CHI n u a b lc lt yr uy am pu' fp sp fam') ∧ FXH n u a b pu' fp sp := by
  have I0 := I
  obtain ⟨pr, g, an, W, AN, F, FM, A1, A2, PMf, hUy⟩ := I
  have hn := W.n16
  have hN : NMS n lc lt lA letters fam := ⟨hn, hC, hX1, hX2, FM.1, PMf.2.1⟩
  have h50 : ¬ (5 : Int32) = 0 := by decide
  unfold p8_readChild p10_readChild
  obtain ⟨r, ⟨p, hp, -, -, q1, q2⟩ | ⟨c, h5, h0, q1, q2⟩⟩ := name_fine H P hN errorAt
  · rw [q1, q2]
    simp only [ob, uc3]
    unfold p3_isFine
    simp only [if_true, cond_true]
    rw [X1_hasParents W F hp, M_parentsOf FM hn hp, X1_ownAnc2 W F (show u < u + 1 by omega) hp A1 A2]
    simp only []
    have hbad : p8_readChild_J39 pu (nI k) (nI s) (nI e) value 0 (-1) = some (pu, 5, nI s, nI k, nI s, nI e, value) := by
      unfold p8_readChild_J39
      rw [fail0]; rfl
    have hbadM : (lb (p10_check (nI s) 0 errorAt false 5) (uc2 fun m_error_37 m_errorAt_37 => p10_readChild_J40 (nI s) bf fam (nI L) (nI e) (nI k) (nI u) (nI p) m_error_37 m_errorAt_37)) = some (nI s, 5, nI s, fam, nI e, nI k) := by
      rw [checkF0]
      simp only [lb_eq, uc2]
      unfold p10_readChild_J40 p10_readChild_J55
      rw [if_neg h50, M_advE h50]
      rfl
    by_cases c1 : pr p < 12
    · rw [decide_eq_true c1, cond_true, oN_in c1, if_neg (nI_m1 (by omega)), hbad, hbadM]
      exact ⟨_, _, _, _, _, _, _, _, _, _, _, _, rfl, rfl, SIM.err P (c := 5) (by omega) (by omega), fun q => absurd q h50, I0.fxh⟩
    · rw [decide_eq_false c1, cond_false, oN_out c1, M_ownAnc W AN FM (show u < u + 1 by omega) hp]
      simp only [if_true]
      cases c2 : (p == a u || an (a u) p || (p == b u || an (b u) p)) with
      | true =>
        rw [cond_true, cond_true, hbad, hbadM]
        exact ⟨_, _, _, _, _, _, _, _, _, _, _, _, rfl, rfl, SIM.err P (c := 5) (by omega) (by omega), fun q => absurd q h50, I0.fxh⟩
      | false =>
        rw [cond_false, cond_false, checkT]
        rw [Bool.or_eq_false_iff] at c2
        obtain ⟨g', an', W', AN'⟩ := adopt_exists W AN (show u < u + 1 by omega) hp c2.1 c2.2
        obtain ⟨s', e', k', v', a1, a2, P', V', l1, l2⟩ := adv_fine H P (nI k) (nI s) value (nI s) (nI k)
        obtain ⟨m1, m2, -⟩ := W.par (show u < u + 1 by omega)
        have d1 := c2.1
        have d2 := c2.2
        rw [Bool.or_eq_false_iff, beq_eq_false_iff_ne] at d1 d2
        have hlO : lN u = lO u := (if_pos (by omega)).symm
        simp only [lb_eq, uc2]
        unfold p10_readChild_J40 p10_readChild_J55
        rw [if_pos rfl, put_in (by omega) (by omega), a1, show p10_putPerson fam (nI p) 1 (nI u).toInt64 = some (vp_updL fam (2 + 4 * p + 1) (lN u)) by rw [nI_l (by omega)]; exact M_putPerson (f := 1) (by omega) (by omega) _]
        simp only [ob, uc4]
        rw [a2]
        simp only [uc3]
        refine ⟨_, _, _, _, _, _, _, _, _, _, _, _, rfl, rfl, SIM.fine P' V' l1 l2, fun _ => ⟨updN pr p u, g', an', W', AN', pr_FX F (oN_in (by omega)).symm, pr_MX FM hn W.u12 hp hlO, fun q => ?_, fun q => ?_, PMf.congr2 fun x hx => ⟨updL_ne (by omega), updL_ne (by omega), updL_ne (by omega)⟩, fun w hw => by rw [updL_ne (by omega)]; exact hUy w hw⟩, ⟨updN pr p u, g', an', W', AN', pr_FX F (oN_in (by omega)).symm⟩⟩
        · rw [A1 q, anc_keep W AN AN' (g (a u) + 1) (a u) (by omega) m1 (Ne.symm d1.1) d1.2 q]
        · rw [A2 q, anc_keep W AN AN' (g (b u) + 1) (b u) (by omega) m2 (Ne.symm d2.1) d2.2 q]
  · have hc := nIc h5 h0
    rw [q1, q2]
    simp only [ob, uc3]
    unfold p3_isFine
    rw [if_neg hc, if_neg hc, checkE hc]
    simp only [lb_eq, uc2]
    unfold p10_readChild_J40 p10_readChild_J55
    rw [if_neg hc, M_advE hc]
    exact ⟨_, _, _, _, _, _, _, _, _, _, _, _, rfl, rfl, SIM.err P h5 h0, fun q => absurd q hc, I0.fxh⟩
theorem children_ok (H : BUF B L bs bf) (hC : PC n lc lt) (hX1 : LCX n lc lA) (hX2 : LTX n lc lt letters) (hu : u < 12) {e0 : Nat} :
    ∀ m j s e k (value errorAt : Int32) (pu : Nat → Int32) (fam : Nat → Int64) (fC fM : Nat), m + j = 800 → m < fC → m + 1 < fM → PT B L s e k → e0 ≤ e → (k ≠ 0 → e0 < e) → VAL B s e k value → (k ≠ 0 → j < e) → CHI n u a b lc lt yr uy am pu fp sp fam →
      ∃ pu' kind' start' stop' value' code' errS' next' begins' token' errorAt' fam', p8_readUnion_L89 am fp lA letters (nI n) sp bs (nI L) (nI u) fC (nI j) pu 0 (-1) (nI k) (nI s) (nI e) value = some (pu', code', errS', kind', start', stop', value') ∧
        p10_readUnion_L97 bf (nI L) fM (nI s) 0 errorAt fam (nI e) (nI k) = some (begins', code', errorAt', fam', next', token') ∧
        SIM B L e0 kind' start' stop' value' code' errS' next' begins' token' code' errorAt' ∧ (code' = 0 → CHI n u a b lc lt yr uy am pu' fp sp fam') ∧ FXH n u a b pu' fp sp := by
  have hL := H.1
  intro m
  induction m with
  | zero =>
    intro j s e k value errorAt pu fam fC fM hm hf1 hf2 P h0 h0' V hj I
    obtain ⟨f1, rfl⟩ : ∃ q, fC = q + 1 := ⟨fC - 1, by omega⟩
    obtain ⟨f2, rfl⟩ : ∃ q, fM = q + 1 := ⟨fM - 1, by omega⟩
    have hk : k = 0 := Classical.byContradiction fun q => by have := hj q; have := P.2.1; omega
    refine ⟨pu, nI k, nI s, nI e, value, 0, -1, nI e, nI s, nI k, errorAt, fam, ?_, ?_, SIM.fine P V h0 h0', fun _ => I, I.fxh⟩
    · rw [p8_readUnion_L89, p8_readUnion_L89_B, if_pos (show (800 : Int32) ≤ nI j from nI_le (a := 800) (by omega) (by omega))]
    · rw [p10_readUnion_L97, p10_readUnion_L97_B, if_pos rfl, hk, if_neg (by decide)]
  | succ m ih =>
    intro j s e k value errorAt pu fam fC fM hm hf1 hf2 P h0 h0' V hj I
    obtain ⟨f1, rfl⟩ : ∃ q, fC = q + 1 := ⟨fC - 1, by omega⟩
    obtain ⟨f2, rfl⟩ : ∃ q, fM = q + 1 := ⟨fM - 1, by omega⟩
    have hk4 : k < 4 := P.2.2.1
    rw [p8_readUnion_L89, p8_readUnion_L89_B, if_neg (show ¬ (800 : Int32) ≤ nI j from nI_ge (b := 800) (by omega) (by omega)), p10_readUnion_L97, p10_readUnion_L97_B, if_pos rfl]
    unfold p3_isFine
    rw [if_pos rfl, cond_true]
    by_cases c1 : k = 1
    case neg =>
      have c1' : ¬ nI k = 1 := fun q => c1 ((nI_eq (a := k) (b := 1) (by omega) (by omega)).mp q)
      rw [if_neg c1', if_neg c1']
      exact ⟨_, _, _, _, _, _, _, _, _, _, _, _, rfl, rfl, SIM.fine P V h0 h0', fun _ => I, I.fxh⟩
    have hje := hj (by omega)
    have hun : p10_unions fam = some (nI (u + 1)) := by
      obtain ⟨pr, g, an, W, AN, F, FM, -⟩ := I
      exact M_unions FM
    rw [if_pos (show nI k = 1 by rw [c1]; rfl), if_pos (show nI k = 1 by rw [c1]; rfl), hun]
    obtain ⟨pu1, kd1, st1, sp1, va1, co1, es1, nx1, bg1, tk1, ea1, fam1, q1, q2, S1, I1, X1⟩ := child_fine H P hC hX1 hX2 I hu value errorAt
    rw [q1]
    simp only [ob]
    rw [n1, nI_sub (by omega), show u + 1 - 1 = u by omega, ← n1, q2]
    simp only [uc6, uc7, lb_eq]
    rw [n1, nI_add]
    rcases S1.cases with ⟨s2, e2, k2, P2, rfl, rfl, rfl, rfl, rfl, rfl, rfl, -, V2, rfl, l2, l2'⟩ | ⟨s2, e2, k2, c2, P2, rfl, rfl, rfl, rfl, rfl, rfl, rfl, -, h5, hc0, rfl⟩
    · exact ih (j + 1) s2 e2 k2 va1 ea1 pu1 fam1 f1 f2 (by omega) (by omega) (by omega) P2 (by omega) (fun q => by omega) V2 (fun q => by have := l2' q; omega) (I1 rfl)
    · have hc := nIc h5 hc0
      obtain ⟨g1, rfl⟩ : ∃ q, f1 = q + 1 := ⟨f1 - 1, by omega⟩
      obtain ⟨g2, rfl⟩ : ∃ q, f2 = q + 1 := ⟨f2 - 1, by omega⟩
      refine ⟨pu1, nI k2, nI s2, nI e2, va1, nI c2, ea1, nI e2, nI s2, nI k2, ea1, fam1, ?_, ?_, SIM.err P2 h5 hc0, fun q => absurd q hc, X1⟩
      · rw [p8_readUnion_L89, p8_readUnion_L89_B]
        unfold p3_isFine
        rw [if_neg hc]
        split <;> rfl
      · rw [p10_readUnion_L97, p10_readUnion_L97_B, if_neg hc]
end RCHI
