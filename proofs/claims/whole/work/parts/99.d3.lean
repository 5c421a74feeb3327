/-! queries: codes and what they mean -/
def SIMQ (B : Nat → Nat) (L lo : Nat) (kind start stop value code errS next begins token error errorAt : Int32) : Prop :=
  ∃ s e k c, PT B L s e k ∧ kind = nI k ∧ start = nI s ∧ stop = nI e ∧ next = nI e ∧ begins = nI s ∧ token = nI k ∧ code = nI c ∧ error = nI c ∧ c ≤ 5 ∧
    (c = 0 → VAL B s e k value ∧ errS = -1 ∧ lo ≤ s) ∧ (c ≠ 0 → errorAt = errS)
section SIMQU
variable {B : Nat → Nat} {L lo : Nat} {bs bf : Nat → Int32} {s e k c : Nat} {kind start stop value code errS next begins token error errorAt : Int32}
theorem SIMQ.mono {lo' : Nat} (h : SIMQ B L lo kind start stop value code errS next begins token error errorAt) (hl : lo' ≤ lo) : SIMQ B L lo' kind start stop value code errS next begins token error errorAt := by
  obtain ⟨s, e, k, c, h1, h2, h3, h4, h5, h6, h7, h8, h9, h10, h11, h12⟩ := h
  exact ⟨s, e, k, c, h1, h2, h3, h4, h5, h6, h7, h8, h9, h10, fun q => ⟨(h11 q).1, (h11 q).2.1, by have := (h11 q).2.2; omega⟩, h12⟩
theorem SIMQ.fine (P : PT B L s e k) {v : Int32} (V : VAL B s e k v) (h1 : lo ≤ s) : SIMQ B L lo (nI k) (nI s) (nI e) v 0 (-1) (nI e) (nI s) (nI k) 0 errorAt :=
  ⟨s, e, k, 0, P, rfl, rfl, rfl, rfl, rfl, rfl, rfl, rfl, Nat.zero_le _, fun _ => ⟨V, rfl, h1⟩, fun q => absurd rfl q⟩
theorem SIMQ.err (P : PT B L s e k) {v : Int32} (hc : c ≤ 5) (h0 : c ≠ 0) : SIMQ B L lo (nI k) (nI s) (nI e) v (nI c) errS (nI e) (nI s) (nI k) (nI c) errS :=
  ⟨s, e, k, c, P, rfl, rfl, rfl, rfl, rfl, rfl, rfl, rfl, hc, fun q => absurd q h0, fun _ => rfl⟩
theorem SIMQ.cases (h : SIMQ B L lo kind start stop value code errS next begins token error errorAt) :
    (∃ s e k, PT B L s e k ∧ kind = nI k ∧ start = nI s ∧ stop = nI e ∧ next = nI e ∧ begins = nI s ∧ token = nI k ∧ code = 0 ∧ error = 0 ∧ VAL B s e k value ∧ errS = -1 ∧ lo ≤ s) ∨
    (∃ s e k c, PT B L s e k ∧ kind = nI k ∧ start = nI s ∧ stop = nI e ∧ next = nI e ∧ begins = nI s ∧ token = nI k ∧ code = nI c ∧ error = nI c ∧ c ≤ 5 ∧ c ≠ 0 ∧ errorAt = errS) := by
  obtain ⟨s, e, k, c, h1, h2, h3, h4, h5, h6, h7, h8, h9, h10, h11, h12⟩ := h
  by_cases q : c = 0
  · subst q
    exact Or.inl ⟨s, e, k, h1, h2, h3, h4, h5, h6, h7, h8, h9, h11 rfl⟩
  · exact Or.inr ⟨s, e, k, c, h1, h2, h3, h4, h5, h6, h7, h8, h9, h10, q, h12 q⟩
theorem adv_fine2 (H : BUF B L bs bf) (P : PT B L s e k) (kind start value begins token : Int32) :
    ∃ s' e' k' v, p3_advance (nI L) kind start (nI e) value 0 bs = some (nI k', nI s', nI e', v) ∧ p10_advance (nI L) (nI e) begins token 0 bf = some (nI s', nI e', nI k') ∧ PT B L s' e' k' ∧ VAL B s' e' k' v ∧ e ≤ s' := by
  have he : e ≤ L := P.2.1
  obtain ⟨v, e1, V⟩ := X3_advance H he kind start value
  obtain ⟨P', -⟩ := tok_PT (B := B) he
  refine ⟨_, _, _, v, e1, ?_, P', V, (tS_le (B := B) he).1⟩
  unfold p10_advance
  rw [if_pos rfl, M_scan H he]
  rfl
end SIMQU
/-- the codes from c to c' push what the mask says -/
def EXPR (n : Nat) (fam : Nat → Int64) (ge : Nat → Int32) (c c' : Nat) (cd : Nat → Int32) (r : Int32) : Prop :=
  c < c' ∧ (∀ q, n ≤ q → bt r q = false) ∧ ∀ p, p < n → ∀ (cf : Nat → Int32) (cN : Nat), (∀ i, c ≤ i → i < c' → cf i = cd i) → c' ≤ cN → cN ≤ 200 → ∀ (h : Nat) (st : Nat → Int64) (t : Nat), h ≤ c →
    ∃ st' : Nat → Int64, p10_holdsFor_L4 (nI cN) cf fam ge (nI p) (t + (c' - c)) (nI h) (nI c) st = p10_holdsFor_L4 (nI cN) cf fam ge (nI p) t (nI (h + 1)) (nI c') st' ∧ st' h = (if bt r p then 1 else 0) ∧ ∀ i, i < h → st' i = st i
section QCODE
variable {B : Nat → Nat} {L : Nat} {bs bf : Nat → Int32} {n u : Nat} {pr a b g : Nat → Nat} {an : Nat → Nat → Bool} {yr : Nat → Int32} {lc : Nat → Nat} {lt : Nat → Nat → Nat} {ge q p1 cd cf : Nat → Int32} {fam st : Nat → Int64} {s e k c p i h t cN : Nat} {kind start stop value code errS errorAt x : Int32} {vals lv rv : Nat → Int32}
theorem EXPR.congr {c' : Nat} {cd' : Nat → Int32} {r : Int32} (E : EXPR n fam ge c c' cd r) (hcd : ∀ i, c ≤ i → i < c' → cd' i = cd i) : EXPR n fam ge c c' cd' r :=
  ⟨E.1, E.2.1, fun p hp cf cN hcf h1 h2 h st t hh => E.2.2 p hp cf cN (fun i i1 i2 => by rw [hcf i i1 i2, hcd i i1 i2]) h1 h2 h st t hh⟩
theorem ev_val (W : WF n u pr a b g) (AN : ANC n pr a b an) (F : MX n u pr a b fam) (hg : ∀ p, p < n → ge p = nI (g p)) (PMf : PM n lc lt yr fam) (hx : VALC n u pr a b g an yr x vals) (hp : p < n) (hi : i < cN) (hN : cN ≤ 200) (hc : cf i = x) (hh : h < 200) :
    p10_holdsFor_L4 (nI cN) cf fam ge (nI p) (t + 1) (nI h) (nI i) st = p10_holdsFor_L4 (nI cN) cf fam ge (nI p) t (nI (h + 1)) (nI (i + 1)) (vp_updL st h (vals p).toInt64) := by
  rw [p10_holdsFor_L4, p10_holdsFor_L4_B, if_neg (nI_ge hi (by omega)), gd_in (by omega) (by omega), nI_clamp (by omega), hc]
  simp only [lb_eq]
  rcases hx with ⟨m, hm, rfl, hv⟩ | ⟨w, hw, rfl, hv⟩
  · have k1 : ¬ nI m = -23 := fun z => by
      have h1 := nI_toInt (n := m) (by omega)
      rw [z] at h1
      have h2 : (-23 : Int32).toInt = -23 := by decide
      omega
    have k2 : ¬ nI m ≤ -20 := fun z => by
      rw [Int32.le_iff_toInt_le, nI_toInt (by omega)] at z
      have h2 : (-20 : Int32).toInt = -20 := by decide
      omega
    rw [if_neg k1, if_neg k2, if_neg (show ¬ nI m < 0 from nI_pos (by omega)), gd_in hh (by omega), nI_clamp (by omega), hv p hp, n1, nI_add, nI_add]
  · have k : ∀ w, w < 7 → ¬ (-1 - nI w : Int32) = -23 ∧ ¬ (-1 - nI w : Int32) ≤ -20 ∧ (-1 - nI w : Int32) < 0 ∧ (-1 - (-1 - nI w) : Int32) = nI w := by decide +kernel
    obtain ⟨k1, k2, k3, k4⟩ := k w hw
    rw [if_neg k1, if_neg k2, if_pos k3, k4, M_property W AN F hg PMf hw hp]
    simp only [ob]
    rw [gd_in hh (by omega), nI_clamp (by omega), hv p hp, n1, nI_add, nI_add]
theorem ev_not (hi : i < cN) (hN : cN ≤ 200) (hc : cf i = -23) (hh : h < 200) :
    p10_holdsFor_L4 (nI cN) cf fam ge (nI p) (t + 1) (nI (h + 1)) (nI i) st = p10_holdsFor_L4 (nI cN) cf fam ge (nI p) t (nI (h + 1)) (nI (i + 1)) (vp_updL st h (1 - st h)) := by
  rw [p10_holdsFor_L4, p10_holdsFor_L4_B, if_neg (nI_ge hi (by omega)), gd_in (by omega) (by omega), nI_clamp (by omega), hc]
  simp only [lb_eq]
  rw [if_pos trivial, n1, nI_sub (by omega), show h + 1 - 1 = h by omega, gd_in hh (by omega), gd_in hh (by omega), nI_clamp (by omega), nI_add]
theorem ev_op (hi : i < cN) (hN : cN ≤ 200) (hc : cf i = x) (h1 : ¬ x = -23) (h2 : x ≤ -20) (hh : h + 1 < 200) :
    p10_holdsFor_L4 (nI cN) cf fam ge (nI p) (t + 1) (nI (h + 2)) (nI i) st = p10_holdsFor_L4 (nI cN) cf fam ge (nI p) t (nI (h + 1)) (nI (i + 1)) (vp_updL st h (p10_operate x (st h) (st (h + 1)))) := by
  rw [p10_holdsFor_L4, p10_holdsFor_L4_B, if_neg (nI_ge hi (by omega)), gd_in (by omega) (by omega), nI_clamp (by omega), hc]
  simp only [lb_eq]
  have hm : nI (h + 2) + -1 = nI (h + 1) := by
    rw [show (-1 : Int32) = -nI 1 from rfl, ← Int32.sub_eq_add_neg, nI_sub (by omega)]
    rfl
  rw [if_neg h1, if_pos h2, hm, n1, nI_sub (by omega), show h + 1 - 1 = h by omega, gd_in (by omega) (by omega), gd_in (by omega) (by omega), gd_in (by omega) (by omega), nI_clamp (by omega), nI_clamp (by omega), nI_add]
theorem toL_le {x y : Int32} : x.toInt64 ≤ y.toInt64 ↔ x ≤ y := by
  rw [Int64.le_iff_toInt_le, Int32.toInt_toInt64, Int32.toInt_toInt64, Int32.le_iff_toInt_le]
theorem toL_eq {x y : Int32} : x.toInt64 = y.toInt64 ↔ x = y := by
  constructor
  · intro h
    have h1 := congrArg Int64.toInt32 h
    rw [Int32.toInt32_toInt64, Int32.toInt32_toInt64] at h1
    exact h1
  · intro h; rw [h]
/-- the three comparisons: what the class calls them, what the reference does -/
def CMP (v x : Int32) : Prop := (v = 60 ∧ x = -20) ∨ (v = 61 ∧ x = -21) ∨ (v = 62 ∧ x = -22)
theorem CMP.op {v : Int32} (C : CMP v x) (l r : Int32) : p10_operate x l.toInt64 r.toInt64 = (if p5_holds l v r then 1 else 0) := by
  unfold p10_operate p5_holds
  rcases C with ⟨rfl, rfl⟩ | ⟨rfl, rfl⟩ | ⟨rfl, rfl⟩
  · rw [if_neg (show ¬ (-20 : Int32) = -24 by decide), if_neg (show ¬ (-20 : Int32) = -23 by decide), if_neg (show ¬ (-20 : Int32) = -22 by decide), if_neg (show ¬ (-20 : Int32) = -21 by decide), if_pos (rfl : (-20 : Int32) = -20), if_pos (rfl : (60 : Int32) = 60)]
    by_cases q : r ≤ l
    · rw [if_pos (toL_le.mpr q), if_pos q, if_neg (show ¬ (false = true) by decide)]
    · rw [if_neg (fun z => q (toL_le.mp z)), if_neg q, if_pos rfl]
  · rw [if_neg (show ¬ (-21 : Int32) = -24 by decide), if_neg (show ¬ (-21 : Int32) = -23 by decide), if_neg (show ¬ (-21 : Int32) = -22 by decide), if_pos (rfl : (-21 : Int32) = -21), if_neg (show ¬ (61 : Int32) = 60 by decide), if_neg (show ¬ (61 : Int32) = 62 by decide)]
    by_cases q : l = r
    · rw [if_pos (toL_eq.mpr q), if_pos q, if_pos rfl]
    · rw [if_neg (fun z => q (toL_eq.mp z)), if_neg q, if_neg (show ¬ (false = true) by decide)]
  · rw [if_neg (show ¬ (-22 : Int32) = -24 by decide), if_neg (show ¬ (-22 : Int32) = -23 by decide), if_pos (rfl : (-22 : Int32) = -22), if_neg (show ¬ (62 : Int32) = 60 by decide), if_pos (rfl : (62 : Int32) = 62)]
    by_cases q : l ≤ r
    · rw [if_pos (toL_le.mpr q), if_pos q, if_neg (show ¬ (false = true) by decide)]
    · rw [if_neg (fun z => q (toL_le.mp z)), if_neg q, if_pos rfl]
theorem CMP.ne {v : Int32} (C : CMP v x) : ¬ x = -23 ∧ x ≤ -20 := by
  rcases C with ⟨rfl, rfl⟩ | ⟨rfl, rfl⟩ | ⟨rfl, rfl⟩ <;> decide
theorem X5_mask (hn : n ≤ 16) (v : Int32) : ∃ m, p5_readComparison_L91 (nI n) lv rv v FU 0 0 = some m ∧ ∀ q, bt m q = (decide (q < n) && p5_holds (lv q) v (rv q)) := by
  obtain ⟨z, e1, h1⟩ := loop_all (fun t i (z : Int32) => p5_readComparison_L91 (nI n) lv rv v t z (nI i)) n
    (fun i z => ∀ q, bt z q = (decide (q < i) && p5_holds (lv q) v (rv q))) (fun z => ∀ q, bt z q = (decide (q < n) && p5_holds (lv q) v (rv q))) (by
      intro t z hz
      refine ⟨z, ?_, hz⟩
      try dsimp only
      rw [p5_readComparison_L91, p5_readComparison_L91_B, if_pos (nI_le (Nat.le_refl _) (by omega))]) (by
      intro t i z hi hz
      have hd : ∀ q, q ≠ i → decide (q < i + 1) = decide (q < i) := fun q hq => by
        by_cases z : q < i
        · rw [decide_eq_true z, decide_eq_true (by omega)]
        · rw [decide_eq_false z, decide_eq_false (by omega)]
      cases hh : p5_holds (lv i) v (rv i) with
      | true =>
        refine ⟨z ||| p9_bit (nI i), ?_, fun q => ?_⟩
        · try dsimp only
          rw [p5_readComparison_L91, p5_readComparison_L91_B, if_neg (nI_ge hi (by omega)), at_in (by omega) (by omega), at_in (by omega) (by omega), hh, cond_true]
          simp only [lb_eq]
          rw [n1, nI_add]
        · rw [bt_or, hz q, bt_bit (by omega)]
          by_cases eq : q = i
          · rw [eq, hh, decide_eq_true rfl, decide_eq_true (show i < i + 1 by omega), Bool.or_true]; rfl
          · rw [decide_eq_false eq, Bool.or_false, hd q eq]
      | false =>
        refine ⟨z, ?_, fun q => ?_⟩
        · try dsimp only
          rw [p5_readComparison_L91, p5_readComparison_L91_B, if_neg (nI_ge hi (by omega)), at_in (by omega) (by omega), at_in (by omega) (by omega), hh, cond_false]
          simp only [lb_eq]
          rw [n1, nI_add]
        · rw [hz q]
          by_cases eq : q = i
          · rw [eq, hh, Bool.and_false, Bool.and_false]
          · rw [hd q eq]) FU 0 0 (Nat.zero_le _) (by show n - 0 < 1024; omega) (fun q => by rw [bt_zero, decide_eq_false (by omega), Bool.false_and])
  exact ⟨z, e1, h1⟩
/-- two values and a comparison -/
theorem EXPR.cmp (W : WF n u pr a b g) (AN : ANC n pr a b an) (F : MX n u pr a b fam) (hg : ∀ p, p < n → ge p = nI (g p)) (PMf : PM n lc lt yr fam) {x1 x2 v : Int32} (h1 : VALC n u pr a b g an yr x1 lv) (h2 : VALC n u pr a b g an yr x2 rv) (C : CMP v x) (hc1 : cd c = x1) (hc2 : cd (c + 1) = x2) (hc3 : cd (c + 2) = x) {m : Int32} (hm : ∀ q, bt m q = (decide (q < n) && p5_holds (lv q) v (rv q))) :
    EXPR n fam ge c (c + 3) cd m := by
  refine ⟨by omega, fun q hq => by rw [hm, decide_eq_false (by omega), Bool.false_and], fun p hp cf cN hcf h3 h4 h st t hh => ?_⟩
  refine ⟨vp_updL (vp_updL (vp_updL st h (lv p).toInt64) (h + 1) (rv p).toInt64) h (p10_operate x (lv p).toInt64 (rv p).toInt64), ?_, ?_, fun i hi => ?_⟩
  · rw [show t + (c + 3 - c) = t + 1 + 1 + 1 by omega, ev_val W AN F hg PMf h1 hp (by omega) h4 (by rw [hcf c (by omega) (by omega), hc1]) (by omega), ev_val W AN F hg PMf h2 hp (by omega) h4 (by rw [hcf (c + 1) (by omega) (by omega), hc2]) (by omega), show nI (h + 1 + 1) = nI (h + 2) from rfl, show nI (c + 1 + 1) = nI (c + 2) from rfl, ev_op (by omega) h4 (by rw [hcf (c + 2) (by omega) (by omega), hc3]) C.ne.1 C.ne.2 (by omega), updL_eq, updL_ne (by omega), updL_eq]
  · rw [updL_eq, C.op, hm, decide_eq_true hp, Bool.true_and]
  · rw [updL_ne (by omega), updL_ne (by omega), updL_ne (by omega)]
end QCODE
