/-! one act: class and the law's own family go on alike -/
abbrev ATT : Type := (Nat → Int32) × (Nat → Int32) × (Nat → Int32) × (Nat → Int32) × (Nat → Int32) × (Nat → Int32) × Int32 × (Nat → Int32) × Int32 × (Nat → Int32) × (Nat → Int32) × Int32 × Int32 × (Nat → Int32) × (Nat → Int32) × (Nat → Nat) × Nat × Nat × (Nat → Nat → Int32) × (Nat → Int32) × Int32 × (Nat → Nat → Int32) × Int32 × (Nat → Int32) × (Nat → Int32) × (Nat → Int32) × (Nat → Int32) × (Nat → Int32) × (Nat → Int32)
/-- the state t stands in the class and in the law's own family; hs are the states before it; t0 is kept as a snapshot -/
def STQ (n : Nat) (t0 t : STT) (h : Nat) (hs : Nat → STT) (am fp ge lv pu rf : Nat → Int32) (rc : Int32) (sp : Nat → Int32) (uc : Int32) (uY hc : Nat → Int32) (held next : Int32) (ge2 lv2 : Nat → Int32) (ln : Nat → Nat) (no nu : Nat) (od2 : Nat → Nat → Int32) (pn : Nat → Int32) (rw2 : Int32) (un : Nat → Nat → Int32) (un2 : Int32) (fb ks od po rs sb : Nat → Int32) : Prop :=
  uc = nI t.1 ∧ un2 = nI t.1 ∧ rc = nI (rowsN t.2.2.2.2.1 n) ∧ rw2 = nI (rowsN t.2.2.2.2.1 n) ∧
  US n t.1 t.2.1 t.2.2.1 t.2.2.2.1 t.2.2.2.2.1 t.2.2.2.2.2.1 t.2.2.2.2.2.2.2.1 t.2.2.2.2.2.2.2.2 ∧
  UX n t.1 t.2.1 t.2.2.1 t.2.2.2.1 t.2.2.2.2.1 t.2.2.2.2.2.1 t.2.2.2.2.2.2.1 t.2.2.2.2.2.2.2.1 t.2.2.2.2.2.2.2.2 pu fp sp uY ge am lv rf od rs po fb sb ∧
  HISt n hc next held h hs ∧ SAVt n hc 810 t0 ∧
  OF n t.1 t.2.1 t.2.2.1 t.2.2.2.1 pn un nu ∧ OG n t.1 t.2.2.1 t.2.2.2.1 t.2.2.2.2.1 ge2 lv2 ∧ OO n t.1 t.2.2.1 t.2.2.2.1 t.2.2.2.2.1 t.2.2.2.2.2.2.2.2 ln od2 no
def STP (n : Nat) (t0 t : STT) (h : Nat) (hs : Nat → STT) (Z : ATT) : Prop :=
  STQ n t0 t h hs Z.1 Z.2.1 Z.2.2.1 Z.2.2.2.1 Z.2.2.2.2.1 Z.2.2.2.2.2.1 Z.2.2.2.2.2.2.1 Z.2.2.2.2.2.2.2.1 Z.2.2.2.2.2.2.2.2.1 Z.2.2.2.2.2.2.2.2.2.1 Z.2.2.2.2.2.2.2.2.2.2.1 Z.2.2.2.2.2.2.2.2.2.2.2.1 Z.2.2.2.2.2.2.2.2.2.2.2.2.1 Z.2.2.2.2.2.2.2.2.2.2.2.2.2.1 Z.2.2.2.2.2.2.2.2.2.2.2.2.2.2.1 Z.2.2.2.2.2.2.2.2.2.2.2.2.2.2.2.1 Z.2.2.2.2.2.2.2.2.2.2.2.2.2.2.2.2.1 Z.2.2.2.2.2.2.2.2.2.2.2.2.2.2.2.2.2.1 Z.2.2.2.2.2.2.2.2.2.2.2.2.2.2.2.2.2.2.1 Z.2.2.2.2.2.2.2.2.2.2.2.2.2.2.2.2.2.2.2.1 Z.2.2.2.2.2.2.2.2.2.2.2.2.2.2.2.2.2.2.2.2.1 Z.2.2.2.2.2.2.2.2.2.2.2.2.2.2.2.2.2.2.2.2.2.1 Z.2.2.2.2.2.2.2.2.2.2.2.2.2.2.2.2.2.2.2.2.2.2.1 Z.2.2.2.2.2.2.2.2.2.2.2.2.2.2.2.2.2.2.2.2.2.2.2.1 Z.2.2.2.2.2.2.2.2.2.2.2.2.2.2.2.2.2.2.2.2.2.2.2.2.1 Z.2.2.2.2.2.2.2.2.2.2.2.2.2.2.2.2.2.2.2.2.2.2.2.2.2.1 Z.2.2.2.2.2.2.2.2.2.2.2.2.2.2.2.2.2.2.2.2.2.2.2.2.2.2.1 Z.2.2.2.2.2.2.2.2.2.2.2.2.2.2.2.2.2.2.2.2.2.2.2.2.2.2.2.1 Z.2.2.2.2.2.2.2.2.2.2.2.2.2.2.2.2.2.2.2.2.2.2.2.2.2.2.2.2
/-- accepted, or refused with nothing changed -/
def ACR (t : STT) (h : Nat) (hs : Nat → STT) (c : Nat) (t' : STT) (h' : Nat) (hs' : Nat → STT) : Prop := (c = 1 ∧ h' = min (h + 1) 10 ∧ hs' = psh t hs) ∨ (c = 0 ∧ t' = t ∧ h' = h ∧ hs' = hs)
theorem c1' : (1 : Int32).toNatClampNeg = 1 := nI_clamp (n := 1) (by omega)
theorem c2 : (2 : Int32).toNatClampNeg = 2 := nI_clamp (n := 2) (by omega)
theorem ge_in2 {α : Type} {i : Nat} {k : Option α} (h : i < 2147483648) : ge (nI i) i k = k := by
  unfold ge
  rw [nI_clamp h, if_pos rfl]
section YACT
variable {n u : Nat} {pr a b g : Nat → Nat} {an : Nat → Nat → Bool} {uy : Nat → Int32} {pl : Nat → Nat} {bx : Nat → Nat → Nat} {pu fp sp uY am lv rf od rs po fb sb ks hc gc ge2 lv2 pn : Nat → Int32} {next held : Int32} {un od2 : Nat → Nat → Int32} {nu no : Nat} {ln : Nat → Nat} {h : Nat} {hs : Nat → STT} {t0 : STT}
theorem O_known (W : WF n u pr a b g) (F : OF n u pr a b pn un nu) {p q : Nat} (hp : p < n) (hq : q < n) (hpq : p ≠ q) : pL_known (nI u) un nu (nI p) (nI q) = some (decide (upair a b p q u 0 < 12)) := by
  have hu := W.u12
  have hn := W.n16
  have key : ∀ d i k, u - i = d → i ≤ u → d < k → pL_known_L2 nu un (nI u) (nI p) (nI q) k (nI i) = some (if upair a b p q d i < 12 then .inl true else .inr ()) := by
    intro d
    induction d with
    | zero =>
      intro i k h1 h2 h3
      obtain ⟨k, rfl⟩ : ∃ k', k = k' + 1 := ⟨k - 1, by omega⟩
      rw [pL_known_L2, pL_known_L2_B, if_pos (nI_le (by omega) (by omega)), show upair a b p q 0 i = 12 from rfl, if_neg (by omega)]
    | succ d ih =>
      intro i k h1 h2 h3
      obtain ⟨k, rfl⟩ : ∃ k', k = k' + 1 := ⟨k - 1, by omega⟩
      have hi : i < u := by omega
      have hne : (p != q) = true := by simp [hpq]
      rw [pL_known_L2, pL_known_L2_B, if_neg (nI_ge hi (by omega)), O_in W F hi (by omega)]
      simp only [ob]
      have hup : upair a b p q (d + 1) i = if (p != q && (a i == p || b i == p) && (a i == q || b i == q)) = true then i else upair a b p q d (i + 1) := rfl
      rw [hup, hne, Bool.true_and]
      cases c1 : (a i == p || b i == p) with
      | false =>
        simp only [cond, lb, Bool.false_and, Bool.false_eq_true, if_false]
        rw [n1, nI_add, ih (i + 1) k (by omega) (by omega) (by omega)]
      | true =>
        simp only [cond]
        rw [O_in W F hi (by omega)]
        simp only [ob, Bool.true_and]
        cases c2 : (a i == q || b i == q) with
        | false =>
          simp only [cond, lb, Bool.false_eq_true, if_false]
          rw [n1, nI_add, ih (i + 1) k (by omega) (by omega) (by omega)]
        | true =>
          simp only [cond, if_true]
          rw [if_pos (by omega)]
  have h := key u 0 FU (by omega) (by omega) (by show u < 1024; omega)
  unfold pL_known
  rw [n0, h]
  by_cases c : upair a b p q u 0 < 12
  · rw [if_pos c, decide_eq_true c]; rfl
  · rw [if_neg c, decide_eq_false c]; rfl
theorem O_can (W : WF n u pr a b g) (AN : ANC n pr a b an) (F : OF n u pr a b pn un nu) {w p : Nat} (hw : w < u) (hp : p < n) : pL_can pn un nu (nI w) (nI p) = some (!(p == a w || an (a w) p || (p == b w || an (b w) p))) := by
  have hu := W.u12
  have hn := W.n16
  have hF := F
  obtain ⟨-, hnu, -⟩ := hF
  subst nu
  obtain ⟨ha, hb, -⟩ := W.par hw
  have ga := W.glt ha
  have gb := W.glt hb
  obtain ⟨m1, e1, f1⟩ := O_up W AN F 24 (a w) ha (by omega)
  obtain ⟨m2, e2, f2⟩ := O_up W AN F 24 (b w) hb (by omega)
  unfold pL_can
  rw [O_in W F hw (by omega)]
  simp only [ob]
  have hab : ∀ x : Nat, (x == p) = (p == x) := fun x => by
    by_cases e : x = p
    · subst e; rfl
    · rw [beq_eq_false_iff_ne.mpr e, beq_eq_false_iff_ne.mpr (Ne.symm e)]
  rw [hab, hab]
  cases c1 : p == a w with
  | true => simp
  | false =>
    cases c3 : p == b w with
    | true => simp
    | false =>
      simp only [Bool.or_false, Bool.false_or, cond]
      rw [gd_in (by omega) (by omega), gd_in hw (by omega), g03, nI_clamp (by omega), c0, (F.2.2 w hw).1, e1]
      simp only [ob]
      rw [gd_in (by omega) (by omega), gd_in hw (by omega), g13, c1', (F.2.2 w hw).2, e2]
      simp only [ob]
      by_cases c : bt (m1 ||| m2) p = true
      · have hbt : (an (a w) p || an (b w) p) = true := by rw [← f1, ← f2, ← bt_or]; exact c
        rw [if_neg (fun z => by rw [(bt_shr (by omega)).mp z] at c; cases c), hbt]
        rfl
      · have hbf : bt (m1 ||| m2) p = false := by simpa using c
        have hbt : (an (a w) p || an (b w) p) = false := by rw [← f1, ← f2, ← bt_or]; exact hbf
        rw [if_pos ((bt_shr (by omega)).mpr hbf), hbt]
        rfl
end YACT
