/-! collapse, nearest common ancestor -/
def msI (f : Nat → Int32) : Nat → Int32
  | 0 => 0
  | n + 1 => msI f n + f n
theorem msI_ext0 {f : Nat → Int32} {n m : Nat} (hm : n ≤ m) (h : ∀ i, n ≤ i → i < m → f i = 0) : msI f m = msI f n := by
  induction m with
  | zero => rw [Nat.le_zero.mp hm]
  | succ m ih =>
    by_cases e : n = m + 1
    · rw [e]
    · show msI f m + f m = msI f n
      rw [ih (by omega) (fun i h1 h2 => h i h1 (by omega)), h m (by omega) (by omega), Int32.add_zero]
def mis (x : Int32) : Int32 := if x ≤ 0 then 0 else x - 1
def mss (pr a b : Nat → Nat) (n d p : Nat) : Int32 := msI (fun i => mis (nI (pth pr a b d p i))) n
def nca (g : Nat → Nat) (T : Nat → Bool) : Nat → Nat
  | 0 => 16
  | i + 1 => if T i then (if nca g T i = 16 then i else if g i ≤ g (nca g T i) then nca g T i else i) else nca g T i
theorem nca_lt (g : Nat → Nat) (T : Nat → Bool) : ∀ i, nca g T i < i ∨ nca g T i = 16 := by
  intro i
  induction i with
  | zero => exact Or.inr rfl
  | succ i ih =>
    unfold nca
    split
    · split
      · exact Or.inl (by omega)
      · split
        · omega
        · exact Or.inl (by omega)
    · omega
section COLL
variable {n u : Nat} {pr a b g : Nat → Nat} {an : Nat → Nat → Bool} {fam : Nat → Int64} {pu fp sp ge am lv rf : Nat → Int32}
theorem pth_lt (W : WF n u pr a b g) : ∀ d p x, p < n → pth pr a b d p x ≠ 0 → x < n := by
  intro d
  induction d with
  | zero =>
    intro p x hp h
    by_cases e : p = x
    · omega
    · exact absurd (if_neg e) h
  | succ d ih =>
    intro p x hp h
    by_cases c : pr p < 12
    · have U := W.up hp c
      have e : pth pr a b (d + 1) p x = pth pr a b d (a (pr p)) x + pth pr a b d (b (pr p)) x := if_pos c
      rw [e] at h
      by_cases h1 : pth pr a b d (a (pr p)) x = 0
      · exact ih (b (pr p)) x U.2.1 (by omega)
      · exact ih (a (pr p)) x U.1 h1
    · exact absurd (if_neg c) h
theorem X6_collapse (W : WF n u pr a b g) (F : FX n u pr a b pu fp sp) {p v : Nat} (hp : p < n) (hv : v ≤ 15) {wy nx : Nat → Int32} :
    ∃ nx' wy', p6_countMissing (nI n) nx wy fp pu sp (nI p) (nI v) = some (mss pr a b n v p, nx', wy') := by
  have hn := W.n16
  obtain ⟨f, e0, h0⟩ := X6_begin (pr := pr) (a := a) (b := b) (p := p) (wy := wy) (by omega)
  obtain ⟨z, e1, h1⟩ := loop_all (fun t i (z : (Nat → Int32) × (Nat → Int32)) => p6_countMissing_L19 fp pu (nI n) sp (nI v) t (nI i) z.1 z.2) v
    (fun i z => WY pr a b p i z.2) (fun z => WY pr a b p v z.2) (by
      intro t z hz
      refine ⟨(z.1, z.2), ?_, hz⟩
      try dsimp only
      rw [p6_countMissing_L19, p6_countMissing_L19_B, if_pos (nI_le (Nat.le_refl _) (by omega))]) (by
      intro t i z hi hz
      obtain ⟨nx', wy', e2, h2⟩ := X6_step (nx := z.1) W F hp hz
      refine ⟨(nx', wy'), ?_, h2⟩
      try dsimp only
      rw [p6_countMissing_L19, p6_countMissing_L19_B, if_neg (nI_ge hi (by omega)), e2]
      simp only [ob, uc2, lb]
      rw [n1, nI_add]) FU 0 (nx, pPut 16 f (nI p) 1) (Nat.zero_le _) (by show v - 0 < 1024; omega) h0
  obtain ⟨r, e3, h3⟩ := loop_all (fun t i (s : Int32) => p6_countMissing_L39 z.2 (nI n) t s (nI i)) n
    (fun i s => s = msI (fun i => mis (nI (pth pr a b v p i))) i) (fun s => s = mss pr a b n v p) (by
      intro t s hs
      refine ⟨s, ?_, hs⟩
      try dsimp only
      rw [p6_countMissing_L39, p6_countMissing_L39_B, if_pos (nI_le (Nat.le_refl _) (by omega))]) (by
      intro t i s hi hs
      refine ⟨s + mis (nI (pth pr a b v p i)), ?_, by rw [hs]; rfl⟩
      try dsimp only
      rw [p6_countMissing_L39, p6_countMissing_L39_B, if_neg (nI_ge hi (by omega)), at_in (by omega) (by omega), h1 i (by omega)]
      simp only [lb]
      unfold mis
      split
      · rw [n1, nI_add]
      · rw [n1, nI_add]) FU 0 0 (Nat.zero_le _) (by show n - 0 < 1024; omega) rfl
  have e1' : p6_countMissing_L19 fp pu (nI n) sp (nI v) FU (nI 0) nx (pPut 16 f (nI p) 1) = some z := e1
  have e3' : p6_countMissing_L39 z.2 (nI n) FU (nI 0) (nI 0) = some r := e3
  refine ⟨z.1, z.2, ?_⟩
  unfold p6_countMissing
  rw [e0]
  simp only [ob, lb]
  rw [n0, e1']
  simp only [uc2, p6_countMissing_J34]
  rw [n0, e3']
  simp only [ob, p6_countMissing_J84]
  rw [h3]
theorem M_collapseS (W : WF n u pr a b g) (F : MX n u pr a b fam) {p v : Nat} (hp : p < n) (hv : v ≤ 15) {wy nx : Nat → Int32} :
    ∃ nx' wy', p10_collapse_J33 fam nx wy (nI p) (nI v) 0 = some (mss pr a b n v p, nx', 0, wy') := by
  have hn := W.n16
  obtain ⟨w0, e0, h0⟩ := M_begin (pr := pr) (a := a) (b := b) (p := p) (wy := wy) (by omega)
  obtain ⟨z, e1, h1⟩ := loop_all (fun t i (z : (Nat → Int32) × (Nat → Int32)) => p10_collapse_L49 fam (nI v) t (nI i) z.1 z.2) v
    (fun i z => WY pr a b p i z.2) (fun z => WY pr a b p v z.2) (by
      intro t z hz
      refine ⟨(z.1, z.2), ?_, hz⟩
      try dsimp only
      rw [p10_collapse_L49, p10_collapse_L49_B, if_pos (nI_le (Nat.le_refl _) (by omega))]) (by
      intro t i z hi hz
      obtain ⟨nx', wy', e2, h2⟩ := M_stepUp (nx := z.1) W F hp hz
      refine ⟨(nx', wy'), ?_, h2⟩
      try dsimp only
      rw [p10_collapse_L49, p10_collapse_L49_B, if_neg (nI_ge hi (by omega)), e2]
      simp only [ob, uc2, lb]
      rw [n1, nI_add]) FU 0 (nx, w0) (Nat.zero_le _) (by show v - 0 < 1024; omega) h0
  obtain ⟨r, e3, h3⟩ := loop_all (fun t i (s : Int32) => p10_collapse_L69 z.2 t s (nI i)) 16
    (fun i s => s = msI (fun i => mis (nI (pth pr a b v p i))) i) (fun s => s = mss pr a b 16 v p) (by
      intro t s hs
      refine ⟨s, ?_, hs⟩
      try dsimp only
      rw [p10_collapse_L69, p10_collapse_L69_B, n16, if_pos (nI_le (Nat.le_refl _) (by omega))]) (by
      intro t i s hi hs
      refine ⟨s + mis (nI (pth pr a b v p i)), ?_, by rw [hs]; rfl⟩
      try dsimp only
      rw [p10_collapse_L69, p10_collapse_L69_B, n16, if_neg (nI_ge hi (by omega)), gd_in (by omega) (by omega), gd_in (by omega) (by omega), nI_clamp (by omega), h1 i (by omega)]
      simp only [lb]
      unfold mis
      split
      · rw [n1, nI_add]
      · rw [n1, nI_add]) FU 0 0 (Nat.zero_le _) (by decide) rfl
  have e1' : p10_collapse_L49 fam (nI v) FU (nI 0) nx w0 = some z := e1
  have e3' : p10_collapse_L69 z.2 FU (nI 0) (nI 0) = some r := e3
  have h16 : mss pr a b 16 v p = mss pr a b n v p := msI_ext0 hn fun i h1 _ => by
    have : pth pr a b v p i = 0 := Classical.byContradiction fun h => by have := pth_lt W v p i hp h; omega
    rw [this]
    rfl
  refine ⟨z.1, z.2, ?_⟩
  unfold p10_collapse_J33
  rw [if_pos rfl, e0]
  simp only [ob]
  rw [n0, e1']
  simp only [uc2, p10_collapse_J64]
  rw [n0, e3']
  simp only [ob, p10_collapse_J108]
  rw [h3, h16]
theorem X6_nearest (hg : ∀ p, p < n → ge p = nI (g p)) (hn : n ≤ 16) (hgn : ∀ p, p < n → g p < n) {T : Int32} :
    p6_nearestCommon_L24 ge (nI n) T FU (-1) (nI 0) = some (rN (nca g (bt T) n)) := by
  obtain ⟨r, e1, h1⟩ := loop_all (fun t i (_ : Unit) => p6_nearestCommon_L24 ge (nI n) T t (rN (nca g (bt T) i)) (nI i)) n (fun _ _ => True) (fun r => r = rN (nca g (bt T) n)) (by
    intro t s _
    refine ⟨rN (nca g (bt T) n), ?_, rfl⟩
    try dsimp only
    rw [p6_nearestCommon_L24, p6_nearestCommon_L24_B, if_pos (nI_le (Nat.le_refl _) (by omega))]) (by
    intro t i s hi _
    refine ⟨(), ?_, trivial⟩
    try dsimp only
    have hb := bt_one (x := T) (fun q => bt_bit (p := i) (q := q) (by omega)) (show i < 32 by omega)
    have hl := nca_lt g (bt T) i
    rw [p6_nearestCommon_L24, p6_nearestCommon_L24_B, if_neg (nI_ge hi (by omega))]
    unfold p6_nearestCommon_J53
    rw [show nca g (bt T) (i + 1) = if bt T i then (if nca g (bt T) i = 16 then i else if g i ≤ g (nca g (bt T) i) then nca g (bt T) i else i) else nca g (bt T) i from rfl]
    by_cases c : bt T i = true
    · rw [if_neg (fun q => by rw [hb.mp q] at c; cases c), if_pos c, cond_true]
      by_cases c2 : nca g (bt T) i = 16
      · rw [if_pos c2, c2, if_pos (by rfl)]
        simp only [lb]
        rw [n1, nI_add, rN_in (by omega)]
      · have hk : nca g (bt T) i < i := by omega
        have hg1 := hgn i hi
        have hg2 := hgn (nca g (bt T) i) (by omega)
        rw [if_neg c2, if_neg (fun q => absurd (rN_m1.mp q) (by omega)), rN_in (show nca g (bt T) i < 16 by omega), at_in (by omega) (by omega), at_in (by omega) (by omega), hg i hi, hg _ (by omega)]
        simp only [lb]
        by_cases c3 : g i ≤ g (nca g (bt T) i)
        · rw [if_pos c3, if_pos (nI_le c3 (by omega)), n1, nI_add, rN_in (by omega)]
        · rw [if_neg c3, if_neg (nI_ge (by omega) (by omega)), n1, nI_add, rN_in (by omega)]
    · rw [if_neg c]
      rw [Bool.not_eq_true] at c
      rw [if_pos (hb.mpr c), cond_false]
      simp only [lb]
      rw [n1, nI_add]) FU 0 () (Nat.zero_le _) (by show n - 0 < 1024; omega) trivial
  rw [← h1]
  exact e1
theorem M_nearest (F : MX n u pr a b fam) (hg : ∀ p, p < n → ge p = nI (g p)) (hn : n ≤ 16) (hgn : ∀ p, p < n → g p < n) {T : Int32} :
    p10_nearestAncestor_L41 fam ge T FU (-1) (nI 0) = some (rN (nca g (bt T) n)) := by
  obtain ⟨r, e1, h1⟩ := loop_all (fun t i (_ : Unit) => p10_nearestAncestor_L41 fam ge T t (rN (nca g (bt T) i)) (nI i)) n (fun _ _ => True) (fun r => r = rN (nca g (bt T) n)) (by
    intro t s _
    refine ⟨rN (nca g (bt T) n), ?_, rfl⟩
    try dsimp only
    rw [p10_nearestAncestor_L41, p10_nearestAncestor_L41_B, M_persons F]
    simp only [ob]
    rw [if_pos (nI_le (Nat.le_refl _) (by omega))]) (by
    intro t i s hi _
    refine ⟨(), ?_, trivial⟩
    try dsimp only
    have hb := bt_shr1 (x := T) (show i < 32 by omega)
    have hl := nca_lt g (bt T) i
    rw [p10_nearestAncestor_L41, p10_nearestAncestor_L41_B, M_persons F]
    simp only [ob]
    rw [if_neg (nI_ge hi (by omega))]
    rw [show nca g (bt T) (i + 1) = if bt T i then (if nca g (bt T) i = 16 then i else if g i ≤ g (nca g (bt T) i) then nca g (bt T) i else i) else nca g (bt T) i from rfl]
    by_cases c : bt T i = true
    · rw [if_pos (hb.mpr c), if_pos c]
      by_cases c2 : nca g (bt T) i = 16
      · rw [if_pos c2, c2, if_pos (by rfl)]
        simp only [lb]
        rw [n1, nI_add, rN_in (by omega)]
      · have hk : nca g (bt T) i < i := by omega
        have hg1 := hgn i hi
        have hg2 := hgn (nca g (bt T) i) (by omega)
        rw [if_neg c2, if_neg (fun q => absurd (rN_m1.mp q) (by omega)), rN_in (show nca g (bt T) i < 16 by omega), gd_in (by omega) (by omega), gd_in (by omega) (by omega), nI_clamp (by omega), nI_clamp (by omega), hg i hi, hg _ (by omega)]
        simp only [lb]
        by_cases c3 : g i ≤ g (nca g (bt T) i)
        · rw [if_pos c3, if_pos (nI_le c3 (by omega)), n1, nI_add, rN_in (by omega)]
        · rw [if_neg c3, if_neg (nI_ge (by omega) (by omega)), n1, nI_add, rN_in (by omega)]
    · rw [if_neg (fun q => c (hb.mp q)), if_neg c]
      simp only [lb]
      rw [n1, nI_add]) FU 0 () (Nat.zero_le _) (by show n - 0 < 1024; omega) trivial
  rw [← h1]
  exact e1
def com (an : Nat → Nat → Bool) (p q : Nat) : Nat → Bool := fun x => (x == p || an p x) && (x == q || an q x)
theorem X6_nearestA (W : WF n u pr a b g) (Q : RF n u a b g an ge am lv rf) {p q : Nat} (hp : p < n) (hq : q < n) :
    p6_nearestCommon (nI n) am ge (nI p) (nI q) = some (rN (nca g (com an p q) n)) := by
  have hn := W.n16
  have hT : bt (p1_lineageMask am (nI p) &&& p1_lineageMask am (nI q)) = com an p q := funext fun x => by
    rw [bt_and, X1_lineage (by omega) (Q.1 p hp).2, X1_lineage (by omega) (Q.1 q hq).2]
    rfl
  unfold p6_nearestCommon
  simp only [lb]
  rw [n0, X6_nearest (fun p hp => (Q.1 p hp).1) hn (fun p hp => W.glt hp), hT]
  rfl
theorem M_nearestA (W : WF n u pr a b g) (AN : ANC n pr a b an) (F : MX n u pr a b fam) {p q : Nat} (hp : p < n) (hq : q < n) {R0 : Int32} :
    ∃ ge' lv', p10_nearestAncestor R0 fam ge lv (nI p) (nI q) = some (rN (nca g (com an p q) n), ge', lv', nI (rowsN g n), 0) := by
  have hn := W.n16
  obtain ⟨ge1, lv1, e1, h1, -⟩ := M_layGen (ge := ge) (lv := lv) W F
  have hb : ∀ p, p < n → ∀ x, bt (mkm (an p) ||| ((1 : Int32) <<< (nI p &&& 31))) x = (x == p || an p x) := by
    intro p hp x
    rw [bt_or, bt_mkm, bt_shl (by omega)]
    by_cases h : an p x = true
    · have := ANC.lt W AN (g p + 1) p x (by omega) hp h
      rw [h, decide_eq_true (show x < 16 by omega)]
      simp
    · rw [Bool.not_eq_true] at h
      rw [h]
      by_cases e : x = p
      · simp [e]
      · simp [e]
  have hT : bt ((mkm (an p) ||| ((1 : Int32) <<< (nI p &&& 31))) &&& (mkm (an q) ||| ((1 : Int32) <<< (nI q &&& 31)))) = com an p q := funext fun x => by
    rw [bt_and, hb p hp, hb q hq]
    rfl
  refine ⟨ge1, lv1, ?_⟩
  unfold p10_nearestAncestor
  rw [M_arePersons F hn, hasPerson_in hp (by omega), hasPerson_in hq (by omega)]
  simp only [ob, uc2, Bool.and_self, cond_true, lb, if_true]
  rw [e1]
  simp only [uc3]
  rw [M_ancestorMask W AN F hp]
  simp only []
  rw [M_ancestorMask W AN F hq]
  simp only []
  rw [n0, M_nearest F h1 hn (fun p hp => W.glt hp), hT]
  rfl
end COLL
