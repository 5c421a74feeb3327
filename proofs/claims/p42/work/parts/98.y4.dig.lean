/-! the law's digest, by the state alone; remainders; improving -/
theorem nI_divB {x y : Nat} (hx : x < 2147483648) (hy : y < 2147483648) : nI x / nI y = nI (x / y) := by
  have hle := Nat.div_le_self x y
  rw [← Int32.toInt_inj, Int32.toInt_div, nI_toInt (by omega), nI_toInt (by omega), nI_toInt (by omega), ← Int.ofNat_tdiv]
  generalize x / y = q at hle
  simp only [Int.bmod]
  split <;> omega
section YDIG
variable {n u : Nat} {pr a b g : Nat → Nat} {an : Nat → Nat → Bool} {uy : Nat → Int32} {pl lc : Nat → Nat} {bx : Nat → Nat → Nat} {pu fp sp uY ge am lv rf od rs po fb sb lA py fc mc wy : Nat → Int32} {e0 : Nat → Int64}
def dgP (pr g pl : Nat → Nat) : Nat → Int64 → Int64
  | 0, v => v
  | k + 1, v => (((31 : Int64) * dgP pr g pl k v + (nI (pl k)).toInt64) + ((7 : Int64) * (nI (g k)).toInt64)) + (oN (pr k)).toInt64
def dgU (n : Nat) (pr a b g pl : Nat → Nat) : Nat → Int64 → Int64
  | 0, v => v
  | k + 1, v => ((((31 : Int64) * dgU n pr a b g pl k v + (nI (a k)).toInt64) + ((7 : Int64) * (nI (b k)).toInt64)) + (nI (mid a b g pl k)).toInt64) + (mkm fun q => decide (q < n) && pr q == k).toInt64
def DG (n u : Nat) (pr a b g pl : Nat → Nat) : Int64 :=
  dgU n pr a b g pl u (dgP pr g pl n (((nI n).toInt64 + ((7 : Int64) * (nI u).toInt64)) + (nI (tot n u pr a b g pl)).toInt64))
theorem D_26 (W : WF n u pr a b g) (F : FX n u pr a b pu fp sp) (Q : RF n u a b g an ge am lv rf) (R : RX n u a b g pl bx od rs po fb sb) {v : Int64} :
    pL_all_L26 fp ge lA pu (nI n) py (nI (rowsN g n)) sp (nI u) po rs FU v 0 = some (dgP pr g pl n v) := by
  have hn := W.n16
  have hL := loop_all (fun k i (s : Int64) => pL_all_L26 fp ge lA pu (nI n) py (nI (rowsN g n)) sp (nI u) po rs k s (nI i)) n
    (fun i s => s = dgP pr g pl i v)
    (fun z => z = dgP pr g pl n v) (by
      intro k s hs
      refine ⟨s, ?_, hs⟩
      try dsimp only
      rw [pL_all_L26, pL_all_L26_B, A_count0]
      simp only [ob]
      rw [if_pos (nI_le (Nat.le_refl _) (by omega))]) (by
      intro k i s hi hs
      subst hs
      have hx : i < 28 := by omega
      have ht : th n u a b g i = true := by rw [th_p (show i < 16 by omega)]; exact decide_eq_true hi
      refine ⟨dgP pr g pl (i + 1) v, ?_, rfl⟩
      try dsimp only
      rw [pL_all_L26, pL_all_L26_B, A_count0]
      simp only [ob]
      rw [if_neg (nI_ge hi (by omega)), A_place hn hi]
      simp only [on]
      rw [A_person1 hn hi]
      simp only [on]
      rw [A_person2 hn hi]
      simp only [on, lb]
      rw [n1, nI_add, R.2.2.1 i hx ht, (Q.1 i hi).1, F.1 i hi]
      rfl) FU 0 v (Nat.zero_le _) (by show n - 0 < 1024; omega) rfl
  obtain ⟨z, e1, rfl⟩ := hL
  exact e1
theorem D_76 (W : WF n u pr a b g) (F : FX n u pr a b pu fp sp) (R : RX n u a b g pl bx od rs po fb sb) {v : Int64} :
    pL_all_L76 fp lA lv pu (nI n) rf (nI (rowsN g n)) sp (nI u) uY fb od po rs sb FU v 0 fc mc = some (dgU n pr a b g pl u v, fc, mc) := by
  have hu := W.u12
  have hL := loop_all (fun k i (s : Int64 × (Nat → Int32) × (Nat → Int32)) => pL_all_L76 fp lA lv pu (nI n) rf (nI (rowsN g n)) sp (nI u) uY fb od po rs sb k s.1 (nI i) s.2.1 s.2.2) u
    (fun i s => s = (dgU n pr a b g pl i v, fc, mc))
    (fun z => z = (dgU n pr a b g pl u v, fc, mc)) (by
      intro k s hs
      refine ⟨s, ?_, hs⟩
      try dsimp only
      rw [pL_all_L76, pL_all_L76_B, A_count1]
      simp only [ob]
      rw [if_pos (nI_le (Nat.le_refl _) (by omega))]) (by
      intro k i s hi hs
      subst hs
      refine ⟨(dgU n pr a b g pl (i + 1) v, fc, mc), ?_, rfl⟩
      try dsimp only
      rw [pL_all_L76, pL_all_L76_B, A_count1]
      simp only [ob]
      rw [if_neg (nI_ge hi (by omega)), A_union0 hu hi]
      simp only [on, uc3]
      rw [A_union1 hu hi]
      simp only [on, uc3]
      rw [A_union5 W R hi]
      simp only [on, uc3]
      rw [A_children W F hi]
      simp only [on, lb]
      rw [n1, nI_add, (F.2 i hi).1, (F.2 i hi).2]
      rfl) FU 0 (v, fc, mc) (Nat.zero_le _) (by show u - 0 < 1024; omega) rfl
  obtain ⟨z, e1, rfl⟩ := hL
  exact e1
theorem D_all (U : US n u pr a b g an pl bx) (X : UX n u pr a b g an uy pl bx pu fp sp uY ge am lv rf od rs po fb sb) :
    pL_all (nI n) (nI u) (nI (rowsN g n)) fc mc fp ge lA lv pu py rf sp uY fb od po rs sb = some (DG n u pr a b g pl, fc, mc) := by
  obtain ⟨W, AN, L⟩ := U
  obtain ⟨F, -, Q, R⟩ := X
  unfold pL_all
  rw [A_count0]
  simp only [ob]
  rw [A_count1]
  simp only [ob]
  rw [A_crossings W F (fun w hw => (Q.2 w hw).1) R L]
  simp only [ob, lb]
  rw [D_26 W F Q R]
  simp only [ob, pL_all_J74]
  rw [D_76 W F R]
  rfl
theorem M_most (x : Int32) {m : Nat} (h0 : 0 < m) (hm : m < 2147483648) : ∃ k, k < m ∧ pL_most x (nI m) = some (nI k) := by
  have h1 : ∃ j, j < 2147483648 ∧ x &&& 2147483647 = nI j := by
    refine ⟨x.toBitVec.toNat % 2147483648, Nat.mod_lt _ (by omega), ?_⟩
    apply Int32.toBitVec_inj.mp
    apply BitVec.eq_of_toNat_eq
    rw [Int32.toBitVec_and, BitVec.toNat_and]
    have e1 : (2147483647 : Int32).toBitVec.toNat = 2 ^ 31 - 1 := by decide
    rw [e1, Nat.and_two_pow_sub_one_eq_mod]
    show _ = (BitVec.ofNat 32 _).toNat
    rw [BitVec.toNat_ofNat]
    omega
  obtain ⟨j, hj, e⟩ := h1
  refine ⟨j % m, Nat.mod_lt _ h0, ?_⟩
  unfold pL_most gz
  rw [e, if_neg (fun z => by rw [n0] at z; have := (nI_eq hm (by omega)).mp z; omega), nI_divB hj hm, nI_mul, nI_sub (Nat.div_mul_le_self j m)]
  congr 2
  have := Nat.mod_add_div j m
  rw [Nat.mul_comm] at this
  omega
theorem imp1_tot {r i : Nat} {s : Nat × (Nat → Nat) × (Nat → Nat → Nat)} : tot n u pr a b g (imp1 n u pr a b g r i s).2.1 + (imp1 n u pr a b g r i s).1 ≤ tot n u pr a b g s.2.1 + s.1 := by
  unfold imp1
  split
  · dsimp only; omega
  · exact Nat.le_refl _
theorem impR_tot {r : Nat} : ∀ k (s : Nat × (Nat → Nat) × (Nat → Nat → Nat)), tot n u pr a b g (impR n u pr a b g r k s).2.1 + (impR n u pr a b g r k s).1 ≤ tot n u pr a b g s.2.1 + s.1 := by
  intro k
  induction k with
  | zero => intro s; exact Nat.le_refl _
  | succ k ih => intro s; exact Nat.le_trans imp1_tot (ih s)
theorem impA_tot : ∀ k (s : Nat × (Nat → Nat) × (Nat → Nat → Nat)), tot n u pr a b g (impA n u pr a b g k s).2.1 + (impA n u pr a b g k s).1 ≤ tot n u pr a b g s.2.1 + s.1 := by
  intro k
  induction k with
  | zero => intro s; exact Nat.le_refl _
  | succ k ih => intro s; exact Nat.le_trans (impR_tot _ _) (ih s)
theorem impN_tot : ∀ v (s : Nat × (Nat → Nat) × (Nat → Nat → Nat)), tot n u pr a b g (impN n u pr a b g v s).2.1 + (impN n u pr a b g v s).1 ≤ tot n u pr a b g s.2.1 + s.1 := by
  intro v
  induction v with
  | zero => intro s; exact Nat.le_refl _
  | succ v ih =>
    intro s
    have h := impA_tot (n := n) (u := u) (pr := pr) (a := a) (b := b) (g := g) (rowsN g n) (0, s.2)
    unfold impN
    by_cases c : (impA n u pr a b g (rowsN g n) (0, s.2)).1 = 0
    · rw [if_pos c]
      rw [c] at h
      dsimp only at h ⊢
      omega
    · rw [if_neg c]
      have h2 := ih (s.1 + (impA n u pr a b g (rowsN g n) (0, s.2)).1, (impA n u pr a b g (rowsN g n) (0, s.2)).2)
      dsimp only at h h2
      omega
end YDIG
