/-! own ancestors, for two persons alone -/
section RCHJ
variable {B : Nat → Nat} {L lo : Nat} {bs bf : Nat → Int32} {n u : Nat} {pr a b g lc : Nat → Nat} {an : Nat → Nat → Bool} {lt : Nat → Nat → Nat} {yr uy lA letters py pu fp sp uY am : Nat → Int32} {fam : Nat → Int64} {s e k c : Nat} {kind start stop value code errS next begins token error errorAt : Int32}
theorem X1_ownAnc2 (W : WF n u pr a b g) (F : FX n u pr a b pu fp sp) {w p : Nat} (hw : w < u) (hp : p < n) (h1 : ∀ q, bt (am (a w)) q = an (a w) q) (h2 : ∀ q, bt (am (b w)) q = an (b w) q) :
    p1_partnerOrAncestor am fp sp (nI w) (nI p) = (p == a w || an (a w) p || (p == b w || an (b w) p)) := by
  have hn := W.n16
  obtain ⟨m1, m2, -⟩ := W.par hw
  unfold p1_partnerOrAncestor
  rw [F.at_fp W.u12 hw, F.at_sp W.u12 hw]
  simp only [lb]
  have hbt := bt_one (x := p1_lineageMask am (nI (a w)) ||| p1_lineageMask am (nI (b w))) (b := p9_bit (nI p)) (p := p) (fun q => bt_bit (by omega)) (by omega)
  rw [bt_or, X1_lineage (by omega) h1, X1_lineage (by omega) h2] at hbt
  cases q : (p == a w || an (a w) p || (p == b w || an (b w) p)) with
  | false => rw [if_pos (hbt.mpr q)]
  | true => rw [if_neg (fun z => by rw [hbt.mp z] at q; cases q)]
end RCHJ
