/-! adopt, release, plain -/
section OPSB
variable {n u : Nat} {pr a b g lc : Nat → Nat} {lt : Nat → Nat → Nat} {an : Nat → Nat → Bool} {yr uy : Nat → Int32} {pl : Nat → Nat} {bx : Nat → Nat → Nat} {fam fam' mh ms : Nat → Int64} {pu fp sp uY ge am lv rf od rs po fb sb hc hc' bA gM lM ro rS : Nat → Int32} {it : Nat → Bool} {next held uc rc R uH : Int32} {kept has : Bool}
theorem pr_FX (F : FX n u pr a b pu fp sp) {p x : Nat} {v : Int32} (hv : v = oN x) : FX n u (updN pr p x) a b (upd pu p v) fp sp := by
  refine ⟨fun q hq => ?_, F.2⟩
  unfold updN
  by_cases e : q = p
  · rw [e, upd_eq, if_pos rfl]; exact hv
  · rw [upd_ne e, if_neg e]; exact F.1 q hq
theorem pr_MX (F : MX n u pr a b fam) (hn : n ≤ 16) (hu : u ≤ 12) {p x : Nat} (hp : p < n) {v : Int64} (hv : v = lO x) : MX n u (updN pr p x) a b (vp_updL fam (2 + 4 * p + 1) v) := by
  refine ⟨by rw [updL_ne (by omega)]; exact F.1, by rw [updL_ne (by omega)]; exact F.2.1, fun q hq => ?_, fun w hw => by rw [updL_ne (by omega), updL_ne (by omega)]; exact F.2.2.2 w hw⟩
  unfold updN
  by_cases e : q = p
  · rw [e, updL_eq, if_pos rfl]; exact hv
  · rw [updL_ne (by omega), if_neg e]; exact F.2.2.1 q hq
end OPSB
