/-! an act, by cases -/
section YACU
variable {n u : Nat} {pr a b g : Nat → Nat} {an : Nat → Nat → Bool} {uy : Nat → Int32} {pl : Nat → Nat} {bx : Nat → Nat → Nat} {pu fp sp uY ge am lv rf od rs po fb sb ks hc ge2 lv2 pn : Nat → Int32} {next held : Int32} {un od2 : Nat → Nat → Int32} {nu no : Nat} {ln : Nat → Nat} {h : Nat} {hs : Nat → STT} {t0 : STT}
theorem T_release (U : US n u pr a b g an pl bx) (X : UX n u pr a b g an uy pl bx pu fp sp uY ge am lv rf od rs po fb sb) (H : HISt n hc next held h hs) (S : SAVt n hc 810 t0) (F : OF n u pr a b pn un nu) (G : OG n u a b g ge2 lv2) (O : OO n u a b g bx ln od2 no) {p : Nat} (hp : p < n) :
    ∃ c t' h' hs' Z', (if 0 ≤ pn p then gd (nI p) 16 (lb (pn p) (fun t314 => pL_act_J316 am fp ge lv pu (nI n) rf (nI (rowsN g n)) sp (nI u) uY hc held next ge2 lv2 ln no nu od2 pn (nI n) (nI (rowsN g n)) un (nI u) fb ks od po rs sb (nI p) t314)) else pL_act_J316 am fp ge lv pu (nI n) rf (nI (rowsN g n)) sp (nI u) uY hc held next ge2 lv2 ln no nu od2 pn (nI n) (nI (rowsN g n)) un (nI u) fb ks od po rs sb (nI p) (-2)) = some (nI c, Z') ∧ STP n t0 t' h' hs' Z' ∧ ACR (u, pr, a, b, g, an, uy, pl, bx) h hs c t' h' hs' := by
  have W := U.1
  have hn := W.n16
  have hu := W.u12
  by_cases c : pr p < 12
  · obtain ⟨g', an', am', ge', lv', pu', rf', hc', held', next', fb', od', po', rs', sb', e1, U', X', H', k810⟩ := K_release (rc := nI (rowsN g n)) U X H hp c
    have F' : OF n u (updN pr p 12) a b (upd pn p (-1)) un nu := ⟨fun q hq => by
      by_cases e : q = p
      · subst e
        rw [upd_eq]
        unfold updN
        rw [if_pos rfl]
        rfl
      · rw [upd_ne e]
        unfold updN
        rw [if_neg e]
        exact F.1 q hq, F.2⟩
    obtain ⟨ge3, lv3, ln3, od3, e2, G', O'⟩ := O_plain (ge := ge2) (lv := lv2) (ln := ln) (od := od2) U'.1 F'
    rw [F.1 p hp, if_pos (oN_ge.mpr c), gd_in (by omega) (by omega), oN_in c]
    simp only [lb, pL_act_J316]
    rw [n0, if_neg (nI_nlt (Nat.zero_le _) (by omega)), gd_in (by omega) (by omega), nI_clamp (by omega), e2]
    simp only [ob, uc6, pL_act_J333]
    rw [e1]
    simp only [on, uc15]
    first
      | rw [if_pos trivial]
      | rw [if_pos rfl]
    rw [n0, if_pos (nI_le (Nat.zero_le _) (by omega))]
    exact ⟨1, (u, updN pr p 12, a, b, g', an', uy, ppl n u a b g', pbx n u a b g'), _, _, _, rfl, ⟨rfl, rfl, rfl, rfl, U', X', H', S.congr (fun k k1 k2 => k810 k k1), F', G', O'⟩, Or.inl ⟨rfl, rfl, rfl⟩⟩
  · rw [F.1 p hp, if_neg (fun z => c (oN_ge.mp z))]
    simp only [pL_act_J316, pL_act_J333]
    rw [if_pos (by decide), K_releaseNo W X.1 hp c]
    simp only [on, uc15]
    first
      | rw [if_pos trivial]
      | rw [if_pos rfl]
    rw [if_neg (by decide)]
    exact ⟨0, (u, pr, a, b, g, an, uy, pl, bx), h, hs, _, rfl, ⟨rfl, rfl, rfl, rfl, U, X, H, S, F, G, O⟩, Or.inr ⟨rfl, rfl, rfl, rfl⟩⟩
theorem T_adopt (U : US n u pr a b g an pl bx) (X : UX n u pr a b g an uy pl bx pu fp sp uY ge am lv rf od rs po fb sb) (H : HISt n hc next held h hs) (S : SAVt n hc 810 t0) (F : OF n u pr a b pn un nu) (G : OG n u a b g ge2 lv2) (O : OO n u a b g bx ln od2 no) {p w : Nat} (hp : p < n) (hw : w < u) :
    ∃ c t' h' hs' Z', (if pn p < 0 then ob (pL_can pn un nu (nI w) (nI p)) (fun r219 => cond r219 (pL_act_J233 am fp ge lv pu (nI n) rf (nI (rowsN g n)) sp (nI u) uY hc held next ge2 lv2 ln no nu od2 pn (nI n) (nI (rowsN g n)) un (nI u) fb ks od po rs sb (nI p) (nI w) 0) (pL_act_J233 am fp ge lv pu (nI n) rf (nI (rowsN g n)) sp (nI u) uY hc held next ge2 lv2 ln no nu od2 pn (nI n) (nI (rowsN g n)) un (nI u) fb ks od po rs sb (nI p) (nI w) (-3))) else pL_act_J233 am fp ge lv pu (nI n) rf (nI (rowsN g n)) sp (nI u) uY hc held next ge2 lv2 ln no nu od2 pn (nI n) (nI (rowsN g n)) un (nI u) fb ks od po rs sb (nI p) (nI w) (-2)) = some (nI c, Z') ∧ STP n t0 t' h' hs' Z' ∧ ACR (u, pr, a, b, g, an, uy, pl, bx) h hs c t' h' hs' := by
  have W := U.1
  have hn := W.n16
  have hu := W.u12
  by_cases c : pr p < 12
  · rw [F.1 p hp, if_neg (fun z => oN_lt.mp z c)]
    simp only [pL_act_J233, pL_act_J259]
    rw [if_neg (by decide), K_adoptNo2 W X.1 hw hp c]
    simp only [on, uc15]
    first
      | rw [if_pos trivial]
      | rw [if_pos rfl]
    rw [if_neg (by decide)]
    exact ⟨0, (u, pr, a, b, g, an, uy, pl, bx), h, hs, _, rfl, ⟨rfl, rfl, rfl, rfl, U, X, H, S, F, G, O⟩, Or.inr ⟨rfl, rfl, rfl, rfl⟩⟩
  · rw [F.1 p hp, if_pos (oN_lt.mpr c), O_can W U.2.1 F hw hp]
    simp only [ob]
    cases d : (p == a w || an (a w) p || (p == b w || an (b w) p)) with
    | true =>
      simp only [Bool.not_true, cond, pL_act_J233, pL_act_J259]
      rw [if_neg (by decide), K_adoptNo3 W U.2.1 X.1 (fun q hq => (X.2.2.1.1 q hq).2) hw hp c d]
      simp only [on, uc15]
      first
        | rw [if_pos trivial]
        | rw [if_pos rfl]
      rw [if_neg (by decide)]
      exact ⟨0, (u, pr, a, b, g, an, uy, pl, bx), h, hs, _, rfl, ⟨rfl, rfl, rfl, rfl, U, X, H, S, F, G, O⟩, Or.inr ⟨rfl, rfl, rfl, rfl⟩⟩
    | false =>
      obtain ⟨g', an', am', ge', lv', pu', rf', hc', held', next', fb', od', po', rs', sb', e1, U', X', H', k810⟩ := K_adopt (rc := nI (rowsN g n)) U X H hw hp c d
      have F' : OF n u (updN pr p w) a b (upd pn p (nI w)) un nu := ⟨fun q hq => by
        by_cases e : q = p
        · subst e
          rw [upd_eq]
          unfold updN
          rw [if_pos rfl, oN_in (by omega)]
        · rw [upd_ne e]
          unfold updN
          rw [if_neg e]
          exact F.1 q hq, F.2⟩
      obtain ⟨ge3, lv3, ln3, od3, e2, G', O'⟩ := O_plain (ge := ge2) (lv := lv2) (ln := ln) (od := od2) U'.1 F'
      have hgp := U'.1.glt hp
      simp only [Bool.not_false, cond, pL_act_J233]
      first
        | rw [if_pos trivial]
        | rw [if_pos rfl]
      rw [gd_in (by omega) (by omega)]
      simp only [lb]
      rw [nI_clamp (show p < 2147483648 by omega), e2]
      simp only [ob, uc6]
      rw [O_gen U'.1 G' hp]
      simp only [pL_act_J259]
      rw [e1]
      simp only [on, uc15]
      first
        | rw [if_pos trivial]
        | rw [if_pos rfl]
      rw [n0, if_pos (nI_le (Nat.zero_le _) (by omega))]
      exact ⟨1, (u, updN pr p w, a, b, g', an', uy, ppl n u a b g', pbx n u a b g'), _, _, _, rfl, ⟨rfl, rfl, rfl, rfl, U', X', H', S.congr (fun k k1 k2 => k810 k k1), F', G', O'⟩, Or.inl ⟨rfl, rfl, rfl⟩⟩
theorem T_marry (U : US n u pr a b g an pl bx) (X : UX n u pr a b g an uy pl bx pu fp sp uY ge am lv rf od rs po fb sb) (H : HISt n hc next held h hs) (S : SAVt n hc 810 t0) (F : OF n u pr a b pn un nu) (G : OG n u a b g ge2 lv2) (O : OO n u a b g bx ln od2 no) {p q z : Nat} (hp : p < n) (hq : q < n) (hz : z ≤ 2100) :
    ∃ c t' h' hs' Z', (if nI p = nI q then pL_act_J71 am fp ge lv pu (nI n) rf (nI (rowsN g n)) sp (nI u) uY hc held next ge2 lv2 ln no nu od2 pn (nI n) (nI (rowsN g n)) un (nI u) fb ks od po rs sb (nI p) (nI q) (nI z) else ob (pL_known (nI u) un nu (nI p) (nI q)) (fun r65 => cond r65 (pL_act_J71 am fp ge lv pu (nI n) rf (nI (rowsN g n)) sp (nI u) uY hc held next ge2 lv2 ln no nu od2 pn (nI n) (nI (rowsN g n)) un (nI u) fb ks od po rs sb (nI p) (nI q) (nI z)) (if nI u = 12 then pL_act_J96 am fp ge lv pu (nI n) rf (nI (rowsN g n)) sp (nI u) uY hc held next ge2 lv2 ln no nu od2 pn (nI n) (nI (rowsN g n)) un (nI u) fb ks od po rs sb (nI p) (nI q) (nI z) (-3) else pL_act_J96 am fp ge lv pu (nI n) rf (nI (rowsN g n)) sp (nI u) uY hc held next ge2 lv2 ln no nu od2 pn (nI n) (nI (rowsN g n)) un (nI u) fb ks od po rs sb (nI p) (nI q) (nI z) (nI u)))) = some (nI c, Z') ∧ STP n t0 t' h' hs' Z' ∧ ACR (u, pr, a, b, g, an, uy, pl, bx) h hs c t' h' hs' := by
  have W := U.1
  have hn := W.n16
  have hu := W.u12
  have hno : (p = q ∨ upair a b p q u 0 < 12) → ∃ c t' h' hs' Z', pL_act_J71 am fp ge lv pu (nI n) rf (nI (rowsN g n)) sp (nI u) uY hc held next ge2 lv2 ln no nu od2 pn (nI n) (nI (rowsN g n)) un (nI u) fb ks od po rs sb (nI p) (nI q) (nI z) = some (nI c, Z') ∧ STP n t0 t' h' hs' Z' ∧ ACR (u, pr, a, b, g, an, uy, pl, bx) h hs c t' h' hs' := fun hc1 => by
    simp only [pL_act_J71, pL_act_J96, pL_act_J142]
    rw [if_pos (by decide), K_marryNo W X.1 hp hq hz hc1]
    simp only [on, uc18]
    first
      | rw [if_pos trivial]
      | rw [if_pos rfl]
    rw [if_neg (by decide)]
    exact ⟨0, (u, pr, a, b, g, an, uy, pl, bx), h, hs, _, rfl, ⟨rfl, rfl, rfl, rfl, U, X, H, S, F, G, O⟩, Or.inr ⟨rfl, rfl, rfl, rfl⟩⟩
  by_cases c3 : p = q
  · rw [if_pos (by rw [c3])]
    exact hno (Or.inl c3)
  rw [if_neg (fun z => c3 ((nI_eq (by omega) (by omega)).mp z)), O_known W F hp hq c3]
  simp only [ob]
  by_cases c4 : upair a b p q u 0 < 12
  · rw [decide_eq_true c4]
    simp only [cond]
    exact hno (Or.inr c4)
  rw [decide_eq_false c4]
  simp only [cond]
  by_cases c5 : u = 12
  · rw [if_pos (by rw [c5]; rfl)]
    simp only [pL_act_J96, pL_act_J142]
    rw [if_pos (by decide), K_marryFull W X.1 hp hq hz c3 c4 c5]
    simp only [on, uc18]
    first
      | rw [if_pos trivial]
      | rw [if_pos rfl]
    rw [if_neg (by decide)]
    exact ⟨0, (u, pr, a, b, g, an, uy, pl, bx), h, hs, _, rfl, ⟨rfl, rfl, rfl, rfl, U, X, H, S, F, G, O⟩, Or.inr ⟨rfl, rfl, rfl, rfl⟩⟩
  have hu2 : u < 12 := by omega
  obtain ⟨am', fp', ge', lv', rf', sp', uY', hc', held', next', fb', od', po', rs', sb', e1, U', X', H', k810⟩ := K_marry (rc := nI (rowsN g n)) U X H hp hq hz c3 c4 hu2
  have hF := F
  obtain ⟨F1, hnu, F2⟩ := hF
  subst nu
  have F' : OF n (u + 1) pr (updN a u p) (updN b u q) pn (upR un u (upd (upd (upd (fun _ => 0) 0 (nI p)) 1 (nI q)) 2 (nI z))) (u + 1) := ⟨F1, rfl, fun w hw => by
    unfold upR updN
    by_cases e : w = u
    · rw [if_pos e, if_pos e, if_pos e]
      exact ⟨by rw [upd_ne (by omega), upd_ne (by omega), upd_eq], by rw [upd_ne (by omega), upd_eq]⟩
    · rw [if_neg e, if_neg e, if_neg e]
      exact F2 w (by omega)⟩
  obtain ⟨ge3, lv3, ln3, od3, e2, G', O'⟩ := O_plain (ge := ge2) (lv := lv2) (ln := ln) (od := od2) U'.1 F'
  rw [n12, if_neg (fun z => c5 ((nI_eq (a := u) (b := 12) (by omega) (by omega)).mp z))]
  simp only [pL_act_J96]
  rw [n0, if_neg (nI_nlt (Nat.zero_le _) (by omega)), ← n0, g03]
  simp only [lb]
  rw [g13, n2, gd_in (by omega) (by omega), gd_in hu2 (by omega), ge_in2 (by omega), ← n2, c0, c1', c2, n1, nI_add, e2]
  simp only [ob, uc6, pL_act_J142]
  rw [e1]
  simp only [on, uc18]
  first
    | rw [if_pos trivial]
    | rw [if_pos rfl]
  rw [n0, if_pos (nI_le (Nat.zero_le _) (by omega))]
  exact ⟨1, (u + 1, pr, updN a u p, updN b u q, g, an, upd uy u (nI z), ppl n (u + 1) (updN a u p) (updN b u q) g, pbx n (u + 1) (updN a u p) (updN b u q) g), _, _, _, rfl, ⟨rfl, rfl, rfl, rfl, U', X', H', S.congr (fun k k1 k2 => k810 k k1), F', G', O'⟩, Or.inl ⟨rfl, rfl, rfl⟩⟩
end YACU
