/-! the law's own family: rows of unions, of orders, of kinships, in any number -/
abbrev EX : Type := (Nat → Nat) × (Nat → Option Nat) × (Nat → Nat → Int64)
def rU (cI : ClassId) (aw : Nat → Nat) (un : Nat → Nat → Int32) (n : Nat) : va_W := (List.range n).map (fun k => (aw (3 * k), .inl (cI, 3, .inl (un k))))
def rO (cI : ClassId) (aw : Nat → Nat) (ln : Nat → Nat) (od : Nat → Nat → Int32) (n : Nat) : va_W := (List.range n).map (fun k => (aw (3 * k + 1), .inl (cI, ln k, .inl (od k))))
def rK (cJ : ClassId) (aw : Nat → Nat) (kc : Nat → Nat → Int64) : va_W := (List.range 16).map (fun k => (aw (3 * k + 2), .inl (cJ, 16, .inr (.inl (kc k)))))
def rws (cI cJ : ClassId) (aw : Nat → Nat) (un : Nat → Nat → Int32) (nu : Nat) (ln : Nat → Nat) (od : Nat → Nat → Int32) (no : Nat) (kc : Nat → Nat → Int64) : va_W := rU cI aw un nu ++ (rO cI aw ln od no ++ rK cJ aw kc)
def qU (aw : Nat → Nat) (n : Nat) : Nat → Option Nat := fun i => if i < n then some (aw (3 * i)) else none
def qO (aw : Nat → Nat) (n : Nat) (g : Nat → Option Nat) : Nat → Option Nat := fun i => if i < n then some (aw (3 * i + 1)) else g i
def qK (aw : Nat → Nat) : Nat → Option Nat := fun i => if i < 16 then some (aw (3 * i + 2)) else none
def up1 (f : Nat → Nat) (k x : Nat) : Nat → Nat := fun i => if i = k then x else f i
def upR (f : Nat → Nat → Int32) (k : Nat) (x : Nat → Int32) : Nat → Nat → Int32 := fun i => if i = k then x else f i
def upK (f : Nat → Nat → Int64) (k : Nat) (x : Nat → Int64) : Nat → Nat → Int64 := fun i => if i = k then x else f i
section RWS
variable {cI cJ : ClassId} {aw : Nat → Nat} {un : Nat → Nat → Int32} {nu : Nat} {ln : Nat → Nat} {od : Nat → Nat → Int32} {no : Nat} {kc : Nat → Nat → Int64}
theorem rU_at (k : Nat) : (rU cI aw un nu)[k]? = if k < nu then some (aw (3 * k), .inl (cI, 3, .inl (un k))) else none := by
  unfold rU
  rw [List.getElem?_map]
  by_cases h : k < nu
  · rw [List.getElem?_range h, if_pos h]; rfl
  · rw [List.getElem?_eq_none (by simpa using h), if_neg h]; rfl
theorem rO_at (k : Nat) : (rO cI aw ln od no)[k]? = if k < no then some (aw (3 * k + 1), .inl (cI, ln k, .inl (od k))) else none := by
  unfold rO
  rw [List.getElem?_map]
  by_cases h : k < no
  · rw [List.getElem?_range h, if_pos h]; rfl
  · rw [List.getElem?_eq_none (by simpa using h), if_neg h]; rfl
theorem rK_at (k : Nat) : (rK cJ aw kc)[k]? = if k < 16 then some (aw (3 * k + 2), .inl (cJ, 16, .inr (.inl (kc k)))) else none := by
  unfold rK
  rw [List.getElem?_map]
  by_cases h : k < 16
  · rw [List.getElem?_range h, if_pos h]; rfl
  · rw [List.getElem?_eq_none (by simpa using h), if_neg h]; rfl
theorem rU_len : (rU cI aw un nu).length = nu := by simp [rU]
theorem rO_len : (rO cI aw ln od no).length = no := by simp [rO]
theorem rK_len : (rK cJ aw kc).length = 16 := by simp [rK]
theorem rws_at (k : Nat) : (rws cI cJ aw un nu ln od no kc)[k]? = if k < nu then some (aw (3 * k), .inl (cI, 3, .inl (un k))) else if k < nu + no then some (aw (3 * (k - nu) + 1), .inl (cI, ln (k - nu), .inl (od (k - nu)))) else if k < nu + no + 16 then some (aw (3 * (k - nu - no) + 2), .inl (cJ, 16, .inr (.inl (kc (k - nu - no))))) else none := by
  unfold rws
  by_cases h1 : k < nu
  · rw [List.getElem?_append_left (by rw [rU_len]; exact h1), rU_at]
    simp [h1]
  · rw [List.getElem?_append_right (by rw [rU_len]; omega), rU_len]
    by_cases h2 : k < nu + no
    · rw [List.getElem?_append_left (by rw [rO_len]; omega), rO_at]
      simp [h1, h2, show k - nu < no by omega]
    · rw [List.getElem?_append_right (by rw [rO_len]; omega), rO_len, rK_at]
      by_cases h3 : k < nu + no + 16
      · simp [h1, h2, h3, show k - nu - no < 16 by omega]
      · simp [h1, h2, h3, show ¬ k - nu - no < 16 by omega]
theorem rws_len : (rws cI cJ aw un nu ln od no kc).length = nu + (no + 16) := by
  unfold rws
  rw [List.length_append, List.length_append, rU_len, rO_len, rK_len]
theorem rU_get {X : va_W} {k : Nat} (h : k < nu) : (X ++ rws cI cJ aw un nu ln od no kc)[X.length + k]? = some (aw (3 * k), .inl (cI, 3, .inl (un k))) := by
  rw [List.getElem?_append_right (by omega), Nat.add_sub_cancel_left, rws_at, if_pos h]
theorem rO_get {X : va_W} {k : Nat} (h : k < no) : (X ++ rws cI cJ aw un nu ln od no kc)[X.length + (nu + k)]? = some (aw (3 * k + 1), .inl (cI, ln k, .inl (od k))) := by
  rw [List.getElem?_append_right (by omega), Nat.add_sub_cancel_left, rws_at, if_neg (by omega), if_pos (by omega), Nat.add_sub_cancel_left]
theorem rK_get {X : va_W} {k : Nat} (h : k < 16) : (X ++ rws cI cJ aw un nu ln od no kc)[X.length + (nu + (no + k))]? = some (aw (3 * k + 2), .inl (cJ, 16, .inr (.inl (kc k)))) := by
  rw [List.getElem?_append_right (by omega), Nat.add_sub_cancel_left, rws_at, if_neg (by omega), if_neg (by omega), if_pos (by omega), Nat.add_sub_cancel_left, Nat.add_sub_cancel_left]
theorem rws_set {X Y : va_W} {k : Nat} {v : Nat × va_E} (h : ∀ i, (rws cI cJ aw un nu ln od no kc)[i]? ≠ none → i ≠ k → Y[i]? = (rws cI cJ aw un nu ln od no kc)[i]?) (hk : Y[k]? = some v) (hl : Y.length = nu + (no + 16)) (hkl : k < nu + (no + 16)) : (X ++ rws cI cJ aw un nu ln od no kc).set (X.length + k) v = X ++ Y := by
  rw [List.set_append_right _ _ (by omega), Nat.add_sub_cancel_left]
  congr 1
  apply List.ext_getElem?
  intro i
  by_cases e : i = k
  · subst e
    rw [hk, List.getElem?_set_self (by rw [rws_len]; exact hkl)]
  · rw [List.getElem?_set_ne (Ne.symm e)]
    by_cases hn : (rws cI cJ aw un nu ln od no kc)[i]? = none
    · rw [hn]
      have := List.getElem?_eq_none_iff.mp hn
      rw [rws_len] at this
      exact (List.getElem?_eq_none (by omega)).symm
    · exact (h i hn e).symm
theorem rO_set {X : va_W} {k : Nat} {f : Nat → Int32} (h : k < no) : (X ++ rws cI cJ aw un nu ln od no kc).set (X.length + (nu + k)) (aw (3 * k + 1), .inl (cI, ln k, .inl f)) = X ++ rws cI cJ aw un nu ln (upR od k f) no kc := by
  refine rws_set (fun i _ e => ?_) ?_ rws_len (by omega)
  · rw [rws_at, rws_at]
    by_cases h1 : i < nu
    · rw [if_pos h1, if_pos h1]
    · rw [if_neg h1, if_neg h1]
      unfold upR
      rw [if_neg (show ¬ i - nu = k by omega)]
  · rw [rws_at, if_neg (by omega), if_pos (by omega), Nat.add_sub_cancel_left]
    unfold upR
    rw [if_pos rfl]
theorem rK_set {X : va_W} {k : Nat} {f : Nat → Int64} (h : k < 16) : (X ++ rws cI cJ aw un nu ln od no kc).set (X.length + (nu + (no + k))) (aw (3 * k + 2), .inl (cJ, 16, .inr (.inl f))) = X ++ rws cI cJ aw un nu ln od no (upK kc k f) := by
  refine rws_set (fun i _ e => ?_) ?_ rws_len (by omega)
  · rw [rws_at, rws_at]
    by_cases h1 : i < nu
    · rw [if_pos h1, if_pos h1]
    · rw [if_neg h1, if_neg h1]
      by_cases h2 : i < nu + no
      · rw [if_pos h2, if_pos h2]
      · rw [if_neg h2, if_neg h2]
        unfold upK
        rw [if_neg (show ¬ i - nu - no = k by omega)]
  · rw [rws_at, if_neg (by omega), if_neg (by omega), if_pos (by omega), Nat.add_sub_cancel_left, Nat.add_sub_cancel_left]
    unfold upK
    rw [if_pos rfl]
/-- one index of a longer world is another of a shorter one -/
theorem g_by {A : Nat → Prop} {D : va_G} {cl : List vw_C} {ws ws' : va_W} {H : Heap} (g : Nat → Nat) (hg : ∀ (k : Nat), k < ws'.length → ws[g k]? = ws'[k]?) (hi : ∀ i j : Nat, i < ws'.length → j < ws'.length → g i = g j → i = j) (hP : va_P D cl ws H) (hD : va_D A ws) : va_P D cl ws' H ∧ va_D A ws' := by
  have h1 : ∀ (k : Nat) (q : Nat × va_E), ws'[k]? = some q → ws[g k]? = some q := fun k q hk => by
    rw [hg k (List.getElem?_eq_some_iff.mp hk).1]; exact hk
  exact ⟨hP.by g h1, hD.by g h1 hi⟩
theorem x_at {X : va_W} {k : Nat} : (X ++ rws cI cJ aw un nu ln od no kc)[k]? = if k < X.length then X[k]? else (rws cI cJ aw un nu ln od no kc)[k - X.length]? := by
  by_cases h : k < X.length
  · rw [if_pos h, List.getElem?_append_left h]
  · rw [if_neg h, List.getElem?_append_right (by omega)]
theorem y_at {X : va_W} {q : Nat × va_E} {k : Nat} : ((X ++ [q]) ++ rws cI cJ aw un nu ln od no kc)[k]? = if k < X.length then X[k]? else if k = X.length then some q else (rws cI cJ aw un nu ln od no kc)[k - X.length - 1]? := by
  by_cases h : k < X.length
  · rw [if_pos h, List.getElem?_append_left (by rw [List.length_append]; omega), List.getElem?_append_left h]
  · rw [if_neg h]
    by_cases e : k = X.length
    · rw [if_pos e, List.getElem?_append_left (by rw [List.length_append]; show k < X.length + 1; omega), List.getElem?_append_right (by omega), e, Nat.sub_self]
      rfl
    · rw [if_neg e, List.getElem?_append_right (by rw [List.length_append]; show X.length + 1 ≤ k; omega), List.length_append]
      congr 1
variable {A : Nat → Prop} {D : va_G} {cl : List vw_C} {H : Heap} {X : va_W} {q N : Nat} {f : Nat → Int32}
/-- the rows of the orders are forgotten -/
theorem g_dropO (hP : va_P D cl (X ++ rws cI cJ aw un nu ln od no kc) H) (hD : va_D A (X ++ rws cI cJ aw un nu ln od no kc)) : va_P D cl (X ++ rws cI cJ aw un nu ln od 0 kc) H ∧ va_D A (X ++ rws cI cJ aw un nu ln od 0 kc) := by
  refine g_by (fun k => if k < X.length + nu then k else k + no) (fun k hk => ?_) (fun i j _ _ e => ?_) hP hD
  · rw [List.length_append, rws_len] at hk
    rw [x_at, x_at]
    by_cases h1 : k < X.length
    · rw [if_pos (show k < X.length + nu by omega), if_pos h1, if_pos h1]
    · by_cases h2 : k < X.length + nu
      · rw [if_pos h2, if_neg h1, if_neg h1, rws_at, rws_at, if_pos (by omega), if_pos (by omega)]
      · rw [if_neg h2, if_neg (by omega), if_neg h1, rws_at, rws_at, if_neg (by omega), if_neg (by omega), if_pos (by omega), if_neg (by omega), if_neg (by omega), if_pos (by omega)]
        rw [show k + no - X.length - nu - no = k - X.length - nu - 0 by omega]
  · repeat' split at e
    all_goals omega
theorem qO_zero {g : Nat → Option Nat} : qO aw 0 (qO aw no g) = qO aw no g := by
  funext i
  show (if i < 0 then _ else _) = _
  rw [if_neg (by omega)]
/-- a row of the orders more -/
theorem g_pushO (hP : va_P D cl ((X ++ [(q, .inl (cI, N, .inl f))]) ++ rws cI cJ aw un nu ln od no kc) H) (hD : va_D A ((X ++ [(q, .inl (cI, N, .inl f))]) ++ rws cI cJ aw un nu ln od no kc)) : va_P D cl (X ++ rws cI cJ (up1 aw (3 * no + 1) q) un nu (up1 ln no N) (upR od no f) (no + 1) kc) H ∧ va_D A (X ++ rws cI cJ (up1 aw (3 * no + 1) q) un nu (up1 ln no N) (upR od no f) (no + 1) kc) := by
  refine g_by (fun k => if k < X.length then k else if k < X.length + nu + no then k + 1 else if k = X.length + nu + no then X.length else k) (fun k hk => ?_) (fun i j _ _ e => ?_) hP hD
  · rw [List.length_append, rws_len] at hk
    rw [y_at, x_at]
    by_cases h1 : k < X.length
    · rw [if_pos h1, if_pos h1, if_pos h1]
    · rw [if_neg h1, if_neg h1]
      by_cases h2 : k < X.length + nu + no
      · rw [if_pos h2, if_neg (by omega), if_neg (by omega), rws_at, rws_at, show k + 1 - X.length - 1 = k - X.length by omega]
        unfold up1 upR
        by_cases h3 : k - X.length < nu
        · rw [if_pos h3, if_pos h3, if_neg (by omega)]
        · rw [if_neg h3, if_neg h3, if_pos (by omega), if_pos (by omega), if_neg (by omega), if_neg (by omega), if_neg (by omega)]
      · rw [if_neg h2]
        by_cases h3 : k = X.length + nu + no
        · rw [if_pos h3, if_neg (by omega), if_pos rfl, rws_at, if_neg (by omega), if_pos (by omega), show k - X.length - nu = no by omega]
          unfold up1 upR
          rw [if_pos rfl, if_pos rfl, if_pos rfl]
        · rw [if_neg h3, if_neg h1, if_neg (by omega), rws_at, rws_at, if_neg (by omega), if_neg (by omega), if_pos (by omega), if_neg (by omega), if_neg (by omega), if_pos (by omega), show k - X.length - 1 - nu - no = k - X.length - nu - (no + 1) by omega]
          unfold up1
          rw [if_neg (by omega)]
  · repeat' split at e
    all_goals omega
theorem qO_push {g : Nat → Option Nat} : va_up (qO aw no g) no (some q) = qO (up1 aw (3 * no + 1) q) (no + 1) g := by
  funext i
  unfold va_up qO up1
  by_cases h : i = no
  · subst h; simp
  · by_cases h2 : i < no
    · simp [h, h2, show i < no + 1 by omega, show ¬ 3 * i = 3 * no by omega]
    · simp [h, h2, show ¬ i < no + 1 by omega]
theorem qU_pushO {n k : Nat} : qU (up1 aw (3 * k + 1) q) n = qU aw n := by
  funext i
  unfold qU up1
  rw [if_neg (show ¬ 3 * i = 3 * k + 1 by omega)]
theorem qK_pushO {k : Nat} : qK (up1 aw (3 * k + 1) q) = qK aw := by
  funext i
  unfold qK up1
  rw [if_neg (show ¬ 3 * i + 2 = 3 * k + 1 by omega)]
/-- another row of the orders in an old one's place -/
theorem g_setO {k : Nat} (hk : k < no) (hP : va_P D cl ((X ++ [(q, .inl (cI, N, .inl f))]) ++ rws cI cJ aw un nu ln od no kc) H) (hD : va_D A ((X ++ [(q, .inl (cI, N, .inl f))]) ++ rws cI cJ aw un nu ln od no kc)) : va_P D cl (X ++ rws cI cJ (up1 aw (3 * k + 1) q) un nu (up1 ln k N) (upR od k f) no kc) H ∧ va_D A (X ++ rws cI cJ (up1 aw (3 * k + 1) q) un nu (up1 ln k N) (upR od k f) no kc) := by
  refine g_by (fun i => if i < X.length then i else if i = X.length + nu + k then X.length else i + 1) (fun i hi => ?_) (fun i j _ _ e => ?_) hP hD
  · rw [List.length_append, rws_len] at hi
    rw [y_at, x_at]
    by_cases h1 : i < X.length
    · rw [if_pos h1, if_pos h1, if_pos h1]
    · rw [if_neg h1, if_neg h1]
      by_cases h3 : i = X.length + nu + k
      · rw [if_pos h3, if_neg (by omega), if_pos rfl, rws_at, if_neg (by omega), if_pos (by omega), show i - X.length - nu = k by omega]
        unfold up1 upR
        rw [if_pos rfl, if_pos rfl, if_pos rfl]
      · rw [if_neg h3, if_neg (by omega), if_neg (by omega), rws_at, rws_at, show i + 1 - X.length - 1 = i - X.length by omega]
        unfold up1 upR
        by_cases h4 : i - X.length < nu
        · rw [if_pos h4, if_pos h4, if_neg (by omega)]
        · rw [if_neg h4, if_neg h4]
          by_cases h5 : i - X.length < nu + no
          · rw [if_pos h5, if_pos h5, if_neg (by omega), if_neg (by omega), if_neg (by omega)]
          · rw [if_neg h5, if_neg h5, if_neg (show ¬ 3 * (i - X.length - nu - no) + 2 = 3 * k + 1 by omega)]
  · repeat' split at e
    all_goals omega
theorem qO_set {g : Nat → Option Nat} {k : Nat} (hk : k < no) : va_up (qO aw no g) k (some q) = qO (up1 aw (3 * k + 1) q) no g := by
  funext i
  unfold va_up qO up1
  by_cases h : i = k
  · subst h; simp [hk]
  · by_cases h2 : i < no
    · simp [h, h2, show ¬ 3 * i = 3 * k by omega]
    · simp [h, h2]
/-- a row of the unions more -/
theorem g_pushU (hP : va_P D cl ((X ++ [(q, .inl (cI, 3, .inl f))]) ++ rws cI cJ aw un nu ln od no kc) H) (hD : va_D A ((X ++ [(q, .inl (cI, 3, .inl f))]) ++ rws cI cJ aw un nu ln od no kc)) : va_P D cl (X ++ rws cI cJ (up1 aw (3 * nu) q) (upR un nu f) (nu + 1) ln od no kc) H ∧ va_D A (X ++ rws cI cJ (up1 aw (3 * nu) q) (upR un nu f) (nu + 1) ln od no kc) := by
  refine g_by (fun k => if k < X.length then k else if k < X.length + nu then k + 1 else if k = X.length + nu then X.length else k) (fun k hk => ?_) (fun i j _ _ e => ?_) hP hD
  · rw [List.length_append, rws_len] at hk
    rw [y_at, x_at]
    by_cases h1 : k < X.length
    · rw [if_pos h1, if_pos h1, if_pos h1]
    · rw [if_neg h1, if_neg h1]
      by_cases h2 : k < X.length + nu
      · rw [if_pos h2, if_neg (by omega), if_neg (by omega), rws_at, rws_at, show k + 1 - X.length - 1 = k - X.length by omega]
        unfold up1 upR
        rw [if_pos (by omega), if_pos (by omega), if_neg (by omega), if_neg (by omega)]
      · rw [if_neg h2]
        by_cases h3 : k = X.length + nu
        · rw [if_pos h3, if_neg (by omega), if_pos rfl, rws_at, if_pos (by omega), show k - X.length = nu by omega]
          unfold up1 upR
          rw [if_pos rfl, if_pos rfl]
        · rw [if_neg h3, if_neg h1, if_neg (by omega), rws_at, rws_at]
          unfold up1
          by_cases h4 : k - X.length - 1 < nu + no
          · rw [if_neg (by omega), if_pos h4, if_neg (by omega), if_pos (by omega), if_neg (by omega), show k - X.length - 1 - nu = k - X.length - (nu + 1) by omega]
          · rw [if_neg (by omega), if_neg h4, if_pos (by omega), if_neg (by omega), if_neg (by omega), if_pos (by omega), if_neg (by omega), show k - X.length - 1 - nu - no = k - X.length - (nu + 1) - no by omega]
  · repeat' split at e
    all_goals omega
theorem qU_push : va_up (qU aw nu) nu (some q) = qU (up1 aw (3 * nu) q) (nu + 1) := by
  funext i
  unfold va_up qU up1
  by_cases h : i = nu
  · subst h; simp
  · by_cases h2 : i < nu
    · simp [h, h2, show i < nu + 1 by omega, show ¬ 3 * i = 3 * nu by omega]
    · simp [h, h2, show ¬ i < nu + 1 by omega]
theorem qO_pushU {n k : Nat} {g : Nat → Option Nat} : qO (up1 aw (3 * k) q) n g = qO aw n g := by
  funext i
  unfold qO up1
  rw [if_neg (show ¬ 3 * i + 1 = 3 * k by omega)]
theorem qK_pushU {k : Nat} : qK (up1 aw (3 * k) q) = qK aw := by
  funext i
  unfold qK up1
  rw [if_neg (show ¬ 3 * i + 2 = 3 * k by omega)]
end RWS
