/-- the links to private members of nest mates -/
def nw_all : List Cond := [.methodLinkNest "FamilyChart" 11 ⟨"FamilyChart$Input", "<init>", "()V"⟩ "FamilyChart", .methodLinkNest "FamilyChart" 18 ⟨"FamilyChart$Family", "<init>", "()V"⟩ "FamilyChart", .methodLinkNest "FamilyChart$TextReader" 11 ⟨"FamilyChart$Family", "<init>", "()V"⟩ "FamilyChart", .methodLinkNest "FamilyChart$Rows" 60 ⟨"FamilyChart", "at", "([II)I"⟩ "FamilyChart", .methodLinkNest "FamilyChart$Family" 59 ⟨"FamilyChart", "at", "([II)I"⟩ "FamilyChart", .methodLinkNest "FamilyChart$Family" 101 ⟨"FamilyChart", "bit", "(I)I"⟩ "FamilyChart", .methodLinkNest "FamilyChart$History" 52 ⟨"FamilyChart", "put", "([III)V"⟩ "FamilyChart", .methodLinkNest "FamilyChart$History" 59 ⟨"FamilyChart", "copyCells", "([II[III)V"⟩ "FamilyChart", .methodLinkNest "FamilyChart$Rows" 86 ⟨"FamilyChart", "copyCells", "([II[III)V"⟩ "FamilyChart", .methodLinkNest "FamilyChart$Rows" 43 ⟨"FamilyChart", "put", "([III)V"⟩ "FamilyChart", .methodLinkNest "FamilyChart$History" 78 ⟨"FamilyChart", "at", "([II)I"⟩ "FamilyChart", .methodLinkNest "FamilyChart$Family" 67 ⟨"FamilyChart", "fill", "([II)V"⟩ "FamilyChart", .methodLinkNest "FamilyChart$Family" 55 ⟨"FamilyChart", "put", "([III)V"⟩ "FamilyChart", .methodLinkNest "FamilyChartLaw" 22 ⟨"FamilyChartLaw$Own", "<init>", "()V"⟩ "FamilyChartLaw", .methodLinkNest "FamilyChartLaw" 62 ⟨"FamilyChartLaw$Own", "in", "(II)Z"⟩ "FamilyChartLaw", .methodLinkNest "FamilyChartLaw" 66 ⟨"FamilyChartLaw$Own", "up", "(I)I"⟩ "FamilyChartLaw", .methodLinkNest "FamilyChartLaw" 59 ⟨"FamilyChartLaw$Own", "plain", "()V"⟩ "FamilyChartLaw", .methodLinkNest "FamilyChart$Input" 22 ⟨"FamilyChart", "put", "([III)V"⟩ "FamilyChart", .methodLinkNest "FamilyChartLaw" 87 ⟨"FamilyChartLaw$Own", "name", "(II)C"⟩ "FamilyChartLaw", .methodLinkNest "FamilyChart$Input" 45 ⟨"FamilyChart", "at", "([II)I"⟩ "FamilyChart", .methodLinkNest "FamilyChart$TextReader" 140 ⟨"FamilyChart", "at", "([II)I"⟩ "FamilyChart", .methodLinkNest "FamilyChart$TextReader" 93 ⟨"FamilyChart", "put", "([III)V"⟩ "FamilyChart", .methodLinkNest "FamilyChart$Family" 63 ⟨"FamilyChart", "copyCells", "([II[III)V"⟩ "FamilyChart", .methodLinkNest "FamilyChartLaw" 126 ⟨"FamilyChartLaw$Own", "gen", "(I)I"⟩ "FamilyChartLaw", .methodLinkNest "FamilyChartLaw" 176 ⟨"FamilyChartLaw$Own", "turn", "(III)V"⟩ "FamilyChartLaw", .methodLinkNest "FamilyChartLaw" 120 ⟨"FamilyChartLaw$Own", "all", "()I"⟩ "FamilyChartLaw", .methodLinkNest "FamilyChartLaw" 186 ⟨"FamilyChartLaw$Own", "improve", "(I)I"⟩ "FamilyChartLaw", .methodLinkNest "FamilyChartLaw" 187 ⟨"FamilyChartLaw$Own", "arrange", "()V"⟩ "FamilyChartLaw", .methodLinkNest "FamilyChart$Rows" 93 ⟨"FamilyChart", "unionOfReference", "(I)I"⟩ "FamilyChart", .methodLinkNest "FamilyChart$Columns" 64 ⟨"FamilyChart", "at", "([II)I"⟩ "FamilyChart", .methodLinkNest "FamilyChart$Columns" 50 ⟨"FamilyChart", "put", "([III)V"⟩ "FamilyChart", .methodLinkNest "FamilyChart$Relations" 38 ⟨"FamilyChart", "at", "([II)I"⟩ "FamilyChart", .methodLinkNest "FamilyChart$Relations" 74 ⟨"FamilyChart", "bit", "(I)I"⟩ "FamilyChart", .methodLinkNest "FamilyChart$Relations" 80 ⟨"FamilyChart", "fill", "([II)V"⟩ "FamilyChart", .methodLinkNest "FamilyChart$Relations" 84 ⟨"FamilyChart", "put", "([III)V"⟩ "FamilyChart", .methodLinkNest "FamilyChart$Printer" 47 ⟨"FamilyChart", "put", "([III)V"⟩ "FamilyChart", .methodLinkNest "FamilyChart$Printer" 80 ⟨"FamilyChart", "at", "([II)I"⟩ "FamilyChart"]
set_option maxRecDepth 20000 in
theorem nw_in : ∀ w ∈ nw_all, w ∈ lw_tbl := by decide +kernel
def nw_ok (w : Cond) : Bool := match w with
  | .methodLinkNest _ _ _ _ => true
  | _ => false
theorem nw_shape : ∀ w ∈ nw_all, nw_ok w = true := by decide +kernel
def NW (U : State) : Prop := ∀ w ∈ nw_all, va_Nw w U
theorem NW.of {A : Array Value} {U : State} (h : ∀ w ∈ lw_tbl, w.before A U = true) : NW U := fun w hw => by
  have h1 := nw_shape w hw
  have h2 := h w (nw_in w hw)
  cases w <;> first | exact va_Nw.of rfl h2 | (exact absurd h1 (by simp [nw_ok]))
theorem NW.warm {s U : State} (hW : s.WarmedH U.vm) (h : NW s) : NW U := fun w hw => by
  have h1 := nw_shape w hw
  have h2 := h w hw
  cases w <;> first | exact va_Nw.warmM hW h2 | (exact absurd h1 (by simp [nw_ok]))
theorem NW.same {u U : State} (e : u.vm = U.vm) (h : NW u) : NW U := fun w hw => by
  have h1 := nw_shape w hw
  have h2 := h w hw
  cases w <;> first | exact va_Nw.same rfl e h2 | (exact absurd h1 (by simp [nw_ok]))
/-- one list of words for all methods -/
def gw : List Cond := lw_tbl.filter goodWord
theorem gw_t (i : Nat) {w : Cond} (h : tables_1[i]? = some w) (g : goodWord w = true) : w ∈ gw := List.mem_filter.mpr ⟨List.mem_append_right _ (List.mem_of_getElem? h), g⟩
theorem gw_s (i : Nat) {q : MethodName × Nat} (h : lw_privs[i]? = some q) : Cond.selects q.1.cls q.1 q.1 ∈ gw := List.mem_filter.mpr ⟨List.mem_append_left _ (List.mem_map.mpr ⟨q, List.mem_of_getElem? h, rfl⟩), rfl⟩
def uws (y : MethodName) (bytes : ByteArray) (maxL : Nat) (ret : Option FieldType) : List Cond := .code y bytes maxL ret :: gw
theorem uws_good {y y2 : MethodName} {bytes b2 : ByteArray} {maxL m2 : Nat} {ret r2 : Option FieldType} (h : Cond.code y2 b2 m2 r2 ∈ gw) : GoodIn (uws y bytes maxL ret) (uws y2 b2 m2 r2) := fun w hw => by
  have hg : w ∈ gw := by
    rcases List.mem_cons.mp hw with rfl | h2
    · exact h
    · exact h2
  exact ⟨List.mem_cons_of_mem _ hg, good_of_word (List.mem_filter.mp hg).2⟩
abbrev ty3 (cI cJ cZ cK : ClassId) : List (ClassId × FieldType) := [(cI, .int), (cJ, .long), (cZ, .array .int), (cK, .array .long)]
/-- what stays of the tables: the classes, the array classes, the nest links -/
def gE (dC : Nat → ClassId) (dI : Nat → Nat → Nat) (cI cJ cZ cK : ClassId) (U : State) : Prop := va_K (dC, dI) vwCl (ty3 cI cJ cZ cK) U ∧ NW U
theorem gE.warm {dC : Nat → ClassId} {dI : Nat → Nat → Nat} {cI cJ cZ cK : ClassId} {s U : State} (hW : s.WarmedH U.vm) (h : gE dC dI cI cJ cZ cK s) : gE dC dI cI cJ cZ cK U := ⟨va_K.moved hW.alike h.1, NW.warm hW h.2⟩
theorem gE.calling {dC : Nat → ClassId} {dI : Nat → Nat → Nat} {cI cJ cZ cK : ClassId} {U : State} {g : JFrame} {mk : MethodId} {a : Array Value} (h : gE dC dI cI cJ cZ cK U) : gE dC dI cI cJ cZ cK (U.calling g mk a) := ⟨va_K.moved (u := U) (U := U.calling g mk a) (Vm.Alike.refl U.vm) h.1, NW.same (u := U) (U := U.calling g mk a) rfl h.2⟩
/-- a method's start: its world wc, in a heap of size sz -/
def gPre (dC : Nat → ClassId) (dI : Nat → Nat → Nat) (cI cJ cZ cK : ClassId) (sz : Nat) (wc : va_W) (U : State) : Prop := U.heap.size = sz ∧ va_P (dC, dI) vwCl wc U.heap ∧ gE dC dI cI cJ cZ cK U ∧ va_D (fun _ => True) wc
/-- a method's end: it returns rv, its world is w1 -/
def gQ (dC : Nat → ClassId) (dI : Nat → Nat → Nat) (rv : Option Value) (A : Nat → Prop) (w1 : va_W) : Array Value → State → Outcome → State → Prop := fun _ st oc t => (oc = .returned rv ∧ va_P (dC, dI) vwCl w1 t.heap ∧ va_D A w1) ∧ va_F A st t
/-- THE CONTRACT of a method that makes nothing: from the world wc it returns rv, and its world is w1 -/
def gM (l : Launch) (dC : Nat → ClassId) (dI : Nat → Nat → Nat) (cI cJ cZ cK : ClassId) (y : MethodName) (bytes : ByteArray) (maxL : Nat) (ret : Option FieldType) (fr lo : Nat) (As : List Value) (wc w1 : va_W) (rv : Option Value) : Prop :=
  ∀ sz : Nat, Met l y (uws y bytes maxL ret) ({ frames := fr, cells := 0, slots := 0, locals := lo }) (va_Pc As (gPre dC dI cI cJ cZ cK sz wc)) (gQ dC dI rv (va_A wc sz) w1) 0 0 (va_A wc sz)
/-- what the tables say of a static method, of a virtual one -/
def mS (y : MethodName) (bytes : ByteArray) (maxL : Nat) (ret : Option FieldType) (n : Nat) : Prop := Cond.code y bytes maxL ret ∈ gw ∧ Cond.static y ∈ gw ∧ Cond.initialized y.cls ∈ gw ∧ y.cls ≠ "java/lang/invoke/MethodHandle" ∧ y.cls ≠ "java/lang/invoke/VarHandle" ∧ (parseMethodDescriptor y.desc).map (fun d => d.parameters.length) = some n
def mV (y : MethodName) (bytes : ByteArray) (maxL : Nat) (ret : Option FieldType) (n : Nat) : Prop := Cond.code y bytes maxL ret ∈ gw ∧ Cond.instanceMethod y ∈ gw ∧ Cond.selects y.cls y y ∈ gw ∧ Cond.initialized y.cls ∈ gw ∧ y.cls ≠ "java/lang/invoke/MethodHandle" ∧ y.cls ≠ "java/lang/invoke/VarHandle" ∧ (parseMethodDescriptor y.desc).map (fun d => d.parameters.length) = some n
section GCALL
variable {p : Program} {l : Launch} {e : Env} {R : Room} {s : State} {m : MethodId} {args : Array Value} {below : List Frame} {meth : Method} {c : Code} {H : Heap} {locs : List Loc} {cells slots : Nat} {Q : State → Prop}
variable {dC : Nat → ClassId} {dI : Nat → Nat → Nat} {cI cJ cZ cK : ClassId} {A : Nat → Prop} {H0 : Heap}
variable {y yo : MethodName} {bytes cc : ByteArray} {maxL mlo nL n index pc fr lo : Nat} {ret ro : Option FieldType} {own C host : String} {b : Addr} {As rest st0 : List Value} {ls : Array Slot} {rv : Option Value} {wk wc w1 wr : va_W}
theorem g_after {a : Array Value} (hr : va_Run p l e R s m args below meth c H locs cells slots 0 0 (F0 m pc ls st0) rest (gQ dC dI rv (va_A wc H.size) w1 a) (va_A wc H.size)) (hP : va_P (dC, dI) vwCl wk H) (hD : va_D A wk) (hS : va_S A H0 H locs) (hA : ∀ q, H0.size ≤ q → A q)
    (isC isR : List Nat) (hC : isC.map (fun i => wk[i]?) = wc.map some) (hR : isR.map (fun i => wk[i]?) = wr.map some) (hn : va_nd isR = true) (hdis : ∀ i ∈ isR, i ∉ isC)
    (kk : ∀ (H1 : Heap) (locs1 : List Loc), va_P (dC, dI) vwCl (wr ++ w1) H1 → va_D A (wr ++ w1) → va_S A H0 H1 locs1 → W p l e R s m args below meth c H1 locs1 cells slots Q (F0 m (pc + 3) ls (rv.toList ++ rest))) : W p l e R s m args below meth c H locs cells slots Q (F0 m pc ls st0) := by
  have hF := va_free (wc := wc) hD hS hA isC hC
  intro T hT X
  obtain ⟨v, st₀, t, T', L, h0, X', hL, e1, e2, ⟨⟨hv, hP1, hD1⟩, hz, hk⟩, st⟩ := hr T hT X
  cases hv
  rw [h0] at hz hk
  rw [← e1] at hz hP1
  have hk' : ∀ q : Nat, q < H.size → ¬ va_A wc H.size q → T'.heap[q]? = H[q]? := fun q h1 h2 => by rw [e1]; exact hk q h1 h2
  obtain ⟨hP2, hD2⟩ := va_join (wr := wr) (w1 := w1) hP hD isC isR hC hR hn hdis hk' hF hP1 hD1
  have hS2 : va_S A H0 T'.heap (locs ++ L) := ⟨Nat.le_trans hS.1 hz, fun q h1 h2 => by rw [hk' q (Nat.lt_of_lt_of_le h1 hS.1) (fun z => h2 (hF q z))]; exact hS.2.1 q h1 h2, fun q hq => by
      rcases List.mem_append.mp hq with h | h
      · exact hS.2.2 q h
      · exact hF _ (hL q h)⟩
  obtain ⟨t2, a1, b1⟩ := kk T'.heap (locs ++ L) hP2 hD2 hS2 T' rfl X'
  exact ⟨t2, st t2 a1, b1⟩
theorem g_filt {ws' : va_W} (isC : List Nat) (h : isC.map (fun i => wk[i]?) = ws'.map some) : isC.filterMap (fun i => wk[i]?) = ws' := by
  have h1 : isC.filterMap (fun i => wk[i]?) = (isC.map (fun i => wk[i]?)).filterMap id := by rw [List.filterMap_map]; rfl
  rw [h1, h, List.filterMap_map]
  exact List.filterMap_some
theorem g_pre (hE : gE dC dI cI cJ cZ cK s) (hP : va_P (dC, dI) vwCl wk H) (hD : va_D A wk) (isC : List Nat) (hC : isC.map (fun i => wk[i]?) = wc.map some) (hn : va_nd isC = true) (vs : List Value) : PreS s H (va_Pc vs (gPre dC dI cI cJ cZ cK H.size wc)) vs := by
  have hPc := hP.sub (ws' := wc) isC (g_filt isC hC)
  have hDc := hD.sub (ws' := wc) isC hn hC
  refine ⟨fun a U g mk q => ?_, fun U hU hW => ⟨rfl, by rw [hU], by rw [hU]; exact hPc, hE.warm hW, hDc.weaken (fun _ _ _ _ => trivial)⟩⟩
  obtain ⟨q0, q1, qP, qE, qD⟩ := q
  exact ⟨q0, q1, qP, qE.calling, qD⟩
theorem g_payS (hts : ∀ w ∈ uws yo cc mlo ro, w.before args s = true) (hy : mS y bytes maxL ret n) (hl : (Cond.methodLink own index y).before args s = true) (hR : fr + 1 ≤ R.frames ∧ 8 + (maxL + 11) + lo ≤ R.locals) :
    CallB R s args own index y bytes maxL ret (uws y bytes maxL ret) ({ frames := fr, cells := 0, slots := 0, locals := lo }) 0 0 n ∧ (Cond.static y).before args s = true := by
  obtain ⟨h1, h2, h3, h4, h5, h6⟩ := hy
  exact ⟨callB_of n hts (uws_good h1) rfl rfl rfl (hts _ (List.mem_cons_of_mem _ h3)) hl ⟨h4, h5, h6⟩ hR, hts _ (List.mem_cons_of_mem _ h2)⟩
/-- a static method of the own class -/
theorem gcS (S : CallFix p m c cc nL s args (uws yo cc mlo ro) own) (hE : gE dC dI cI cJ cZ cK s) (hM : gM l dC dI cI cJ cZ cK y bytes maxL ret fr lo As wc w1 rv) (hy : mS y bytes maxL ret n) (hl : Cond.methodLink own index y ∈ gw) (hR : fr + 1 ≤ R.frames ∧ 8 + (maxL + 11) + lo ≤ R.locals)
    (hP : va_P (dC, dI) vwCl wk H) (hD : va_D A wk) (hS : va_S A H0 H locs) (hA : ∀ q, H0.size ≤ q → A q) (hcs : cells + 0 ≤ R.cells ∧ slots + 0 ≤ R.slots)
    (isC isR : List Nat) (hC : isC.map (fun i => wk[i]?) = wc.map some) (hnC : va_nd isC = true) (hRr : isR.map (fun i => wk[i]?) = wr.map some) (hn : va_nd isR = true) (hdis : ∀ i ∈ isR, i ∉ isC)
    (hlen : As.length = n) (hsize : ls.size = nL) (hst : st0 = As.reverse ++ rest) (hrest : (rest.map fun v => v.category).sum ≤ 8) (hdg : decode cc pc = .ok (.invokestatic index, 3))
    (kk : ∀ (H1 : Heap) (locs1 : List Loc), va_P (dC, dI) vwCl (wr ++ w1) H1 → va_D A (wr ++ w1) → va_S A H0 H1 locs1 → W p l e R s m args below meth c H1 locs1 cells slots Q (F0 m (pc + 3) ls (rv.toList ++ rest))) : W p l e R s m args below meth c H locs cells slots Q (F0 m pc ls st0) := by
  have hr := va_runS (e := e) (locs := locs) (cells := cells) (slots := slots) (below := below) (meth := meth) (g := F0 m pc ls st0) (rest := rest) S (hM H.size) (g_payS S.2.2.2.2 hy (S.2.2.2.2 _ (List.mem_cons_of_mem _ hl)) hR) (g_pre hE hP hD isC hC hnC As) rfl hlen hsize hst (lv_room hrest) hdg hcs
  exact g_after hr hP hD hS hA isC isR hC hRr hn hdis kk
/-- a static private method of a nest mate -/
theorem gcSN (S : CallFix p m c cc nL s args (uws yo cc mlo ro) own) (hE : gE dC dI cI cJ cZ cK s) (hM : gM l dC dI cI cJ cZ cK y bytes maxL ret fr lo As wc w1 rv) (hy : mS y bytes maxL ret n) (hl : Cond.methodLinkNest own index y host ∈ nw_all) (hR : fr + 1 ≤ R.frames ∧ 8 + (maxL + 11) + lo ≤ R.locals)
    (hP : va_P (dC, dI) vwCl wk H) (hD : va_D A wk) (hS : va_S A H0 H locs) (hA : ∀ q, H0.size ≤ q → A q) (hcs : cells + 0 ≤ R.cells ∧ slots + 0 ≤ R.slots)
    (isC isR : List Nat) (hC : isC.map (fun i => wk[i]?) = wc.map some) (hnC : va_nd isC = true) (hRr : isR.map (fun i => wk[i]?) = wr.map some) (hn : va_nd isR = true) (hdis : ∀ i ∈ isR, i ∉ isC)
    (hlen : As.length = n) (hsize : ls.size = nL) (hst : st0 = As.reverse ++ rest) (hrest : (rest.map fun v => v.category).sum ≤ 8) (hdg : decode cc pc = .ok (.invokestatic index, 3))
    (kk : ∀ (H1 : Heap) (locs1 : List Loc), va_P (dC, dI) vwCl (wr ++ w1) H1 → va_D A (wr ++ w1) → va_S A H0 H1 locs1 → W p l e R s m args below meth c H1 locs1 cells slots Q (F0 m (pc + 3) ls (rv.toList ++ rest))) : W p l e R s m args below meth c H locs cells slots Q (F0 m pc ls st0) := by
  obtain ⟨h1, h2, h3, h4, h5, h6⟩ := id hy
  have hts := S.2.2.2.2
  have cw : va_CN R s args own index y host bytes maxL ret (uws y bytes maxL ret) ({ frames := fr, cells := 0, slots := 0, locals := lo }) 0 0 n ∧ (Cond.static y).before args s = true ∧ True :=
    ⟨va_cnB n hts (uws_good h1) rfl rfl rfl (hE.2 _ hl) (hts _ (List.mem_cons_of_mem _ h3)) ⟨h4, h5, h6⟩ hR, hts _ (List.mem_cons_of_mem _ h2), trivial⟩
  have hr := va_runSN (e := e) (locs := locs) (cells := cells) (slots := slots) (below := below) (meth := meth) (g := F0 m pc ls st0) (rest := rest) S (hM H.size) cw (g_pre hE hP hD isC hC hnC As) rfl hlen hsize hst (lv_room hrest) hdg hcs
  exact g_after hr hP hD hS hA isC isR hC hRr hn hdis kk
/-- a method of an object -/
theorem gcV (S : CallFix p m c cc nL s args (uws yo cc mlo ro) own) (hE : gE dC dI cI cJ cZ cK s) (hM : gM l dC dI cI cJ cZ cK y bytes maxL ret fr lo (.ref b :: As) wc w1 rv) (hy : mV y bytes maxL ret n) (hl : Cond.methodLink own index y ∈ gw) (hR : fr + 1 ≤ R.frames ∧ 8 + (maxL + 11) + lo ≤ R.locals)
    (hP : va_P (dC, dI) vwCl wk H) (hD : va_D A wk) (hS : va_S A H0 H locs) (hA : ∀ q, H0.size ≤ q → A q) (hcs : cells + 0 ≤ R.cells ∧ slots + 0 ≤ R.slots)
    (q0 ci : Nat) {fs : List Value} {q : vw_C} (hc : vwCl[ci]? = some q) (hq : q.1 = y.cls) (he : wk[q0]? = some (b, .inr (ci, fs)))
    (isC isR : List Nat) (hC : isC.map (fun i => wk[i]?) = wc.map some) (hnC : va_nd isC = true) (hRr : isR.map (fun i => wk[i]?) = wr.map some) (hn : va_nd isR = true) (hdis : ∀ i ∈ isR, i ∉ isC)
    (hlen : As.length = n) (hsize : ls.size = nL) (hst : st0 = As.reverse ++ .ref b :: rest) (hrest : (rest.map fun v => v.category).sum ≤ 8) (hdg : decode cc pc = .ok (.invokevirtual index, 3))
    (kk : ∀ (H1 : Heap) (locs1 : List Loc), va_P (dC, dI) vwCl (wr ++ w1) H1 → va_D A (wr ++ w1) → va_S A H0 H1 locs1 → W p l e R s m args below meth c H1 locs1 cells slots Q (F0 m (pc + 3) ls (rv.toList ++ rest))) : W p l e R s m args below meth c H locs cells slots Q (F0 m pc ls st0) := by
  obtain ⟨h1, h2, h3, h7, h4, h5, h6⟩ := id hy
  have hts := S.2.2.2.2
  have cw : CallW R s args own y.cls index y bytes maxL ret (uws y bytes maxL ret) ({ frames := fr, cells := 0, slots := 0, locals := lo }) 0 0 n :=
    ⟨callB_of n hts (uws_good h1) rfl rfl rfl (hts _ (List.mem_cons_of_mem _ h7)) (hts _ (List.mem_cons_of_mem _ hl)) ⟨h4, h5, h6⟩ hR, hts _ (List.mem_cons_of_mem _ h2), hts _ (List.mem_cons_of_mem _ h3)⟩
  have hrv := va_recv hE.1 hP hc he
  rw [hq] at hrv
  have hp := g_pre hE hP hD isC hC hnC (.ref b :: As)
  have hr := va_runV (e := e) (locs := locs) (cells := cells) (slots := slots) (below := below) (meth := meth) (g := F0 m pc ls st0) (rest := rest) S (hM H.size) cw ⟨hp.1, hrv, hp.2⟩ rfl hlen hsize hst (lv_room hrest) hdg hcs
  exact g_after hr hP hD hS hA isC isR hC hRr hn hdis kk
/-- a method's walk from its entry gives its contract -/
theorem g_start (hpn : plainName y.cls = true) (hcls : y.cls = own) (hle : (lg_sl As).length ≤ maxL)
    (k : ∀ (p : Program) (e : Env) (s : State) (m : MethodId) (below : List Frame) (meth : Method) (c : Code) (A : Nat → Prop) (ls : Array Slot), CallFix p m c bytes maxL s As.toArray (uws y bytes maxL ret) own → meth.sig.returnType = ret → meth.locks = false → gE dC dI cI cJ cZ cK s → va_P (dC, dI) vwCl wc s.heap → va_D A wc → va_S A s.heap s.heap [] → (∀ q : Nat, s.heap.size ≤ q → A q) → lv_has ls maxL (lv_args 0 As) → meth.name = y.name →
      W p l e ({ frames := fr, cells := 0, slots := 0, locals := lo }) s m As.toArray below meth c s.heap [] 0 0 (MQ below (gQ dC dI rv A w1) As.toArray s 0 0 A) (F0 m 0 ls [])) : gM l dC dI cI cJ cZ cK y bytes maxL ret fr lo As wc w1 rv := by
  intro sz
  refine Met.ofW (cc := bytes) (maxL := maxL) (ret := ret) hpn rfl ?_
  intro p e s m args below meth c s₁ B hml hv
  obtain ⟨rfl, hsz, hP, hE, hD0⟩ := hv
  have hts := atoms_spec (ws := uws y bytes maxL ret) B.pre
  have hown : s.vm.findClass own = some m.cls := by rw [← hcls]; exact findClass_of_methodNamed B.named
  have hin : meth.name = y.name := (name_of_methodNamed B.named B.method).1
  subst hsz
  have hD := hD0.self (sz := s.heap.size)
  have hl := lv_entry As (n := maxL) hle
  rw [lg_entry_eq]
  exact k p e s m below meth c (va_A wc s.heap.size) _ ⟨B.exec, B.bytes, hml, hown, hts⟩ B.returns B.notSynchronized hE hP hD va_S.rf (fun q h => Or.inr h) hl hin
theorem g_iret {v : Int32} {w1 : va_W} (S : CallFix p m c cc nL s args (uws yo cc mlo ro) own) (hr : meth.sig.returnType = some .int) (hlocks : meth.locks = false) (hP : va_P (dC, dI) vwCl w1 H) (hD : va_D A w1) (hS : va_S A s.heap H locs) (hdg : decode cc pc = .ok (.ireturn, 1)) :
    W p l e R s m args below meth c H locs 0 0 (MQ below (gQ dC dI (some (.int v)) A w1) args s 0 0 A) (F0 m pc ls [.int v]) :=
  W.iret (v := v) S.1 S.2.1 hr (fun t ht _ => ⟨⟨rfl, by rw [ht]; exact hP, hD⟩, hS.F ht⟩) hS.2.2 hdg hlocks
theorem g_zret {v : Int32} {w1 : va_W} (S : CallFix p m c cc nL s args (uws yo cc mlo ro) own) (hr : meth.sig.returnType = some .boolean) (hn : narrow .boolean (.int v) = .int v) (hlocks : meth.locks = false) (hP : va_P (dC, dI) vwCl w1 H) (hD : va_D A w1) (hS : va_S A s.heap H locs) (hdg : decode cc pc = .ok (.ireturn, 1)) :
    W p l e R s m args below meth c H locs 0 0 (MQ below (gQ dC dI (some (.int v)) A w1) args s 0 0 A) (F0 m pc ls [.int v]) :=
  W.zret (v := v) S.1 S.2.1 hr hn (fun t ht _ => ⟨⟨rfl, by rw [ht]; exact hP, hD⟩, hS.F ht⟩) hS.2.2 hdg hlocks
theorem g_lret {v : Int64} {w1 : va_W} (S : CallFix p m c cc nL s args (uws yo cc mlo ro) own) (hr : meth.sig.returnType = some .long) (hlocks : meth.locks = false) (hP : va_P (dC, dI) vwCl w1 H) (hD : va_D A w1) (hS : va_S A s.heap H locs) (hdg : decode cc pc = .ok (.lreturn, 1)) :
    W p l e R s m args below meth c H locs 0 0 (MQ below (gQ dC dI (some (.long v)) A w1) args s 0 0 A) (F0 m pc ls [.long v]) :=
  W.lret (v := v) S.1 S.2.1 hr (fun t ht _ => ⟨⟨rfl, by rw [ht]; exact hP, hD⟩, hS.F ht⟩) hS.2.2 hdg hlocks
theorem g_vret {w1 : va_W} (S : CallFix p m c cc nL s args (uws yo cc mlo ro) own) (hr : meth.sig.returnType = none) (hlocks : meth.locks = false) (hP : va_P (dC, dI) vwCl w1 H) (hD : va_D A w1) (hS : va_S A s.heap H locs) (hdg : decode cc pc = .ok (.return_, 1)) :
    W p l e R s m args below meth c H locs 0 0 (MQ below (gQ dC dI none A w1) args s 0 0 A) (F0 m pc ls []) :=
  W.vret S.1 S.2.1 hr (fun t ht _ => ⟨⟨rfl, by rw [ht]; exact hP, hD⟩, hS.F ht⟩) hS.2.2 hdg hlocks
end GCALL
