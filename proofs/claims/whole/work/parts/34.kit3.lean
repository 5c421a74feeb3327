def tx_2 : List Cond := vx_atS "FamilyChart" 98 "java/lang/IllegalArgumentException" ["java/lang/RuntimeException", "java/lang/Exception"]
set_option maxRecDepth 100000 in
theorem tx_good_2 : ∀ w ∈ tx_2.filter goodWord, w ∈ gw := by decide +kernel
set_option maxRecDepth 100000 in
theorem tx_cast_2 : ∀ w ∈ tx_2.filter (fun w => !goodWord w), w ∈ cs_all := by decide +kernel
set_option maxRecDepth 100000 in
theorem tx_ot_2 : ∀ w ∈ tx_2, vx_ot w = true := by decide +kernel
def tx_1 : List Cond := vx_atS "FamilyChart" 166 "java/util/NoSuchElementException" ["java/lang/RuntimeException", "java/lang/Exception"]
set_option maxRecDepth 100000 in
theorem tx_good_1 : ∀ w ∈ tx_1.filter goodWord, w ∈ gw := by decide +kernel
set_option maxRecDepth 100000 in
theorem tx_cast_1 : ∀ w ∈ tx_1.filter (fun w => !goodWord w), w ∈ cs_all := by decide +kernel
set_option maxRecDepth 100000 in
theorem tx_ot_1 : ∀ w ∈ tx_1, vx_ot w = true := by decide +kernel
section KIT3
variable {p : Program} {l : Launch} {e : Env} {R : Room} {s : State} {m : MethodId} {args : Array Value} {below : List Frame} {meth : Method} {c : Code} {H : Heap} {locs : List Loc} {cells slots : Nat} {Q : State → Prop}
variable {dC : Nat → ClassId} {dI : Nat → Nat → Nat} {cI cJ cZ : ClassId} {adK adV : Nat → Nat} {A : Nat → Prop}
variable {y yo : MethodName} {bytes cc : ByteArray} {maxL mlo nL n index pc fr lo kx : Nat} {ret ro : Option FieldType} {own host : String} {b : Addr} {As rest st0 : List Value} {ls : Array Slot} {rv : Option Value} {wk wc w0 w1 wr : va_W}
/-- where a throwing walk ends -/
def gTQ (dC : Nat → ClassId) (dI : Nat → Nat → Nat) (w0 : va_W) (kx : Nat) (below : List Frame) (a : Array Value) (s : State) (A : Nat → Prop) : State → Prop :=
  vx_MQ below (fun _ _ _ _ => False) (vx_X (fun _ : Unit => True) (fun E _ t => E = excN kx ∧ va_P (dC, dI) vwCl w0 t.heap) A) a s 1 6 A
theorem g_startT (hpn : plainName y.cls = true) (hcls : y.cls = own) (hle : (lg_sl As).length ≤ maxL)
    (k : ∀ (p : Program) (e : Env) (s : State) (m : MethodId) (below : List Frame) (meth : Method) (c : Code) (A : Nat → Prop) (ls : Array Slot), CallFix p m c bytes maxL s As.toArray (uws y bytes maxL ret) own → meth.locks = false → (∀ x ∈ c.exceptionTable.toList, False) → gE dC dI cI cJ cZ s → gH adK adV A s s.heap → va_P (dC, dI) vwCl wc s.heap → va_D A wc → va_S A s.heap s.heap [] → (∀ q : Nat, s.heap.size ≤ q → A q) → lv_has ls maxL (lv_args 0 As) →
      W p l e ({ frames := fr, cells := 1, slots := 6, locals := lo }) s m As.toArray below meth c s.heap [] 0 0 (gTQ dC dI wc kx below As.toArray s A) (F0 m 0 ls [])) : gT l dC dI cI cJ cZ adK adV y bytes maxL ret fr lo As wc kx := by
  intro sz
  refine vx_ofW (cc := bytes) (maxL := maxL) (ret := ret) hpn rfl ?_
  intro p e s m args below meth c s₁ B hml hno hv
  obtain ⟨rfl, ⟨hsz, hP, hE, hD0⟩, hG⟩ := hv
  have hts := atoms_spec (ws := uws y bytes maxL ret) B.pre
  have hown : s.vm.findClass own = some m.cls := by rw [← hcls]; exact findClass_of_methodNamed B.named
  subst hsz
  have hD := hD0.self (sz := s.heap.size)
  have hl := lv_entry As (n := maxL) hle
  rw [lg_entry_eq]
  exact k p e s m below meth c (va_A wc s.heap.size) _ ⟨B.exec, B.bytes, hml, hown, hts⟩ B.notSynchronized hno hE hG hP hD va_S.rf (fun q h => Or.inr h) hl
theorem g_heapX {t : State} (hP : va_P (dC, dI) vwCl w0 H) (hS : va_S A s.heap H locs) (hz : H.size ≤ t.heap.size) (hq : ∀ q : Nat, q < H.size → t.heap[q]? = H[q]?) : va_P (dC, dI) vwCl w0 t.heap ∧ va_F A s t :=
  ⟨hP.kept (fun k q hk => hq q.1 (vx_lt hP hk)), ⟨Nat.le_trans hS.1 hz, fun q h1 h2 => (hq q (Nat.lt_of_lt_of_le h1 hS.1)).trans (hS.2.1 q h1 h2)⟩⟩
theorem g_throw1 {is ik sa : Nat} {text : String} (S : CallFix p m c cc nL s args (uws yo cc mlo ro) "FamilyChart") (hst : l.stackTraces = false) (hG : gH adK adV A s s.heap) (hno : ∀ x ∈ c.exceptionTable.toList, False) (hlocks : meth.locks = false)
    (hP : va_P (dC, dI) vwCl w0 H) (hS : va_S A s.heap H locs) (hsize : ls.size = nL) (hk : Cond.classLink "FamilyChart" ik "java/util/NoSuchElementException" ∈ gw) (i : Nat) (hi : strs[i]? = some ("FamilyChart", is, text, sa)) (hR : 6 ≤ R.frames ∧ 90 ≤ R.locals ∧ 1 ≤ R.cells ∧ 6 ≤ R.slots)
    (d0 : decode cc pc = .ok (.new ik, 3)) (d3 : decode cc (pc + 3) = .ok (.dup, 1)) (d4 : decode cc (pc + 4) = .ok (.ldc is, 2)) (d6 : decode cc (pc + 6) = .ok (.invokespecial 166, 3)) (d9 : decode cc (pc + 9) = .ok (.athrow, 1)) :
    W p l e R s m args below meth c H locs 0 0 (gTQ dC dI w0 1 below args s A) (F0 m pc ls []) := by
  obtain ⟨hx, hb, hml, hown, hts⟩ := S
  have htg : ∀ z ∈ gw, z.before args s = true := fun w h => hts w (List.mem_cons_of_mem _ h)
  refine vx_throwS hx hb hst (own := "FamilyChart") (cls := "java/util/NoSuchElementException") (names := ["java/lang/RuntimeException", "java/lang/Exception"]) (text := text) (sa := sa) hown (by decide +kernel) (by decide +kernel) (htg _ hk) (htg _ tw21) (hG.2.2.1 i _ hi)
    (vx_hat (B := cs_all) (fun w h => htg w (tx_good_1 w h)) tx_cast_1 (fun w h => by
      have h2 := hG.2.2.2.1 w h
      rcases cs_two h with rfl | rfl <;> exact va_Nw.use rfl h2)) ?_ hG.1 hG.2.1 hS (by rw [hsize, hml]) d0 d3 d4 d6 d9 (fun x h => (hno x h).elim) ?_ ?_ ?_ ?_ hlocks
    (fun t hvm hz hq => ⟨(), trivial, ⟨rfl, (g_heapX hP hS hz hq).1⟩, (g_heapX hP hS hz hq).2⟩) hS.2.2 (by omega) (by omega)
  · intro w h
    rcases List.mem_cons.mp h with rfl | h
    · rfl
    · rcases List.mem_cons.mp h with rfl | h
      · rfl
      · exact tx_ot_1 w h
  · show 2 + 3 < R.frames; omega
  · show 0 + (13 * (2 + 1) + 43) ≤ R.locals; omega
  · omega
  · omega
theorem g_throw1w {is ik sa : Nat} {text : String} (S : CallFix p m c cc nL s args (uws yo cc mlo ro) "FamilyChart") (hst : l.stackTraces = false) (hG : gH adK adV A s s.heap) (hno : ∀ x ∈ c.exceptionTable.toList, False) (hlocks : meth.locks = false)
    (hP : va_P (dC, dI) vwCl w0 H) (hS : va_S A s.heap H locs) (hsize : ls.size = nL) (hk : Cond.classLink "FamilyChart" ik "java/util/NoSuchElementException" ∈ gw) (i : Nat) (hi : strs[i]? = some ("FamilyChart", is, text, sa)) (hR : 6 ≤ R.frames ∧ 90 ≤ R.locals ∧ 1 ≤ R.cells ∧ 6 ≤ R.slots)
    (d0 : decode cc pc = .ok (.new ik, 3)) (d3 : decode cc (pc + 3) = .ok (.dup, 1)) (d4 : decode cc (pc + 4) = .ok (.ldc_w is, 3)) (d6 : decode cc (pc + 7) = .ok (.invokespecial 166, 3)) (d9 : decode cc (pc + 10) = .ok (.athrow, 1)) :
    W p l e R s m args below meth c H locs 0 0 (gTQ dC dI w0 1 below args s A) (F0 m pc ls []) := by
  obtain ⟨hx, hb, hml, hown, hts⟩ := S
  have htg : ∀ z ∈ gw, z.before args s = true := fun w h => hts w (List.mem_cons_of_mem _ h)
  refine vx_throwSW hx hb hst (own := "FamilyChart") (cls := "java/util/NoSuchElementException") (names := ["java/lang/RuntimeException", "java/lang/Exception"]) (text := text) (sa := sa) hown (by decide +kernel) (by decide +kernel) (htg _ hk) (htg _ tw21) (hG.2.2.1 i _ hi)
    (vx_hat (B := cs_all) (fun w h => htg w (tx_good_1 w h)) tx_cast_1 (fun w h => by
      have h2 := hG.2.2.2.1 w h
      rcases cs_two h with rfl | rfl <;> exact va_Nw.use rfl h2)) ?_ hG.1 hG.2.1 hS (by rw [hsize, hml]) d0 d3 d4 d6 d9 (fun x h => (hno x h).elim) ?_ ?_ ?_ ?_ hlocks
    (fun t hvm hz hq => ⟨(), trivial, ⟨rfl, (g_heapX hP hS hz hq).1⟩, (g_heapX hP hS hz hq).2⟩) hS.2.2 (by omega) (by omega)
  · intro w h
    rcases List.mem_cons.mp h with rfl | h
    · rfl
    · rcases List.mem_cons.mp h with rfl | h
      · rfl
      · exact tx_ot_1 w h
  · show 2 + 3 < R.frames; omega
  · show 0 + (13 * (2 + 1) + 43) ≤ R.locals; omega
  · omega
  · omega
theorem g_throw2 {is ik sa : Nat} {text : String} (S : CallFix p m c cc nL s args (uws yo cc mlo ro) "FamilyChart") (hst : l.stackTraces = false) (hG : gH adK adV A s s.heap) (hno : ∀ x ∈ c.exceptionTable.toList, False) (hlocks : meth.locks = false)
    (hP : va_P (dC, dI) vwCl w0 H) (hS : va_S A s.heap H locs) (hsize : ls.size = nL) (hk : Cond.classLink "FamilyChart" ik "java/lang/IllegalArgumentException" ∈ gw) (i : Nat) (hi : strs[i]? = some ("FamilyChart", is, text, sa)) (hR : 6 ≤ R.frames ∧ 90 ≤ R.locals ∧ 1 ≤ R.cells ∧ 6 ≤ R.slots)
    (d0 : decode cc pc = .ok (.new ik, 3)) (d3 : decode cc (pc + 3) = .ok (.dup, 1)) (d4 : decode cc (pc + 4) = .ok (.ldc is, 2)) (d6 : decode cc (pc + 6) = .ok (.invokespecial 98, 3)) (d9 : decode cc (pc + 9) = .ok (.athrow, 1)) :
    W p l e R s m args below meth c H locs 0 0 (gTQ dC dI w0 2 below args s A) (F0 m pc ls []) := by
  obtain ⟨hx, hb, hml, hown, hts⟩ := S
  have htg : ∀ z ∈ gw, z.before args s = true := fun w h => hts w (List.mem_cons_of_mem _ h)
  refine vx_throwS hx hb hst (own := "FamilyChart") (cls := "java/lang/IllegalArgumentException") (names := ["java/lang/RuntimeException", "java/lang/Exception"]) (text := text) (sa := sa) hown (by decide +kernel) (by decide +kernel) (htg _ hk) (htg _ tw15) (hG.2.2.1 i _ hi)
    (vx_hat (B := cs_all) (fun w h => htg w (tx_good_2 w h)) tx_cast_2 (fun w h => by
      have h2 := hG.2.2.2.1 w h
      rcases cs_two h with rfl | rfl <;> exact va_Nw.use rfl h2)) ?_ hG.1 hG.2.1 hS (by rw [hsize, hml]) d0 d3 d4 d6 d9 (fun x h => (hno x h).elim) ?_ ?_ ?_ ?_ hlocks
    (fun t hvm hz hq => ⟨(), trivial, ⟨rfl, (g_heapX hP hS hz hq).1⟩, (g_heapX hP hS hz hq).2⟩) hS.2.2 (by omega) (by omega)
  · intro w h
    rcases List.mem_cons.mp h with rfl | h
    · rfl
    · rcases List.mem_cons.mp h with rfl | h
      · rfl
      · exact tx_ot_2 w h
  · show 2 + 3 < R.frames; omega
  · show 0 + (13 * (2 + 1) + 43) ≤ R.locals; omega
  · omega
  · omega
theorem g_throw2w {is ik sa : Nat} {text : String} (S : CallFix p m c cc nL s args (uws yo cc mlo ro) "FamilyChart") (hst : l.stackTraces = false) (hG : gH adK adV A s s.heap) (hno : ∀ x ∈ c.exceptionTable.toList, False) (hlocks : meth.locks = false)
    (hP : va_P (dC, dI) vwCl w0 H) (hS : va_S A s.heap H locs) (hsize : ls.size = nL) (hk : Cond.classLink "FamilyChart" ik "java/lang/IllegalArgumentException" ∈ gw) (i : Nat) (hi : strs[i]? = some ("FamilyChart", is, text, sa)) (hR : 6 ≤ R.frames ∧ 90 ≤ R.locals ∧ 1 ≤ R.cells ∧ 6 ≤ R.slots)
    (d0 : decode cc pc = .ok (.new ik, 3)) (d3 : decode cc (pc + 3) = .ok (.dup, 1)) (d4 : decode cc (pc + 4) = .ok (.ldc_w is, 3)) (d6 : decode cc (pc + 7) = .ok (.invokespecial 98, 3)) (d9 : decode cc (pc + 10) = .ok (.athrow, 1)) :
    W p l e R s m args below meth c H locs 0 0 (gTQ dC dI w0 2 below args s A) (F0 m pc ls []) := by
  obtain ⟨hx, hb, hml, hown, hts⟩ := S
  have htg : ∀ z ∈ gw, z.before args s = true := fun w h => hts w (List.mem_cons_of_mem _ h)
  refine vx_throwSW hx hb hst (own := "FamilyChart") (cls := "java/lang/IllegalArgumentException") (names := ["java/lang/RuntimeException", "java/lang/Exception"]) (text := text) (sa := sa) hown (by decide +kernel) (by decide +kernel) (htg _ hk) (htg _ tw15) (hG.2.2.1 i _ hi)
    (vx_hat (B := cs_all) (fun w h => htg w (tx_good_2 w h)) tx_cast_2 (fun w h => by
      have h2 := hG.2.2.2.1 w h
      rcases cs_two h with rfl | rfl <;> exact va_Nw.use rfl h2)) ?_ hG.1 hG.2.1 hS (by rw [hsize, hml]) d0 d3 d4 d6 d9 (fun x h => (hno x h).elim) ?_ ?_ ?_ ?_ hlocks
    (fun t hvm hz hq => ⟨(), trivial, ⟨rfl, (g_heapX hP hS hz hq).1⟩, (g_heapX hP hS hz hq).2⟩) hS.2.2 (by omega) (by omega)
  · intro w h
    rcases List.mem_cons.mp h with rfl | h
    · rfl
    · rcases List.mem_cons.mp h with rfl | h
      · rfl
      · exact tx_ot_2 w h
  · show 2 + 3 < R.frames; omega
  · show 0 + (13 * (2 + 1) + 43) ≤ R.locals; omega
  · omega
  · omega
/-- behind a call that throws: in the caller, with the throw under way -/
theorem g_afterX {a : Array Value} {mc ms : Nat} (hr : vx_Run p l e R s m args below meth c H locs cells slots mc ms (F0 m pc ls st0) rest ((fun _ _ _ _ => False : Array Value → State → Outcome → State → Prop) a) (vx_X (fun _ : Unit => True) (fun E _ t => E = excN kx ∧ va_P (dC, dI) vwCl wc t.heap) (va_A wc H.size)) (va_A wc H.size)) (hP : va_P (dC, dI) vwCl wk H) (hD : va_D A wk) (hS : va_S A s.heap H locs) (hA : ∀ q, s.heap.size ≤ q → A q)
    (isC isR : List Nat) (hC : isC.map (fun i => wk[i]?) = wc.map some) (hnC : va_nd isC = true) (hR : isR.map (fun i => wk[i]?) = wr.map some) (hn : va_nd isR = true) (hdis : ∀ i ∈ isR, i ∉ isC)
    (kk : ∀ (H1 : Heap) (locs1 : List Loc) (q : Addr) (ce : Cell), va_P (dC, dI) vwCl (wr ++ wc) H1 → va_D A (wr ++ wc) → va_S A s.heap H1 locs1 → H1[q]? = some ce → ce.vm = .none → s.vm.findClass (excN kx) = some ce.cls → vx_W p l e R s m args below meth c H1 locs1 (cells + mc) (slots + ms) Q (F0 m pc ls rest) q) : W p l e R s m args below meth c H locs cells slots Q (F0 m pc ls st0) := by
  have hF := va_free (wc := wc) hD hS hA isC hC
  intro T hT X
  rcases hr T hT X with ⟨v, st₀, t, T', L, h0, X', hL, e1, e2, hq, st⟩ | ⟨q, st₀, t, T', L, E, ce, h0, X', hL, e1, e2, hx, hce, hcv, hcl, st⟩
  · exact False.elim hq
  · obtain ⟨u, -, ⟨hE, hP1⟩, hz, hk⟩ := hx
    rw [h0] at hz hk
    rw [← e1] at hz hP1
    have hk' : ∀ q : Nat, q < H.size → ¬ va_A wc H.size q → T'.heap[q]? = H[q]? := fun q h1 h2 => by rw [e1]; exact hk q h1 h2
    obtain ⟨hP2, hD2⟩ := va_join (wr := wr) (w1 := wc) hP hD isC isR hC hR hn hdis hk' hF hP1 (hD.sub isC hnC hC).self
    have hS2 : va_S A s.heap T'.heap (locs ++ L) := ⟨Nat.le_trans hS.1 hz, fun q h1 h2 => by rw [hk' q (Nat.lt_of_lt_of_le h1 hS.1) (fun z => h2 (hF q z))]; exact hS.2.1 q h1 h2, fun q hq => by
        rcases List.mem_append.mp hq with h | h
        · exact hS.2.2 q h
        · exact hF _ (hL q h)⟩
    subst hE
    obtain ⟨t2, a1, b1⟩ := kk T'.heap (locs ++ L) q ce hP2 hD2 hS2 (by rw [e1]; exact hce) hcv hcl T' rfl X'
    exact ⟨t2, st.trans a1, b1⟩
/-- a call that throws, passed on -/
theorem g_passX {a : Array Value} (hr : vx_Run p l e R s m args below meth c H locs 0 0 1 6 (F0 m pc ls st0) rest ((fun _ _ _ _ => False : Array Value → State → Outcome → State → Prop) a) (vx_X (fun _ : Unit => True) (fun E _ t => E = excN kx ∧ va_P (dC, dI) vwCl wc t.heap) (va_A wc H.size)) (va_A wc H.size)) (hno : ∀ x ∈ c.exceptionTable.toList, False) (hlocks : meth.locks = false) (hP : va_P (dC, dI) vwCl wk H) (hD : va_D A wk) (hS : va_S A s.heap H locs) (hA : ∀ q, s.heap.size ≤ q → A q)
    (isC isR : List Nat) (hC : isC.map (fun i => wk[i]?) = wc.map some) (hnC : va_nd isC = true) (hR : isR.map (fun i => wk[i]?) = wr.map some) (hn : va_nd isR = true) (hdis : ∀ i ∈ isR, i ∉ isC) (isB : List Nat) (hB : isB.filterMap (fun i => (wr ++ wc)[i]?) = w0) :
    W p l e R s m args below meth c H locs 0 0 (gTQ dC dI w0 kx below args s A) (F0 m pc ls st0) :=
  g_afterX hr hP hD hS hA isC isR hC hnC hR hn hdis (fun H1 locs1 q ce hP1 hD1 hS1 hce hcv hcl => vx_out (fun x h => (hno x h).elim) hlocks hce hcv hcl (fun t2 h2 _ => ⟨(), trivial, ⟨rfl, by rw [h2]; exact hP1.sub isB hB⟩, hS1.F h2⟩) hS1.2.2 (by omega) (by omega))
theorem gcVT (S : CallFix p m c cc nL s args (uws yo cc mlo ro) own) (hE : gE dC dI cI cJ cZ s) (hG : gH adK adV A s s.heap) (hM : gT l dC dI cI cJ cZ adK adV y bytes maxL ret fr lo (.ref b :: As) wc kx) (hy : mV y bytes maxL ret n) (hl : Cond.methodLink own index y ∈ gw) (hR : fr + 1 ≤ R.frames ∧ 8 + (maxL + 11) + lo ≤ R.locals) (hno : ∀ x ∈ c.exceptionTable.toList, False) (hlocks : meth.locks = false)
    (hP : va_P (dC, dI) vwCl wk H) (hD : va_D A wk) (hS : va_S A s.heap H locs) (hA : ∀ q, s.heap.size ≤ q → A q) (hcs : 1 ≤ R.cells ∧ 6 ≤ R.slots)
    (q0 ci : Nat) {fs : List Value} {q : vw_C} (hc : vwCl[ci]? = some q) (hq : q.1 = y.cls) (he : wk[q0]? = some (b, .inr (ci, fs)))
    (isC isR : List Nat) (hC : isC.map (fun i => wk[i]?) = wc.map some) (hnC : va_nd isC = true) (hRr : isR.map (fun i => wk[i]?) = wr.map some) (hn : va_nd isR = true) (hdis : ∀ i ∈ isR, i ∉ isC)
    (hlen : As.length = n) (hsize : ls.size = nL) (hst : st0 = As.reverse ++ .ref b :: rest) (hrest : (rest.map fun v => v.category).sum ≤ 8) (hdg : decode cc pc = .ok (.invokevirtual index, 3))
    (isB : List Nat) (hB : isB.filterMap (fun i => (wr ++ wc)[i]?) = w0) : W p l e R s m args below meth c H locs 0 0 (gTQ dC dI w0 kx below args s A) (F0 m pc ls st0) := by
  obtain ⟨h1, h2, h3, h7, h4, h5, h6⟩ := id hy
  have hts := S.2.2.2.2
  have cw : CallW R s args own y.cls index y bytes maxL ret (uws y bytes maxL ret) ({ frames := fr, cells := 1, slots := 6, locals := lo }) 1 6 n :=
    ⟨callB_of n hts (uws_good h1) rfl rfl rfl (hts _ (List.mem_cons_of_mem _ h7)) (hts _ (List.mem_cons_of_mem _ hl)) ⟨h4, h5, h6⟩ hR, hts _ (List.mem_cons_of_mem _ h2), hts _ (List.mem_cons_of_mem _ h3)⟩
  have hrv := va_recv hE.1 hP hc he
  rw [hq] at hrv
  have hp := g_preH hE hG hP hD hS hA isC hC hnC (.ref b :: As)
  have hr := vx_runV (e := e) (locs := locs) (cells := 0) (slots := 0) (below := below) (meth := meth) (g := F0 m pc ls st0) (rest := rest) S (hM H.size) cw ⟨hp.1, hrv, hp.2⟩ rfl hlen hsize hst (lv_room hrest) hdg ⟨by omega, by omega⟩
  exact g_passX hr hno hlocks hP hD hS hA isC isR hC hnC hRr hn hdis isB hB
theorem gcST (S : CallFix p m c cc nL s args (uws yo cc mlo ro) own) (hE : gE dC dI cI cJ cZ s) (hG : gH adK adV A s s.heap) (hM : gT l dC dI cI cJ cZ adK adV y bytes maxL ret fr lo As wc kx) (hy : mS y bytes maxL ret n) (hl : Cond.methodLink own index y ∈ gw) (hR : fr + 1 ≤ R.frames ∧ 8 + (maxL + 11) + lo ≤ R.locals) (hno : ∀ x ∈ c.exceptionTable.toList, False) (hlocks : meth.locks = false)
    (hP : va_P (dC, dI) vwCl wk H) (hD : va_D A wk) (hS : va_S A s.heap H locs) (hA : ∀ q, s.heap.size ≤ q → A q) (hcs : 1 ≤ R.cells ∧ 6 ≤ R.slots)
    (isC isR : List Nat) (hC : isC.map (fun i => wk[i]?) = wc.map some) (hnC : va_nd isC = true) (hRr : isR.map (fun i => wk[i]?) = wr.map some) (hn : va_nd isR = true) (hdis : ∀ i ∈ isR, i ∉ isC)
    (hlen : As.length = n) (hsize : ls.size = nL) (hst : st0 = As.reverse ++ rest) (hrest : (rest.map fun v => v.category).sum ≤ 8) (hdg : decode cc pc = .ok (.invokestatic index, 3))
    (isB : List Nat) (hB : isB.filterMap (fun i => (wr ++ wc)[i]?) = w0) : W p l e R s m args below meth c H locs 0 0 (gTQ dC dI w0 kx below args s A) (F0 m pc ls st0) := by
  obtain ⟨h1, h2, h3, h4, h5, h6⟩ := id hy
  have hts := S.2.2.2.2
  have cw : CallB R s args own index y bytes maxL ret (uws y bytes maxL ret) ({ frames := fr, cells := 1, slots := 6, locals := lo }) 1 6 n ∧ (Cond.static y).before args s = true :=
    ⟨callB_of n hts (uws_good h1) rfl rfl rfl (hts _ (List.mem_cons_of_mem _ h3)) (hts _ (List.mem_cons_of_mem _ hl)) ⟨h4, h5, h6⟩ hR, hts _ (List.mem_cons_of_mem _ h2)⟩
  have hr := vx_runS (e := e) (locs := locs) (cells := 0) (slots := 0) (below := below) (meth := meth) (g := F0 m pc ls st0) (rest := rest) S (hM H.size) cw (g_preH hE hG hP hD hS hA isC hC hnC As) rfl hlen hsize hst (lv_room hrest) hdg ⟨by omega, by omega⟩
  exact g_passX hr hno hlocks hP hD hS hA isC isR hC hnC hRr hn hdis isB hB
end KIT3
