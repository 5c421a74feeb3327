section KIT5
variable {p : Program} {l : Launch} {e : Env} {R : Room} {s : State} {m : MethodId} {args : Array Value} {below : List Frame} {meth : Method} {c : Code} {H : Heap} {locs : List Loc} {cells slots : Nat} {Q : State → Prop}
variable {dC : Nat → ClassId} {dI : Nat → Nat → Nat} {cI cJ cZ : ClassId} {adK adV : Nat → Nat} {A : Nat → Prop} {H0 : Heap}
variable {y : MethodName} {bytes cc : ByteArray} {maxL nL n index pc fr lo kx : Nat} {ret ro : Option FieldType} {own host : String} {b : Addr} {As rest st0 : List Value} {ls : Array Slot} {wk wc w1 wr : va_W} {Ts : List Cond} {rv : Option Value} {hh : List (Nat × Nat × Nat × Nat)} {r v : Int32} {XC : String → State → State → Prop}
/-- a call that may throw, caught: .inl which exception -/
def gNc (U : State) : Prop := va_Nc "java/lang/IllegalArgumentException" "java/util/NoSuchElementException" U ∧ DS U
theorem gNc.warm {s U : State} (hW : s.WarmedH U.vm) (h : gNc s) : gNc U := ⟨va_Nc.moved hW.alike h.1, h.2.warm hW⟩
/-- the contract of a method of the law's own that catches what the class throws -/
def gL (l : Launch) (dC : Nat → ClassId) (dI : Nat → Nat → Nat) (cI cJ cZ : ClassId) (adK adV : Nat → Nat) (y : MethodName) (bytes : ByteArray) (maxL : Nat) (hh : List (Nat × Nat × Nat × Nat)) (fr lo : Nat) (As : List Value) (wc w1 : va_W) (r : Int32) : Prop :=
  ∀ sz : Nat, vx_Met l y (Cond.codeWith y bytes maxL (some .int) hh :: gw) ({ frames := fr, cells := 1, slots := 6, locals := lo }) (va_Pc As (fun U => gPreH dC dI cI cJ cZ adK adV sz wc U ∧ gNc U)) (gQ dC dI (some (.int r)) (va_A wc sz) w1) (fun _ _ _ => False) 1 6 (va_A wc sz)
def mL (y : MethodName) (bytes : ByteArray) (maxL : Nat) (hh : List (Nat × Nat × Nat × Nat)) (n : Nat) : Prop := Cond.codeWith y bytes maxL (some .int) hh ∈ gw ∧ Cond.static y ∈ gw ∧ Cond.initialized y.cls ∈ gw ∧ y.cls ≠ "java/lang/invoke/MethodHandle" ∧ y.cls ≠ "java/lang/invoke/VarHandle" ∧ (parseMethodDescriptor y.desc).map (fun d => d.parameters.length) = some n
theorem gw_goodL (h : Cond.codeWith y bytes maxL ret hh ∈ gw) : GoodIn gw (Cond.codeWith y bytes maxL ret hh :: gw) := fun w hw => by
  have hg : w ∈ gw := by
    rcases List.mem_cons.mp hw with rfl | h2
    · exact h
    · exact h2
  exact ⟨hg, good_of_word (List.mem_filter.mp hg).2⟩
theorem g_startL (hpn : plainName y.cls = true) (hcls : y.cls = own) (hle : (lg_sl As).length ≤ maxL)
    (k : ∀ (p : Program) (e : Env) (s : State) (m : MethodId) (below : List Frame) (meth : Method) (c : Code) (A : Nat → Prop) (ls : Array Slot), CallFix p m c bytes maxL s As.toArray (Cond.codeWith y bytes maxL (some .int) hh :: gw) own → meth.sig.returnType = some .int → meth.locks = false → c.exceptionTable.toList = tableOf hh → gE dC dI cI cJ cZ s → gH adK adV A s s.heap → gNc s → va_P (dC, dI) vwCl wc s.heap → va_D A wc → va_S A s.heap s.heap [] → (∀ q : Nat, s.heap.size ≤ q → A q) → lv_has ls maxL (lv_args 0 As) →
      W p l e ({ frames := fr, cells := 1, slots := 6, locals := lo }) s m As.toArray below meth c s.heap [] 0 0 (vx_MQ below (gQ dC dI (some (.int r)) A w1) (fun _ _ _ => False) As.toArray s 1 6 A) (F0 m 0 ls [])) : gL l dC dI cI cJ cZ adK adV y bytes maxL hh fr lo As wc w1 r := by
  intro sz
  refine vx_ofWH (cc := bytes) (maxL := maxL) (ret := some .int) (hh := hh) hpn rfl ?_
  intro p e s m args below meth c s₁ B hml hv
  obtain ⟨rfl, ⟨⟨hsz, hP, hE, hD0⟩, hG⟩, hNc⟩ := hv
  have hts := atoms_spec (ws := Cond.codeWith y bytes maxL (some .int) hh :: gw) B.pre
  have hown : s.vm.findClass own = some m.cls := by rw [← hcls]; exact findClass_of_methodNamed B.named
  have htab := vx_table (x := y) B (hts _ List.mem_cons_self)
  subst hsz
  have hD := hD0.self (sz := s.heap.size)
  have hl := lv_entry As (n := maxL) hle
  rw [lg_entry_eq]
  exact k p e s m below meth c (va_A wc s.heap.size) _ ⟨B.exec, B.bytes, hml, hown, hts⟩ B.returns B.notSynchronized htab hE hG hNc hP hD va_S.rf (fun q h => Or.inr h) hl
theorem g_iretL (S : CallFix p m c cc nL s args Ts own) (hr : meth.sig.returnType = some .int) (hlocks : meth.locks = false) (hP : va_P (dC, dI) vwCl w1 H) (hD : va_D A w1) (hS : va_S A s.heap H locs) (hdg : decode cc pc = .ok (.ireturn, 1)) (h1 : cells ≤ 1) (h2 : slots ≤ 6) :
    W p l e R s m args below meth c H locs cells slots (vx_MQ below (gQ dC dI (some (.int v)) A w1) XC args s 1 6 A) (F0 m pc ls [.int v]) :=
  vx_ret (W.widen h1 h2 (W.iret (v := v) S.1 S.2.1 hr (fun t ht _ => ⟨⟨rfl, by rw [ht]; exact hP, hD⟩, hS.F ht⟩) hS.2.2 hdg hlocks))
theorem g_preL (hE : gE dC dI cI cJ cZ s) (hG : gH adK adV A s H0) (hP : va_P (dC, dI) vwCl wk H) (hD : va_D A wk) (hS : va_S A H0 H locs) (hA : ∀ q, H0.size ≤ q → A q) (isC : List Nat) (hC : isC.map (fun i => wk[i]?) = wc.map some) (hn : va_nd isC = true) (vs : List Value) : PreS s H (va_Pc vs (gPreH dC dI cI cJ cZ adK adV H.size wc)) vs := by
  obtain ⟨h1, h2⟩ := g_pre hE hP hD isC hC hn vs
  have hF := va_free (wc := wc) hD hS hA isC hC
  refine ⟨fun a U g mk q => ?_, fun U hU hW => ?_⟩
  · obtain ⟨q0, q1, q2⟩ := q
    have h3 := h1 a U g mk ⟨q0, q1⟩
    exact ⟨h3.1, h3.2, q2.calling⟩
  · have h3 := h2 U hU hW
    refine ⟨h3.1, h3.2, ?_⟩
    rw [hU]
    exact ((hG.kept hS.2.1).narrow hF).warm hW
theorem gLV (S : CallFix p m c cc nL s args Ts own) (htg : ∀ w ∈ gw, w.before args s = true) (hE : gE dC dI cI cJ cZ s) (hM : gM l dC dI cI cJ cZ y bytes maxL ret fr lo (.ref b :: As) wc w1 rv) (hy : mV y bytes maxL ret n) (hl : Cond.methodLink own index y ∈ gw) (hR : fr + 1 ≤ R.frames ∧ 8 + (maxL + 11) + lo ≤ R.locals)
    (hP : va_P (dC, dI) vwCl wk H) (hD : va_D A wk) (hS : va_S A H0 H locs) (hA : ∀ q, H0.size ≤ q → A q) (hcs : cells + 0 ≤ R.cells ∧ slots + 0 ≤ R.slots)
    (q0 ci : Nat) {fs : List Value} {q : vw_C} (hc : vwCl[ci]? = some q) (hq : q.1 = y.cls) (he : wk[q0]? = some (b, .inr (ci, fs))) (isC isR : List Nat) (hC : isC.map (fun i => wk[i]?) = wc.map some) (hnC : va_nd isC = true) (hRr : isR.map (fun i => wk[i]?) = wr.map some) (hn : va_nd isR = true) (hdis : ∀ i ∈ isR, i ∉ isC)
    (hlen : As.length = n) (hsize : ls.size = nL) (hst : st0 = As.reverse ++ .ref b :: rest) (hrest : (rest.map fun v => v.category).sum ≤ 8) (hdg : decode cc pc = .ok (.invokevirtual index, 3))
    (kk : ∀ (H1 : Heap) (locs1 : List Loc), va_P (dC, dI) vwCl (wr ++ w1) H1 → va_D A (wr ++ w1) → va_S A H0 H1 locs1 → W p l e R s m args below meth c H1 locs1 cells slots Q (F0 m (pc + 3) ls (rv.toList ++ rest))) : W p l e R s m args below meth c H locs cells slots Q (F0 m pc ls st0) := by
  obtain ⟨h1, h2, h3, h7, h4, h5, h6⟩ := id hy
  have cw : CallW R s args own y.cls index y bytes maxL ret (uws y bytes maxL ret) ({ frames := fr, cells := 0, slots := 0, locals := lo }) 0 0 n :=
    ⟨callB_of n htg (gw_good h1) rfl rfl rfl (htg _ h7) (htg _ hl) ⟨h4, h5, h6⟩ hR, htg _ h2, htg _ h3⟩
  have hrv := va_recv hE.1 hP hc he
  rw [hq] at hrv
  have hp := g_pre hE hP hD isC hC hnC (.ref b :: As)
  have hr := va_runV (e := e) (locs := locs) (cells := cells) (slots := slots) (below := below) (meth := meth) (g := F0 m pc ls st0) (rest := rest) S (hM H.size) cw ⟨hp.1, hrv, hp.2⟩ rfl hlen hsize hst (lv_room hrest) hdg hcs
  exact g_after hr hP hD hS hA isC isR hC hRr hn hdis kk
theorem gLVH (S : CallFix p m c cc nL s args Ts own) (htg : ∀ w ∈ gw, w.before args s = true) (hE : gE dC dI cI cJ cZ s) (hG : gH adK adV A s H0) (hM : gMH l dC dI cI cJ cZ adK adV y bytes maxL ret fr lo (.ref b :: As) wc w1 rv) (hy : mV y bytes maxL ret n) (hl : Cond.methodLink own index y ∈ gw) (hR : fr + 1 ≤ R.frames ∧ 8 + (maxL + 11) + lo ≤ R.locals)
    (hP : va_P (dC, dI) vwCl wk H) (hD : va_D A wk) (hS : va_S A H0 H locs) (hA : ∀ q, H0.size ≤ q → A q) (hcs : cells + 0 ≤ R.cells ∧ slots + 0 ≤ R.slots)
    (q0 ci : Nat) {fs : List Value} {q : vw_C} (hc : vwCl[ci]? = some q) (hq : q.1 = y.cls) (he : wk[q0]? = some (b, .inr (ci, fs))) (isC isR : List Nat) (hC : isC.map (fun i => wk[i]?) = wc.map some) (hnC : va_nd isC = true) (hRr : isR.map (fun i => wk[i]?) = wr.map some) (hn : va_nd isR = true) (hdis : ∀ i ∈ isR, i ∉ isC)
    (hlen : As.length = n) (hsize : ls.size = nL) (hst : st0 = As.reverse ++ .ref b :: rest) (hrest : (rest.map fun v => v.category).sum ≤ 8) (hdg : decode cc pc = .ok (.invokevirtual index, 3))
    (kk : ∀ (H1 : Heap) (locs1 : List Loc), va_P (dC, dI) vwCl (wr ++ w1) H1 → va_D A (wr ++ w1) → va_S A H0 H1 locs1 → W p l e R s m args below meth c H1 locs1 cells slots Q (F0 m (pc + 3) ls (rv.toList ++ rest))) : W p l e R s m args below meth c H locs cells slots Q (F0 m pc ls st0) := by
  obtain ⟨h1, h2, h3, h7, h4, h5, h6⟩ := id hy
  have cw : CallW R s args own y.cls index y bytes maxL ret (uws y bytes maxL ret) ({ frames := fr, cells := 0, slots := 0, locals := lo }) 0 0 n :=
    ⟨callB_of n htg (gw_good h1) rfl rfl rfl (htg _ h7) (htg _ hl) ⟨h4, h5, h6⟩ hR, htg _ h2, htg _ h3⟩
  have hrv := va_recv hE.1 hP hc he
  rw [hq] at hrv
  have hp := g_preL hE hG hP hD hS hA isC hC hnC (.ref b :: As)
  have hr := va_runV (e := e) (locs := locs) (cells := cells) (slots := slots) (below := below) (meth := meth) (g := F0 m pc ls st0) (rest := rest) S (hM H.size) cw ⟨hp.1, hrv, hp.2⟩ rfl hlen hsize hst (lv_room hrest) hdg hcs
  exact g_after hr hP hD hS hA isC isR hC hRr hn hdis kk
theorem gHV (S : CallFix p m c cc nL s args Ts own) (htg : ∀ w ∈ gw, w.before args s = true) (hE : gE dC dI cI cJ cZ s) (hG : gH adK adV A s s.heap) (hDS : DS s) (hM : gT2 l dC dI cI cJ cZ adK adV y bytes maxL ret fr lo (.ref b :: As) wc kx) (hy : mV y bytes maxL ret n) (hl : Cond.methodLink own index y ∈ gw) (hR : fr + 1 ≤ R.frames ∧ 8 + (maxL + 11) + lo ≤ R.locals)
    (hP : va_P (dC, dI) vwCl wk H) (hD : va_D A wk) (hS : va_S A s.heap H locs) (hA : ∀ q, s.heap.size ≤ q → A q) (hcs : cells + 1 ≤ R.cells ∧ slots + 6 ≤ R.slots)
    (q0 ci : Nat) {fs : List Value} {q : vw_C} (hc : vwCl[ci]? = some q) (hq : q.1 = y.cls) (he : wk[q0]? = some (b, .inr (ci, fs))) (isC isR : List Nat) (hC : isC.map (fun i => wk[i]?) = wc.map some) (hnC : va_nd isC = true) (hRr : isR.map (fun i => wk[i]?) = wr.map some) (hn : va_nd isR = true) (hdis : ∀ i ∈ isR, i ∉ isC)
    (hlen : As.length = n) (hsize : ls.size = nL) (hst : st0 = As.reverse ++ .ref b :: rest) (hrest : (rest.map fun v => v.category).sum ≤ 8) (hdg : decode cc pc = .ok (.invokevirtual index, 3))
    (kk : ∀ (H1 : Heap) (locs1 : List Loc) (q : Addr) (ce : Cell), va_P (dC, dI) vwCl (wr ++ wc) H1 → va_D A (wr ++ wc) → va_S A s.heap H1 locs1 → H1[q]? = some ce → ce.vm = .none → s.vm.findClass (excN kx) = some ce.cls → vx_W p l e R s m args below meth c H1 locs1 (cells + 1) (slots + 6) Q (F0 m pc ls rest) q) : W p l e R s m args below meth c H locs cells slots Q (F0 m pc ls st0) := by
  obtain ⟨h1, h2, h3, h7, h4, h5, h6⟩ := id hy
  have cw : CallW R s args own y.cls index y bytes maxL ret (uws y bytes maxL ret) ({ frames := fr, cells := 1, slots := 6, locals := lo }) 1 6 n :=
    ⟨callB_of n htg (gw_good h1) rfl rfl rfl (htg _ h7) (htg _ hl) ⟨h4, h5, h6⟩ hR, htg _ h2, htg _ h3⟩
  have hrv := va_recv hE.1 hP hc he
  rw [hq] at hrv
  have hp := g_preT hE hG hDS hP hD hS hA isC hC hnC (.ref b :: As)
  have hr := vx_runV (e := e) (locs := locs) (cells := cells) (slots := slots) (below := below) (meth := meth) (g := F0 m pc ls st0) (rest := rest) S (hM H.size) cw ⟨hp.1, hrv, hp.2⟩ rfl hlen hsize hst (lv_room hrest) hdg hcs
  exact g_afterX hr hP hD hS hA isC isR hC hnC hRr hn hdis kk
theorem gLW (S : CallFix p m c cc nL s args Ts own) (htg : ∀ w ∈ gw, w.before args s = true) (hE : gE dC dI cI cJ cZ s) (hG : gH adK adV A s H0) (hNc : gNc s) (hM : gL l dC dI cI cJ cZ adK adV y bytes maxL hh fr lo As wc w1 r) (hy : mL y bytes maxL hh n) (hl : Cond.methodLink own index y ∈ gw) (hR : fr + 1 ≤ R.frames ∧ 8 + (maxL + 11) + lo ≤ R.locals)
    (hP : va_P (dC, dI) vwCl wk H) (hD : va_D A wk) (hS : va_S A H0 H locs) (hA : ∀ q, H0.size ≤ q → A q) (hcs : cells + 1 ≤ R.cells ∧ slots + 6 ≤ R.slots)
    (isC isR : List Nat) (hC : isC.map (fun i => wk[i]?) = wc.map some) (hnC : va_nd isC = true) (hRr : isR.map (fun i => wk[i]?) = wr.map some) (hn : va_nd isR = true) (hdis : ∀ i ∈ isR, i ∉ isC)
    (hlen : As.length = n) (hsize : ls.size = nL) (hst : st0 = As.reverse ++ rest) (hrest : (rest.map fun v => v.category).sum ≤ 8) (hdg : decode cc pc = .ok (.invokestatic index, 3))
    (kk : ∀ (H1 : Heap) (locs1 : List Loc), va_P (dC, dI) vwCl (wr ++ w1) H1 → va_D A (wr ++ w1) → va_S A H0 H1 locs1 → W p l e R s m args below meth c H1 locs1 (cells + 1) (slots + 6) Q (F0 m (pc + 3) ls (.int r :: rest))) : W p l e R s m args below meth c H locs cells slots Q (F0 m pc ls st0) := by
  obtain ⟨h1, h2, h3, h4, h5, h6⟩ := id hy
  have cw : vx_CSW R s args own index y bytes maxL (some .int) hh (Cond.codeWith y bytes maxL (some .int) hh :: gw) ({ frames := fr, cells := 1, slots := 6, locals := lo }) 1 6 n :=
    ⟨⟨rfl, rfl, hR.1, hR.2, pay_in htg (gw_goodL h1), List.mem_cons_self⟩, htg _ h1, htg _ h3, ⟨h4, h5⟩, fun sig h => by rw [h] at h6; exact (Option.some.inj h6).symm, htg _ hl, htg _ h2⟩
  obtain ⟨hp1, hp2⟩ := g_preL hE hG hP hD hS hA isC hC hnC As
  have hp : PreS s H (va_Pc As (fun U => gPreH dC dI cI cJ cZ adK adV H.size wc U ∧ gNc U)) As :=
    ⟨fun a U g mk q => ⟨q.1, (hp1 a U g mk ⟨q.1, q.2.1⟩).2, ⟨va_Nc.moved (u := U) (Vm.Alike.refl U.vm) q.2.2.1, DS.same (u := U) rfl q.2.2.2⟩⟩, fun U hU hW => ⟨rfl, (hp2 U hU hW).2, hNc.warm hW⟩⟩
  have hr := vx_runSX (e := e) (locs := locs) (cells := cells) (slots := slots) (below := below) (meth := meth) (g := F0 m pc ls st0) (rest := rest) S (hM H.size) cw hp rfl hlen hsize hst (lv_room hrest) hdg hcs
  have hF := va_free (wc := wc) hD hS hA isC hC
  intro T hT X
  rcases hr T hT X with ⟨v, st₀, t, T', L, h0, X', hL, e1, e2, ⟨⟨hv, hP1, hD1⟩, hz, hk⟩, st⟩ | ⟨q, st₀, t, T', L, E, ce, h0, X', hL, e1, e2, hx, -⟩
  · cases hv
    rw [h0] at hz hk
    rw [← e1] at hz hP1
    have hk' : ∀ q : Nat, q < H.size → ¬ va_A wc H.size q → T'.heap[q]? = H[q]? := fun q h1 h2 => by rw [e1]; exact hk q h1 h2
    obtain ⟨hP2, hD2⟩ := va_join (wr := wr) (w1 := w1) hP hD isC isR hC hRr hn hdis hk' hF hP1 hD1
    have hS2 : va_S A H0 T'.heap (locs ++ L) := ⟨Nat.le_trans hS.1 hz, fun q h1 h2 => by rw [hk' q (Nat.lt_of_lt_of_le h1 hS.1) (fun z => h2 (hF q z))]; exact hS.2.1 q h1 h2, fun q hq => by
        rcases List.mem_append.mp hq with h | h
        · exact hS.2.2 q h
        · exact hF _ (hL q h)⟩
    obtain ⟨t2, a1, b1⟩ := kk T'.heap (locs ++ L) hP2 hD2 hS2 T' rfl X'
    exact ⟨t2, st t2 a1, b1⟩
  · exact False.elim hx
end KIT5
