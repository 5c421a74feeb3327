/-! new X(text) where X's own constructor links its super's at another entry of the pool than 7 (java.util.NoSuchElementException: 13); along the kit's vx_throwS and the library's ctorThrowS that it stands on -/
section YCTOR
def yx_atoms (own : String) (ic : Nat) (X : String) (j : Nat) (bts : ByteArray) (Y : String) (r : List String) : List Cond :=
  Bundle.throwableAtoms ++ (Bundle.throwableSAtoms ++ (Bundle.passSAtoms X Y j bts ++ (Bundle.chainSAtoms Y r ++
  [.methodLink own ic (Bundle.initS X), .instantiable X 6, .castable X X, .selects X Bundle.tFill0 Bundle.tFill0, .selects X Bundle.tFill Bundle.tFill,
   .lays X Bundle.tN "cause" "Ljava/lang/Throwable;", .lays X Bundle.tN "stackTrace" Bundle.steD, .lays X Bundle.tN "suppressedExceptions" Bundle.listD, .lays X Bundle.tN "detailMessage" "Ljava/lang/String;",
   .isRef (.static Bundle.tN "UNASSIGNED_STACK" Bundle.steD), .isRef (.static Bundle.tN "SUPPRESSED_SENTINEL" Bundle.listD),
   .fieldLink Bundle.tN 198 Bundle.tN "backtrace" "Ljava/lang/Object;", .lays Bundle.tN Bundle.tN "backtrace" "Ljava/lang/Object;", .lays X Bundle.tN "backtrace" "Ljava/lang/Object;"])))
variable {p : Program} {l : Launch} {e : Env} {R : Room} {s : State} {m : MethodId} {args : Array Value} {below : List Frame} {meth : Method} {c : Code} {T9 : State} {locs : List Loc} {cells slots : Nat}
set_option maxHeartbeats 4000000 in
theorem yx_ctor (X : Stand p l e R s m args below meth c T9 locs cells slots) (hexec : p.tables.exec = Jvm.exec) (htr : e.platform.stackTraces = false) {own cls Y : String} {r : List String} {ic j : Nat} {bts : ByteArray}
    (hown : s.vm.findClass own = some m.cls) (hcls : Bundle.fit cls = true) (hY : Bundle.fit Y = true) (hr : ∀ n ∈ r, Bundle.fit n = true)
    (b0 : decode bts 0 = .ok (.aload_n 0, 1)) (b1 : decode bts 1 = .ok (.aload_n 1, 1)) (b2 : decode bts 2 = .ok (.invokespecial j, 3)) (b5 : decode bts 5 = .ok (.return_, 1))
    (h : ∀ w ∈ yx_atoms own ic cls j bts Y r, w.before args s = true)
    (hlocs : ∀ x ∈ locs, ∀ cell, s.heap[x.base]? = some cell → cell.vm.isStatics = false)
    {a : Addr} {cX : ClassId} {kX : Class} (hfoundX : s.vm.findClass cls = some cX) (hkX : s.vm.classes[cX]? = some kX) (hcell : T9.heap[a]? = some (freshCell cX kX)) (hnew : s.heap.size ≤ a)
    {msg : Value} (hmsg : msg.isRef = true)
    {g : JFrame} (hg : g.method = m) (hsize : g.locals.size = c.maxLocals) (hlocked : g.locked = none) (hentered : g.entered = []) {rest : List Value} (hstack : g.stack = msg :: .ref a :: .ref a :: rest)
    (hd6 : decode c.code g.pc = .ok (.invokespecial ic, 3)) (hd9 : decode c.code (g.pc + 3) = .ok (.athrow, 1)) (hout : ∀ x ∈ c.exceptionTable.toList, covers x (g.pc + 3) = false)
    (hRframes : r.length + 4 < R.frames) (hRlocals : 2 * g.monitorRoom + ((Value.ref a :: rest).map fun v => v.category).sum + (13 * (r.length + 2) + 42) ≤ R.locals) (hlocks : meth.locks = false) :
    ∃ U : State, Steps p.tables e below (T9.setTop g) U ∧ U.status = .running ∧ Ended U below (.threw a) ∧ s.WarmedH U.vm ∧ s.sameButNew ({ U with vm := s.vm } : State) locs cells slots ∧
      ∃ ce, U.heap[a]? = some ce ∧ s.vm.findClass cls = some ce.cls ∧ ce.vm = .none := by
  have howns : e.platform.frameOwnsMonitors = true := by rw [X.admits.platform]
  have hfin : e.platform.finalization = false := by rw [X.admits.platform]
  have hpl : e.platform.magicAccessors = ({} : Platform).magicAccessors := by rw [X.admits.platform]
  have ht : ∀ w, w ∈ [Cond.methodLink own ic (Bundle.initS cls), .instantiable cls 6, .castable cls cls, .selects cls Bundle.tFill0 Bundle.tFill0, .selects cls Bundle.tFill Bundle.tFill,
   .lays cls Bundle.tN "cause" "Ljava/lang/Throwable;", .lays cls Bundle.tN "stackTrace" Bundle.steD, .lays cls Bundle.tN "suppressedExceptions" Bundle.listD, .lays cls Bundle.tN "detailMessage" "Ljava/lang/String;",
   .isRef (.static Bundle.tN "UNASSIGNED_STACK" Bundle.steD), .isRef (.static Bundle.tN "SUPPRESSED_SENTINEL" Bundle.listD),
   .fieldLink Bundle.tN 198 Bundle.tN "backtrace" "Ljava/lang/Object;", .lays Bundle.tN Bundle.tN "backtrace" "Ljava/lang/Object;", .lays cls Bundle.tN "backtrace" "Ljava/lang/Object;"] → w.before args s = true :=
    fun w hw => h w (List.mem_append_right _ (List.mem_append_right _ (List.mem_append_right _ (List.mem_append_right _ hw))))
  have hp : ∀ w, w ∈ Bundle.passSAtoms cls Y j bts → w.before args s = true := fun w hw => h w (List.mem_append_right _ (List.mem_append_right _ (List.mem_append_left _ hw)))
  have a' : ∀ {w : Cond}, w.before args s = true → w.holds args s none s [] = true := fun hx => hx
  obtain ⟨T, Z0, L, -, Yb⟩ := ThrowableC.of_atoms (args := args) howns hfin hpl (fun x hx => h x (List.mem_append_left _ hx))
  obtain ⟨Z, M, LZ, LM, hnZ⟩ := Init0T.ofS_atoms (args := args) hpl L Yb (fun x hx => h x (List.mem_append_right _ (List.mem_append_left _ hx)))
  obtain ⟨P1, L1, hP1m, hs1⟩ := PassC.ofS_atoms (args := args) (s := s) hpl (X := cls) (Y := Y) (Bundle.fit_spec hcls).1 (Bundle.fit_spec hY).2 b0 b1 b2 b5 hp
  obtain ⟨P2, Ps, hlen, L2, hL, hP2m, hlink2, hpass⟩ := Bundle.chainS (args := args) hpl hnZ r Y hY hr (fun x hx => h x (List.mem_append_right _ (List.mem_append_right _ (List.mem_append_right _ (List.mem_append_left _ hx)))))
  have hfound : s.vm.findClass cls = some P1.m.cls := findClass_of_methodNamed hP1m
  cases Option.some.inj (hfoundX.symm.trans hfound)
  obtain ⟨c1, kX', hc1, hk, hord, -, -, hn6⟩ := Cond.instantiable_spec (a' (ht (.instantiable cls 6) (by simp)))
  cases Option.some.inj (hc1.symm.trans hfound)
  cases Option.some.inj (hkX.symm.trans hk)
  have hsel : ∀ (t : MethodName) (mt : MethodId), t ∈ [Bundle.tFill0, Bundle.tFill] → s.methodNamed? t = some mt → selectMethod e.platform s.vm P1.m.cls mt = .method mt := by
    intro t mt ht2 hnm
    have hw : (Cond.selects cls t t).before args s = true := by
      rcases List.mem_cons.mp ht2 with rfl | h2
      · exact ht _ (by simp)
      · rcases List.mem_singleton.mp h2 with rfl
        exact ht _ (by simp)
    obtain ⟨c2, r2, m2, q1, q2, q3, q4, -⟩ := Cond.selects_spec (a' hw)
    cases Option.some.inj (q1.symm.trans hfound)
    have hne : t.cls ≠ "java/lang/invoke/MethodHandle" ∧ t.cls ≠ "java/lang/invoke/VarHandle" := by
      rcases List.mem_cons.mp ht2 with rfl | h2
      · decide
      · rcases List.mem_singleton.mp h2 with rfl
        decide
    cases Option.some.inj (q2.symm.trans (State.methodFound?_of_named hnm hne))
    cases Option.some.inj (q3.symm.trans hnm)
    rw [Launch.admits_selectMethod X.admits]; exact q4
  have hsel0 := hsel _ _ (by simp) Yb.fill0
  have hselF := hsel _ _ (by simp) Yb.fill
  obtain ⟨cellS0, hcS0, hiss⟩ := Yb.statics
  obtain ⟨u0, hu0⟩ := Cond.staticRefV Yb.unassigned L.unassignedStatic L.statics hcS0 hiss (a' (ht (.isRef (.static Bundle.tN "UNASSIGNED_STACK" Bundle.steD)) (by simp)))
  obtain ⟨sen, hsen⟩ := Cond.staticRefV Yb.sentinel L.sentinelStatic L.statics hcS0 hiss (a' (ht (.isRef (.static Bundle.tN "SUPPRESSED_SENTINEL" Bundle.listD)) (by simp)))
  obtain ⟨ci198, i198, fB, hk198, hg198, ha198, hsB, -, hnB, htB, hffB⟩ := Cond.ownField (t := .object "java/lang/Object") Yb.found L.cls (by decide +kernel) (a' (ht (.fieldLink Bundle.tN 198 Bundle.tN "backtrace" "Ljava/lang/Object;") (by simp))) (a' (ht (.lays Bundle.tN Bundle.tN "backtrace" "Ljava/lang/Object;") (by simp))) e.platform hpl
  obtain ⟨cellS, hcS', heS, -, hkeep⟩ := X.same.2.2.2.2.2 T.aS cellS0 hcS0
  have hcellS : T9.heap[T.aS]? = some cellS := hcS'
  have hout' : ∀ i, (⟨T.aS, i⟩ : Loc) ∉ locs := fun i hmem => by
    have := hlocs _ hmem cellS0 hcS0
    rw [hiss] at this; cases this
  have hknownS : cellS.vm ≠ .unknown := by
    rw [heS]; intro hu
    rw [show cellS0.vm = .unknown from hu] at hiss
    cases hiss
  have hneS : T.aS ≠ a := Nat.ne_of_lt (Nat.lt_of_lt_of_le (Array.getElem?_eq_some_iff.mp hcS0).1 hnew)
  obtain ⟨iM, hffM⟩ := Yb.msg
  obtain ⟨tyC, dC, hdC, hdnC⟩ := Cond.laysAt hfound hk Yb.cause (a' (ht (.lays cls Bundle.tN "cause" "Ljava/lang/Throwable;") (by simp)))
  obtain ⟨tyS, dS, hdS, hdnS⟩ := Cond.laysAt hfound hk Yb.stack (a' (ht (.lays cls Bundle.tN "stackTrace" Bundle.steD) (by simp)))
  obtain ⟨tyP, dP, hdP, hdnP⟩ := Cond.laysAt hfound hk Yb.supp (a' (ht (.lays cls Bundle.tN "suppressedExceptions" Bundle.listD) (by simp)))
  obtain ⟨tyM, dM, hdM, hdnM⟩ := Cond.laysAt hfound hk hffM (a' (ht (.lays cls Bundle.tN "detailMessage" "Ljava/lang/String;") (by simp)))
  obtain ⟨tyB, dB, hdB, hdnB⟩ := Cond.laysAt hfound hk hffB (a' (ht (.lays cls Bundle.tN "backtrace" "Ljava/lang/Object;") (by simp)))
  have bC := Cond.laysApart hdB hdC hdnB hdnC (by rw [hnB, Yb.causeName]; decide)
  have bS := Cond.laysApart hdB hdS hdnB hdnS (by rw [hnB, Yb.stackName]; decide)
  have bP := Cond.laysApart hdB hdP hdnB hdnP (by rw [hnB, Yb.suppName]; decide)
  have hskip : SkipFacts T e.platform s (fun u => u) u0 ((preparedCellV T.toThrowableT (freshCell P1.m.cls kX) a u0 sen).withEntry T9.cur) :=
    ⟨{ ci198 := ci198, i198 := i198, fBack := fB }, ⟨hk198, hg198, ha198, hsB⟩, by
      have := fresh_default (c := P1.m.cls) tyB
      rw [htB] at this
      simpa [preparedCellV, Cell.setSlot, Cell.withEntry, Array.getElem?_setIfInBounds, bC, bS, bP, bC.symm, bS.symm, bP.symm, defaultValue] using this, fun _ _ => rfl⟩
  obtain ⟨tm, methC, cdC, kC, vm₁, hnC, -, -, -, -, -, -, -, hW₁, st1⟩ := Steps.initColdS (tb := p.tables) (e := e) (below := below) (s := s) (U := T9) X.here hexec X.warmed hpl hown (t := Bundle.initS cls) rfl rfl (Bundle.fit_spec hcls).2
    (a' (ht (.methodLink own ic (Bundle.initS cls)) (by simp))) (hp (.instanceMethod (Bundle.initS cls)) (by simp [Bundle.passSAtoms])) (bytes := bts) (maxL := 2) (hp (.code (Bundle.initS cls) bts 2 none) (by simp [Bundle.passSAtoms]))
    (f := g) hg (a := a) (msg := msg) (rest := .ref a :: rest) hstack hd6
  cases Option.some.inj (hnC.symm.trans hP1m)
  have X₁ := X.noted hW₁
  obtain ⟨vm₂, X₂, st2⟩ := X₁.ctorMessageOffV hexec (g := { g with stack := .ref a :: rest }) hg hsize T L Z LZ M LM (P1 :: P2 :: Ps)
    (fun P hP => by
      rcases List.mem_cons.mp hP with rfl | hP
      · exact L1
      · rcases List.mem_cons.mp hP with rfl | hP
        · exact L2
        · exact hL P hP) ⟨Option.some.inj (hs1.symm.trans hP2m), hlink2, hpass⟩ (u0 := u0) (sen := sen) (self := a) hmsg (cell := freshCell P1.m.cls kX) (cellS := cellS)
    hcell (fun _ => by simp) (by simp) rfl rfl hsel0 hselF hcellS hneS hknownS (by rw [hkeep _ (hout' _)]; exact hu0) (by rw [hkeep _ (hout' _)]; exact hsen)
    (Takes.of_laid hk hord tyC (by rw [Yb.causeType]; rfl)) (Takes.of_laid hk hord tyS (by rw [Yb.stackType]; exact fits_refV_array _ u0)) (Takes.of_laid hk hord tyP (by rw [Yb.suppType]; exact fits_refV_object _ sen))
    (Takes.of_laid hk hord tyM (by rw [Yb.msgType]; exact fits_refV_object _ ⟨msg, hmsg⟩)) Yb.objLocals hskip htr [] hd6
    (by simp only [List.length_cons, hlen]; omega) (by simp only [List.length_cons, hlen]; exact hRlocals)
  obtain ⟨hwalk, hrun, hended, hWU, hsame⟩ := X₂.athrowLeaves hexec (g := { g with stack := .ref a :: rest, pc := g.pc + 3 }) hg hlocked hentered hout (a := a) (rest := rest) rfl hd9
  have hlt : a < ((T9.setVm vm₁).setVm vm₂).heap.size := (Array.getElem?_eq_some_iff.mp hcell).1
  have hU := heapAt_setCell_self (s := (T9.setVm vm₁).setVm vm₂) (plainBareV T.toThrowableT (freshCell P1.m.cls kX) a u0 sen msg) hlt
  refine ⟨_, st1 _ (fun acts => ?_), hrun, hended, hWU, hsame.weaken (fun y hy hlt' => ?_) (Nat.le_refl _) (Nat.le_refl _), _, hU, hfound, rfl⟩
  · rw [doInvoke_state]
    exact st2 _ hwalk
  · rcases List.mem_append.mp hy with h1 | h1
    · exact h1
    · exfalso
      have hb : y.base = a := by
        simp only [List.mem_cons, List.not_mem_nil, or_false] at h1
        rcases h1 with rfl | rfl | rfl | rfl | rfl <;> rfl
      rw [hb] at hlt'
      exact Nat.not_lt.mpr hnew hlt'
end YCTOR
/-- the words that are on the tables alone: castable, declares -/
def ds_all : List Cond := [.declares ⟨"java/lang/RuntimeException", "<init>", "(Ljava/lang/String;)V"⟩, .declares ⟨"java/lang/Exception", "<init>", "(Ljava/lang/String;)V"⟩, .declares ⟨"java/lang/Throwable", "<init>", "(Ljava/lang/String;)V"⟩]
theorem ds_in : ∀ w ∈ ds_all, w ∈ lw_tbl := by decide +kernel
def DS (U : State) : Prop := ∀ w ∈ ds_all, va_Nw w U
theorem ds_three {w : Cond} (h : w ∈ ds_all) : ∃ x : MethodName, w = .declares x := by
  simp only [ds_all, List.mem_cons, List.not_mem_nil, or_false] at h
  rcases h with rfl | rfl | rfl <;> exact ⟨_, rfl⟩
theorem DS.warm {s U : State} (hW : s.WarmedH U.vm) (h : DS s) : DS U := fun w hw => by
  have h2 := h w hw
  obtain ⟨x, rfl⟩ := ds_three hw
  exact va_Nw.warmD hW h2
theorem DS.same {u U : State} (e : u.vm = U.vm) (h : DS u) : DS U := fun w hw => by
  have h2 := h w hw
  obtain ⟨x, rfl⟩ := ds_three hw
  exact va_Nw.same rfl e h2
theorem DS.of {A : Array Value} {U : State} (h : ∀ w ∈ lw_tbl, w.before A U = true) : DS U := fun w hw => by
  have h2 := h w (ds_in w hw)
  obtain ⟨x, rfl⟩ := ds_three hw
  exact va_Nw.of rfl h2
def tx_2 : List Cond := vx_atS "FamilyChart" 98 "java/lang/IllegalArgumentException" ["java/lang/RuntimeException", "java/lang/Exception"]
set_option maxRecDepth 100000 in
theorem tx_good_2 : ∀ w ∈ tx_2.filter goodWord, w ∈ gw := by decide +kernel
set_option maxRecDepth 100000 in
theorem tx_cast_2 : ∀ w ∈ tx_2.filter (fun w => !goodWord w), w ∈ cs_all ++ ds_all := by decide +kernel
set_option maxRecDepth 100000 in
theorem tx_ot_2 : ∀ w ∈ tx_2, vx_ot w = true := by decide +kernel
def tx_1 : List Cond := (yx_atoms "FamilyChart" 166 "java/util/NoSuchElementException" 13 prog_27_method_4_code "java/lang/RuntimeException" ["java/lang/Exception"]).filter vx_no
set_option maxRecDepth 100000 in
theorem tx_good_1 : ∀ w ∈ tx_1.filter goodWord, w ∈ gw := by decide +kernel
set_option maxRecDepth 100000 in
theorem tx_cast_1 : ∀ w ∈ tx_1.filter (fun w => !goodWord w), w ∈ cs_all ++ ds_all := by decide +kernel
set_option maxRecDepth 100000 in
theorem tx_ot_1 : ∀ w ∈ tx_1, vx_ot w = true := by decide +kernel
section YTHROW
variable {p : Program} {l : Launch} {e : Env} {R : Room} {s : State} {m : MethodId} {args : Array Value} {below : List Frame} {meth : Method} {c : Code} {H : Heap} {locs : List Loc} {cells slots : Nat} {ls : Array Slot} {rest : List Value} {Qc : Array Value → State → Outcome → State → Prop} {XC : String → State → State → Prop} {free : Addr → Prop}
theorem yx_throwS {cc : ByteArray} {pc : Nat} (hexec : p.tables.exec = Jvm.exec) (hb : c.code = cc) (hl : l.stackTraces = false) {own cls text Y : String} {r : List String} {ik is ic j mc ms sa : Nat} {bts : ByteArray} {A : Nat → Prop}
    (hown : s.vm.findClass own = some m.cls) (hcls : Bundle.fit cls = true) (hY : Bundle.fit Y = true) (hr : ∀ n ∈ r, Bundle.fit n = true)
    (b0 : decode bts 0 = .ok (.aload_n 0, 1)) (b1 : decode bts 1 = .ok (.aload_n 1, 1)) (b2 : decode bts 2 = .ok (.invokespecial j, 3)) (b5 : decode bts 5 = .ok (.return_, 1))
    (hk : (Cond.classLink own ik cls).before args s = true) (hini : (Cond.initialized cls).before args s = true) (hstr : vk_R own is text sa s) (hat : ∀ w ∈ (yx_atoms own ic cls j bts Y r).filter vx_no, w.before args s = true)
    (hgood : ∀ w ∈ Cond.classLink own ik cls :: Cond.initialized cls :: (yx_atoms own ic cls j bts Y r).filter vx_no, vx_ot w = true)
    (hU : vx_Zq Bundle.tN "UNASSIGNED_STACK" Bundle.steD A s s.heap) (hN : vx_Zq Bundle.tN "SUPPRESSED_SENTINEL" Bundle.listD A s s.heap) (hS : va_S A s.heap H locs) (hsize : ls.size = c.maxLocals)
    (d0 : decode cc pc = .ok (.new ik, 3)) (d3 : decode cc (pc + 3) = .ok (.dup, 1)) (d4 : decode cc (pc + 4) = .ok (.ldc is, 2)) (d6 : decode cc (pc + 6) = .ok (.invokespecial ic, 3)) (d9 : decode cc (pc + 9) = .ok (.athrow, 1))
    (hout : ∀ x ∈ c.exceptionTable.toList, covers x (pc + 9) = false)
    (hRframes : r.length + 4 < R.frames) (hRlocals : (rest.map fun v => v.category).sum + (13 * (r.length + 2) + 43) ≤ R.locals) (hRcells : cells + 1 ≤ R.cells) (hRslots : slots + 6 ≤ R.slots) (hlocks : meth.locks = false)
    (hx : ∀ t : State, s.vm.Alike t.vm → H.size ≤ t.heap.size → (∀ q : Nat, q < H.size → t.heap[q]? = H[q]?) → XC cls s t)
    (hf : ∀ z ∈ locs, free z.base) (hc : cells + 1 ≤ mc) (hs : slots + 6 ≤ ms) :
    W p l e R s m args below meth c H locs cells slots (vx_MQ below Qc XC args s mc ms free) (F0 m pc ls rest) := by
  intro T hT X
  have htr : e.platform.stackTraces = false := (show e.platform.stackTraces = l.stackTraces by rw [X.admits.platform]).trans hl
  have Yb := vx_rebase X (R' := { frames := R.frames, locals := R.locals, cells := 1, slots := 6 }) (Nat.le_refl _) (Nat.le_refl _) hRcells hRslots
  obtain ⟨s', hA⟩ : ∃ z, z = (T.setVm s.vm).setFrames (.invoking m args :: below) := ⟨_, rfl⟩
  rw [← hA] at Yb
  have hvm : s'.vm = s.vm := by rw [hA]; rfl
  have hhp : s'.heap = H := by rw [hA]; exact hT
  have hW0 : s.WarmedH s'.vm := by rw [hvm]; exact State.WarmedH.refl s
  have hat' : ∀ w ∈ (yx_atoms own ic cls j bts Y r).filter vx_no, w.before args s' = true := fun w hw => vx_ot_at hW0 hvm.symm (hgood w (List.mem_cons_of_mem _ (List.mem_cons_of_mem _ hw))) (hat w hw)
  have hk' : (Cond.classLink own ik cls).before args s' = true := vx_ot_at hW0 hvm.symm (hgood _ List.mem_cons_self) hk
  have hini' : (Cond.initialized cls).before args s' = true := vx_ot_at hW0 hvm.symm (hgood _ (List.mem_cons_of_mem _ List.mem_cons_self)) hini
  have hU' : vx_Zq Bundle.tN "UNASSIGNED_STACK" Bundle.steD A s' s'.heap := by rw [hhp]; exact vx_Zq.moved hW0.alike (hU.kept hS.2.1)
  have hN' : vx_Zq Bundle.tN "SUPPRESSED_SENTINEL" Bundle.listD A s' s'.heap := by rw [hhp]; exact vx_Zq.moved hW0.alike (hN.kept hS.2.1)
  have h : ∀ w ∈ yx_atoms own ic cls j bts Y r, w.before args s' = true := vx_own hat' (vx_isRefq hU'.1) (vx_isRefq hN'.1) hU'.2.word hN'.2.word
  have hown' : s'.vm.findClass own = some m.cls := by rw [hvm]; exact hown
  have hins : (Cond.instantiable cls 6).before args s' = true := h _ (by simp [yx_atoms])
  obtain ⟨vm₁, cX, kX, hfX, hkX, -, -, X₁, st1⟩ := Yb.newCold hexec (own := own) (C := cls) (index := ik) (n := 6) hown' hk' hins hini'
    (g := F0 m pc ls rest) rfl (by rw [hb]; exact d0) (Nat.le_refl _) (Nat.le_refl _)
  generalize hT1 : (T.setVm vm₁).pushCell { cls := cX, slots := kX.instanceTypes.map defaultValue, vm := .none } = T1 at X₁ st1
  have hcat : (Value.ref T.heap.size).category = 1 := rfl
  have hcellA : T1.heap[T.heap.size]? = some (freshCell cX kX) := by rw [← hT1]; exact State.heap_pushCell_size _ _
  have d3' : decode c.code (pc + 3) = .ok (.dup, 1) := by rw [hb]; exact d3
  have d4' : decode c.code (pc + 4) = .ok (.ldc is, 2) := by rw [hb]; exact d4
  have hstr' : vk_R own is text sa s' := vk_R.warm hW0 hstr
  obtain ⟨U, hsteps, hrun, hend, hW, hsame, ce, hce, hO1, hO2⟩ := yx_ctor X₁ hexec htr (own := own) (cls := cls) (ic := ic) hown' hcls hY hr b0 b1 b2 b5 h (fun x hx => nomatch hx) hfX hkX hcellA (by rw [hhp, hT]; exact Nat.le_refl _) (msg := .ref sa) rfl
    (g := { method := m, pc := pc + 6, locals := ls, stack := .ref sa :: .ref T.heap.size :: .ref T.heap.size :: rest, locked := none }) rfl hsize rfl rfl (rest := rest) rfl
    (by rw [hb]; exact d6) (by rw [hb]; exact d9) hout hRframes (by simp only [List.map_cons, List.sum_cons, hcat]; omega) hlocks
  obtain ⟨f1, f2⟩ := vx_frame hsame
  rw [hhp] at f1 f2
  have hWs : s.WarmedH U.vm := State.WarmedH.trans hW0 hW
  have hcl : s.vm.findClass cls = some ce.cls := by
    have h9 := hO1
    rw [hvm] at h9
    exact h9
  have hall : s.sameButNew ({ U with vm := s.vm } : State) locs mc ms := by
    subst hA
    obtain ⟨e1, e2⟩ := hsame
    rw [State.setFrames_setFrames] at e1
    have h2 : (T.setVm s.vm).sameButNew ({ U with vm := s.vm } : State) [] (0 + 1) (0 + 6) := ⟨e1, e2⟩
    have h3 := X.same.trans h2
    rw [List.append_nil] at h3
    exact h3.mono hc hs
  refine ⟨U, ?_, .threw T.heap.size, hrun, hend, Or.inr ⟨T.heap.size, rfl, cls, ce, locs, hx U hWs.alike f1 (fun q hq => f2 q hq (fun z hz => nomatch hz)), hce, hO2, hcl, hWs, hall, hf⟩⟩
  refine st1 _ ?_
  show Steps p.tables e below (T1.setTop { method := m, pc := pc + 3, locals := ls, stack := .ref T.heap.size :: rest, locked := none }) _
  jvm_step X₁.here [X₁.here.top, hexec, d3', Value.category]
  exact X₁.ldcString hexec (own := own) (text := text) (index := is) (a := sa) hown' hstr'.1 hstr'.2
    (g := { method := m, pc := pc + 4, locals := ls, stack := .ref T.heap.size :: .ref T.heap.size :: rest, locked := none }) rfl d4' _ hsteps
end YTHROW
section YTHROWW
variable {p : Program} {l : Launch} {e : Env} {R : Room} {s : State} {m : MethodId} {args : Array Value} {below : List Frame} {meth : Method} {c : Code} {H : Heap} {locs : List Loc} {cells slots : Nat} {ls : Array Slot} {rest : List Value} {Qc : Array Value → State → Outcome → State → Prop} {XC : String → State → State → Prop} {free : Addr → Prop}
theorem yx_throwSW {cc : ByteArray} {pc : Nat} (hexec : p.tables.exec = Jvm.exec) (hb : c.code = cc) (hl : l.stackTraces = false) {own cls text Y : String} {r : List String} {ik is ic j mc ms sa : Nat} {bts : ByteArray} {A : Nat → Prop}
    (hown : s.vm.findClass own = some m.cls) (hcls : Bundle.fit cls = true) (hY : Bundle.fit Y = true) (hr : ∀ n ∈ r, Bundle.fit n = true)
    (b0 : decode bts 0 = .ok (.aload_n 0, 1)) (b1 : decode bts 1 = .ok (.aload_n 1, 1)) (b2 : decode bts 2 = .ok (.invokespecial j, 3)) (b5 : decode bts 5 = .ok (.return_, 1))
    (hk : (Cond.classLink own ik cls).before args s = true) (hini : (Cond.initialized cls).before args s = true) (hstr : vk_R own is text sa s) (hat : ∀ w ∈ (yx_atoms own ic cls j bts Y r).filter vx_no, w.before args s = true)
    (hgood : ∀ w ∈ Cond.classLink own ik cls :: Cond.initialized cls :: (yx_atoms own ic cls j bts Y r).filter vx_no, vx_ot w = true)
    (hU : vx_Zq Bundle.tN "UNASSIGNED_STACK" Bundle.steD A s s.heap) (hN : vx_Zq Bundle.tN "SUPPRESSED_SENTINEL" Bundle.listD A s s.heap) (hS : va_S A s.heap H locs) (hsize : ls.size = c.maxLocals)
    (d0 : decode cc pc = .ok (.new ik, 3)) (d3 : decode cc (pc + 3) = .ok (.dup, 1)) (d4 : decode cc (pc + 4) = .ok (.ldc_w is, 3)) (d6 : decode cc (pc + 7) = .ok (.invokespecial ic, 3)) (d9 : decode cc (pc + 10) = .ok (.athrow, 1))
    (hout : ∀ x ∈ c.exceptionTable.toList, covers x (pc + 10) = false)
    (hRframes : r.length + 4 < R.frames) (hRlocals : (rest.map fun v => v.category).sum + (13 * (r.length + 2) + 43) ≤ R.locals) (hRcells : cells + 1 ≤ R.cells) (hRslots : slots + 6 ≤ R.slots) (hlocks : meth.locks = false)
    (hx : ∀ t : State, s.vm.Alike t.vm → H.size ≤ t.heap.size → (∀ q : Nat, q < H.size → t.heap[q]? = H[q]?) → XC cls s t)
    (hf : ∀ z ∈ locs, free z.base) (hc : cells + 1 ≤ mc) (hs : slots + 6 ≤ ms) :
    W p l e R s m args below meth c H locs cells slots (vx_MQ below Qc XC args s mc ms free) (F0 m pc ls rest) := by
  intro T hT X
  have htr : e.platform.stackTraces = false := (show e.platform.stackTraces = l.stackTraces by rw [X.admits.platform]).trans hl
  have Yb := vx_rebase X (R' := { frames := R.frames, locals := R.locals, cells := 1, slots := 6 }) (Nat.le_refl _) (Nat.le_refl _) hRcells hRslots
  obtain ⟨s', hA⟩ : ∃ z, z = (T.setVm s.vm).setFrames (.invoking m args :: below) := ⟨_, rfl⟩
  rw [← hA] at Yb
  have hvm : s'.vm = s.vm := by rw [hA]; rfl
  have hhp : s'.heap = H := by rw [hA]; exact hT
  have hW0 : s.WarmedH s'.vm := by rw [hvm]; exact State.WarmedH.refl s
  have hat' : ∀ w ∈ (yx_atoms own ic cls j bts Y r).filter vx_no, w.before args s' = true := fun w hw => vx_ot_at hW0 hvm.symm (hgood w (List.mem_cons_of_mem _ (List.mem_cons_of_mem _ hw))) (hat w hw)
  have hk' : (Cond.classLink own ik cls).before args s' = true := vx_ot_at hW0 hvm.symm (hgood _ List.mem_cons_self) hk
  have hini' : (Cond.initialized cls).before args s' = true := vx_ot_at hW0 hvm.symm (hgood _ (List.mem_cons_of_mem _ List.mem_cons_self)) hini
  have hU' : vx_Zq Bundle.tN "UNASSIGNED_STACK" Bundle.steD A s' s'.heap := by rw [hhp]; exact vx_Zq.moved hW0.alike (hU.kept hS.2.1)
  have hN' : vx_Zq Bundle.tN "SUPPRESSED_SENTINEL" Bundle.listD A s' s'.heap := by rw [hhp]; exact vx_Zq.moved hW0.alike (hN.kept hS.2.1)
  have h : ∀ w ∈ yx_atoms own ic cls j bts Y r, w.before args s' = true := vx_own hat' (vx_isRefq hU'.1) (vx_isRefq hN'.1) hU'.2.word hN'.2.word
  have hown' : s'.vm.findClass own = some m.cls := by rw [hvm]; exact hown
  have hins : (Cond.instantiable cls 6).before args s' = true := h _ (by simp [yx_atoms])
  obtain ⟨vm₁, cX, kX, hfX, hkX, -, -, X₁, st1⟩ := Yb.newCold hexec (own := own) (C := cls) (index := ik) (n := 6) hown' hk' hins hini'
    (g := F0 m pc ls rest) rfl (by rw [hb]; exact d0) (Nat.le_refl _) (Nat.le_refl _)
  generalize hT1 : (T.setVm vm₁).pushCell { cls := cX, slots := kX.instanceTypes.map defaultValue, vm := .none } = T1 at X₁ st1
  have hcat : (Value.ref T.heap.size).category = 1 := rfl
  have hcellA : T1.heap[T.heap.size]? = some (freshCell cX kX) := by rw [← hT1]; exact State.heap_pushCell_size _ _
  have d3' : decode c.code (pc + 3) = .ok (.dup, 1) := by rw [hb]; exact d3
  have d4' : decode c.code (pc + 4) = .ok (.ldc_w is, 3) := by rw [hb]; exact d4
  have hstr' : vk_R own is text sa s' := vk_R.warm hW0 hstr
  obtain ⟨U, hsteps, hrun, hend, hW, hsame, ce, hce, hO1, hO2⟩ := yx_ctor X₁ hexec htr (own := own) (cls := cls) (ic := ic) hown' hcls hY hr b0 b1 b2 b5 h (fun x hx => nomatch hx) hfX hkX hcellA (by rw [hhp, hT]; exact Nat.le_refl _) (msg := .ref sa) rfl
    (g := { method := m, pc := pc + 7, locals := ls, stack := .ref sa :: .ref T.heap.size :: .ref T.heap.size :: rest, locked := none }) rfl hsize rfl rfl (rest := rest) rfl
    (by rw [hb]; exact d6) (by rw [hb]; exact d9) hout hRframes (by simp only [List.map_cons, List.sum_cons, hcat]; omega) hlocks
  obtain ⟨f1, f2⟩ := vx_frame hsame
  rw [hhp] at f1 f2
  have hWs : s.WarmedH U.vm := State.WarmedH.trans hW0 hW
  have hcl : s.vm.findClass cls = some ce.cls := by
    have h9 := hO1
    rw [hvm] at h9
    exact h9
  have hall : s.sameButNew ({ U with vm := s.vm } : State) locs mc ms := by
    subst hA
    obtain ⟨e1, e2⟩ := hsame
    rw [State.setFrames_setFrames] at e1
    have h2 : (T.setVm s.vm).sameButNew ({ U with vm := s.vm } : State) [] (0 + 1) (0 + 6) := ⟨e1, e2⟩
    have h3 := X.same.trans h2
    rw [List.append_nil] at h3
    exact h3.mono hc hs
  refine ⟨U, ?_, .threw T.heap.size, hrun, hend, Or.inr ⟨T.heap.size, rfl, cls, ce, locs, hx U hWs.alike f1 (fun q hq => f2 q hq (fun z hz => nomatch hz)), hce, hO2, hcl, hWs, hall, hf⟩⟩
  refine st1 _ ?_
  show Steps p.tables e below (T1.setTop { method := m, pc := pc + 3, locals := ls, stack := .ref T.heap.size :: rest, locked := none }) _
  jvm_step X₁.here [X₁.here.top, hexec, d3', Value.category]
  exact X₁.ldcStringW hexec (own := own) (text := text) (index := is) (a := sa) hown' hstr'.1 hstr'.2
    (g := { method := m, pc := pc + 4, locals := ls, stack := .ref T.heap.size :: .ref T.heap.size :: rest, locked := none }) rfl d4' _ hsteps
end YTHROWW
section KIT3
variable {p : Program} {l : Launch} {e : Env} {R : Room} {s : State} {m : MethodId} {args : Array Value} {below : List Frame} {meth : Method} {c : Code} {H : Heap} {locs : List Loc} {cells slots : Nat} {Q : State → Prop}
variable {dC : Nat → ClassId} {dI : Nat → Nat → Nat} {cI cJ cZ : ClassId} {adK adV : Nat → Nat} {A : Nat → Prop}
variable {y yo : MethodName} {bytes cc : ByteArray} {maxL mlo nL n index pc fr lo kx : Nat} {ret ro : Option FieldType} {own host : String} {b : Addr} {As rest st0 : List Value} {ls : Array Slot} {rv : Option Value} {wk wc w0 w1 wr : va_W}
/-- a start with the words that the throws want -/
def gPreT (dC : Nat → ClassId) (dI : Nat → Nat → Nat) (cI cJ cZ : ClassId) (adK adV : Nat → Nat) (sz : Nat) (wc : va_W) (U : State) : Prop := gPreH dC dI cI cJ cZ adK adV sz wc U ∧ DS U
/-- the contract of a call that throws the exception of number k -/
def gT2 (l : Launch) (dC : Nat → ClassId) (dI : Nat → Nat → Nat) (cI cJ cZ : ClassId) (adK adV : Nat → Nat) (y : MethodName) (bytes : ByteArray) (maxL : Nat) (ret : Option FieldType) (fr lo : Nat) (As : List Value) (wc : va_W) (k : Nat) : Prop :=
  ∀ sz : Nat, vx_Met l y (uws y bytes maxL ret) ({ frames := fr, cells := 1, slots := 6, locals := lo }) (va_Pc As (gPreT dC dI cI cJ cZ adK adV sz wc)) (fun _ _ _ _ => False) (vx_X (fun _ : Unit => True) (fun E _ t => E = excN k ∧ va_P (dC, dI) vwCl wc t.heap) (va_A wc sz)) 1 6 (va_A wc sz)
theorem g_preT (hE : gE dC dI cI cJ cZ s) (hG : gH adK adV A s s.heap) (hDS : DS s) (hP : va_P (dC, dI) vwCl wk H) (hD : va_D A wk) (hS : va_S A s.heap H locs) (hA : ∀ q, s.heap.size ≤ q → A q) (isC : List Nat) (hC : isC.map (fun i => wk[i]?) = wc.map some) (hn : va_nd isC = true) (vs : List Value) : PreS s H (va_Pc vs (gPreT dC dI cI cJ cZ adK adV H.size wc)) vs := by
  obtain ⟨h1, h2⟩ := g_preH hE hG hP hD hS hA isC hC hn vs
  exact ⟨fun a U g mk q => ⟨q.1, (h1 a U g mk ⟨q.1, q.2.1⟩).2, DS.same (u := U) rfl q.2.2⟩, fun U hU hW => ⟨rfl, (h2 U hU hW).2, hDS.warm hW⟩⟩
/-- where a throwing walk ends -/
def gTQ (dC : Nat → ClassId) (dI : Nat → Nat → Nat) (w0 : va_W) (kx : Nat) (below : List Frame) (a : Array Value) (s : State) (A : Nat → Prop) : State → Prop :=
  vx_MQ below (fun _ _ _ _ => False) (vx_X (fun _ : Unit => True) (fun E _ t => E = excN kx ∧ va_P (dC, dI) vwCl w0 t.heap) A) a s 1 6 A
theorem g_startT (hpn : plainName y.cls = true) (hcls : y.cls = own) (hle : (lg_sl As).length ≤ maxL)
    (k : ∀ (p : Program) (e : Env) (s : State) (m : MethodId) (below : List Frame) (meth : Method) (c : Code) (A : Nat → Prop) (ls : Array Slot), CallFix p m c bytes maxL s As.toArray (uws y bytes maxL ret) own → meth.locks = false → (∀ x ∈ c.exceptionTable.toList, False) → gE dC dI cI cJ cZ s → gH adK adV A s s.heap → DS s → va_P (dC, dI) vwCl wc s.heap → va_D A wc → va_S A s.heap s.heap [] → (∀ q : Nat, s.heap.size ≤ q → A q) → lv_has ls maxL (lv_args 0 As) →
      W p l e ({ frames := fr, cells := 1, slots := 6, locals := lo }) s m As.toArray below meth c s.heap [] 0 0 (gTQ dC dI wc kx below As.toArray s A) (F0 m 0 ls [])) : gT2 l dC dI cI cJ cZ adK adV y bytes maxL ret fr lo As wc kx := by
  intro sz
  refine vx_ofW (cc := bytes) (maxL := maxL) (ret := ret) hpn rfl ?_
  intro p e s m args below meth c s₁ B hml hno hv
  obtain ⟨rfl, ⟨⟨hsz, hP, hE, hD0⟩, hG⟩, hDS⟩ := hv
  have hts := atoms_spec (ws := uws y bytes maxL ret) B.pre
  have hown : s.vm.findClass own = some m.cls := by rw [← hcls]; exact findClass_of_methodNamed B.named
  subst hsz
  have hD := hD0.self (sz := s.heap.size)
  have hl := lv_entry As (n := maxL) hle
  rw [lg_entry_eq]
  exact k p e s m below meth c (va_A wc s.heap.size) _ ⟨B.exec, B.bytes, hml, hown, hts⟩ B.notSynchronized hno hE hG hDS hP hD va_S.rf (fun q h => Or.inr h) hl
theorem g_heapX {t : State} (hP : va_P (dC, dI) vwCl w0 H) (hS : va_S A s.heap H locs) (hz : H.size ≤ t.heap.size) (hq : ∀ q : Nat, q < H.size → t.heap[q]? = H[q]?) : va_P (dC, dI) vwCl w0 t.heap ∧ va_F A s t :=
  ⟨hP.kept (fun k q hk => hq q.1 (vx_lt hP hk)), ⟨Nat.le_trans hS.1 hz, fun q h1 h2 => (hq q (Nat.lt_of_lt_of_le h1 hS.1)).trans (hS.2.1 q h1 h2)⟩⟩
theorem g_throw1 {is ik sa : Nat} {text : String} (S : CallFix p m c cc nL s args (uws yo cc mlo ro) "FamilyChart") (hst : l.stackTraces = false) (hG : gH adK adV A s s.heap) (hDS : DS s) (hno : ∀ x ∈ c.exceptionTable.toList, False) (hlocks : meth.locks = false)
    (hP : va_P (dC, dI) vwCl w0 H) (hS : va_S A s.heap H locs) (hsize : ls.size = nL) (hk : Cond.classLink "FamilyChart" ik "java/util/NoSuchElementException" ∈ gw) (i : Nat) (hi : strs[i]? = some ("FamilyChart", is, text, sa)) (hR : 6 ≤ R.frames ∧ 90 ≤ R.locals ∧ 1 ≤ R.cells ∧ 6 ≤ R.slots)
    (d0 : decode cc pc = .ok (.new ik, 3)) (d3 : decode cc (pc + 3) = .ok (.dup, 1)) (d4 : decode cc (pc + 4) = .ok (.ldc is, 2)) (d6 : decode cc (pc + 6) = .ok (.invokespecial 166, 3)) (d9 : decode cc (pc + 9) = .ok (.athrow, 1)) :
    W p l e R s m args below meth c H locs 0 0 (gTQ dC dI w0 1 below args s A) (F0 m pc ls []) := by
  obtain ⟨hx, hb, hml, hown, hts⟩ := S
  have htg : ∀ z ∈ gw, z.before args s = true := fun w h => hts w (List.mem_cons_of_mem _ h)
  have hsr : vk_R "FamilyChart" is text (adK sa) s := hG.2.2.1 i _ hi
  have hat : ∀ w ∈ tx_1, w.before args s = true := vx_hat (B := cs_all ++ ds_all) (fun w h => htg w (tx_good_1 w h)) tx_cast_1 (fun w h => by
    rcases List.mem_append.mp h with h | h
    · have h2 := hG.2.2.2.1 w h
      rcases cs_two h with rfl | rfl <;> exact va_Nw.use rfl h2
    · have h2 := hDS w h
      obtain ⟨x, rfl⟩ := ds_three h
      exact va_Nw.use rfl h2)
  have hot : ∀ w ∈ Cond.classLink "FamilyChart" ik "java/util/NoSuchElementException" :: Cond.initialized "java/util/NoSuchElementException" :: tx_1, vx_ot w = true := by
    intro w h
    rcases List.mem_cons.mp h with rfl | h
    · rfl
    · rcases List.mem_cons.mp h with rfl | h
      · rfl
      · exact tx_ot_1 w h
  exact yx_throwS hx hb hst (own := "FamilyChart") (cls := "java/util/NoSuchElementException") (Y := "java/lang/RuntimeException") (r := ["java/lang/Exception"]) (text := text) (sa := adK sa) hown (by decide +kernel) (by decide +kernel) (by decide +kernel) (by decide +kernel) (by decide +kernel) (by decide +kernel) (by decide +kernel) (htg _ hk) (htg _ tw21) hsr
    hat hot hG.1 hG.2.1 hS (by rw [hsize, hml]) d0 d3 d4 d6 d9 (fun x h => (hno x h).elim) (show 1 + 4 < R.frames by omega) (show 0 + (13 * (1 + 2) + 43) ≤ R.locals by omega) (by omega) (by omega) hlocks
    (fun t hvm hz hq => ⟨(), trivial, ⟨rfl, (g_heapX hP hS hz hq).1⟩, (g_heapX hP hS hz hq).2⟩) hS.2.2 (by omega) (by omega)
theorem g_throw1w {is ik sa : Nat} {text : String} (S : CallFix p m c cc nL s args (uws yo cc mlo ro) "FamilyChart") (hst : l.stackTraces = false) (hG : gH adK adV A s s.heap) (hDS : DS s) (hno : ∀ x ∈ c.exceptionTable.toList, False) (hlocks : meth.locks = false)
    (hP : va_P (dC, dI) vwCl w0 H) (hS : va_S A s.heap H locs) (hsize : ls.size = nL) (hk : Cond.classLink "FamilyChart" ik "java/util/NoSuchElementException" ∈ gw) (i : Nat) (hi : strs[i]? = some ("FamilyChart", is, text, sa)) (hR : 6 ≤ R.frames ∧ 90 ≤ R.locals ∧ 1 ≤ R.cells ∧ 6 ≤ R.slots)
    (d0 : decode cc pc = .ok (.new ik, 3)) (d3 : decode cc (pc + 3) = .ok (.dup, 1)) (d4 : decode cc (pc + 4) = .ok (.ldc_w is, 3)) (d6 : decode cc (pc + 7) = .ok (.invokespecial 166, 3)) (d9 : decode cc (pc + 10) = .ok (.athrow, 1)) :
    W p l e R s m args below meth c H locs 0 0 (gTQ dC dI w0 1 below args s A) (F0 m pc ls []) := by
  obtain ⟨hx, hb, hml, hown, hts⟩ := S
  have htg : ∀ z ∈ gw, z.before args s = true := fun w h => hts w (List.mem_cons_of_mem _ h)
  have hsr : vk_R "FamilyChart" is text (adK sa) s := hG.2.2.1 i _ hi
  have hat : ∀ w ∈ tx_1, w.before args s = true := vx_hat (B := cs_all ++ ds_all) (fun w h => htg w (tx_good_1 w h)) tx_cast_1 (fun w h => by
    rcases List.mem_append.mp h with h | h
    · have h2 := hG.2.2.2.1 w h
      rcases cs_two h with rfl | rfl <;> exact va_Nw.use rfl h2
    · have h2 := hDS w h
      obtain ⟨x, rfl⟩ := ds_three h
      exact va_Nw.use rfl h2)
  have hot : ∀ w ∈ Cond.classLink "FamilyChart" ik "java/util/NoSuchElementException" :: Cond.initialized "java/util/NoSuchElementException" :: tx_1, vx_ot w = true := by
    intro w h
    rcases List.mem_cons.mp h with rfl | h
    · rfl
    · rcases List.mem_cons.mp h with rfl | h
      · rfl
      · exact tx_ot_1 w h
  exact yx_throwSW hx hb hst (own := "FamilyChart") (cls := "java/util/NoSuchElementException") (Y := "java/lang/RuntimeException") (r := ["java/lang/Exception"]) (text := text) (sa := adK sa) hown (by decide +kernel) (by decide +kernel) (by decide +kernel) (by decide +kernel) (by decide +kernel) (by decide +kernel) (by decide +kernel) (htg _ hk) (htg _ tw21) hsr
    hat hot hG.1 hG.2.1 hS (by rw [hsize, hml]) d0 d3 d4 d6 d9 (fun x h => (hno x h).elim) (show 1 + 4 < R.frames by omega) (show 0 + (13 * (1 + 2) + 43) ≤ R.locals by omega) (by omega) (by omega) hlocks
    (fun t hvm hz hq => ⟨(), trivial, ⟨rfl, (g_heapX hP hS hz hq).1⟩, (g_heapX hP hS hz hq).2⟩) hS.2.2 (by omega) (by omega)
theorem g_throw2 {is ik sa : Nat} {text : String} (S : CallFix p m c cc nL s args (uws yo cc mlo ro) "FamilyChart") (hst : l.stackTraces = false) (hG : gH adK adV A s s.heap) (hDS : DS s) (hno : ∀ x ∈ c.exceptionTable.toList, False) (hlocks : meth.locks = false)
    (hP : va_P (dC, dI) vwCl w0 H) (hS : va_S A s.heap H locs) (hsize : ls.size = nL) (hk : Cond.classLink "FamilyChart" ik "java/lang/IllegalArgumentException" ∈ gw) (i : Nat) (hi : strs[i]? = some ("FamilyChart", is, text, sa)) (hR : 6 ≤ R.frames ∧ 90 ≤ R.locals ∧ 1 ≤ R.cells ∧ 6 ≤ R.slots)
    (d0 : decode cc pc = .ok (.new ik, 3)) (d3 : decode cc (pc + 3) = .ok (.dup, 1)) (d4 : decode cc (pc + 4) = .ok (.ldc is, 2)) (d6 : decode cc (pc + 6) = .ok (.invokespecial 98, 3)) (d9 : decode cc (pc + 9) = .ok (.athrow, 1)) :
    W p l e R s m args below meth c H locs 0 0 (gTQ dC dI w0 2 below args s A) (F0 m pc ls []) := by
  obtain ⟨hx, hb, hml, hown, hts⟩ := S
  have htg : ∀ z ∈ gw, z.before args s = true := fun w h => hts w (List.mem_cons_of_mem _ h)
  have hsr : vk_R "FamilyChart" is text (adK sa) s := hG.2.2.1 i _ hi
  have hat : ∀ w ∈ tx_2, w.before args s = true := vx_hat (B := cs_all ++ ds_all) (fun w h => htg w (tx_good_2 w h)) tx_cast_2 (fun w h => by
    rcases List.mem_append.mp h with h | h
    · have h2 := hG.2.2.2.1 w h
      rcases cs_two h with rfl | rfl <;> exact va_Nw.use rfl h2
    · have h2 := hDS w h
      obtain ⟨x, rfl⟩ := ds_three h
      exact va_Nw.use rfl h2)
  have hot : ∀ w ∈ Cond.classLink "FamilyChart" ik "java/lang/IllegalArgumentException" :: Cond.initialized "java/lang/IllegalArgumentException" :: tx_2, vx_ot w = true := by
    intro w h
    rcases List.mem_cons.mp h with rfl | h
    · rfl
    · rcases List.mem_cons.mp h with rfl | h
      · rfl
      · exact tx_ot_2 w h
  exact vx_throwS hx hb hst (own := "FamilyChart") (cls := "java/lang/IllegalArgumentException") (names := ["java/lang/RuntimeException", "java/lang/Exception"]) (text := text) (sa := adK sa) hown (by decide +kernel) (by decide +kernel) (htg _ hk) (htg _ tw15) hsr
    hat hot hG.1 hG.2.1 hS (by rw [hsize, hml]) d0 d3 d4 d6 d9 (fun x h => (hno x h).elim) (show 2 + 3 < R.frames by omega) (show 0 + (13 * (2 + 1) + 43) ≤ R.locals by omega) (by omega) (by omega) hlocks
    (fun t hvm hz hq => ⟨(), trivial, ⟨rfl, (g_heapX hP hS hz hq).1⟩, (g_heapX hP hS hz hq).2⟩) hS.2.2 (by omega) (by omega)
theorem g_throw2w {is ik sa : Nat} {text : String} (S : CallFix p m c cc nL s args (uws yo cc mlo ro) "FamilyChart") (hst : l.stackTraces = false) (hG : gH adK adV A s s.heap) (hDS : DS s) (hno : ∀ x ∈ c.exceptionTable.toList, False) (hlocks : meth.locks = false)
    (hP : va_P (dC, dI) vwCl w0 H) (hS : va_S A s.heap H locs) (hsize : ls.size = nL) (hk : Cond.classLink "FamilyChart" ik "java/lang/IllegalArgumentException" ∈ gw) (i : Nat) (hi : strs[i]? = some ("FamilyChart", is, text, sa)) (hR : 6 ≤ R.frames ∧ 90 ≤ R.locals ∧ 1 ≤ R.cells ∧ 6 ≤ R.slots)
    (d0 : decode cc pc = .ok (.new ik, 3)) (d3 : decode cc (pc + 3) = .ok (.dup, 1)) (d4 : decode cc (pc + 4) = .ok (.ldc_w is, 3)) (d6 : decode cc (pc + 7) = .ok (.invokespecial 98, 3)) (d9 : decode cc (pc + 10) = .ok (.athrow, 1)) :
    W p l e R s m args below meth c H locs 0 0 (gTQ dC dI w0 2 below args s A) (F0 m pc ls []) := by
  obtain ⟨hx, hb, hml, hown, hts⟩ := S
  have htg : ∀ z ∈ gw, z.before args s = true := fun w h => hts w (List.mem_cons_of_mem _ h)
  have hsr : vk_R "FamilyChart" is text (adK sa) s := hG.2.2.1 i _ hi
  have hat : ∀ w ∈ tx_2, w.before args s = true := vx_hat (B := cs_all ++ ds_all) (fun w h => htg w (tx_good_2 w h)) tx_cast_2 (fun w h => by
    rcases List.mem_append.mp h with h | h
    · have h2 := hG.2.2.2.1 w h
      rcases cs_two h with rfl | rfl <;> exact va_Nw.use rfl h2
    · have h2 := hDS w h
      obtain ⟨x, rfl⟩ := ds_three h
      exact va_Nw.use rfl h2)
  have hot : ∀ w ∈ Cond.classLink "FamilyChart" ik "java/lang/IllegalArgumentException" :: Cond.initialized "java/lang/IllegalArgumentException" :: tx_2, vx_ot w = true := by
    intro w h
    rcases List.mem_cons.mp h with rfl | h
    · rfl
    · rcases List.mem_cons.mp h with rfl | h
      · rfl
      · exact tx_ot_2 w h
  exact vx_throwSW hx hb hst (own := "FamilyChart") (cls := "java/lang/IllegalArgumentException") (names := ["java/lang/RuntimeException", "java/lang/Exception"]) (text := text) (sa := adK sa) hown (by decide +kernel) (by decide +kernel) (htg _ hk) (htg _ tw15) hsr
    hat hot hG.1 hG.2.1 hS (by rw [hsize, hml]) d0 d3 d4 d6 d9 (fun x h => (hno x h).elim) (show 2 + 3 < R.frames by omega) (show 0 + (13 * (2 + 1) + 43) ≤ R.locals by omega) (by omega) (by omega) hlocks
    (fun t hvm hz hq => ⟨(), trivial, ⟨rfl, (g_heapX hP hS hz hq).1⟩, (g_heapX hP hS hz hq).2⟩) hS.2.2 (by omega) (by omega)
/-- behind a call that throws: in the caller, with the throw under way -/
theorem g_afterX {mc ms : Nat} (hr : vx_Run p l e R s m args below meth c H locs cells slots mc ms (F0 m pc ls st0) rest (fun _ _ _ => False : State → Outcome → State → Prop) (vx_X (fun _ : Unit => True) (fun E _ t => E = excN kx ∧ va_P (dC, dI) vwCl wc t.heap) (va_A wc H.size)) (va_A wc H.size)) (hP : va_P (dC, dI) vwCl wk H) (hD : va_D A wk) (hS : va_S A s.heap H locs) (hA : ∀ q, s.heap.size ≤ q → A q)
    (isC isR : List Nat) (hC : isC.map (fun i => wk[i]?) = wc.map some) (hnC : va_nd isC = true) (hR : isR.map (fun i => wk[i]?) = wr.map some) (hn : va_nd isR = true) (hdis : ∀ i ∈ isR, i ∉ isC)
    (kk : ∀ (H1 : Heap) (locs1 : List Loc) (q : Addr) (ce : Cell), va_P (dC, dI) vwCl (wr ++ wc) H1 → va_D A (wr ++ wc) → va_S A s.heap H1 locs1 → H1[q]? = some ce → ce.vm = .none → s.vm.findClass (excN kx) = some ce.cls → vx_W p l e R s m args below meth c H1 locs1 (cells + mc) (slots + ms) Q (F0 m pc ls rest) q) : W p l e R s m args below meth c H locs cells slots Q (F0 m pc ls st0) := by
  have hF := va_free (wc := wc) hD hS hA isC hC
  intro T hT X
  rcases hr T hT X with ⟨v, st₀, t, T', L, h0, X', hL, e1, e2, hq, st⟩ | ⟨q, st₀, t, T', L, E, ce, h0, X', hL, e1, e2, hx, hce, hcv, hcl, st⟩
  · exact False.elim hq
  · obtain ⟨u, -, ⟨hE, hP1⟩, hz, hk⟩ := hx
    rw [h0] at hz hk
    rw [← e1] at hz hP1
    have hk' : ∀ q : Nat, q < H.size → ¬ va_A wc H.size q → T'.heap[q]? = H[q]? := fun q h1 h2 => by rw [e1]; exact hk q h1 h2
    obtain ⟨hP2, hD2⟩ := va_join (wr := wr) (w1 := wc) hP hD isC isR hC hR hn hdis hk' hF hP1 (hD.sub isC hnC hC).self
    have hS2 : va_S A s.heap T'.heap (locs ++ L) := ⟨Nat.le_trans hS.1 hz, fun q h1 h2 => by rw [hk' q (Nat.lt_of_lt_of_le h1 hS.1) (fun z => h2 (hF q z))]; exact hS.2.1 q h1 h2, fun q hq => by
        rcases List.mem_append.mp hq with h | h
        · exact hS.2.2 q h
        · exact hF _ (hL q h)⟩
    subst hE
    obtain ⟨t2, a1, b1⟩ := kk T'.heap (locs ++ L) q ce hP2 hD2 hS2 (by rw [e1]; exact hce) hcv hcl T' rfl X'
    exact ⟨t2, st.trans a1, b1⟩
/-- a call that throws, passed on -/
theorem g_passX (hr : vx_Run p l e R s m args below meth c H locs 0 0 1 6 (F0 m pc ls st0) rest (fun _ _ _ => False : State → Outcome → State → Prop) (vx_X (fun _ : Unit => True) (fun E _ t => E = excN kx ∧ va_P (dC, dI) vwCl wc t.heap) (va_A wc H.size)) (va_A wc H.size)) (hno : ∀ x ∈ c.exceptionTable.toList, False) (hlocks : meth.locks = false) (hP : va_P (dC, dI) vwCl wk H) (hD : va_D A wk) (hS : va_S A s.heap H locs) (hA : ∀ q, s.heap.size ≤ q → A q)
    (isC isR : List Nat) (hC : isC.map (fun i => wk[i]?) = wc.map some) (hnC : va_nd isC = true) (hR : isR.map (fun i => wk[i]?) = wr.map some) (hn : va_nd isR = true) (hdis : ∀ i ∈ isR, i ∉ isC) (isB : List Nat) (hB : isB.filterMap (fun i => (wr ++ wc)[i]?) = w0) :
    W p l e R s m args below meth c H locs 0 0 (gTQ dC dI w0 kx below args s A) (F0 m pc ls st0) :=
  g_afterX hr hP hD hS hA isC isR hC hnC hR hn hdis (fun H1 locs1 q ce hP1 hD1 hS1 hce hcv hcl => vx_out (fun x h => (hno x h).elim) hlocks hce hcv hcl (fun t2 h2 _ => ⟨(), trivial, ⟨rfl, by rw [h2]; exact hP1.sub isB hB⟩, hS1.F h2⟩) hS1.2.2 (by omega) (by omega))
theorem gcVT (S : CallFix p m c cc nL s args (uws yo cc mlo ro) own) (hE : gE dC dI cI cJ cZ s) (hG : gH adK adV A s s.heap) (hDS : DS s) (hM : gT2 l dC dI cI cJ cZ adK adV y bytes maxL ret fr lo (.ref b :: As) wc kx) (hy : mV y bytes maxL ret n) (hl : Cond.methodLink own index y ∈ gw) (hR : fr + 1 ≤ R.frames ∧ 8 + (maxL + 11) + lo ≤ R.locals) (hno : ∀ x ∈ c.exceptionTable.toList, False) (hlocks : meth.locks = false)
    (hP : va_P (dC, dI) vwCl wk H) (hD : va_D A wk) (hS : va_S A s.heap H locs) (hA : ∀ q, s.heap.size ≤ q → A q) (hcs : 1 ≤ R.cells ∧ 6 ≤ R.slots)
    (q0 ci : Nat) {fs : List Value} {q : vw_C} (hc : vwCl[ci]? = some q) (hq : q.1 = y.cls) (he : wk[q0]? = some (b, .inr (ci, fs)))
    (isC isR : List Nat) (hC : isC.map (fun i => wk[i]?) = wc.map some) (hnC : va_nd isC = true) (hRr : isR.map (fun i => wk[i]?) = wr.map some) (hn : va_nd isR = true) (hdis : ∀ i ∈ isR, i ∉ isC)
    (hlen : As.length = n) (hsize : ls.size = nL) (hst : st0 = As.reverse ++ .ref b :: rest) (hrest : (rest.map fun v => v.category).sum ≤ 8) (hdg : decode cc pc = .ok (.invokevirtual index, 3))
    (isB : List Nat) (hB : isB.filterMap (fun i => (wr ++ wc)[i]?) = w0) : W p l e R s m args below meth c H locs 0 0 (gTQ dC dI w0 kx below args s A) (F0 m pc ls st0) := by
  obtain ⟨h1, h2, h3, h7, h4, h5, h6⟩ := id hy
  have hts := S.2.2.2.2
  have cw : CallW R s args own y.cls index y bytes maxL ret (uws y bytes maxL ret) ({ frames := fr, cells := 1, slots := 6, locals := lo }) 1 6 n :=
    ⟨callB_of n hts (uws_good h1) rfl rfl rfl (hts _ (List.mem_cons_of_mem _ h7)) (hts _ (List.mem_cons_of_mem _ hl)) ⟨h4, h5, h6⟩ hR, hts _ (List.mem_cons_of_mem _ h2), hts _ (List.mem_cons_of_mem _ h3)⟩
  have hrv := va_recv hE.1 hP hc he
  rw [hq] at hrv
  have hp := g_preT hE hG hDS hP hD hS hA isC hC hnC (.ref b :: As)
  have hr := vx_runV (e := e) (locs := locs) (cells := 0) (slots := 0) (below := below) (meth := meth) (g := F0 m pc ls st0) (rest := rest) S (hM H.size) cw ⟨hp.1, hrv, hp.2⟩ rfl hlen hsize hst (lv_room hrest) hdg ⟨by omega, by omega⟩
  exact g_passX hr hno hlocks hP hD hS hA isC isR hC hnC hRr hn hdis isB hB
theorem gcST (S : CallFix p m c cc nL s args (uws yo cc mlo ro) own) (hE : gE dC dI cI cJ cZ s) (hG : gH adK adV A s s.heap) (hDS : DS s) (hM : gT2 l dC dI cI cJ cZ adK adV y bytes maxL ret fr lo As wc kx) (hy : mS y bytes maxL ret n) (hl : Cond.methodLink own index y ∈ gw) (hR : fr + 1 ≤ R.frames ∧ 8 + (maxL + 11) + lo ≤ R.locals) (hno : ∀ x ∈ c.exceptionTable.toList, False) (hlocks : meth.locks = false)
    (hP : va_P (dC, dI) vwCl wk H) (hD : va_D A wk) (hS : va_S A s.heap H locs) (hA : ∀ q, s.heap.size ≤ q → A q) (hcs : 1 ≤ R.cells ∧ 6 ≤ R.slots)
    (isC isR : List Nat) (hC : isC.map (fun i => wk[i]?) = wc.map some) (hnC : va_nd isC = true) (hRr : isR.map (fun i => wk[i]?) = wr.map some) (hn : va_nd isR = true) (hdis : ∀ i ∈ isR, i ∉ isC)
    (hlen : As.length = n) (hsize : ls.size = nL) (hst : st0 = As.reverse ++ rest) (hrest : (rest.map fun v => v.category).sum ≤ 8) (hdg : decode cc pc = .ok (.invokestatic index, 3))
    (isB : List Nat) (hB : isB.filterMap (fun i => (wr ++ wc)[i]?) = w0) : W p l e R s m args below meth c H locs 0 0 (gTQ dC dI w0 kx below args s A) (F0 m pc ls st0) := by
  obtain ⟨h1, h2, h3, h4, h5, h6⟩ := id hy
  have hts := S.2.2.2.2
  have cw : CallB R s args own index y bytes maxL ret (uws y bytes maxL ret) ({ frames := fr, cells := 1, slots := 6, locals := lo }) 1 6 n ∧ (Cond.static y).before args s = true :=
    ⟨callB_of n hts (uws_good h1) rfl rfl rfl (hts _ (List.mem_cons_of_mem _ h3)) (hts _ (List.mem_cons_of_mem _ hl)) ⟨h4, h5, h6⟩ hR, hts _ (List.mem_cons_of_mem _ h2)⟩
  have hr := vx_runS (e := e) (locs := locs) (cells := 0) (slots := 0) (below := below) (meth := meth) (g := F0 m pc ls st0) (rest := rest) S (hM H.size) cw (g_preT hE hG hDS hP hD hS hA isC hC hnC As) rfl hlen hsize hst (lv_room hrest) hdg ⟨by omega, by omega⟩
  exact g_passX hr hno hlocks hP hD hS hA isC isR hC hnC hRr hn hdis isB hB
end KIT3
