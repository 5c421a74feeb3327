section KITX
variable {p : Program} {l : Launch} {e : Env} {R : Room} {s : State} {m : MethodId} {args : Array Value} {below : List Frame} {meth : Method} {c : Code} {H : Heap} {locs : List Loc} {cells slots : Nat} {Q : State → Prop}
variable {dC : Nat → ClassId} {dI : Nat → Nat → Nat} {cI cJ cZ cK : ClassId} {adK adV : Nat → Nat} {A : Nat → Prop}
variable {y yo : MethodName} {bytes cc : ByteArray} {maxL mlo nL n index pc fr lo mc ms : Nat} {ret ro : Option FieldType} {own host : String} {b : Addr} {As rest st0 : List Value} {ls : Array Slot} {X wk wc w1 wr cx pl : va_W} {rv : EX → Option Value} {rv0 : Option Value} {Wo rx p1 : EX → va_W} {Ts : List Cond}
/-- the end of a method of the law: it returns rv; its world, with new addresses -/
def gXQ (dC : Nat → ClassId) (dI : Nat → Nat → Nat) (rv : EX → Option Value) (A : Nat → Prop) (Wo : EX → va_W) : Array Value → State → Outcome → State → Prop := fun _ st oc t => (∃ x : EX, oc = .returned (rv x) ∧ va_P (dC, dI) vwCl (Wo x) t.heap ∧ va_D A (Wo x)) ∧ va_F A st t
/-- THE CONTRACT of a method that may make cells -/
def gXM (l : Launch) (dC : Nat → ClassId) (dI : Nat → Nat → Nat) (cI cJ cZ cK : ClassId) (adK adV : Nat → Nat) (y : MethodName) (bytes : ByteArray) (maxL : Nat) (ret : Option FieldType) (fr lo mc ms : Nat) (As : List Value) (wc : va_W) (Wo : EX → va_W) (rv : EX → Option Value) : Prop :=
  ∀ sz : Nat, Met l y (uws y bytes maxL ret) ({ frames := fr, cells := mc, slots := ms, locals := lo }) (va_Pc As (gPreH dC dI cI cJ cZ cK adK adV sz wc)) (gXQ dC dI rv (va_A wc sz) Wo) mc ms (va_A wc sz)
theorem gX_H (h : gMH l dC dI cI cJ cZ cK adK adV y bytes maxL ret fr lo As wc w1 rv0) : gXM l dC dI cI cJ cZ cK adK adV y bytes maxL ret fr lo 0 0 As wc (fun _ => w1) (fun _ => rv0) := fun sz => by
  intro p e ha hc hk s m args below hf hap hP ht
  obtain ⟨k, o, h1, h2, h3, ⟨⟨a1, a2, a3⟩, a4⟩, hF⟩ := h sz p e ha hc hk s m args below hf hap hP ht
  exact ⟨k, o, h1, h2, h3, ⟨⟨(adV, fun _ => none, fun _ _ => 0), a1, a2, a3⟩, a4⟩, hF⟩
theorem gX_M (h : gM l dC dI cI cJ cZ cK y bytes maxL ret fr lo As wc w1 rv0) : gXM l dC dI cI cJ cZ cK adK adV y bytes maxL ret fr lo 0 0 As wc (fun _ => w1) (fun _ => rv0) := fun sz => by
  intro p e ha hc hk s m args below hf hap hP ht
  obtain ⟨k, o, h1, h2, h3, ⟨⟨a1, a2, a3⟩, a4⟩, hF⟩ := h sz p e ha hc hk s m args below hf hap ⟨hP.1, hP.2.1⟩ ht
  exact ⟨k, o, h1, h2, h3, ⟨⟨(adV, fun _ => none, fun _ _ => 0), a1, a2, a3⟩, a4⟩, hF⟩
theorem g_startX (hpn : plainName y.cls = true) (hcls : y.cls = own) (hle : (lg_sl As).length ≤ maxL)
    (k : ∀ (p : Program) (e : Env) (s : State) (m : MethodId) (below : List Frame) (meth : Method) (c : Code) (A : Nat → Prop) (ls : Array Slot), CallFix p m c bytes maxL s As.toArray (uws y bytes maxL ret) own → meth.sig.returnType = ret → meth.locks = false → gE dC dI cI cJ cZ cK s → gH adK adV A s s.heap → va_P (dC, dI) vwCl wc s.heap → va_D A wc → va_S A s.heap s.heap [] → (∀ q : Nat, s.heap.size ≤ q → A q) → lv_has ls maxL (lv_args 0 As) → meth.name = y.name →
      W p l e ({ frames := fr, cells := mc, slots := ms, locals := lo }) s m As.toArray below meth c s.heap [] 0 0 (MQ below (gXQ dC dI rv A Wo) As.toArray s mc ms A) (F0 m 0 ls [])) : gXM l dC dI cI cJ cZ cK adK adV y bytes maxL ret fr lo mc ms As wc Wo rv := by
  intro sz
  refine Met.ofW (cc := bytes) (maxL := maxL) (ret := ret) hpn rfl ?_
  intro p e s m args below meth c s₁ B hml hv
  obtain ⟨rfl, ⟨hsz, hP, hE, hD0⟩, hG⟩ := hv
  have hts := atoms_spec (ws := uws y bytes maxL ret) B.pre
  have hown : s.vm.findClass own = some m.cls := by rw [← hcls]; exact findClass_of_methodNamed B.named
  have hin : meth.name = y.name := (name_of_methodNamed B.named B.method).1
  subst hsz
  have hD := hD0.self (sz := s.heap.size)
  have hl := lv_entry As (n := maxL) hle
  rw [lg_entry_eq]
  exact k p e s m below meth c (va_A wc s.heap.size) _ ⟨B.exec, B.bytes, hml, hown, hts⟩ B.returns B.notSynchronized hE hG hP hD va_S.rf (fun q h => Or.inr h) hl hin
theorem nar_chr (x : Int32) : narrow .char (.int ((x.toUInt32 % 65536).toInt32)) = .int ((x.toUInt32 % 65536).toInt32) := by
  show Value.int _ = _
  congr 1
  rw [UInt32.toUInt32_toInt32]
  congr 1
  apply UInt32.toNat_inj.mp
  simp
theorem g_iretX {v : Int32} (S : CallFix p m c cc nL s args Ts own) (hr : meth.sig.returnType = some .int) (hlocks : meth.locks = false) (x : EX) (hP : va_P (dC, dI) vwCl (Wo x) H) (hD : va_D A (Wo x)) (hS : va_S A s.heap H locs) (h1 : cells ≤ mc) (h2 : slots ≤ ms) (hdg : decode cc pc = .ok (.ireturn, 1)) :
    W p l e R s m args below meth c H locs cells slots (MQ below (gXQ dC dI (fun _ => some (.int v)) A Wo) args s mc ms A) (F0 m pc ls [.int v]) :=
  W.widen h1 h2 (W.iret (v := v) S.1 S.2.1 hr (fun t ht _ => ⟨⟨x, rfl, by rw [ht]; exact hP, hD⟩, hS.F ht⟩) hS.2.2 hdg hlocks)
theorem g_zretX {v : Int32} (S : CallFix p m c cc nL s args Ts own) (hr : meth.sig.returnType = some .boolean) (hn : narrow .boolean (.int v) = .int v) (hlocks : meth.locks = false) (x : EX) (hP : va_P (dC, dI) vwCl (Wo x) H) (hD : va_D A (Wo x)) (hS : va_S A s.heap H locs) (h1 : cells ≤ mc) (h2 : slots ≤ ms) (hdg : decode cc pc = .ok (.ireturn, 1)) :
    W p l e R s m args below meth c H locs cells slots (MQ below (gXQ dC dI (fun _ => some (.int v)) A Wo) args s mc ms A) (F0 m pc ls [.int v]) :=
  W.widen h1 h2 (W.zret (v := v) S.1 S.2.1 hr hn (fun t ht _ => ⟨⟨x, rfl, by rw [ht]; exact hP, hD⟩, hS.F ht⟩) hS.2.2 hdg hlocks)
theorem g_cretX {v : Int32} (S : CallFix p m c cc nL s args Ts own) (hr : meth.sig.returnType = some .char) (hn : narrow .char (.int v) = .int v) (hlocks : meth.locks = false) (x : EX) (hP : va_P (dC, dI) vwCl (Wo x) H) (hD : va_D A (Wo x)) (hS : va_S A s.heap H locs) (h1 : cells ≤ mc) (h2 : slots ≤ ms) (hdg : decode cc pc = .ok (.ireturn, 1)) :
    W p l e R s m args below meth c H locs cells slots (MQ below (gXQ dC dI (fun _ => some (.int v)) A Wo) args s mc ms A) (F0 m pc ls [.int v]) :=
  W.widen h1 h2 (W.zret (v := v) S.1 S.2.1 hr hn (fun t ht _ => ⟨⟨x, rfl, by rw [ht]; exact hP, hD⟩, hS.F ht⟩) hS.2.2 hdg hlocks)
theorem g_lretX {v : Int64} (S : CallFix p m c cc nL s args Ts own) (hr : meth.sig.returnType = some .long) (hlocks : meth.locks = false) (x : EX) (hP : va_P (dC, dI) vwCl (Wo x) H) (hD : va_D A (Wo x)) (hS : va_S A s.heap H locs) (h1 : cells ≤ mc) (h2 : slots ≤ ms) (hdg : decode cc pc = .ok (.lreturn, 1)) :
    W p l e R s m args below meth c H locs cells slots (MQ below (gXQ dC dI (fun _ => some (.long v)) A Wo) args s mc ms A) (F0 m pc ls [.long v]) :=
  W.widen h1 h2 (W.lret (v := v) S.1 S.2.1 hr (fun t ht _ => ⟨⟨x, rfl, by rw [ht]; exact hP, hD⟩, hS.F ht⟩) hS.2.2 hdg hlocks)
theorem g_vretX (S : CallFix p m c cc nL s args Ts own) (hr : meth.sig.returnType = none) (hlocks : meth.locks = false) (x : EX) (hP : va_P (dC, dI) vwCl (Wo x) H) (hD : va_D A (Wo x)) (hS : va_S A s.heap H locs) (h1 : cells ≤ mc) (h2 : slots ≤ ms) (hdg : decode cc pc = .ok (.return_, 1)) :
    W p l e R s m args below meth c H locs cells slots (MQ below (gXQ dC dI (fun _ => none) A Wo) args s mc ms A) (F0 m pc ls []) :=
  W.widen h1 h2 (W.vret S.1 S.2.1 hr (fun t ht _ => ⟨⟨x, rfl, by rw [ht]; exact hP, hD⟩, hS.F ht⟩) hS.2.2 hdg hlocks)
theorem gw_good {y2 : MethodName} {b2 : ByteArray} {m2 : Nat} {r2 : Option FieldType} (h : Cond.code y2 b2 m2 r2 ∈ gw) : GoodIn gw (uws y2 b2 m2 r2) := fun w hw => by
  have hg : w ∈ gw := by
    rcases List.mem_cons.mp hw with rfl | h2
    · exact h
    · exact h2
  exact ⟨hg, good_of_word (List.mem_filter.mp hg).2⟩
theorem gx_preP (hE : gE dC dI cI cJ cZ cK s) (hG : gH adK adV A s s.heap) (hP : va_P (dC, dI) vwCl (X ++ pl) H) (hD : va_D A (X ++ pl)) (hS : va_S A s.heap H locs) (hA : ∀ q, s.heap.size ≤ q → A q) (isC : List Nat) (hC : isC.map (fun i => X[i]?) = cx.map some) (hn : va_nd isC = true) (vs : List Value) : PreS s H (va_Pc vs (gPreH dC dI cI cJ cZ cK adK adV H.size (cx ++ pl))) vs := by
  have hPc := hP.part isC hC
  have hDc := hD.part isC hn hC
  have hF := va_freeP (cx := cx) hD hS hA isC hC
  refine ⟨fun a U g mk q => ?_, fun U hU hW => ⟨rfl, ⟨by rw [hU], by rw [hU]; exact hPc, hE.warm hW, hDc.weaken (fun _ _ _ _ => trivial)⟩, by rw [hU]; exact ((hG.kept hS.2.1).narrow hF).warm hW⟩⟩
  obtain ⟨q0, ⟨q1, qP, qE, qD⟩, qG⟩ := q
  exact ⟨q0, ⟨q1, qP, qE.calling, qD⟩, qG.calling⟩
/-- the callee that has no rows: its part of the list alone -/
theorem gx_dropD (hD : va_D A (X ++ pl)) : va_D A X := hD.by id (fun k q hk => by
  show (X ++ pl)[k]? = some q
  rw [List.getElem?_append_left (List.getElem?_eq_some_iff.mp hk).1]; exact hk) (fun i j _ _ e => e)
theorem gx_dropP (hP : va_P (dC, dI) vwCl (X ++ pl) H) : va_P (dC, dI) vwCl X H := hP.by id (fun k q hk => by
  show (X ++ pl)[k]? = some q
  rw [List.getElem?_append_left (List.getElem?_eq_some_iff.mp hk).1]; exact hk)
theorem gx_preQ (hE : gE dC dI cI cJ cZ cK s) (hG : gH adK adV A s s.heap) (hP : va_P (dC, dI) vwCl (X ++ pl) H) (hD : va_D A (X ++ pl)) (hS : va_S A s.heap H locs) (hA : ∀ q, s.heap.size ≤ q → A q) (isC : List Nat) (hC : isC.map (fun i => X[i]?) = cx.map some) (hn : va_nd isC = true) (vs : List Value) : PreS s H (va_Pc vs (gPreH dC dI cI cJ cZ cK adK adV H.size cx)) vs :=
  g_preH hE hG (gx_dropP hP) (gx_dropD hD) hS hA isC hC hn vs

theorem gx_afterP {a : Array Value} (hr : va_Run p l e R s m args below meth c H locs cells slots mc ms (F0 m pc ls st0) rest (gXQ dC dI rv (va_A (cx ++ pl) H.size) (fun x => rx x ++ p1 x) a) (va_A (cx ++ pl) H.size)) (hP : va_P (dC, dI) vwCl (X ++ pl) H) (hD : va_D A (X ++ pl)) (hS : va_S A s.heap H locs) (hA : ∀ q, s.heap.size ≤ q → A q)
    (isC isR : List Nat) (hC : isC.map (fun i => X[i]?) = cx.map some) (hR : isR.map (fun i => X[i]?) = wr.map some) (hn : va_nd isR = true) (hdis : ∀ i ∈ isR, i ∉ isC)
    (kk : ∀ (H1 : Heap) (locs1 : List Loc) (x : EX), va_P (dC, dI) vwCl ((wr ++ rx x) ++ p1 x) H1 → va_D A ((wr ++ rx x) ++ p1 x) → va_S A s.heap H1 locs1 → W p l e R s m args below meth c H1 locs1 (cells + mc) (slots + ms) Q (F0 m (pc + 3) ls ((rv x).toList ++ rest))) : W p l e R s m args below meth c H locs cells slots Q (F0 m pc ls st0) := by
  have hF : ∀ q, va_A (cx ++ pl) H.size q → A q := va_freeP (cx := cx) hD hS hA isC hC
  intro T hT XX
  obtain ⟨v, st₀, t, T', L, h0, X', hL, e1, e2, ⟨⟨x, hv, hP1, hD1⟩, hz, hk⟩, st⟩ := hr T hT XX
  cases hv
  rw [h0] at hz hk
  rw [← e1] at hz hP1
  have hk' : ∀ q : Nat, q < H.size → ¬ va_A (cx ++ pl) H.size q → T'.heap[q]? = H[q]? := fun q h1 h2 => by rw [e1]; exact hk q h1 h2
  obtain ⟨hP2, hD2⟩ := va_joinP (wr := wr) hP hD isC isR hC hR hn hdis hk' hF hP1 hD1
  have hS2 : va_S A s.heap T'.heap (locs ++ L) := ⟨Nat.le_trans hS.1 hz, fun q h1 h2 => by rw [hk' q (Nat.lt_of_lt_of_le h1 hS.1) (fun z => h2 (hF q z))]; exact hS.2.1 q h1 h2, fun q hq => by
      rcases List.mem_append.mp hq with h | h
      · exact hS.2.2 q h
      · exact hF _ (hL q h)⟩
  obtain ⟨t2, a1, b1⟩ := kk T'.heap (locs ++ L) x hP2 hD2 hS2 T' rfl X'
  exact ⟨t2, st t2 a1, b1⟩
theorem gx_afterQ {a : Array Value} (hr : va_Run p l e R s m args below meth c H locs cells slots mc ms (F0 m pc ls st0) rest (gXQ dC dI rv (va_A (cx) H.size) (fun x => rx x) a) (va_A (cx) H.size)) (hP : va_P (dC, dI) vwCl (X ++ pl) H) (hD : va_D A (X ++ pl)) (hS : va_S A s.heap H locs) (hA : ∀ q, s.heap.size ≤ q → A q)
    (isC isR : List Nat) (hC : isC.map (fun i => X[i]?) = cx.map some) (hR : isR.map (fun i => X[i]?) = wr.map some) (hn : va_nd isR = true) (hdis : ∀ i ∈ isR, i ∉ isC)
    (kk : ∀ (H1 : Heap) (locs1 : List Loc) (x : EX), va_P (dC, dI) vwCl ((wr ++ rx x) ++ pl) H1 → va_D A ((wr ++ rx x) ++ pl) → va_S A s.heap H1 locs1 → W p l e R s m args below meth c H1 locs1 (cells + mc) (slots + ms) Q (F0 m (pc + 3) ls ((rv x).toList ++ rest))) : W p l e R s m args below meth c H locs cells slots Q (F0 m pc ls st0) := by
  have hF : ∀ q, va_A (cx) H.size q → A q := va_free (wc := cx) (gx_dropD hD) hS hA isC hC
  intro T hT XX
  obtain ⟨v, st₀, t, T', L, h0, X', hL, e1, e2, ⟨⟨x, hv, hP1, hD1⟩, hz, hk⟩, st⟩ := hr T hT XX
  cases hv
  rw [h0] at hz hk
  rw [← e1] at hz hP1
  have hk' : ∀ q : Nat, q < H.size → ¬ va_A (cx) H.size q → T'.heap[q]? = H[q]? := fun q h1 h2 => by rw [e1]; exact hk q h1 h2
  obtain ⟨hP2, hD2⟩ := va_joinQ (wr := wr) hP hD isC isR hC hR hn hdis hk' hF hP1 hD1
  have hS2 : va_S A s.heap T'.heap (locs ++ L) := ⟨Nat.le_trans hS.1 hz, fun q h1 h2 => by rw [hk' q (Nat.lt_of_lt_of_le h1 hS.1) (fun z => h2 (hF q z))]; exact hS.2.1 q h1 h2, fun q hq => by
      rcases List.mem_append.mp hq with h | h
      · exact hS.2.2 q h
      · exact hF _ (hL q h)⟩
  obtain ⟨t2, a1, b1⟩ := kk T'.heap (locs ++ L) x hP2 hD2 hS2 T' rfl X'
  exact ⟨t2, st t2 a1, b1⟩
theorem gxSP (S : CallFix p m c cc nL s args Ts own) (htg : ∀ w ∈ gw, w.before args s = true) (hE : gE dC dI cI cJ cZ cK s) (hG : gH adK adV A s s.heap) (hM : gXM l dC dI cI cJ cZ cK adK adV y bytes maxL ret fr lo mc ms (As) (cx ++ pl) (fun x => rx x ++ p1 x) rv) (hy : mS y bytes maxL ret n) (hl : Cond.methodLink own index y ∈ gw) (hR : fr + 1 ≤ R.frames ∧ 8 + (maxL + 11) + lo ≤ R.locals)
    (hP : va_P (dC, dI) vwCl (X ++ pl) H) (hD : va_D A (X ++ pl)) (hS : va_S A s.heap H locs) (hA : ∀ q, s.heap.size ≤ q → A q) (hcs : cells + mc ≤ R.cells ∧ slots + ms ≤ R.slots)
    (isC isR : List Nat) (hC : isC.map (fun i => X[i]?) = cx.map some) (hnC : va_nd isC = true) (hRr : isR.map (fun i => X[i]?) = wr.map some) (hn : va_nd isR = true) (hdis : ∀ i ∈ isR, i ∉ isC)
    (hlen : As.length = n) (hsize : ls.size = nL) (hst : st0 = As.reverse ++ rest) (hrest : (rest.map fun v => v.category).sum ≤ 8) (hdg : decode cc pc = .ok (.invokestatic index, 3))
    (kk : ∀ (H1 : Heap) (locs1 : List Loc) (x : EX), va_P (dC, dI) vwCl ((wr ++ rx x) ++ p1 x) H1 → va_D A ((wr ++ rx x) ++ p1 x) → va_S A s.heap H1 locs1 → W p l e R s m args below meth c H1 locs1 (cells + mc) (slots + ms) Q (F0 m (pc + 3) ls ((rv x).toList ++ rest))) : W p l e R s m args below meth c H locs cells slots Q (F0 m pc ls st0) := by
  obtain ⟨h1, h2, h3, h4, h5, h6⟩ := id hy
  have cw : CallB R s args own index y bytes maxL ret (uws y bytes maxL ret) ({ frames := fr, cells := mc, slots := ms, locals := lo }) mc ms n ∧ (Cond.static y).before args s = true :=
    ⟨callB_of n htg (gw_good h1) rfl rfl rfl (htg _ h3) (htg _ hl) ⟨h4, h5, h6⟩ hR, htg _ h2⟩
  have hr := va_runS (e := e) (locs := locs) (cells := cells) (slots := slots) (below := below) (meth := meth) (g := F0 m pc ls st0) (rest := rest) S (hM H.size) cw (gx_preP hE hG hP hD hS hA isC hC hnC (As)) rfl hlen hsize hst (lv_room hrest) hdg hcs
  exact gx_afterP hr hP hD hS hA isC isR hC hRr hn hdis kk
theorem gxSQ (S : CallFix p m c cc nL s args Ts own) (htg : ∀ w ∈ gw, w.before args s = true) (hE : gE dC dI cI cJ cZ cK s) (hG : gH adK adV A s s.heap) (hM : gXM l dC dI cI cJ cZ cK adK adV y bytes maxL ret fr lo mc ms (As) (cx) (rx) rv) (hy : mS y bytes maxL ret n) (hl : Cond.methodLink own index y ∈ gw) (hR : fr + 1 ≤ R.frames ∧ 8 + (maxL + 11) + lo ≤ R.locals)
    (hP : va_P (dC, dI) vwCl (X ++ pl) H) (hD : va_D A (X ++ pl)) (hS : va_S A s.heap H locs) (hA : ∀ q, s.heap.size ≤ q → A q) (hcs : cells + mc ≤ R.cells ∧ slots + ms ≤ R.slots)
    (isC isR : List Nat) (hC : isC.map (fun i => X[i]?) = cx.map some) (hnC : va_nd isC = true) (hRr : isR.map (fun i => X[i]?) = wr.map some) (hn : va_nd isR = true) (hdis : ∀ i ∈ isR, i ∉ isC)
    (hlen : As.length = n) (hsize : ls.size = nL) (hst : st0 = As.reverse ++ rest) (hrest : (rest.map fun v => v.category).sum ≤ 8) (hdg : decode cc pc = .ok (.invokestatic index, 3))
    (kk : ∀ (H1 : Heap) (locs1 : List Loc) (x : EX), va_P (dC, dI) vwCl ((wr ++ rx x) ++ pl) H1 → va_D A ((wr ++ rx x) ++ pl) → va_S A s.heap H1 locs1 → W p l e R s m args below meth c H1 locs1 (cells + mc) (slots + ms) Q (F0 m (pc + 3) ls ((rv x).toList ++ rest))) : W p l e R s m args below meth c H locs cells slots Q (F0 m pc ls st0) := by
  obtain ⟨h1, h2, h3, h4, h5, h6⟩ := id hy
  have cw : CallB R s args own index y bytes maxL ret (uws y bytes maxL ret) ({ frames := fr, cells := mc, slots := ms, locals := lo }) mc ms n ∧ (Cond.static y).before args s = true :=
    ⟨callB_of n htg (gw_good h1) rfl rfl rfl (htg _ h3) (htg _ hl) ⟨h4, h5, h6⟩ hR, htg _ h2⟩
  have hr := va_runS (e := e) (locs := locs) (cells := cells) (slots := slots) (below := below) (meth := meth) (g := F0 m pc ls st0) (rest := rest) S (hM H.size) cw (gx_preQ hE hG hP hD hS hA isC hC hnC (As)) rfl hlen hsize hst (lv_room hrest) hdg hcs
  exact gx_afterQ hr hP hD hS hA isC isR hC hRr hn hdis kk
theorem gxVP (S : CallFix p m c cc nL s args Ts own) (htg : ∀ w ∈ gw, w.before args s = true) (hE : gE dC dI cI cJ cZ cK s) (hG : gH adK adV A s s.heap) (hM : gXM l dC dI cI cJ cZ cK adK adV y bytes maxL ret fr lo mc ms (.ref b :: As) (cx ++ pl) (fun x => rx x ++ p1 x) rv) (hy : mV y bytes maxL ret n) (hl : Cond.methodLink own index y ∈ gw) (hR : fr + 1 ≤ R.frames ∧ 8 + (maxL + 11) + lo ≤ R.locals)
    (hP : va_P (dC, dI) vwCl (X ++ pl) H) (hD : va_D A (X ++ pl)) (hS : va_S A s.heap H locs) (hA : ∀ q, s.heap.size ≤ q → A q) (hcs : cells + mc ≤ R.cells ∧ slots + ms ≤ R.slots)
    (q0 ci : Nat) {fs : List Value} {q : vw_C} (hc : vwCl[ci]? = some q) (hq : q.1 = y.cls) (he : (X ++ pl)[q0]? = some (b, .inr (ci, fs)))
    (isC isR : List Nat) (hC : isC.map (fun i => X[i]?) = cx.map some) (hnC : va_nd isC = true) (hRr : isR.map (fun i => X[i]?) = wr.map some) (hn : va_nd isR = true) (hdis : ∀ i ∈ isR, i ∉ isC)
    (hlen : As.length = n) (hsize : ls.size = nL) (hst : st0 = As.reverse ++ .ref b :: rest) (hrest : (rest.map fun v => v.category).sum ≤ 8) (hdg : decode cc pc = .ok (.invokevirtual index, 3))
    (kk : ∀ (H1 : Heap) (locs1 : List Loc) (x : EX), va_P (dC, dI) vwCl ((wr ++ rx x) ++ p1 x) H1 → va_D A ((wr ++ rx x) ++ p1 x) → va_S A s.heap H1 locs1 → W p l e R s m args below meth c H1 locs1 (cells + mc) (slots + ms) Q (F0 m (pc + 3) ls ((rv x).toList ++ rest))) : W p l e R s m args below meth c H locs cells slots Q (F0 m pc ls st0) := by
  obtain ⟨h1, h2, h3, h7, h4, h5, h6⟩ := id hy
  have hrv := va_recv hE.1 hP hc he
  rw [hq] at hrv
  have hp := gx_preP hE hG hP hD hS hA isC hC hnC (.ref b :: As)
  have cw : CallW R s args own y.cls index y bytes maxL ret (uws y bytes maxL ret) ({ frames := fr, cells := mc, slots := ms, locals := lo }) mc ms n :=
    ⟨callB_of n htg (gw_good h1) rfl rfl rfl (htg _ h7) (htg _ hl) ⟨h4, h5, h6⟩ hR, htg _ h2, htg _ h3⟩
  have hr := va_runV (e := e) (locs := locs) (cells := cells) (slots := slots) (below := below) (meth := meth) (g := F0 m pc ls st0) (rest := rest) S (hM H.size) cw ⟨hp.1, hrv, hp.2⟩ rfl hlen hsize hst (lv_room hrest) hdg hcs
  exact gx_afterP hr hP hD hS hA isC isR hC hRr hn hdis kk
theorem gxVQ (S : CallFix p m c cc nL s args Ts own) (htg : ∀ w ∈ gw, w.before args s = true) (hE : gE dC dI cI cJ cZ cK s) (hG : gH adK adV A s s.heap) (hM : gXM l dC dI cI cJ cZ cK adK adV y bytes maxL ret fr lo mc ms (.ref b :: As) (cx) (rx) rv) (hy : mV y bytes maxL ret n) (hl : Cond.methodLink own index y ∈ gw) (hR : fr + 1 ≤ R.frames ∧ 8 + (maxL + 11) + lo ≤ R.locals)
    (hP : va_P (dC, dI) vwCl (X ++ pl) H) (hD : va_D A (X ++ pl)) (hS : va_S A s.heap H locs) (hA : ∀ q, s.heap.size ≤ q → A q) (hcs : cells + mc ≤ R.cells ∧ slots + ms ≤ R.slots)
    (q0 ci : Nat) {fs : List Value} {q : vw_C} (hc : vwCl[ci]? = some q) (hq : q.1 = y.cls) (he : (X ++ pl)[q0]? = some (b, .inr (ci, fs)))
    (isC isR : List Nat) (hC : isC.map (fun i => X[i]?) = cx.map some) (hnC : va_nd isC = true) (hRr : isR.map (fun i => X[i]?) = wr.map some) (hn : va_nd isR = true) (hdis : ∀ i ∈ isR, i ∉ isC)
    (hlen : As.length = n) (hsize : ls.size = nL) (hst : st0 = As.reverse ++ .ref b :: rest) (hrest : (rest.map fun v => v.category).sum ≤ 8) (hdg : decode cc pc = .ok (.invokevirtual index, 3))
    (kk : ∀ (H1 : Heap) (locs1 : List Loc) (x : EX), va_P (dC, dI) vwCl ((wr ++ rx x) ++ pl) H1 → va_D A ((wr ++ rx x) ++ pl) → va_S A s.heap H1 locs1 → W p l e R s m args below meth c H1 locs1 (cells + mc) (slots + ms) Q (F0 m (pc + 3) ls ((rv x).toList ++ rest))) : W p l e R s m args below meth c H locs cells slots Q (F0 m pc ls st0) := by
  obtain ⟨h1, h2, h3, h7, h4, h5, h6⟩ := id hy
  have hrv := va_recv hE.1 hP hc he
  rw [hq] at hrv
  have hp := gx_preQ hE hG hP hD hS hA isC hC hnC (.ref b :: As)
  have cw : CallW R s args own y.cls index y bytes maxL ret (uws y bytes maxL ret) ({ frames := fr, cells := mc, slots := ms, locals := lo }) mc ms n :=
    ⟨callB_of n htg (gw_good h1) rfl rfl rfl (htg _ h7) (htg _ hl) ⟨h4, h5, h6⟩ hR, htg _ h2, htg _ h3⟩
  have hr := va_runV (e := e) (locs := locs) (cells := cells) (slots := slots) (below := below) (meth := meth) (g := F0 m pc ls st0) (rest := rest) S (hM H.size) cw ⟨hp.1, hrv, hp.2⟩ rfl hlen hsize hst (lv_room hrest) hdg hcs
  exact gx_afterQ hr hP hD hS hA isC isR hC hRr hn hdis kk
theorem gxNP (S : CallFix p m c cc nL s args Ts own) (htg : ∀ w ∈ gw, w.before args s = true) (hE : gE dC dI cI cJ cZ cK s) (hG : gH adK adV A s s.heap) (hM : gXM l dC dI cI cJ cZ cK adK adV y bytes maxL ret fr lo mc ms (.ref b :: As) (cx ++ pl) (fun x => rx x ++ p1 x) rv) (hy : mV y bytes maxL ret n) (hl : Cond.methodLinkNest own index y host ∈ nw_all) (hR : fr + 1 ≤ R.frames ∧ 8 + (maxL + 11) + lo ≤ R.locals)
    (hP : va_P (dC, dI) vwCl (X ++ pl) H) (hD : va_D A (X ++ pl)) (hS : va_S A s.heap H locs) (hA : ∀ q, s.heap.size ≤ q → A q) (hcs : cells + mc ≤ R.cells ∧ slots + ms ≤ R.slots)
    (q0 ci : Nat) {fs : List Value} {q : vw_C} (hc : vwCl[ci]? = some q) (hq : q.1 = y.cls) (he : (X ++ pl)[q0]? = some (b, .inr (ci, fs)))
    (isC isR : List Nat) (hC : isC.map (fun i => X[i]?) = cx.map some) (hnC : va_nd isC = true) (hRr : isR.map (fun i => X[i]?) = wr.map some) (hn : va_nd isR = true) (hdis : ∀ i ∈ isR, i ∉ isC)
    (hlen : As.length = n) (hsize : ls.size = nL) (hst : st0 = As.reverse ++ .ref b :: rest) (hrest : (rest.map fun v => v.category).sum ≤ 8) (hdg : decode cc pc = .ok (.invokevirtual index, 3))
    (kk : ∀ (H1 : Heap) (locs1 : List Loc) (x : EX), va_P (dC, dI) vwCl ((wr ++ rx x) ++ p1 x) H1 → va_D A ((wr ++ rx x) ++ p1 x) → va_S A s.heap H1 locs1 → W p l e R s m args below meth c H1 locs1 (cells + mc) (slots + ms) Q (F0 m (pc + 3) ls ((rv x).toList ++ rest))) : W p l e R s m args below meth c H locs cells slots Q (F0 m pc ls st0) := by
  obtain ⟨h1, h2, h3, h7, h4, h5, h6⟩ := id hy
  have hrv := va_recv hE.1 hP hc he
  rw [hq] at hrv
  have hp := gx_preP hE hG hP hD hS hA isC hC hnC (.ref b :: As)
  have cw : va_CN R s args own index y host bytes maxL ret (uws y bytes maxL ret) ({ frames := fr, cells := mc, slots := ms, locals := lo }) mc ms n ∧ (Cond.instanceMethod y).before args s = true ∧ (Cond.selects y.cls y y).before args s = true :=
    ⟨va_cnB n htg (gw_good h1) rfl rfl rfl (hE.2 _ hl) (htg _ h7) ⟨h4, h5, h6⟩ hR, htg _ h2, htg _ h3⟩
  have hr := va_runVN (e := e) (locs := locs) (cells := cells) (slots := slots) (below := below) (meth := meth) (g := F0 m pc ls st0) (rest := rest) S (hM H.size) cw ⟨hp.1, hrv, hp.2⟩ rfl hlen hsize hst (lv_room hrest) hdg hcs
  exact gx_afterP hr hP hD hS hA isC isR hC hRr hn hdis kk
theorem gxNQ (S : CallFix p m c cc nL s args Ts own) (htg : ∀ w ∈ gw, w.before args s = true) (hE : gE dC dI cI cJ cZ cK s) (hG : gH adK adV A s s.heap) (hM : gXM l dC dI cI cJ cZ cK adK adV y bytes maxL ret fr lo mc ms (.ref b :: As) (cx) (rx) rv) (hy : mV y bytes maxL ret n) (hl : Cond.methodLinkNest own index y host ∈ nw_all) (hR : fr + 1 ≤ R.frames ∧ 8 + (maxL + 11) + lo ≤ R.locals)
    (hP : va_P (dC, dI) vwCl (X ++ pl) H) (hD : va_D A (X ++ pl)) (hS : va_S A s.heap H locs) (hA : ∀ q, s.heap.size ≤ q → A q) (hcs : cells + mc ≤ R.cells ∧ slots + ms ≤ R.slots)
    (q0 ci : Nat) {fs : List Value} {q : vw_C} (hc : vwCl[ci]? = some q) (hq : q.1 = y.cls) (he : (X ++ pl)[q0]? = some (b, .inr (ci, fs)))
    (isC isR : List Nat) (hC : isC.map (fun i => X[i]?) = cx.map some) (hnC : va_nd isC = true) (hRr : isR.map (fun i => X[i]?) = wr.map some) (hn : va_nd isR = true) (hdis : ∀ i ∈ isR, i ∉ isC)
    (hlen : As.length = n) (hsize : ls.size = nL) (hst : st0 = As.reverse ++ .ref b :: rest) (hrest : (rest.map fun v => v.category).sum ≤ 8) (hdg : decode cc pc = .ok (.invokevirtual index, 3))
    (kk : ∀ (H1 : Heap) (locs1 : List Loc) (x : EX), va_P (dC, dI) vwCl ((wr ++ rx x) ++ pl) H1 → va_D A ((wr ++ rx x) ++ pl) → va_S A s.heap H1 locs1 → W p l e R s m args below meth c H1 locs1 (cells + mc) (slots + ms) Q (F0 m (pc + 3) ls ((rv x).toList ++ rest))) : W p l e R s m args below meth c H locs cells slots Q (F0 m pc ls st0) := by
  obtain ⟨h1, h2, h3, h7, h4, h5, h6⟩ := id hy
  have hrv := va_recv hE.1 hP hc he
  rw [hq] at hrv
  have hp := gx_preQ hE hG hP hD hS hA isC hC hnC (.ref b :: As)
  have cw : va_CN R s args own index y host bytes maxL ret (uws y bytes maxL ret) ({ frames := fr, cells := mc, slots := ms, locals := lo }) mc ms n ∧ (Cond.instanceMethod y).before args s = true ∧ (Cond.selects y.cls y y).before args s = true :=
    ⟨va_cnB n htg (gw_good h1) rfl rfl rfl (hE.2 _ hl) (htg _ h7) ⟨h4, h5, h6⟩ hR, htg _ h2, htg _ h3⟩
  have hr := va_runVN (e := e) (locs := locs) (cells := cells) (slots := slots) (below := below) (meth := meth) (g := F0 m pc ls st0) (rest := rest) S (hM H.size) cw ⟨hp.1, hrv, hp.2⟩ rfl hlen hsize hst (lv_room hrest) hdg hcs
  exact gx_afterQ hr hP hD hS hA isC isR hC hRr hn hdis kk
theorem g_newI (hx : p.tables.exec = Jvm.exec) (hb : c.code = cc) (hE : gE dC dI cI cJ cZ cK s) (harr : (Cond.arrayClass .int).before args s = true) {ws : va_W} {H0 : Heap} (hP : va_P (dC, dI) vwCl ws H) (hD : va_D A ws) (hS : va_S A H0 H locs) (hA : ∀ q, H0.size ≤ q → A q)
    {n : Int32} {N : Nat} (hn : ¬ n < 0) (hN : n.toNatClampNeg = N) (hbytes : N * 4 ≤ 536870912) (hcells : cells + 1 ≤ R.cells) (hslots : slots + N ≤ R.slots) (hdg : decode cc pc = .ok (.newarray .int, 2))
    (kk : ∀ (q : Nat) (H1 : Heap), va_P (dC, dI) vwCl (ws ++ [(q, .inl (cI, (N, .inl (fun _ => 0))))]) H1 → va_D A (ws ++ [(q, .inl (cI, (N, .inl (fun _ => 0))))]) → va_S A H0 H1 locs → W p l e R s m args below meth c H1 locs (cells + 1) (slots + N) Q (F0 m (pc + 2) ls (.ref q :: rest))) :
    W p l e R s m args below meth c H locs cells slots Q (F0 m pc ls (.int n :: rest)) := by
  refine va_newa (atype := .int) (a0 := (N, .inl (fun _ => 0))) hx hb harr rfl hE.1 hP hD hS hA (fun cA => rfl) hn hN hbytes hcells hslots hdg (fun q cA H1 hK1 hP1 hD1 hS1 => ?_)
  have e1 : s.vm.findClass ("[" ++ (FieldType.int).toString) = some cA := (hK1.2 4 (cA, .int) rfl).2
  have e2 : s.vm.findClass ("[" ++ (FieldType.int).toString) = some cI := (hE.1.2 0 (cI, .int) rfl).2
  obtain rfl : cA = cI := Option.some.inj (e1.symm.trans e2)
  exact kk q H1 hP1 hD1 hS1
theorem g_newJ (hx : p.tables.exec = Jvm.exec) (hb : c.code = cc) (hE : gE dC dI cI cJ cZ cK s) (harr : (Cond.arrayClass .long).before args s = true) {ws : va_W} {H0 : Heap} (hP : va_P (dC, dI) vwCl ws H) (hD : va_D A ws) (hS : va_S A H0 H locs) (hA : ∀ q, H0.size ≤ q → A q)
    {n : Int32} {N : Nat} (hn : ¬ n < 0) (hN : n.toNatClampNeg = N) (hbytes : N * 8 ≤ 536870912) (hcells : cells + 1 ≤ R.cells) (hslots : slots + N ≤ R.slots) (hdg : decode cc pc = .ok (.newarray .long, 2))
    (kk : ∀ (q : Nat) (H1 : Heap), va_P (dC, dI) vwCl (ws ++ [(q, .inl (cJ, (N, .inr (.inl (fun _ => 0)))))]) H1 → va_D A (ws ++ [(q, .inl (cJ, (N, .inr (.inl (fun _ => 0)))))]) → va_S A H0 H1 locs → W p l e R s m args below meth c H1 locs (cells + 1) (slots + N) Q (F0 m (pc + 2) ls (.ref q :: rest))) :
    W p l e R s m args below meth c H locs cells slots Q (F0 m pc ls (.int n :: rest)) := by
  refine va_newa (atype := .long) (a0 := (N, .inr (.inl (fun _ => 0)))) hx hb harr rfl hE.1 hP hD hS hA (fun cA => rfl) hn hN hbytes hcells hslots hdg (fun q cA H1 hK1 hP1 hD1 hS1 => ?_)
  have e1 : s.vm.findClass ("[" ++ (FieldType.long).toString) = some cA := (hK1.2 4 (cA, .long) rfl).2
  have e2 : s.vm.findClass ("[" ++ (FieldType.long).toString) = some cJ := (hE.1.2 1 (cJ, .long) rfl).2
  obtain rfl : cA = cJ := Option.some.inj (e1.symm.trans e2)
  exact kk q H1 hP1 hD1 hS1
/-- a new row of ints of at most 28, ahead of the rows -/
theorem g_newX (hx : p.tables.exec = Jvm.exec) (hb : c.code = cc) (hE : gE dC dI cI cJ cZ cK s) (harr : (Cond.arrayClass .int).before args s = true) (hP : va_P (dC, dI) vwCl (X ++ pl) H) (hD : va_D A (X ++ pl)) (hS : va_S A s.heap H locs) (hA : ∀ q, s.heap.size ≤ q → A q)
    {n : Int32} {B : Nat} (hn : ¬ n < 0) (hN : n.toNatClampNeg ≤ B) (hB : B ≤ 28) (hcells : cells + 1 ≤ R.cells) (hslots : slots + B ≤ R.slots) (hdg : decode cc pc = .ok (.newarray .int, 2))
    (kk : ∀ (q : Nat) (H1 : Heap), va_P (dC, dI) vwCl ((X ++ [(q, .inl (cI, (n.toNatClampNeg, .inl (fun _ => 0))))]) ++ pl) H1 → va_D A ((X ++ [(q, .inl (cI, (n.toNatClampNeg, .inl (fun _ => 0))))]) ++ pl) → va_S A s.heap H1 locs → W p l e R s m args below meth c H1 locs (cells + 1) (slots + B) Q (F0 m (pc + 2) ls (.ref q :: rest))) :
    W p l e R s m args below meth c H locs cells slots Q (F0 m pc ls (.int n :: rest)) := by
  refine g_newI hx hb hE harr hP hD hS hA hn rfl (by omega) hcells (by omega) hdg (fun q H1 hP hD hS => ?_)
  exact W.widen (Nat.le_refl _) (by omega) (kk q H1 hP.swap hD.swap hS)
/-- an element of a row of rows -/
theorem g_aldR (hx : p.tables.exec = Jvm.exec) (hb : c.code = cc) (hE : gE dC dI cI cJ cZ cK s) {ws : va_W} (hP : va_P (dC, dI) vwCl ws H) (q0 t0 : Nat) {a : Nat} {cA : ClassId} {ty : FieldType} {n : Nat} {f : Nat → Option Nat} (ha : ws[q0]? = some (a, .inl (cA, n, .inr (.inr (.inr (.inr f)))))) (ht : (ty3 cI cJ cZ cK)[t0]? = some (cA, .array ty)) {i : Int32} (hin : vp_in i n) {b : Nat} (hf : f i.toNatClampNeg = some b) (hdg : decode cc pc = .ok (.aaload, 1))
    (kk : W p l e R s m args below meth c H locs cells slots Q (F0 m (pc + 1) ls (.ref b :: rest))) : W p l e R s m args below meth c H locs cells slots Q (F0 m pc ls (.int i :: .ref a :: rest)) := by
  have hlt : i.toNatClampNeg < n := Nat.not_le.mp fun q => hin (Or.inr q)
  exact W.aald (v := .ref b) (ty := .array ty) hx hb (hP q0 _ ha) ((hE.1.2 t0 _ ht).1 n (fun j => va_rf (f j))) rfl (fun q => by cases q) (by show ¬ (i < 0 ∨ (arrV _ _ _).slots.size ≤ _); rw [arrV_size]; exact hin) (by show (arrV _ _ _).slots[_]? = _; rw [arrV_read _ _ hlt, hf]; rfl) rfl rfl hdg kk
/-- a row of ints into a row of rows -/
theorem g_astR (hx : p.tables.exec = Jvm.exec) (hb : c.code = cc) (hE : gE dC dI cI cJ cZ cK s) (hO : va_AOA .int s) {ws : va_W} (hP : va_P (dC, dI) vwCl ws H) (hD : va_D A ws) (hS : va_S A s.heap H locs) (q0 qk : Nat) {a v n N : Nat} {f : Nat → Option Nat} {g : Nat → Int32} (ha : ws[q0]? = some (a, .inl (cZ, n, .inr (.inr (.inr (.inr f)))))) (hv : ws[qk]? = some (v, .inl (cI, N, .inl g))) {i : Int32} (hin : vp_in i n) (hdg : decode cc pc = .ok (.aastore, 1))
    (kk : ∀ (H1 : Heap) (locs1 : List Loc), va_P (dC, dI) vwCl (ws.set q0 (a, .inl (cZ, n, .inr (.inr (.inr (.inr (va_up f i.toNatClampNeg (some v)))))))) H1 → va_D A (ws.set q0 (a, .inl (cZ, n, .inr (.inr (.inr (.inr (va_up f i.toNatClampNeg (some v)))))))) → va_S A s.heap H1 locs1 → W p l e R s m args below meth c H1 locs1 cells slots Q (F0 m (pc + 1) ls rest)) : W p l e R s m args below meth c H locs cells slots Q (F0 m pc ls (.ref v :: .int i :: .ref a :: rest)) := by
  have hlt : i.toNatClampNeg < n := Nat.not_le.mp fun q => hin (Or.inr q)
  have h0 : ¬ i < 0 := fun q => hin (Or.inl q)
  obtain ⟨comp, c9, k9, hcomp, -, hk9, hkind, hname⟩ := arrayOver_specB (args := #[]) (first := s) (o := none) (idx := []) hO
  have e1 : s.vm.findClass ("[" ++ (FieldType.array .int).toString) = some cZ := (hE.1.2 2 (cZ, .array .int) rfl).2
  obtain rfl : c9 = cZ := Option.some.inj (hname.symm.trans e1)
  have e2 : s.vm.findClass (FieldType.array .int).toString = some cI := (hE.1.2 0 (cI, .int) rfl).2
  obtain rfl : comp = cI := Option.some.inj (hcomp.symm.trans e2)
  obtain ⟨-, kI, hkI, -⟩ := (hE.1.2 0 (comp, .int) rfl).1 N (fun j => .int (g j))
  have hkI' : s.vm.classes[comp]? = some kI := hkI
  refine W.aast hx hb (hP q0 _ ha) (fun q h => by cases h) (fun h => by cases h) hk9 hkind rfl hkI' ⟨h0, by show _ < (arrV _ _ _).slots.size; rw [arrV_size]; exact hlt⟩ (hP qk _ hv) (fun q h => by cases h) hkI' (Vm.assignable_self _ _) rfl rfl hdg fun H1 e z oq => ?_
  refine kk H1 _ (hP.set hD ha ?_ oq) (hD.set ha) (hS.put z oq (hD.2 q0 _ ha))
  show H1[a]? = some (vp_cell _ _)
  rw [e]
  rw [vp_cell_q, vp_cell_q, arrV_store]
  congr 2
  funext q
  by_cases hq : q = i.toNatClampNeg
  · subst hq
    simp [updV, va_up, va_rf]
  · simp [updV, va_up, hq]
end KITX
