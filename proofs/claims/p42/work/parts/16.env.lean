def strs : List (String × Nat × String × Nat) := [("FamilyChartLaw", 91, "person ", 2), ("FamilyChartLaw", 96, " ", 3), ("FamilyChartLaw", 102, "union ", 4), ("FamilyChart$TextReader", 39, "person", 0), ("FamilyChart$TextReader", 48, "union", 1)]
def gS (adK : Nat → Nat) (U : State) : Prop := ∀ (i : Nat) (q : String × Nat × String × Nat), strs[i]? = some q → vk_R q.1 q.2.1 q.2.2.1 (adK q.2.2.2) U
/-- a text in the heap -/
def gT1 (a v : Nat) (byt : List Int32) (A : Nat → Prop) (U : State) (H : Heap) : Prop :=
  va_O "java/lang/String" a A U H ∧ va_OF "java/lang/String" "coder" "B" (.int 0) a A U H ∧ va_OF "java/lang/String" "value" "[B" (.ref v) a A U H ∧ va_T .byte v byt.length (fun j => .int (byt.getD j 0)) A U H
theorem gT1.moved {a v : Nat} {byt : List Int32} {A : Nat → Prop} {u U : State} {H : Heap} (hvm : u.vm.Alike U.vm) (h : gT1 a v byt A u H) : gT1 a v byt A U H := ⟨h.1.moved hvm, h.2.1.moved hvm, h.2.2.1.moved hvm, h.2.2.2.moved hvm⟩
theorem gT1.kept {a v : Nat} {byt : List Int32} {A : Nat → Prop} {U : State} {H H1 : Heap} (h : gT1 a v byt A U H) (hq : ∀ a : Nat, a < H.size → ¬ A a → H1[a]? = H[a]?) : gT1 a v byt A U H1 := ⟨h.1.kept hq, h.2.1.kept hq, h.2.2.1.kept hq, h.2.2.2.kept hq⟩
theorem gT1.narrow {a v : Nat} {byt : List Int32} {A B : Nat → Prop} {U : State} {H : Heap} (h : gT1 a v byt A U H) (hAB : ∀ q, B q → A q) : gT1 a v byt B U H := ⟨h.1.narrow hAB, h.2.1.narrow hAB, h.2.2.1.narrow hAB, h.2.2.2.narrow hAB⟩
/-- the script, as the numbers of adV have it -/
def sX (adV : Nat → Nat) (j : Nat) : Int32 := Int32.ofNat (adV (30 + j))
def gSc (adV : Nat → Nat) (A : Nat → Prop) (U : State) (H : Heap) : Prop := va_T .int (adV 20) (adV 21) (fun j => .int (sX adV j)) A U H ∧ adV 21 ≤ 260
/-- the links to private fields of the law's own family -/
def fn_all : List Cond := [.fieldLinkNest "FamilyChartLaw" 31 "FamilyChartLaw$Own" "persons" "I" "FamilyChartLaw", .fieldLinkNest "FamilyChartLaw" 53 "FamilyChartLaw$Own" "unions" "I" "FamilyChartLaw", .fieldLinkNest "FamilyChartLaw" 39 "FamilyChartLaw$Own" "year" "[I" "FamilyChartLaw", .fieldLinkNest "FamilyChartLaw" 35 "FamilyChartLaw$Own" "parents" "[I" "FamilyChartLaw", .fieldLinkNest "FamilyChartLaw" 42 "FamilyChartLaw$Own" "letters" "[I" "FamilyChartLaw", .fieldLinkNest "FamilyChartLaw" 49 "FamilyChartLaw$Own" "union" "[[I" "FamilyChartLaw", .fieldLinkNest "FamilyChartLaw" 154 "FamilyChartLaw$Own" "order" "[[I" "FamilyChartLaw", .fieldLinkNest "FamilyChartLaw" 114 "FamilyChartLaw$Own" "rows" "I" "FamilyChartLaw"]
theorem fn_in : ∀ w ∈ fn_all, w ∈ lw_tbl := by decide +kernel
def fn_ok (w : Cond) : Bool := match w with
  | .fieldLinkNest _ _ _ _ _ _ => true
  | _ => false
theorem fn_shape : ∀ w ∈ fn_all, fn_ok w = true := by decide +kernel
def FN (U : State) : Prop := ∀ w ∈ fn_all, va_Nw w U
theorem FN.of {A : Array Value} {U : State} (h : ∀ w ∈ lw_tbl, w.before A U = true) : FN U := fun w hw => by
  have h1 := fn_shape w hw
  have h2 := h w (fn_in w hw)
  cases w <;> first | exact va_Nw.of rfl h2 | (exact absurd h1 (by simp [fn_ok]))
theorem FN.warm {s U : State} (hW : s.WarmedH U.vm) (h : FN s) : FN U := fun w hw => by
  have h1 := fn_shape w hw
  have h2 := h w hw
  cases w <;> first | exact va_Nw.warmF hW h2 | (exact absurd h1 (by simp [fn_ok]))
theorem FN.same {u U : State} (e : u.vm = U.vm) (h : FN u) : FN U := fun w hw => by
  have h1 := fn_shape w hw
  have h2 := h w hw
  cases w <;> first | exact va_Nw.same rfl e h2 | (exact absurd h1 (by simp [fn_ok]))
theorem va_AOA.moved {ty : FieldType} {u U : State} (hvm : u.vm.Alike U.vm) (h : va_AOA ty u) : va_AOA ty U := arrayOver_alikeB hvm h
theorem va_AOA.of {ty : FieldType} {A : Array Value} {U : State} (h : (Cond.arrayOver (.array ty)).before A U = true) : va_AOA ty U := h
def gH (adK adV : Nat → Nat) (A : Nat → Prop) (U : State) (H : Heap) : Prop :=
  gSc adV A U H ∧ FN U ∧ gS adK U ∧ (va_AOA .int U ∧ va_AOA .long U) ∧ (∀ i : Nat, i < 5 → gT1 (adK i) (adV i) (txb.getD i []) A U H) ∧ va_Z "java/lang/String" "COMPACT_STRINGS" "Z" (.int 1) A U H ∧ va_Zq "jdk/internal/util/Preconditions" "SIOOBE_FORMATTER" "Ljava/util/function/BiFunction;" A U H ∧ True
theorem gH.warm {adK adV : Nat → Nat} {A : Nat → Prop} {s U : State} {H : Heap} (hW : s.WarmedH U.vm) (h : gH adK adV A s H) : gH adK adV A U H :=
  ⟨⟨h.1.1.moved hW.alike, h.1.2⟩, FN.warm hW h.2.1, fun i q hq => vk_R.warm hW (h.2.2.1 i q hq), ⟨h.2.2.2.1.1.moved hW.alike, h.2.2.2.1.2.moved hW.alike⟩, fun i hi => (h.2.2.2.2.1 i hi).moved hW.alike, h.2.2.2.2.2.1.moved hW.alike, h.2.2.2.2.2.2.1.moved hW.alike, trivial⟩
theorem gH.calling {adK adV : Nat → Nat} {A : Nat → Prop} {U : State} {H : Heap} {g : JFrame} {mk : MethodId} {a : Array Value} (h : gH adK adV A U H) : gH adK adV A (U.calling g mk a) H :=
  ⟨⟨h.1.1.moved (u := U) (Vm.Alike.refl U.vm), h.1.2⟩, FN.same (u := U) rfl h.2.1, fun i q hq => vk_R.same (u := U) rfl (h.2.2.1 i q hq), ⟨h.2.2.2.1.1.moved (u := U) (Vm.Alike.refl U.vm), h.2.2.2.1.2.moved (u := U) (Vm.Alike.refl U.vm)⟩, fun i hi => (h.2.2.2.2.1 i hi).moved (u := U) (Vm.Alike.refl U.vm), h.2.2.2.2.2.1.moved (u := U) (Vm.Alike.refl U.vm), h.2.2.2.2.2.2.1.moved (u := U) (Vm.Alike.refl U.vm), trivial⟩
theorem gH.kept {adK adV : Nat → Nat} {A : Nat → Prop} {U : State} {H H1 : Heap} (h : gH adK adV A U H) (hq : ∀ a : Nat, a < H.size → ¬ A a → H1[a]? = H[a]?) : gH adK adV A U H1 :=
  ⟨⟨h.1.1.kept hq, h.1.2⟩, h.2.1, h.2.2.1, h.2.2.2.1, fun i hi => (h.2.2.2.2.1 i hi).kept hq, h.2.2.2.2.2.1.kept hq, h.2.2.2.2.2.2.1.kept hq, trivial⟩
theorem gH.narrow {adK adV : Nat → Nat} {A B : Nat → Prop} {U : State} {H : Heap} (h : gH adK adV A U H) (hAB : ∀ q, B q → A q) : gH adK adV B U H :=
  ⟨⟨h.1.1.narrow hAB, h.1.2⟩, h.2.1, h.2.2.1, h.2.2.2.1, fun i hi => (h.2.2.2.2.1 i hi).narrow hAB, h.2.2.2.2.2.1.narrow hAB, h.2.2.2.2.2.2.1.narrow hAB, trivial⟩
/-- a start with what stays of the heap -/
def gPreH (dC : Nat → ClassId) (dI : Nat → Nat → Nat) (cI cJ cZ cK : ClassId) (adK adV : Nat → Nat) (sz : Nat) (wc : va_W) (U : State) : Prop := gPre dC dI cI cJ cZ cK sz wc U ∧ gH adK adV (va_A wc sz) U U.heap

/-- the contract of a method that needs what stays of the heap, makes nothing and returns -/
def gMH (l : Launch) (dC : Nat → ClassId) (dI : Nat → Nat → Nat) (cI cJ cZ cK : ClassId) (adK adV : Nat → Nat) (y : MethodName) (bytes : ByteArray) (maxL : Nat) (ret : Option FieldType) (fr lo : Nat) (As : List Value) (wc w1 : va_W) (rv : Option Value) : Prop :=
  ∀ sz : Nat, Met l y (uws y bytes maxL ret) ({ frames := fr, cells := 0, slots := 0, locals := lo }) (va_Pc As (gPreH dC dI cI cJ cZ cK adK adV sz wc)) (gQ dC dI rv (va_A wc sz) w1) 0 0 (va_A wc sz)
section GENV
variable {p : Program} {l : Launch} {e : Env} {R : Room} {s : State} {m : MethodId} {args : Array Value} {below : List Frame} {meth : Method} {c : Code} {H : Heap} {locs : List Loc} {cells slots : Nat} {Q : State → Prop}
variable {dC : Nat → ClassId} {dI : Nat → Nat → Nat} {cI cJ cZ cK : ClassId} {adK adV : Nat → Nat} {A : Nat → Prop}
variable {y yo : MethodName} {bytes cc : ByteArray} {maxL mlo nL n index pc fr lo : Nat} {ret ro : Option FieldType} {own host : String} {b : Addr} {As rest st0 : List Value} {ls : Array Slot} {rv : Option Value} {wk wc w1 wr : va_W}
theorem g_preH (hE : gE dC dI cI cJ cZ cK s) (hG : gH adK adV A s s.heap) (hP : va_P (dC, dI) vwCl wk H) (hD : va_D A wk) (hS : va_S A s.heap H locs) (hA : ∀ q, s.heap.size ≤ q → A q) (isC : List Nat) (hC : isC.map (fun i => wk[i]?) = wc.map some) (hn : va_nd isC = true) (vs : List Value) : PreS s H (va_Pc vs (gPreH dC dI cI cJ cZ cK adK adV H.size wc)) vs := by
  obtain ⟨h1, h2⟩ := g_pre hE hP hD isC hC hn vs
  have hF := va_free (wc := wc) hD hS hA isC hC
  refine ⟨fun a U g mk q => ?_, fun U hU hW => ?_⟩
  · obtain ⟨q0, q1, q2⟩ := q
    have h3 := h1 a U g mk ⟨q0, q1⟩
    exact ⟨h3.1, h3.2, q2.calling⟩
  · have h3 := h2 U hU hW
    refine ⟨h3.1, h3.2, ?_⟩
    rw [hU]
    exact ((hG.kept hS.2.1).narrow hF).warm hW
theorem gcSH (S : CallFix p m c cc nL s args (uws yo cc mlo ro) own) (hE : gE dC dI cI cJ cZ cK s) (hG : gH adK adV A s s.heap) (hM : gMH l dC dI cI cJ cZ cK adK adV y bytes maxL ret fr lo As wc w1 rv) (hy : mS y bytes maxL ret n) (hl : Cond.methodLink own index y ∈ gw) (hR : fr + 1 ≤ R.frames ∧ 8 + (maxL + 11) + lo ≤ R.locals)
    (hP : va_P (dC, dI) vwCl wk H) (hD : va_D A wk) (hS : va_S A s.heap H locs) (hA : ∀ q, s.heap.size ≤ q → A q) (hcs : cells + 0 ≤ R.cells ∧ slots + 0 ≤ R.slots)
    (isC isR : List Nat) (hC : isC.map (fun i => wk[i]?) = wc.map some) (hnC : va_nd isC = true) (hRr : isR.map (fun i => wk[i]?) = wr.map some) (hn : va_nd isR = true) (hdis : ∀ i ∈ isR, i ∉ isC)
    (hlen : As.length = n) (hsize : ls.size = nL) (hst : st0 = As.reverse ++ rest) (hrest : (rest.map fun v => v.category).sum ≤ 8) (hdg : decode cc pc = .ok (.invokestatic index, 3))
    (kk : ∀ (H1 : Heap) (locs1 : List Loc), va_P (dC, dI) vwCl (wr ++ w1) H1 → va_D A (wr ++ w1) → va_S A s.heap H1 locs1 → W p l e R s m args below meth c H1 locs1 cells slots Q (F0 m (pc + 3) ls (rv.toList ++ rest))) : W p l e R s m args below meth c H locs cells slots Q (F0 m pc ls st0) := by
  have hr := va_runS (e := e) (locs := locs) (cells := cells) (slots := slots) (below := below) (meth := meth) (g := F0 m pc ls st0) (rest := rest) S (hM H.size) (g_payS S.2.2.2.2 hy (S.2.2.2.2 _ (List.mem_cons_of_mem _ hl)) hR) (g_preH hE hG hP hD hS hA isC hC hnC As) rfl hlen hsize hst (lv_room hrest) hdg hcs
  exact g_after hr hP hD hS hA isC isR hC hRr hn hdis kk
theorem gcRH (S : CallFix p m c cc nL s args (uws yo cc mlo ro) own) (hE : gE dC dI cI cJ cZ cK s) (hG : gH adK adV A s s.heap) (hM : gMH l dC dI cI cJ cZ cK adK adV y bytes maxL ret fr lo (.ref b :: As) wc w1 rv) (hy : mV y bytes maxL ret n) (hl : Cond.methodLink own index y ∈ gw) (hR : fr + 1 ≤ R.frames ∧ 8 + (maxL + 11) + lo ≤ R.locals)
    (hP : va_P (dC, dI) vwCl wk H) (hD : va_D A wk) (hS : va_S A s.heap H locs) (hA : ∀ q, s.heap.size ≤ q → A q) (hcs : cells + 0 ≤ R.cells ∧ slots + 0 ≤ R.slots)
    (hrv : ∃ cell : Cell, H[b]? = some cell ∧ cell.vm.isStatics = false ∧ s.vm.findClass y.cls = some cell.cls)
    (isC isR : List Nat) (hC : isC.map (fun i => wk[i]?) = wc.map some) (hnC : va_nd isC = true) (hRr : isR.map (fun i => wk[i]?) = wr.map some) (hn : va_nd isR = true) (hdis : ∀ i ∈ isR, i ∉ isC)
    (hlen : As.length = n) (hsize : ls.size = nL) (hst : st0 = As.reverse ++ .ref b :: rest) (hrest : (rest.map fun v => v.category).sum ≤ 8) (hdg : decode cc pc = .ok (.invokevirtual index, 3))
    (kk : ∀ (H1 : Heap) (locs1 : List Loc), va_P (dC, dI) vwCl (wr ++ w1) H1 → va_D A (wr ++ w1) → va_S A s.heap H1 locs1 → W p l e R s m args below meth c H1 locs1 cells slots Q (F0 m (pc + 3) ls (rv.toList ++ rest))) : W p l e R s m args below meth c H locs cells slots Q (F0 m pc ls st0) := by
  obtain ⟨h1, h2, h3, h7, h4, h5, h6⟩ := id hy
  have hts := S.2.2.2.2
  have cw : CallW R s args own y.cls index y bytes maxL ret (uws y bytes maxL ret) ({ frames := fr, cells := 0, slots := 0, locals := lo }) 0 0 n :=
    ⟨callB_of n hts (uws_good h1) rfl rfl rfl (hts _ (List.mem_cons_of_mem _ h7)) (hts _ (List.mem_cons_of_mem _ hl)) ⟨h4, h5, h6⟩ hR, hts _ (List.mem_cons_of_mem _ h2), hts _ (List.mem_cons_of_mem _ h3)⟩
  have hp := g_preH hE hG hP hD hS hA isC hC hnC (.ref b :: As)
  have hr := va_runV (e := e) (locs := locs) (cells := cells) (slots := slots) (below := below) (meth := meth) (g := F0 m pc ls st0) (rest := rest) S (hM H.size) cw ⟨hp.1, hrv, hp.2⟩ rfl hlen hsize hst (lv_room hrest) hdg hcs
  exact g_after hr hP hD hS hA isC isR hC hRr hn hdis kk
theorem gcVH (S : CallFix p m c cc nL s args (uws yo cc mlo ro) own) (hE : gE dC dI cI cJ cZ cK s) (hG : gH adK adV A s s.heap) (hM : gMH l dC dI cI cJ cZ cK adK adV y bytes maxL ret fr lo (.ref b :: As) wc w1 rv) (hy : mV y bytes maxL ret n) (hl : Cond.methodLink own index y ∈ gw) (hR : fr + 1 ≤ R.frames ∧ 8 + (maxL + 11) + lo ≤ R.locals)
    (hP : va_P (dC, dI) vwCl wk H) (hD : va_D A wk) (hS : va_S A s.heap H locs) (hA : ∀ q, s.heap.size ≤ q → A q) (hcs : cells + 0 ≤ R.cells ∧ slots + 0 ≤ R.slots)
    (q0 ci : Nat) {fs : List Value} {q : vw_C} (hc : vwCl[ci]? = some q) (hq : q.1 = y.cls) (he : wk[q0]? = some (b, .inr (ci, fs)))
    (isC isR : List Nat) (hC : isC.map (fun i => wk[i]?) = wc.map some) (hnC : va_nd isC = true) (hRr : isR.map (fun i => wk[i]?) = wr.map some) (hn : va_nd isR = true) (hdis : ∀ i ∈ isR, i ∉ isC)
    (hlen : As.length = n) (hsize : ls.size = nL) (hst : st0 = As.reverse ++ .ref b :: rest) (hrest : (rest.map fun v => v.category).sum ≤ 8) (hdg : decode cc pc = .ok (.invokevirtual index, 3))
    (kk : ∀ (H1 : Heap) (locs1 : List Loc), va_P (dC, dI) vwCl (wr ++ w1) H1 → va_D A (wr ++ w1) → va_S A s.heap H1 locs1 → W p l e R s m args below meth c H1 locs1 cells slots Q (F0 m (pc + 3) ls (rv.toList ++ rest))) : W p l e R s m args below meth c H locs cells slots Q (F0 m pc ls st0) := by
  have hrv := va_recv hE.1 hP hc he
  rw [hq] at hrv
  exact gcRH S hE hG hM hy hl hR hP hD hS hA hcs hrv isC isR hC hnC hRr hn hdis hlen hsize hst hrest hdg kk
theorem g_startH (hpn : plainName y.cls = true) (hcls : y.cls = own) (hle : (lg_sl As).length ≤ maxL)
    (k : ∀ (p : Program) (e : Env) (s : State) (m : MethodId) (below : List Frame) (meth : Method) (c : Code) (A : Nat → Prop) (ls : Array Slot), CallFix p m c bytes maxL s As.toArray (uws y bytes maxL ret) own → meth.sig.returnType = ret → meth.locks = false → gE dC dI cI cJ cZ cK s → gH adK adV A s s.heap → va_P (dC, dI) vwCl wc s.heap → va_D A wc → va_S A s.heap s.heap [] → (∀ q : Nat, s.heap.size ≤ q → A q) → lv_has ls maxL (lv_args 0 As) → meth.name = y.name →
      W p l e ({ frames := fr, cells := 0, slots := 0, locals := lo }) s m As.toArray below meth c s.heap [] 0 0 (MQ below (gQ dC dI rv A w1) As.toArray s 0 0 A) (F0 m 0 ls [])) : gMH l dC dI cI cJ cZ cK adK adV y bytes maxL ret fr lo As wc w1 rv := by
  intro sz
  refine Met.ofW (cc := bytes) (maxL := maxL) (ret := ret) hpn rfl ?_
  intro p e s m args below meth c s₁ B hml hv
  obtain ⟨rfl, ⟨hsz, hP, hE, hD0⟩, hG⟩ := hv
  have hts := atoms_spec (ws := uws y bytes maxL ret) B.pre
  have hown : s.vm.findClass own = some m.cls := by rw [← hcls]; exact findClass_of_methodNamed B.named
  have hin : meth.name = y.name := (name_of_methodNamed B.named B.method).1
  subst hsz
  have hD := hD0.self (sz := s.heap.size)
  have hl := lv_entry As (n := maxL) hle
  rw [lg_entry_eq]
  exact k p e s m below meth c (va_A wc s.heap.size) _ ⟨B.exec, B.bytes, hml, hown, hts⟩ B.returns B.notSynchronized hE hG hP hD va_S.rf (fun q h => Or.inr h) hl hin
end GENV

