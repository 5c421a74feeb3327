def R_law : String := "FamilyChartLaw"
def lw_P (b : Addr) (xs : List Int32) (args : Array Value) (s : State) : Prop := args = #[.ref b] ∧ s.IntsAt b xs ∧ xs.length ≤ 3072 ∧ (Jvm.Cond.and given_1 narrow_1).before args s = true
/-- what a walk over the start with the record d0 says of its end, said of the start itself -/
theorem lw_closed {s t : State} {o : Outcome} {d0 : Drawn} {L : List Loc} {k n : Nat} (hd0 : s.drawn.sameBut d0 lw_cs) (hv : ∃ v, o = .returned v) (hW : (s.setDrawn d0).WarmedH t.vm) (hs : (s.setDrawn d0).sameButNew ({ t with vm := s.vm } : State) L k n) : State.butDraws s t lw_cs (fun t1 => Framed s o t1 L k n) := by
  have h2 : t.drawn = d0 := congrArg State.drawn hs.1
  refine ⟨⟨hv, hW, State.sameButNew.setDrawn hs s.drawn⟩, ?_, by decide⟩
  rw [h2]
  exact hd0
def lw_Q (_ : Array Value) (s : State) (o : Outcome) (t : State) : Prop := o = .returned (some (.int 1)) ∧ State.butDraws s t lw_cs (fun t1 => Framed s o t1 [] 601024 7293034)
def lw_Z (below : List Frame) (a : Array Value) (s : State) : State → Prop := fun t => ∃ o, t.status = .running ∧ Ended t below o ∧ lw_Q a s o t
/-- the law's own end, with 1 on the stack, nothing written that was there before, its room as the claim has it; d0: the record of draws at this point (at the entry s.drawn: begin with 'refine W.base ?_' and 'have hd0 := Drawn.sameBut.refl s.drawn lw_cs') -/
theorem lw_ret {p : Program} {l : Launch} {e : Env} {s : State} {m : MethodId} {below : List Frame} {meth : Method} {c : Code} {b : Nat} {d0 : Drawn} (hd0 : s.drawn.sameBut d0 lw_cs) (hx : p.tables.exec = Jvm.exec) (hb : c.code = code) (hr : meth.sig.returnType = ret) (hlocks : meth.locks = false) {pc : Nat} {H : Heap} {ls : Array Slot} (hdg : decode code pc = .ok (.ireturn, 1)) : W p l e room_1 (s.setDrawn d0) m #[Value.ref b] below meth c H [] 601024 7293034 (lw_Z below #[Value.ref b] s) (F0 m pc ls [.int 1]) := by
  intro T hT X
  obtain ⟨fs, hret, hrun, hended, hW, hframe⟩ := X.leave (v := some (.int 1)) (hlocks := hlocks) (fun h => by rw [hr] at h; cases h)
  have hmeth' : T.vm.method? m = some meth := X.method'
  refine ⟨T.setFrames fs, ?_, .returned (some (.int 1)), hrun, hended, rfl, lw_closed hd0 ⟨_, rfl⟩ hW hframe⟩
  jvm_step X.here [X.here.top, hx, hb, hdg, hmeth', hr, ret, narrow_b1]
  (try refine ⟨rfl, ?_⟩); (try refine ⟨rfl, ?_⟩)
  first | (intro acts; rw [hret _ acts rfl rfl rfl]) | rw [hret _ _ rfl rfl rfl]
  exact Steps.refl _
/-- what holds at the law's entry: the machine, the code, the tables' words (any of lw_tbl by 'hts w (by decide +kernel)'), the script of L ints xs at the cell b, what the Statement gives of the start (any of its parts by flat_of_before) -/
def lw_At (p : Program) (s : State) (m : MethodId) (meth : Method) (c : Code) (b L : Nat) (xs : Nat → Int32) : Prop :=
  p.tables.exec = Jvm.exec ∧ c.code = code ∧ meth.sig.returnType = ret ∧ c.maxLocals = 9 ∧ s.vm.findClass R_law = some m.cls ∧ (∀ w ∈ lw_tbl, w.before #[Value.ref b] s = true) ∧ va_X b L xs s s.heap ∧ b < s.heap.size ∧ meth.locks = false ∧ (Jvm.Cond.and given_1 narrow_1).before #[Value.ref b] s = true

section LAWSTART
def wX (cI cJ cZ : ClassId) (q0 : Nat) (z : Nat → Nat) : va_W := [(q0, .inr (9, [.ref (z 0), .ref (z 2), .ref (z 14), .ref (z 18), .ref (z 25), .ref (z 28), .ref (z 31), .ref (z 33), .ref (z 46)])), ((z 0), .inr (3, [.ref (z 1), .int 0, .int 0, .int 0, .int 0, .int 0, .int 0, .int 0, .int (-1)])), ((z 1), .inl (cI, 800, .inl (fun _ => 0))), ((z 2), .inr (1, [.ref (z 3), .ref (z 4), .ref (z 5), .ref (z 6), .ref (z 7), .ref (z 8), .ref (z 9), .ref (z 10), .ref (z 11), .ref (z 12), .ref (z 13), .int 0, .int 0, .int 0])), ((z 3), .inl (cI, 128, .inl (fun _ => 0))), ((z 4), .inl (cI, 16, .inl (fun _ => 0))), ((z 5), .inl (cI, 16, .inl (fun _ => 0))), ((z 6), .inl (cI, 16, .inl (fun _ => 0))), ((z 7), .inl (cI, 12, .inl (fun _ => 0))), ((z 8), .inl (cI, 12, .inl (fun _ => 0))), ((z 9), .inl (cI, 12, .inl (fun _ => 0))), ((z 10), .inl (cI, 16, .inl (fun _ => 0))), ((z 11), .inl (cI, 16, .inl (fun _ => 0))), ((z 12), .inl (cI, 12, .inl (fun _ => 0))), ((z 13), .inl (cI, 12, .inl (fun _ => 0))), ((z 14), .inr (6, [.ref (z 2), .ref (z 15), .ref (z 16), .ref (z 17)])), ((z 15), .inl (cJ, 256, .inr (.inl (fun _ => 0)))), ((z 16), .inl (cI, 16, .inl (fun _ => 0))), ((z 17), .inl (cI, 16, .inl (fun _ => 0))), ((z 18), .inr (7, [.ref (z 2), .ref (z 19), .ref (z 20), .ref (z 21), .ref (z 22), .ref (z 23), .ref (z 24)])), ((z 19), .inl (cI, 28, .inl (fun _ => 0))), ((z 20), .inl (cI, 17, .inl (fun _ => 0))), ((z 21), .inl (cI, 28, .inl (fun _ => 0))), ((z 22), .inl (cI, 12, .inl (fun _ => 0))), ((z 23), .inl (cI, 12, .inl (fun _ => 0))), ((z 24), .inl (cI, 28, .inl (fun _ => 0))), ((z 25), .inr (0, [.ref (z 2), .ref (z 18), .ref (z 26), .ref (z 27)])), ((z 26), .inl (cI, 28, .inl (fun _ => 0))), ((z 27), .inl (cI, 28, .inl (fun _ => 0))), ((z 28), .inr (4, [.ref (z 2), .ref (z 18), .ref (z 25), .ref (z 29), .int 400, .ref (z 30), .int 0])), ((z 29), .inl (cI, 400, .inl (fun _ => 0))), ((z 30), .inl (cI, 200, .inl (fun _ => 0))), ((z 31), .inr (2, [.ref (z 2), .ref (z 18), .ref (z 32), .int 0, .int 0, .int 0])), ((z 32), .inl (cI, 891, .inl (fun _ => 0))), ((z 33), .inr (8, [.ref (z 0), .ref (z 34)])), ((z 34), .inr (1, [.ref (z 35), .ref (z 36), .ref (z 37), .ref (z 38), .ref (z 39), .ref (z 40), .ref (z 41), .ref (z 42), .ref (z 43), .ref (z 44), .ref (z 45), .int 0, .int 0, .int 0])), ((z 35), .inl (cI, 128, .inl (fun _ => 0))), ((z 36), .inl (cI, 16, .inl (fun _ => 0))), ((z 37), .inl (cI, 16, .inl (fun _ => 0))), ((z 38), .inl (cI, 16, .inl (fun _ => 0))), ((z 39), .inl (cI, 12, .inl (fun _ => 0))), ((z 40), .inl (cI, 12, .inl (fun _ => 0))), ((z 41), .inl (cI, 12, .inl (fun _ => 0))), ((z 42), .inl (cI, 16, .inl (fun _ => 0))), ((z 43), .inl (cI, 16, .inl (fun _ => 0))), ((z 44), .inl (cI, 12, .inl (fun _ => 0))), ((z 45), .inl (cI, 12, .inl (fun _ => 0))), ((z 46), .inr (5, [.ref (z 0), .ref (z 2), .ref (z 47), .ref (z 48), .ref (z 49)])), ((z 47), .inl (cI, 16, .inl (fun _ => 0))), ((z 48), .inl (cI, 16, .inl (fun _ => 0))), ((z 49), .inl (cI, 112, .inl (fun _ => 0)))]
def wM (cI cJ cZ cS : ClassId) (adK x : Nat → Nat) : va_W := [(x 0, .inr (10, oM x 0 0 false (x 1) 0 0 0 0 0 0 0 0 0 0 (-1) 0 0)), ((x 1), .inl (cJ, 130, .inr (.inl (fun _ => 0)))), ((x 2), .inl (cJ, 130, .inr (.inl (fun _ => 0)))), ((x 3), .inl (cJ, 130, .inr (.inl (fun _ => 0)))), ((x 4), .inl (cJ, 1300, .inr (.inl (fun _ => 0)))), ((x 9), .inl (cI, 16, .inl (fun _ => 0))), ((x 10), .inl (cI, 12, .inl (fun _ => 0))), ((x 11), .inl (cI, 16, .inl (fun _ => 0))), ((x 12), .inl (cI, 28, .inl (fun _ => 0))), ((x 13), .inl (cZ, 28, .inl (fun _ => 0))), ((x 14), .inl (cI, 448, .inl (fun _ => 0))), ((x 16), .inl (cI, 28, .inl (fun _ => 0))), ((x 17), .inl (cI, 800, .inl (fun _ => 0))), ((x 19), .inl (cJ, 256, .inr (.inl (fun _ => 0)))), ((x 20), .inl (cI, 16, .inl (fun _ => 0))), ((x 21), .inl (cI, 16, .inl (fun _ => 0))), ((x 22), .inl (cI, 200, .inl (fun _ => 0))), ((x 24), .inl (cI, 800, .inl (fun _ => 0))), ((x 34), .inl (cS, 7, .inr (.inr (.inr (.inr (va_up (va_up (va_up (va_up (va_up (va_up (va_up (fun _ => none) 0 (some (adK 0))) 1 (some (adK 5))) 2 (some (adK 6))) 3 (some (adK 7))) 4 (some (adK 8))) 5 (some (adK 9))) 6 (some (adK 10)))))))), ((x 35), .inl (cI, 200, .inl (fun _ => 0))), ((x 36), .inl (cJ, 200, .inr (.inl (fun _ => 0))))]
section KITM
variable {p : Program} {l : Launch} {e : Env} {R : Room} {s : State} {m : MethodId} {args : Array Value} {below : List Frame} {meth : Method} {c : Code} {H : Heap} {locs : List Loc} {cells slots : Nat} {Q : State → Prop}
variable {dC : Nat → ClassId} {dI : Nat → Nat → Nat} {cI cJ cZ : ClassId} {adK adV : Nat → Nat} {A : Nat → Prop} {H0 : Heap}
variable {y yo : MethodName} {bytes cc : ByteArray} {maxL mlo nL n index pc fr lo mc ms a : Nat} {ret ro : Option FieldType} {own host : String} {b : Addr} {As rest st0 : List Value} {ls : Array Slot} {wk wc wr ws : va_W} {Wo : (Nat → Nat) → va_W} {Wm : ClassId → (Nat → Nat) → va_W} {Ts : List Cond}
theorem gcM (S : CallFix p m c cc nL s args Ts own) (htg : ∀ w ∈ gw, w.before args s = true) (hE : gE dC dI cI cJ cZ s) (hG : gH adK adV A s H0) (hAO : va_AO "java/lang/String" s) (hM : giM l dC dI cI cJ cZ adK adV y bytes maxL fr lo mc ms b (.ref b :: As) wc Wm) (hy : mI y bytes maxL n) (hl : Cond.methodLink own index y ∈ gw) (hR : fr + 1 ≤ R.frames ∧ 8 + (maxL + 11) + lo ≤ R.locals)
    (hP : va_P (dC, dI) vwCl wk H) (hD : va_D A wk) (hS : va_S A H0 H locs) (hA : ∀ q, H0.size ≤ q → A q) (hcs : cells + mc ≤ R.cells ∧ slots + ms ≤ R.slots)
    (isC isR : List Nat) (hC : isC.map (fun i => wk[i]?) = wc.map some) (hnC : va_nd isC = true) (hRr : isR.map (fun i => wk[i]?) = wr.map some) (hn : va_nd isR = true) (hdis : ∀ i ∈ isR, i ∉ isC)
    (hlen : As.length = n) (hsize : ls.size = nL) (hst : st0 = As.reverse ++ .ref b :: rest) (hrest : (rest.map fun v => v.category).sum ≤ 8) (hdg : decode cc pc = .ok (.invokespecial index, 3))
    (kk : ∀ (H1 : Heap) (locs1 : List Loc) (cS : ClassId) (xs : Nat → Nat), xs 0 = b → ArrOfT s cS (.object "java/lang/String") → va_P (dC, dI) vwCl (wr ++ Wm cS xs) H1 → va_D A (wr ++ Wm cS xs) → va_S A H0 H1 locs1 → W p l e R s m args below meth c H1 locs1 (cells + mc) (slots + ms) Q (F0 m (pc + 3) ls rest)) : W p l e R s m args below meth c H locs cells slots Q (F0 m pc ls st0) := by
  obtain ⟨h1, h2, h3, h7, h4, h5, h6⟩ := id hy
  have cw : CallB R s args own index y bytes maxL none (uws y bytes maxL none) ({ frames := fr, cells := mc, slots := ms, locals := lo }) mc ms n ∧ y.name = "<init>" ∧ (Cond.instanceMethod y).before args s = true :=
    ⟨callB_of n htg (gw_good h1) rfl rfl rfl (htg _ h3) (htg _ hl) ⟨h4, h5, h6⟩ hR, h7, htg _ h2⟩
  obtain ⟨hp1, hp2⟩ := g_preL hE hG hP hD hS hA isC hC hnC (.ref b :: As)
  have hp : PreS s H (va_Pc (.ref b :: As) (fun U => gPreH dC dI cI cJ cZ adK adV H.size wc U ∧ va_AO "java/lang/String" U)) (.ref b :: As) :=
    ⟨fun a U g mk q => ⟨q.1, (hp1 a U g mk ⟨q.1, q.2.1⟩).2, va_AO.moved (u := U) (Vm.Alike.refl U.vm) q.2.2⟩, fun U hU hW => ⟨rfl, (hp2 U hU hW).2, hAO.moved hW.alike⟩⟩
  have hr := va_runI (e := e) (locs := locs) (cells := cells) (slots := slots) (below := below) (meth := meth) (g := F0 m pc ls st0) (rest := rest) S (hM H.size) cw hp rfl hlen hsize hst (lv_room hrest) hdg hcs
  have hF := va_free (wc := wc) hD hS hA isC hC
  intro T hT X
  obtain ⟨v, st₀, t, T', L, h0, X', hL, e1, e2, ⟨⟨cS, xs, hv, hx0, hAr, hP1, hD1⟩, hz, hk⟩, st⟩ := hr T hT X
  cases hv
  have hAr2 : ArrOfT s cS (.object "java/lang/String") := arrOfT_moved (Vm.Alike.symm (by rw [← e2]; exact (X'.ends T'.frames).1.alike)) hAr
  rw [h0] at hz hk
  rw [← e1] at hz hP1
  have hk' : ∀ q : Nat, q < H.size → ¬ va_A wc H.size q → T'.heap[q]? = H[q]? := fun q h1 h2 => by rw [e1]; exact hk q h1 h2
  obtain ⟨hP2, hD2⟩ := va_join (wr := wr) (w1 := Wm cS xs) hP hD isC isR hC hRr hn hdis hk' hF hP1 hD1
  have hS2 : va_S A H0 T'.heap (locs ++ L) := ⟨Nat.le_trans hS.1 hz, fun q h1 h2 => by rw [hk' q (Nat.lt_of_lt_of_le h1 hS.1) (fun z => h2 (hF q z))]; exact hS.2.1 q h1 h2, fun q hq => by
      rcases List.mem_append.mp hq with h | h
      · exact hS.2.2 q h
      · exact hF _ (hL q h)⟩
  obtain ⟨t2, a1, b1⟩ := kk T'.heap (locs ++ L) cS xs hx0 hAr2 hP2 hD2 hS2 T' rfl X'
  exact ⟨t2, st t2 a1, b1⟩
theorem gw_in {w : Cond} (h : w ∈ tables_1) (g : goodWord w = true) : w ∈ gw := List.mem_filter.mpr ⟨List.mem_append_right _ h, g⟩
/-- the cells named in one world are those of another, by their places -/
theorem wo_at {is : List Nat} {w full : va_W} (hs : is.map (fun i => full[i]?) = w.map some) {k : Nat} {q : Nat × va_E} (h : w[k]? = some q) : ∃ i, i ∈ is ∧ full[i]? = some q := by
  have h1 : (w.map some)[k]? = some (some q) := by rw [List.getElem?_map, h]; rfl
  rw [← hs, List.getElem?_map] at h1
  cases hi : is[k]? with
  | none => rw [hi] at h1; cases h1
  | some i => rw [hi] at h1; exact ⟨i, List.mem_of_getElem? hi, Option.some.inj h1⟩
end KITM
set_option maxHeartbeats 4000000 in
set_option maxRecDepth 100000 in
theorem st_perm (cI cJ cZ cS : ClassId) (adK x z : Nat → Nat) (q0 qo : Nat) : [0, 1, 3, 35, 15, 19, 26, 29, 32, 34, 47, 2, 4, 5, 6, 7, 8, 9, 10, 11, 12, 13, 14, 36, 37, 38, 39, 40, 41, 42, 43, 44, 45, 46, 16, 17, 18, 20, 21, 22, 23, 24, 25, 27, 28, 30, 31, 33, 48, 49, 50, 51, 52, 53, 54, 55, 56, 57, 58, 59, 60, 61, 62, 63, 64, 65, 66, 67, 68, 70, 71, 72].map (fun i => ((wX cI cJ cZ q0 z ++ wM cI cJ cZ cS adK x) ++ [(qo, .inl (cJ, (1, .inr (.inl (fun _ => 0)))))])[i]?) = (LW cI cJ cZ x q0 (z 0) (z 2) (z 14) (z 18) (z 25) (z 28) (z 31) (z 33) (z 46) (z 1) (z 3) (z 4) (z 5) (z 6) (z 7) (z 8) (z 9) (z 10) (z 11) (z 12) (z 13) (z 34) (z 35) (z 36) (z 37) (z 38) (z 39) (z 40) (z 41) (z 42) (z 43) (z 44) (z 45) (z 15) (z 16) (z 17) (z 19) (z 20) (z 21) (z 22) (z 23) (z 24) (z 26) (z 27) (z 29) (z 30) (z 32) (z 47) (z 48) (z 49) qo 0 0 0 0 0 0 0 (-1) 0 0 0 0 0 0 400 0 0 0 false (fun _ => 0) (fun _ => 0) (fun _ => 0) (fun _ => 0) (fun _ => 0) (fun _ => 0) (fun _ => 0) (fun _ => 0) (fun _ => 0) (fun _ => 0) (fun _ => 0) (fun _ => 0) (fun _ => 0) (fun _ => 0) (fun _ => 0) (fun _ => 0) (fun _ => 0) (fun _ => 0) (fun _ => 0) (fun _ => 0) (fun _ => 0) (fun _ => 0) (fun _ => 0) (fun _ => 0) (fun _ => 0) (fun _ => 0) (fun _ => 0) (fun _ => 0) (fun _ => 0) (fun _ => 0) (fun _ => 0) (fun _ => 0) (fun _ => 0) (fun _ => 0) (fun _ => 0) (fun _ => 0) (fun _ => 0) (fun _ => 0) (fun _ => 0) (fun _ => 0) 0 0 false 0 0 0 0 0 0 0 0 0 0 (-1) 0 0 (fun _ => 0) (fun _ => 0) (fun _ => 0) (fun _ => 0) (fun _ => 0) (fun _ => 0) (fun _ => 0) (fun _ => 0) (fun _ => false) (fun _ => 0) (fun _ => 0) (fun _ => 0) (fun _ => 0) (fun _ => 0) (fun _ => 0) (fun _ => 0) (fun _ => 0) (fun _ => 0) (fun _ => 0) (fun _ => 0)).map some := rfl
set_option maxHeartbeats 4000000 in
set_option maxRecDepth 100000 in
theorem st_34 (cI cJ cZ cS : ClassId) (adK x z : Nat → Nat) (q0 qo : Nat) : ((wX cI cJ cZ q0 z ++ wM cI cJ cZ cS adK x) ++ [(qo, .inl (cJ, (1, .inr (.inl (fun _ => 0)))))])[69]? = some (x 34, .inl (cS, 7, .inr (.inr (.inr (.inr (va_up (va_up (va_up (va_up (va_up (va_up (va_up (fun _ => none) 0 (some (adK 0))) 1 (some (adK 5))) 2 (some (adK 6))) 3 (some (adK 7))) 4 (some (adK 8))) 5 (some (adK 9))) 6 (some (adK 10)))))))) := rfl
set_option maxHeartbeats 8000000 in
set_option maxRecDepth 100000 in
theorem whole_start {p : Program} {e : Env} {s : State} {m : MethodId} {below : List Frame} {meth : Method} {c : Code} (l : Launch) (hflags : l.flags = flags0) {b L : Nat} {xs : Nat → Int32} (hL : L ≤ 3072) (C0 : lw_At p s m meth c b L xs) : W p l e room_1 s m #[Value.ref b] below meth c s.heap [] 0 0 (lw_Z below #[Value.ref b] s) (entryFrame m ([Value.ref b] : List Value).toArray 9) := by
  obtain ⟨hx, hb, hr, hml, hown, hts, hX, hbl, hlocks, hgv⟩ := C0
  have S : CallFix p m c code 9 s #[Value.ref b] lw_tbl RL := ⟨hx, hb, hml, hown, hts⟩
  have htg : ∀ w ∈ gw, w.before #[Value.ref b] s = true := fun w h => hts w (List.mem_filter.mp h).1
  have hti : ∀ w ∈ tables_1, w.before #[Value.ref b] s = true := fun w h => hts w (List.mem_append_right _ h)
  have hn : ∀ w ∈ nlist, w.before #[Value.ref b] s = true := flat_of_before _ hgv
  have hst : l.stackTraces = false := by
    unfold Launch.stackTraces
    rw [hflags]
    decide
  obtain ⟨dC, dI, cI, cJ, cZ, hE⟩ := sx_env hts
  obtain ⟨adK, adV, hG⟩ := sx_heap hn hts
  have hNc : gNc s := ⟨va_Nc.of (hn (.not (.castable "java/lang/IllegalArgumentException" "java/util/NoSuchElementException")) (by decide +kernel)), DS.of hts⟩
  have hAO : va_AO "java/lang/String" s := va_AO.of (hti (.arrayOver (.object "java/lang/String")) (by decide +kernel))
  have hA : ∀ q : Nat, s.heap.size ≤ q → (fun q : Nat => s.heap.size ≤ q) q := fun _ h => h
  have hbA : ¬ (fun q : Nat => s.heap.size ≤ q) b := Nat.not_le.mpr hbl
  have hS : va_S (fun q : Nat => s.heap.size ≤ q) s.heap s.heap [] := va_S.rf
  have hP : va_P (dC, dI) vwCl [] s.heap := fun k q h => by cases k <;> cases h
  have hD : va_D (fun q : Nat => s.heap.size ≤ q) [] := ⟨fun i j p q h _ _ => absurd h (by simp), fun k q h => absurd h (by simp)⟩
  have hl := lv_entry ([.ref b]) (n := 9) (Nat.le_of_ble_eq_true rfl)
  rw [lg_entry_eq]
  generalize (lg_sl ([.ref b]) ++ List.replicate (9 - (lg_sl ([.ref b])).length) Slot.unset).toArray = ls at hl ⊢
  have hl : lv_has ls 9 [(0, .ref b)] := hl
  refine va_new (ci := 9) (fs := [.null, .null, .null, .null, .null, .null, .null, .null, .null]) (C := RX9) (T := TX9) (N := 9) hx hb htg inX9 tyX9 tyX9_ok hown (hti (.classLink RL 8 RX9) (by decide +kernel)) (hti (.instantiable RX9 9) (by decide +kernel)) (htg _ tw1) hE.1 hP hD hS hA rfl (fun j hj => by rcases (show j = 0 ∨ j = 1 ∨ j = 2 ∨ j = 3 ∨ j = 4 ∨ j = 5 ∨ j = 6 ∨ j = 7 ∨ j = 8 by omega) with rfl | rfl | rfl | rfl | rfl | rfl | rfl | rfl | rfl <;> rfl) (by show 0 + 1 ≤ 601024; omega) (by show 0 + 9 ≤ 7293034; omega) dL_law_0 (fun q0 H hP hD hS => ?_)
  refine lv_dup hx hb dL_law_3 rfl ?_
  refine gcN (index := 93) S htg hE (i_X9 q0) mI_X9 (gw_in (by decide +kernel) rfl) ⟨by show _ ≤ 2048; omega, by show _ ≤ 84000; omega⟩ hP hD hS hA ⟨by show _ ≤ 601024; omega, by show _ ≤ 7293034; omega⟩ (wr := []) [0] [] rfl rfl rfl rfl (by decide) (As := []) (rest := [.ref q0]) rfl hl.1 rfl (Nat.le_of_ble_eq_true rfl) dL_law_4 (fun H locs z hP hD hS => ?_)
  have hP : va_P (dC, dI) vwCl (wX cI cJ cZ q0 z) H := hP
  have hD : va_D (fun q : Nat => s.heap.size ≤ q) (wX cI cJ cZ q0 z) := hD
  refine lv_astore_n (lv' := [(1, .ref q0), (0, .ref b)]) hx hb dL_law_7 rfl hl (by decide) rfl (fun ls hl => ?_)
  refine va_new (ci := 10) (fs := [.null, .null, .null, .null, .int 0, .int 0, .int 0, .null, .null, .null, .null, .null, .null, .null, .int 0, .null, .null, .int 0, .null, .null, .null, .null, .int 0, .null, .int 0, .int 0, .int 0, .int 0, .int 0, .int 0, .int 0, .int 0, .int 0, .null, .null, .null, .int 0]) (C := RX10) (T := TX10) (N := 37) hx hb htg inX10 tyX10 tyX10_ok hown (hti (.classLink RL 94 RX10) (by decide +kernel)) (hti (.instantiable RX10 37) (by decide +kernel)) (htg _ tw11) hE.1 hP hD hS hA rfl (fun j hj => by rcases (show j = 0 ∨ j = 1 ∨ j = 2 ∨ j = 3 ∨ j = 4 ∨ j = 5 ∨ j = 6 ∨ j = 7 ∨ j = 8 ∨ j = 9 ∨ j = 10 ∨ j = 11 ∨ j = 12 ∨ j = 13 ∨ j = 14 ∨ j = 15 ∨ j = 16 ∨ j = 17 ∨ j = 18 ∨ j = 19 ∨ j = 20 ∨ j = 21 ∨ j = 22 ∨ j = 23 ∨ j = 24 ∨ j = 25 ∨ j = 26 ∨ j = 27 ∨ j = 28 ∨ j = 29 ∨ j = 30 ∨ j = 31 ∨ j = 32 ∨ j = 33 ∨ j = 34 ∨ j = 35 ∨ j = 36 by omega) with rfl | rfl | rfl | rfl | rfl | rfl | rfl | rfl | rfl | rfl | rfl | rfl | rfl | rfl | rfl | rfl | rfl | rfl | rfl | rfl | rfl | rfl | rfl | rfl | rfl | rfl | rfl | rfl | rfl | rfl | rfl | rfl | rfl | rfl | rfl | rfl | rfl <;> rfl) (by show _ ≤ 601024; omega) (by show _ ≤ 7293034; omega) dL_law_8 (fun q8 H hP hD hS => ?_)
  refine lv_dup hx hb dL_law_11 rfl ?_
  refine gcM (index := 96) S htg hE hG hAO (i_X10 q8) mI_X10 (gw_in (by decide +kernel) rfl) ⟨by show _ ≤ 2048; omega, by show _ ≤ 84000; omega⟩ hP hD hS hA ⟨by show _ ≤ 601024; omega, by show _ ≤ 7293034; omega⟩ (wr := wX cI cJ cZ q0 z) [51] (List.range 51) rfl rfl rfl rfl (by decide) (As := []) (rest := [.ref q8]) rfl hl.1 rfl (Nat.le_of_ble_eq_true rfl) dL_law_12 (fun H2 locs2 cS x hx0 hAr hP2 hD2 hS2 => ?_)
  subst hx0
  have hP : va_P (dC, dI) vwCl (wX cI cJ cZ q0 z ++ wM cI cJ cZ cS adK x) H2 := hP2
  have hD : va_D (fun q : Nat => s.heap.size ≤ q) (wX cI cJ cZ q0 z ++ wM cI cJ cZ cS adK x) := hD2
  have hS := hS2
  refine lv_astore_n (lv' := [(2, .ref (x 0)), (1, .ref q0), (0, .ref b)]) hx hb dL_law_15 rfl hl (by decide) rfl (fun ls hl => ?_)
  refine lv_iconst (v := 1) hx hb dL_law_16 (by decide) ?_
  refine g_newJ (N := 1) hx hb hE (hti (.arrayClass .long) (by decide +kernel)) hP hD hS hA (by decide) (by decide) (Nat.le_of_ble_eq_true rfl) (by show _ ≤ 601024; omega) (by show _ ≤ 7293034; omega) dL_law_17 (fun qo H hP hD hS => ?_)
  refine lv_astore_n (lv' := [(3, .ref qo), (2, .ref (x 0)), (1, .ref q0), (0, .ref b)]) hx hb dL_law_19 rfl hl (by decide) rfl (fun ls hl => ?_)
  refine lv_iconst (v := 0) hx hb dL_law_20 (by decide) ?_
  refine lv_istore (lv' := [(4, .int 0), (3, .ref qo), (2, .ref (x 0)), (1, .ref q0), (0, .ref b)]) hx hb dL_law_21 hl (by decide) rfl (fun ls hl => ?_)
  refine va_forget (fun q hq => hS.2.2 q hq) ?_
  have hmap := st_perm cI cJ cZ cS adK x z q0 qo
  have hPL : va_P (dC, dI) vwCl (LW cI cJ cZ x q0 (z 0) (z 2) (z 14) (z 18) (z 25) (z 28) (z 31) (z 33) (z 46) (z 1) (z 3) (z 4) (z 5) (z 6) (z 7) (z 8) (z 9) (z 10) (z 11) (z 12) (z 13) (z 34) (z 35) (z 36) (z 37) (z 38) (z 39) (z 40) (z 41) (z 42) (z 43) (z 44) (z 45) (z 15) (z 16) (z 17) (z 19) (z 20) (z 21) (z 22) (z 23) (z 24) (z 26) (z 27) (z 29) (z 30) (z 32) (z 47) (z 48) (z 49) qo 0 0 0 0 0 0 0 (-1) 0 0 0 0 0 0 400 0 0 0 false (fun _ => 0) (fun _ => 0) (fun _ => 0) (fun _ => 0) (fun _ => 0) (fun _ => 0) (fun _ => 0) (fun _ => 0) (fun _ => 0) (fun _ => 0) (fun _ => 0) (fun _ => 0) (fun _ => 0) (fun _ => 0) (fun _ => 0) (fun _ => 0) (fun _ => 0) (fun _ => 0) (fun _ => 0) (fun _ => 0) (fun _ => 0) (fun _ => 0) (fun _ => 0) (fun _ => 0) (fun _ => 0) (fun _ => 0) (fun _ => 0) (fun _ => 0) (fun _ => 0) (fun _ => 0) (fun _ => 0) (fun _ => 0) (fun _ => 0) (fun _ => 0) (fun _ => 0) (fun _ => 0) (fun _ => 0) (fun _ => 0) (fun _ => 0) (fun _ => 0) 0 0 false 0 0 0 0 0 0 0 0 0 0 (-1) 0 0 (fun _ => 0) (fun _ => 0) (fun _ => 0) (fun _ => 0) (fun _ => 0) (fun _ => 0) (fun _ => 0) (fun _ => 0) (fun _ => false) (fun _ => 0) (fun _ => 0) (fun _ => 0) (fun _ => 0) (fun _ => 0) (fun _ => 0) (fun _ => 0) (fun _ => 0) (fun _ => 0) (fun _ => 0) (fun _ => 0)) H := fun k q h => by
    obtain ⟨i, -, h2⟩ := wo_at hmap h
    exact hP i q h2
  have hDL0 : va_D (fun q : Nat => s.heap.size ≤ q) (LW cI cJ cZ x q0 (z 0) (z 2) (z 14) (z 18) (z 25) (z 28) (z 31) (z 33) (z 46) (z 1) (z 3) (z 4) (z 5) (z 6) (z 7) (z 8) (z 9) (z 10) (z 11) (z 12) (z 13) (z 34) (z 35) (z 36) (z 37) (z 38) (z 39) (z 40) (z 41) (z 42) (z 43) (z 44) (z 45) (z 15) (z 16) (z 17) (z 19) (z 20) (z 21) (z 22) (z 23) (z 24) (z 26) (z 27) (z 29) (z 30) (z 32) (z 47) (z 48) (z 49) qo 0 0 0 0 0 0 0 (-1) 0 0 0 0 0 0 400 0 0 0 false (fun _ => 0) (fun _ => 0) (fun _ => 0) (fun _ => 0) (fun _ => 0) (fun _ => 0) (fun _ => 0) (fun _ => 0) (fun _ => 0) (fun _ => 0) (fun _ => 0) (fun _ => 0) (fun _ => 0) (fun _ => 0) (fun _ => 0) (fun _ => 0) (fun _ => 0) (fun _ => 0) (fun _ => 0) (fun _ => 0) (fun _ => 0) (fun _ => 0) (fun _ => 0) (fun _ => 0) (fun _ => 0) (fun _ => 0) (fun _ => 0) (fun _ => 0) (fun _ => 0) (fun _ => 0) (fun _ => 0) (fun _ => 0) (fun _ => 0) (fun _ => 0) (fun _ => 0) (fun _ => 0) (fun _ => 0) (fun _ => 0) (fun _ => 0) (fun _ => 0) 0 0 false 0 0 0 0 0 0 0 0 0 0 (-1) 0 0 (fun _ => 0) (fun _ => 0) (fun _ => 0) (fun _ => 0) (fun _ => 0) (fun _ => 0) (fun _ => 0) (fun _ => 0) (fun _ => false) (fun _ => 0) (fun _ => 0) (fun _ => 0) (fun _ => 0) (fun _ => 0) (fun _ => 0) (fun _ => 0) (fun _ => 0) (fun _ => 0) (fun _ => 0) (fun _ => 0)) := hD.sub [0, 1, 3, 35, 15, 19, 26, 29, 32, 34, 47, 2, 4, 5, 6, 7, 8, 9, 10, 11, 12, 13, 14, 36, 37, 38, 39, 40, 41, 42, 43, 44, 45, 46, 16, 17, 18, 20, 21, 22, 23, 24, 25, 27, 28, 30, 31, 33, 48, 49, 50, 51, 52, 53, 54, 55, 56, 57, 58, 59, 60, 61, 62, 63, 64, 65, 66, 67, 68, 70, 71, 72] (by decide) rfl
  have hDL := hDL0.self (sz := H.size)
  have hAA : ∀ q, va_A (LW cI cJ cZ x q0 (z 0) (z 2) (z 14) (z 18) (z 25) (z 28) (z 31) (z 33) (z 46) (z 1) (z 3) (z 4) (z 5) (z 6) (z 7) (z 8) (z 9) (z 10) (z 11) (z 12) (z 13) (z 34) (z 35) (z 36) (z 37) (z 38) (z 39) (z 40) (z 41) (z 42) (z 43) (z 44) (z 45) (z 15) (z 16) (z 17) (z 19) (z 20) (z 21) (z 22) (z 23) (z 24) (z 26) (z 27) (z 29) (z 30) (z 32) (z 47) (z 48) (z 49) qo 0 0 0 0 0 0 0 (-1) 0 0 0 0 0 0 400 0 0 0 false (fun _ => 0) (fun _ => 0) (fun _ => 0) (fun _ => 0) (fun _ => 0) (fun _ => 0) (fun _ => 0) (fun _ => 0) (fun _ => 0) (fun _ => 0) (fun _ => 0) (fun _ => 0) (fun _ => 0) (fun _ => 0) (fun _ => 0) (fun _ => 0) (fun _ => 0) (fun _ => 0) (fun _ => 0) (fun _ => 0) (fun _ => 0) (fun _ => 0) (fun _ => 0) (fun _ => 0) (fun _ => 0) (fun _ => 0) (fun _ => 0) (fun _ => 0) (fun _ => 0) (fun _ => 0) (fun _ => 0) (fun _ => 0) (fun _ => 0) (fun _ => 0) (fun _ => 0) (fun _ => 0) (fun _ => 0) (fun _ => 0) (fun _ => 0) (fun _ => 0) 0 0 false 0 0 0 0 0 0 0 0 0 0 (-1) 0 0 (fun _ => 0) (fun _ => 0) (fun _ => 0) (fun _ => 0) (fun _ => 0) (fun _ => 0) (fun _ => 0) (fun _ => 0) (fun _ => false) (fun _ => 0) (fun _ => 0) (fun _ => 0) (fun _ => 0) (fun _ => 0) (fun _ => 0) (fun _ => 0) (fun _ => 0) (fun _ => 0) (fun _ => 0) (fun _ => 0)) H.size q → s.heap.size ≤ q := fun q h => by
    rcases h with ⟨k, e, h⟩ | h
    · exact hDL0.2 k (q, e) h
    · exact Nat.le_trans hS.1 h
  have h34 := st_34 cI cJ cZ cS adK x z q0 qo
  have hc34 := hP _ _ h34
  have hn34 : ¬ va_A (LW cI cJ cZ x q0 (z 0) (z 2) (z 14) (z 18) (z 25) (z 28) (z 31) (z 33) (z 46) (z 1) (z 3) (z 4) (z 5) (z 6) (z 7) (z 8) (z 9) (z 10) (z 11) (z 12) (z 13) (z 34) (z 35) (z 36) (z 37) (z 38) (z 39) (z 40) (z 41) (z 42) (z 43) (z 44) (z 45) (z 15) (z 16) (z 17) (z 19) (z 20) (z 21) (z 22) (z 23) (z 24) (z 26) (z 27) (z 29) (z 30) (z 32) (z 47) (z 48) (z 49) qo 0 0 0 0 0 0 0 (-1) 0 0 0 0 0 0 400 0 0 0 false (fun _ => 0) (fun _ => 0) (fun _ => 0) (fun _ => 0) (fun _ => 0) (fun _ => 0) (fun _ => 0) (fun _ => 0) (fun _ => 0) (fun _ => 0) (fun _ => 0) (fun _ => 0) (fun _ => 0) (fun _ => 0) (fun _ => 0) (fun _ => 0) (fun _ => 0) (fun _ => 0) (fun _ => 0) (fun _ => 0) (fun _ => 0) (fun _ => 0) (fun _ => 0) (fun _ => 0) (fun _ => 0) (fun _ => 0) (fun _ => 0) (fun _ => 0) (fun _ => 0) (fun _ => 0) (fun _ => 0) (fun _ => 0) (fun _ => 0) (fun _ => 0) (fun _ => 0) (fun _ => 0) (fun _ => 0) (fun _ => 0) (fun _ => 0) (fun _ => 0) 0 0 false 0 0 0 0 0 0 0 0 0 0 (-1) 0 0 (fun _ => 0) (fun _ => 0) (fun _ => 0) (fun _ => 0) (fun _ => 0) (fun _ => 0) (fun _ => 0) (fun _ => 0) (fun _ => false) (fun _ => 0) (fun _ => 0) (fun _ => 0) (fun _ => 0) (fun _ => 0) (fun _ => 0) (fun _ => 0) (fun _ => 0) (fun _ => 0) (fun _ => 0) (fun _ => 0)) H.size (x 34) := fun h => by
    rcases h with ⟨k, e, h⟩ | h
    · obtain ⟨i, h1, h2⟩ := wo_at hmap h
      have h3 := hD.1 i 69 _ _ h2 h34 rfl
      subst h3
      exact absurd h1 (by decide)
    · have h4 : x 34 < H.size := (Array.getElem?_eq_some_iff.mp hc34).1
      omega
  have hG2 : gH adK (fun i => if i = 13 then x 34 else if i = 14 then 1 else adV i) (va_A (LW cI cJ cZ x q0 (z 0) (z 2) (z 14) (z 18) (z 25) (z 28) (z 31) (z 33) (z 46) (z 1) (z 3) (z 4) (z 5) (z 6) (z 7) (z 8) (z 9) (z 10) (z 11) (z 12) (z 13) (z 34) (z 35) (z 36) (z 37) (z 38) (z 39) (z 40) (z 41) (z 42) (z 43) (z 44) (z 45) (z 15) (z 16) (z 17) (z 19) (z 20) (z 21) (z 22) (z 23) (z 24) (z 26) (z 27) (z 29) (z 30) (z 32) (z 47) (z 48) (z 49) qo 0 0 0 0 0 0 0 (-1) 0 0 0 0 0 0 400 0 0 0 false (fun _ => 0) (fun _ => 0) (fun _ => 0) (fun _ => 0) (fun _ => 0) (fun _ => 0) (fun _ => 0) (fun _ => 0) (fun _ => 0) (fun _ => 0) (fun _ => 0) (fun _ => 0) (fun _ => 0) (fun _ => 0) (fun _ => 0) (fun _ => 0) (fun _ => 0) (fun _ => 0) (fun _ => 0) (fun _ => 0) (fun _ => 0) (fun _ => 0) (fun _ => 0) (fun _ => 0) (fun _ => 0) (fun _ => 0) (fun _ => 0) (fun _ => 0) (fun _ => 0) (fun _ => 0) (fun _ => 0) (fun _ => 0) (fun _ => 0) (fun _ => 0) (fun _ => 0) (fun _ => 0) (fun _ => 0) (fun _ => 0) (fun _ => 0) (fun _ => 0) 0 0 false 0 0 0 0 0 0 0 0 0 0 (-1) 0 0 (fun _ => 0) (fun _ => 0) (fun _ => 0) (fun _ => 0) (fun _ => 0) (fun _ => 0) (fun _ => 0) (fun _ => 0) (fun _ => false) (fun _ => 0) (fun _ => 0) (fun _ => 0) (fun _ => 0) (fun _ => 0) (fun _ => 0) (fun _ => 0) (fun _ => 0) (fun _ => 0) (fun _ => 0) (fun _ => 0)) H.size) s H := by
    have h5 := (hG.kept hS.2.1).narrow hAA
    refine ⟨h5.1, h5.2.1, h5.2.2.1, h5.2.2.2.1, fun i hi => ?_, h5.2.2.2.2.2.1, h5.2.2.2.2.2.2.1, fun _ => ?_⟩
    · have e : (if i = 13 then x 34 else if i = 14 then 1 else adV i) = adV i := by rw [if_neg (by omega), if_neg (by omega)]
      show gT1 (adK i) (if i = 13 then x 34 else if i = 14 then 1 else adV i) _ _ _ _
      rw [e]
      exact h5.2.2.2.2.1 i hi
    · refine ⟨_, hc34, hAr _ _, (by intro h; cases h), ?_, ?_, fun j hj => ?_, hn34⟩
      · exact Nat.le_of_ble_eq_true rfl
      · rfl
      · rcases (show j = 0 ∨ j = 1 ∨ j = 2 ∨ j = 3 ∨ j = 4 ∨ j = 5 ∨ j = 6 by omega) with rfl | rfl | rfl | rfl | rfl | rfl | rfl <;> rfl
  have X : LWX p l s m c dC dI cI cJ cZ adK (fun i => if i = 13 then x 34 else if i = 14 then 1 else adV i) x (va_A (LW cI cJ cZ x q0 (z 0) (z 2) (z 14) (z 18) (z 25) (z 28) (z 31) (z 33) (z 46) (z 1) (z 3) (z 4) (z 5) (z 6) (z 7) (z 8) (z 9) (z 10) (z 11) (z 12) (z 13) (z 34) (z 35) (z 36) (z 37) (z 38) (z 39) (z 40) (z 41) (z 42) (z 43) (z 44) (z 45) (z 15) (z 16) (z 17) (z 19) (z 20) (z 21) (z 22) (z 23) (z 24) (z 26) (z 27) (z 29) (z 30) (z 32) (z 47) (z 48) (z 49) qo 0 0 0 0 0 0 0 (-1) 0 0 0 0 0 0 400 0 0 0 false (fun _ => 0) (fun _ => 0) (fun _ => 0) (fun _ => 0) (fun _ => 0) (fun _ => 0) (fun _ => 0) (fun _ => 0) (fun _ => 0) (fun _ => 0) (fun _ => 0) (fun _ => 0) (fun _ => 0) (fun _ => 0) (fun _ => 0) (fun _ => 0) (fun _ => 0) (fun _ => 0) (fun _ => 0) (fun _ => 0) (fun _ => 0) (fun _ => 0) (fun _ => 0) (fun _ => 0) (fun _ => 0) (fun _ => 0) (fun _ => 0) (fun _ => 0) (fun _ => 0) (fun _ => 0) (fun _ => 0) (fun _ => 0) (fun _ => 0) (fun _ => 0) (fun _ => 0) (fun _ => 0) (fun _ => 0) (fun _ => 0) (fun _ => 0) (fun _ => 0) 0 0 false 0 0 0 0 0 0 0 0 0 0 (-1) 0 0 (fun _ => 0) (fun _ => 0) (fun _ => 0) (fun _ => 0) (fun _ => 0) (fun _ => 0) (fun _ => 0) (fun _ => 0) (fun _ => false) (fun _ => 0) (fun _ => 0) (fun _ => 0) (fun _ => 0) (fun _ => 0) (fun _ => 0) (fun _ => 0) (fun _ => 0) (fun _ => 0) (fun _ => 0) (fun _ => 0)) H.size) H b L xs :=
    ⟨S, hst, hE, hG2, hNc, ⟨rfl, rfl⟩, hX, hbl, hbA, hS.1, fun q h => hS.2.1 q h (Nat.not_le.mpr h), hAA, fun q h => Or.inr h⟩
  refine law_loop X hL ?_ L 0 _ _ (Nat.zero_le _) (by omega) (by omega) (by omega) 0 0 0 0 0 0 0 (-1) 0 0 0 0 0 0 400 0 0 0 false (fun _ => 0) (fun _ => 0) (fun _ => 0) (fun _ => 0) (fun _ => 0) (fun _ => 0) (fun _ => 0) (fun _ => 0) (fun _ => 0) (fun _ => 0) (fun _ => 0) (fun _ => 0) (fun _ => 0) (fun _ => 0) (fun _ => 0) (fun _ => 0) (fun _ => 0) (fun _ => 0) (fun _ => 0) (fun _ => 0) (fun _ => 0) (fun _ => 0) (fun _ => 0) (fun _ => 0) (fun _ => 0) (fun _ => 0) (fun _ => 0) (fun _ => 0) (fun _ => 0) (fun _ => 0) (fun _ => 0) (fun _ => 0) (fun _ => 0) (fun _ => 0) (fun _ => 0) (fun _ => 0) (fun _ => 0) (fun _ => 0) (fun _ => 0) (fun _ => 0) 0 0 false 0 0 0 0 0 0 0 0 0 0 (-1) 0 0 (fun _ => 0) (fun _ => 0) (fun _ => 0) (fun _ => 0) (fun _ => 0) (fun _ => 0) (fun _ => 0) (fun _ => 0) (fun _ => false) (fun _ => 0) (fun _ => 0) (fun _ => 0) (fun _ => 0) (fun _ => 0) (fun _ => 0) (fun _ => 0) (fun _ => 0) (fun _ => 0) (fun _ => 0) (fun _ => 0) INV_first H [] ls hPL hDL ⟨Nat.le_refl _, fun _ _ _ => rfl, fun q hq => absurd hq List.not_mem_nil⟩ (lv_sub hl [4, 3, 2, 1, 0] rfl)
  intro H locs ls cells slots hS hc hs
  refine va_forget (fun q hq => hAA _ (hS.2.2 q hq)) ?_
  refine W.widen (k := 601024) (n := 7293034) hc hs ?_
  refine W.base ?_
  exact lw_ret (Drawn.sameBut.refl s.drawn lw_cs) hx hb hr hlocks dL_law_2182
end LAWSTART
