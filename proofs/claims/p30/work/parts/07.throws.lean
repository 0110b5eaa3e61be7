/-! THROWING ENDS -/
abbrev exIAE : String := "java/lang/IllegalArgumentException"
abbrev exISE : String := "java/lang/IllegalStateException"
abbrev exIOB : String := "java/lang/IndexOutOfBoundsException"
def exN (k : Nat) : String := match k with
  | 1 => exIAE
  | 2 => exISE
  | _ => exIOB
def strs : List (Nat × String) := [(58, "the player has all variables already")]
def XS (s0 : Nat) (U : State) : Prop := vx_Zq Bundle.tN "UNASSIGNED_STACK" Bundle.steD (fun q => s0 ≤ q) U U.heap ∧ vx_Zq Bundle.tN "SUPPRESSED_SENTINEL" Bundle.listD (fun q => s0 ≤ q) U U.heap ∧ (∀ q ∈ strs, ∃ sa, vk_R RX4 q.1 q.2 sa U)
theorem XS.call {s0 : Nat} {s U : State} {A : Nat → Prop} {H : Heap} {locs : List Loc} (hX : XS s0 s) (hS : va_S A s.heap H locs) (hAs : ∀ q, A q → s0 ≤ q) (hU : U.heap = H) (hW : s.WarmedH U.vm) : XS s0 U := by
  have hq : ∀ a : Nat, a < s.heap.size → ¬ (fun q => s0 ≤ q) a → H[a]? = s.heap[a]? := fun a h1 h2 => hS.2.1 a h1 (fun h3 => h2 (hAs a h3))
  obtain ⟨h1, h2, h3⟩ := hX
  refine ⟨?_, ?_, fun q hq => ?_⟩
  · rw [hU]; exact vx_Zq.moved hW.alike (vx_Zq.kept h1 hq)
  · rw [hU]; exact vx_Zq.moved hW.alike (vx_Zq.kept h2 hq)
  · obtain ⟨sa, h⟩ := h3 q hq
    exact ⟨sa, vk_R.warm hW h⟩
theorem XS.blind {s0 : Nat} {U : State} (hX : XS s0 U) (g : JFrame) (mk : MethodId) (a : Array Value) : XS s0 (U.calling g mk a) := by
  obtain ⟨h1, h2, h3⟩ := hX
  refine ⟨vx_Zq.moved (u := U) (U := U.calling g mk a) (Vm.Alike.refl U.vm) h1, vx_Zq.moved (u := U) (U := U.calling g mk a) (Vm.Alike.refl U.vm) h2, fun q hq => ?_⟩
  obtain ⟨sa, h⟩ := h3 q hq
  exact ⟨sa, vk_R.warm (s := U) (U := U.calling g mk a) (State.WarmedH.refl U) h⟩
abbrev exNames : List String := ["java/lang/RuntimeException", "java/lang/Exception"]
theorem nest_use {w : Cond} {s : State} {args : Array Value} (hn : isNest w = true) (h : va_Nw w s) : w.before args s = true := by
  rcases isNest_cases hn with ⟨a, i, b, n, d, k, rfl⟩ | ⟨a, i, b, k, rfl⟩ | ⟨a, rfl⟩ | ⟨a, b, rfl⟩ | ⟨a, rfl⟩
  · exact va_Nw.use rfl h
  · exact va_Nw.use rfl h
  · exact va_Nw.use rfl h
  · exact va_Nw.use rfl h
  · exact h
theorem hat_of {own X : String} {ic : Nat} {s : State} {args : Array Value} (h1 : ((vx_atS own ic X exNames).filter goodWord).all (fun w => decide (w ∈ lw_tbl) && goodWord w) = true) (h2 : ((vx_atS own ic X exNames).filter (fun w => !goodWord w)).all (fun w => decide (w ∈ lw_tbl) && isNest w) = true) (hts : ∀ w ∈ wAll, w.before args s = true) (hN : NW s) : ∀ w ∈ vx_atS own ic X exNames, w.before args s = true := by
  refine vx_hat (B := (vx_atS own ic X exNames).filter (fun w => !goodWord w)) (fun w hw => hts w (wAll_sub h1 w hw)) (fun w hw => hw) (fun w hw => ?_)
  have h3 := List.all_eq_true.mp h2 w hw
  simp only [Bool.and_eq_true, decide_eq_true_eq] at h3
  exact nest_use h3.2 (hN w h3.1 h3.2)
theorem hat_ISE {s : State} {args : Array Value} (hts : ∀ w ∈ wAll, w.before args s = true) (hN : NW s) : ∀ w ∈ vx_atS RX4 60 exISE exNames, w.before args s = true := hat_of (by decide +kernel) (by decide +kernel) hts hN
theorem hgd_of {L : List Cond} (h : L.all vx_ot = true) : ∀ w ∈ L, vx_ot w = true := List.all_eq_true.mp h
def xPre (D : va_G) (cy : Nat → ClassId) (s0 tW : Nat) (sz : Nat) (W0 : va_W) (U : State) : Prop := cPre D cy s0 tW sz W0 U ∧ XS s0 U
def kQX (E : String) (D : va_G) (A : Nat → Prop) (W0 : va_W) : String → State → State → Prop := fun E' st t => E' = E ∧ va_P D vwCl W0 t.heap ∧ va_D A W0 ∧ va_F A st t
def Qno : Array Value → State → Outcome → State → Prop := fun _ _ _ _ => False
def KX (l : Launch) (D : va_G) (cy : Nat → ClassId) (s0 tW : Nat) (y : MethodName) (bytes : ByteArray) (maxL : Nat) (ret : Option FieldType) (f lo : Nat) (As : List Value) (sz : Nat) (W0 : va_W) (E : String) : Prop :=
  vx_Met l y (Cond.code y bytes maxL ret :: wAll) (rmN f 1 6 lo) (va_Pc As (xPre D cy s0 tW sz W0)) Qno (kQX E D (va_A W0 sz) W0) 1 6 (va_A W0 sz)
theorem KX.intro {l : Launch} {D : va_G} {cy : Nat → ClassId} {s0 tW : Nat} {y : MethodName} {bytes : ByteArray} {maxL : Nat} {ret : Option FieldType} {f lo : Nat} {As : List Value} {sz : Nat} {W0 : va_W} {E : String} (hy : plainName y.cls = true) (hn : (lg_sl As).length ≤ maxL)
    (body : ∀ (p : Program) (e : Env) (s : State) (m : MethodId) (args : Array Value) (below : List Frame) (meth : Method) (c : Code) (A : Nat → Prop) (ls : Array Slot), p.tables.exec = Jvm.exec → c.code = bytes → meth.sig.returnType = ret → c.maxLocals = maxL → s.vm.findClass y.cls = some m.cls → (∀ w ∈ wAll, w.before args s = true) → meth.locks = false → EV D cy s0 tW s → va_P D vwCl W0 s.heap → va_D A W0 → va_S A s.heap s.heap [] → (∀ q, s.heap.size ≤ q → A q) → (∀ q, A q → s0 ≤ q) → lv_has ls maxL (lv_args 0 As) → XS s0 s → (∀ x ∈ c.exceptionTable.toList, False) →
      W p l e (rmN f 1 6 lo) s m args below meth c s.heap [] 0 0 (vx_MQ below Qno (kQX E D A W0) args s 1 6 A) (F0 m 0 ls [])) : KX l D cy s0 tW y bytes maxL ret f lo As sz W0 E := by
  refine vx_ofW (cc := bytes) (maxL := maxL) (ret := ret) hy rfl ?_
  intro p e s m args below meth c s₁ B hml hno hv
  obtain ⟨rfl, ⟨hsz, hP, hD0, hs0, hE⟩, hX⟩ := hv
  have hts := atoms_spec (ws := Cond.code y bytes maxL ret :: wAll) B.pre
  subst hsz
  rw [lg_entry_eq]
  refine body p e s m _ below meth c _ _ B.exec B.bytes B.returns hml (findClass_of_methodNamed B.named) (fun w h => hts w (List.mem_cons_of_mem _ h)) B.notSynchronized hE hP (hD0.self (sz := s.heap.size)) va_S.rf (fun q h => Or.inr h) ?_ (lv_entry As hn) hX hno
  intro q hq
  rcases hq with ⟨k, e9, hk⟩ | hq
  · exact hD0.2 k _ hk
  · exact Nat.le_trans hs0 hq
section K7
variable {p : Program} {l : Launch} {e : Env} {R : Room} {s : State} {m : MethodId} {args : Array Value} {below : List Frame} {meth : Method} {c : Code} {H : Heap} {locs : List Loc} {cells slots : Nat} {Q : State → Prop}
variable {D : va_G} {cy : Nat → ClassId} {s0 tW : Nat} {A : Nat → Prop} {cc : ByteArray} {pc : Nat} {ls : Array Slot} {rest : List Value} {W0 : va_W} {f lo : Nat}
theorem kthrow {cls text : String} {ik is ic nL : Nat} (hl : l.stackTraces = false) (hx : p.tables.exec = Jvm.exec) (hb : c.code = cc) (hown : s.vm.findClass RX4 = some m.cls) (hts : ∀ w ∈ wAll, w.before args s = true) (hX : XS s0 s) (hno : ∀ x ∈ c.exceptionTable.toList, False) (hlocks : meth.locks = false) (hP : va_P D vwCl W0 H) (hD : va_D A W0) (hS : va_S A s.heap H locs) (hAs : ∀ q, A q → s0 ≤ q) (hml : c.maxLocals = nL) (hsize : ls.size = nL)
    (hcls : Bundle.fit cls = true) (hk : Cond.classLink RX4 ik cls ∈ wAll) (hi : Cond.initialized cls ∈ wAll) (hstr : (is, text) ∈ strs) (hat : ∀ w ∈ vx_atS RX4 ic cls exNames, w.before args s = true) (hgood : (Cond.classLink RX4 ik cls :: Cond.initialized cls :: vx_atS RX4 ic cls exNames).all vx_ot = true)
    (d0 : decode cc pc = .ok (.new ik, 3)) (d3 : decode cc (pc + 3) = .ok (.dup, 1)) (d4 : decode cc (pc + 4) = .ok (.ldc is, 2)) (d6 : decode cc (pc + 6) = .ok (.invokespecial ic, 3)) (d9 : decode cc (pc + 9) = .ok (.athrow, 1)) (hf : 5 < f) (hlo : (rest.map fun v => v.category).sum + 82 ≤ lo) :
    W p l e (rmN f 1 6 lo) s m args below meth c H locs 0 0 (vx_MQ below Qno (kQX cls D A W0) args s 1 6 A) (F0 m pc ls rest) := by
  obtain ⟨sa, hsa⟩ := hX.2.2 _ hstr
  refine vx_throwS (names := exNames) hx hb hl hown hcls (by decide +kernel) (hts _ hk) (hts _ hi) hsa hat (hgd_of hgood) (vx_Zq.narrow hX.1 hAs) (vx_Zq.narrow hX.2.1 hAs) hS (by rw [hml]; exact hsize) d0 d3 d4 d6 d9 (fun x h => (hno x h).elim) hf hlo (Nat.le_refl 1) (Nat.le_refl 6) hlocks (fun t hv hz hk => ⟨rfl, ?_, hD, ?_, ?_⟩) hS.2.2 (Nat.le_refl 1) (Nat.le_refl 6)
  · exact hP.kept (fun k q h => hk q.1 (hP k q h).lt)
  · exact Nat.le_trans hS.1 hz
  · intro q h1 h2
    rw [hk q (Nat.lt_of_lt_of_le h1 hS.1)]
    exact hS.2.1 q h1 h2
theorem kthrowW {cls text : String} {ik is ic nL : Nat} (hl : l.stackTraces = false) (hx : p.tables.exec = Jvm.exec) (hb : c.code = cc) (hown : s.vm.findClass RX4 = some m.cls) (hts : ∀ w ∈ wAll, w.before args s = true) (hX : XS s0 s) (hno : ∀ x ∈ c.exceptionTable.toList, False) (hlocks : meth.locks = false) (hP : va_P D vwCl W0 H) (hD : va_D A W0) (hS : va_S A s.heap H locs) (hAs : ∀ q, A q → s0 ≤ q) (hml : c.maxLocals = nL) (hsize : ls.size = nL)
    (hcls : Bundle.fit cls = true) (hk : Cond.classLink RX4 ik cls ∈ wAll) (hi : Cond.initialized cls ∈ wAll) (hstr : (is, text) ∈ strs) (hat : ∀ w ∈ vx_atS RX4 ic cls exNames, w.before args s = true) (hgood : (Cond.classLink RX4 ik cls :: Cond.initialized cls :: vx_atS RX4 ic cls exNames).all vx_ot = true)
    (d0 : decode cc pc = .ok (.new ik, 3)) (d3 : decode cc (pc + 3) = .ok (.dup, 1)) (d4 : decode cc (pc + 4) = .ok (.ldc_w is, 3)) (d6 : decode cc (pc + 7) = .ok (.invokespecial ic, 3)) (d9 : decode cc (pc + 10) = .ok (.athrow, 1)) (hf : 5 < f) (hlo : (rest.map fun v => v.category).sum + 82 ≤ lo) :
    W p l e (rmN f 1 6 lo) s m args below meth c H locs 0 0 (vx_MQ below Qno (kQX cls D A W0) args s 1 6 A) (F0 m pc ls rest) := by
  obtain ⟨sa, hsa⟩ := hX.2.2 _ hstr
  refine vx_throwSW (names := exNames) hx hb hl hown hcls (by decide +kernel) (hts _ hk) (hts _ hi) hsa hat (hgd_of hgood) (vx_Zq.narrow hX.1 hAs) (vx_Zq.narrow hX.2.1 hAs) hS (by rw [hml]; exact hsize) d0 d3 d4 d6 d9 (fun x h => (hno x h).elim) hf hlo (Nat.le_refl 1) (Nat.le_refl 6) hlocks (fun t hv hz hk => ⟨rfl, ?_, hD, ?_, ?_⟩) hS.2.2 (Nat.le_refl 1) (Nat.le_refl 6)
  · exact hP.kept (fun k q h => hk q.1 (hP k q h).lt)
  · exact Nat.le_trans hS.1 hz
  · intro q h1 h2
    rw [hk q (Nat.lt_of_lt_of_le h1 hS.1)]
    exact hS.2.1 q h1 h2
theorem kpreX {ws Wc : va_W} {As : List Value} (hE : EV D cy s0 tW s) (hX : XS s0 s) (hP : va_P D vwCl ws H) (hD : va_D A ws) (hS : va_S A s.heap H locs) (hA : ∀ q, s.heap.size ≤ q → A q) (hAs : ∀ q, A q → s0 ≤ q) (isC : List Nat) (hC : isC.map (fun i => ws[i]?) = Wc.map some) (hnC : va_nd isC = true) : FrameBlind (va_Pc As (xPre D cy s0 tW H.size Wc)) ∧ ∀ U : State, U.heap = H → s.WarmedH U.vm → va_Pc As (xPre D cy s0 tW H.size Wc) As.toArray U := by
  obtain ⟨k1, k2⟩ := kpre (As := As) hE hP hD hS hA hAs isC hC hnC
  refine ⟨fun a U g mk q => ?_, fun U hU hW => ⟨rfl, (k2 U hU hW).2, hX.call hS hAs hU hW⟩⟩
  obtain ⟨q0, q1, q2⟩ := q
  exact ⟨q0, (k1 a U g mk ⟨q0, q1⟩).2, q2.blind g mk a⟩
theorem callKX {ws Wc wr wsN : va_W} {E : String} {st0 : List Value} {a : Array Value} {y : MethodName} (hr : vx_Run p l e R s m args below meth c H locs cells slots 1 6 (F0 m pc ls st0) rest (Qno a) (kQX E D (va_A Wc H.size) Wc) (va_A Wc H.size)) (hP : va_P D vwCl ws H) (hD : va_D A ws) (hS : va_S A s.heap H locs) (hA : ∀ q, s.heap.size ≤ q → A q) (isC isR isQ : List Nat)
    (hC : isC.map (fun i => ws[i]?) = Wc.map some) (hR : isR.map (fun i => ws[i]?) = wr.map some) (hn : va_nd isR = true) (hdis : (isR.all (fun i => !(isC.contains i))) = true) (hQ : isQ.map (fun i => (wr ++ Wc)[i]?) = wsN.map some) (hnQ : va_nd isQ = true)
    (kx : ∀ (q9 : Nat) (ce : Cell) (H1 : Heap) (locs1 : List Loc), va_P D vwCl wsN H1 → va_D A wsN → va_S A s.heap H1 locs1 → H1[q9]? = some ce → ce.vm = .none → s.vm.findClass E = some ce.cls → vx_W p l e R s m args below meth c H1 locs1 (cells + 1) (slots + 6) Q (F0 m pc ls rest) q9) : W p l e R s m args below meth c H locs cells slots Q (F0 m pc ls st0) := by
  intro T hT X
  rcases hr T hT X with ⟨v, st₀, t, T', L, h0, X', hL, e1, e2, hq, st⟩ | ⟨q, st₀, t, T', L, E', ce, h0, X', hL, e1, e2, ⟨hEE, hp1, hd1, hz, hk⟩, hce, hcv, hcl, st⟩
  · exact hq.elim
  · subst hEE
    rw [h0] at hz hk
    have hF : ∀ q, va_A Wc H.size q → A q := va_free hD hS hA isC hC
    have hdis' : ∀ i ∈ isR, i ∉ isC := fun i hi hc => by
      have h1 := List.all_eq_true.mp hdis i hi
      rw [List.contains_iff_mem.mpr hc] at h1
      cases h1
    obtain ⟨hP2, hD2⟩ := va_join (H1 := T'.heap) hP hD isC isR hC hR hn hdis' (fun q h1 h2 => by rw [e1]; exact hk q h1 h2) hF (by rw [e1]; exact hp1) hd1
    obtain ⟨t2, a1, b1⟩ := kx q ce T'.heap (locs ++ L) (hP2.sub isQ (fm_of_map hQ)) (hD2.sub isQ hnQ hQ)
      ⟨Nat.le_trans hS.1 (by rw [e1]; exact hz), fun q h1 h2 => by rw [e1, hk q (Nat.lt_of_lt_of_le h1 hS.1) (fun z => h2 (hF q z))]; exact hS.2.1 q h1 h2, fun q hq => by
        rcases List.mem_append.mp hq with h | h
        · exact hS.2.2 q h
        · exact hF _ (hL q h)⟩ (by rw [e1]; exact hce) hcv hcl T' rfl X'
    exact ⟨t2, st.trans a1, b1⟩
variable {y : MethodName} {bytes : ByteArray} {maxL nL index : Nat} {ret : Option FieldType} {own : String} {b : Nat} {As st : List Value} {ws Wc wr wsN : va_W}
theorem kxV {ci q0 : Nat} {q : vw_C} {fs : List Value} {E : String} (S : CallFix p m c cc nL s args wAll own) (hE : EV D cy s0 tW s) (hX : XS s0 s) (hP : va_P D vwCl ws H) (hD : va_D A ws) (hS : va_S A s.heap H locs) (hA : ∀ q, s.heap.size ≤ q → A q) (hAs : ∀ q, A q → s0 ≤ q) (isC isR isQ : List Nat) (hM : KX l D cy s0 tW y bytes maxL ret f lo (.ref b :: As) H.size Wc E)
    (hg : GoodIn wAll (wsV own index q.1 y (Cond.code y bytes maxL ret :: wAll))) (hd : y.cls = q.1 ∧ y.cls ≠ "java/lang/invoke/MethodHandle" ∧ y.cls ≠ "java/lang/invoke/VarHandle" ∧ (parseMethodDescriptor y.desc).map (fun d => d.parameters.length) = some As.length) (hRm : f + 1 ≤ R.frames ∧ 8 + (maxL + 11) + lo ≤ R.locals)
    (hq : ws[q0]? = some (b, .inr (ci, fs))) (hc : vwCl[ci]? = some q) (hC : isC.map (fun i => ws[i]?) = Wc.map some) (hnC : va_nd isC = true) (hR : isR.map (fun i => ws[i]?) = wr.map some) (hn : va_nd isR = true) (hdis : (isR.all (fun i => !(isC.contains i))) = true) (hQ : isQ.map (fun i => (wr ++ Wc)[i]?) = wsN.map some) (hnQ : va_nd isQ = true)
    (hsize : ls.size = nL) (hst : st = As.reverse ++ .ref b :: rest) (hroom : (rest.map fun v => v.category).sum ≤ 8) (hdg : decode cc pc = .ok (.invokevirtual index, 3)) (hf : cells + 1 ≤ R.cells ∧ slots + 6 ≤ R.slots)
    (kx : ∀ (q9 : Nat) (ce : Cell) (H1 : Heap) (locs1 : List Loc), va_P D vwCl wsN H1 → va_D A wsN → va_S A s.heap H1 locs1 → H1[q9]? = some ce → ce.vm = .none → s.vm.findClass E = some ce.cls → vx_W p l e R s m args below meth c H1 locs1 (cells + 1) (slots + 6) Q (F0 m pc ls rest) q9) : W p l e R s m args below meth c H locs cells slots Q (F0 m pc ls st) := by
  obtain ⟨k1, k2⟩ := kpreX (As := .ref b :: As) hE hX hP hD hS hA hAs isC hC hnC
  exact callKX (y := y) (vx_runV S hM (cwV As.length S.2.2.2.2 hg rfl rfl rfl hd hRm) ⟨k1, va_recv hE.1 hP hc hq, k2⟩ rfl rfl hsize hst (lv_room hroom) hdg hf) hP hD hS hA isC isR isQ hC hR hn hdis hQ hnQ kx
/-- what the callee threw goes on to the caller -/
theorem kprop {E : String} {q9 : Nat} {ce : Cell} (hno : ∀ x ∈ c.exceptionTable.toList, False) (hlocks : meth.locks = false) (hP : va_P D vwCl W0 H) (hD : va_D A W0) (hS : va_S A s.heap H locs) (hce : H[q9]? = some ce) (hcv : ce.vm = .none) (hcl : s.vm.findClass E = some ce.cls) : vx_W p l e R s m args below meth c H locs (0 + 1) (0 + 6) (vx_MQ below Qno (kQX E D A W0) args s 1 6 A) (F0 m pc ls rest) q9 :=
  vx_out (fun x h => (hno x h).elim) hlocks hce hcv hcl (fun t ht hv => ⟨rfl, by rw [ht]; exact hP, hD, hS.F ht⟩) hS.2.2 (Nat.le_refl 1) (Nat.le_refl 6)
end K7
/-! HELPERS OF THE LAW: bodies with a table -/
def KH (l : Launch) (D : va_G) (cy : Nat → ClassId) (s0 tW : Nat) (y : MethodName) (bytes : ByteArray) (maxL : Nat) (ret : Option FieldType) (hh : List (Nat × Nat × Nat × Nat)) (f lo : Nat) (As : List Value) (sz : Nat) (W0 : va_W) (o : Option Value) (W1 : va_W) : Prop :=
  Met l y (Cond.codeWith y bytes maxL ret hh :: wAll) (rmN f 1 6 lo) (va_Pc As (xPre D cy s0 tW sz W0)) (kQ o D (va_A W0 sz) W1) 1 6 (va_A W0 sz)
theorem KH.intro {l : Launch} {D : va_G} {cy : Nat → ClassId} {s0 tW : Nat} {y : MethodName} {bytes : ByteArray} {maxL : Nat} {ret : Option FieldType} {hh : List (Nat × Nat × Nat × Nat)} {f lo : Nat} {As : List Value} {sz : Nat} {W0 : va_W} {o : Option Value} {W1 : va_W} (hy : plainName y.cls = true) (hn : (lg_sl As).length ≤ maxL)
    (body : ∀ (p : Program) (e : Env) (s : State) (m : MethodId) (args : Array Value) (below : List Frame) (meth : Method) (c : Code) (A : Nat → Prop) (ls : Array Slot), p.tables.exec = Jvm.exec → c.code = bytes → meth.sig.returnType = ret → c.maxLocals = maxL → s.vm.findClass y.cls = some m.cls → (∀ w ∈ wAll, w.before args s = true) → meth.locks = false → EV D cy s0 tW s → va_P D vwCl W0 s.heap → va_D A W0 → va_S A s.heap s.heap [] → (∀ q, s.heap.size ≤ q → A q) → (∀ q, A q → s0 ≤ q) → lv_has ls maxL (lv_args 0 As) → XS s0 s → c.exceptionTable.toList = hh.map (fun q => ⟨q.1, q.2.1, q.2.2.1, q.2.2.2⟩) →
      W p l e (rmN f 1 6 lo) s m args below meth c s.heap [] 0 0 (MQ below (kQ o D A W1) args s 1 6 A) (F0 m 0 ls [])) : KH l D cy s0 tW y bytes maxL ret hh f lo As sz W0 o W1 := by
  refine va_MetW (cc := bytes) (maxL := maxL) (ret := ret) (hh := hh) hy rfl ?_
  intro p e s m args below meth c s₁ B hml hv
  obtain ⟨rfl, ⟨hsz, hP, hD0, hs0, hE⟩, hX⟩ := hv
  have hts := atoms_spec (ws := Cond.codeWith y bytes maxL ret hh :: wAll) B.pre
  have htab := vx_table (x := y) B (hts _ List.mem_cons_self)
  subst hsz
  rw [lg_entry_eq]
  refine body p e s m _ below meth c _ _ B.exec B.bytes B.returns hml (findClass_of_methodNamed B.named) (fun w h => hts w (List.mem_cons_of_mem _ h)) B.notSynchronized hE hP (hD0.self (sz := s.heap.size)) va_S.rf (fun q h => Or.inr h) ?_ (lv_entry As hn) hX htab
  intro q hq
  rcases hq with ⟨k, e9, hk⟩ | hq
  · exact hD0.2 k _ hk
  · exact Nat.le_trans hs0 hq
section K8
variable {p : Program} {l : Launch} {e : Env} {R : Room} {s : State} {m : MethodId} {args : Array Value} {below : List Frame} {meth : Method} {c : Code} {H : Heap} {locs : List Loc} {cells slots : Nat} {Q : State → Prop}
variable {D : va_G} {cy : Nat → ClassId} {s0 tW : Nat} {A : Nat → Prop} {cc : ByteArray} {pc : Nat} {ls : Array Slot} {rest : List Value} {W1 : va_W} {f lo : Nat}
theorem kret_h {v : Int32} (hx : p.tables.exec = Jvm.exec) (hb : c.code = cc) (hr : meth.sig.returnType = some .int) (hlocks : meth.locks = false) (hP : va_P D vwCl W1 H) (hD : va_D A W1) (hS : va_S A s.heap H locs) (hdg : decode cc pc = .ok (.ireturn, 1)) : W p l e R s m args below meth c H locs 1 6 (MQ below (kQ (some (.int v)) D A W1) args s 1 6 A) (F0 m pc ls [.int v]) :=
  W.iret hx hb hr (fun t ht hW => ⟨⟨rfl, by rw [ht]; exact hP, hD⟩, hS.F ht⟩) hS.2.2 hdg hlocks
theorem gH {y : MethodName} {b : ByteArray} {n : Nat} {r : Option FieldType} {hh : List (Nat × Nat × Nat × Nat)} {own : String} {idx : Nat} (h1 : Cond.methodLink own idx y ∈ wAll) (h2 : Cond.static y ∈ wAll) (h4 : Cond.initialized y.cls ∈ wAll) (h5 : Cond.codeWith y b n r hh ∈ wAll) : GoodIn wAll (va_wsS own idx y (Cond.codeWith y b n r hh :: wAll)) := fun w h => by
  have hw : w ∈ wAll := by
    rcases List.mem_append.mp h with h | h
    · simp only [List.mem_cons, List.not_mem_nil, or_false] at h
      rcases h with e | e | e <;> (rw [e]; assumption)
    · rcases List.mem_cons.mp h with e | h
      · rw [e]; exact h5
      · exact h
  exact ⟨hw, good_of_word (wAll_good w hw)⟩
variable {y : MethodName} {bytes : ByteArray} {maxL nL index : Nat} {ret : Option FieldType} {own : String} {b : Nat} {As st : List Value} {ws Wc wr Wc1 wsN : va_W} {o : Option Value} {hh : List (Nat × Nat × Nat × Nat)}
/-- a call that makes an exception's cells, seen from the law -/
theorem callKH {st0 : List Value} {a : Array Value} {mc ms : Nat} (hr : va_Run p l e R s m args below meth c H locs cells slots mc ms (F0 m pc ls st0) rest (kQ o D (va_A Wc H.size) Wc1 a) (va_A Wc H.size)) (hP : va_P D vwCl ws H) (hD : va_D A ws) (hS : va_S A s.heap H locs) (hA : ∀ q, s.heap.size ≤ q → A q) (isC isR isQ : List Nat)
    (hC : isC.map (fun i => ws[i]?) = Wc.map some) (hR : isR.map (fun i => ws[i]?) = wr.map some) (hn : va_nd isR = true) (hdis : (isR.all (fun i => !(isC.contains i))) = true) (hQ : isQ.map (fun i => (wr ++ Wc1)[i]?) = wsN.map some) (hnQ : va_nd isQ = true)
    (kk : ∀ (H1 : Heap) (locs1 : List Loc), va_P D vwCl wsN H1 → va_D A wsN → va_S A s.heap H1 locs1 → W p l e R s m args below meth c H1 locs1 (cells + mc) (slots + ms) Q (F0 m (pc + 3) ls (o.toList ++ rest))) : W p l e R s m args below meth c H locs cells slots Q (F0 m pc ls st0) := by
  intro T hT X
  obtain ⟨v, st₀, t, T', L, h0, X', hL, e1, e2, ⟨⟨hv, hp1, hd1⟩, hz, hk⟩, st⟩ := hr T hT X
  cases hv
  rw [h0] at hz hk
  have hF : ∀ q, va_A Wc H.size q → A q := va_free hD hS hA isC hC
  have hdis' : ∀ i ∈ isR, i ∉ isC := fun i hi hc => by
    have h1 := List.all_eq_true.mp hdis i hi
    rw [List.contains_iff_mem.mpr hc] at h1
    cases h1
  obtain ⟨hP2, hD2⟩ := va_join (H1 := T'.heap) hP hD isC isR hC hR hn hdis' (fun q h1 h2 => by rw [e1]; exact hk q h1 h2) hF (by rw [e1]; exact hp1) hd1
  obtain ⟨t2, a1, b1⟩ := kk T'.heap (locs ++ L) (hP2.sub isQ (fm_of_map hQ)) (hD2.sub isQ hnQ hQ)
    ⟨Nat.le_trans hS.1 (by rw [e1]; exact hz), fun q h1 h2 => by rw [e1, hk q (Nat.lt_of_lt_of_le h1 hS.1) (fun z => h2 (hF q z))]; exact hS.2.1 q h1 h2, fun q hq => by
      rcases List.mem_append.mp hq with h | h
      · exact hS.2.2 q h
      · exact hF _ (hL q h)⟩ T' rfl X'
  exact ⟨t2, st t2 a1, b1⟩
theorem kcH (S : CallFix p m c cc nL s args wAll own) (hE : EV D cy s0 tW s) (hX : XS s0 s) (hP : va_P D vwCl ws H) (hD : va_D A ws) (hS : va_S A s.heap H locs) (hA : ∀ q, s.heap.size ≤ q → A q) (hAs : ∀ q, A q → s0 ≤ q) (isC isR isQ : List Nat) (hM : KH l D cy s0 tW y bytes maxL ret hh f lo As H.size Wc o Wc1)
    (hg : GoodIn wAll (va_wsS own index y (Cond.codeWith y bytes maxL ret hh :: wAll))) (hd : y.cls ≠ "java/lang/invoke/MethodHandle" ∧ y.cls ≠ "java/lang/invoke/VarHandle" ∧ (parseMethodDescriptor y.desc).map (fun d => d.parameters.length) = some As.length) (hRm : f + 1 ≤ R.frames ∧ 8 + (maxL + 11) + lo ≤ R.locals)
    (hC : isC.map (fun i => ws[i]?) = Wc.map some) (hnC : va_nd isC = true) (hR : isR.map (fun i => ws[i]?) = wr.map some) (hn : va_nd isR = true) (hdis : (isR.all (fun i => !(isC.contains i))) = true) (hQ : isQ.map (fun i => (wr ++ Wc1)[i]?) = wsN.map some) (hnQ : va_nd isQ = true)
    (hsize : ls.size = nL) (hst : st = As.reverse ++ rest) (hroom : (rest.map fun v => v.category).sum ≤ 8) (hdg : decode cc pc = .ok (.invokestatic index, 3)) (hf : cells + 1 ≤ R.cells ∧ slots + 6 ≤ R.slots)
    (kk : ∀ (H1 : Heap) (locs1 : List Loc), va_P D vwCl wsN H1 → va_D A wsN → va_S A s.heap H1 locs1 → W p l e R s m args below meth c H1 locs1 (cells + 1) (slots + 6) Q (F0 m (pc + 3) ls (o.toList ++ rest))) : W p l e R s m args below meth c H locs cells slots Q (F0 m pc ls st) := by
  have kp := kpreX (As := As) hE hX hP hD hS hA hAs isC hC hnC
  exact callKH (vx_runSW S hM (vx_cwSW As.length S.2.2.2.2 hg rfl rfl rfl hd hRm) kp rfl rfl hsize hst (lv_room hroom) hdg hf) hP hD hS hA isC isR isQ hC hR hn hdis hQ hnQ kk
end K8
def xb (x : Option Nat) (k : Option Nat) : Option Nat := match x with
  | some e => some e
  | none => k
theorem xb_none {k : Option Nat} {o : Nat} (h : xb none k = some o) : k = some o := h
def hb {α : Type} (x : Option Nat) (f : Nat → Option α) (k : Option α) : Option α := match x with
  | some e => f e
  | none => k
theorem hb_some {α : Type} {e : Nat} {f : Nat → Option α} {k : Option α} {o : α} (h : hb (some e) f k = some o) : f e = some o := h
theorem hb_none {α : Type} {f : Nat → Option α} {k : Option α} {o : α} (h : hb none f k = some o) : k = some o := h
