/-! HELPERS WITH A TABLE THAT DON'T THROW HERE; THE SCRIPT'S READER -/
def KG (l : Launch) (D : va_G) (cy : Nat → ClassId) (s0 tW : Nat) (y : MethodName) (bytes : ByteArray) (maxL : Nat) (ret : Option FieldType) (hh : List (Nat × Nat × Nat × Nat)) (f lo : Nat) (As : List Value) (sz : Nat) (W0 : va_W) (o : Option Value) (W1 : va_W) : Prop :=
  Met l y (Cond.codeWith y bytes maxL ret hh :: wAll) (rmK f lo) (va_Pc As (cPre D cy s0 tW sz W0)) (kQ o D (va_A W0 sz) W1) 0 0 (va_A W0 sz)
theorem KG.intro {l : Launch} {D : va_G} {cy : Nat → ClassId} {s0 tW : Nat} {y : MethodName} {bytes : ByteArray} {maxL : Nat} {ret : Option FieldType} {hh : List (Nat × Nat × Nat × Nat)} {f lo : Nat} {As : List Value} {sz : Nat} {W0 : va_W} {o : Option Value} {W1 : va_W} (hy : plainName y.cls = true) (hn : (lg_sl As).length ≤ maxL)
    (body : ∀ (p : Program) (e : Env) (s : State) (m : MethodId) (args : Array Value) (below : List Frame) (meth : Method) (c : Code) (A : Nat → Prop) (ls : Array Slot), p.tables.exec = Jvm.exec → c.code = bytes → meth.sig.returnType = ret → c.maxLocals = maxL → s.vm.findClass y.cls = some m.cls → (∀ w ∈ wAll, w.before args s = true) → meth.locks = false → EV D cy s0 tW s → va_P D vwCl W0 s.heap → va_D A W0 → va_S A s.heap s.heap [] → (∀ q, s.heap.size ≤ q → A q) → (∀ q, A q → s0 ≤ q) → lv_has ls maxL (lv_args 0 As) →
      W p l e (rmK f lo) s m args below meth c s.heap [] 0 0 (MQ below (kQ o D A W1) args s 0 0 A) (F0 m 0 ls [])) : KG l D cy s0 tW y bytes maxL ret hh f lo As sz W0 o W1 := by
  refine va_MetW (cc := bytes) (maxL := maxL) (ret := ret) (hh := hh) hy rfl ?_
  intro p e s m args below meth c s₁ B hml hv
  obtain ⟨rfl, hsz, hP, hD0, hs0, hE⟩ := hv
  have hts := atoms_spec (ws := Cond.codeWith y bytes maxL ret hh :: wAll) B.pre
  subst hsz
  rw [lg_entry_eq]
  refine body p e s m _ below meth c _ _ B.exec B.bytes B.returns hml (findClass_of_methodNamed B.named) (fun w h => hts w (List.mem_cons_of_mem _ h)) B.notSynchronized hE hP (hD0.self (sz := s.heap.size)) va_S.rf (fun q h => Or.inr h) ?_ (lv_entry As hn)
  intro q hq
  rcases hq with ⟨k, e9, hk⟩ | hq
  · exact hD0.2 k _ hk
  · exact Nat.le_trans hs0 hq
/-- the script lies below what is made -/
def SX (s0 b L : Nat) (xs : Nat → Int32) (U : State) : Prop := b < s0 ∧ va_X b L xs U U.heap
theorem SX.call {s0 b L : Nat} {xs : Nat → Int32} {s U : State} {A : Nat → Prop} {H : Heap} {locs : List Loc} (hX : SX s0 b L xs s) (hbl : b < s.heap.size) (hS : va_S A s.heap H locs) (hAs : ∀ q, A q → s0 ≤ q) (hU : U.heap = H) (hW : s.WarmedH U.vm) : SX s0 b L xs U :=
  ⟨hX.1, by rw [hU]; exact va_X.moved hW.alike (va_X.kept hX.2 (hS.2.1 b hbl (fun h => absurd (hAs b h) (Nat.not_le.mpr hX.1))))⟩
theorem SX.blind {s0 b L : Nat} {xs : Nat → Int32} {U : State} (hX : SX s0 b L xs U) (g : JFrame) (mk : MethodId) (a : Array Value) : SX s0 b L xs (U.calling g mk a) := ⟨hX.1, va_X.moved (u := U) (U := U.calling g mk a) (Vm.Alike.refl U.vm) hX.2⟩
def sPre (D : va_G) (cy : Nat → ClassId) (s0 tW : Nat) (b L : Nat) (xs : Nat → Int32) (sz : Nat) (U : State) : Prop := cPre D cy s0 tW sz [] U ∧ SX s0 b L xs U
def KS (l : Launch) (D : va_G) (cy : Nat → ClassId) (s0 tW : Nat) (b L : Nat) (xs : Nat → Int32) (y : MethodName) (bytes : ByteArray) (maxL : Nat) (ret : Option FieldType) (f lo : Nat) (As : List Value) (sz : Nat) (o : Option Value) : Prop :=
  Met l y (Cond.code y bytes maxL ret :: wAll) (rmK f lo) (va_Pc As (sPre D cy s0 tW b L xs sz)) (kQ o D (va_A [] sz) []) 0 0 (va_A [] sz)
theorem KS.intro {l : Launch} {D : va_G} {cy : Nat → ClassId} {s0 tW : Nat} {b L : Nat} {xs : Nat → Int32} {y : MethodName} {bytes : ByteArray} {maxL : Nat} {ret : Option FieldType} {f lo : Nat} {As : List Value} {sz : Nat} {o : Option Value} (hy : plainName y.cls = true) (hn : (lg_sl As).length ≤ maxL)
    (body : ∀ (p : Program) (e : Env) (s : State) (m : MethodId) (args : Array Value) (below : List Frame) (meth : Method) (c : Code) (A : Nat → Prop) (ls : Array Slot), p.tables.exec = Jvm.exec → c.code = bytes → meth.sig.returnType = ret → c.maxLocals = maxL → s.vm.findClass y.cls = some m.cls → (∀ w ∈ wAll, w.before args s = true) → meth.locks = false → EV D cy s0 tW s → va_P D vwCl [] s.heap → va_D A [] → va_S A s.heap s.heap [] → (∀ q, s.heap.size ≤ q → A q) → (∀ q, A q → s0 ≤ q) → lv_has ls maxL (lv_args 0 As) → va_X b L xs s s.heap → b < s.heap.size → ¬ A b →
      W p l e (rmK f lo) s m args below meth c s.heap [] 0 0 (MQ below (kQ o D A []) args s 0 0 A) (F0 m 0 ls [])) : KS l D cy s0 tW b L xs y bytes maxL ret f lo As sz o := by
  refine Met.ofW (cc := bytes) (maxL := maxL) (ret := ret) hy rfl ?_
  intro p e s m args below meth c s₁ B hml hv
  obtain ⟨rfl, ⟨hsz, hP, hD0, hs0, hE⟩, hb0, hX⟩ := hv
  have hts := atoms_spec (ws := Cond.code y bytes maxL ret :: wAll) B.pre
  subst hsz
  rw [lg_entry_eq]
  have hA9 : ∀ q, va_A [] s.heap.size q → s0 ≤ q := by
    intro q hq
    rcases hq with ⟨k, e9, hk⟩ | hq
    · exact hD0.2 k _ hk
    · exact Nat.le_trans hs0 hq
  exact body p e s m _ below meth c _ _ B.exec B.bytes B.returns hml (findClass_of_methodNamed B.named) (fun w h => hts w (List.mem_cons_of_mem _ h)) B.notSynchronized hE hP (hD0.self (sz := s.heap.size)) va_S.rf (fun q h => Or.inr h) hA9 (lv_entry As hn) hX (Nat.lt_of_lt_of_le hb0 hs0) (fun h => absurd (hA9 b h) (Nat.not_le.mpr hb0))
section K9
variable {p : Program} {l : Launch} {e : Env} {R : Room} {s : State} {m : MethodId} {args : Array Value} {below : List Frame} {meth : Method} {c : Code} {H : Heap} {locs : List Loc} {cells slots : Nat} {Q : State → Prop}
variable {D : va_G} {cy : Nat → ClassId} {s0 tW : Nat} {A : Nat → Prop} {cc : ByteArray} {pc : Nat} {ls : Array Slot} {rest : List Value} {f lo : Nat}
variable {y : MethodName} {bytes : ByteArray} {maxL nL index : Nat} {ret : Option FieldType} {own : String} {As st : List Value} {ws Wc wr Wc1 wsN : va_W} {o : Option Value} {hh : List (Nat × Nat × Nat × Nat)}
theorem kcG (S : CallFix p m c cc nL s args wAll own) (hE : EV D cy s0 tW s) (hP : va_P D vwCl ws H) (hD : va_D A ws) (hS : va_S A s.heap H locs) (hA : ∀ q, s.heap.size ≤ q → A q) (hAs : ∀ q, A q → s0 ≤ q) (isC isR isQ : List Nat) (hM : KG l D cy s0 tW y bytes maxL ret hh f lo As H.size Wc o Wc1)
    (hg : GoodIn wAll (va_wsS own index y (Cond.codeWith y bytes maxL ret hh :: wAll))) (hd : y.cls ≠ "java/lang/invoke/MethodHandle" ∧ y.cls ≠ "java/lang/invoke/VarHandle" ∧ (parseMethodDescriptor y.desc).map (fun d => d.parameters.length) = some As.length) (hRm : f + 1 ≤ R.frames ∧ 8 + (maxL + 11) + lo ≤ R.locals)
    (hC : isC.map (fun i => ws[i]?) = Wc.map some) (hnC : va_nd isC = true) (hR : isR.map (fun i => ws[i]?) = wr.map some) (hn : va_nd isR = true) (hdis : (isR.all (fun i => !(isC.contains i))) = true) (hQ : isQ.map (fun i => (wr ++ Wc1)[i]?) = wsN.map some) (hnQ : va_nd isQ = true)
    (hsize : ls.size = nL) (hst : st = As.reverse ++ rest) (hroom : (rest.map fun v => v.category).sum ≤ 8) (hdg : decode cc pc = .ok (.invokestatic index, 3)) (hf : cells ≤ R.cells ∧ slots ≤ R.slots)
    (kk : ∀ (H1 : Heap) (locs1 : List Loc), va_P D vwCl wsN H1 → va_D A wsN → va_S A s.heap H1 locs1 → W p l e R s m args below meth c H1 locs1 cells slots Q (F0 m (pc + 3) ls (o.toList ++ rest))) : W p l e R s m args below meth c H locs cells slots Q (F0 m pc ls st) := by
  have kp := kpre (As := As) hE hP hD hS hA hAs isC hC hnC
  exact callK (vx_runSW S hM (vx_cwSW As.length S.2.2.2.2 hg rfl rfl rfl hd hRm) kp rfl rfl hsize hst (lv_room hroom) hdg hf) hP hD hS hA isC isR isQ hC hR hn hdis hQ hnQ kk
/-- a call that reads the script and touches nothing of the world -/
theorem kcC {b L : Nat} {xs : Nat → Int32} (S : CallFix p m c cc nL s args wAll own) (hE : EV D cy s0 tW s) (hX : SX s0 b L xs s) (hbl : b < s.heap.size) (hP : va_P D vwCl ws H) (hD : va_D A ws) (hS : va_S A s.heap H locs) (hA : ∀ q, s.heap.size ≤ q → A q) (hAs : ∀ q, A q → s0 ≤ q) (isR isQ : List Nat) (hM : KS l D cy s0 tW b L xs y bytes maxL ret f lo As H.size o)
    (hg : GoodIn wAll (va_wsS own index y (Cond.code y bytes maxL ret :: wAll))) (hd : y.cls ≠ "java/lang/invoke/MethodHandle" ∧ y.cls ≠ "java/lang/invoke/VarHandle" ∧ (parseMethodDescriptor y.desc).map (fun d => d.parameters.length) = some As.length) (hRm : f + 1 ≤ R.frames ∧ 8 + (maxL + 11) + lo ≤ R.locals)
    (hR : isR.map (fun i => ws[i]?) = ws.map some) (hn : va_nd isR = true) (hQ : isQ.map (fun i => (ws ++ [])[i]?) = ws.map some) (hnQ : va_nd isQ = true)
    (hsize : ls.size = nL) (hst : st = As.reverse ++ rest) (hroom : (rest.map fun v => v.category).sum ≤ 8) (hdg : decode cc pc = .ok (.invokestatic index, 3)) (hf : cells ≤ R.cells ∧ slots ≤ R.slots)
    (kk : ∀ (H1 : Heap) (locs1 : List Loc), va_P D vwCl ws H1 → va_D A ws → va_S A s.heap H1 locs1 → W p l e R s m args below meth c H1 locs1 cells slots Q (F0 m (pc + 3) ls (o.toList ++ rest))) : W p l e R s m args below meth c H locs cells slots Q (F0 m pc ls st) := by
  obtain ⟨k1, k2⟩ := kpre (As := As) (Wc := []) hE hP hD hS hA hAs [] rfl rfl
  have kp : FrameBlind (va_Pc As (sPre D cy s0 tW b L xs H.size)) ∧ ∀ U : State, U.heap = H → s.WarmedH U.vm → va_Pc As (sPre D cy s0 tW b L xs H.size) As.toArray U := by
    refine ⟨fun a U g mk q => ?_, fun U hU hW => ⟨rfl, (k2 U hU hW).2, hX.call hbl hS hAs hU hW⟩⟩
    obtain ⟨q0, q1, q2⟩ := q
    exact ⟨q0, (k1 a U g mk ⟨q0, q1⟩).2, q2.blind g mk a⟩
  exact callK (va_runS S hM (va_cwS As.length S.2.2.2.2 hg rfl rfl rfl hd hRm) kp rfl rfl hsize hst (lv_room hroom) hdg hf) hP hD hS hA [] isR isQ rfl hR hn (List.all_eq_true.mpr (fun i _ => rfl)) hQ hnQ kk
end K9
