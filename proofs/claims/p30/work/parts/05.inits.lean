/-! CONSTRUCTORS: contracts that make cells -/
def zI : Nat → Int32 := fun _ => 0
def zL : Nat → Int64 := fun _ => 0
def zB : Nat → Bool := fun _ => false
def kQN (D : va_G) (A : Nat → Prop) (Wf : (Nat → Nat) → va_W) : Array Value → State → Outcome → State → Prop := fun _ st oc t => (∃ u : Nat → Nat, oc = .returned none ∧ va_P D vwCl (Wf u) t.heap ∧ va_D A (Wf u)) ∧ va_F A st t
abbrev rmN (f mc ms lo : Nat) : Room := { frames := f, cells := mc, slots := ms, locals := lo }
def KN (l : Launch) (D : va_G) (cy : Nat → ClassId) (s0 tW : Nat) (y : MethodName) (bytes : ByteArray) (maxL : Nat) (f mc ms lo : Nat) (As : List Value) (sz : Nat) (W0 : va_W) (Wf : (Nat → Nat) → va_W) : Prop :=
  Met l y (Cond.code y bytes maxL none :: wAll) (rmN f mc ms lo) (va_Pc As (cPre D cy s0 tW sz W0)) (kQN D (va_A W0 sz) Wf) mc ms (va_A W0 sz)
theorem KN.intro {l : Launch} {D : va_G} {cy : Nat → ClassId} {s0 tW : Nat} {y : MethodName} {bytes : ByteArray} {maxL : Nat} {f mc ms lo : Nat} {As : List Value} {sz : Nat} {W0 : va_W} {Wf : (Nat → Nat) → va_W} (hy : plainName y.cls = true) (hn : (lg_sl As).length ≤ maxL)
    (body : ∀ (p : Program) (e : Env) (s : State) (m : MethodId) (args : Array Value) (below : List Frame) (meth : Method) (c : Code) (A : Nat → Prop) (ls : Array Slot), p.tables.exec = Jvm.exec → c.code = bytes → meth.sig.returnType = none → c.maxLocals = maxL → s.vm.findClass y.cls = some m.cls → (∀ w ∈ wAll, w.before args s = true) → meth.locks = false → meth.name = y.name → EV D cy s0 tW s → va_P D vwCl W0 s.heap → va_D A W0 → va_S A s.heap s.heap [] → (∀ q, s.heap.size ≤ q → A q) → (∀ q, A q → s0 ≤ q) → lv_has ls maxL (lv_args 0 As) →
      W p l e (rmN f mc ms lo) s m args below meth c s.heap [] 0 0 (MQ below (kQN D A Wf) args s mc ms A) (F0 m 0 ls [])) : KN l D cy s0 tW y bytes maxL f mc ms lo As sz W0 Wf := by
  refine Met.ofW (cc := bytes) (maxL := maxL) (ret := none) hy rfl ?_
  intro p e s m args below meth c s₁ B hml hv
  obtain ⟨rfl, hsz, hP, hD0, hs0, hE⟩ := hv
  have hts := atoms_spec (ws := Cond.code y bytes maxL none :: wAll) B.pre
  subst hsz
  rw [lg_entry_eq]
  refine body p e s m _ below meth c _ _ B.exec B.bytes B.returns hml (findClass_of_methodNamed B.named) (fun w h => hts w (List.mem_cons_of_mem _ h)) B.notSynchronized (name_of_methodNamed B.named B.method).1 hE hP (hD0.self (sz := s.heap.size)) va_S.rf (fun q h => Or.inr h) ?_ (lv_entry As hn)
  intro q hq
  rcases hq with ⟨k, e9, hk⟩ | hq
  · exact hD0.2 k _ hk
  · exact Nat.le_trans hs0 hq
section K5
variable {p : Program} {l : Launch} {e : Env} {R : Room} {s : State} {m : MethodId} {args : Array Value} {below : List Frame} {meth : Method} {c : Code} {H : Heap} {locs : List Loc} {cells slots : Nat} {Q : State → Prop}
variable {D : va_G} {cy : Nat → ClassId} {s0 tW : Nat} {A : Nat → Prop} {cc : ByteArray} {pc : Nat} {ls : Array Slot}
theorem kret_n {mc ms : Nat} {Wf : (Nat → Nat) → va_W} (u : Nat → Nat) (hx : p.tables.exec = Jvm.exec) (hb : c.code = cc) (hr : meth.sig.returnType = none) (hlocks : meth.locks = false) (hP : va_P D vwCl (Wf u) H) (hD : va_D A (Wf u)) (hS : va_S A s.heap H locs) (hdg : decode cc pc = .ok (.return_, 1)) : W p l e R s m args below meth c H locs mc ms (MQ below (kQN D A Wf) args s mc ms A) (F0 m pc ls []) :=
  W.vret hx hb hr (fun t ht hW => ⟨⟨u, rfl, by rw [ht]; exact hP, hD⟩, hS.F ht⟩) hS.2.2 hdg hlocks
variable {y : MethodName} {bytes : ByteArray} {maxL nL index f mc ms lo : Nat} {own : String} {b : Nat} {rest st : List Value} {ws Wc wr : va_W} {Wf : (Nat → Nat) → va_W}
theorem callKN {st0 : List Value} {a : Array Value} (hr : va_Run p l e R s m args below meth c H locs cells slots mc ms (F0 m pc ls st0) rest (kQN D (va_A Wc H.size) Wf a) (va_A Wc H.size)) (hP : va_P D vwCl ws H) (hD : va_D A ws) (hS : va_S A s.heap H locs) (hA : ∀ q, s.heap.size ≤ q → A q) (isC isR : List Nat)
    (hC : isC.map (fun i => ws[i]?) = Wc.map some) (hR : isR.map (fun i => ws[i]?) = wr.map some) (hn : va_nd isR = true) (hdis : (isR.all (fun i => !(isC.contains i))) = true)
    (kk : ∀ (u : Nat → Nat) (H1 : Heap) (locs1 : List Loc), va_P D vwCl (wr ++ Wf u) H1 → va_D A (wr ++ Wf u) → va_S A s.heap H1 locs1 → W p l e R s m args below meth c H1 locs1 (cells + mc) (slots + ms) Q (F0 m (pc + 3) ls rest)) : W p l e R s m args below meth c H locs cells slots Q (F0 m pc ls st0) := by
  intro T hT X
  obtain ⟨v, st₀, t, T', L, h0, X', hL, e1, e2, ⟨⟨u, hv, hp1, hd1⟩, hz, hk⟩, st⟩ := hr T hT X
  cases hv
  rw [h0] at hz hk
  have hF : ∀ q, va_A Wc H.size q → A q := va_free hD hS hA isC hC
  have hdis' : ∀ i ∈ isR, i ∉ isC := fun i hi hc => by
    have h1 := List.all_eq_true.mp hdis i hi
    rw [List.contains_iff_mem.mpr hc] at h1
    cases h1
  obtain ⟨hP2, hD2⟩ := va_join (H1 := T'.heap) hP hD isC isR hC hR hn hdis' (fun q h1 h2 => by rw [e1]; exact hk q h1 h2) hF (by rw [e1]; exact hp1) hd1
  obtain ⟨t2, a1, b1⟩ := kk u T'.heap (locs ++ L) hP2 hD2
    ⟨Nat.le_trans hS.1 (by rw [e1]; exact hz), fun q h1 h2 => by rw [e1, hk q (Nat.lt_of_lt_of_le h1 hS.1) (fun z => h2 (hF q z))]; exact hS.2.1 q h1 h2, fun q hq => by
      rcases List.mem_append.mp hq with h | h
      · exact hS.2.2 q h
      · exact hF _ (hL q h)⟩ T' rfl X'
  exact ⟨t2, st t2 a1, b1⟩
theorem kcI (S : CallFix p m c cc nL s args wAll own) (hE : EV D cy s0 tW s) (hP : va_P D vwCl ws H) (hD : va_D A ws) (hS : va_S A s.heap H locs) (hA : ∀ q, s.heap.size ≤ q → A q) (hAs : ∀ q, A q → s0 ≤ q) (isC isR : List Nat) (hM : KN l D cy s0 tW y bytes maxL f mc ms lo [.ref b] H.size Wc Wf)
    (hg : Cond.code y bytes maxL none ∈ wAll) (hg2 : Cond.initialized y.cls ∈ wAll) (hg3 : Cond.instanceMethod y ∈ wAll) (hl : Cond.methodLink own index y ∈ wAll) (hy1 : y.name = "<init>") (hd : y.cls ≠ "java/lang/invoke/MethodHandle" ∧ y.cls ≠ "java/lang/invoke/VarHandle" ∧ (parseMethodDescriptor y.desc).map (fun d => d.parameters.length) = some 0) (hRm : f + 1 ≤ R.frames ∧ 8 + (maxL + 11) + lo ≤ R.locals)
    (hC : isC.map (fun i => ws[i]?) = Wc.map some) (hnC : va_nd isC = true) (hR : isR.map (fun i => ws[i]?) = wr.map some) (hn : va_nd isR = true) (hdis : (isR.all (fun i => !(isC.contains i))) = true)
    (hsize : ls.size = nL) (hroom : (rest.map fun v => v.category).sum ≤ 8) (hdg : decode cc pc = .ok (.invokespecial index, 3)) (hf : cells + mc ≤ R.cells ∧ slots + ms ≤ R.slots)
    (kk : ∀ (u : Nat → Nat) (H1 : Heap) (locs1 : List Loc), va_P D vwCl (wr ++ Wf u) H1 → va_D A (wr ++ Wf u) → va_S A s.heap H1 locs1 → W p l e R s m args below meth c H1 locs1 (cells + mc) (slots + ms) Q (F0 m (pc + 3) ls rest)) : W p l e R s m args below meth c H locs cells slots Q (F0 m pc ls (.ref b :: rest)) := by
  have kp := kpre (As := [.ref b]) hE hP hD hS hA hAs isC hC hnC
  have ht := S.2.2.2.2
  exact callKN (va_runI (As := []) S hM (cwI 0 ht (gC hg) rfl rfl rfl (ht _ hg2) (ht _ hl) (ht _ hg3) hy1 hd hRm) kp rfl rfl hsize rfl (lv_room hroom) hdg hf) hP hD hS hA isC isR hC hR hn hdis kk
theorem kcIN {host : String} (S : CallFix p m c cc nL s args wAll own) (hE : EV D cy s0 tW s) (hP : va_P D vwCl ws H) (hD : va_D A ws) (hS : va_S A s.heap H locs) (hA : ∀ q, s.heap.size ≤ q → A q) (hAs : ∀ q, A q → s0 ≤ q) (isC isR : List Nat) (hM : KN l D cy s0 tW y bytes maxL f mc ms lo [.ref b] H.size Wc Wf)
    (hg : Cond.code y bytes maxL none ∈ wAll) (hg2 : Cond.initialized y.cls ∈ wAll) (hg3 : Cond.instanceMethod y ∈ wAll) (hNk : va_Nw (.methodLinkNest own index y host) s) (hy1 : y.name = "<init>") (hd : y.cls ≠ "java/lang/invoke/MethodHandle" ∧ y.cls ≠ "java/lang/invoke/VarHandle" ∧ (parseMethodDescriptor y.desc).map (fun d => d.parameters.length) = some 0) (hRm : f + 1 ≤ R.frames ∧ 8 + (maxL + 11) + lo ≤ R.locals)
    (hC : isC.map (fun i => ws[i]?) = Wc.map some) (hnC : va_nd isC = true) (hR : isR.map (fun i => ws[i]?) = wr.map some) (hn : va_nd isR = true) (hdis : (isR.all (fun i => !(isC.contains i))) = true)
    (hsize : ls.size = nL) (hroom : (rest.map fun v => v.category).sum ≤ 8) (hdg : decode cc pc = .ok (.invokespecial index, 3)) (hf : cells + mc ≤ R.cells ∧ slots + ms ≤ R.slots)
    (kk : ∀ (u : Nat → Nat) (H1 : Heap) (locs1 : List Loc), va_P D vwCl (wr ++ Wf u) H1 → va_D A (wr ++ Wf u) → va_S A s.heap H1 locs1 → W p l e R s m args below meth c H1 locs1 (cells + mc) (slots + ms) Q (F0 m (pc + 3) ls rest)) : W p l e R s m args below meth c H locs cells slots Q (F0 m pc ls (.ref b :: rest)) := by
  have kp := kpre (As := [.ref b]) hE hP hD hS hA hAs isC hC hnC
  have ht := S.2.2.2.2
  exact callKN (va_runIN (As := []) S hM ⟨va_cnB 0 ht (gC hg) rfl rfl rfl hNk (ht _ hg2) hd hRm, hy1, ht _ hg3⟩ kp rfl rfl hsize rfl (lv_room hroom) hdg hf) hP hD hS hA isC isR hC hR hn hdis kk
theorem ka_newI {N' : Nat} (hx : p.tables.exec = Jvm.exec) (hb : c.code = cc) (hts : ∀ w ∈ wAll, w.before args s = true) (harr : Cond.arrayClass .int ∈ wAll) (hK : va_K D vwCl (tysAll cy) s) (hP : va_P D vwCl ws H) (hD : va_D A ws) (hS : va_S A s.heap H locs) (hA : ∀ q, s.heap.size ≤ q → A q) {n : Int32} (hn : ¬ n < 0) (hN : n.toNatClampNeg = N') (hbytes : N' * componentBytes .int ≤ 536870912) (hcells : cells + 1 ≤ R.cells) (hslots : slots + N' ≤ R.slots) (hdg : decode cc pc = .ok (.newarray .int, 2))
    (kk : ∀ (q : Nat) (H1 : Heap), va_P D vwCl (ws ++ [(q, .inl (cy 0, N', .inl zI))]) H1 → va_D A (ws ++ [(q, .inl (cy 0, N', .inl zI))]) → va_S A s.heap H1 locs → W p l e R s m args below meth c H1 locs (cells + 1) (slots + N') Q (F0 m (pc + 2) ls (.ref q :: rest))) : W p l e R s m args below meth c H locs cells slots Q (F0 m pc ls (.int n :: rest)) := by
  refine va_newa (atype := .int) hx hb (hts _ harr) rfl hK hP hD hS hA (a0 := (N', .inl zI)) (fun _ => rfl) hn hN hbytes hcells hslots hdg (fun q cA H1 hK2 hP2 hD2 hS2 => ?_)
  have h1 : s.vm.findClass ("[" ++ (FieldType.int).toString) = some cA := (hK2.2 3 _ rfl).2
  have h2 : s.vm.findClass ("[" ++ (FieldType.int).toString) = some (cy 0) := (hK.2 0 _ rfl).2
  cases Option.some.inj (h1.symm.trans h2)
  exact kk q H1 hP2 hD2 hS2
theorem ka_newJ {N' : Nat} (hx : p.tables.exec = Jvm.exec) (hb : c.code = cc) (hts : ∀ w ∈ wAll, w.before args s = true) (harr : Cond.arrayClass .long ∈ wAll) (hK : va_K D vwCl (tysAll cy) s) (hP : va_P D vwCl ws H) (hD : va_D A ws) (hS : va_S A s.heap H locs) (hA : ∀ q, s.heap.size ≤ q → A q) {n : Int32} (hn : ¬ n < 0) (hN : n.toNatClampNeg = N') (hbytes : N' * componentBytes .long ≤ 536870912) (hcells : cells + 1 ≤ R.cells) (hslots : slots + N' ≤ R.slots) (hdg : decode cc pc = .ok (.newarray .long, 2))
    (kk : ∀ (q : Nat) (H1 : Heap), va_P D vwCl (ws ++ [(q, .inl (cy 1, N', .inr (.inl zL)))]) H1 → va_D A (ws ++ [(q, .inl (cy 1, N', .inr (.inl zL)))]) → va_S A s.heap H1 locs → W p l e R s m args below meth c H1 locs (cells + 1) (slots + N') Q (F0 m (pc + 2) ls (.ref q :: rest))) : W p l e R s m args below meth c H locs cells slots Q (F0 m pc ls (.int n :: rest)) := by
  refine va_newa (atype := .long) hx hb (hts _ harr) rfl hK hP hD hS hA (a0 := (N', .inr (.inl zL))) (fun _ => rfl) hn hN hbytes hcells hslots hdg (fun q cA H1 hK2 hP2 hD2 hS2 => ?_)
  have h1 : s.vm.findClass ("[" ++ (FieldType.long).toString) = some cA := (hK2.2 3 _ rfl).2
  have h2 : s.vm.findClass ("[" ++ (FieldType.long).toString) = some (cy 1) := (hK.2 1 _ rfl).2
  cases Option.some.inj (h1.symm.trans h2)
  exact kk q H1 hP2 hD2 hS2
theorem ka_newQ {N' index : Nat} (hx : p.tables.exec = Jvm.exec) (hb : c.code = cc) {own : String} (hown : s.vm.findClass own = some m.cls) (hclink : (Cond.classLink own index "ForAllGame$State").before args s = true) (hover : va_AO "ForAllGame$State" s) (hK : va_K D vwCl (tysAll cy) s) (hP : va_P D vwCl ws H) (hD : va_D A ws) (hS : va_S A s.heap H locs) (hA : ∀ q, s.heap.size ≤ q → A q) {n : Int32} (hn : ¬ n < 0) (hN : n.toNatClampNeg = N') (hbytes : N' * 4 ≤ 536870912) (hcells : cells + 1 ≤ R.cells) (hslots : slots + N' ≤ R.slots) (hdg : decode cc pc = .ok (.anewarray index, 3))
    (kk : ∀ (q : Nat) (H1 : Heap), va_P D vwCl (ws ++ [(q, .inl (cy 2, N', .inr (.inr (.inr (.inr (fun _ => none))))))]) H1 → va_D A (ws ++ [(q, .inl (cy 2, N', .inr (.inr (.inr (.inr (fun _ => none))))))]) → va_S A s.heap H1 locs → W p l e R s m args below meth c H1 locs (cells + 1) (slots + N') Q (F0 m (pc + 3) ls (.ref q :: rest))) : W p l e R s m args below meth c H locs cells slots Q (F0 m pc ls (.int n :: rest)) := by
  refine va_newq hx hb hown hclink hover hK hP hD hS hA hn hN hbytes hcells hslots hdg (fun q cA H1 hK2 hP2 hD2 hS2 => ?_)
  obtain ⟨-, -, -, -, -, -, h1⟩ : ∃ (kA : Class) (comp : ClassId), s.vm.classes[cA]? = some kA ∧ kA.kind = .array comp (.object "ForAllGame$State") ∧ s.vm.findClass "ForAllGame$State" = some comp ∧ True ∧ s.vm.findClass ("[" ++ (FieldType.object "ForAllGame$State").toString) = some cA := by
    obtain ⟨kA, comp, a1, a2, a3, a4⟩ := (hK2.2 3 _ rfl).2
    exact ⟨kA, comp, a1, a2, a3, trivial, a4⟩
  obtain ⟨-, -, -, -, -, -, h2⟩ : ∃ (kA : Class) (comp : ClassId), s.vm.classes[cy 2]? = some kA ∧ kA.kind = .array comp (.object "ForAllGame$State") ∧ s.vm.findClass "ForAllGame$State" = some comp ∧ True ∧ s.vm.findClass ("[" ++ (FieldType.object "ForAllGame$State").toString) = some (cy 2) := by
    obtain ⟨kA, comp, a1, a2, a3, a4⟩ := (hK.2 2 _ rfl).2
    exact ⟨kA, comp, a1, a2, a3, trivial, a4⟩
  cases Option.some.inj (h1.symm.trans h2)
  exact kk q H1 hP2 hD2 hS2
end K5
