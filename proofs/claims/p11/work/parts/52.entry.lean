/-! Calls: from the instruction to the callee's walk and back. -/
section Entry
variable {p : Program} {l : Launch} {e : Env} {R R' : Room} {s : State} {m : MethodId} {args : Array Value} {below : List Frame} {meth : Method} {c : Code} {H : Heap} {locs : List Loc} {cells slots : Nat} {Q : State → Prop} {PQ : Outcome → Heap → List Loc → Nat → Nat → Prop} {cc : ByteArray} {pc : Nat} {ls : Array Slot} {own : String} {idx : Nat} {M : mM} {mk : MethodId} {methk : Method} {ck : Code} {As rest : List Value}
/-- a method's link: within the class, or in a nest mate -/
def m_ml (s : State) (args : Array Value) (own : String) (idx : Nat) (y : MethodName) : Prop := (Cond.methodLink own idx y).before args s = true ∨ ∃ host, (Cond.methodLinkNest own idx y host).before args s = true
/-- what the tables have of a method -/
def m_cd (s : State) (M : mM) (mk : MethodId) (methk : Method) (ck : Code) : Prop :=
  s.methodNamed? M.1 = some mk ∧ s.vm.method? mk = some methk ∧ methk.code = some ck ∧ ck.code = M.2.1 ∧ ck.maxLocals = M.2.2.1 ∧ methk.sig.returnType = M.2.2.2.1 ∧ methk.locks = false ∧ parseMethodDescriptor M.1.desc = some methk.sig ∧
  ck.exceptionTable.toList.map (fun h => (h.startPc, h.endPc, h.handlerPc, h.catchType)) = M.2.2.2.2.1.map (fun q => (q.1, q.2.1, q.2.2.1, q.2.2.2 / 1000))
theorem m_cd.code (h : (Cond.code M.1 M.2.1 M.2.2.1 M.2.2.2.1).before args s = true) (h0 : M.2.2.2.2.1 = []) : ∃ mk methk ck, m_cd s M mk methk ck := by
  obtain ⟨mk, hn⟩ := Cond.code_named h
  obtain ⟨methk, ck, h1, h2, h3, h4, h5, h6, h7, h8⟩ := Cond.code_spec hn h
  refine ⟨mk, methk, ck, hn, h1, h2, h3, h4, h5, h6, h8, ?_⟩
  have : ck.exceptionTable.toList = [] := by
    have := Array.isEmpty_iff.mp h7
    rw [this]
  rw [this, h0]
  rfl
theorem m_cd.with (h : (Cond.codeWith M.1 M.2.1 M.2.2.1 M.2.2.2.1 (M.2.2.2.2.1.map (fun q => (q.1, q.2.1, q.2.2.1, q.2.2.2 / 1000)))).before args s = true) : ∃ mk methk ck, m_cd s M mk methk ck := by
  obtain ⟨mk, methk, ck, h1, h2, h3, h4, h5, h6, h7, h8, h9⟩ := Cond.codeWith_spec h
  exact ⟨mk, methk, ck, h1, h2, h3, h4, h5, h7, h8, h9, h6⟩
/-- what a call asks, but for its instruction's own step -/
theorem m_callB {T : State} (X : Stand p l e R s m args below meth c T locs cells slots) (hT : T.heap = H) (hb : c.code = cc) (hcd : m_cd s M mk methk ck) (hpl : plainFor M.1 = true) {ig : Instr} (hdg : decode cc pc = .ok (ig, 3)) (hsize : ls.size = c.maxLocals) (hcat : (rest.map fun v => v.category).sum ≤ 8)
    (hframes : R'.frames + 1 ≤ R.frames) (hlocals : 8 + (M.2.2.1 + 11) + R'.locals ≤ R.locals) (hcells : cells + R'.cells ≤ R.cells) (hslots : slots + R'.slots ≤ R.slots) (a : Array Value)
    (callee : ∀ T₁ : State, T₁.heap = H → s.WarmedH T₁.vm → m_cd (T₁.calling (F0 m pc ls rest) mk a) M mk methk ck → W p l e R' (T₁.calling (F0 m pc ls rest) mk a) mk a (.java (F0 m pc ls rest) :: below) methk ck H [] 0 0 (m_Q (.java (F0 m pc ls rest) :: below) (T₁.calling (F0 m pc ls rest) mk a) PQ) (entryFrame mk a ck.maxLocals))
    (hret : ∀ (v : Option Value) (H' : Heap) (L : List Loc) (k n : Nat), PQ (.returned v) H' L k n → W p l e R s m args below meth c H' (locs ++ L) (cells + k) (slots + n) Q (F0 m (pc + 3) ls (v.toList ++ rest)))
    (hthr : ∀ (x : Addr) (H' : Heap) (L : List Loc) (k n : Nat), PQ (.threw x) H' L k n → ∀ T' : State, T'.heap = H' → Stand p l e R s m args below meth c T' (locs ++ L) (cells + k) (slots + n) → ∃ t, Steps p.tables e below ((T'.setTop (F0 m pc ls rest)).pushFrame (.throwing x)) t ∧ Q t) :
    ∃ t, (∀ acts, Steps p.tables e below (doInvoke e (T.setTop (F0 m pc ls rest)) acts mk a).1 t) ∧ Q t := by
  obtain ⟨hn, h1, h2, h3, h4, h5, h6, h7, h8⟩ := hcd
  have hal := X.warmed.alike
  have hmk : T.vm.method? mk = some methk := by rw [hal.method?]; exact h1
  have hnT : T.methodNamed? M.1 = some mk := X.named hn
  refine m_enter X rfl hsize (by rw [hb]; exact hdg) a (R' := R') hmk h2 h6 (State.plainMethod.of_named hpl hnT hmk) hframes ?_ hcells hslots (by rw [hT]; exact callee T hT X.warmed ⟨hnT, hmk, h2, h3, h4, h5, h6, h7, h8⟩) hret hthr
  rw [h4]
  show 2 * 0 + (rest.map fun v => v.category).sum + _ + _ ≤ _
  omega
theorem m_callS (hx : p.tables.exec = Jvm.exec) (hb : c.code = cc) (hown : s.vm.findClass own = some m.cls) (hl : m_ml s args own idx M.1) (hcd : m_cd s M mk methk ck) (hst : (Cond.static M.1).before args s = true) (hini : (Cond.initialized M.1.cls).before args s = true) (hy : M.1.cls ≠ "java/lang/invoke/MethodHandle" ∧ M.1.cls ≠ "java/lang/invoke/VarHandle") (hpl : plainFor M.1 = true)
    (hn : As.length = methk.sig.parameters.length) (hdg : decode cc pc = .ok (.invokestatic idx, 3)) (hsize : ls.size = c.maxLocals) (hcat : (rest.map fun v => v.category).sum ≤ 8)
    (hframes : R'.frames + 1 ≤ R.frames) (hlocals : 8 + (M.2.2.1 + 11) + R'.locals ≤ R.locals) (hcells : cells + R'.cells ≤ R.cells) (hslots : slots + R'.slots ≤ R.slots)
    (callee : ∀ T₁ : State, T₁.heap = H → s.WarmedH T₁.vm → m_cd (T₁.calling (F0 m pc ls rest) mk As.toArray) M mk methk ck → W p l e R' (T₁.calling (F0 m pc ls rest) mk As.toArray) mk As.toArray (.java (F0 m pc ls rest) :: below) methk ck H [] 0 0 (m_Q (.java (F0 m pc ls rest) :: below) (T₁.calling (F0 m pc ls rest) mk As.toArray) PQ) (entryFrame mk As.toArray ck.maxLocals))
    (hret : ∀ (v : Option Value) (H' : Heap) (L : List Loc) (k n : Nat), PQ (.returned v) H' L k n → W p l e R s m args below meth c H' (locs ++ L) (cells + k) (slots + n) Q (F0 m (pc + 3) ls (v.toList ++ rest)))
    (hthr : ∀ (x : Addr) (H' : Heap) (L : List Loc) (k n : Nat), PQ (.threw x) H' L k n → ∀ T' : State, T'.heap = H' → Stand p l e R s m args below meth c T' (locs ++ L) (cells + k) (slots + n) → ∃ t, Steps p.tables e below ((T'.setTop (F0 m pc ls rest)).pushFrame (.throwing x)) t ∧ Q t) :
    W p l e R s m args below meth c H locs cells slots Q (F0 m pc ls (As.reverse ++ rest)) := by
  intro T hT X
  have hstatic : methk.isStatic = true := Cond.static_spec hcd.1 hcd.2.1 hst
  obtain ⟨kP, hkP, -⟩ := className_of_methodNamed hcd.1
  have hinitP : kP.init = .initialized := Cond.initialized_spec (findClass_of_methodNamed hcd.1) hkP hini
  have main : ∃ vm', Stand p l e R s m args below meth c (T.setVm vm') locs cells slots ∧ ∀ target, (∀ acts, Steps p.tables e below (doInvoke e ((T.setVm vm').setTop (F0 m pc ls rest)) acts mk As.toArray).1 target) → Steps p.tables e below (T.setTop (F0 m pc ls (As.reverse ++ rest))) target := by
    rcases hl with hl | ⟨host, hl⟩
    · exact X.invokestatic hx hown hl hcd.1 hcd.2.1 hstatic hkP hinitP hy (g := F0 m pc ls (As.reverse ++ rest)) rfl (argsL := As) (rest := rest) hn rfl (by rw [hb]; exact hdg)
    · exact X.invokestaticNest hx hown hl hcd.1 hcd.2.1 hstatic hkP hinitP hy (g := F0 m pc ls (As.reverse ++ rest)) rfl (argsL := As) (rest := rest) hn rfl (by rw [hb]; exact hdg)
  obtain ⟨vm₁, X₁, hstep⟩ := main
  obtain ⟨t, h1, h2⟩ := m_callB X₁ hT hb hcd hpl hdg hsize hcat hframes hlocals hcells hslots As.toArray callee hret hthr
  exact ⟨t, hstep t h1, h2⟩
theorem m_callV (hx : p.tables.exec = Jvm.exec) (hb : c.code = cc) (hown : s.vm.findClass own = some m.cls) (hl : m_ml s args own idx M.1) (hcd : m_cd s M mk methk ck) (hin : (Cond.instanceMethod M.1).before args s = true) (hsel : (Cond.selects M.1.cls M.1 M.1).before args s = true) (hy : M.1.cls ≠ "java/lang/invoke/MethodHandle" ∧ M.1.cls ≠ "java/lang/invoke/VarHandle") (hpl : plainFor M.1 = true)
    {b : Addr} {cellB : Cell} (hcell : H[b]? = some cellB) (hobj : cellB.vm.isStatics = false) (hcls : s.vm.findClass M.1.cls = some cellB.cls)
    (hn : As.length = methk.sig.parameters.length) (hdg : decode cc pc = .ok (.invokevirtual idx, 3)) (hsize : ls.size = c.maxLocals) (hcat : (rest.map fun v => v.category).sum ≤ 8)
    (hframes : R'.frames + 1 ≤ R.frames) (hlocals : 8 + (M.2.2.1 + 11) + R'.locals ≤ R.locals) (hcells : cells + R'.cells ≤ R.cells) (hslots : slots + R'.slots ≤ R.slots)
    (callee : ∀ T₁ : State, T₁.heap = H → s.WarmedH T₁.vm → m_cd (T₁.calling (F0 m pc ls rest) mk (Value.ref b :: As).toArray) M mk methk ck → W p l e R' (T₁.calling (F0 m pc ls rest) mk (Value.ref b :: As).toArray) mk (Value.ref b :: As).toArray (.java (F0 m pc ls rest) :: below) methk ck H [] 0 0 (m_Q (.java (F0 m pc ls rest) :: below) (T₁.calling (F0 m pc ls rest) mk (Value.ref b :: As).toArray) PQ) (entryFrame mk (Value.ref b :: As).toArray ck.maxLocals))
    (hret : ∀ (v : Option Value) (H' : Heap) (L : List Loc) (k n : Nat), PQ (.returned v) H' L k n → W p l e R s m args below meth c H' (locs ++ L) (cells + k) (slots + n) Q (F0 m (pc + 3) ls (v.toList ++ rest)))
    (hthr : ∀ (x : Addr) (H' : Heap) (L : List Loc) (k n : Nat), PQ (.threw x) H' L k n → ∀ T' : State, T'.heap = H' → Stand p l e R s m args below meth c T' (locs ++ L) (cells + k) (slots + n) → ∃ t, Steps p.tables e below ((T'.setTop (F0 m pc ls rest)).pushFrame (.throwing x)) t ∧ Q t) :
    W p l e R s m args below meth c H locs cells slots Q (F0 m pc ls (As.reverse ++ .ref b :: rest)) := by
  intro T hT X
  obtain ⟨mk', methM, hnamed, hmethM, hstM, habM⟩ := Cond.instanceMethod_spec hin
  cases hcd.1.symm.trans hnamed
  cases hcd.2.1.symm.trans hmethM
  obtain ⟨c2, r2, m2, q1, q2, q3, q4, kP, hkP, hkPi⟩ := Cond.selects_spec hsel
  cases hcls.symm.trans q1
  cases (State.methodFound?_of_named hnamed hy).symm.trans q2
  cases hnamed.symm.trans q3
  have hselP : selectMethod e.platform s.vm cellB.cls mk = .method mk := by rw [Launch.admits_selectMethod X.admits]; exact q4
  have main : ∃ vm', Stand p l e R s m args below meth c (T.setVm vm') locs cells slots ∧ ∀ target, (∀ acts, Steps p.tables e below (doInvoke e ((T.setVm vm').setTop (F0 m pc ls rest)) acts mk (Value.ref b :: As).toArray).1 target) → Steps p.tables e below (T.setTop (F0 m pc ls (As.reverse ++ .ref b :: rest))) target := by
    rcases hl with hl | ⟨host, hl⟩
    · exact X.invokevirtual hx hown hl hnamed hmethM hstM hkP hkPi hy (a := b) (cell := cellB) (by rw [hT]; exact hcell) (fun z h => by rw [h] at hobj; cases hobj) hselP hmethM habM hkP hkPi (g := F0 m pc ls (As.reverse ++ .ref b :: rest)) rfl (argsL := As) (rest := rest) hn rfl (by rw [hb]; exact hdg)
    · exact X.invokevirtualNest hx hown hl hnamed hmethM hstM hkP hkPi hy (a := b) (cell := cellB) (by rw [hT]; exact hcell) (fun z h => by rw [h] at hobj; cases hobj) hselP hmethM habM hkP hkPi (g := F0 m pc ls (As.reverse ++ .ref b :: rest)) rfl (argsL := As) (rest := rest) hn rfl (by rw [hb]; exact hdg)
  obtain ⟨vm₁, X₁, hstep⟩ := main
  obtain ⟨t, h1, h2⟩ := m_callB X₁ hT hb hcd hpl hdg hsize hcat hframes hlocals hcells hslots (Value.ref b :: As).toArray callee hret hthr
  exact ⟨t, hstep t h1, h2⟩
theorem m_callI (hx : p.tables.exec = Jvm.exec) (hb : c.code = cc) (hown : s.vm.findClass own = some m.cls) (hl : m_ml s args own idx M.1) (hcd : m_cd s M mk methk ck) (hin : (Cond.instanceMethod M.1).before args s = true) (hnm : M.1.name = "<init>") (hcode : (Cond.code M.1 M.2.1 M.2.2.1 none).before args s = true) (hy : M.1.cls ≠ "java/lang/invoke/MethodHandle" ∧ M.1.cls ≠ "java/lang/invoke/VarHandle") (hpl : plainFor M.1 = true) {b : Addr}
    (hn : As.length = methk.sig.parameters.length) (hdg : decode cc pc = .ok (.invokespecial idx, 3)) (hsize : ls.size = c.maxLocals) (hcat : (rest.map fun v => v.category).sum ≤ 8)
    (hframes : R'.frames + 1 ≤ R.frames) (hlocals : 8 + (M.2.2.1 + 11) + R'.locals ≤ R.locals) (hcells : cells + R'.cells ≤ R.cells) (hslots : slots + R'.slots ≤ R.slots)
    (callee : ∀ T₁ : State, T₁.heap = H → s.WarmedH T₁.vm → m_cd (T₁.calling (F0 m pc ls rest) mk (Value.ref b :: As).toArray) M mk methk ck → W p l e R' (T₁.calling (F0 m pc ls rest) mk (Value.ref b :: As).toArray) mk (Value.ref b :: As).toArray (.java (F0 m pc ls rest) :: below) methk ck H [] 0 0 (m_Q (.java (F0 m pc ls rest) :: below) (T₁.calling (F0 m pc ls rest) mk (Value.ref b :: As).toArray) PQ) (entryFrame mk (Value.ref b :: As).toArray ck.maxLocals))
    (hret : ∀ (v : Option Value) (H' : Heap) (L : List Loc) (k n : Nat), PQ (.returned v) H' L k n → W p l e R s m args below meth c H' (locs ++ L) (cells + k) (slots + n) Q (F0 m (pc + 3) ls (v.toList ++ rest)))
    (hthr : ∀ (x : Addr) (H' : Heap) (L : List Loc) (k n : Nat), PQ (.threw x) H' L k n → ∀ T' : State, T'.heap = H' → Stand p l e R s m args below meth c T' (locs ++ L) (cells + k) (slots + n) → ∃ t, Steps p.tables e below ((T'.setTop (F0 m pc ls rest)).pushFrame (.throwing x)) t ∧ Q t) :
    W p l e R s m args below meth c H locs cells slots Q (F0 m pc ls (As.reverse ++ .ref b :: rest)) := by
  intro T hT X
  have hplat : e.platform.magicAccessors = ({} : Platform).magicAccessors := by rw [X.admits.platform]
  have hlen : ∀ sig, parseMethodDescriptor M.1.desc = some sig → As.length = sig.parameters.length := fun sig h => by
    rw [hn]
    cases h.symm.trans hcd.2.2.2.2.2.2.2.1
    rfl
  have main : ∃ vm', Stand p l e R s m args below meth c (T.setVm vm') locs cells slots ∧ ∀ target, (∀ acts, Steps p.tables e below (doInvoke e ((T.setVm vm').setTop (F0 m pc ls rest)) acts mk (Value.ref b :: As).toArray).1 target) → Steps p.tables e below (T.setTop (F0 m pc ls (As.reverse ++ .ref b :: rest))) target := by
    rcases hl with hl | ⟨host, hl⟩
    · obtain ⟨mk', methM, cM, kP, vm₁, hnamed, -, -, -, -, -, -, -, hW₁, hstep₁⟩ := Steps.initColdArgs (e := e) X.here hx X.warmed hplat hown hnm hy hl hin hcode (f := F0 m pc ls (As.reverse ++ .ref b :: rest)) rfl hlen rfl (by rw [hb]; exact hdg)
      cases hcd.1.symm.trans hnamed
      exact ⟨vm₁, X.noted hW₁, hstep₁⟩
    · obtain ⟨mk', methM, cM, kP, vm₁, hnamed, -, -, -, -, -, -, -, hW₁, hstep₁⟩ := Steps.initColdArgsNest (e := e) X.here hx X.warmed hplat hown hnm hy hl hin hcode (f := F0 m pc ls (As.reverse ++ .ref b :: rest)) rfl hlen rfl (by rw [hb]; exact hdg)
      cases hcd.1.symm.trans hnamed
      exact ⟨vm₁, X.noted hW₁, hstep₁⟩
  obtain ⟨vm₁, X₁, hstep⟩ := main
  obtain ⟨t, h1, h2⟩ := m_callB X₁ hT hb hcd hpl hdg hsize hcat hframes hlocals hcells hslots (Value.ref b :: As).toArray callee hret hthr
  exact ⟨t, hstep t h1, h2⟩
end Entry
