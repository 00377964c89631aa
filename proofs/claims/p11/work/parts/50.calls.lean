/-! Answers, throws and calls. -/
section Calls5
variable {p : Program} {l : Launch} {e : Env} {R : Room} {s : State} {m : MethodId} {args : Array Value} {below : List Frame} {meth : Method} {c : Code}
/-- how a frame's walk ends -/
def m_Q (below : List Frame) (s : State) (PQ : Outcome → Heap → List Loc → Nat → Nat → Prop) : State → Prop := fun t =>
  ∃ (o : Outcome) (L : List Loc) (k n : Nat), t.status = .running ∧ Ended t below o ∧ s.WarmedH t.vm ∧ s.sameButNew ({ t with vm := s.vm } : State) L k n ∧ PQ o t.heap L k n
variable {H : Heap} {locs : List Loc} {cells slots : Nat} {Q : State → Prop} {PQ : Outcome → Heap → List Loc → Nat → Nat → Prop} {cc : ByteArray} {pc : Nat} {ls : Array Slot}
theorem m_iret (hexec : p.tables.exec = Jvm.exec) (hb : c.code = cc) {ty : FieldType} {v : Int32} (hr : meth.sig.returnType = some ty) (hlocks : meth.locks = false) (hdg : decode cc pc = .ok (.ireturn, 1)) (hq : PQ (.returned (some (narrow ty (.int v)))) H locs cells slots) :
    W p l e R s m args below meth c H locs cells slots (m_Q below s PQ) (F0 m pc ls [.int v]) := by
  intro T hT X
  obtain ⟨fs, hret, hrun, hended, hW, hframe⟩ := X.leave (v := some (narrow ty (.int v))) (fun h => by rw [hr] at h; cases h)
  have hmeth' : T.vm.method? m = some meth := X.method'
  refine ⟨T.setFrames fs, ?_, .returned (some (narrow ty (.int v))), locs, cells, slots, hrun, hended, hW, hframe, by rw [show (T.setFrames fs).heap = T.heap from rfl, hT]; exact hq⟩
  jvm_step X.here [X.here.top, hexec, hb, hdg, hmeth', hr]
  (try refine ⟨rfl, ?_⟩); (try refine ⟨rfl, ?_⟩)
  first | (intro acts; rw [hret _ acts rfl rfl rfl]) | rw [hret _ _ rfl rfl rfl]
  exact Steps.refl _
theorem m_lret (hexec : p.tables.exec = Jvm.exec) (hb : c.code = cc) {v : Int64} (hr : meth.sig.returnType = some .long) (hlocks : meth.locks = false) (hdg : decode cc pc = .ok (.lreturn, 1)) (hq : PQ (.returned (some (.long v))) H locs cells slots) :
    W p l e R s m args below meth c H locs cells slots (m_Q below s PQ) (F0 m pc ls [.long v]) := by
  intro T hT X
  obtain ⟨fs, hret, hrun, hended, hW, hframe⟩ := X.leave (v := some (.long v)) (fun h => by rw [hr] at h; cases h)
  have hmeth' : T.vm.method? m = some meth := X.method'
  refine ⟨T.setFrames fs, ?_, .returned (some (.long v)), locs, cells, slots, hrun, hended, hW, hframe, by rw [show (T.setFrames fs).heap = T.heap from rfl, hT]; exact hq⟩
  jvm_step X.here [X.here.top, hexec, hb, hdg, hmeth', hr, narrow]
  (try refine ⟨rfl, ?_⟩); (try refine ⟨rfl, ?_⟩)
  first | (intro acts; rw [hret _ acts rfl rfl rfl]) | rw [hret _ _ rfl rfl rfl]
  exact Steps.refl _
theorem m_vret (hexec : p.tables.exec = Jvm.exec) (hb : c.code = cc) (hr : meth.sig.returnType = none) (hlocks : meth.locks = false) (hdg : decode cc pc = .ok (.return_, 1)) (hq : PQ (.returned none) H locs cells slots) :
    W p l e R s m args below meth c H locs cells slots (m_Q below s PQ) (F0 m pc ls []) := by
  intro T hT X
  obtain ⟨fs, hret, hrun, hended, hW, hframe⟩ := X.leave (v := none) (fun _ => rfl)
  have hmeth' : T.vm.method? m = some meth := X.method'
  refine ⟨T.setFrames fs, ?_, .returned none, locs, cells, slots, hrun, hended, hW, hframe, by rw [show (T.setFrames fs).heap = T.heap from rfl, hT]; exact hq⟩
  jvm_step X.here [X.here.top, hexec, hb, hdg, hmeth', hr]
  (try refine ⟨rfl, ?_⟩); (try refine ⟨rfl, ?_⟩)
  first | (intro acts; rw [hret _ acts rfl rfl rfl]) | rw [hret _ _ rfl rfl rfl]
  exact Steps.refl _
/-- a call, behind the instruction's own step: into the callee's frame, along its walk, and back -/
theorem m_enter {T : State} (X : Stand p l e R s m args below meth c T locs cells slots) {g : JFrame} (hg : g.method = m) (hsize : g.locals.size = c.maxLocals) {ig : Instr} (hdg : decode c.code g.pc = .ok (ig, 3))
    {mk : MethodId} {methk : Method} {ck : Code} (a : Array Value) {R' : Room} (hmk : T.vm.method? mk = some methk) (hck : methk.code = some ck) (hlk : methk.locks = false) (hpk : T.plainMethod mk)
    (hframes : R'.frames + 1 ≤ R.frames) (hlocals : 2 * g.monitorRoom + (g.stack.map fun v => v.category).sum + (ck.maxLocals + 11) + R'.locals ≤ R.locals) (hcells : cells + R'.cells ≤ R.cells) (hslots : slots + R'.slots ≤ R.slots)
    (callee : W p l e R' (T.calling g mk a) mk a (.java g :: below) methk ck T.heap [] 0 0 (m_Q (.java g :: below) (T.calling g mk a) PQ) (entryFrame mk a ck.maxLocals))
    (hret : ∀ (v : Option Value) (H' : Heap) (L : List Loc) (k n : Nat), PQ (.returned v) H' L k n → W p l e R s m args below meth c H' (locs ++ L) (cells + k) (slots + n) Q { g with pc := g.pc + 3, stack := v.toList ++ g.stack })
    (hthr : ∀ (x : Addr) (H' : Heap) (L : List Loc) (k n : Nat), PQ (.threw x) H' L k n → ∀ T' : State, T'.heap = H' → Stand p l e R s m args below meth c T' (locs ++ L) (cells + k) (slots + n) → ∃ t, Steps p.tables e below ((T'.setTop g).pushFrame (.throwing x)) t ∧ Q t) :
    ∃ t, (∀ acts, Steps p.tables e below (doInvoke e (T.setTop g) acts mk a).1 t) ∧ Q t := by
  obtain ⟨Y, hdo⟩ := X.into hg hsize hdg a (R' := R') hmk hck hlk hpk hframes hlocals hcells hslots
  obtain ⟨t, st, o, L, k, n, hrun, hend, hW, hsame, hPQ⟩ := callee ((T.setTop g).pushFrame (.java (entryFrame mk a ck.maxLocals))) (by rfl) Y
  cases o with
  | returned v =>
    obtain ⟨T', X', hW', -, ht⟩ := X.outOf hg hdg hend hW hsame
    have hh : T'.heap = t.heap := by rw [ht]; rfl
    obtain ⟨t2, st2, hQ⟩ := hret v t.heap L k n hPQ T' hh X'
    refine ⟨t2, fun acts => ?_, hQ⟩
    rw [hdo acts]
    refine Steps.trans (Steps.weaken (mid := [.java g]) st) ?_
    rw [ht]
    exact st2
  | threw x =>
    obtain ⟨T', X', hW', -, ht⟩ := X.outOfThrown hg hend hW hsame
    have hh : T'.heap = t.heap := by rw [ht]; rfl
    obtain ⟨t2, st2, hQ⟩ := hthr x t.heap L k n hPQ T' hh X'
    refine ⟨t2, fun acts => ?_, hQ⟩
    rw [hdo acts]
    refine Steps.trans (Steps.weaken (mid := [.java g]) st) ?_
    rw [ht]
    exact st2
/-- a thing thrown over a frame whose method has no handler for it: the method ends so -/
theorem m_out {T : State} (X : Stand p l e R s m args below meth c T locs cells slots) (hT : T.heap = H) (a : Addr) {g : JFrame} (hg : g.method = m) (hlocked : g.locked = none) (hentered : g.entered = []) (hlocks : meth.locks = false) (hout : ∀ x ∈ c.exceptionTable.toList, covers x g.pc = false) (hq : PQ (.threw a) H locs cells slots) :
    ∃ t, Steps p.tables e below ((T.setTop g).pushFrame (.throwing a)) t ∧ m_Q below s PQ t := by
  obtain ⟨hwalk, hrun, hend, hW, hsame⟩ := X.leaveThrown a hg hlocked hentered hout
  exact ⟨_, hwalk, .threw a, locs, cells, slots, hrun, hend, hW, hsame, by rw [show (T.setFrames (.throwing a :: below)).heap = T.heap from rfl, hT]; exact hq⟩
end Calls5
