/-! A handler of the method's own: its class may be resolved at that moment. -/
section Catch
variable {e : Env} {s : State} {f : JFrame} {a : Addr}
theorem m_goCold {Q : Handler → Pre} {E : CtlPost} {d : Bool} {acts : List Action} {U : State} {x : ExceptionTableEntry} {t : List ExceptionTableEntry} {c : ClassId} {cell : Cell} {vm' : Vm} (hx : covers x f.pc = true) (h0 : x.catchType ≠ 0)
    (hg : (Jvm.resolveClass f.method.cls x.catchType).Gives e.toSetting U.vm (.ok c) vm') (hsz : vm'.classes.size ≤ U.vm.classes.size) (hcell : U.heap[a]? = some cell) (hobj : ∀ k, cell.vm ≠ .statics k) (hk : ∃ k, vm'.classes[cell.cls]? = some k) (hc : ∃ k, vm'.classes[c]? = some k) :
    wp (findHandler.go f a (x :: t)) Q E e d acts U ↔ if vm'.assignable cell.cls c = true then Q (.found x.handlerPc) d acts (U.setVm vm') else wp (findHandler.go f a t) Q E e d acts (U.setVm vm') := by
  simp only [covers] at hx
  obtain ⟨ha, ht⟩ := hg.op (op := VmOp.resolveClass f.method.cls x.catchType) rfl
  have hcell' : (U.setVm vm').heap[a]? = some cell := hcell
  cases hfit : vm'.assignable cell.cls c <;>
    simp [findHandler.go, hx, h0, ha, ht, hsz, hcell, hcell', hobj, hk, hc, hfit, VmOp.dirties, VmOp.acts]
/-- the search through the table: each entry that covers the place names a class that can be found; the thing's class is of one of them or not -/
theorem m_goFind {pc t hp : Nat} {dC : Nat → ClassId} {cell : Cell} (hpc : f.pc = pc) (hobj : ∀ k, cell.vm ≠ .statics k) (hcls : cell.cls = dC t) (hkt : ∃ k, s.vm.classes[dC t]? = some k) : ∀ (es : List ExceptionTableEntry) (hs : List (Nat × Nat × Nat × Nat)),
    es.map (fun h => (h.startPc, h.endPc, h.handlerPc, h.catchType)) = hs.map (fun q => (q.1, q.2.1, q.2.2.1, q.2.2.2 / 1000)) →
    (∀ q ∈ hs, q.2.2.2 / 1000 ≠ 0 ∧ s.vm.ClassLinks e.platform f.method.cls (q.2.2.2 / 1000) (dC (q.2.2.2 % 1000)) ∧ (∃ k, s.vm.classes[dC (q.2.2.2 % 1000)]? = some k) ∧ (q.2.2.2 % 1000 ≠ t → s.vm.assignable (dC t) (dC (q.2.2.2 % 1000)) = false)) →
    ∀ vm₀ : Vm, s.WarmedH vm₀ → m_hnd hs pc t = some hp → ∃ vm' : Vm, s.WarmedH vm' ∧ ∀ (Q : Handler → Pre) (E : CtlPost) (d : Bool) (acts : List Action) (U : State), U.vm = vm₀ → U.heap[a]? = some cell → Q (.found hp) d acts (U.setVm vm') → wp (findHandler.go f a es) Q E e d acts U := by
  intro es
  induction es with
  | nil =>
    intro hs hm _ vm₀ _ hh
    cases hs with
    | nil => cases hh
    | cons q r => cases hm
  | cons x es ih =>
    intro hs hm hq vm₀ hW hh
    cases hs with
    | nil => cases hm
    | cons q r =>
      obtain ⟨q1, q2, q3, q4⟩ := q
      simp only [List.map_cons, List.cons.injEq, Prod.mk.injEq] at hm
      obtain ⟨⟨m1, m2, m3, m4⟩, hm⟩ := hm
      obtain ⟨r1, r2, r3, r4⟩ := hq _ List.mem_cons_self
      simp only at r1 r2 r3 r4
      have hq' := fun y hy => hq y (List.mem_cons_of_mem _ hy)
      simp only [m_hnd] at hh
      by_cases hcov : q1 ≤ pc ∧ pc < q2
      · have hx : covers x f.pc = true := by simp [covers, hpc, m1, m2, hcov.1, hcov.2]
        obtain ⟨hg₁, hwarm₁, hready₁⟩ := State.classEntry (e := e) hW r2
        have hal := hwarm₁.alike
        have h1 : ∃ k, (vm₀.noted f.method.cls (q4 / 1000) (.cls (dC (q4 % 1000)))).classes[cell.cls]? = some k := by
          obtain ⟨k, hk⟩ := hkt
          obtain ⟨k', hk', -⟩ := hal.2.2 _ _ hk
          exact ⟨k', by rw [hcls]; exact hk'⟩
        have h2 : ∃ k, (vm₀.noted f.method.cls (q4 / 1000) (.cls (dC (q4 % 1000)))).classes[dC (q4 % 1000)]? = some k := by
          obtain ⟨k, hk⟩ := r3
          obtain ⟨k', hk', -⟩ := hal.2.2 _ _ hk
          exact ⟨k', hk'⟩
        by_cases hkt2 : q4 % 1000 = t
        · rw [if_pos ⟨hcov.1, hcov.2, hkt2⟩] at hh
          cases hh
          refine ⟨_, hwarm₁, fun Q E d acts U hU hc hQ => ?_⟩
          rw [m_goCold (c := dC (q4 % 1000)) (vm' := vm₀.noted f.method.cls (q4 / 1000) (.cls (dC (q4 % 1000)))) hx (by rw [m4]; exact r1) (by rw [m4, hU]; exact hg₁) (by rw [hU]; no_record) hc hobj h1 h2, if_pos (by rw [hcls, ← hkt2]; exact va_asg _ _), m3]
          exact hQ
        · rw [if_neg (fun z => hkt2 z.2.2)] at hh
          obtain ⟨vm', hW', go⟩ := ih r hm hq' _ hwarm₁ hh
          refine ⟨vm', hW', fun Q E d acts U hU hc hQ => ?_⟩
          rw [m_goCold (c := dC (q4 % 1000)) (vm' := vm₀.noted f.method.cls (q4 / 1000) (.cls (dC (q4 % 1000)))) hx (by rw [m4]; exact r1) (by rw [m4, hU]; exact hg₁) (by rw [hU]; no_record) hc hobj h1 h2, if_neg (by rw [hcls, hal.assignable, r4 hkt2]; decide)]
          exact go Q E d acts _ rfl hc hQ
      · have hx : covers x f.pc = false := by
          simp only [covers, hpc, m1, m2]
          by_cases z : q1 ≤ pc
          · simp [z]
            omega
          · simp [z]
        rw [if_neg (fun z => hcov ⟨z.1, z.2.1⟩)] at hh
        obtain ⟨vm', hW', go⟩ := ih r hm hq' vm₀ hW hh
        exact ⟨vm', hW', fun Q E d acts U hU hc hQ => (W.findHandler_go_skip hx).mpr (go Q E d acts U hU hc hQ)⟩
variable {tb : Tables} {target : State} {g : JFrame} {c : Code} {below : List Frame} {pc : Nat} {vm' : Vm}
theorem m_stepCatch {r : List Frame} (hfind : ∀ (Q : Handler → Pre) (E : CtlPost) (d : Bool) (acts : List Action), Q (.found pc) d acts (s.setVm vm') → wp (findHandler f a) Q E e d acts s) :
    (stepThrowing e s a (.java f :: r)).1 = ((s.setVm vm').setFrames (.java { f with pc := pc, stack := [.ref a] } :: r)) := by
  simp only [stepThrowing, searchFrame, vmDo]
  generalize hr : Sem.go _ e false [] s = res
  obtain ⟨as, rfl, ha⟩ := Sem.eq_ok_of hr (a := Handler.found pc) (s' := s.setVm vm') (acts' := []) (by
    simp only [wp_bind']
    exact hfind _ _ _ _ (by simp))
  rfl
theorem m_caught (h : At s g.method c below) (hfind : ∀ (Q : Handler → Pre) (E : CtlPost) (d : Bool) (acts : List Action), Q (.found pc) d acts (((s.setTop g).pushFrame (.throwing a)).setVm vm') → wp (findHandler g a) Q E e d acts ((s.setTop g).pushFrame (.throwing a)))
    (hrest : Steps tb e below ((s.setVm vm').setTop { g with pc := pc, stack := [.ref a] }) target) : Steps tb e below ((s.setTop g).pushFrame (.throwing a)) target := by
  obtain ⟨hgo, hw⟩ := h.throwing a
  refine Steps.head hgo hw ?_
  rw [stepThread_throwing (frames_entered h.top _), m_stepCatch (s := (s.setTop g).pushFrame (.throwing a)) hfind]
  obtain ⟨g₀, hg⟩ := Option.isSome_iff_exists.mp h.top
  obtain ⟨r, hr⟩ := State.topJava?_eq_some.mp hg
  have hr' : (s.setVm vm').frames = .java g₀ :: r := hr
  rw [State.setTop_of_frames _ hr'] at hrest
  have e1 : (((s.setTop g).pushFrame (.throwing a)).setVm vm').setFrames (.java { g with pc := pc, stack := [.ref a] } :: s.frames.tail) = (s.setVm vm').setFrames (.java { g with pc := pc, stack := [.ref a] } :: r) := by
    rw [hr, State.pushFrame, State.setTop_of_frames _ hr, State.setFrames_setFrames]
    show ((s.setVm vm').setFrames (.throwing a :: (s.setFrames (.java g :: r)).frames)).setFrames _ = _
    rw [State.setFrames_setFrames]
    rfl
  rw [e1]
  exact hrest
end Catch
