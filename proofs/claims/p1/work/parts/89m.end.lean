/-! The call end: the reference's side, and the two together. -/
section End99
variable {d : Nat} {h : mH} {K : Nat × Nat} {ms : List Value} {l : Int32}
/-- the reference's object -/
def mdl (h : mH) (ms : List Value) : Prop := h[78]? = some (13, ms) ∧ ms.length = 22
/-- StepBenchModel.thrown -/
theorem x158 (c : mdl h ms) {v : Int32} (hv : ms[0]? = some (.int v)) : mE d mm158 (0, [some (.ref 78)], [], (h, K)) (.returned (some (.int v)), (h, K)) := by
  refine mE.sn 1 (g' := (1, [some (.ref 78)], [.ref 78], (h, K))) rfl ?_
  refine mE.get rfl c.1 hv ?_
  exact m_ev.fin rfl
theorem mdl.set {i : Nat} {v : Value} (c : mdl h ms) : mdl (h.set 78 (13, ms.set i v)) (ms.set i v) := ⟨m_at_set c.1, by rw [List.length_set]; exact c.2⟩
theorem mdl.app {l : List mC} (c : mdl h ms) : mdl (h ++ l) ms := ⟨by rw [List.getElem?_append_left (List.getElem?_eq_some_iff.mp c.1).1]; exact c.1, c.2⟩
/-- StepBenchModel.fail -/
theorem x160 (c : mdl h ms) (v : Int32) : mE d mm160 (0, [some (.ref 78), some (.int v)], [], (h, K)) (.returned (some (.int 0)), (h.set 78 (13, ms.set 0 (.int v)), K)) := by
  refine mE.sn 2 (g' := (2, [some (.ref 78), some (.int v)], [.int v, .ref 78], (h, K))) rfl ?_
  refine mE.put rfl c.1 (by decide) (by rw [c.2]; rfl) rfl ?_
  refine mE.sn 1 (g' := (6, [some (.ref 78), some (.int v)], [.int 0], (h.set 78 (13, ms.set 0 (.int v)), K))) rfl ?_
  exact m_ev.fin rfl
/-- StepBenchModel.end -/
theorem x162 (c : mdl h ms) (hv : ms[1]? = some (.int l)) (n : Int32) : mW (d + 1) mm162 (0, [some (.ref 78), some (.int n)], [], (h, K)) (fun o S' =>
    ((n < 0 ∨ ¬ n ≤ l) ∧ o = .returned (some (.int 0)) ∧ ∃ h', S' = (h', K) ∧ mdl h' (ms.set 0 (.int 1)) ∧ sm [78] h h') ∨ (¬ (n < 0 ∨ ¬ n ≤ l) ∧ o = .returned (some (.int n)) ∧ ∃ h', S' = (h', K) ∧ mdl h' ((ms.set 0 (.int 0)).set 1 (.int n)) ∧ sm [78] h h')) := by
  have c0 : mdl (h.set 78 (13, ms.set 0 (.int 0))) (ms.set 0 (.int 0)) := c.set
  have hv0 : (ms.set 0 (.int 0))[1]? = some (.int l) := by rw [List.getElem?_set_ne (by decide)]; exact hv
  have s0 : sm [78] h (h.set 78 (13, ms.set 0 (.int 0))) := sm.set (by simp)
  have bad : (n < 0 ∨ ¬ n ≤ l) → mW (d + 1) mm162 (17, [some (.ref 78), some (.int n)], [], (h.set 78 (13, ms.set 0 (.int 0)), K)) (fun o S' =>
      ((n < 0 ∨ ¬ n ≤ l) ∧ o = .returned (some (.int 0)) ∧ ∃ h', S' = (h', K) ∧ mdl h' (ms.set 0 (.int 1)) ∧ sm [78] h h') ∨ (¬ (n < 0 ∨ ¬ n ≤ l) ∧ o = .returned (some (.int n)) ∧ ∃ h', S' = (h', K) ∧ mdl h' ((ms.set 0 (.int 0)).set 1 (.int n)) ∧ sm [78] h h')) := by
    intro hb
    refine mW.sn 2 (g' := (19, [some (.ref 78), some (.int n)], [.int 1, .ref 78], (h.set 78 (13, ms.set 0 (.int 0)), K))) rfl ?_
    refine mW.callE rfl rfl rfl rfl (m_rcv_ok c0.1) (x160 c0 1) ?_
    refine mW.fin rfl (Or.inl ⟨hb, rfl, _, rfl, ?_, s0.trans (sm.set (by simp))⟩)
    exact ⟨by rw [m_at_set c0.1, List.set_set], by rw [List.length_set]; exact c.2⟩
  refine mW.sn 2 (g' := (2, [some (.ref 78), some (.int n)], [.int 0, .ref 78], (h, K))) rfl ?_
  refine mW.put rfl c.1 (by decide) (by rw [c.2]; rfl) rfl ?_
  refine mW.sn 1 (g' := (6, [some (.ref 78), some (.int n)], [.int n], (h.set 78 (13, ms.set 0 (.int 0)), K))) rfl ?_
  refine mW.br (g1 := (17, [some (.ref 78), some (.int n)], [], (h.set 78 (13, ms.set 0 (.int 0)), K))) (g2 := (9, [some (.ref 78), some (.int n)], [], (h.set 78 (13, ms.set 0 (.int 0)), K))) (c := n < 0) rfl (fun hn => bad (Or.inl hn)) (fun hn => ?_)
  refine mW.sn 2 (g' := (11, [some (.ref 78), some (.int n)], [.ref 78, .int n], (h.set 78 (13, ms.set 0 (.int 0)), K))) rfl ?_
  refine mW.get rfl c0.1 hv0 ?_
  refine mW.br (g1 := (23, [some (.ref 78), some (.int n)], [], (h.set 78 (13, ms.set 0 (.int 0)), K))) (g2 := (17, [some (.ref 78), some (.int n)], [], (h.set 78 (13, ms.set 0 (.int 0)), K))) (c := n ≤ l) rfl (fun hl => ?_) (fun hl => bad (Or.inr hl))
  refine mW.sn 2 (g' := (25, [some (.ref 78), some (.int n)], [.int n, .ref 78], (h.set 78 (13, ms.set 0 (.int 0)), K))) rfl ?_
  refine mW.put rfl c0.1 (by decide) (by rw [c0.2]; rfl) rfl ?_
  refine mW.sn 1 (g' := (29, [some (.ref 78), some (.int n)], [.int n], ((h.set 78 (13, ms.set 0 (.int 0))).set 78 (13, (ms.set 0 (.int 0)).set 1 (.int n)), K))) rfl ?_
  exact mW.fin rfl (Or.inr ⟨fun z => z.elim hn (fun z => z hl), rfl, _, rfl, c0.set, s0.trans (sm.set (by simp))⟩)
end End99
