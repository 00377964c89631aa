/-! A register's number: the class's check. -/
section Reg107
variable {d : Nat} {h : mH} {K : Nat × Nat}
/-- StepBench.checkRegister -/
theorem x33 (r : Int32) (hd : 8 ≤ d) (hK : 1 ≤ K.1 ∧ 6 ≤ K.2) : mW d mm33 (0, [some (.int r)], [], (h, K)) (fun o S' =>
    ((r < 0 ∨ ¬ r < 8) ∧ o = .threw h.length ∧ S' = (h ++ [(1, [])], K.1 - 1, K.2 - 6)) ∨ (¬ r < 0 ∧ r < 8 ∧ o = .returned none ∧ S' = (h, K))) := by
  refine mW.sn 1 (g' := (1, [some (.int r)], [.int r], (h, K))) rfl ?_
  refine mW.br (g1 := (10, [some (.int r)], [], (h, K))) (g2 := (4, [some (.int r)], [], (h, K))) (c := r < 0) rfl (fun hr => ?_) (fun hr => ?_)
  · exact mW.thr rfl rfl hK hd (by decide) (Or.inl ⟨Or.inl hr, rfl, rfl⟩)
  · refine mW.sn 2 (g' := (7, [some (.int r)], [.int 8, .int r], (h, K))) rfl ?_
    refine mW.br (g1 := (18, [some (.int r)], [], (h, K))) (g2 := (10, [some (.int r)], [], (h, K))) (c := r < 8) rfl (fun h8 => ?_) (fun h8 => ?_)
    · exact mW.fin rfl (Or.inr ⟨hr, h8, rfl, rfl⟩)
    · exact mW.thr rfl rfl hK hd (by decide) (Or.inl ⟨Or.inr h8, rfl, rfl⟩)
end Reg107
