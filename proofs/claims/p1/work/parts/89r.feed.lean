/-! The reference's tape: an int put. -/
section Feed104
variable {d : Nat} {h : mH} {K : Nat × Nat} {ms : List Value} {vs : List Int32}
/-- StepBenchModel.four -/
theorem x161 (t : rt h ms vs) (hl : vs.length + 4 ≤ 4096) (n : Int32) : ∃ h' ms', mE d mm161 (0, [some (.ref 78), some (.int n), none], [], (h, K)) (.returned none, (h', K)) ∧ rt h' ms' (vs ++ by4 n) ∧ (∀ k, k ≠ 1 → ms'[k]? = ms[k]?) ∧ sm [78, 79] h h' := by
  have hd : ∀ (p : Int32) (h : mH) (r : Outcome × mS), ¬ p < 0 → mE d mm161 (7, [some (.ref 78), some (.int n), some (.int p)], [], (h, K)) r → mE d mm161 (3, [some (.ref 78), some (.int n), some (.int p)], [], (h, K)) r := by
    intro p h r hp k
    refine mE.sn 1 (g' := (4, [some (.ref 78), some (.int n), some (.int p)], [.int p], (h, K))) rfl ?_
    exact mE.no (g1 := (39, [some (.ref 78), some (.int n), some (.int p)], [], (h, K))) (g2 := (7, [some (.ref 78), some (.int n), some (.int p)], [], (h, K))) (c := p < 0) rfl hp k
  obtain ⟨h1, m1, t1, u1, s1, k1⟩ := x161s (d := d) (K := K) t (by omega) n 24
  obtain ⟨h2, m2, t2, u2, s2, k2⟩ := x161s (d := d) (K := K) t1 (by simp only [List.length_append, List.length_cons, List.length_nil]; omega) n 16
  obtain ⟨h3, m3, t3, u3, s3, k3⟩ := x161s (d := d) (K := K) t2 (by simp only [List.length_append, List.length_cons, List.length_nil]; omega) n 8
  obtain ⟨h4, m4, t4, u4, s4, k4⟩ := x161s (d := d) (K := K) t3 (by simp only [List.length_append, List.length_cons, List.length_nil]; omega) n 0
  have e0 : n >>> ((0 : Int32) &&& 31) = n := by
    have : (0 : Int32) &&& 31 = 0 := by decide
    rw [this]
    simp
  rw [e0] at t4
  refine ⟨h4, m4, ?_, ?_, fun k hk => (u4 k hk).trans ((u3 k hk).trans ((u2 k hk).trans (u1 k hk))), ((s1.trans s2).trans s3).trans s4⟩
  · refine mE.sn 2 (g' := (3, [some (.ref 78), some (.int n), some (.int 24)], [], (h, K))) rfl ?_
    refine hd 24 h _ (by decide) (k1 _ ?_)
    rw [show (24 : Int32) + (-8) = 16 by decide]
    refine hd 16 h1 _ (by decide) (k2 _ ?_)
    rw [show (16 : Int32) + (-8) = 8 by decide]
    refine hd 8 h2 _ (by decide) (k3 _ ?_)
    rw [show (8 : Int32) + (-8) = 0 by decide]
    refine hd 0 h3 _ (by decide) (k4 _ ?_)
    refine mE.sn 1 (g' := (4, [some (.ref 78), some (.int n), some (.int (0 + (-8)))], [.int (0 + (-8))], (h4, K))) rfl ?_
    refine mE.yes (g1 := (39, [some (.ref 78), some (.int n), some (.int (0 + (-8)))], [], (h4, K))) (g2 := (7, [some (.ref 78), some (.int n), some (.int (0 + (-8)))], [], (h4, K))) (c := (0 : Int32) + (-8) < 0) rfl (by decide) ?_
    exact m_ev.fin rfl
  · rw [show vs ++ by4 n = vs ++ [(n >>> (24 &&& 31)) &&& 255] ++ [(n >>> (16 &&& 31)) &&& 255] ++ [(n >>> (8 &&& 31)) &&& 255] ++ [n &&& 255] by simp [by4]]
    exact t4
end Feed104
