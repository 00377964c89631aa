/-! The call feed: the reference's side. -/
section Feed105
variable {d : Nat} {h : mH} {K : Nat × Nat} {ms : List Value} {vs : List Int32}
theorem rt.set0 {v : Value} (t : rt h ms vs) : rt (h.set 78 (13, ms.set 0 v)) (ms.set 0 v) vs := by
  obtain ⟨t1, t2, t3, t4, tail, t5, t6⟩ := t
  exact ⟨t1.set, by rw [List.getElem?_set_ne (by decide)]; exact t2, by rw [List.getElem?_set_ne (by decide)]; exact t3, t4, tail, by rw [List.getElem?_set_ne (by decide)]; exact t5, t6⟩
/-- StepBenchModel.feed -/
theorem x159 (t : rt h ms vs) (n1 n2 n3 n4 n5 : Int32) : mW (d + 1) mm159 (0, [some (.ref 78), some (.int n1), some (.int n2), some (.int n3), some (.int n4), some (.int n5)], [], (h, K)) (fun o S' =>
    (4096 < vs.length + 20 ∧ o = .returned (some (.int 0)) ∧ ∃ h', S' = (h', K) ∧ rt h' (ms.set 0 (.int 1)) vs ∧ sm [78, 79] h h') ∨
    (vs.length + 20 ≤ 4096 ∧ o = .returned (some (.int (Int32.ofNat (vs.length + 20)))) ∧ ∃ h' ms', S' = (h', K) ∧ rt h' ms' (vs ++ by4 n1 ++ by4 n2 ++ by4 n3 ++ by4 n4 ++ by4 n5) ∧ ms'[0]? = some (.int 0) ∧ (∀ k, k ≠ 0 → k ≠ 1 → ms'[k]? = ms[k]?) ∧ sm [78, 79] h h')) := by
  have e20 : Int32.ofNat vs.length + 20 = Int32.ofNat (vs.length + 20) := (Int32.ofNat_add vs.length 20).symm
  have hu := t.2.2.2.1
  have t0 : rt (h.set 78 (13, ms.set 0 (.int 0))) (ms.set 0 (.int 0)) vs := t.set0
  have s0 : sm [78, 79] h (h.set 78 (13, ms.set 0 (.int 0))) := sm.set (by simp)
  refine mW.sn 2 (g' := (2, [some (.ref 78), some (.int n1), some (.int n2), some (.int n3), some (.int n4), some (.int n5)], [.int 0, .ref 78], (h, K))) rfl ?_
  refine mW.put rfl t.1.1 (by decide) (by rw [t.1.2]; rfl) rfl ?_
  refine mW.sn 1 (g' := (6, [some (.ref 78), some (.int n1), some (.int n2), some (.int n3), some (.int n4), some (.int n5)], [.ref 78], (h.set 78 (13, ms.set 0 (.int 0)), K))) rfl ?_
  refine mW.get rfl t0.1.1 t0.2.1 ?_
  refine mW.sn 3 (g' := (15, [some (.ref 78), some (.int n1), some (.int n2), some (.int n3), some (.int n4), some (.int n5)], [.int 4096, .int (Int32.ofNat vs.length + 20)], (h.set 78 (13, ms.set 0 (.int 0)), K))) rfl ?_
  refine mW.br (g1 := (24, [some (.ref 78), some (.int n1), some (.int n2), some (.int n3), some (.int n4), some (.int n5)], [], (h.set 78 (13, ms.set 0 (.int 0)), K))) (g2 := (18, [some (.ref 78), some (.int n1), some (.int n2), some (.int n3), some (.int n4), some (.int n5)], [], (h.set 78 (13, ms.set 0 (.int 0)), K))) (c := Int32.ofNat vs.length + 20 ≤ 4096) rfl (fun hl => ?_) (fun hl => ?_)
  · have hl' : vs.length + 20 ≤ 4096 := by
      rw [e20, i_le, i_of (by omega)] at hl
      have : (4096 : Int32).toInt = 4096 := rfl
      omega
    obtain ⟨h1, m1, a1, t1, u1, s1⟩ := x161 (d := d) (K := K) t0 (by first | omega | (simp only [List.length_append, by4_len]; omega)) n1
    obtain ⟨h2, m2, a2, t2, u2, s2⟩ := x161 (d := d) (K := K) t1 (by first | omega | (simp only [List.length_append, by4_len]; omega)) n2
    obtain ⟨h3, m3, a3, t3, u3, s3⟩ := x161 (d := d) (K := K) t2 (by first | omega | (simp only [List.length_append, by4_len]; omega)) n3
    obtain ⟨h4, m4, a4, t4, u4, s4⟩ := x161 (d := d) (K := K) t3 (by first | omega | (simp only [List.length_append, by4_len]; omega)) n4
    obtain ⟨h5, m5, a5, t5, u5, s5⟩ := x161 (d := d) (K := K) t4 (by first | omega | (simp only [List.length_append, by4_len]; omega)) n5
    refine mW.sn 2 (g' := (26, [some (.ref 78), some (.int n1), some (.int n2), some (.int n3), some (.int n4), some (.int n5)], [.int n1, .ref 78], ((h.set 78 (13, ms.set 0 (.int 0))), K))) rfl ?_
    refine mW.callE rfl rfl rfl rfl (m_rcv_ok t0.1.1) a1 ?_
    refine mW.sn 2 (g' := (31, [some (.ref 78), some (.int n1), some (.int n2), some (.int n3), some (.int n4), some (.int n5)], [.int n2, .ref 78], (h1, K))) rfl ?_
    refine mW.callE rfl rfl rfl rfl (m_rcv_ok t1.1.1) a2 ?_
    refine mW.sn 2 (g' := (36, [some (.ref 78), some (.int n1), some (.int n2), some (.int n3), some (.int n4), some (.int n5)], [.int n3, .ref 78], (h2, K))) rfl ?_
    refine mW.callE rfl rfl rfl rfl (m_rcv_ok t2.1.1) a3 ?_
    refine mW.sn 2 (g' := (42, [some (.ref 78), some (.int n1), some (.int n2), some (.int n3), some (.int n4), some (.int n5)], [.int n4, .ref 78], (h3, K))) rfl ?_
    refine mW.callE rfl rfl rfl rfl (m_rcv_ok t3.1.1) a4 ?_
    refine mW.sn 2 (g' := (48, [some (.ref 78), some (.int n1), some (.int n2), some (.int n3), some (.int n4), some (.int n5)], [.int n5, .ref 78], (h4, K))) rfl ?_
    refine mW.callE rfl rfl rfl rfl (m_rcv_ok t4.1.1) a5 ?_
    refine mW.sn 1 (g' := (52, [some (.ref 78), some (.int n1), some (.int n2), some (.int n3), some (.int n4), some (.int n5)], [.ref 78], (h5, K))) rfl ?_
    refine mW.get rfl t5.1.1 t5.2.1 ?_
    refine mW.fin rfl (Or.inr ⟨hl', ?_, h5, m5, rfl, t5, ?_, fun k k0 k1 => ?_, ((((s0.trans s1).trans s2).trans s3).trans s4).trans s5⟩)
    · have el : (vs ++ by4 n1 ++ by4 n2 ++ by4 n3 ++ by4 n4 ++ by4 n5).length = vs.length + 20 := by simp only [List.length_append, by4_len]
      rw [el]
      rfl
    · rw [u5 0 (by decide), u4 0 (by decide), u3 0 (by decide), u2 0 (by decide), u1 0 (by decide), List.getElem?_set_self (by rw [t.1.2]; decide)]
    · rw [u5 k k1, u4 k k1, u3 k k1, u2 k k1, u1 k k1, List.getElem?_set_ne (fun e => k0 e.symm)]
  · have hl' : 4096 < vs.length + 20 := by
      rw [e20, i_le, i_of (by omega)] at hl
      have : (4096 : Int32).toInt = 4096 := rfl
      omega
    refine mW.sn 2 (g' := (20, [some (.ref 78), some (.int n1), some (.int n2), some (.int n3), some (.int n4), some (.int n5)], [.int 1, .ref 78], (h.set 78 (13, ms.set 0 (.int 0)), K))) rfl ?_
    refine mW.callE rfl rfl rfl rfl (m_rcv_ok t0.1.1) (x160 t0.1 1) ?_
    have t1 := t0.set0 (v := .int 1)
    refine mW.fin rfl (Or.inl ⟨hl', rfl, _, rfl, ?_, s0.trans (sm.set (by simp))⟩)
    rw [List.set_set (l := ms)] at t1 ⊢
    exact t1
end Feed105
