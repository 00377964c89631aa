/-! The call feed: the law's helper that catches. -/
section Feed102
variable {d : Nat} {h : mH} {K : Nat × Nat} {fs : List Value} {us : List Int32} {ov : Int32}
/-- the law's feed -/
theorem x22 (c : h[41]? = some (5, fs)) (hf : fs[0]? = some (.ref 42)) (t : tx h 42 43 us ov) (n1 n2 n3 n4 n5 : Int32) (hK : 1 ≤ K.1 ∧ 6 ≤ K.2) {y : Int64} (c2 : h[101]? = some (1002, [.long y])) : mW (d + 9) mm22 (0, [some (.ref 41), some (.int n1), some (.int n2), some (.int n3), some (.int n4), some (.int n5), some (.ref 101), none], [], (h, K)) (fun o S' =>
    (4096 < us.length + 20 ∧ o = .returned (some (.int 1)) ∧ S' = (h ++ [(0, [])], K.1 - 1, K.2 - 6)) ∨ (us.length + 20 ≤ 4096 ∧ o = .returned (some (.int 0)) ∧ ∃ h', S' = (h', K) ∧ tx h' 42 43 (us ++ by4 n1 ++ by4 n2 ++ by4 n3 ++ by4 n4 ++ by4 n5) ov ∧ h'[101]? = some (1002, [.long (Int32.ofNat (us.length + 20)).toInt64]) ∧ sm [42, 43, 101] h h')) := by
  refine mW.sn 8 (g' := (11, [some (.ref 41), some (.int n1), some (.int n2), some (.int n3), some (.int n4), some (.int n5), some (.ref 101), none], [.int n5, .int n4, .int n3, .int n2, .int n1, .ref 41, .int 0, .ref 101], (h, K))) rfl ?_
  refine mW.call rfl rfl rfl rfl (m_rcv_ok c) (x23 (d := d) c hf t n1 n2 n3 n4 n5 hK) ?_
  intro o S' q
  rcases q with ⟨hb, rfl, rfl⟩ | ⟨hb, rfl, h', rfl, t', s⟩
  · refine Or.inr ⟨h.length, 0, [], rfl, ?_, Or.inr ⟨19, by decide, rfl, rfl, ?_⟩⟩
    · show (h ++ [(0, [])])[h.length]? = _
      rw [List.getElem?_append_right (Nat.le_refl _), Nat.sub_self]
      rfl
    · refine mW.sn 2 (g' := (22, [some (.ref 41), some (.int n1), some (.int n2), some (.int n3), some (.int n4), some (.int n5), some (.ref 101), some (.ref h.length)], [.int 1], (h ++ [(0, [])], K.1 - 1, K.2 - 6))) rfl ?_
      exact mW.fin rfl (Or.inl ⟨hb, rfl, rfl⟩)
  · refine Or.inl ⟨_, rfl, ?_⟩
    have c3 : h'[101]? = some (1002, [.long y]) := by
      rw [s.2 101 (by decide)]
      exact c2
    refine mW.sn 1 (g' := (15, [some (.ref 41), some (.int n1), some (.int n2), some (.int n3), some (.int n4), some (.int n5), some (.ref 101), none], [.long (Int32.ofNat (us.length + 20)).toInt64, .int 0, .ref 101], (h', K))) rfl ?_
    refine mW.last rfl c3 (by decide) (by decide) (show (0 : Int32).toNatClampNeg < 1 by decide) ?_
    have s2 : sm [42, 43, 101] h (h'.set 101 (1002, [.long (Int32.ofNat (us.length + 20)).toInt64])) := by
      refine sm.trans (h1 := h') ⟨s.1, fun k hk => s.2 k (fun z => hk (by simp at z ⊢; rcases z with z | z <;> simp [z]))⟩ (sm.set (by simp))
    refine mW.sn 2 (g' := (24, [some (.ref 41), some (.int n1), some (.int n2), some (.int n3), some (.int n4), some (.int n5), some (.ref 101), none], [.int 0], (h'.set 101 (1002, [.long (Int32.ofNat (us.length + 20)).toInt64]), K))) rfl ?_
    refine mW.fin rfl (Or.inr ⟨hb, rfl, _, rfl, t'.moved (A := [101]) (sm.set (by simp)) (by decide) (by decide), m_at_set c3, s2⟩)
end Feed102
