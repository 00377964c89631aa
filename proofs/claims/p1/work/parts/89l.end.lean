/-! The call end, the class's side: StepBench.end and the law's helper that catches. -/
section End98
theorem mW.callE {d : Nat} {M : mM} {pc : Nat} {ml : mL} {st : List Value} {S : mS} {P : Outcome → mS → Prop} {M' : mM} {a b k len : Nat} {i : ClassFile.Instr} {v : Option Value} {S' : mS} (hc : M.2.2.2.2.2[pc]? = some (some (i, len, a, b, k))) (hi : m_isC i a = true) (hM : mp_PG[a]? = some M') (h1 : m_okB M' b st = true) (h2 : m_rcv k (st.take b).reverse S.1 = true)
    (hcal : mE d M' (0, m_ent (st.take b).reverse M'.2.2.1, [], S) (.returned v, S')) (kk : mW (d + 1) M (pc + 3, ml, v.toList ++ st.drop b, S') P) : mW (d + 1) M (pc, ml, st, S) P := by
  obtain ⟨o, S2, e, p⟩ := kk
  exact ⟨o, S2, mE.call hc hi hM h1 h2 hcal e, p⟩
variable {d : Nat} {h : mH} {K : Nat × Nat} {fs : List Value} {us : List Int32} {ov : Int32}
/-- is the number refused? -/
def e_bad (us : List Int32) (n : Int32) : Prop := n < 0 ∨ ¬ n ≤ Int32.ofNat us.length
/-- StepBench.end -/
theorem x27 (c : h[41]? = some (5, fs)) (hf : fs[0]? = some (.ref 42)) (t : tx h 42 43 us ov) (n : Int32) (hK : 1 ≤ K.1 ∧ 6 ≤ K.2) : mW (d + 8) mm27 (0, [some (.ref 41), some (.int n)], [], (h, K)) (fun o S' =>
    (e_bad us n ∧ o = .threw h.length ∧ S' = (h ++ [(1, [])], K.1 - 1, K.2 - 6)) ∨ (¬ e_bad us n ∧ o = .returned (some (.int n)) ∧ ∃ h', S' = (h', K) ∧ tx h' 42 43 (us.take n.toNatClampNeg) ov ∧ sm [42] h h')) := by
  refine mW.sn 1 (g' := (1, [some (.ref 41), some (.int n)], [.int n], (h, K))) rfl ?_
  refine mW.br (g1 := (15, [some (.ref 41), some (.int n)], [], (h, K))) (g2 := (4, [some (.ref 41), some (.int n)], [], (h, K))) (c := n < 0) rfl (fun hn => ?_) (fun hn => ?_)
  · exact mW.thr rfl rfl hK (by omega) (by decide) (Or.inl ⟨Or.inl hn, rfl, rfl⟩)
  · refine mW.sn 2 (g' := (6, [some (.ref 41), some (.int n)], [.ref 41, .int n], (h, K))) rfl ?_
    refine mW.get rfl c hf ?_
    refine mW.callE rfl rfl rfl rfl (m_rcv_ok t.2.2.1) (x24 t) ?_
    refine mW.br (g1 := (23, [some (.ref 41), some (.int n)], [], (h, K))) (g2 := (15, [some (.ref 41), some (.int n)], [], (h, K))) (c := n ≤ Int32.ofNat us.length) rfl (fun hl => ?_) (fun hl => ?_)
    · obtain ⟨h', e, t', s⟩ := x28 (d := d + 6) (q := K) t n
      refine mW.sn 1 (g' := (24, [some (.ref 41), some (.int n)], [.ref 41], (h, K))) rfl ?_
      refine mW.get rfl c hf ?_
      refine mW.sn 1 (g' := (28, [some (.ref 41), some (.int n)], [.int n, .ref 42], (h, K))) rfl ?_
      refine mW.callE rfl rfl rfl rfl (m_rcv_ok t.2.2.1) e ?_
      refine mW.sn 1 (g' := (32, [some (.ref 41), some (.int n)], [.int n], (h', K))) rfl ?_
      exact mW.fin rfl (Or.inr ⟨fun z => z.elim hn (fun z => z hl), rfl, h', rfl, t', s⟩)
    · exact mW.thr rfl rfl hK (by omega) (by decide) (Or.inl ⟨Or.inr hl, rfl, rfl⟩)
/-- the law's end -/
theorem x26 (c : h[41]? = some (5, fs)) (hf : fs[0]? = some (.ref 42)) (t : tx h 42 43 us ov) (n : Int32) (hK : 1 ≤ K.1 ∧ 6 ≤ K.2) {y : Int64} (c2 : h[101]? = some (1002, [.long y])) : mW (d + 9) mm26 (0, [some (.ref 41), some (.int n), some (.ref 101), none], [], (h, K)) (fun o S' =>
    (e_bad us n ∧ o = .returned (some (.int 1)) ∧ S' = (h ++ [(1, [])], K.1 - 1, K.2 - 6)) ∨ (¬ e_bad us n ∧ o = .returned (some (.int 0)) ∧ ∃ h', S' = (h', K) ∧ tx h' 42 43 (us.take n.toNatClampNeg) ov ∧ h'[101]? = some (1002, [.long n.toInt64]) ∧ sm [42, 101] h h')) := by
  refine mW.sn 4 (g' := (4, [some (.ref 41), some (.int n), some (.ref 101), none], [.int n, .ref 41, .int 0, .ref 101], (h, K))) rfl ?_
  refine mW.call rfl rfl rfl rfl (m_rcv_ok c) (x27 (d := d) c hf t n hK) ?_
  intro o S' q
  rcases q with ⟨hb, rfl, rfl⟩ | ⟨hb, rfl, h', rfl, t', s⟩
  · refine Or.inr ⟨h.length, 1, [], rfl, ?_, Or.inr ⟨12, by decide, rfl, rfl, ?_⟩⟩
    · show (h ++ [(1, [])])[h.length]? = _
      rw [List.getElem?_append_right (Nat.le_refl _), Nat.sub_self]
      rfl
    · refine mW.sn 2 (g' := (14, [some (.ref 41), some (.int n), some (.ref 101), some (.ref h.length)], [.int 1], (h ++ [(1, [])], K.1 - 1, K.2 - 6))) rfl ?_
      exact mW.fin rfl (Or.inl ⟨hb, rfl, rfl⟩)
  · refine Or.inl ⟨_, rfl, ?_⟩
    have c3 : h'[101]? = some (1002, [.long y]) := by
      rw [s.2 101 (by decide)]
      exact c2
    refine mW.sn 1 (g' := (8, [some (.ref 41), some (.int n), some (.ref 101), none], [.long n.toInt64, .int 0, .ref 101], (h', K))) rfl ?_
    refine mW.last rfl c3 (by decide) (by decide) (show (0 : Int32).toNatClampNeg < 1 by decide) ?_
    have s2 : sm [42, 101] h (h'.set 101 (1002, [.long n.toInt64])) := by
      refine sm.trans (h1 := h') ⟨s.1, fun k hk => s.2 k (fun z => hk (by simp at z ⊢; exact Or.inl z))⟩ (sm.set (by simp))
    refine mW.sn 2 (g' := (16, [some (.ref 41), some (.int n), some (.ref 101), none], [.int 0], (h'.set 101 (1002, [.long n.toInt64]), K))) rfl ?_
    refine mW.fin rfl (Or.inr ⟨hb, rfl, _, rfl, t'.moved (A := [101]) (sm.set (by simp)) (by decide) (by decide), m_at_set c3, s2⟩)
end End98
