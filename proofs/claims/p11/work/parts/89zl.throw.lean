/-! Methods that may throw. -/
section Thr105
variable {d : Nat} {M : mM} {pc : Nat} {ml : mL} {st rest : List Value} {h : mH} {q : Nat × Nat} {P : Outcome → mS → Prop} {S S' : SS}
/-- a method came back (t = 0), or threw a thing of kind t - 1 -/
def mX (q : Nat × Nat) (S : SS) (t : Nat) (v : Option Value) : Outcome → mS → Prop := fun o T => cs T.1 S ∧ ((t = 0 ∧ o = .returned v ∧ T.2 = q) ∨ ∃ k x, t = k + 1 ∧ o = .threw x ∧ T.1[x]? = some (k, []) ∧ T.2 = (q.1 - 1, q.2 - 6))
theorem sW.finX {g : mG} {v : Option Value} (hs : cs h S') (e : m_turn 41 mp_FL mp_PG (fun _ _ _ => none) d M g = some (.returned v, (h, q))) : mW d M g (mX q S' 0 v) := mW.fin e ⟨hs, Or.inl ⟨rfl, rfl, rfl⟩⟩
theorem sW.thr {len a k' idx : Nat} {v : Option Value} (hc : M.2.2.2.2.2[pc]? = some (some (.new idx, len, a, 6, k' + 1))) (hh : M.2.2.2.2.1 = []) (hs : cs h S) (hK : 1 ≤ q.1 ∧ 6 ≤ q.2) (hd : 8 ≤ d) (hst : (st.map fun v => v.category).sum ≤ 8) : mW d M (pc, ml, st, (h, q)) (mX q S (a + 1) v) := by
  refine mW.thr hc hh hK hd hst ⟨hs.app _, Or.inr ⟨a, h.length, rfl, rfl, ?_, rfl⟩⟩
  show (h ++ [(a, [])])[h.length]? = _
  rw [List.getElem?_append_right (Nat.le_refl _), Nat.sub_self]
  rfl
theorem sW.callX0 {M' : mM} {a b k len t : Nat} {i : ClassFile.Instr} {v : Option Value} (hc : M.2.2.2.2.2[pc]? = some (some (i, len, a, b, k))) (hi : m_isC i a = true) (hM : mp_PG[a]? = some M') (h1 : m_okB M' b st = true) (h2 : m_rcv k (st.take b).reverse h = true) (hcal : mW d M' (0, m_ent (st.take b).reverse M'.2.2.1, [], (h, q)) (mX q S' t v))
    (ht : t = 0) (kk : ∀ h', cs h' S' → mW (d + 1) M (pc + 3, ml, v.toList ++ st.drop b, (h', q)) P) : mW (d + 1) M (pc, ml, st, (h, q)) P := by
  refine mW.call hc hi hM h1 h2 hcal fun o T p => ?_
  obtain ⟨h', q'⟩ := T
  obtain ⟨p1, ⟨_, p2, p3⟩ | ⟨k', x, p2, _⟩⟩ := p
  · cases p3
    exact Or.inl ⟨v, p2, kk h' p1⟩
  · exact absurd (ht.symm.trans p2) (by omega)
theorem sW.callXT {M' : mM} {a b k len t : Nat} {i : ClassFile.Instr} {v w : Option Value} (hc : M.2.2.2.2.2[pc]? = some (some (i, len, a, b, k))) (hi : m_isC i a = true) (hM : mp_PG[a]? = some M') (h1 : m_okB M' b st = true) (h2 : m_rcv k (st.take b).reverse h = true) (hh : M.2.2.2.2.1 = []) (hcal : mW d M' (0, m_ent (st.take b).reverse M'.2.2.1, [], (h, q)) (mX q S' t v))
    (ht : ¬ t = 0) : mW (d + 1) M (pc, ml, st, (h, q)) (mX q S' t w) := by
  refine mW.call hc hi hM h1 h2 hcal fun o T p => ?_
  obtain ⟨p1, ⟨p2, _⟩ | ⟨k', x, p2, p3, p4, p5⟩⟩ := p
  · exact absurd p2 ht
  · exact Or.inr ⟨x, k', [], p3, p4, Or.inl ⟨hh, p1, Or.inr ⟨k', x, p2, rfl, p4, p5⟩⟩⟩
end Thr105
