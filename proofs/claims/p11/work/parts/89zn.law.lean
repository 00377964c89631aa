/-! What the law's own helpers need: a thing caught, a long put; putInt, keepFirst. -/
section Law106
variable {d : Nat} {M : mM} {pc : Nat} {ml : mL} {st rest : List Value} {h : mH} {q : Nat × Nat} {P : Outcome → mS → Prop} {S S' : SS} {o : Nat}
/-- a helper came back: its code, the state, what is left -/
def mHp (q : Nat × Nat) (S : SS) (c : Int32) : Outcome → mS → Prop := fun o T => cs T.1 S ∧ o = .returned (some (.int c)) ∧ q.1 ≤ T.2.1 + 1 ∧ q.2 ≤ T.2.2 + 6
theorem sW.callXC {M' : mM} {a b k len t k' hp : Nat} {i : ClassFile.Instr} {v : Option Value} (hc : M.2.2.2.2.2[pc]? = some (some (i, len, a, b, k))) (hi : m_isC i a = true) (hM : mp_PG[a]? = some M') (h1 : m_okB M' b st = true) (h2 : m_rcv k (st.take b).reverse h = true) (hcal : mW d M' (0, m_ent (st.take b).reverse M'.2.2.1, [], (h, q)) (mX q S' t v))
    (ht : t = k' + 1) (hk : k' < 4) (he : M.2.2.2.2.1.isEmpty = false) (hh : m_hnd M.2.2.2.2.1 pc k' = some hp) (kk : ∀ h' x, cs h' S' → mW (d + 1) M (hp, ml, [.ref x], (h', (q.1 - 1, q.2 - 6))) P) : mW (d + 1) M (pc, ml, st, (h, q)) P := by
  refine mW.call hc hi hM h1 h2 hcal fun o T p => ?_
  obtain ⟨h', q'⟩ := T
  obtain ⟨p1, ⟨p2, _⟩ | ⟨k2, x, p2, p3, p4, p5⟩⟩ := p
  · exact absurd (p2.symm.trans ht) (by omega)
  · have e : k2 = k' := by omega
    subst e
    have p6 : q' = (q.1 - 1, q.2 - 6) := p5
    rw [p6]
    exact Or.inr ⟨x, k2, [], p3, p4, Or.inr ⟨hp, hk, he, hh, kk h' x p1⟩⟩
theorem sW.last101 {a b k len : Nat} {y : Int64} (hc : M.2.2.2.2.2[pc]? = some (some (.lastore, len, a, b, k))) (hs : cs h S) (kk : ∀ h', cs h' (up S 101 (lgE y)) → mW d M (pc + 1, ml, rest, (h', q)) P) : mW d M (pc, ml, .long y :: .int 0 :: .ref 101 :: rest, (h, q)) P :=
  mW.last hc hs.2.2.2 (by decide) (by decide) (Nat.zero_lt_one) (kk _ (hs.set101 y))
theorem sW.finC {g : mG} {c : Int32} {q' : Nat × Nat} (hs : cs h S') (e : m_turn 41 mp_FL mp_PG (fun _ _ _ => none) d M g = some (.returned (some (.int c)), (h, q'))) (b1 : q.1 ≤ q'.1 + 1) (b2 : q.2 ≤ q'.2 + 6) : mW d M g (mHp q S' c) := mW.fin e ⟨hs, rfl, b1, b2⟩
def skeep (S : SS) (o : Nat) (n : Int32) : SS := up S o (tV S o :: (tT S o).take n.toNatClampNeg)
theorem s28 {n : Int32} (ho : o ∈ shT) (hs : cs h S) : mW (d + 1) mm28 (0, [some (.ref o), some (.int n)], [], (h, q)) (mQ q (skeep S o n) none) := by
  obtain ⟨h', e, t, s⟩ := x28 (d := d) (q := q) (hs.gtx ho) n
  exact mW.of e ⟨rfl, rfl, hs.updT ho t ⟨s.1, fun k hk => s.2 k (fun z => hk (by simp at z ⊢; exact Or.inl z))⟩ (hs.tb ho)⟩
theorem mW.toE {g : mG} {r : Outcome × mS} (h : mW d M g (fun o T => (o, T) = r)) : mE d M g r := by
  obtain ⟨o, T, e, p⟩ := h
  rw [← p]
  exact e
end Law106
