/-! The reference's tape: four bytes put. -/
section Feed103
variable {d : Nat} {h : mH} {K : Nat × Nat} {ms : List Value} {vs : List Int32}
/-- the reference's tape -/
def rt (h : mH) (ms : List Value) (vs : List Int32) : Prop := mdl h ms ∧ ms[1]? = some (.int (Int32.ofNat vs.length)) ∧ ms[5]? = some (.ref 79) ∧ vs.length ≤ 4096 ∧ ∃ tail : List Value, h[79]? = some (1001, vs.map Value.int ++ tail) ∧ vs.length + tail.length = 4096
theorem x161s (t : rt h ms vs) (hl : vs.length < 4096) (n p : Int32) : ∃ h' ms', rt h' ms' (vs ++ [(n >>> (p &&& 31)) &&& 255]) ∧ (∀ k, k ≠ 1 → ms'[k]? = ms[k]?) ∧ sm [78, 79] h h' ∧ ∀ r, mE d mm161 (3, [some (.ref 78), some (.int n), some (.int (p + (-8)))], [], (h', K)) r → mE d mm161 (7, [some (.ref 78), some (.int n), some (.int p)], [], (h, K)) r := by
  obtain ⟨t1, t2, t3, t4, tail, t5, t6⟩ := t
  obtain ⟨v, tail', rfl⟩ : ∃ v tail', tail = v :: tail' := by
    cases tail with
    | nil => simp only [List.length_nil] at t6; omega
    | cons v r => exact ⟨v, r, rfl⟩
  have hnn : (Int32.ofNat vs.length).toNatClampNeg = vs.length := by
    rw [i_nat, i_of (by omega)]
    omega
  have hn0 : ¬ Int32.ofNat vs.length < 0 := by
    rw [i_lt, i_of (by omega)]
    have : (0 : Int32).toInt = 0 := rfl
    omega
  have e1 : (vs.map Value.int ++ v :: tail').set vs.length (.int ((n >>> (p &&& 31)) &&& 255)) = (vs ++ [(n >>> (p &&& 31)) &&& 255]).map Value.int ++ tail' := by
    rw [List.set_append_right _ _ (by rw [List.length_map]; exact Nat.le_refl _), List.length_map, Nat.sub_self, List.set_cons_zero, List.map_append, List.append_assoc]
    rfl
  have c1 : mdl (h.set 79 (1001, (vs ++ [(n >>> (p &&& 31)) &&& 255]).map Value.int ++ tail')) ms := ⟨by rw [List.getElem?_set_ne (by decide)]; exact t1.1, t1.2⟩
  have el : Int32.ofNat vs.length + 1 = Int32.ofNat (vs ++ [(n >>> (p &&& 31)) &&& 255]).length := by
    rw [List.length_append]
    exact (Int32.ofNat_add vs.length 1).symm
  refine ⟨_, ms.set 1 (.int (Int32.ofNat vs.length + 1)), ⟨c1.set, ?_, ?_, ?_, tail', ?_, ?_⟩, fun k hk => List.getElem?_set_ne (fun e => hk e.symm), (sm.set (A := [78, 79]) (by simp)).trans (sm.set (by simp)), fun r k => ?_⟩
  · rw [List.getElem?_set_self (by rw [t1.2]; decide), el]
  · rw [List.getElem?_set_ne (by decide)]
    exact t3
  · rw [List.length_append]
    exact hl
  · rw [List.getElem?_set_ne (by decide), m_at_set t5]
  · rw [List.length_append]
    simp only [List.length_cons, List.length_nil] at t6 ⊢
    omega
  · refine mE.sn 1 (g' := (8, [some (.ref 78), some (.int n), some (.int p)], [.ref 78], (h, K))) rfl ?_
    refine mE.get rfl t1.1 t3 ?_
    refine mE.sn 1 (g' := (12, [some (.ref 78), some (.int n), some (.int p)], [.ref 78, .ref 79], (h, K))) rfl ?_
    refine mE.get rfl t1.1 t2 ?_
    refine mE.sn 5 (g' := (22, [some (.ref 78), some (.int n), some (.int p)], [.int ((n >>> (p &&& 31)) &&& 255), .int (Int32.ofNat vs.length), .ref 79], (h, K))) rfl ?_
    refine mE.iast rfl t5 (by decide) hn0 (by rw [hnn, List.length_append, List.length_map]; simp) ?_
    rw [hnn, e1]
    refine mE.sn 2 (g' := (25, [some (.ref 78), some (.int n), some (.int p)], [.ref 78, .ref 78], (h.set 79 (1001, (vs ++ [(n >>> (p &&& 31)) &&& 255]).map Value.int ++ tail'), K))) rfl ?_
    refine mE.get rfl c1.1 t2 ?_
    refine mE.sn 2 (g' := (30, [some (.ref 78), some (.int n), some (.int p)], [.int (Int32.ofNat vs.length + 1), .ref 78], (h.set 79 (1001, (vs ++ [(n >>> (p &&& 31)) &&& 255]).map Value.int ++ tail'), K))) rfl ?_
    refine mE.put rfl c1.1 (by decide) (by rw [t1.2]; rfl) rfl ?_
    exact mE.sn 2 (g' := (3, [some (.ref 78), some (.int n), some (.int (p + (-8)))], [], ((h.set 79 (1001, (vs ++ [(n >>> (p &&& 31)) &&& 255]).map Value.int ++ tail')).set 78 (13, ms.set 1 (.int (Int32.ofNat vs.length + 1))), K))) rfl k
end Feed103
