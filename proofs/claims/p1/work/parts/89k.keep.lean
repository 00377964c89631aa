/-! PRINTED BY wip/whole/t97.py: Text.keepFirst. -/
section Keep97
variable {d : Nat} {h : mH} {q : Nat × Nat} {o w : Nat} {us : List Int32} {ov : Int32}
theorem i_clamp (n : Int32) {l : Nat} (hl : l ≤ 4096) : imax 0 (imin n (Int32.ofNat l)) = Int32.ofNat (min n.toNatClampNeg l) := by
  have h0 : (0 : Int32).toInt = 0 := rfl
  have hm : min n.toNatClampNeg l ≤ l := Nat.min_le_right _ _
  apply Int32.toInt_inj.mp
  rw [i_of (by omega), i_nat]
  unfold imax imin
  by_cases h1 : Int32.ofNat l < n
  · rw [if_pos h1]
    rw [i_lt, i_of (by omega)] at h1
    by_cases h2 : 0 < Int32.ofNat l
    · rw [if_pos h2, i_of (by omega)]
      omega
    · rw [if_neg h2]
      rw [i_lt, i_of (by omega)] at h2
      omega
  · rw [if_neg h1]
    rw [i_lt, i_of (by omega)] at h1
    by_cases h2 : 0 < n
    · rw [if_pos h2]
      rw [i_lt] at h2
      omega
    · rw [if_neg h2]
      rw [i_lt] at h2
      omega
/-- Text.keepFirst -/
theorem x28 (t : tx h o w us ov) (n : Int32) : ∃ h', mE (d + 1) mm28 (0, [some (.ref o), some (.int n)], [], (h, q)) (.returned none, (h', q)) ∧ tx h' o w (us.take n.toNatClampNeg) ov ∧ sm [o] h h' := by
  obtain ⟨t1, t2, t3, t4, t5, tail, t6, t7⟩ := id t
  have e1 : imax 0 (imin n (Int32.ofNat us.length)) = Int32.ofNat (us.take n.toNatClampNeg).length := by rw [i_clamp n t4, List.length_take]
  have s : sm [o] h (h.set o (4, [.ref w, .int (Int32.ofNat (us.take n.toNatClampNeg).length), .int ov])) := sm.set List.mem_cons_self
  refine ⟨_, ?_, ⟨t1, t2, m_at_set t3, ?_, fun u hu => t5 u (List.mem_of_mem_take hu), (us.drop n.toNatClampNeg).map m_by ++ tail, ?_, ?_⟩, s⟩
  · refine mE.sn 4 (g' := (4, [some (.ref o), some (.int n)], [.ref o, .int n, .int 0, .ref o], (h, q))) rfl ?_
    refine mE.get rfl t3 rfl ?_
    refine mE.call rfl rfl rfl rfl rfl (x29 _ _) ?_
    refine mE.call rfl rfl rfl rfl rfl (x30 _ _) ?_
    show mE _ _ (13, [some (.ref o), some (.int n)], [.int (imax 0 (imin n (Int32.ofNat us.length))), .ref o], (h, q)) _
    rw [e1]
    refine mE.put rfl t3 t1 rfl rfl ?_
    exact m_ev.fin rfl
  · rw [List.length_take]
    omega
  · rw [s.2 w (by simpa using t.ne), t6, ← List.append_assoc, ← List.map_append, List.take_append_drop]
  · rw [List.length_append, List.length_map, List.length_take, List.length_drop]
    omega
end Keep97
