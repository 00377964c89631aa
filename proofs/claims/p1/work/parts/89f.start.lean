/-! PRINTED BY wip/whole/t93.py: the two constructors, run by the kernel; the law up to its loop. -/
section Start93
/-- the heap at the start, but for the script -/
def mp_ht : mH := m_hs 0 mp_st ++ [(1001, mp_aS.map Value.int), (1001, mp_aE.map Value.int)]
/-- what stands there behind the constructors: objects; arrays (place, kind, length, first elements) -/
def mp_ce : List (Nat × mC) := [(41, 5, [.ref 42, .ref 44, .ref 46, .ref 68, .ref 47, .ref 67, .ref 69, .ref 72, .ref 75, .ref 49, .int (-1), .int 0]), (42, 4, [.ref 43, .int 0, .int 0]), (44, 4, [.ref 45, .int 0, .int 0]), (46, 1003, [.ref 51, .ref 53, .ref 55, .ref 57, .ref 59, .ref 61, .ref 63, .ref 65]), (47, 6, [.ref 48, .int 0]), (49, 4, [.ref 50, .int 0, .int 0]), (51, 4, [.ref 52, .int 4, .int 0]), (53, 4, [.ref 54, .int 4, .int 0]), (55, 4, [.ref 56, .int 4, .int 0]), (57, 4, [.ref 58, .int 4, .int 0]), (59, 4, [.ref 60, .int 4, .int 0]), (61, 4, [.ref 62, .int 4, .int 0]), (63, 4, [.ref 64, .int 4, .int 0]), (65, 4, [.ref 66, .int 4, .int 0]), (67, 7, [.ref 49, .int 0, .int 0, .int 0, .int 0, .int 0]), (68, 8, [.ref 42, .ref 49, .int 0, .int 0]), (69, 9, [.ref 67, .ref 70, .ref 71, .int 0, .ref 49, .ref 49, .int 0, .int 0, .int 0]), (70, 10, [.int 0, .int 0, .int 0, .int 0]), (72, 11, [.ref 67, .ref 47, .ref 73, .ref 74, .int 0, .int 0]), (73, 10, [.int 0, .int 0, .int 0, .int 0]), (75, 12, [.ref 76, .ref 77, .ref 49, .ref 49]), (78, 13, [.int 0, .int 0, .int 0, .int (-1), .int 0, .ref 79, .ref 80, .ref 81, .ref 90, .ref 92, .ref 94, .ref 96, .int 0, .ref 97, .ref 98, .ref 99, .ref 100, .int 0, .int 0, .null, .null, .int 0]), (81, 1004, [.ref 82, .ref 83, .ref 84, .ref 85, .ref 86, .ref 87, .ref 88, .ref 89]), (90, 16, [.ref 91, .int 0, .int 0]), (92, 15, [.ref 93, .int 0, .int 0]), (94, 15, [.ref 95, .int 0, .int 0]), (96, 14, [.null, .int 0, .int 0, .int 0, .null])]
def mp_ar : List (Nat × Nat × Nat × List Value) := [(43, 1000, 4096, []), (45, 1000, 4096, []), (48, 1001, 2048, []), (50, 1000, 4096, []), (52, 1000, 4096, [.int 110, .int 117, .int 108, .int 108]), (54, 1000, 4096, [.int 110, .int 117, .int 108, .int 108]), (56, 1000, 4096, [.int 110, .int 117, .int 108, .int 108]), (58, 1000, 4096, [.int 110, .int 117, .int 108, .int 108]), (60, 1000, 4096, [.int 110, .int 117, .int 108, .int 108]), (62, 1000, 4096, [.int 110, .int 117, .int 108, .int 108]), (64, 1000, 4096, [.int 110, .int 117, .int 108, .int 108]), (66, 1000, 4096, [.int 110, .int 117, .int 108, .int 108]), (71, 1000, 100, []), (74, 1001, 100, []), (76, 1001, 60, []), (77, 1001, 60, []), (79, 1001, 4096, []), (80, 1001, 9000, []), (82, 1001, 9000, [.int 0, .int 2]), (83, 1001, 9000, [.int 0, .int 2]), (84, 1001, 9000, [.int 0, .int 2]), (85, 1001, 9000, [.int 0, .int 2]), (86, 1001, 9000, [.int 0, .int 2]), (87, 1001, 9000, [.int 0, .int 2]), (88, 1001, 9000, [.int 0, .int 2]), (89, 1001, 9000, [.int 0, .int 2]), (91, 1001, 9000, []), (93, 1001, 4096, []), (95, 1001, 4096, []), (97, 1001, 4200, []), (98, 1001, 9000, []), (99, 1001, 64, []), (100, 1001, 64, [])]
/-- an int -/
def m_isI : Value → Bool
  | .int _ => true
  | _ => false
def m_sq (h : mH) : Bool := h.length == 101 && (decide (h.take 41 = m_bl :: mp_ht) && (mp_ce.all (fun q => decide (h[q.1]? = some q.2)) && mp_ar.all (fun q => match h[q.1]? with
  | some (t', vs) => t' == q.2.1 && (vs.length == q.2.2.1 && (decide (vs.take q.2.2.2.length = q.2.2.2) && vs.all m_isI))
  | none => false)))
noncomputable def m_c1 : mR := m_run 41 mp_FL mp_PG 20000 1999 mm0 (0, m_ent [.ref 41] mm0.2.2.1, [], (m_bl :: mp_ht ++ [(5, mp_FL 5)], 600001, 7302220))
noncomputable def m_c2 (h : mH) (K : Nat × Nat) : mR := m_run 41 mp_FL mp_PG 20000 1999 mm222 (0, m_ent [.ref 78] mm222.2.2.1, [], (h ++ [(13, mp_FL 13)], K.1 - 1, K.2 - 22))
theorem m_c12 : (match m_c1 with
  | some (.returned none, (h, K)) => h.length == 78 && (decide (K = (599965, 7254716)) && (match m_c2 h K with
    | some (.returned none, (h2, K2)) => m_sq h2 && decide (K2 = (599942, 7139056))
    | _ => false))
  | _ => false) = true := by decide +kernel
theorem mp_cear : (mp_ce.all fun q => decide (41 ≤ q.1 ∧ q.1 < 101)) = true ∧ (mp_ar.all fun q => decide (41 ≤ q.1 ∧ q.1 < 101)) = true := by decide +kernel
/-- the heap at the law's loop, before the first call -/
def m_s2 (xs : List Int32) (h : mH) : Prop := h.length = 102 ∧ h.take 41 = mp_h0 xs ∧ h[101]? = some (1002, [.long 0]) ∧ (∀ q ∈ mp_ce, h[q.1]? = some q.2) ∧ ∀ q ∈ mp_ar, ∃ vs, h[q.1]? = some (q.2.1, vs) ∧ vs.length = q.2.2.1 ∧ vs.take q.2.2.2.length = q.2.2.2 ∧ vs.all m_isI = true
theorem mb_ctors : ∃ (h1 h2 : mH), m_run 41 mp_FL mp_PG 20000 1999 mm0 (0, m_ent [.ref 41] mm0.2.2.1, [], (m_bl :: mp_ht ++ [(5, mp_FL 5)], 600001, 7302220)) = some (.returned none, (h1, 599965, 7254716)) ∧ h1.length = 78 ∧
    m_run 41 mp_FL mp_PG 20000 1999 mm222 (0, m_ent [.ref 78] mm222.2.2.1, [], (h1 ++ [(13, mp_FL 13)], 599965 - 1, 7254716 - 22)) = some (.returned none, (h2, 599942, 7139056)) ∧ m_sq h2 = true := by
  have h := m_c12
  split at h
  · next h1 K e1 =>
    simp only [Bool.and_eq_true, beq_iff_eq, decide_eq_true_eq] at h
    obtain ⟨g1, rfl, g3⟩ := h
    split at g3
    · next h2 K2 e2 =>
      simp only [Bool.and_eq_true, decide_eq_true_eq] at g3
      obtain ⟨g4, rfl⟩ := g3
      exact ⟨h1, h2, e1, g1, e2, g4⟩
    · cases g3
  · cases h
/-- the law up to its loop -/
theorem mb_head2 (xs : List Int32) : ∃ h : mH, m_s2 xs h ∧ ∀ r : Outcome × mS, mE 2000 mm254 (23, [some (.ref 0), some (.ref 41), some (.ref 78), some (.ref 101), some (.int 0), none, none, none], [], (h, 599941, 7139055)) r → mE 2000 mm254 (0, m_ent [.ref 0] 8, [], (mp_h0 xs, 600002, 7302232)) r := by
  obtain ⟨h1, h2, e1, l1, e2, hs⟩ := mb_ctors
  have hT : ∀ {h : mH} {l : List mC}, h[0]? = some m_bl → (h ++ l)[0]? = some m_bl := fun hb => (bl_app (c := m_bl) hb).2.1
  obtain ⟨b1, c1⟩ := mE.blank (1001, xs.map Value.int) (List.mem_of_getElem? (i := 0) rfl) rfl e1
  obtain ⟨b2, c2⟩ := mE.blank (1001, xs.map Value.int) (List.mem_of_getElem? (i := 222) rfl) (hT b1) e2
  rw [(bl_app b1).1] at c2
  have l1' : (h1.set 0 (1001, xs.map Value.int)).length = 78 := by rw [List.length_set]; exact l1
  simp only [m_sq, Bool.and_eq_true, beq_iff_eq, decide_eq_true_eq] at hs
  obtain ⟨l2, hs1, hs2, hs3⟩ := hs
  have l2' : (h2.set 0 (1001, xs.map Value.int)).length = 101 := by rw [List.length_set]; exact l2
  refine ⟨h2.set 0 (1001, xs.map Value.int) ++ [(1002, [.long 0])], ?_, fun r hk => ?_⟩
  rotate_left
  refine mE.sn 2 (g' := (4, [some (.ref 0), none, none, none, none, none, none, none], [.ref 41, .ref 41], (mp_h0 xs ++ [(5, mp_FL 5)], 600001, 7302220))) ?_ ?_
  · have : (mp_h0 xs).length = 41 := mb_h0_len
    simp only [m_sn, m_s1]
    rw [show mm254.2.2.2.2.2[0]? = some (some (.new 8, 3, 5, 12, 0)) from rfl]
    simp only [m_new, m_mk, if_true]
    rw [this]
    rfl
  refine mE.call rfl rfl rfl rfl (m_rcv_ok (fs := mp_FL 5) ?_) c1 ?_
  · have : (mp_h0 xs).length = 41 := mb_h0_len
    show (mp_h0 xs ++ [(5, mp_FL 5)])[41]? = _
    rw [List.getElem?_append_right (by omega), this]
    rfl
  refine mE.sn 3 (g' := (12, [some (.ref 0), some (.ref 41), none, none, none, none, none, none], [.ref 78, .ref 78], (h1.set 0 (1001, xs.map Value.int) ++ [(13, mp_FL 13)], 599965 - 1, 7254716 - 22))) ?_ ?_
  · show m_sn 41 mp_FL mm254 3 (7, [some (.ref 0), none, none, none, none, none, none, none], [.ref 41], (h1.set 0 (1001, xs.map Value.int), 599965, 7254716)) = _
    rw [show m_sn 41 mp_FL mm254 3 (7, [some (.ref 0), none, none, none, none, none, none, none], [.ref 41], (h1.set 0 (1001, xs.map Value.int), 599965, 7254716)) = m_sn 41 mp_FL mm254 2 (8, [some (.ref 0), some (.ref 41), none, none, none, none, none, none], [], (h1.set 0 (1001, xs.map Value.int), 599965, 7254716)) from rfl]
    simp only [m_sn, m_s1]
    rw [show mm254.2.2.2.2.2[8]? = some (some (.new 58, 3, 13, 22, 0)) from rfl]
    simp only [m_new, m_mk, if_true]
    rw [l1']
    rfl
  refine mE.call rfl rfl rfl rfl (m_rcv_ok (fs := mp_FL 13) ?_) c2 ?_
  · show (h1.set 0 (1001, xs.map Value.int) ++ [(13, mp_FL 13)])[78]? = _
    rw [List.getElem?_append_right (by omega), l1']
    rfl
  refine mE.sn 6 (g' := (23, [some (.ref 0), some (.ref 41), some (.ref 78), some (.ref 101), some (.int 0), none, none, none], [], (h2.set 0 (1001, xs.map Value.int) ++ [(1002, [.long 0])], 599941, 7139055))) ?_ hk
  · show m_sn 41 mp_FL mm254 6 (15, [some (.ref 0), some (.ref 41), none, none, none, none, none, none], [.ref 78], (h2.set 0 (1001, xs.map Value.int), 599942, 7139056)) = _
    rw [show m_sn 41 mp_FL mm254 6 (15, [some (.ref 0), some (.ref 41), none, none, none, none, none, none], [.ref 78], (h2.set 0 (1001, xs.map Value.int), 599942, 7139056)) = m_sn 41 mp_FL mm254 4 (17, [some (.ref 0), some (.ref 41), some (.ref 78), none, none, none, none, none], [.int 1], (h2.set 0 (1001, xs.map Value.int), 599942, 7139056)) from rfl]
    have e3 : m_s1 41 mp_FL mm254 (17, [some (.ref 0), some (.ref 41), some (.ref 78), none, none, none, none, none], [.int 1], (h2.set 0 (1001, xs.map Value.int), 599942, 7139056)) = some (19, [some (.ref 0), some (.ref 41), some (.ref 78), none, none, none, none, none], [.ref 101], (h2.set 0 (1001, xs.map Value.int) ++ [(1002, [.long 0])], 599941, 7139055)) := by
      simp only [m_s1]
      rw [show mm254.2.2.2.2.2[17]? = some (some (.newarray .long, 2, 0, 0, 0)) from rfl]
      simp only [m_one, m_nwa]
      rw [if_pos (by decide)]
      simp only [m_mk]
      rw [if_pos (by decide), l2']
      rfl
    rw [m_sn, e3]
    rfl
  · have ht : ∀ k, 41 ≤ k → k < 101 → (h2.set 0 (1001, xs.map Value.int) ++ [(1002, [.long 0])])[k]? = h2[k]? := by
      intro k hk1 hk2
      rw [List.getElem?_append_left (by omega), List.getElem?_set_ne (by omega)]
    refine ⟨by rw [List.length_append, l2']; rfl, ?_, ?_, fun q hq => ?_, fun q hq => ?_⟩
    · rw [List.take_append_of_le_length (by omega), List.take_set, hs1]
      rfl
    · rw [List.getElem?_append_right (by omega), l2']
      rfl
    · have := of_decide_eq_true (List.all_eq_true.mp mp_cear.1 q hq)
      rw [ht _ this.1 this.2]
      exact of_decide_eq_true (List.all_eq_true.mp hs2 q hq)
    · have := of_decide_eq_true (List.all_eq_true.mp mp_cear.2 q hq)
      rw [ht _ this.1 this.2]
      have h3 := List.all_eq_true.mp hs3 q hq
      split at h3
      · next t vs e =>
        simp only [Bool.and_eq_true, beq_iff_eq, decide_eq_true_eq] at h3
        obtain ⟨rfl, h4, h5, h6⟩ := h3
        exact ⟨vs, e, h4, h5, h6⟩
      · cases h3
end Start93
