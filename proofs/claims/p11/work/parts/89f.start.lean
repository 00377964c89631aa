section
/-! PRINTED BY wip/whole/t93.py: the two constructors, run by the kernel; the law up to its loop. -/
section Start93
/-- the heap at the start, but for the script -/
def mp_ht : mH := m_hs 0 mp_st ++ [(1001, mp_aS.map Value.int), (1001, mp_aE.map Value.int)]
/-- what stands there behind the constructors: objects; arrays (place, kind, length, first elements) -/
def mp_ce : List (Nat × mC) := [(41, 5, [.ref 42, .ref 44, .ref 46, .ref 68, .ref 47, .ref 67, .ref 69, .ref 72, .ref 75, .ref 49, .int (-1), .int 0]), (42, 4, [.ref 43, .int 0, .int 0]), (44, 4, [.ref 45, .int 0, .int 0]), (46, 1003, [.ref 51, .ref 53, .ref 55, .ref 57, .ref 59, .ref 61, .ref 63, .ref 65]), (47, 6, [.ref 48, .int 0]), (49, 4, [.ref 50, .int 0, .int 0]), (51, 4, [.ref 52, .int 4, .int 0]), (53, 4, [.ref 54, .int 4, .int 0]), (55, 4, [.ref 56, .int 4, .int 0]), (57, 4, [.ref 58, .int 4, .int 0]), (59, 4, [.ref 60, .int 4, .int 0]), (61, 4, [.ref 62, .int 4, .int 0]), (63, 4, [.ref 64, .int 4, .int 0]), (65, 4, [.ref 66, .int 4, .int 0]), (67, 7, [.ref 49, .int 0, .int 0, .int 0, .int 0, .int 0]), (68, 8, [.ref 42, .ref 49, .int 0, .int 0]), (69, 9, [.ref 67, .ref 70, .ref 71, .int 0, .ref 49, .ref 49, .int 0, .int 0, .int 0]), (70, 10, [.int 0, .int 0, .int 0, .int 0]), (72, 11, [.ref 67, .ref 47, .ref 73, .ref 74, .int 0, .int 0]), (73, 10, [.int 0, .int 0, .int 0, .int 0]), (75, 12, [.ref 76, .ref 77, .ref 49, .ref 49]), (78, 13, [.int 0, .int 0, .int 0, .int (-1), .int 0, .ref 79, .ref 80, .ref 81, .ref 90, .ref 92, .ref 94, .ref 96, .int 0, .ref 97, .ref 98, .ref 99, .ref 100, .int 0, .int 0, .null, .null, .int 0]), (81, 1004, [.ref 82, .ref 83, .ref 84, .ref 85, .ref 86, .ref 87, .ref 88, .ref 89]), (90, 16, [.ref 91, .int 0, .int 0]), (92, 15, [.ref 93, .int 0, .int 0]), (94, 15, [.ref 95, .int 0, .int 0]), (96, 14, [.null, .int 0, .int 0, .int 0, .null])]
def mp_ar : List (Nat × Nat × Nat × List Value) := [(43, 1000, 4096, []), (45, 1000, 4096, []), (48, 1001, 2048, []), (50, 1000, 4096, []), (52, 1000, 4096, [.int 110, .int 117, .int 108, .int 108]), (54, 1000, 4096, [.int 110, .int 117, .int 108, .int 108]), (56, 1000, 4096, [.int 110, .int 117, .int 108, .int 108]), (58, 1000, 4096, [.int 110, .int 117, .int 108, .int 108]), (60, 1000, 4096, [.int 110, .int 117, .int 108, .int 108]), (62, 1000, 4096, [.int 110, .int 117, .int 108, .int 108]), (64, 1000, 4096, [.int 110, .int 117, .int 108, .int 108]), (66, 1000, 4096, [.int 110, .int 117, .int 108, .int 108]), (71, 1000, 100, []), (74, 1001, 100, []), (76, 1001, 60, []), (77, 1001, 60, []), (79, 1001, 4096, []), (80, 1001, 9000, []), (82, 1001, 9000, [.int 0, .int 2]), (83, 1001, 9000, [.int 0, .int 2]), (84, 1001, 9000, [.int 0, .int 2]), (85, 1001, 9000, [.int 0, .int 2]), (86, 1001, 9000, [.int 0, .int 2]), (87, 1001, 9000, [.int 0, .int 2]), (88, 1001, 9000, [.int 0, .int 2]), (89, 1001, 9000, [.int 0, .int 2]), (91, 1001, 9000, []), (93, 1001, 4096, []), (95, 1001, 4096, []), (97, 1001, 4200, []), (98, 1001, 9000, []), (99, 1001, 64, []), (100, 1001, 64, [])]
/-- an int -/
def m_isI : Value → Bool
  | .int _ => true
  | _ => false
def m_sq (h : mH) : Bool := h.length == 101 && (decide (h.take 41 = m_bl :: mp_ht) && (mp_ce.all (fun q => decide (h[q.1]? = some q.2)) && mp_ar.all (fun q => match h[q.1]? with
  | some (t', vs) => t' == q.2.1 && (vs.length == q.2.2.1 && (decide (vs.take q.2.2.2.length = q.2.2.2) && vs.all m_isI))
  | none => false)))
noncomputable def m_c1 : mR := m_run 41 mp_FL mp_PG 20000 1999 mm0 (0, m_ent [.ref 41] mm0.2.2.1, [], (m_bl :: mp_ht ++ [(5, mp_FL 5)], 601023, 7293022))
noncomputable def m_c2 (h : mH) (K : Nat × Nat) : mR := m_run 41 mp_FL mp_PG 20000 1999 mm222 (0, m_ent [.ref 78] mm222.2.2.1, [], (h ++ [(13, mp_FL 13)], K.1 - 1, K.2 - 22))
theorem m_c12 : (match m_c1 with
  | some (.returned none, (h, K)) => h.length == 78 && (decide (K = (600987, 7245518)) && (match m_c2 h K with
    | some (.returned none, (h2, K2)) => m_sq h2 && decide (K2 = (600964, 7129858))
    | _ => false))
  | _ => false) = true := by decide +kernel
theorem mp_cear : (mp_ce.all fun q => decide (41 ≤ q.1 ∧ q.1 < 101)) = true ∧ (mp_ar.all fun q => decide (41 ≤ q.1 ∧ q.1 < 101)) = true := by decide +kernel
/-- the heap at the law's loop, before the first call -/
def m_s2 (xs : List Int32) (h : mH) : Prop := h.length = 102 ∧ h.take 41 = mp_h0 xs ∧ h[101]? = some (1002, [.long 0]) ∧ (∀ q ∈ mp_ce, h[q.1]? = some q.2) ∧ ∀ q ∈ mp_ar, ∃ vs, h[q.1]? = some (q.2.1, vs) ∧ vs.length = q.2.2.1 ∧ vs.take q.2.2.2.length = q.2.2.2 ∧ vs.all m_isI = true
theorem mb_ctors : ∃ (h1 h2 : mH), m_run 41 mp_FL mp_PG 20000 1999 mm0 (0, m_ent [.ref 41] mm0.2.2.1, [], (m_bl :: mp_ht ++ [(5, mp_FL 5)], 601023, 7293022)) = some (.returned none, (h1, 600987, 7245518)) ∧ h1.length = 78 ∧
    m_run 41 mp_FL mp_PG 20000 1999 mm222 (0, m_ent [.ref 78] mm222.2.2.1, [], (h1 ++ [(13, mp_FL 13)], 600987 - 1, 7245518 - 22)) = some (.returned none, (h2, 600964, 7129858)) ∧ m_sq h2 = true := by
  have h := m_c12
  split at h
  · next h1 K e1 =>
    simp only [Bool.and_eq_true, beq_iff_eq, decide_eq_true_eq] at h
    obtain ⟨g1, rfl, g3⟩ := h
    split at g3
    · next h2 K2 e2 =>
      simp only [Bool.and_eq_true, decide_eq_true_eq] at g3
      obtain ⟨g4, rfl⟩ := g3
      exact ⟨h1, h2, e1, g1, e2, g4⟩
    · cases g3
  · cases h
/-- the law up to its loop -/
theorem mb_head2 (xs : List Int32) : ∃ h : mH, m_s2 xs h ∧ ∀ r : Outcome × mS, mE 2000 mm254 (23, [some (.ref 0), some (.ref 41), some (.ref 78), some (.ref 101), some (.int 0), none, none, none], [], (h, 600963, 7129857)) r → mE 2000 mm254 (0, m_ent [.ref 0] 8, [], (mp_h0 xs, 601024, 7293034)) r := by
  obtain ⟨h1, h2, e1, l1, e2, hs⟩ := mb_ctors
  have hT : ∀ {h : mH} {l : List mC}, h[0]? = some m_bl → (h ++ l)[0]? = some m_bl := fun hb => (bl_app (c := m_bl) hb).2.1
  obtain ⟨b1, c1⟩ := mE.blank (1001, xs.map Value.int) (List.mem_of_getElem? (i := 0) rfl) rfl e1
  obtain ⟨b2, c2⟩ := mE.blank (1001, xs.map Value.int) (List.mem_of_getElem? (i := 222) rfl) (hT b1) e2
  rw [(bl_app b1).1] at c2
  have l1' : (h1.set 0 (1001, xs.map Value.int)).length = 78 := by rw [List.length_set]; exact l1
  simp only [m_sq, Bool.and_eq_true, beq_iff_eq, decide_eq_true_eq] at hs
  obtain ⟨l2, hs1, hs2, hs3⟩ := hs
  have l2' : (h2.set 0 (1001, xs.map Value.int)).length = 101 := by rw [List.length_set]; exact l2
  refine ⟨h2.set 0 (1001, xs.map Value.int) ++ [(1002, [.long 0])], ?_, fun r hk => ?_⟩
  rotate_left
  refine mE.sn 2 (g' := (4, [some (.ref 0), none, none, none, none, none, none, none], [.ref 41, .ref 41], (mp_h0 xs ++ [(5, mp_FL 5)], 601023, 7293022))) ?_ ?_
  · have : (mp_h0 xs).length = 41 := mb_h0_len
    simp only [m_sn, m_s1]
    rw [show mm254.2.2.2.2.2[0]? = some (some (.new 8, 3, 5, 12, 0)) from rfl]
    simp only [m_new, m_mk, if_true]
    rw [this]
    rfl
  refine mE.call rfl rfl rfl rfl (m_rcv_ok (fs := mp_FL 5) ?_) c1 ?_
  · have : (mp_h0 xs).length = 41 := mb_h0_len
    show (mp_h0 xs ++ [(5, mp_FL 5)])[41]? = _
    rw [List.getElem?_append_right (by omega), this]
    rfl
  refine mE.sn 3 (g' := (12, [some (.ref 0), some (.ref 41), none, none, none, none, none, none], [.ref 78, .ref 78], (h1.set 0 (1001, xs.map Value.int) ++ [(13, mp_FL 13)], 600987 - 1, 7245518 - 22))) ?_ ?_
  · show m_sn 41 mp_FL mm254 3 (7, [some (.ref 0), none, none, none, none, none, none, none], [.ref 41], (h1.set 0 (1001, xs.map Value.int), 600987, 7245518)) = _
    rw [show m_sn 41 mp_FL mm254 3 (7, [some (.ref 0), none, none, none, none, none, none, none], [.ref 41], (h1.set 0 (1001, xs.map Value.int), 600987, 7245518)) = m_sn 41 mp_FL mm254 2 (8, [some (.ref 0), some (.ref 41), none, none, none, none, none, none], [], (h1.set 0 (1001, xs.map Value.int), 600987, 7245518)) from rfl]
    simp only [m_sn, m_s1]
    rw [show mm254.2.2.2.2.2[8]? = some (some (.new 58, 3, 13, 22, 0)) from rfl]
    simp only [m_new, m_mk, if_true]
    rw [l1']
    rfl
  refine mE.call rfl rfl rfl rfl (m_rcv_ok (fs := mp_FL 13) ?_) c2 ?_
  · show (h1.set 0 (1001, xs.map Value.int) ++ [(13, mp_FL 13)])[78]? = _
    rw [List.getElem?_append_right (by omega), l1']
    rfl
  refine mE.sn 6 (g' := (23, [some (.ref 0), some (.ref 41), some (.ref 78), some (.ref 101), some (.int 0), none, none, none], [], (h2.set 0 (1001, xs.map Value.int) ++ [(1002, [.long 0])], 600963, 7129857))) ?_ hk
  · show m_sn 41 mp_FL mm254 6 (15, [some (.ref 0), some (.ref 41), none, none, none, none, none, none], [.ref 78], (h2.set 0 (1001, xs.map Value.int), 600964, 7129858)) = _
    rw [show m_sn 41 mp_FL mm254 6 (15, [some (.ref 0), some (.ref 41), none, none, none, none, none, none], [.ref 78], (h2.set 0 (1001, xs.map Value.int), 600964, 7129858)) = m_sn 41 mp_FL mm254 4 (17, [some (.ref 0), some (.ref 41), some (.ref 78), none, none, none, none, none], [.int 1], (h2.set 0 (1001, xs.map Value.int), 600964, 7129858)) from rfl]
    have e3 : m_s1 41 mp_FL mm254 (17, [some (.ref 0), some (.ref 41), some (.ref 78), none, none, none, none, none], [.int 1], (h2.set 0 (1001, xs.map Value.int), 600964, 7129858)) = some (19, [some (.ref 0), some (.ref 41), some (.ref 78), none, none, none, none, none], [.ref 101], (h2.set 0 (1001, xs.map Value.int) ++ [(1002, [.long 0])], 600963, 7129857)) := by
      simp only [m_s1]
      rw [show mm254.2.2.2.2.2[17]? = some (some (.newarray .long, 2, 0, 0, 0)) from rfl]
      simp only [m_one, m_nwa]
      rw [if_pos (by decide)]
      simp only [m_mk]
      rw [if_pos (by decide), l2']
      rfl
    rw [m_sn, e3]
    rfl
  · have ht : ∀ k, 41 ≤ k → k < 101 → (h2.set 0 (1001, xs.map Value.int) ++ [(1002, [.long 0])])[k]? = h2[k]? := by
      intro k hk1 hk2
      rw [List.getElem?_append_left (by omega), List.getElem?_set_ne (by omega)]
    refine ⟨by rw [List.length_append, l2']; rfl, ?_, ?_, fun q hq => ?_, fun q hq => ?_⟩
    · rw [List.take_append_of_le_length (by omega), List.take_set, hs1]
      rfl
    · rw [List.getElem?_append_right (by omega), l2']
      rfl
    · have := of_decide_eq_true (List.all_eq_true.mp mp_cear.1 q hq)
      rw [ht _ this.1 this.2]
      exact of_decide_eq_true (List.all_eq_true.mp hs2 q hq)
    · have := of_decide_eq_true (List.all_eq_true.mp mp_cear.2 q hq)
      rw [ht _ this.1 this.2]
      have h3 := List.all_eq_true.mp hs3 q hq
      split at h3
      · next t vs e =>
        simp only [Bool.and_eq_true, beq_iff_eq, decide_eq_true_eq] at h3
        obtain ⟨rfl, h4, h5, h6⟩ := h3
        exact ⟨vs, e, h4, h5, h6⟩
      · cases h3
end Start93
end

section
/-! The law's loop. -/
section Loop94
/-- the law's locals in the loop -/
abbrev m_lv (i : Int32) (x5 x6 x7 : Option Value) : mL := [some (.ref 0), some (.ref 41), some (.ref 78), some (.ref 101), some (.int i), x5, x6, x7]
variable {xs : List Int32}
theorem i_sub {a b : Int32} (h1 : -2147483648 ≤ a.toInt - b.toInt) (h2 : a.toInt - b.toInt < 2147483648) : (a - b).toInt = a.toInt - b.toInt := by
  rw [Int32.toInt_sub]
  exact Int.bmod_eq_of_le (by omega) (by omega)
theorem i_add {a b : Int32} (h1 : -2147483648 ≤ a.toInt + b.toInt) (h2 : a.toInt + b.toInt < 2147483648) : (a + b).toInt = a.toInt + b.toInt := by
  rw [Int32.toInt_add]
  exact Int.bmod_eq_of_le (by omega) (by omega)
set_option maxRecDepth 100000 in
/-- the loop's end -/
theorem law_out {i : Nat} {h : mH} {K : Nat × Nat} (h0 : h[0]? = some (1001, xs.map Value.int)) (hl : xs.length ≤ 3072) (hi : i ≤ 4000) (hn : xs.length < i + 6) (x5 x6 x7 : Option Value) : mE 2000 mm254 (23, m_lv (Int32.ofNat i) x5 x6 x7, [], (h, K)) (.returned (some (.int 1)), (h, K)) := by
  have hc : Int32.ofNat (xs.map Value.int).length - 6 < Int32.ofNat i := by
    have e6 : (6 : Int32).toInt = 6 := rfl
    rw [List.length_map, i_lt, i_sub (by rw [i_of (by omega), e6]; omega) (by rw [i_of (by omega), e6]; omega), i_of (by omega), i_of (by omega), e6]
    omega
  refine mE.sn 2 (g' := (26, m_lv (Int32.ofNat i) x5 x6 x7, [.ref 0, .int (Int32.ofNat i)], (h, K))) rfl ?_
  refine mE.aln rfl h0 (by decide) ?_
  refine mE.sn 2 (g' := (30, m_lv (Int32.ofNat i) x5 x6 x7, [.int (Int32.ofNat (xs.map Value.int).length - 6), .int (Int32.ofNat i)], (h, K))) rfl ?_
  refine mE.yes (g1 := (585, m_lv (Int32.ofNat i) x5 x6 x7, [], (h, K))) (g2 := (33, m_lv (Int32.ofNat i) x5 x6 x7, [], (h, K))) (c := Int32.ofNat (xs.map Value.int).length - 6 < Int32.ofNat i) rfl hc ?_
  refine mE.sn 1 (g' := (586, m_lv (Int32.ofNat i) x5 x6 x7, [.int 1], (h, K))) rfl ?_
  exact m_ev.fin rfl
/-- into the loop's body -/
theorem law_in {i : Nat} {h : mH} {K : Nat × Nat} {r : Outcome × mS} (h0 : h[0]? = some (1001, xs.map Value.int)) (hl : xs.length ≤ 3072) (hn : i + 6 ≤ xs.length) {x5 x6 x7 : Option Value} (k : mE 2000 mm254 (33, m_lv (Int32.ofNat i) x5 x6 x7, [], (h, K)) r) : mE 2000 mm254 (23, m_lv (Int32.ofNat i) x5 x6 x7, [], (h, K)) r := by
  have hc : ¬ Int32.ofNat (xs.map Value.int).length - 6 < Int32.ofNat i := by
    have e6 : (6 : Int32).toInt = 6 := rfl
    rw [List.length_map, i_lt, i_sub (by rw [i_of (by omega), e6]; omega) (by rw [i_of (by omega), e6]; omega), i_of (by omega), i_of (by omega), e6]
    omega
  refine mE.sn 2 (g' := (26, m_lv (Int32.ofNat i) x5 x6 x7, [.ref 0, .int (Int32.ofNat i)], (h, K))) rfl ?_
  refine mE.aln rfl h0 (by decide) ?_
  refine mE.sn 2 (g' := (30, m_lv (Int32.ofNat i) x5 x6 x7, [.int (Int32.ofNat (xs.map Value.int).length - 6), .int (Int32.ofNat i)], (h, K))) rfl ?_
  exact mE.no (g1 := (585, m_lv (Int32.ofNat i) x5 x6 x7, [], (h, K))) (g2 := (33, m_lv (Int32.ofNat i) x5 x6 x7, [], (h, K))) (c := Int32.ofNat (xs.map Value.int).length - 6 < Int32.ofNat i) rfl hc k
set_option maxRecDepth 100000 in
/-- to the loop's head again, behind a call -/
theorem law_next {i : Nat} {h : mH} {K : Nat × Nat} {r : Outcome × mS} {x5 x6 x7 : Option Value} (k : mE 2000 mm254 (23, m_lv (Int32.ofNat (i + 6)) x5 x6 x7, [], (h, K)) r) : mE 2000 mm254 (579, m_lv (Int32.ofNat i) x5 x6 x7, [], (h, K)) r := by
  refine mE.sn 2 (g' := (23, m_lv (Int32.ofNat i + 6) x5 x6 x7, [], (h, K))) rfl ?_
  rw [show Int32.ofNat i + 6 = Int32.ofNat (i + 6) from (Int32.ofNat_add i 6).symm]
  exact k
/-- what a call does to the two: from the loop's body back to its head -/
def law_S (i : Nat) (h : mH) (K : Nat × Nat) (h' : mH) (K' : Nat × Nat) : Prop := ∀ r : Outcome × mS, (∀ y5 y6 y7, mE 2000 mm254 (23, m_lv (Int32.ofNat (i + 6)) y5 y6 y7, [], (h', K')) r) → ∀ x5 x6 x7, mE 2000 mm254 (33, m_lv (Int32.ofNat i) x5 x6 x7, [], (h, K)) r
/-- the law's loop, by what holds between two calls -/
theorem law_loop (hl : xs.length ≤ 3072) (Inv : Nat → mH → Nat × Nat → Prop) (hI : ∀ i h K, Inv i h K → h[0]? = some (1001, xs.map Value.int)) (hS : ∀ i h K, Inv i h K → i + 6 ≤ xs.length → ∃ h' K', Inv (i + 6) h' K' ∧ law_S i h K h' K') :
    ∀ (n i : Nat) (h : mH) (K : Nat × Nat), xs.length + 6 ≤ i + n → i ≤ xs.length + 6 → Inv i h K → ∃ S' : mS, ∀ x5 x6 x7, mE 2000 mm254 (23, m_lv (Int32.ofNat i) x5 x6 x7, [], (h, K)) (.returned (some (.int 1)), S') := by
  intro n
  induction n with
  | zero =>
    intro i h K hn hi hv
    exact ⟨(h, K), fun x5 x6 x7 => law_out (hI i h K hv) hl (by omega) (by omega) x5 x6 x7⟩
  | succ n ih =>
    intro i h K hn hi hv
    by_cases hc : i + 6 ≤ xs.length
    · obtain ⟨h', K', v', s⟩ := hS i h K hv hc
      obtain ⟨S', e⟩ := ih (i + 6) h' K' (by omega) (by omega) v'
      exact ⟨S', fun x5 x6 x7 => law_in (hI i h K hv) hl hc (s _ e x5 x6 x7)⟩
    · exact ⟨(h, K), fun x5 x6 x7 => law_out (hI i h K hv) hl (by omega) (by omega) x5 x6 x7⟩
/-- the whole law, by what holds between two calls -/
theorem law_all (hl : xs.length ≤ 3072) (Inv : Nat → mH → Nat × Nat → Prop) (h0 : ∀ h, m_s2 xs h → Inv 0 h (600963, 7129857)) (hI : ∀ i h K, Inv i h K → h[0]? = some (1001, xs.map Value.int)) (hS : ∀ i h K, Inv i h K → i + 6 ≤ xs.length → ∃ h' K', Inv (i + 6) h' K' ∧ law_S i h K h' K') :
    ∃ S' : mS, mE 2000 mm254 (0, m_ent [.ref 0] 8, [], (mp_h0 xs, 601024, 7293034)) (.returned (some (.int 1)), S') := by
  obtain ⟨h, K, S', hs⟩ : ∃ (h : mH) (K : Nat × Nat) (S' : mS), m_s2 xs h ∧ mE 2000 mm254 (0, m_ent [.ref 0] 8, [], (mp_h0 xs, 601024, 7293034)) (.returned (some (.int 1)), S') := by
    obtain ⟨h, hh, hk⟩ := mb_head2 xs
    obtain ⟨S', e⟩ := law_loop hl Inv hI hS (xs.length + 6) 0 h (600963, 7129857) (by omega) (by omega) (h0 h hh)
    exact ⟨h, (600963, 7129857), S', hh, hk _ (e none none none)⟩
  exact ⟨S', hs.2⟩
set_option maxRecDepth 100000 in
/-- a call that does nothing: the script's number is above 10 -/
theorem law_idle {i : Nat} {h : mH} {K : Nat × Nat} {y : Int32} (h0 : h[0]? = some (1001, xs.map Value.int)) (hl : xs.length ≤ 3072) (hy : xs[i]? = some y) (hb : 10 < (y &&& 15).toInt) : law_S i h K h K := by
  intro r k x5 x6 x7
  have hi := (List.getElem?_eq_some_iff.mp hy).1
  have hx : m_ix (Int32.ofNat i) (xs.map Value.int) = some (.int y) := by
    rw [m_ix, if_neg (by rw [i_lt, i_of (by omega)]; have : (0 : Int32).toInt = 0 := rfl; omega), i_nat, i_of (by omega), List.getElem?_map, Int.toNat_natCast, hy]
    rfl
  refine mE.sn 2 (g' := (36, m_lv (Int32.ofNat i) x5 x6 x7, [.int (Int32.ofNat i), .ref 0], (h, K))) rfl ?_
  refine mE.iald (v := .int y) rfl h0 hx ?_
  refine mE.sn 2 (g' := (40, m_lv (Int32.ofNat i) x5 x6 x7, [.int (y &&& 15)], (h, K))) rfl ?_
  have hd : m_tsw 40 539 0 10 #[60, 136, 164, 192, 220, 269, 330, 379, 416, 456, 511] (y &&& 15) = 579 := m_tsw_out _ _ _ _ _ _ (Or.inr hb)
  refine mE.sn 1 (g' := (579, m_lv (Int32.ofNat i) x5 x6 x7, [], (h, K))) (by rw [← hd]; rfl) ?_
  exact law_next (k x5 x6 x7)
end Loop94
end

section
/-! PRINTED BY wip/whole/t95.py: how the reference reads its cells. -/
section Ref95
variable {d : Nat} {h : mH} {q : Nat × Nat} {a b : Nat} {as bs : List Int32}
def iget (as : List Int32) (i : Int32) : Option Int32 := if i < 0 then none else as[i.toNatClampNeg]?
theorem iget_ix {i v : Int32} (hv : iget as i = some v) : m_ix i (as.map Value.int) = some (.int v) := by
  unfold iget at hv
  unfold m_ix
  by_cases hi : i < 0
  · rw [if_pos hi] at hv; cases hv
  · rw [if_neg hi] at hv ⊢
    rw [List.getElem?_map, hv]
    rfl
def i_cmp (x y : Int32) : Int32 := (if y ≤ x then (if x = y then 0 else 1) else (-1))
theorem x136 (x y : Int32) : mE d mm136 (0, [some (.int x), some (.int y)], [], (h, q)) (.returned (some (.int (i_cmp x y))), (h, q)) := by
  refine mE.sn 2 (g' := (2, [some (.int x), some (.int y)], [.int y, .int x], (h, q))) rfl ?_
  refine mE.br (g1 := (9, [some (.int x), some (.int y)], [], (h, q))) (g2 := (5, [some (.int x), some (.int y)], [], (h, q))) (c := y ≤ x) rfl (fun hc1 => ?_) (fun hc1 => ?_)
  · refine mE.sn 2 (g' := (11, [some (.int x), some (.int y)], [.int y, .int x], (h, q))) rfl ?_
    refine mE.br (g1 := (14, [some (.int x), some (.int y)], [], (h, q))) (g2 := (18, [some (.int x), some (.int y)], [], (h, q))) (c := x = y) rfl (fun hc2 => ?_) (fun hc2 => ?_)
    · refine mE.sn 2 (g' := (19, [some (.int x), some (.int y)], [.int 0], (h, q))) rfl ?_
      rw [show i_cmp x y = (0 : Int32) by unfold i_cmp; rw [if_pos hc1, if_pos hc2]]
      exact m_ev.fin rfl
    · refine mE.sn 1 (g' := (19, [some (.int x), some (.int y)], [.int 1], (h, q))) rfl ?_
      rw [show i_cmp x y = (1 : Int32) by unfold i_cmp; rw [if_pos hc1, if_neg hc2]]
      exact m_ev.fin rfl
  · refine mE.sn 2 (g' := (19, [some (.int x), some (.int y)], [.int (-1)], (h, q))) rfl ?_
    rw [show i_cmp x y = (-1 : Int32) by unfold i_cmp; rw [if_neg hc1]]
    exact m_ev.fin rfl
def l_cmp (x y : Int64) : Int32 := (if 0 ≤ (lg_cmp x y) then (if (lg_cmp x y) = 0 then 0 else 1) else (-1))
theorem x137 (x y : Int64) : mE d mm137 (0, [some (.long x), none, some (.long y), none], [], (h, q)) (.returned (some (.int (l_cmp x y))), (h, q)) := by
  refine mE.sn 3 (g' := (3, [some (.long x), none, some (.long y), none], [.int (lg_cmp x y)], (h, q))) rfl ?_
  refine mE.br (g1 := (10, [some (.long x), none, some (.long y), none], [], (h, q))) (g2 := (6, [some (.long x), none, some (.long y), none], [], (h, q))) (c := 0 ≤ (lg_cmp x y)) rfl (fun hc1 => ?_) (fun hc1 => ?_)
  · refine mE.sn 3 (g' := (13, [some (.long x), none, some (.long y), none], [.int (lg_cmp x y)], (h, q))) rfl ?_
    refine mE.br (g1 := (16, [some (.long x), none, some (.long y), none], [], (h, q))) (g2 := (20, [some (.long x), none, some (.long y), none], [], (h, q))) (c := (lg_cmp x y) = 0) rfl (fun hc2 => ?_) (fun hc2 => ?_)
    · refine mE.sn 2 (g' := (21, [some (.long x), none, some (.long y), none], [.int 0], (h, q))) rfl ?_
      rw [show l_cmp x y = (0 : Int32) by unfold l_cmp; rw [if_pos hc1, if_pos hc2]]
      exact m_ev.fin rfl
    · refine mE.sn 1 (g' := (21, [some (.long x), none, some (.long y), none], [.int 1], (h, q))) rfl ?_
      rw [show l_cmp x y = (1 : Int32) by unfold l_cmp; rw [if_pos hc1, if_neg hc2]]
      exact m_ev.fin rfl
  · refine mE.sn 2 (g' := (21, [some (.long x), none, some (.long y), none], [.int (-1)], (h, q))) rfl ?_
    rw [show l_cmp x y = (-1 : Int32) by unfold l_cmp; rw [if_neg hc1]]
    exact m_ev.fin rfl
def r_next (as : List Int32) (p : Int32) : Option Int32 := ((iget as (p + 1)).bind fun b1 => some (p + b1))
theorem x199 (ta : h[a]? = some (1001, as.map Value.int)) {p : Int32} {v : Int32} (hv : r_next as p = some v) : mE d mm199 (0, [some (.ref a), some (.int p)], [], (h, q)) (.returned (some (.int v)), (h, q)) := by
  unfold r_next at hv
  refine mE.sn 5 (g' := (5, [some (.ref a), some (.int p)], [.int (p + 1), .ref a, .int p], (h, q))) rfl ?_
  cases hr1 : iget as (p + 1) with
  | none => rw [hr1] at hv; cases hv
  | some b1 =>
    rw [hr1] at hv
    simp only [Option.bind_some] at hv
    refine mE.iald (v := .int b1) rfl ta (iget_ix hr1) ?_
    refine mE.sn 1 (g' := (7, [some (.ref a), some (.int p)], [.int (p + b1)], (h, q))) rfl ?_
    cases hv
    exact m_ev.fin rfl
def r_number (as : List Int32) (p : Int32) : Option Int64 := ((iget as (p + 2)).bind fun b1 => ((iget as (p + 3)).bind fun b2 => some ((b1.toInt64 <<< ((32 : Int32).toInt64 &&& 63)) ||| (b2.toInt64 &&& 4294967295))))
theorem x208 (ta : h[a]? = some (1001, as.map Value.int)) {p : Int32} {v : Int64} (hv : r_number as p = some v) : mE d mm208 (0, [some (.ref a), some (.int p)], [], (h, q)) (.returned (some (.long v)), (h, q)) := by
  unfold r_number at hv
  refine mE.sn 4 (g' := (4, [some (.ref a), some (.int p)], [.int (p + 2), .ref a], (h, q))) rfl ?_
  cases hr1 : iget as (p + 2) with
  | none => rw [hr1] at hv; cases hv
  | some b1 =>
    rw [hr1] at hv
    simp only [Option.bind_some] at hv
    refine mE.iald (v := .int b1) rfl ta (iget_ix hr1) ?_
    refine mE.sn 7 (g' := (13, [some (.ref a), some (.int p)], [.int (p + 3), .ref a, .long (b1.toInt64 <<< ((32 : Int32).toInt64 &&& 63))], (h, q))) rfl ?_
    cases hr2 : iget as (p + 3) with
    | none => rw [hr2] at hv; cases hv
    | some b2 =>
      rw [hr2] at hv
      simp only [Option.bind_some] at hv
      refine mE.iald (v := .int b2) rfl ta (iget_ix hr2) ?_
      refine mE.sn 4 (g' := (20, [some (.ref a), some (.int p)], [.long ((b1.toInt64 <<< ((32 : Int32).toInt64 &&& 63)) ||| (b2.toInt64 &&& 4294967295))], (h, q))) rfl ?_
      cases hv
      exact m_ev.fin rfl
def r_many_l (as : List Int32) : Nat → Int32 → Int32 → Int32 → Option Int32
  | 0, _, _, _ => none
  | n + 1, l1, l2, l3 => ((r_next as l1).bind fun r1 => (if r1 ≤ l3 then ((iget as l1).bind fun b3 => (if b3 = (6 : Int32) then some (l2 / 2) else some l2)) else ((r_next as l3).bind fun r5 => r_many_l as n l1 (l2 + 1) r5)))
theorem r_many_l_ok (ta : h[a]? = some (1001, as.map Value.int)) : ∀ (n : Nat) (l1 : Int32) (l2 : Int32) (l3 : Int32) (v : Int32), r_many_l as n l1 l2 l3 = some v → mE (d + 1) mm239 (6, [some (.ref a), some (.int l1), some (.int l2), some (.int l3)], [], (h, q)) (.returned (some (.int v)), (h, q)) := by
  intro n
  induction n with
  | zero => intro l1 l2 l3 v hv; cases hv
  | succ n ih =>
    intro l1 l2 l3 v hv
    unfold r_many_l at hv
    refine mE.sn 3 (g' := (9, [some (.ref a), some (.int l1), some (.int l2), some (.int l3)], [.int l1, .ref a, .int l3], (h, q))) rfl ?_
    cases hr1 : r_next as l1 with
    | none => rw [hr1] at hv; cases hv
    | some r1 =>
      rw [hr1] at hv
      simp only [Option.bind_some] at hv
      refine mE.call rfl rfl rfl rfl rfl (x199 ta hr1) ?_
      refine mE.br (g1 := (27, [some (.ref a), some (.int l1), some (.int l2), some (.int l3)], [], (h, q))) (g2 := (15, [some (.ref a), some (.int l1), some (.int l2), some (.int l3)], [], (h, q))) (c := r1 ≤ l3) rfl (fun hc2 => ?_) (fun hc2 => ?_)
      · rw [if_pos hc2] at hv
        refine mE.sn 2 (g' := (29, [some (.ref a), some (.int l1), some (.int l2), some (.int l3)], [.int l1, .ref a], (h, q))) rfl ?_
        cases hr3 : iget as l1 with
        | none => rw [hr3] at hv; cases hv
        | some b3 =>
          rw [hr3] at hv
          simp only [Option.bind_some] at hv
          refine mE.iald (v := .int b3) rfl ta (iget_ix hr3) ?_
          refine mE.sn 1 (g' := (32, [some (.ref a), some (.int l1), some (.int l2), some (.int l3)], [.int 6, .int b3], (h, q))) rfl ?_
          refine mE.br (g1 := (35, [some (.ref a), some (.int l1), some (.int l2), some (.int l3)], [], (h, q))) (g2 := (41, [some (.ref a), some (.int l1), some (.int l2), some (.int l3)], [], (h, q))) (c := b3 = (6 : Int32)) rfl (fun hc4 => ?_) (fun hc4 => ?_)
          · rw [if_pos hc4] at hv
            refine mE.sn 4 (g' := (42, [some (.ref a), some (.int l1), some (.int l2), some (.int l3)], [.int (l2 / 2)], (h, q))) rfl ?_
            cases hv
            exact m_ev.fin rfl
          · rw [if_neg hc4] at hv
            refine mE.sn 1 (g' := (42, [some (.ref a), some (.int l1), some (.int l2), some (.int l3)], [.int l2], (h, q))) rfl ?_
            cases hv
            exact m_ev.fin rfl
      · rw [if_neg hc2] at hv
        refine mE.sn 3 (g' := (20, [some (.ref a), some (.int l1), some (.int (l2 + 1)), some (.int l3)], [.int l3, .ref a], (h, q))) rfl ?_
        cases hr5 : r_next as l3 with
        | none => rw [hr5] at hv; cases hv
        | some r5 =>
          rw [hr5] at hv
          simp only [Option.bind_some] at hv
          refine mE.call rfl rfl rfl rfl rfl (x199 ta hr5) ?_
          refine mE.sn 2 (g' := (6, [some (.ref a), some (.int l1), some (.int (l2 + 1)), some (.int r5)], [], (h, q))) rfl ?_
          exact ih _ _ _ v hv
def r_many (as : List Int32) (p : Int32) : Option Int32 := r_many_l as 10000 p 0 (p + 2)
theorem x239 (ta : h[a]? = some (1001, as.map Value.int)) {p : Int32} {v : Int32} (hv : r_many as p = some v) : mE (d + 1) mm239 (0, [some (.ref a), some (.int p), none, none], [], (h, q)) (.returned (some (.int v)), (h, q)) := by
  unfold r_many at hv
  refine mE.sn 6 (g' := (6, [some (.ref a), some (.int p), some (.int 0), some (.int (p + 2))], [], (h, q))) rfl ?_
  exact r_many_l_ok ta _ _ _ _ v hv
def r_element_l (as : List Int32) : Nat → Int32 → Int64 → Int32 → Int64 → Option Int32
  | 0, _, _, _, _ => none
  | n + 1, l1, l2, l4, l5 => (if 0 ≤ (lg_cmp l5 l2) then some l4 else ((r_next as l4).bind fun r2 => r_element_l as n l1 l2 r2 (l5 + 1)))
theorem r_element_l_ok (ta : h[a]? = some (1001, as.map Value.int)) : ∀ (n : Nat) (l1 : Int32) (l2 : Int64) (l4 : Int32) (l5 : Int64) (v : Int32), r_element_l as n l1 l2 l4 l5 = some v → mE (d + 1) mm247 (8, [some (.ref a), some (.int l1), some (.long l2), none, some (.int l4), some (.long l5), none], [], (h, q)) (.returned (some (.int v)), (h, q)) := by
  intro n
  induction n with
  | zero => intro l1 l2 l4 l5 v hv; cases hv
  | succ n ih =>
    intro l1 l2 l4 l5 v hv
    unfold r_element_l at hv
    refine mE.sn 3 (g' := (12, [some (.ref a), some (.int l1), some (.long l2), none, some (.int l4), some (.long l5), none], [.int (lg_cmp l5 l2)], (h, q))) rfl ?_
    refine mE.br (g1 := (32, [some (.ref a), some (.int l1), some (.long l2), none, some (.int l4), some (.long l5), none], [], (h, q))) (g2 := (15, [some (.ref a), some (.int l1), some (.long l2), none, some (.int l4), some (.long l5), none], [], (h, q))) (c := 0 ≤ (lg_cmp l5 l2)) rfl (fun hc1 => ?_) (fun hc1 => ?_)
    · rw [if_pos hc1] at hv
      refine mE.sn 1 (g' := (34, [some (.ref a), some (.int l1), some (.long l2), none, some (.int l4), some (.long l5), none], [.int l4], (h, q))) rfl ?_
      cases hv
      exact m_ev.fin rfl
    · rw [if_neg hc1] at hv
      refine mE.sn 2 (g' := (18, [some (.ref a), some (.int l1), some (.long l2), none, some (.int l4), some (.long l5), none], [.int l4, .ref a], (h, q))) rfl ?_
      cases hr2 : r_next as l4 with
      | none => rw [hr2] at hv; cases hv
      | some r2 =>
        rw [hr2] at hv
        simp only [Option.bind_some] at hv
        refine mE.call rfl rfl rfl rfl rfl (x199 ta hr2) ?_
        refine mE.sn 6 (g' := (8, [some (.ref a), some (.int l1), some (.long l2), none, some (.int r2), some (.long (l5 + 1)), none], [], (h, q))) rfl ?_
        exact ih _ _ _ _ v hv
def r_element (as : List Int32) (p : Int32) (k : Int64) : Option Int32 := r_element_l as 10000 p k (p + 2) 0
theorem x247 (ta : h[a]? = some (1001, as.map Value.int)) {p : Int32} {k : Int64} {v : Int32} (hv : r_element as p k = some v) : mE (d + 1) mm247 (0, [some (.ref a), some (.int p), some (.long k), none, none, none, none], [], (h, q)) (.returned (some (.int v)), (h, q)) := by
  unfold r_element at hv
  refine mE.sn 6 (g' := (8, [some (.ref a), some (.int p), some (.long k), none, some (.int (p + 2)), some (.long 0), none], [], (h, q))) rfl ?_
  exact r_element_l_ok ta _ _ _ _ _ v hv
def r_strings_l (as : List Int32) (bs : List Int32) : Nat → Int32 → Int32 → Int32 → Int32 → Int32 → Option Int32
  | 0, _, _, _, _, _ => none
  | n + 1, l1, l3, l4, l5, l6 => (if l4 ≤ l6 then some (i_cmp l4 l5) else (if l5 ≤ l6 then some (i_cmp l4 l5) else ((iget as (l1 + l6)).bind fun b3 => ((iget bs (l3 + l6)).bind fun b4 => (if b3 = b4 then r_strings_l as bs n l1 l3 l4 l5 (l6 + 1) else (if b4 ≤ b3 then some 1 else some (-1)))))))
theorem r_strings_l_ok (ta : h[a]? = some (1001, as.map Value.int)) (tb : h[b]? = some (1001, bs.map Value.int)) : ∀ (n : Nat) (l1 : Int32) (l3 : Int32) (l4 : Int32) (l5 : Int32) (l6 : Int32) (v : Int32), r_strings_l as bs n l1 l3 l4 l5 l6 = some v → mE (d + 1) mm198 (17, [some (.ref a), some (.int l1), some (.ref b), some (.int l3), some (.int l4), some (.int l5), some (.int l6)], [], (h, q)) (.returned (some (.int v)), (h, q)) := by
  intro n
  induction n with
  | zero => intro l1 l3 l4 l5 l6 v hv; cases hv
  | succ n ih =>
    intro l1 l3 l4 l5 l6 v hv
    unfold r_strings_l at hv
    refine mE.sn 2 (g' := (21, [some (.ref a), some (.int l1), some (.ref b), some (.int l3), some (.int l4), some (.int l5), some (.int l6)], [.int l4, .int l6], (h, q))) rfl ?_
    refine mE.br (g1 := (73, [some (.ref a), some (.int l1), some (.ref b), some (.int l3), some (.int l4), some (.int l5), some (.int l6)], [], (h, q))) (g2 := (24, [some (.ref a), some (.int l1), some (.ref b), some (.int l3), some (.int l4), some (.int l5), some (.int l6)], [], (h, q))) (c := l4 ≤ l6) rfl (fun hc1 => ?_) (fun hc1 => ?_)
    · rw [if_pos hc1] at hv
      refine mE.sn 2 (g' := (77, [some (.ref a), some (.int l1), some (.ref b), some (.int l3), some (.int l4), some (.int l5), some (.int l6)], [.int l5, .int l4], (h, q))) rfl ?_
      refine mE.call rfl rfl rfl rfl rfl (x136 l4 l5) ?_
      cases hv
      exact m_ev.fin rfl
    · rw [if_neg hc1] at hv
      refine mE.sn 2 (g' := (28, [some (.ref a), some (.int l1), some (.ref b), some (.int l3), some (.int l4), some (.int l5), some (.int l6)], [.int l5, .int l6], (h, q))) rfl ?_
      refine mE.br (g1 := (73, [some (.ref a), some (.int l1), some (.ref b), some (.int l3), some (.int l4), some (.int l5), some (.int l6)], [], (h, q))) (g2 := (31, [some (.ref a), some (.int l1), some (.ref b), some (.int l3), some (.int l4), some (.int l5), some (.int l6)], [], (h, q))) (c := l5 ≤ l6) rfl (fun hc2 => ?_) (fun hc2 => ?_)
      · rw [if_pos hc2] at hv
        refine mE.sn 2 (g' := (77, [some (.ref a), some (.int l1), some (.ref b), some (.int l3), some (.int l4), some (.int l5), some (.int l6)], [.int l5, .int l4], (h, q))) rfl ?_
        refine mE.call rfl rfl rfl rfl rfl (x136 l4 l5) ?_
        cases hv
        exact m_ev.fin rfl
      · rw [if_neg hc2] at hv
        refine mE.sn 4 (g' := (36, [some (.ref a), some (.int l1), some (.ref b), some (.int l3), some (.int l4), some (.int l5), some (.int l6)], [.int (l1 + l6), .ref a], (h, q))) rfl ?_
        cases hr3 : iget as (l1 + l6) with
        | none => rw [hr3] at hv; cases hv
        | some b3 =>
          rw [hr3] at hv
          simp only [Option.bind_some] at hv
          refine mE.iald (v := .int b3) rfl ta (iget_ix hr3) ?_
          refine mE.sn 4 (g' := (42, [some (.ref a), some (.int l1), some (.ref b), some (.int l3), some (.int l4), some (.int l5), some (.int l6)], [.int (l3 + l6), .ref b, .int b3], (h, q))) rfl ?_
          cases hr4 : iget bs (l3 + l6) with
          | none => rw [hr4] at hv; cases hv
          | some b4 =>
            rw [hr4] at hv
            simp only [Option.bind_some] at hv
            refine mE.iald (v := .int b4) rfl tb (iget_ix hr4) ?_
            refine mE.br (g1 := (67, [some (.ref a), some (.int l1), some (.ref b), some (.int l3), some (.int l4), some (.int l5), some (.int l6)], [], (h, q))) (g2 := (46, [some (.ref a), some (.int l1), some (.ref b), some (.int l3), some (.int l4), some (.int l5), some (.int l6)], [], (h, q))) (c := b3 = b4) rfl (fun hc5 => ?_) (fun hc5 => ?_)
            · rw [if_pos hc5] at hv
              refine mE.sn 2 (g' := (17, [some (.ref a), some (.int l1), some (.ref b), some (.int l3), some (.int l4), some (.int l5), some (.int (l6 + 1))], [], (h, q))) rfl ?_
              exact ih _ _ _ _ _ v hv
            · rw [if_neg hc5] at hv
              refine mE.sn 4 (g' := (51, [some (.ref a), some (.int l1), some (.ref b), some (.int l3), some (.int l4), some (.int l5), some (.int l6)], [.int (l1 + l6), .ref a], (h, q))) rfl ?_
              refine mE.iald (v := .int b3) rfl ta (iget_ix hr3) ?_
              refine mE.sn 4 (g' := (57, [some (.ref a), some (.int l1), some (.ref b), some (.int l3), some (.int l4), some (.int l5), some (.int l6)], [.int (l3 + l6), .ref b, .int b3], (h, q))) rfl ?_
              refine mE.iald (v := .int b4) rfl tb (iget_ix hr4) ?_
              refine mE.br (g1 := (65, [some (.ref a), some (.int l1), some (.ref b), some (.int l3), some (.int l4), some (.int l5), some (.int l6)], [], (h, q))) (g2 := (61, [some (.ref a), some (.int l1), some (.ref b), some (.int l3), some (.int l4), some (.int l5), some (.int l6)], [], (h, q))) (c := b4 ≤ b3) rfl (fun hc6 => ?_) (fun hc6 => ?_)
              · rw [if_pos hc6] at hv
                refine mE.sn 1 (g' := (66, [some (.ref a), some (.int l1), some (.ref b), some (.int l3), some (.int l4), some (.int l5), some (.int l6)], [.int 1], (h, q))) rfl ?_
                cases hv
                exact m_ev.fin rfl
              · rw [if_neg hc6] at hv
                refine mE.sn 2 (g' := (66, [some (.ref a), some (.int l1), some (.ref b), some (.int l3), some (.int l4), some (.int l5), some (.int l6)], [.int (-1)], (h, q))) rfl ?_
                cases hv
                exact m_ev.fin rfl
def r_strings (as : List Int32) (bs : List Int32) (p : Int32) (p2 : Int32) : Option Int32 := ((iget as (p + 1)).bind fun b7 => ((iget bs (p2 + 1)).bind fun b8 => r_strings_l as bs 10000 p p2 b7 b8 2))
theorem x198 (ta : h[a]? = some (1001, as.map Value.int)) (tb : h[b]? = some (1001, bs.map Value.int)) {p : Int32} {p2 : Int32} {v : Int32} (hv : r_strings as bs p p2 = some v) : mE (d + 1) mm198 (0, [some (.ref a), some (.int p), some (.ref b), some (.int p2), none, none, none], [], (h, q)) (.returned (some (.int v)), (h, q)) := by
  unfold r_strings at hv
  refine mE.sn 4 (g' := (4, [some (.ref a), some (.int p), some (.ref b), some (.int p2), none, none, none], [.int (p + 1), .ref a], (h, q))) rfl ?_
  cases hr7 : iget as (p + 1) with
  | none => rw [hr7] at hv; cases hv
  | some b7 =>
    rw [hr7] at hv
    simp only [Option.bind_some] at hv
    refine mE.iald (v := .int b7) rfl ta (iget_ix hr7) ?_
    refine mE.sn 5 (g' := (11, [some (.ref a), some (.int p), some (.ref b), some (.int p2), some (.int b7), none, none], [.int (p2 + 1), .ref b], (h, q))) rfl ?_
    cases hr8 : iget bs (p2 + 1) with
    | none => rw [hr8] at hv; cases hv
    | some b8 =>
      rw [hr8] at hv
      simp only [Option.bind_some] at hv
      refine mE.iald (v := .int b8) rfl tb (iget_ix hr8) ?_
      refine mE.sn 3 (g' := (17, [some (.ref a), some (.int p), some (.ref b), some (.int p2), some (.int b7), some (.int b8), some (.int 2)], [], (h, q))) rfl ?_
      exact r_strings_l_ok ta tb _ _ _ _ _ _ v hv
def r_named_l (as : List Int32) (bs : List Int32) : Nat → Int32 → Int32 → Int32 → Option Int32
  | 0, _, _, _ => none
  | n + 1, l1, l3, l4 => ((r_next as l1).bind fun r1 => (if r1 ≤ l4 then some (-1) else ((r_strings as bs l4 l3).bind fun r3 => (if r3 = 0 then ((r_next as l4).bind fun r5 => some r5) else ((r_next as l4).bind fun r6 => ((r_next as r6).bind fun r7 => r_named_l as bs n l1 l3 r7))))))
theorem r_named_l_ok (ta : h[a]? = some (1001, as.map Value.int)) (tb : h[b]? = some (1001, bs.map Value.int)) : ∀ (n : Nat) (l1 : Int32) (l3 : Int32) (l4 : Int32) (v : Int32), r_named_l as bs n l1 l3 l4 = some v → mE (d + 2) mm219 (5, [some (.ref a), some (.int l1), some (.ref b), some (.int l3), some (.int l4)], [], (h, q)) (.returned (some (.int v)), (h, q)) := by
  intro n
  induction n with
  | zero => intro l1 l3 l4 v hv; cases hv
  | succ n ih =>
    intro l1 l3 l4 v hv
    unfold r_named_l at hv
    refine mE.sn 3 (g' := (9, [some (.ref a), some (.int l1), some (.ref b), some (.int l3), some (.int l4)], [.int l1, .ref a, .int l4], (h, q))) rfl ?_
    cases hr1 : r_next as l1 with
    | none => rw [hr1] at hv; cases hv
    | some r1 =>
      rw [hr1] at hv
      simp only [Option.bind_some] at hv
      refine mE.call rfl rfl rfl rfl rfl (x199 ta hr1) ?_
      refine mE.br (g1 := (48, [some (.ref a), some (.int l1), some (.ref b), some (.int l3), some (.int l4)], [], (h, q))) (g2 := (15, [some (.ref a), some (.int l1), some (.ref b), some (.int l3), some (.int l4)], [], (h, q))) (c := r1 ≤ l4) rfl (fun hc2 => ?_) (fun hc2 => ?_)
      · rw [if_pos hc2] at hv
        refine mE.sn 1 (g' := (49, [some (.ref a), some (.int l1), some (.ref b), some (.int l3), some (.int l4)], [.int (-1)], (h, q))) rfl ?_
        cases hv
        exact m_ev.fin rfl
      · rw [if_neg hc2] at hv
        refine mE.sn 4 (g' := (20, [some (.ref a), some (.int l1), some (.ref b), some (.int l3), some (.int l4)], [.int l3, .ref b, .int l4, .ref a], (h, q))) rfl ?_
        cases hr3 : r_strings as bs l4 l3 with
        | none => rw [hr3] at hv; cases hv
        | some r3 =>
          rw [hr3] at hv
          simp only [Option.bind_some] at hv
          refine mE.call rfl rfl rfl rfl rfl (x198 ta tb hr3) ?_
          refine mE.br (g1 := (26, [some (.ref a), some (.int l1), some (.ref b), some (.int l3), some (.int l4)], [], (h, q))) (g2 := (33, [some (.ref a), some (.int l1), some (.ref b), some (.int l3), some (.int l4)], [], (h, q))) (c := r3 = 0) rfl (fun hc4 => ?_) (fun hc4 => ?_)
          · rw [if_pos hc4] at hv
            refine mE.sn 2 (g' := (29, [some (.ref a), some (.int l1), some (.ref b), some (.int l3), some (.int l4)], [.int l4, .ref a], (h, q))) rfl ?_
            cases hr5 : r_next as l4 with
            | none => rw [hr5] at hv; cases hv
            | some r5 =>
              rw [hr5] at hv
              simp only [Option.bind_some] at hv
              refine mE.call rfl rfl rfl rfl rfl (x199 ta hr5) ?_
              cases hv
              exact m_ev.fin rfl
          · rw [if_neg hc4] at hv
            refine mE.sn 3 (g' := (37, [some (.ref a), some (.int l1), some (.ref b), some (.int l3), some (.int l4)], [.int l4, .ref a, .ref a], (h, q))) rfl ?_
            cases hr6 : r_next as l4 with
            | none => rw [hr6] at hv; cases hv
            | some r6 =>
              rw [hr6] at hv
              simp only [Option.bind_some] at hv
              refine mE.call rfl rfl rfl rfl rfl (x199 ta hr6) ?_
              cases hr7 : r_next as r6 with
              | none => rw [hr7] at hv; cases hv
              | some r7 =>
                rw [hr7] at hv
                simp only [Option.bind_some] at hv
                refine mE.call rfl rfl rfl rfl rfl (x199 ta hr7) ?_
                refine mE.sn 2 (g' := (5, [some (.ref a), some (.int l1), some (.ref b), some (.int l3), some (.int r7)], [], (h, q))) rfl ?_
                exact ih _ _ _ v hv
def r_named (as : List Int32) (bs : List Int32) (p : Int32) (p2 : Int32) : Option Int32 := r_named_l as bs 10000 p p2 (p + 2)
theorem x219 (ta : h[a]? = some (1001, as.map Value.int)) (tb : h[b]? = some (1001, bs.map Value.int)) {p : Int32} {p2 : Int32} {v : Int32} (hv : r_named as bs p p2 = some v) : mE (d + 2) mm219 (0, [some (.ref a), some (.int p), some (.ref b), some (.int p2), none], [], (h, q)) (.returned (some (.int v)), (h, q)) := by
  unfold r_named at hv
  refine mE.sn 4 (g' := (5, [some (.ref a), some (.int p), some (.ref b), some (.int p2), some (.int (p + 2))], [], (h, q))) rfl ?_
  exact r_named_l_ok ta tb _ _ _ _ v hv
def r_nameAfter_l (as : List Int32) : Nat → Int32 → Int32 → Int32 → Int32 → Option Int32
  | 0, _, _, _, _ => none
  | n + 1, l1, l2, l3, l4 => ((r_next as l1).bind fun r1 => (if r1 ≤ l4 then some l3 else (if l2 = (-1 : Int32) then (if l3 = (-1 : Int32) then ((r_next as l4).bind fun r5 => ((r_next as r5).bind fun r6 => r_nameAfter_l as n l1 l2 l4 r6)) else ((r_strings as as l4 l3).bind fun r7 => (if 0 ≤ r7 then ((r_next as l4).bind fun r9 => ((r_next as r9).bind fun r10 => r_nameAfter_l as n l1 l2 l3 r10)) else ((r_next as l4).bind fun r11 => ((r_next as r11).bind fun r12 => r_nameAfter_l as n l1 l2 l4 r12))))) else ((r_strings as as l4 l2).bind fun r13 => (if 0 < r13 then (if l3 = (-1 : Int32) then ((r_next as l4).bind fun r16 => ((r_next as r16).bind fun r17 => r_nameAfter_l as n l1 l2 l4 r17)) else ((r_strings as as l4 l3).bind fun r18 => (if 0 ≤ r18 then ((r_next as l4).bind fun r20 => ((r_next as r20).bind fun r21 => r_nameAfter_l as n l1 l2 l3 r21)) else ((r_next as l4).bind fun r22 => ((r_next as r22).bind fun r23 => r_nameAfter_l as n l1 l2 l4 r23))))) else ((r_next as l4).bind fun r24 => ((r_next as r24).bind fun r25 => r_nameAfter_l as n l1 l2 l3 r25)))))))
theorem r_nameAfter_l_ok (ta : h[a]? = some (1001, as.map Value.int)) : ∀ (n : Nat) (l1 : Int32) (l2 : Int32) (l3 : Int32) (l4 : Int32) (v : Int32), r_nameAfter_l as n l1 l2 l3 l4 = some v → mE (d + 2) mm218 (7, [some (.ref a), some (.int l1), some (.int l2), some (.int l3), some (.int l4)], [], (h, q)) (.returned (some (.int v)), (h, q)) := by
  intro n
  induction n with
  | zero => intro l1 l2 l3 l4 v hv; cases hv
  | succ n ih =>
    intro l1 l2 l3 l4 v hv
    unfold r_nameAfter_l at hv
    refine mE.sn 3 (g' := (11, [some (.ref a), some (.int l1), some (.int l2), some (.int l3), some (.int l4)], [.int l1, .ref a, .int l4], (h, q))) rfl ?_
    cases hr1 : r_next as l1 with
    | none => rw [hr1] at hv; cases hv
    | some r1 =>
      rw [hr1] at hv
      simp only [Option.bind_some] at hv
      refine mE.call rfl rfl rfl rfl rfl (x199 ta hr1) ?_
      refine mE.br (g1 := (70, [some (.ref a), some (.int l1), some (.int l2), some (.int l3), some (.int l4)], [], (h, q))) (g2 := (17, [some (.ref a), some (.int l1), some (.int l2), some (.int l3), some (.int l4)], [], (h, q))) (c := r1 ≤ l4) rfl (fun hc2 => ?_) (fun hc2 => ?_)
      · rw [if_pos hc2] at hv
        refine mE.sn 1 (g' := (71, [some (.ref a), some (.int l1), some (.int l2), some (.int l3), some (.int l4)], [.int l3], (h, q))) rfl ?_
        cases hv
        exact m_ev.fin rfl
      · rw [if_neg hc2] at hv
        refine mE.sn 2 (g' := (19, [some (.ref a), some (.int l1), some (.int l2), some (.int l3), some (.int l4)], [.int (-1), .int l2], (h, q))) rfl ?_
        refine mE.br (g1 := (36, [some (.ref a), some (.int l1), some (.int l2), some (.int l3), some (.int l4)], [], (h, q))) (g2 := (22, [some (.ref a), some (.int l1), some (.int l2), some (.int l3), some (.int l4)], [], (h, q))) (c := l2 = (-1 : Int32)) rfl (fun hc3 => ?_) (fun hc3 => ?_)
        · rw [if_pos hc3] at hv
          refine mE.sn 2 (g' := (38, [some (.ref a), some (.int l1), some (.int l2), some (.int l3), some (.int l4)], [.int (-1), .int l3], (h, q))) rfl ?_
          refine mE.br (g1 := (52, [some (.ref a), some (.int l1), some (.int l2), some (.int l3), some (.int l4)], [], (h, q))) (g2 := (41, [some (.ref a), some (.int l1), some (.int l2), some (.int l3), some (.int l4)], [], (h, q))) (c := l3 = (-1 : Int32)) rfl (fun hc4 => ?_) (fun hc4 => ?_)
          · rw [if_pos hc4] at hv
            refine mE.sn 5 (g' := (59, [some (.ref a), some (.int l1), some (.int l2), some (.int l4), some (.int l4)], [.int l4, .ref a, .ref a], (h, q))) rfl ?_
            cases hr5 : r_next as l4 with
            | none => rw [hr5] at hv; cases hv
            | some r5 =>
              rw [hr5] at hv
              simp only [Option.bind_some] at hv
              refine mE.call rfl rfl rfl rfl rfl (x199 ta hr5) ?_
              cases hr6 : r_next as r5 with
              | none => rw [hr6] at hv; cases hv
              | some r6 =>
                rw [hr6] at hv
                simp only [Option.bind_some] at hv
                refine mE.call rfl rfl rfl rfl rfl (x199 ta hr6) ?_
                refine mE.sn 2 (g' := (7, [some (.ref a), some (.int l1), some (.int l2), some (.int l4), some (.int r6)], [], (h, q))) rfl ?_
                exact ih _ _ _ _ v hv
          · rw [if_neg hc4] at hv
            refine mE.sn 4 (g' := (46, [some (.ref a), some (.int l1), some (.int l2), some (.int l3), some (.int l4)], [.int l3, .ref a, .int l4, .ref a], (h, q))) rfl ?_
            cases hr7 : r_strings as as l4 l3 with
            | none => rw [hr7] at hv; cases hv
            | some r7 =>
              rw [hr7] at hv
              simp only [Option.bind_some] at hv
              refine mE.call rfl rfl rfl rfl rfl (x198 ta ta hr7) ?_
              refine mE.br (g1 := (55, [some (.ref a), some (.int l1), some (.int l2), some (.int l3), some (.int l4)], [], (h, q))) (g2 := (52, [some (.ref a), some (.int l1), some (.int l2), some (.int l3), some (.int l4)], [], (h, q))) (c := 0 ≤ r7) rfl (fun hc8 => ?_) (fun hc8 => ?_)
              · rw [if_pos hc8] at hv
                refine mE.sn 3 (g' := (59, [some (.ref a), some (.int l1), some (.int l2), some (.int l3), some (.int l4)], [.int l4, .ref a, .ref a], (h, q))) rfl ?_
                cases hr9 : r_next as l4 with
                | none => rw [hr9] at hv; cases hv
                | some r9 =>
                  rw [hr9] at hv
                  simp only [Option.bind_some] at hv
                  refine mE.call rfl rfl rfl rfl rfl (x199 ta hr9) ?_
                  cases hr10 : r_next as r9 with
                  | none => rw [hr10] at hv; cases hv
                  | some r10 =>
                    rw [hr10] at hv
                    simp only [Option.bind_some] at hv
                    refine mE.call rfl rfl rfl rfl rfl (x199 ta hr10) ?_
                    refine mE.sn 2 (g' := (7, [some (.ref a), some (.int l1), some (.int l2), some (.int l3), some (.int r10)], [], (h, q))) rfl ?_
                    exact ih _ _ _ _ v hv
              · rw [if_neg hc8] at hv
                refine mE.sn 5 (g' := (59, [some (.ref a), some (.int l1), some (.int l2), some (.int l4), some (.int l4)], [.int l4, .ref a, .ref a], (h, q))) rfl ?_
                cases hr11 : r_next as l4 with
                | none => rw [hr11] at hv; cases hv
                | some r11 =>
                  rw [hr11] at hv
                  simp only [Option.bind_some] at hv
                  refine mE.call rfl rfl rfl rfl rfl (x199 ta hr11) ?_
                  cases hr12 : r_next as r11 with
                  | none => rw [hr12] at hv; cases hv
                  | some r12 =>
                    rw [hr12] at hv
                    simp only [Option.bind_some] at hv
                    refine mE.call rfl rfl rfl rfl rfl (x199 ta hr12) ?_
                    refine mE.sn 2 (g' := (7, [some (.ref a), some (.int l1), some (.int l2), some (.int l4), some (.int r12)], [], (h, q))) rfl ?_
                    exact ih _ _ _ _ v hv
        · rw [if_neg hc3] at hv
          refine mE.sn 4 (g' := (27, [some (.ref a), some (.int l1), some (.int l2), some (.int l3), some (.int l4)], [.int l2, .ref a, .int l4, .ref a], (h, q))) rfl ?_
          cases hr13 : r_strings as as l4 l2 with
          | none => rw [hr13] at hv; cases hv
          | some r13 =>
            rw [hr13] at hv
            simp only [Option.bind_some] at hv
            refine mE.call rfl rfl rfl rfl rfl (x198 ta ta hr13) ?_
            refine mE.br (g1 := (36, [some (.ref a), some (.int l1), some (.int l2), some (.int l3), some (.int l4)], [], (h, q))) (g2 := (33, [some (.ref a), some (.int l1), some (.int l2), some (.int l3), some (.int l4)], [], (h, q))) (c := 0 < r13) rfl (fun hc14 => ?_) (fun hc14 => ?_)
            · rw [if_pos hc14] at hv
              refine mE.sn 2 (g' := (38, [some (.ref a), some (.int l1), some (.int l2), some (.int l3), some (.int l4)], [.int (-1), .int l3], (h, q))) rfl ?_
              refine mE.br (g1 := (52, [some (.ref a), some (.int l1), some (.int l2), some (.int l3), some (.int l4)], [], (h, q))) (g2 := (41, [some (.ref a), some (.int l1), some (.int l2), some (.int l3), some (.int l4)], [], (h, q))) (c := l3 = (-1 : Int32)) rfl (fun hc15 => ?_) (fun hc15 => ?_)
              · rw [if_pos hc15] at hv
                refine mE.sn 5 (g' := (59, [some (.ref a), some (.int l1), some (.int l2), some (.int l4), some (.int l4)], [.int l4, .ref a, .ref a], (h, q))) rfl ?_
                cases hr16 : r_next as l4 with
                | none => rw [hr16] at hv; cases hv
                | some r16 =>
                  rw [hr16] at hv
                  simp only [Option.bind_some] at hv
                  refine mE.call rfl rfl rfl rfl rfl (x199 ta hr16) ?_
                  cases hr17 : r_next as r16 with
                  | none => rw [hr17] at hv; cases hv
                  | some r17 =>
                    rw [hr17] at hv
                    simp only [Option.bind_some] at hv
                    refine mE.call rfl rfl rfl rfl rfl (x199 ta hr17) ?_
                    refine mE.sn 2 (g' := (7, [some (.ref a), some (.int l1), some (.int l2), some (.int l4), some (.int r17)], [], (h, q))) rfl ?_
                    exact ih _ _ _ _ v hv
              · rw [if_neg hc15] at hv
                refine mE.sn 4 (g' := (46, [some (.ref a), some (.int l1), some (.int l2), some (.int l3), some (.int l4)], [.int l3, .ref a, .int l4, .ref a], (h, q))) rfl ?_
                cases hr18 : r_strings as as l4 l3 with
                | none => rw [hr18] at hv; cases hv
                | some r18 =>
                  rw [hr18] at hv
                  simp only [Option.bind_some] at hv
                  refine mE.call rfl rfl rfl rfl rfl (x198 ta ta hr18) ?_
                  refine mE.br (g1 := (55, [some (.ref a), some (.int l1), some (.int l2), some (.int l3), some (.int l4)], [], (h, q))) (g2 := (52, [some (.ref a), some (.int l1), some (.int l2), some (.int l3), some (.int l4)], [], (h, q))) (c := 0 ≤ r18) rfl (fun hc19 => ?_) (fun hc19 => ?_)
                  · rw [if_pos hc19] at hv
                    refine mE.sn 3 (g' := (59, [some (.ref a), some (.int l1), some (.int l2), some (.int l3), some (.int l4)], [.int l4, .ref a, .ref a], (h, q))) rfl ?_
                    cases hr20 : r_next as l4 with
                    | none => rw [hr20] at hv; cases hv
                    | some r20 =>
                      rw [hr20] at hv
                      simp only [Option.bind_some] at hv
                      refine mE.call rfl rfl rfl rfl rfl (x199 ta hr20) ?_
                      cases hr21 : r_next as r20 with
                      | none => rw [hr21] at hv; cases hv
                      | some r21 =>
                        rw [hr21] at hv
                        simp only [Option.bind_some] at hv
                        refine mE.call rfl rfl rfl rfl rfl (x199 ta hr21) ?_
                        refine mE.sn 2 (g' := (7, [some (.ref a), some (.int l1), some (.int l2), some (.int l3), some (.int r21)], [], (h, q))) rfl ?_
                        exact ih _ _ _ _ v hv
                  · rw [if_neg hc19] at hv
                    refine mE.sn 5 (g' := (59, [some (.ref a), some (.int l1), some (.int l2), some (.int l4), some (.int l4)], [.int l4, .ref a, .ref a], (h, q))) rfl ?_
                    cases hr22 : r_next as l4 with
                    | none => rw [hr22] at hv; cases hv
                    | some r22 =>
                      rw [hr22] at hv
                      simp only [Option.bind_some] at hv
                      refine mE.call rfl rfl rfl rfl rfl (x199 ta hr22) ?_
                      cases hr23 : r_next as r22 with
                      | none => rw [hr23] at hv; cases hv
                      | some r23 =>
                        rw [hr23] at hv
                        simp only [Option.bind_some] at hv
                        refine mE.call rfl rfl rfl rfl rfl (x199 ta hr23) ?_
                        refine mE.sn 2 (g' := (7, [some (.ref a), some (.int l1), some (.int l2), some (.int l4), some (.int r23)], [], (h, q))) rfl ?_
                        exact ih _ _ _ _ v hv
            · rw [if_neg hc14] at hv
              refine mE.sn 4 (g' := (59, [some (.ref a), some (.int l1), some (.int l2), some (.int l3), some (.int l4)], [.int l4, .ref a, .ref a], (h, q))) rfl ?_
              cases hr24 : r_next as l4 with
              | none => rw [hr24] at hv; cases hv
              | some r24 =>
                rw [hr24] at hv
                simp only [Option.bind_some] at hv
                refine mE.call rfl rfl rfl rfl rfl (x199 ta hr24) ?_
                cases hr25 : r_next as r24 with
                | none => rw [hr25] at hv; cases hv
                | some r25 =>
                  rw [hr25] at hv
                  simp only [Option.bind_some] at hv
                  refine mE.call rfl rfl rfl rfl rfl (x199 ta hr25) ?_
                  refine mE.sn 2 (g' := (7, [some (.ref a), some (.int l1), some (.int l2), some (.int l3), some (.int r25)], [], (h, q))) rfl ?_
                  exact ih _ _ _ _ v hv
def r_nameAfter (as : List Int32) (p : Int32) (l : Int32) : Option Int32 := r_nameAfter_l as 10000 p l (-1) (p + 2)
theorem x218 (ta : h[a]? = some (1001, as.map Value.int)) {p : Int32} {l : Int32} {v : Int32} (hv : r_nameAfter as p l = some v) : mE (d + 2) mm218 (0, [some (.ref a), some (.int p), some (.int l), none, none], [], (h, q)) (.returned (some (.int v)), (h, q)) := by
  unfold r_nameAfter at hv
  refine mE.sn 6 (g' := (7, [some (.ref a), some (.int p), some (.int l), some (.int (-1)), some (.int (p + 2))], [], (h, q))) rfl ?_
  exact r_nameAfter_l_ok ta _ _ _ _ _ v hv
end Ref95
end

section
/-! PRINTED BY wip/whole/t96.py: how the reference compares. -/
section Ref96
variable {d : Nat} {h : mH} {q : Nat × Nat} {a b : Nat} {as bs : List Int32}
def r_arrays_l (as : List Int32) (bs : List Int32) (rec : Int32 → Int32 → Option Int32) : Nat → Int32 → Int32 → Int32 → Int32 → Option Int32
  | 0, _, _, _, _ => none
  | n + 1, l1, l3, l4, l5 => ((r_next as l1).bind fun r1 => (if r1 ≤ l4 then ((r_next bs l3).bind fun r3 => (if r3 ≤ l5 then some 0 else some (-1))) else ((r_next bs l3).bind fun r5 => (if r5 ≤ l5 then some 1 else ((rec l4 l5).bind fun r7 => (if r7 = 0 then ((r_next as l4).bind fun r9 => ((r_next bs l5).bind fun r10 => r_arrays_l as bs rec n l1 l3 r9 r10)) else some r7))))))
theorem r_arrays_l_ok (ta : h[a]? = some (1001, as.map Value.int)) (tb : h[b]? = some (1001, bs.map Value.int)) {rec : Int32 → Int32 → Option Int32} (hrec : ∀ (e : Nat), d ≤ e → ∀ (p p2 v : Int32), rec p p2 = some v → mE e mm215 (0, [some (.ref a), some (.int p), some (.ref b), some (.int p2)], [], (h, q)) (.returned (some (.int v)), (h, q))) : ∀ (n : Nat) (l1 : Int32) (l3 : Int32) (l4 : Int32) (l5 : Int32) (x6 : Option Value) (v : Int32), r_arrays_l as bs rec n l1 l3 l4 l5 = some v → mE (d + 1) mm216 (10, [some (.ref a), some (.int l1), some (.ref b), some (.int l3), some (.int l4), some (.int l5), x6], [], (h, q)) (.returned (some (.int v)), (h, q)) := by
  intro n
  induction n with
  | zero => intro l1 l3 l4 l5 x6 v hv; cases hv
  | succ n ih =>
    intro l1 l3 l4 l5 x6 v hv
    unfold r_arrays_l at hv
    refine mE.sn 3 (g' := (14, [some (.ref a), some (.int l1), some (.ref b), some (.int l3), some (.int l4), some (.int l5), x6], [.int l1, .ref a, .int l4], (h, q))) rfl ?_
    cases hr1 : r_next as l1 with
    | none => rw [hr1] at hv; cases hv
    | some r1 =>
      rw [hr1] at hv
      simp only [Option.bind_some] at hv
      refine mE.call rfl rfl rfl rfl rfl (x199 ta hr1) ?_
      refine mE.br (g1 := (68, [some (.ref a), some (.int l1), some (.ref b), some (.int l3), some (.int l4), some (.int l5), x6], [], (h, q))) (g2 := (20, [some (.ref a), some (.int l1), some (.ref b), some (.int l3), some (.int l4), some (.int l5), x6], [], (h, q))) (c := r1 ≤ l4) rfl (fun hc2 => ?_) (fun hc2 => ?_)
      · rw [if_pos hc2] at hv
        refine mE.sn 3 (g' := (72, [some (.ref a), some (.int l1), some (.ref b), some (.int l3), some (.int l4), some (.int l5), x6], [.int l1, .ref a, .int l4], (h, q))) rfl ?_
        refine mE.call rfl rfl rfl rfl rfl (x199 ta hr1) ?_
        refine mE.yes (g1 := (82, [some (.ref a), some (.int l1), some (.ref b), some (.int l3), some (.int l4), some (.int l5), x6], [], (h, q))) (g2 := (78, [some (.ref a), some (.int l1), some (.ref b), some (.int l3), some (.int l4), some (.int l5), x6], [], (h, q))) (c := r1 ≤ l4) rfl hc2 ?_
        refine mE.sn 3 (g' := (86, [some (.ref a), some (.int l1), some (.ref b), some (.int l3), some (.int l4), some (.int l5), x6], [.int l3, .ref b, .int l5], (h, q))) rfl ?_
        cases hr3 : r_next bs l3 with
        | none => rw [hr3] at hv; cases hv
        | some r3 =>
          rw [hr3] at hv
          simp only [Option.bind_some] at hv
          refine mE.call rfl rfl rfl rfl rfl (x199 tb hr3) ?_
          refine mE.br (g1 := (96, [some (.ref a), some (.int l1), some (.ref b), some (.int l3), some (.int l4), some (.int l5), x6], [], (h, q))) (g2 := (92, [some (.ref a), some (.int l1), some (.ref b), some (.int l3), some (.int l4), some (.int l5), x6], [], (h, q))) (c := r3 ≤ l5) rfl (fun hc4 => ?_) (fun hc4 => ?_)
          · rw [if_pos hc4] at hv
            refine mE.sn 1 (g' := (97, [some (.ref a), some (.int l1), some (.ref b), some (.int l3), some (.int l4), some (.int l5), x6], [.int 0], (h, q))) rfl ?_
            cases hv
            exact m_ev.fin rfl
          · rw [if_neg hc4] at hv
            refine mE.sn 2 (g' := (97, [some (.ref a), some (.int l1), some (.ref b), some (.int l3), some (.int l4), some (.int l5), x6], [.int (-1)], (h, q))) rfl ?_
            cases hv
            exact m_ev.fin rfl
      · rw [if_neg hc2] at hv
        refine mE.sn 3 (g' := (24, [some (.ref a), some (.int l1), some (.ref b), some (.int l3), some (.int l4), some (.int l5), x6], [.int l3, .ref b, .int l5], (h, q))) rfl ?_
        cases hr5 : r_next bs l3 with
        | none => rw [hr5] at hv; cases hv
        | some r5 =>
          rw [hr5] at hv
          simp only [Option.bind_some] at hv
          refine mE.call rfl rfl rfl rfl rfl (x199 tb hr5) ?_
          refine mE.br (g1 := (68, [some (.ref a), some (.int l1), some (.ref b), some (.int l3), some (.int l4), some (.int l5), x6], [], (h, q))) (g2 := (30, [some (.ref a), some (.int l1), some (.ref b), some (.int l3), some (.int l4), some (.int l5), x6], [], (h, q))) (c := r5 ≤ l5) rfl (fun hc6 => ?_) (fun hc6 => ?_)
          · rw [if_pos hc6] at hv
            refine mE.sn 3 (g' := (72, [some (.ref a), some (.int l1), some (.ref b), some (.int l3), some (.int l4), some (.int l5), x6], [.int l1, .ref a, .int l4], (h, q))) rfl ?_
            refine mE.call rfl rfl rfl rfl rfl (x199 ta hr1) ?_
            refine mE.no (g1 := (82, [some (.ref a), some (.int l1), some (.ref b), some (.int l3), some (.int l4), some (.int l5), x6], [], (h, q))) (g2 := (78, [some (.ref a), some (.int l1), some (.ref b), some (.int l3), some (.int l4), some (.int l5), x6], [], (h, q))) (c := r1 ≤ l4) rfl hc2 ?_
            refine mE.sn 2 (g' := (97, [some (.ref a), some (.int l1), some (.ref b), some (.int l3), some (.int l4), some (.int l5), x6], [.int 1], (h, q))) rfl ?_
            cases hv
            exact m_ev.fin rfl
          · rw [if_neg hc6] at hv
            refine mE.sn 4 (g' := (36, [some (.ref a), some (.int l1), some (.ref b), some (.int l3), some (.int l4), some (.int l5), x6], [.int l5, .ref b, .int l4, .ref a], (h, q))) rfl ?_
            cases hr7 : rec l4 l5 with
            | none => rw [hr7] at hv; cases hv
            | some r7 =>
              rw [hr7] at hv
              simp only [Option.bind_some] at hv
              refine mE.call rfl rfl rfl rfl rfl (hrec _ (by omega) _ _ _ hr7) ?_
              refine mE.sn 2 (g' := (43, [some (.ref a), some (.int l1), some (.ref b), some (.int l3), some (.int l4), some (.int l5), some (.int r7)], [.int r7], (h, q))) rfl ?_
              refine mE.br (g1 := (49, [some (.ref a), some (.int l1), some (.ref b), some (.int l3), some (.int l4), some (.int l5), some (.int r7)], [], (h, q))) (g2 := (46, [some (.ref a), some (.int l1), some (.ref b), some (.int l3), some (.int l4), some (.int l5), some (.int r7)], [], (h, q))) (c := r7 = 0) rfl (fun hc8 => ?_) (fun hc8 => ?_)
              · rw [if_pos hc8] at hv
                refine mE.sn 2 (g' := (52, [some (.ref a), some (.int l1), some (.ref b), some (.int l3), some (.int l4), some (.int l5), some (.int r7)], [.int l4, .ref a], (h, q))) rfl ?_
                cases hr9 : r_next as l4 with
                | none => rw [hr9] at hv; cases hv
                | some r9 =>
                  rw [hr9] at hv
                  simp only [Option.bind_some] at hv
                  refine mE.call rfl rfl rfl rfl rfl (x199 ta hr9) ?_
                  refine mE.sn 3 (g' := (60, [some (.ref a), some (.int l1), some (.ref b), some (.int l3), some (.int r9), some (.int l5), some (.int r7)], [.int l5, .ref b], (h, q))) rfl ?_
                  cases hr10 : r_next bs l5 with
                  | none => rw [hr10] at hv; cases hv
                  | some r10 =>
                    rw [hr10] at hv
                    simp only [Option.bind_some] at hv
                    refine mE.call rfl rfl rfl rfl rfl (x199 tb hr10) ?_
                    refine mE.sn 2 (g' := (10, [some (.ref a), some (.int l1), some (.ref b), some (.int l3), some (.int r9), some (.int r10), some (.int r7)], [], (h, q))) rfl ?_
                    exact ih _ _ _ _ _ v hv
              · rw [if_neg hc8] at hv
                refine mE.sn 1 (g' := (48, [some (.ref a), some (.int l1), some (.ref b), some (.int l3), some (.int l4), some (.int l5), some (.int r7)], [.int r7], (h, q))) rfl ?_
                cases hv
                exact m_ev.fin rfl
def r_arrays (as : List Int32) (bs : List Int32) (rec : Int32 → Int32 → Option Int32) (p : Int32) (p2 : Int32) : Option Int32 := r_arrays_l as bs rec 10000 p p2 (p + 2) (p2 + 2)
theorem x216 (ta : h[a]? = some (1001, as.map Value.int)) (tb : h[b]? = some (1001, bs.map Value.int)) {rec : Int32 → Int32 → Option Int32} (hrec : ∀ (e : Nat), d ≤ e → ∀ (p p2 v : Int32), rec p p2 = some v → mE e mm215 (0, [some (.ref a), some (.int p), some (.ref b), some (.int p2)], [], (h, q)) (.returned (some (.int v)), (h, q))) {p : Int32} {p2 : Int32} {v : Int32} (hv : r_arrays as bs rec p p2 = some v) : mE (d + 1) mm216 (0, [some (.ref a), some (.int p), some (.ref b), some (.int p2), none, none, none], [], (h, q)) (.returned (some (.int v)), (h, q)) := by
  unfold r_arrays at hv
  refine mE.sn 8 (g' := (10, [some (.ref a), some (.int p), some (.ref b), some (.int p2), some (.int (p + 2)), some (.int (p2 + 2)), none], [], (h, q))) rfl ?_
  exact r_arrays_l_ok ta tb hrec _ _ _ _ _ _ v hv
def r_objects_l105 (as : List Int32) (bs : List Int32) (rec : Int32 → Int32 → Option Int32) : Nat → Int32 → Int32 → Int32 → Int32 → Option Int32
  | 0, _, _, _, _ => none
  | n + 1, l1, l3, l4, l5 => (if l4 = (-1 : Int32) then some 0 else ((r_next as l4).bind fun r2 => ((r_named bs as l3 l4).bind fun r3 => ((rec r2 r3).bind fun r4 => (if r4 = 0 then ((r_nameAfter as l1 l4).bind fun r6 => r_objects_l105 as bs rec n l1 l3 r6 l5) else some r4)))))
theorem r_objects_l105_ok (ta : h[a]? = some (1001, as.map Value.int)) (tb : h[b]? = some (1001, bs.map Value.int)) {rec : Int32 → Int32 → Option Int32} (hrec : ∀ (e : Nat), d ≤ e → ∀ (p p2 v : Int32), rec p p2 = some v → mE e mm215 (0, [some (.ref a), some (.int p), some (.ref b), some (.int p2)], [], (h, q)) (.returned (some (.int v)), (h, q))) : ∀ (n : Nat) (l1 : Int32) (l3 : Int32) (l4 : Int32) (l5 : Int32) (x6 : Option Value) (v : Int32), r_objects_l105 as bs rec n l1 l3 l4 l5 = some v → mE (d + 3) mm217 (105, [some (.ref a), some (.int l1), some (.ref b), some (.int l3), some (.int l4), some (.int l5), x6], [], (h, q)) (.returned (some (.int v)), (h, q)) := by
  intro n
  induction n with
  | zero => intro l1 l3 l4 l5 x6 v hv; cases hv
  | succ n ih =>
    intro l1 l3 l4 l5 x6 v hv
    unfold r_objects_l105 at hv
    refine mE.sn 2 (g' := (108, [some (.ref a), some (.int l1), some (.ref b), some (.int l3), some (.int l4), some (.int l5), x6], [.int (-1), .int l4], (h, q))) rfl ?_
    refine mE.br (g1 := (152, [some (.ref a), some (.int l1), some (.ref b), some (.int l3), some (.int l4), some (.int l5), x6], [], (h, q))) (g2 := (111, [some (.ref a), some (.int l1), some (.ref b), some (.int l3), some (.int l4), some (.int l5), x6], [], (h, q))) (c := l4 = (-1 : Int32)) rfl (fun hc1 => ?_) (fun hc1 => ?_)
    · rw [if_pos hc1] at hv
      refine mE.sn 1 (g' := (153, [some (.ref a), some (.int l1), some (.ref b), some (.int l3), some (.int l4), some (.int l5), x6], [.int 0], (h, q))) rfl ?_
      cases hv
      exact m_ev.fin rfl
    · rw [if_neg hc1] at hv
      refine mE.sn 3 (g' := (115, [some (.ref a), some (.int l1), some (.ref b), some (.int l3), some (.int l4), some (.int l5), x6], [.int l4, .ref a, .ref a], (h, q))) rfl ?_
      cases hr2 : r_next as l4 with
      | none => rw [hr2] at hv; cases hv
      | some r2 =>
        rw [hr2] at hv
        simp only [Option.bind_some] at hv
        refine mE.call rfl rfl rfl rfl rfl (x199 ta hr2) ?_
        refine mE.sn 5 (g' := (124, [some (.ref a), some (.int l1), some (.ref b), some (.int l3), some (.int l4), some (.int l5), x6], [.int l4, .ref a, .int l3, .ref b, .ref b, .int r2, .ref a], (h, q))) rfl ?_
        cases hr3 : r_named bs as l3 l4 with
        | none => rw [hr3] at hv; cases hv
        | some r3 =>
          rw [hr3] at hv
          simp only [Option.bind_some] at hv
          refine mE.call rfl rfl rfl rfl rfl (x219 tb ta hr3) ?_
          cases hr4 : rec r2 r3 with
          | none => rw [hr4] at hv; cases hv
          | some r4 =>
            rw [hr4] at hv
            simp only [Option.bind_some] at hv
            refine mE.call rfl rfl rfl rfl rfl (hrec _ (by omega) _ _ _ hr4) ?_
            refine mE.sn 2 (g' := (134, [some (.ref a), some (.int l1), some (.ref b), some (.int l3), some (.int l4), some (.int l5), some (.int r4)], [.int r4], (h, q))) rfl ?_
            refine mE.br (g1 := (140, [some (.ref a), some (.int l1), some (.ref b), some (.int l3), some (.int l4), some (.int l5), some (.int r4)], [], (h, q))) (g2 := (137, [some (.ref a), some (.int l1), some (.ref b), some (.int l3), some (.int l4), some (.int l5), some (.int r4)], [], (h, q))) (c := r4 = 0) rfl (fun hc5 => ?_) (fun hc5 => ?_)
            · rw [if_pos hc5] at hv
              refine mE.sn 3 (g' := (144, [some (.ref a), some (.int l1), some (.ref b), some (.int l3), some (.int l4), some (.int l5), some (.int r4)], [.int l4, .int l1, .ref a], (h, q))) rfl ?_
              cases hr6 : r_nameAfter as l1 l4 with
              | none => rw [hr6] at hv; cases hv
              | some r6 =>
                rw [hr6] at hv
                simp only [Option.bind_some] at hv
                refine mE.call rfl rfl rfl rfl rfl (x218 ta hr6) ?_
                refine mE.sn 2 (g' := (105, [some (.ref a), some (.int l1), some (.ref b), some (.int l3), some (.int r6), some (.int l5), some (.int r4)], [], (h, q))) rfl ?_
                exact ih _ _ _ _ _ v hv
            · rw [if_neg hc5] at hv
              refine mE.sn 1 (g' := (139, [some (.ref a), some (.int l1), some (.ref b), some (.int l3), some (.int l4), some (.int l5), some (.int r4)], [.int r4], (h, q))) rfl ?_
              cases hv
              exact m_ev.fin rfl
def r_objects_l16 (as : List Int32) (bs : List Int32) (rec : Int32 → Int32 → Option Int32) : Nat → Int32 → Int32 → Int32 → Int32 → Option Int32
  | 0, _, _, _, _ => none
  | n + 1, l1, l3, l4, l5 => (if l4 = (-1 : Int32) then (if l4 = l5 then ((r_nameAfter as l1 (-1)).bind fun r9 => r_objects_l105 as bs rec 10000 l1 l3 r9 l5) else some (-1)) else (if l5 = (-1 : Int32) then (if l4 = l5 then ((r_nameAfter as l1 (-1)).bind fun r12 => r_objects_l105 as bs rec 10000 l1 l3 r12 l5) else some 1) else ((r_strings as bs l4 l5).bind fun r13 => (if r13 = 0 then ((r_nameAfter as l1 l4).bind fun r15 => ((r_nameAfter bs l3 l5).bind fun r16 => r_objects_l16 as bs rec n l1 l3 r15 r16)) else some r13))))
theorem r_objects_l16_ok (ta : h[a]? = some (1001, as.map Value.int)) (tb : h[b]? = some (1001, bs.map Value.int)) {rec : Int32 → Int32 → Option Int32} (hrec : ∀ (e : Nat), d ≤ e → ∀ (p p2 v : Int32), rec p p2 = some v → mE e mm215 (0, [some (.ref a), some (.int p), some (.ref b), some (.int p2)], [], (h, q)) (.returned (some (.int v)), (h, q))) : ∀ (n : Nat) (l1 : Int32) (l3 : Int32) (l4 : Int32) (l5 : Int32) (x6 : Option Value) (v : Int32), r_objects_l16 as bs rec n l1 l3 l4 l5 = some v → mE (d + 3) mm217 (16, [some (.ref a), some (.int l1), some (.ref b), some (.int l3), some (.int l4), some (.int l5), x6], [], (h, q)) (.returned (some (.int v)), (h, q)) := by
  intro n
  induction n with
  | zero => intro l1 l3 l4 l5 x6 v hv; cases hv
  | succ n ih =>
    intro l1 l3 l4 l5 x6 v hv
    unfold r_objects_l16 at hv
    refine mE.sn 2 (g' := (19, [some (.ref a), some (.int l1), some (.ref b), some (.int l3), some (.int l4), some (.int l5), x6], [.int (-1), .int l4], (h, q))) rfl ?_
    refine mE.br (g1 := (68, [some (.ref a), some (.int l1), some (.ref b), some (.int l3), some (.int l4), some (.int l5), x6], [], (h, q))) (g2 := (22, [some (.ref a), some (.int l1), some (.ref b), some (.int l3), some (.int l4), some (.int l5), x6], [], (h, q))) (c := l4 = (-1 : Int32)) rfl (fun hc7 => ?_) (fun hc7 => ?_)
    · rw [if_pos hc7] at hv
      refine mE.sn 2 (g' := (72, [some (.ref a), some (.int l1), some (.ref b), some (.int l3), some (.int l4), some (.int l5), x6], [.int l5, .int l4], (h, q))) rfl ?_
      refine mE.br (g1 := (97, [some (.ref a), some (.int l1), some (.ref b), some (.int l3), some (.int l4), some (.int l5), x6], [], (h, q))) (g2 := (75, [some (.ref a), some (.int l1), some (.ref b), some (.int l3), some (.int l4), some (.int l5), x6], [], (h, q))) (c := l4 = l5) rfl (fun hc8 => ?_) (fun hc8 => ?_)
      · rw [if_pos hc8] at hv
        refine mE.sn 3 (g' := (100, [some (.ref a), some (.int l1), some (.ref b), some (.int l3), some (.int l4), some (.int l5), x6], [.int (-1), .int l1, .ref a], (h, q))) rfl ?_
        cases hr9 : r_nameAfter as l1 (-1) with
        | none => rw [hr9] at hv; cases hv
        | some r9 =>
          rw [hr9] at hv
          simp only [Option.bind_some] at hv
          refine mE.call rfl rfl rfl rfl rfl (x218 ta hr9) ?_
          refine mE.sn 1 (g' := (105, [some (.ref a), some (.int l1), some (.ref b), some (.int l3), some (.int r9), some (.int l5), x6], [], (h, q))) rfl ?_
          exact r_objects_l105_ok ta tb hrec _ _ _ _ _ _ v hv
      · rw [if_neg hc8] at hv
        refine mE.sn 2 (g' := (78, [some (.ref a), some (.int l1), some (.ref b), some (.int l3), some (.int l4), some (.int l5), x6], [.int (-1), .int l4], (h, q))) rfl ?_
        refine mE.yes (g1 := (81, [some (.ref a), some (.int l1), some (.ref b), some (.int l3), some (.int l4), some (.int l5), x6], [], (h, q))) (g2 := (85, [some (.ref a), some (.int l1), some (.ref b), some (.int l3), some (.int l4), some (.int l5), x6], [], (h, q))) (c := l4 = (-1 : Int32)) rfl hc7 ?_
        refine mE.sn 2 (g' := (96, [some (.ref a), some (.int l1), some (.ref b), some (.int l3), some (.int l4), some (.int l5), x6], [.int (-1)], (h, q))) rfl ?_
        cases hv
        exact m_ev.fin rfl
    · rw [if_neg hc7] at hv
      refine mE.sn 2 (g' := (25, [some (.ref a), some (.int l1), some (.ref b), some (.int l3), some (.int l4), some (.int l5), x6], [.int (-1), .int l5], (h, q))) rfl ?_
      refine mE.br (g1 := (68, [some (.ref a), some (.int l1), some (.ref b), some (.int l3), some (.int l4), some (.int l5), x6], [], (h, q))) (g2 := (28, [some (.ref a), some (.int l1), some (.ref b), some (.int l3), some (.int l4), some (.int l5), x6], [], (h, q))) (c := l5 = (-1 : Int32)) rfl (fun hc10 => ?_) (fun hc10 => ?_)
      · rw [if_pos hc10] at hv
        refine mE.sn 2 (g' := (72, [some (.ref a), some (.int l1), some (.ref b), some (.int l3), some (.int l4), some (.int l5), x6], [.int l5, .int l4], (h, q))) rfl ?_
        refine mE.br (g1 := (97, [some (.ref a), some (.int l1), some (.ref b), some (.int l3), some (.int l4), some (.int l5), x6], [], (h, q))) (g2 := (75, [some (.ref a), some (.int l1), some (.ref b), some (.int l3), some (.int l4), some (.int l5), x6], [], (h, q))) (c := l4 = l5) rfl (fun hc11 => ?_) (fun hc11 => ?_)
        · rw [if_pos hc11] at hv
          refine mE.sn 3 (g' := (100, [some (.ref a), some (.int l1), some (.ref b), some (.int l3), some (.int l4), some (.int l5), x6], [.int (-1), .int l1, .ref a], (h, q))) rfl ?_
          cases hr12 : r_nameAfter as l1 (-1) with
          | none => rw [hr12] at hv; cases hv
          | some r12 =>
            rw [hr12] at hv
            simp only [Option.bind_some] at hv
            refine mE.call rfl rfl rfl rfl rfl (x218 ta hr12) ?_
            refine mE.sn 1 (g' := (105, [some (.ref a), some (.int l1), some (.ref b), some (.int l3), some (.int r12), some (.int l5), x6], [], (h, q))) rfl ?_
            exact r_objects_l105_ok ta tb hrec _ _ _ _ _ _ v hv
        · rw [if_neg hc11] at hv
          refine mE.sn 2 (g' := (78, [some (.ref a), some (.int l1), some (.ref b), some (.int l3), some (.int l4), some (.int l5), x6], [.int (-1), .int l4], (h, q))) rfl ?_
          refine mE.no (g1 := (81, [some (.ref a), some (.int l1), some (.ref b), some (.int l3), some (.int l4), some (.int l5), x6], [], (h, q))) (g2 := (85, [some (.ref a), some (.int l1), some (.ref b), some (.int l3), some (.int l4), some (.int l5), x6], [], (h, q))) (c := l4 = (-1 : Int32)) rfl hc7 ?_
          refine mE.sn 2 (g' := (88, [some (.ref a), some (.int l1), some (.ref b), some (.int l3), some (.int l4), some (.int l5), x6], [.int (-1), .int l5], (h, q))) rfl ?_
          refine mE.yes (g1 := (91, [some (.ref a), some (.int l1), some (.ref b), some (.int l3), some (.int l4), some (.int l5), x6], [], (h, q))) (g2 := (95, [some (.ref a), some (.int l1), some (.ref b), some (.int l3), some (.int l4), some (.int l5), x6], [], (h, q))) (c := l5 = (-1 : Int32)) rfl hc10 ?_
          refine mE.sn 2 (g' := (96, [some (.ref a), some (.int l1), some (.ref b), some (.int l3), some (.int l4), some (.int l5), x6], [.int 1], (h, q))) rfl ?_
          cases hv
          exact m_ev.fin rfl
      · rw [if_neg hc10] at hv
        refine mE.sn 4 (g' := (34, [some (.ref a), some (.int l1), some (.ref b), some (.int l3), some (.int l4), some (.int l5), x6], [.int l5, .ref b, .int l4, .ref a], (h, q))) rfl ?_
        cases hr13 : r_strings as bs l4 l5 with
        | none => rw [hr13] at hv; cases hv
        | some r13 =>
          rw [hr13] at hv
          simp only [Option.bind_some] at hv
          refine mE.call rfl rfl rfl rfl rfl (x198 ta tb hr13) ?_
          refine mE.sn 2 (g' := (41, [some (.ref a), some (.int l1), some (.ref b), some (.int l3), some (.int l4), some (.int l5), some (.int r13)], [.int r13], (h, q))) rfl ?_
          refine mE.br (g1 := (47, [some (.ref a), some (.int l1), some (.ref b), some (.int l3), some (.int l4), some (.int l5), some (.int r13)], [], (h, q))) (g2 := (44, [some (.ref a), some (.int l1), some (.ref b), some (.int l3), some (.int l4), some (.int l5), some (.int r13)], [], (h, q))) (c := r13 = 0) rfl (fun hc14 => ?_) (fun hc14 => ?_)
          · rw [if_pos hc14] at hv
            refine mE.sn 3 (g' := (51, [some (.ref a), some (.int l1), some (.ref b), some (.int l3), some (.int l4), some (.int l5), some (.int r13)], [.int l4, .int l1, .ref a], (h, q))) rfl ?_
            cases hr15 : r_nameAfter as l1 l4 with
            | none => rw [hr15] at hv; cases hv
            | some r15 =>
              rw [hr15] at hv
              simp only [Option.bind_some] at hv
              refine mE.call rfl rfl rfl rfl rfl (x218 ta hr15) ?_
              refine mE.sn 4 (g' := (60, [some (.ref a), some (.int l1), some (.ref b), some (.int l3), some (.int r15), some (.int l5), some (.int r13)], [.int l5, .int l3, .ref b], (h, q))) rfl ?_
              cases hr16 : r_nameAfter bs l3 l5 with
              | none => rw [hr16] at hv; cases hv
              | some r16 =>
                rw [hr16] at hv
                simp only [Option.bind_some] at hv
                refine mE.call rfl rfl rfl rfl rfl (x218 tb hr16) ?_
                refine mE.sn 2 (g' := (16, [some (.ref a), some (.int l1), some (.ref b), some (.int l3), some (.int r15), some (.int r16), some (.int r13)], [], (h, q))) rfl ?_
                exact ih _ _ _ _ _ v hv
          · rw [if_neg hc14] at hv
            refine mE.sn 1 (g' := (46, [some (.ref a), some (.int l1), some (.ref b), some (.int l3), some (.int l4), some (.int l5), some (.int r13)], [.int r13], (h, q))) rfl ?_
            cases hv
            exact m_ev.fin rfl
def r_objects (as : List Int32) (bs : List Int32) (rec : Int32 → Int32 → Option Int32) (p : Int32) (p2 : Int32) : Option Int32 := ((r_nameAfter as p (-1)).bind fun r17 => ((r_nameAfter bs p2 (-1)).bind fun r18 => r_objects_l16 as bs rec 10000 p p2 r17 r18))
theorem x217 (ta : h[a]? = some (1001, as.map Value.int)) (tb : h[b]? = some (1001, bs.map Value.int)) {rec : Int32 → Int32 → Option Int32} (hrec : ∀ (e : Nat), d ≤ e → ∀ (p p2 v : Int32), rec p p2 = some v → mE e mm215 (0, [some (.ref a), some (.int p), some (.ref b), some (.int p2)], [], (h, q)) (.returned (some (.int v)), (h, q))) {p : Int32} {p2 : Int32} {v : Int32} (hv : r_objects as bs rec p p2 = some v) : mE (d + 3) mm217 (0, [some (.ref a), some (.int p), some (.ref b), some (.int p2), none, none, none], [], (h, q)) (.returned (some (.int v)), (h, q)) := by
  unfold r_objects at hv
  refine mE.sn 3 (g' := (3, [some (.ref a), some (.int p), some (.ref b), some (.int p2), none, none, none], [.int (-1), .int p, .ref a], (h, q))) rfl ?_
  cases hr17 : r_nameAfter as p (-1) with
  | none => rw [hr17] at hv; cases hv
  | some r17 =>
    rw [hr17] at hv
    simp only [Option.bind_some] at hv
    refine mE.call rfl rfl rfl rfl rfl (x218 ta hr17) ?_
    refine mE.sn 4 (g' := (11, [some (.ref a), some (.int p), some (.ref b), some (.int p2), some (.int r17), none, none], [.int (-1), .int p2, .ref b], (h, q))) rfl ?_
    cases hr18 : r_nameAfter bs p2 (-1) with
    | none => rw [hr18] at hv; cases hv
    | some r18 =>
      rw [hr18] at hv
      simp only [Option.bind_some] at hv
      refine mE.call rfl rfl rfl rfl rfl (x218 tb hr18) ?_
      refine mE.sn 1 (g' := (16, [some (.ref a), some (.int p), some (.ref b), some (.int p2), some (.int r17), some (.int r18), none], [], (h, q))) rfl ?_
      exact r_objects_l16_ok ta tb hrec _ _ _ _ _ _ v hv
def r_compareB (as : List Int32) (bs : List Int32) (rec : Int32 → Int32 → Option Int32) (p : Int32) (p2 : Int32) : Option Int32 := ((iget as p).bind fun b1 => ((iget bs p2).bind fun b2 => (if b1 = b2 then (if b1 = 3 then ((r_number as p).bind fun r5 => ((r_number bs p2).bind fun r6 => some (l_cmp r5 r6))) else (if b1 = 4 then ((r_strings as bs p p2).bind fun r8 => some r8) else (if b1 = 5 then ((r_arrays as bs rec p p2).bind fun r10 => some r10) else (if b1 = 6 then ((r_objects as bs rec p p2).bind fun r12 => some r12) else some 0)))) else (if b2 ≤ b1 then some 1 else some (-1)))))
theorem x215 (ta : h[a]? = some (1001, as.map Value.int)) (tb : h[b]? = some (1001, bs.map Value.int)) {rec : Int32 → Int32 → Option Int32} (hrec : ∀ (e : Nat), d ≤ e → ∀ (p p2 v : Int32), rec p p2 = some v → mE e mm215 (0, [some (.ref a), some (.int p), some (.ref b), some (.int p2)], [], (h, q)) (.returned (some (.int v)), (h, q))) {p : Int32} {p2 : Int32} {v : Int32} (hv : r_compareB as bs rec p p2 = some v) : mE (d + 4) mm215 (0, [some (.ref a), some (.int p), some (.ref b), some (.int p2)], [], (h, q)) (.returned (some (.int v)), (h, q)) := by
  unfold r_compareB at hv
  refine mE.sn 2 (g' := (2, [some (.ref a), some (.int p), some (.ref b), some (.int p2)], [.int p, .ref a], (h, q))) rfl ?_
  cases hr1 : iget as p with
  | none => rw [hr1] at hv; cases hv
  | some b1 =>
    rw [hr1] at hv
    simp only [Option.bind_some] at hv
    refine mE.iald (v := .int b1) rfl ta (iget_ix hr1) ?_
    refine mE.sn 2 (g' := (5, [some (.ref a), some (.int p), some (.ref b), some (.int p2)], [.int p2, .ref b, .int b1], (h, q))) rfl ?_
    cases hr2 : iget bs p2 with
    | none => rw [hr2] at hv; cases hv
    | some b2 =>
      rw [hr2] at hv
      simp only [Option.bind_some] at hv
      refine mE.iald (v := .int b2) rfl tb (iget_ix hr2) ?_
      refine mE.br (g1 := (24, [some (.ref a), some (.int p), some (.ref b), some (.int p2)], [], (h, q))) (g2 := (9, [some (.ref a), some (.int p), some (.ref b), some (.int p2)], [], (h, q))) (c := b1 = b2) rfl (fun hc3 => ?_) (fun hc3 => ?_)
      · rw [if_pos hc3] at hv
        refine mE.sn 2 (g' := (26, [some (.ref a), some (.int p), some (.ref b), some (.int p2)], [.int p, .ref a], (h, q))) rfl ?_
        refine mE.iald (v := .int b1) rfl ta (iget_ix hr1) ?_
        by_cases hc4 : b1 = 3
        · rw [if_pos hc4] at hv
          refine mE.sn 1 (g' := (56, [some (.ref a), some (.int p), some (.ref b), some (.int p2)], [], (h, q))) (by rw [hc4]; rfl) ?_
          refine mE.sn 2 (g' := (58, [some (.ref a), some (.int p), some (.ref b), some (.int p2)], [.int p, .ref a], (h, q))) rfl ?_
          cases hr5 : r_number as p with
          | none => rw [hr5] at hv; cases hv
          | some r5 =>
            rw [hr5] at hv
            simp only [Option.bind_some] at hv
            refine mE.call rfl rfl rfl rfl rfl (x208 ta hr5) ?_
            refine mE.sn 2 (g' := (63, [some (.ref a), some (.int p), some (.ref b), some (.int p2)], [.int p2, .ref b, .long r5], (h, q))) rfl ?_
            cases hr6 : r_number bs p2 with
            | none => rw [hr6] at hv; cases hv
            | some r6 =>
              rw [hr6] at hv
              simp only [Option.bind_some] at hv
              refine mE.call rfl rfl rfl rfl rfl (x208 tb hr6) ?_
              refine mE.call rfl rfl rfl rfl rfl (x137 r5 r6) ?_
              cases hv
              exact m_ev.fin rfl
        rw [if_neg hc4] at hv
        by_cases hc7 : b1 = 4
        · rw [if_pos hc7] at hv
          refine mE.sn 1 (g' := (70, [some (.ref a), some (.int p), some (.ref b), some (.int p2)], [], (h, q))) (by rw [hc7]; rfl) ?_
          refine mE.sn 4 (g' := (74, [some (.ref a), some (.int p), some (.ref b), some (.int p2)], [.int p2, .ref b, .int p, .ref a], (h, q))) rfl ?_
          cases hr8 : r_strings as bs p p2 with
          | none => rw [hr8] at hv; cases hv
          | some r8 =>
            rw [hr8] at hv
            simp only [Option.bind_some] at hv
            refine mE.call rfl rfl rfl rfl rfl (x198 ta tb hr8) ?_
            cases hv
            exact m_ev.fin rfl
        rw [if_neg hc7] at hv
        by_cases hc9 : b1 = 5
        · rw [if_pos hc9] at hv
          refine mE.sn 1 (g' := (78, [some (.ref a), some (.int p), some (.ref b), some (.int p2)], [], (h, q))) (by rw [hc9]; rfl) ?_
          refine mE.sn 4 (g' := (82, [some (.ref a), some (.int p), some (.ref b), some (.int p2)], [.int p2, .ref b, .int p, .ref a], (h, q))) rfl ?_
          cases hr10 : r_arrays as bs rec p p2 with
          | none => rw [hr10] at hv; cases hv
          | some r10 =>
            rw [hr10] at hv
            simp only [Option.bind_some] at hv
            refine mE.call rfl rfl rfl rfl rfl (x216 ta tb (fun e he => hrec e (by omega)) hr10) ?_
            cases hv
            exact m_ev.fin rfl
        rw [if_neg hc9] at hv
        by_cases hc11 : b1 = 6
        · rw [if_pos hc11] at hv
          refine mE.sn 1 (g' := (86, [some (.ref a), some (.int p), some (.ref b), some (.int p2)], [], (h, q))) (by rw [hc11]; rfl) ?_
          refine mE.sn 4 (g' := (90, [some (.ref a), some (.int p), some (.ref b), some (.int p2)], [.int p2, .ref b, .int p, .ref a], (h, q))) rfl ?_
          cases hr12 : r_objects as bs rec p p2 with
          | none => rw [hr12] at hv; cases hv
          | some r12 =>
            rw [hr12] at hv
            simp only [Option.bind_some] at hv
            refine mE.call rfl rfl rfl rfl rfl (x217 ta tb (fun e he => hrec e (by omega)) hr12) ?_
            cases hv
            exact m_ev.fin rfl
        rw [if_neg hc11] at hv
        have hd12 : m_tsw 27 67 3 6 #[29, 43, 51, 59] b1 = 94 := by
          have n4 : ¬ (3 : Int) = b1.toInt := fun e => hc4 (Int32.toInt_inj.mp (e.symm.trans rfl))
          have n7 : ¬ (4 : Int) = b1.toInt := fun e => hc7 (Int32.toInt_inj.mp (e.symm.trans rfl))
          have n9 : ¬ (5 : Int) = b1.toInt := fun e => hc9 (Int32.toInt_inj.mp (e.symm.trans rfl))
          have n11 : ¬ (6 : Int) = b1.toInt := fun e => hc11 (Int32.toInt_inj.mp (e.symm.trans rfl))
          exact m_tsw_out _ _ _ _ _ _ (by omega)
        refine mE.sn 1 (g' := (94, [some (.ref a), some (.int p), some (.ref b), some (.int p2)], [], (h, q))) (by rw [← hd12]; rfl) ?_
        refine mE.sn 1 (g' := (95, [some (.ref a), some (.int p), some (.ref b), some (.int p2)], [.int 0], (h, q))) rfl ?_
        cases hv
        exact m_ev.fin rfl
      · rw [if_neg hc3] at hv
        refine mE.sn 2 (g' := (11, [some (.ref a), some (.int p), some (.ref b), some (.int p2)], [.int p, .ref a], (h, q))) rfl ?_
        refine mE.iald (v := .int b1) rfl ta (iget_ix hr1) ?_
        refine mE.sn 2 (g' := (14, [some (.ref a), some (.int p), some (.ref b), some (.int p2)], [.int p2, .ref b, .int b1], (h, q))) rfl ?_
        refine mE.iald (v := .int b2) rfl tb (iget_ix hr2) ?_
        refine mE.br (g1 := (22, [some (.ref a), some (.int p), some (.ref b), some (.int p2)], [], (h, q))) (g2 := (18, [some (.ref a), some (.int p), some (.ref b), some (.int p2)], [], (h, q))) (c := b2 ≤ b1) rfl (fun hc13 => ?_) (fun hc13 => ?_)
        · rw [if_pos hc13] at hv
          refine mE.sn 1 (g' := (23, [some (.ref a), some (.int p), some (.ref b), some (.int p2)], [.int 1], (h, q))) rfl ?_
          cases hv
          exact m_ev.fin rfl
        · rw [if_neg hc13] at hv
          refine mE.sn 2 (g' := (23, [some (.ref a), some (.int p), some (.ref b), some (.int p2)], [.int (-1)], (h, q))) rfl ?_
          cases hv
          exact m_ev.fin rfl
def r_cmp (as bs : List Int32) : Nat → Int32 → Int32 → Option Int32
  | 0, _, _ => none
  | n + 1, p, p2 => r_compareB as bs (r_cmp as bs n) p p2
theorem r_cmp_ok (ta : h[a]? = some (1001, as.map Value.int)) (tb : h[b]? = some (1001, bs.map Value.int)) : ∀ (n e : Nat), 4 * n ≤ e → ∀ (p p2 v : Int32), r_cmp as bs n p p2 = some v → mE e mm215 (0, [some (.ref a), some (.int p), some (.ref b), some (.int p2)], [], (h, q)) (.returned (some (.int v)), (h, q)) := by
  intro n
  induction n with
  | zero => intro e he p p2 v hv; cases hv
  | succ n ih =>
    intro e he p p2 v hv
    have := x215 (d := e - 4) ta tb (rec := r_cmp as bs n) (fun e' he' => ih e' (by omega)) hv
    rw [show e = e - 4 + 4 by omega]
    exact this
end Ref96
end

section
/-! The same steps for runs whose end is told by a predicate; more depth does no harm. -/
section Steps86b
/-- the run ends, and so -/
def mW (d : Nat) (M : mM) (g : mG) (P : Outcome → mS → Prop) : Prop := ∃ o S, mE d M g (o, S) ∧ P o S
variable {d : Nat} {M : mM} {pc : Nat} {ml : mL} {st rest : List Value} {S : mS} {P Q : Outcome → mS → Prop}
theorem mW.of {g : mG} {o : Outcome} {S : mS} (h : mE d M g (o, S)) (p : P o S) : mW d M g P := ⟨o, S, h, p⟩
theorem mW.mono {g : mG} (h : mW d M g P) (hp : ∀ o S, P o S → Q o S) : mW d M g Q := by
  obtain ⟨o, S, e, p⟩ := h
  exact ⟨o, S, e, hp o S p⟩
theorem mW.fin {g : mG} {o : Outcome} {S : mS} (h : m_turn 41 mp_FL mp_PG (fun _ _ _ => none) d M g = some (o, S)) (p : P o S) : mW d M g P := ⟨o, S, m_ev.fin h, p⟩
theorem mW.sn {g g' : mG} (n : Nat) (h : m_sn 41 mp_FL M n g = some g') (k : mW d M g' P) : mW d M g P := by
  obtain ⟨o, S, e, p⟩ := k
  exact ⟨o, S, mE.sn n h e, p⟩
theorem mW.yes {g g1 g2 : mG} {c : Prop} [Decidable c] (h : m_s1 41 mp_FL M g = if c then some g1 else some g2) (q : c) (h1 : mW d M g1 P) : mW d M g P := by
  obtain ⟨o, S, e, p⟩ := h1
  exact ⟨o, S, mE.yes h q e, p⟩
theorem mW.no {g g1 g2 : mG} {c : Prop} [Decidable c] (h : m_s1 41 mp_FL M g = if c then some g1 else some g2) (q : ¬ c) (h2 : mW d M g2 P) : mW d M g P := by
  obtain ⟨o, S, e, p⟩ := h2
  exact ⟨o, S, mE.no h q e, p⟩
theorem mW.br {g g1 g2 : mG} {c : Prop} [Decidable c] (h : m_s1 41 mp_FL M g = if c then some g1 else some g2) (h1 : c → mW d M g1 P) (h2 : ¬ c → mW d M g2 P) : mW d M g P := by
  by_cases q : c
  · exact mW.yes h q (h1 q)
  · exact mW.no h q (h2 q)
theorem mW.get {x a b k idx len : Nat} {fs : List Value} {v : Value} (hc : M.2.2.2.2.2[pc]? = some (some (.getfield idx, len, a, b, k))) (hr : S.1[x]? = some (a, fs)) (hv : fs[b]? = some v) (kk : mW d M (pc + 3, ml, v :: rest, S) P) : mW d M (pc, ml, .ref x :: rest, S) P := by
  obtain ⟨o, S, e, p⟩ := kk
  exact ⟨o, S, mE.get hc hr hv e, p⟩
theorem mW.put {x a b k idx len : Nat} {fs : List Value} {v : Value} (hc : M.2.2.2.2.2[pc]? = some (some (.putfield idx, len, a, b, k))) (hr : S.1[x]? = some (a, fs)) (hn : 41 ≤ x) (hb : Nat.ble (b + 1) fs.length = true) (hf : m_fit k v = true) (kk : mW d M (pc + 3, ml, rest, (S.1.set x (a, fs.set b v), S.2)) P) : mW d M (pc, ml, v :: .ref x :: rest, S) P := by
  obtain ⟨o, S, e, p⟩ := kk
  exact ⟨o, S, mE.put hc hr hn hb hf e, p⟩
theorem mW.bald {x a b k len : Nat} {vs : List Value} {j : Int32} {v : Value} (hc : M.2.2.2.2.2[pc]? = some (some (.baload, len, a, b, k))) (hr : S.1[x]? = some (1000, vs)) (hj : m_ix j vs = some v) (kk : mW d M (pc + 1, ml, v :: rest, S) P) : mW d M (pc, ml, .int j :: .ref x :: rest, S) P := by
  obtain ⟨o, S, e, p⟩ := kk
  exact ⟨o, S, mE.bald hc hr hj e, p⟩
theorem mW.iald {x a b k len : Nat} {vs : List Value} {j : Int32} {v : Value} (hc : M.2.2.2.2.2[pc]? = some (some (.iaload, len, a, b, k))) (hr : S.1[x]? = some (1001, vs)) (hj : m_ix j vs = some v) (kk : mW d M (pc + 1, ml, v :: rest, S) P) : mW d M (pc, ml, .int j :: .ref x :: rest, S) P := by
  obtain ⟨o, S, e, p⟩ := kk
  exact ⟨o, S, mE.iald hc hr hj e, p⟩
theorem mW.lald {x a b k len : Nat} {vs : List Value} {j : Int32} {v : Value} (hc : M.2.2.2.2.2[pc]? = some (some (.laload, len, a, b, k))) (hr : S.1[x]? = some (1002, vs)) (hj : m_ix j vs = some v) (kk : mW d M (pc + 1, ml, v :: rest, S) P) : mW d M (pc, ml, .int j :: .ref x :: rest, S) P := by
  obtain ⟨o, S, e, p⟩ := kk
  exact ⟨o, S, mE.lald hc hr hj e, p⟩
theorem mW.aald {x a b k len : Nat} {vs : List Value} {j : Int32} {v : Value} (hc : M.2.2.2.2.2[pc]? = some (some (.aaload, len, a, b, k))) (hr : S.1[x]? = some (a, vs)) (hj : m_ix j vs = some v) (kk : mW d M (pc + 1, ml, v :: rest, S) P) : mW d M (pc, ml, .int j :: .ref x :: rest, S) P := by
  obtain ⟨o, S, e, p⟩ := kk
  exact ⟨o, S, mE.aald hc hr hj e, p⟩
theorem mW.bast {x a b k len : Nat} {vs : List Value} {j y : Int32} (hc : M.2.2.2.2.2[pc]? = some (some (.bastore, len, a, b, k))) (hr : S.1[x]? = some (1000, vs)) (hn : 41 ≤ x) (h0 : ¬ j < 0) (hl : j.toNatClampNeg < vs.length) (kk : mW d M (pc + 1, ml, rest, (S.1.set x (1000, vs.set j.toNatClampNeg (.int y.toInt8.toInt32)), S.2)) P) : mW d M (pc, ml, .int y :: .int j :: .ref x :: rest, S) P := by
  obtain ⟨o, S, e, p⟩ := kk
  exact ⟨o, S, mE.bast hc hr hn h0 hl e, p⟩
theorem mW.iast {x a b k len : Nat} {vs : List Value} {j y : Int32} (hc : M.2.2.2.2.2[pc]? = some (some (.iastore, len, a, b, k))) (hr : S.1[x]? = some (1001, vs)) (hn : 41 ≤ x) (h0 : ¬ j < 0) (hl : j.toNatClampNeg < vs.length) (kk : mW d M (pc + 1, ml, rest, (S.1.set x (1001, vs.set j.toNatClampNeg (.int y)), S.2)) P) : mW d M (pc, ml, .int y :: .int j :: .ref x :: rest, S) P := by
  obtain ⟨o, S, e, p⟩ := kk
  exact ⟨o, S, mE.iast hc hr hn h0 hl e, p⟩
theorem mW.last {x a b k len : Nat} {vs : List Value} {j : Int32} {y : Int64} (hc : M.2.2.2.2.2[pc]? = some (some (.lastore, len, a, b, k))) (hr : S.1[x]? = some (1002, vs)) (hn : 41 ≤ x) (h0 : ¬ j < 0) (hl : j.toNatClampNeg < vs.length) (kk : mW d M (pc + 1, ml, rest, (S.1.set x (1002, vs.set j.toNatClampNeg (.long y)), S.2)) P) : mW d M (pc, ml, .long y :: .int j :: .ref x :: rest, S) P := by
  obtain ⟨o, S, e, p⟩ := kk
  exact ⟨o, S, mE.last hc hr hn h0 hl e, p⟩
theorem mW.aln {x t a b k len : Nat} {vs : List Value} (hc : M.2.2.2.2.2[pc]? = some (some (.arraylength, len, a, b, k))) (hr : S.1[x]? = some (t, vs)) (ht : 1000 ≤ t) (kk : mW d M (pc + 1, ml, .int (Int32.ofNat vs.length) :: rest, S) P) : mW d M (pc, ml, .ref x :: rest, S) P := by
  obtain ⟨o, S, e, p⟩ := kk
  exact ⟨o, S, mE.aln hc hr ht e, p⟩
theorem mW.copy {len b k idx : Nat} {g' : mG} (hc : M.2.2.2.2.2[pc]? = some (some (.invokestatic idx, len, 999998, b, k))) (hg : m_cpy pc ml st S 41 = some g') (hs : (g'.2.2.1.map fun v => v.category).sum ≤ 8) (kk : mW (d + 1) M g' P) : mW (d + 1) M (pc, ml, st, S) P := by
  obtain ⟨o, S, e, p⟩ := kk
  exact ⟨o, S, mE.copy hc hg hs e, p⟩
theorem mW.obj {len b k idx x : Nat} (hc : M.2.2.2.2.2[pc]? = some (some (.invokespecial idx, len, 999999, b, k))) (hs : (rest.map fun v => v.category).sum ≤ 8) (kk : mW (d + 1) M (pc + 3, ml, rest, S) P) : mW (d + 1) M (pc, ml, .ref x :: rest, S) P := by
  obtain ⟨o, S, e, p⟩ := kk
  exact ⟨o, S, mE.obj hc hs e, p⟩
theorem mW.thr {len a b k' idx : Nat} (hc : M.2.2.2.2.2[pc]? = some (some (.new idx, len, a, b, k' + 1))) (hh : M.2.2.2.2.1 = []) (h1 : 1 ≤ S.2.1 ∧ b ≤ S.2.2) (hd : 8 ≤ d) (hs : (st.map fun v => v.category).sum ≤ 8) (p : P (.threw S.1.length) (S.1 ++ [(a, [])], S.2.1 - 1, S.2.2 - b)) : mW d M (pc, ml, st, S) P := ⟨_, _, mE.thr hc hh h1 hd hs, p⟩
/-- a call -/
theorem mW.call {M' : mM} {a b k len : Nat} {i : ClassFile.Instr} (hc : M.2.2.2.2.2[pc]? = some (some (i, len, a, b, k))) (hi : m_isC i a = true) (hM : mp_PG[a]? = some M') (h1 : m_okB M' b st = true) (h2 : m_rcv k (st.take b).reverse S.1 = true) (hcal : mW d M' (0, m_ent (st.take b).reverse M'.2.2.1, [], S) Q)
    (kk : ∀ o S', Q o S' → (∃ v, o = .returned v ∧ mW (d + 1) M (pc + 3, ml, v.toList ++ st.drop b, S') P) ∨ ∃ x t q, o = .threw x ∧ S'.1[x]? = some (t, q) ∧ ((M.2.2.2.2.1 = [] ∧ P (.threw x) S') ∨ ∃ hp, t < 4 ∧ M.2.2.2.2.1.isEmpty = false ∧ m_hnd M.2.2.2.2.1 pc t = some hp ∧ mW (d + 1) M (hp, ml, [.ref x], S') P)) : mW (d + 1) M (pc, ml, st, S) P := by
  obtain ⟨o, S', e, p⟩ := hcal
  rcases kk o S' p with ⟨v, rfl, o2, S2, e2, p2⟩ | ⟨x, t, q, rfl, hx, ⟨hh, p2⟩ | ⟨hp, ht, he, hh, o2, S2, e2, p2⟩⟩
  · exact ⟨o2, S2, mE.call hc hi hM h1 h2 e e2, p2⟩
  · exact ⟨_, _, mE.callT hc hi hM h1 h2 e hx hh, p2⟩
  · exact ⟨o2, S2, mE.callC hc hi hM h1 h2 e hx ht he hh e2, p2⟩
/-- a call that comes back -/
theorem mW.ret {M' : mM} {a b k len : Nat} {i : ClassFile.Instr} (hc : M.2.2.2.2.2[pc]? = some (some (i, len, a, b, k))) (hi : m_isC i a = true) (hM : mp_PG[a]? = some M') (h1 : m_okB M' b st = true) (h2 : m_rcv k (st.take b).reverse S.1 = true) (hcal : mW d M' (0, m_ent (st.take b).reverse M'.2.2.1, [], S) Q)
    (kk : ∀ o S', Q o S' → ∃ v, o = .returned v ∧ mW (d + 1) M (pc + 3, ml, v.toList ++ st.drop b, S') P) : mW (d + 1) M (pc, ml, st, S) P := mW.call hc hi hM h1 h2 hcal fun o S' q => Or.inl (kk o S' q)
end Steps86b
section Deep
variable {nE : Nat} {FL : Nat → List Value} {PG : List mM}
set_option maxHeartbeats 4000000 in
theorem m_run_deep : ∀ (n d : Nat) (M : mM) (g : mG) (r : Outcome × mS), m_run nE FL PG n d M g = some r → m_run nE FL PG n (d + 1) M g = some r := by
  intro n
  induction n with
  | zero => intro d M g r h; cases h
  | succ n ih =>
    intro d M g r hr
    obtain ⟨pc, ml, st, S⟩ := g
    rw [m_run_succ] at hr ⊢
    unfold m_turn at hr ⊢
    simp only at hr ⊢
    cases hc : M.2.2.2.2.2[pc]? with
    | none => rw [hc] at hr; cases hr
    | some z =>
      cases z with
      | none => rw [hc] at hr; cases hr
      | some q =>
        obtain ⟨i, len, a, b, k⟩ := q
        rw [hc] at hr
        have one : (match m_one nE i a b k pc ml st S with | some g' => m_run nE FL PG n d M g' | none => none) = some r → (match m_one nE i a b k pc ml st S with | some g' => m_run nE FL PG n (d + 1) M g' | none => none) = some r := by
          intro hr
          cases hq : m_one nE i a b k pc ml st S with
          | none => rw [hq] at hr; cases hr
          | some g' => rw [hq] at hr; exact ih d M g' r hr
        have back : ∀ (rest : List Value) (y : mR), m_back (m_run nE FL PG n) d M pc ml rest y = some r → m_back (m_run nE FL PG n) (d + 1) M pc ml rest y = some r := by
          intro rest y hr
          unfold m_back at hr ⊢
          cases y with
          | none => cases hr
          | some y =>
            obtain ⟨o, S'⟩ := y
            cases o with
            | returned v => exact ih d M _ r hr
            | threw x =>
              simp only at hr ⊢
              cases hx : S'.1[x]? with
              | none => rw [hx] at hr; cases hr
              | some c =>
                rw [hx] at hr
                simp only at hr ⊢
                refine m_ite hr id (fun hr => m_ite hr (fun hr => ?_) id)
                cases hq : m_hnd M.2.2.2.2.1 pc c.1 with
                | none => rw [hq] at hr; cases hr
                | some z => rw [hq] at hr; exact ih d M _ r hr
        have call : m_call PG (m_run nE FL PG n) d M a b k pc ml st S = some r → m_call PG (m_run nE FL PG n) (d + 1) M a b k pc ml st S = some r := by
          intro hr
          unfold m_call at hr ⊢
          cases d with
          | zero => cases hr
          | succ d =>
            simp only at hr ⊢
            cases hM : PG[a]? with
            | none => rw [hM] at hr; cases hr
            | some M' =>
              rw [hM] at hr
              simp only at hr ⊢
              refine m_ite hr (fun hr => ?_) id
              cases hq : m_run nE FL PG n d M' (0, m_ent (st.take b).reverse M'.2.2.1, [], S) with
              | none => rw [hq] at hr; cases hr
              | some q =>
                rw [hq] at hr
                rw [ih d M' _ q hq]
                exact back _ _ hr
        cases i with
        | invokevirtual _ => exact call hr
        | invokespecial _ =>
          simp only at hr ⊢
          refine m_ite hr (fun hr => ?_) (fun hr => call hr)
          split at hr
          · exact m_ite hr (fun hr => ih _ M _ r hr) id
          · cases hr
        | invokestatic _ =>
          simp only at hr ⊢
          refine m_ite hr (fun hr => ?_) (fun hr => call hr)
          cases hq : m_cpy pc ml st S nE with
          | none =>
            rw [hq] at hr
            cases d with
            | zero => cases hr
            | succ d => cases hr
          | some g' =>
            rw [hq] at hr
            cases d with
            | zero => cases hr
            | succ d => exact m_ite hr (fun hr => ih _ M _ r hr) id
        | ireturn => exact hr
        | lreturn => exact hr
        | return_ => exact hr
        | new _ =>
          simp only at hr ⊢
          refine m_ite hr (fun hr => ?_) (fun hr => ?_)
          · cases hq : m_new pc ml st S a b (FL a) with
            | none => rw [hq] at hr; cases hr
            | some g' => rw [hq] at hr; exact ih d M g' r hr
          · split at hr
            · split at hr
              · next hs => rw [if_pos ⟨by omega, hs.2⟩]; exact hr
              · cases hr
            · cases hr
        | _ => exact one hr
theorem mE.deep {d : Nat} {M : mM} {g : mG} {r : Outcome × mS} (k : Nat) (h : mE d M g r) : mE (d + k) M g r := by
  induction k with
  | zero => exact h
  | succ k ih =>
    obtain ⟨n, hn⟩ := ih
    exact ⟨n, m_run_deep n (d + k) M g r hn⟩
theorem mE.deeper {d e : Nat} {M : mM} {g : mG} {r : Outcome × mS} (h : mE d M g r) (he : d ≤ e) : mE e M g r := by
  obtain ⟨k, rfl⟩ : ∃ k, e = d + k := ⟨e - d, by omega⟩
  exact h.deep k
theorem mW.deeper {d e : Nat} {M : mM} {g : mG} {P : Outcome → mS → Prop} (h : mW d M g P) (he : d ≤ e) : mW e M g P := by
  obtain ⟨o, S, x, p⟩ := h
  exact ⟨o, S, x.deeper he, p⟩
end Deep
end

section
/-! PRINTED BY wip/whole/t97.py: Text.keepFirst. -/
section Keep97
variable {d : Nat} {h : mH} {q : Nat × Nat} {o w : Nat} {us : List Int32} {ov : Int32}
theorem i_clamp (n : Int32) {l : Nat} (hl : l ≤ 4096) : imax 0 (imin n (Int32.ofNat l)) = Int32.ofNat (min n.toNatClampNeg l) := by
  have h0 : (0 : Int32).toInt = 0 := rfl
  have hm : min n.toNatClampNeg l ≤ l := Nat.min_le_right _ _
  apply Int32.toInt_inj.mp
  rw [i_of (by omega), i_nat]
  unfold imax imin
  by_cases h1 : Int32.ofNat l < n
  · rw [if_pos h1]
    rw [i_lt, i_of (by omega)] at h1
    by_cases h2 : 0 < Int32.ofNat l
    · rw [if_pos h2, i_of (by omega)]
      omega
    · rw [if_neg h2]
      rw [i_lt, i_of (by omega)] at h2
      omega
  · rw [if_neg h1]
    rw [i_lt, i_of (by omega)] at h1
    by_cases h2 : 0 < n
    · rw [if_pos h2]
      rw [i_lt] at h2
      omega
    · rw [if_neg h2]
      rw [i_lt] at h2
      omega
/-- Text.keepFirst -/
theorem x28 (t : tx h o w us ov) (n : Int32) : ∃ h', mE (d + 1) mm28 (0, [some (.ref o), some (.int n)], [], (h, q)) (.returned none, (h', q)) ∧ tx h' o w (us.take n.toNatClampNeg) ov ∧ sm [o] h h' := by
  obtain ⟨t1, t2, t3, t4, t5, tail, t6, t7⟩ := id t
  have e1 : imax 0 (imin n (Int32.ofNat us.length)) = Int32.ofNat (us.take n.toNatClampNeg).length := by rw [i_clamp n t4, List.length_take]
  have s : sm [o] h (h.set o (4, [.ref w, .int (Int32.ofNat (us.take n.toNatClampNeg).length), .int ov])) := sm.set List.mem_cons_self
  refine ⟨_, ?_, ⟨t1, t2, m_at_set t3, ?_, fun u hu => t5 u (List.mem_of_mem_take hu), (us.drop n.toNatClampNeg).map m_by ++ tail, ?_, ?_⟩, s⟩
  · refine mE.sn 4 (g' := (4, [some (.ref o), some (.int n)], [.ref o, .int n, .int 0, .ref o], (h, q))) rfl ?_
    refine mE.get rfl t3 rfl ?_
    refine mE.call rfl rfl rfl rfl rfl (x29 _ _) ?_
    refine mE.call rfl rfl rfl rfl rfl (x30 _ _) ?_
    show mE _ _ (13, [some (.ref o), some (.int n)], [.int (imax 0 (imin n (Int32.ofNat us.length))), .ref o], (h, q)) _
    rw [e1]
    refine mE.put rfl t3 t1 rfl rfl ?_
    exact m_ev.fin rfl
  · rw [List.length_take]
    omega
  · rw [s.2 w (by simpa using t.ne), t6, ← List.append_assoc, ← List.map_append, List.take_append_drop]
  · rw [List.length_append, List.length_map, List.length_take, List.length_drop]
    omega
end Keep97
end

section
/-! The call end, the class's side: StepBench.end and the law's helper that catches. -/
section End98
theorem mW.callE {d : Nat} {M : mM} {pc : Nat} {ml : mL} {st : List Value} {S : mS} {P : Outcome → mS → Prop} {M' : mM} {a b k len : Nat} {i : ClassFile.Instr} {v : Option Value} {S' : mS} (hc : M.2.2.2.2.2[pc]? = some (some (i, len, a, b, k))) (hi : m_isC i a = true) (hM : mp_PG[a]? = some M') (h1 : m_okB M' b st = true) (h2 : m_rcv k (st.take b).reverse S.1 = true)
    (hcal : mE d M' (0, m_ent (st.take b).reverse M'.2.2.1, [], S) (.returned v, S')) (kk : mW (d + 1) M (pc + 3, ml, v.toList ++ st.drop b, S') P) : mW (d + 1) M (pc, ml, st, S) P := by
  obtain ⟨o, S2, e, p⟩ := kk
  exact ⟨o, S2, mE.call hc hi hM h1 h2 hcal e, p⟩
variable {d : Nat} {h : mH} {K : Nat × Nat} {fs : List Value} {us : List Int32} {ov : Int32}
/-- is the number refused? -/
def e_bad (us : List Int32) (n : Int32) : Prop := n < 0 ∨ ¬ n ≤ Int32.ofNat us.length
/-- StepBench.end -/
theorem x27 (c : h[41]? = some (5, fs)) (hf : fs[0]? = some (.ref 42)) (t : tx h 42 43 us ov) (n : Int32) (hK : 1 ≤ K.1 ∧ 6 ≤ K.2) : mW (d + 8) mm27 (0, [some (.ref 41), some (.int n)], [], (h, K)) (fun o S' =>
    (e_bad us n ∧ o = .threw h.length ∧ S' = (h ++ [(1, [])], K.1 - 1, K.2 - 6)) ∨ (¬ e_bad us n ∧ o = .returned (some (.int n)) ∧ ∃ h', S' = (h', K) ∧ tx h' 42 43 (us.take n.toNatClampNeg) ov ∧ sm [42] h h')) := by
  refine mW.sn 1 (g' := (1, [some (.ref 41), some (.int n)], [.int n], (h, K))) rfl ?_
  refine mW.br (g1 := (15, [some (.ref 41), some (.int n)], [], (h, K))) (g2 := (4, [some (.ref 41), some (.int n)], [], (h, K))) (c := n < 0) rfl (fun hn => ?_) (fun hn => ?_)
  · exact mW.thr rfl rfl hK (by omega) (by decide) (Or.inl ⟨Or.inl hn, rfl, rfl⟩)
  · refine mW.sn 2 (g' := (6, [some (.ref 41), some (.int n)], [.ref 41, .int n], (h, K))) rfl ?_
    refine mW.get rfl c hf ?_
    refine mW.callE rfl rfl rfl rfl (m_rcv_ok t.2.2.1) (x24 t) ?_
    refine mW.br (g1 := (23, [some (.ref 41), some (.int n)], [], (h, K))) (g2 := (15, [some (.ref 41), some (.int n)], [], (h, K))) (c := n ≤ Int32.ofNat us.length) rfl (fun hl => ?_) (fun hl => ?_)
    · obtain ⟨h', e, t', s⟩ := x28 (d := d + 6) (q := K) t n
      refine mW.sn 1 (g' := (24, [some (.ref 41), some (.int n)], [.ref 41], (h, K))) rfl ?_
      refine mW.get rfl c hf ?_
      refine mW.sn 1 (g' := (28, [some (.ref 41), some (.int n)], [.int n, .ref 42], (h, K))) rfl ?_
      refine mW.callE rfl rfl rfl rfl (m_rcv_ok t.2.2.1) e ?_
      refine mW.sn 1 (g' := (32, [some (.ref 41), some (.int n)], [.int n], (h', K))) rfl ?_
      exact mW.fin rfl (Or.inr ⟨fun z => z.elim hn (fun z => z hl), rfl, h', rfl, t', s⟩)
    · exact mW.thr rfl rfl hK (by omega) (by decide) (Or.inl ⟨Or.inr hl, rfl, rfl⟩)
/-- the law's end -/
theorem x26 (c : h[41]? = some (5, fs)) (hf : fs[0]? = some (.ref 42)) (t : tx h 42 43 us ov) (n : Int32) (hK : 1 ≤ K.1 ∧ 6 ≤ K.2) {y : Int64} (c2 : h[101]? = some (1002, [.long y])) : mW (d + 9) mm26 (0, [some (.ref 41), some (.int n), some (.ref 101), none], [], (h, K)) (fun o S' =>
    (e_bad us n ∧ o = .returned (some (.int 1)) ∧ S' = (h ++ [(1, [])], K.1 - 1, K.2 - 6)) ∨ (¬ e_bad us n ∧ o = .returned (some (.int 0)) ∧ ∃ h', S' = (h', K) ∧ tx h' 42 43 (us.take n.toNatClampNeg) ov ∧ h'[101]? = some (1002, [.long n.toInt64]) ∧ sm [42, 101] h h')) := by
  refine mW.sn 4 (g' := (4, [some (.ref 41), some (.int n), some (.ref 101), none], [.int n, .ref 41, .int 0, .ref 101], (h, K))) rfl ?_
  refine mW.call rfl rfl rfl rfl (m_rcv_ok c) (x27 (d := d) c hf t n hK) ?_
  intro o S' q
  rcases q with ⟨hb, rfl, rfl⟩ | ⟨hb, rfl, h', rfl, t', s⟩
  · refine Or.inr ⟨h.length, 1, [], rfl, ?_, Or.inr ⟨12, by decide, rfl, rfl, ?_⟩⟩
    · show (h ++ [(1, [])])[h.length]? = _
      rw [List.getElem?_append_right (Nat.le_refl _), Nat.sub_self]
      rfl
    · refine mW.sn 2 (g' := (14, [some (.ref 41), some (.int n), some (.ref 101), some (.ref h.length)], [.int 1], (h ++ [(1, [])], K.1 - 1, K.2 - 6))) rfl ?_
      exact mW.fin rfl (Or.inl ⟨hb, rfl, rfl⟩)
  · refine Or.inl ⟨_, rfl, ?_⟩
    have c3 : h'[101]? = some (1002, [.long y]) := by
      rw [s.2 101 (by decide)]
      exact c2
    refine mW.sn 1 (g' := (8, [some (.ref 41), some (.int n), some (.ref 101), none], [.long n.toInt64, .int 0, .ref 101], (h', K))) rfl ?_
    refine mW.last rfl c3 (by decide) (by decide) (show (0 : Int32).toNatClampNeg < 1 by decide) ?_
    have s2 : sm [42, 101] h (h'.set 101 (1002, [.long n.toInt64])) := by
      refine sm.trans (h1 := h') ⟨s.1, fun k hk => s.2 k (fun z => hk (by simp at z ⊢; exact Or.inl z))⟩ (sm.set (by simp))
    refine mW.sn 2 (g' := (16, [some (.ref 41), some (.int n), some (.ref 101), none], [.int 0], (h'.set 101 (1002, [.long n.toInt64]), K))) rfl ?_
    refine mW.fin rfl (Or.inr ⟨hb, rfl, _, rfl, t'.moved (A := [101]) (sm.set (by simp)) (by decide) (by decide), m_at_set c3, s2⟩)
end End98
end
