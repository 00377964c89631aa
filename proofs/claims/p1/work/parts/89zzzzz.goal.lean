/-! The law on at most six ints. -/
section Goal201
set_option maxHeartbeats 2000000 in
theorem goal_1 {xs : List Int32} (hl : xs.length ≤ 6) :
    ∃ S' : mS, mE 2000 mm254 (0, m_ent [.ref 0] 8, [], (mp_h0 xs, 600002, 7302232)) (.returned (some (.int 1)), S') := by
  refine law_all (by omega) (fun i h K => ∃ S, cs h S ∧ S 0 = xs ∧ (i = 0 → I0 S) ∧ 599941 ≤ K.1 + i ∧ 7139055 ≤ K.2 + i) ?_ ?_ ?_
  · intro h hm
    refine ⟨S_of h, cs_of hm, ?_, fun _ => inv_first hm, by omega, by omega⟩
    have h0 : h[0]? = some (1001, xs.map Value.int) := by
      have := congrArg (fun l => l[0]?) hm.2.1
      replace this : (h.take 41)[0]? = (mp_h0 xs)[0]? := this

      rw [List.getElem?_take_of_lt (by decide)] at this
      exact this
    unfold S_of
    rw [if_neg (by decide), if_neg (by decide), if_neg (by decide), h0]
    simp only [Option.map_some, Option.getD_some, List.map_map]
    exact List.map_id'' (fun _ => rfl) xs
  · rintro i h K ⟨S, hs, h0, -⟩
    rw [← h0]
    exact hs.ar (by decide)
  · rintro i h K ⟨S, hs, h0, hI0, k1, k2⟩ hn
    have hi0 : i = 0 := by omega
    have hI := hI0 hi0
    have hS : (S 0).length ≤ 3072 := by rw [h0]; omega
    have hK : 1 ≤ K.1 ∧ 6 ≤ K.2 := by omega
    have at_ : ∀ j, j < 6 → ∃ y, (S 0)[i + j]? = some y := fun j hj => ⟨_, List.getElem?_eq_getElem (by rw [h0]; omega)⟩
    obtain ⟨y, hy⟩ := at_ 0 (by decide)
    obtain ⟨p0, a0⟩ := at_ 1 (by decide)
    obtain ⟨p1, a1⟩ := at_ 2 (by decide)
    obtain ⟨p2, a2⟩ := at_ 3 (by decide)
    obtain ⟨p3, a3⟩ := at_ 4 (by decide)
    obtain ⟨p4, a4⟩ := at_ 5 (by decide)
    rw [Nat.add_zero] at hy
    have ha := and15 y
    by_cases hb : 10 < (y &&& 15).toInt
    · exact ⟨h, K, ⟨S, hs, h0, fun e => absurd e (by omega), by omega, by omega⟩, law_idle (xs := S 0) (hs.ar (by decide)) hS hy hb⟩
    have hk : y &&& 15 = Int32.ofNat (y &&& 15).toInt.toNat := i_ofnn (by omega) (by omega)
    have hk2 : (y &&& 15).toInt.toNat ≤ 10 := by omega
    generalize (y &&& 15).toInt.toNat = k at hk hk2
    have fin : ∀ (S' : SS) (h' : mH) (K' : Nat × Nat), law_S i h K h' K' → cs h' S' → K.1 ≤ K'.1 + 1 → K.2 ≤ K'.2 + 6 → S' 0 = S 0 → ∃ h' K', (∃ S, cs h' S ∧ S 0 = xs ∧ (i + 6 = 0 → I0 S) ∧ 599941 ≤ K'.1 + (i + 6) ∧ 7139055 ≤ K'.2 + (i + 6)) ∧ law_S i h K h' K' := fun S' h' K' l1 l2 l3 l4 l5 => ⟨h', K', ⟨S', l2, l5.trans h0, fun e => absurd e (by omega), by omega, by omega⟩, l1⟩
    have : k = 0 ∨ k = 1 ∨ k = 2 ∨ k = 3 ∨ k = 4 ∨ k = 5 ∨ k = 6 ∨ k = 7 ∨ k = 8 ∨ k = 9 ∨ k = 10 := by omega
    rcases this with rfl | rfl | rfl | rfl | rfl | rfl | rfl | rfl | rfl | rfl | rfl
    · obtain ⟨c, w, e1, e2, e3, e4, e5, e6, e7⟩ := op0 S p0 p1 p2 p3 p4 ⟨h, hs⟩ hI.inv
      obtain ⟨h', K', l1, l2, l3, l4⟩ := law_op0 hs hK hS hy hk a0 a1 a2 a3 a4 e1 e2 e3 e4 e5
      exact fin _ h' K' l1 l2 l3 l4 e6
    · obtain ⟨c, w, e1, e2, e3, e4, e5, e6, e7⟩ := op1 S p0 ⟨h, hs⟩ hI.inv
      obtain ⟨h', K', l1, l2, l3, l4⟩ := law_op1 hs hK hS hy hk a0 e1 e2 e3 e4 e5
      exact fin _ h' K' l1 l2 l3 l4 e6
    · obtain ⟨c, w, e1, e2, e3, e4, e5, e6⟩ := fst2 (S := S) p0 ⟨h, hs⟩ hI
      obtain ⟨h', K', l1, l2, l3, l4⟩ := law_op2 hs hK hS hy hk a0 e1 e2 e3 e4 e5
      exact fin _ h' K' l1 l2 l3 l4 e6
    · obtain ⟨c, w, e1, e2, e3, e4, e5, e6, e7⟩ := op3 S p0 ⟨h, hs⟩ hI.inv
      obtain ⟨h', K', l1, l2, l3, l4⟩ := law_op3 hs hK hS hy hk a0 e1 e2 e3 e4 e5
      exact fin _ h' K' l1 l2 l3 l4 e6
    · obtain ⟨c, w, e1, e2, e3, e4, e6, e7⟩ := op4 S p0 p1 p2 ⟨h, hs⟩ hI.inv
      obtain ⟨h', K', l1, l2, l3, l4⟩ := law_op4 hs hK hS hy hk a0 a1 a2 e1 e2 e3 e4
      exact fin _ h' K' l1 l2 l3 l4 e6
    · obtain ⟨c, w, e1, e2, e3, e4, e6⟩ := fst5 (S := S) p0 p1 p2 p3 ⟨h, hs⟩ hI
      obtain ⟨h', K', l1, l2, l3, l4⟩ := law_op5 hs hK hS hy hk a0 a1 a2 a3 e1 e2 e3 e4
      exact fin _ h' K' l1 l2 l3 l4 e6
    · obtain ⟨c, w, e1, e2, e3, e4, e6⟩ := fst6 (S := S) p0 p1 p2 ⟨h, hs⟩ hI
      obtain ⟨h', K', l1, l2, l3, l4⟩ := law_op6 hs hK hS hy hk a0 a1 a2 e1 e2 e3 e4
      exact fin _ h' K' l1 l2 l3 l4 e6
    · obtain ⟨c, w, e1, e2, e3, e4, e6, e7⟩ := op7 S p0 p1 ⟨h, hs⟩ hI.inv
      obtain ⟨h', K', l1, l2, l3, l4⟩ := law_op7 hs hK hS hy hk a0 a1 e1 e2 e3 e4
      exact fin _ h' K' l1 l2 l3 l4 e6
    · obtain ⟨c, w, e1, e2, e3, e4, e5, e6⟩ := fst8 (S := S) p0 p1 ⟨h, hs⟩ hI
      obtain ⟨h', K', l1, l2, l3, l4⟩ := law_op8 hs hK hS hy hk a0 a1 e1 e2 e3 e4 e5
      exact fin _ h' K' l1 l2 l3 l4 e6
    · obtain ⟨c, w, e1, e2, e3, e4, e5, e6, e7⟩ := op9 S p0 ⟨h, hs⟩ hI.inv
      obtain ⟨h', K', l1, l2, l3, l4⟩ := law_op9 hs hK hS hy hk a0 e1 e2 e3 e4 e5
      exact fin _ h' K' l1 l2 l3 l4 e6
    · obtain ⟨c, w, e1, e2, e3, e4, e5, e6, e7⟩ := op10 S p0 ⟨h, hs⟩ hI.inv
      obtain ⟨h', K', l1, l2, l3, l4⟩ := law_op10 hs hK hS hy hk a0 e1 e2 e3 e4 e5
      exact fin _ h' K' l1 l2 l3 l4 e6
end Goal201
