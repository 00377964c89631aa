/-! The calls word, end, print. -/
section Ops124
theorem i_or3 : ∀ x : Int32, x < 0 ∨ 0 ≤ x := by
  intro x
  rw [i_lt, i_le]
  omega
theorem i_dec {x : Int32} (h : ¬ x < 0) : x = Int32.ofNat x.toNatClampNeg ∧ x.toNatClampNeg < 2147483648 := by
  rw [i_lt] at h
  have z0 : (0 : Int32).toInt = 0 := rfl
  have h2 := Int32.toInt_lt x
  rw [i_nat]
  have h3 : x.toInt.toNat < 2147483648 := by omega
  exact ⟨i_ofnn (by omega) h3, h3⟩
theorem word_l {S : SS} {res : List Int32} {i : Nat} (hr : tT S 44 = res) (hl : res.length ≤ 4096) (hA : asc res) (hi : i < res.length) : ∀ (m k : Nat) (acc : Int64), k + m = 8 → ∃ x, (∀ n, m < n → a_word_l28 n S (Int32.ofNat i) acc (Int32.ofNat k) = some (S, 0, x)) ∧ ∀ n S', m < n → tT S' 92 = res → b_word_l32 n S' (Int32.ofNat i) acc (Int32.ofNat (i + k)) = some (S', x) := by
  intro m
  induction m with
  | zero =>
    intro k acc hk
    refine ⟨acc, fun n hn => ?_, fun n S' hn h => ?_⟩
    · obtain ⟨n, rfl⟩ : ∃ j, n = j + 1 := ⟨n - 1, by omega⟩
      unfold a_word_l28
      rw [if_pos (by rw [show (8 : Int32) = Int32.ofNat 8 from rfl, i_le' (by omega) (by omega)]; omega)]
    · obtain ⟨n, rfl⟩ : ∃ j, n = j + 1 := ⟨n - 1, by omega⟩
      unfold b_word_l32
      rw [if_pos (by rw [show Int32.ofNat i + 8 = Int32.ofNat (i + 8) from (Int32.ofNat_add i 8).symm, i_le' (by omega) (by omega)]; omega)]
  | succ m ih =>
    intro k acc hk
    obtain ⟨x, h1, h2⟩ := ih (k + 1) ((acc <<< ((8 : Int32).toInt64 &&& 63)) ||| ((imax (tat res (Int32.ofNat i + Int32.ofNat k)) 0).toInt64)) (by omega)
    refine ⟨x, fun n hn => ?_, fun n S' hn h => ?_⟩
    · obtain ⟨n, rfl⟩ : ∃ j, n = j + 1 := ⟨n - 1, by omega⟩
      unfold a_word_l28
      rw [if_neg (by rw [show (8 : Int32) = Int32.ofNat 8 from rfl, i_le' (by omega) (by omega)]; omega), hr, i_a1, h1 n (by omega)]
    · obtain ⟨n, rfl⟩ : ∃ j, n = j + 1 := ⟨n - 1, by omega⟩
      unfold b_word_l32
      rw [if_neg (by rw [show Int32.ofNat i + 8 = Int32.ofNat (i + 8) from (Int32.ofNat_add i 8).symm, i_le' (by omega) (by omega)]; omega), h, i_a1]
      have h2' := h2 n S' (by omega) h
      rw [← Int32.ofNat_add] at h2'
      by_cases e : i + k < res.length
      · rw [if_neg (by rw [i_le' (by omega) (by omega)]; omega), iget_in e (by omega), o_bind]
        rw [tat_in hl e] at h2'
        have h3 := hA res[i + k] (List.getElem_mem e)
        have e2 : imax res[i + k] 0 = res[i + k] := by
          unfold imax
          rw [if_neg (by have := h3.1; rw [i_le] at this; rw [i_lt]; omega)]
        rw [e2] at h2'
        exact h2'
      · rw [if_pos (by rw [i_le' (by omega) (by omega)]; omega)]
        rw [tat_out hl (by omega) (by omega)] at h2'
        exact h2'
theorem op9 : stp9 Inv := by
  intro S p0 hc hI
  obtain ⟨l78, l41, -⟩ := cs.l78 hc
  obtain ⟨-, -, -, ⟨res, i4⟩, -⟩ := id hI
  obtain ⟨q1, q2, q3, q4⟩ := i4
  have t1 : tT S 44 = res := by unfold tT; rw [q1]; rfl
  have bad : (p0 < 0 ∨ ¬ p0 < Int32.ofNat res.length) → ∃ (c : SS × Int32) (w : SS × Int64), h_word S p0 = some c ∧ c.1 0 = S 0 ∧ b_word c.1 p0 = some w ∧ rd w.1 78 0 = c.2 ∧ (c.2 = 0 → lg (w.1 101) = w.2) ∧ w.1 0 = S 0 ∧ Inv w.1 := by
    intro hb
    have t2 : tT (wr S 78 0 0) 92 = res := by unfold tT; rw [wr_ne (by decide), q2]; rfl
    have e1 : a_word S p0 = some (S, 1, 0) := by
      unfold a_word
      by_cases h : p0 < 0
      · rw [if_pos h]
      · rw [if_neg h, t1, if_neg (hb.resolve_left h)]
    have e2 : b_word S p0 = some (wr S 78 0 1, (0 : Int32).toInt64) := by
      unfold b_word
      by_cases h : p0 < 0
      · rw [if_pos h, fail_eq, o_bind]
      · rw [if_neg h, t2, if_neg (hb.resolve_left h), fail_eq, o_bind]
    refine ⟨(S, 1), (wr S 78 0 1, (0 : Int32).toInt64), ?_, rfl, e2, ?_, fun e => absurd e (show ¬ (1 : Int32) = 0 by decide), (show wr S 78 0 1 0 = S 0 from wr_ne (by decide)), note1 hI⟩
    · unfold h_word; rw [e1, o_bind, if_neg (show ¬ (1 : Nat) = 0 by decide), if_pos rfl]
    · exact rd_wr (by rw [l78]; decide)
  by_cases h : p0 < 0
  · exact bad (Or.inl h)
  by_cases h' : p0 < Int32.ofNat res.length
  · obtain ⟨d1, d2⟩ := i_dec h
    rw [d1, i_lt' d2 (by omega)] at h'
    obtain ⟨x, w1, w2⟩ := word_l t1 q3 q4 h' 8 0 0 (by omega)
    refine ⟨(up S 101 (lgE x), 0), (wr (up S 101 (lgE x)) 78 0 0, x), ?_, (show up S 101 (lgE x) 0 = S 0 from up_ne (by decide)), ?_, ?_, fun _ => ?_, ?_, note0 hI⟩
    · unfold h_word a_word
      rw [if_neg h, t1, if_pos (by rw [d1, i_lt' d2 (by omega)]; exact h'), d1]
      have := w1 10000 (by omega)
      refine Eq.trans (congrArg (fun z => Option.bind z _) (this : a_word_l28 10000 S (Int32.ofNat p0.toNatClampNeg) 0 0 = some (S, 0, x))) ?_
      rw [o_bind, if_pos rfl]
    · have t2 : tT (wr (up S 101 (lgE x)) 78 0 0) 92 = res := by unfold tT; rw [wr_ne (by decide), up_ne (by decide), q2]; rfl
      show b_word (up S 101 (lgE x)) p0 = _
      unfold b_word
      rw [if_neg h, t2, if_pos (by rw [d1, i_lt' d2 (by omega)]; exact h'), d1]
      have := w2 10000 _ (by omega) t2
      rw [Nat.add_zero] at this
      exact this
    · exact rd_wr (by rw [up_ne (by decide), l78]; decide)
    · show lg (wr (up S 101 (lgE x)) 78 0 0 101) = _
      rw [wr_ne (by decide), up_same, lg_E]
    · show wr (up S 101 (lgE x)) 78 0 0 0 = _
      rw [wr_ne (by decide), up_ne (by decide)]
  · exact bad (Or.inr h')
/-- another tape -/
theorem Inv.tape {S S' : SS} {tape' : List Int32} (h : Inv S) (h1 : ∀ a, a ≠ 42 → a ≠ 79 → a ≠ 78 → a ≠ 101 → S' a = S a) (h3 : rd S' 78 3 = rd S 78 3) (h4 : rd S' 78 4 = rd S 78 4) (ht : InvT S' tape') : Inv S' := by
  obtain ⟨i1, i2, -, ⟨res, i4⟩, ts, dr, ra, i5⟩ := h
  have e : ∀ k, rd S' 41 k = rd S 41 k := fun k => by unfold rd; rw [h1 41 (by decide) (by decide) (by decide) (by decide)]
  have d1 : ∀ a ∈ [47, 48, 71, 74, 76, 77, 80, 91, 97, 98, 99, 100, 39, 40], a ≠ 42 ∧ a ≠ 79 ∧ a ≠ 78 ∧ a ≠ 101 := by decide
  have d2 : ∀ a ∈ nine, a ≠ 42 ∧ a ≠ 79 ∧ a ≠ 78 ∧ a ≠ 101 := by decide
  exact ⟨i1.move fun a ha => h1 a (d1 a ha).1 (d1 a ha).2.1 (d1 a ha).2.2.1 (d1 a ha).2.2.2, ⟨by rw [h3, e]; exact i2.1, by rw [h4, e]; exact i2.2⟩, ⟨tape', ht⟩, ⟨res, i4.move (h1 44 (by decide) (by decide) (by decide) (by decide)) (h1 92 (by decide) (by decide) (by decide) (by decide))⟩, ts, dr, ra, i5.move (h1 46 (by decide) (by decide) (by decide) (by decide)) (e 9) (fun a ha => h1 a (d2 a ha).1 (d2 a ha).2.1 (d2 a ha).2.2.1 (d2 a ha).2.2.2) (fun r hr => h1 _ (by omega) (by omega) (by omega) (by omega))⟩
theorem op1 : stp1 Inv := by
  intro S p0 hc hI
  obtain ⟨l78, l41, -⟩ := cs.l78 hc
  obtain ⟨-, -, ⟨tape, i3⟩, -⟩ := id hI
  obtain ⟨q1, q2, q3, q4, ⟨j, q5⟩, q6⟩ := i3
  have t1 : tT S 42 = tape := by unfold tT; rw [q1]; rfl
  have t0 : tV S 42 = 0 := by unfold tV; rw [q1]; rfl
  have r1 : ∀ T : SS, T 78 = S 78 → rd (wr T 78 0 0) 78 1 = Int32.ofNat tape.length := fun T e => by
    rw [rd_wr_j (by decide)]; unfold rd; rw [e]; exact q6
  have bad : (p0 < 0 ∨ ¬ p0 ≤ Int32.ofNat tape.length) → ∃ (c : SS × Int32) (w : SS × Int32), h_end S p0 = some c ∧ c.1 0 = S 0 ∧ b_end c.1 p0 = some w ∧ rd w.1 78 0 = c.2 ∧ (c.2 = 0 → lg (w.1 101) = w.2.toInt64) ∧ w.1 0 = S 0 ∧ Inv w.1 := by
    intro hb
    have e1 : a_end S p0 = some (S, 2, 0) := by
      unfold a_end
      by_cases h : p0 < 0
      · rw [if_pos h]
      · rw [if_neg h, t1, if_neg (hb.resolve_left h)]
    have e2 : b_end S p0 = some (wr S 78 0 1, 0) := by
      unfold b_end
      by_cases h : p0 < 0
      · rw [if_pos h, fail_eq, o_bind]
      · rw [if_neg h, r1 S rfl, if_neg (hb.resolve_left h), fail_eq, o_bind]
    refine ⟨(S, 1), (wr S 78 0 1, 0), ?_, rfl, e2, ?_, fun e => absurd e (show ¬ (1 : Int32) = 0 by decide), (show wr S 78 0 1 0 = S 0 from wr_ne (by decide)), note1 hI⟩
    · unfold h_end; rw [e1, o_bind, if_neg (show ¬ (2 : Nat) = 0 by decide), if_pos rfl]
    · exact rd_wr (by rw [l78]; decide)
  by_cases h : p0 < 0
  · exact bad (Or.inl h)
  by_cases h' : p0 ≤ Int32.ofNat tape.length
  · obtain ⟨d1, d2⟩ := i_dec h
    have h2 := h'
    rw [d1, i_le' d2 (by omega)] at h2
    obtain ⟨n, hn⟩ : ∃ n, n = p0.toNatClampNeg := ⟨_, rfl⟩
    rw [← hn] at d1 d2 h2
    have sk : skeep S 42 p0 = up S 42 (0 :: tape.take n) := by unfold skeep; rw [t0, t1, ← hn]
    obtain ⟨T, hT⟩ : ∃ T, T = up (up S 42 (0 :: tape.take n)) 101 (lgE p0.toInt64) := ⟨_, rfl⟩
    have T78 : T 78 = S 78 := by rw [hT, up_ne (by decide), up_ne (by decide)]
    refine ⟨(T, 0), (wr (wr T 78 0 0) 78 1 p0, p0), ?_, (show T 0 = S 0 by rw [hT, up_ne (by decide), up_ne (by decide)]), ?_, ?_, fun _ => ?_, ?_, ?_⟩
    · unfold h_end a_end
      rw [if_neg h, t1, if_pos h', o_bind, if_pos rfl, sk, hT]
    · show b_end T p0 = _
      unfold b_end
      rw [if_neg h, r1 T T78, if_pos h']
    · show rd (wr (wr T 78 0 0) 78 1 p0) 78 0 = 0
      rw [rd_wr_j (by decide), rd_wr (by rw [T78, l78]; decide)]
    · show lg (wr (wr T 78 0 0) 78 1 p0 101) = _
      rw [wr_ne (by decide), wr_ne (by decide), hT, up_same, lg_E]
    · show wr (wr T 78 0 0) 78 1 p0 0 = S 0
      rw [wr_ne (by decide), wr_ne (by decide), hT, up_ne (by decide), up_ne (by decide)]
    · refine hI.tape (tape' := tape.take n) (fun a n1 n2 n3 n4 => ?_) ?_ ?_ ⟨?_, ?_, ?_, ?_, ⟨tape.drop n ++ j, ?_⟩, ?_⟩
      · show wr (wr T 78 0 0) 78 1 p0 a = S a
        rw [wr_ne n3, wr_ne n3, hT, up_ne n4, up_ne n1]
      · show rd (wr (wr T 78 0 0) 78 1 p0) 78 3 = _
        rw [rd_wr_j (by decide), rd_wr_j (by decide)]; unfold rd; rw [T78]
      · show rd (wr (wr T 78 0 0) 78 1 p0) 78 4 = _
        rw [rd_wr_j (by decide), rd_wr_j (by decide)]; unfold rd; rw [T78]
      · show wr (wr T 78 0 0) 78 1 p0 42 = _
        rw [wr_ne (by decide), wr_ne (by decide), hT, up_ne (by decide), up_same]
      · rw [List.length_take]; omega
      · exact fun u hu => q3 u (List.mem_of_mem_take hu)
      · show (wr (wr T 78 0 0) 78 1 p0 79).length = _
        rw [wr_ne (by decide), wr_ne (by decide), hT, up_ne (by decide), up_ne (by decide)]; exact q4
      · show wr (wr T 78 0 0) 78 1 p0 79 = _
        rw [wr_ne (by decide), wr_ne (by decide), hT, up_ne (by decide), up_ne (by decide), q5, ← List.append_assoc, List.take_append_drop]
      · show rd (wr (wr T 78 0 0) 78 1 p0) 78 1 = _
        rw [rd_wr (by rw [wr_len, T78, l78]; decide), List.length_take, show min n tape.length = n by omega]
        exact d1
  · exact bad (Or.inr h')
end Ops124
