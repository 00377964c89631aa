/-! How a call ends: nothing comes to a register, or a value does. -/
section Fin138
theorem ra_ne {dr : Nat} {ra : List Nat} (h : (dr :: ra).Perm nine) (hl : ra.length = 8) {r : Nat} (hr : r < 8) : ra.getD r 0 ≠ dr := by
  have nd : (dr :: ra).Nodup := h.nodup_iff.mpr (by decide)
  intro e
  have : ra.getD r 0 ∈ ra := by
    rw [List.getD_eq_getElem?_getD, List.getElem?_eq_getElem (by omega)]
    exact List.getElem_mem _
  rw [e] at this
  exact (List.nodup_cons.mp nd).1 this
theorem ra_inj {dr : Nat} {ra : List Nat} (h : (dr :: ra).Perm nine) (hl : ra.length = 8) {r s : Nat} (hr : r < 8) (hs : s < 8) (hn : r ≠ s) : ra.getD r 0 ≠ ra.getD s 0 := by
  have nd : (dr :: ra).Nodup := h.nodup_iff.mpr (by decide)
  have nd2 := (List.nodup_cons.mp nd).2
  rw [List.getD_eq_getElem?_getD, List.getElem?_eq_getElem (show r < ra.length by omega), List.getD_eq_getElem?_getD, List.getElem?_eq_getElem (show s < ra.length by omega)]
  intro e
  exact hn ((List.getElem_inj nd2).mp e)
theorem finA {S S' : SS} {ts : Nat → Vl} {dr : Nat} {ra : List Nat} {tape res : List Int32} (i3 : InvT S tape) (i4 : InvP S res) (i5 : InvG S ts dr ra) (hL : InvL S') (hB : InvB S') (h42 : S' 42 = S 42) (h79 : S' 79 = S 79) (h78 : rd S' 78 1 = rd S 78 1) (h44 : S' 44 = S 44) (h92 : S' 92 = S 92) (h46 : S' 46 = S 46) (h41 : rd S' 41 9 = rd S 41 9) (hn : ∀ a ∈ nine, a ≠ dr → S' a = S a) (h82 : ∀ r, r < 8 → S' (82 + r) = S (82 + r)) : Inv S' := by
  obtain ⟨g1, g2, g3, g4, g5⟩ := i5
  exact ⟨hL, hB, ⟨tape, i3.move h42 h79 h78⟩, ⟨res, i4.move h44 h92⟩, ts, dr, ra, h46.trans g1, g2, g3, h41.trans g4, fun r hr => (g5 r hr).move (hn _ (ra_mem g3 g2 hr) (ra_ne g3 g2 hr)) (h82 r hr)⟩
theorem swap_perm {dr : Nat} : ∀ {ra : List Nat} {n : Nat} (h : n < ra.length), (ra.getD n 0 :: ra.set n dr).Perm (dr :: ra) := by
  intro ra
  induction ra with
  | nil => intro n h; cases h
  | cons x ra ih =>
    intro n h
    cases n with
    | zero => exact List.Perm.swap dr x ra
    | succ n =>
      have := ih (n := n) (by simpa using h)
      show (ra.getD n 0 :: x :: ra.set n dr).Perm (dr :: x :: ra)
      exact ((List.Perm.swap x (ra.getD n 0) (ra.set n dr)).trans (this.cons x)).trans (List.Perm.swap dr x ra)
theorem finB {S S' : SS} {ts : Nat → Vl} {dr : Nat} {ra : List Nat} {tape res : List Int32} {n0 : Nat} {t : Vl} (i3 : InvT S tape) (i4 : InvP S res) (i5 : InvG S ts dr ra) (hn0 : n0 < 8) (hw : wV t) (hg : good t) (hL : InvL S') (hB : InvB S') (h42 : S' 42 = S 42) (h79 : S' 79 = S 79) (h78 : rd S' 78 1 = rd S 78 1) (h44 : S' 44 = S 44) (h92 : S' 92 = S 92) (h46 : S' 46 = (ra.set n0 dr).map Int32.ofNat) (h41 : rd S' 41 9 = Int32.ofNat (ra.getD n0 0)) (hn : ∀ a ∈ nine, a ≠ dr → S' a = S a) (hd : S' dr = 0 :: bV t) (h82 : ∀ r, r < 8 → r ≠ n0 → S' (82 + r) = S (82 + r)) (h83 : (S' (82 + n0)).length = 9000 ∧ ∃ j, S' (82 + n0) = cV t ++ j) : Inv S' := by
  obtain ⟨g1, g2, g3, g4, g5⟩ := i5
  refine ⟨hL, hB, ⟨tape, i3.move h42 h79 h78⟩, ⟨res, i4.move h44 h92⟩, fun r => if r = n0 then t else ts r, ra.getD n0 0, ra.set n0 dr, h46, by rw [List.length_set]; exact g2, (swap_perm (by omega)).trans g3, h41, fun r hr => ?_⟩
  by_cases e : r = n0
  · subst e
    have e1 : (ra.set r dr).getD r 0 = dr := by rw [List.getD_eq_getElem?_getD, List.getElem?_set_self (by omega)]; rfl
    rw [e1]
    simp only [if_true]
    exact ⟨hd, hg.1, hw, hg.2, h83.1, h83.2⟩
  · have e1 : (ra.set n0 dr).getD r 0 = ra.getD r 0 := by rw [List.getD_eq_getElem?_getD, List.getElem?_set_ne (fun q => e q.symm), ← List.getD_eq_getElem?_getD]
    rw [e1]
    simp only [if_neg e]
    exact (g5 r hr).move (hn _ (ra_mem g3 g2 hr) (ra_ne g3 g2 hr)) (h82 r hr e)
theorem outV_ok {S : SS} {ta : Nat} {c : Cu} (h : spU S ta c) : wV (outV c) := by
  cases c with
  | none => exact vNull_ok
  | some tw =>
    obtain ⟨t, w⟩ := tw
    obtain ⟨q, it, lo, hi, h1, h2, h3, h4⟩ := h
    have hw := h2.2.2.1
    cases w with
    | none => exact hw
    | some ab =>
      obtain ⟨a, b⟩ := ab
      obtain ⟨w1, w2, w3⟩ := h3 a b rfl
      unfold outV
      simp only
      by_cases k4 : t.1 = 4
      · rw [if_pos k4]
        exact ⟨(show (4 : Nat) ≤ 6 by decide), fun e => absurd e (show ¬ (4 : Nat) = 3 by decide), fun c hc => hw.2.2.1 c (List.mem_of_mem_drop (List.mem_of_mem_take hc)), fun _ => hw.2.2.2.1 (by omega), fun e => absurd e (show ¬ (4 : Nat) = 6 by decide), hw.2.2.2.2.2⟩
      · rw [if_neg k4]
        refine ⟨(show (5 : Nat) ≤ 6 by decide), fun e => absurd e (show ¬ (5 : Nat) = 3 by decide), hw.2.2.1, fun e => absurd (Or.inl rfl) e, fun e => absurd e (show ¬ (5 : Nat) = 6 by decide), ?_⟩
        rw [wF_iff]
        intro m hm
        have hm' : m ∈ ((toL t.2.2.2).drop a).take (b - a) := by
          have := hm
          simp only at this
          rw [toL_ofL] at this
          exact this
        exact (wF_iff _).mp hw.2.2.2.2.2 m (List.mem_of_mem_drop (List.mem_of_mem_take hm'))
/-- a register's text and cells -/
theorem reg_vat {S : SS} {a r : Nat} {t : Vl} (h : InvR S a r t) : vat (tT S a) 0 t ∧ cat (S (82 + r)) 0 t := by
  obtain ⟨h1, h2, h3, h4, h5, j, h6⟩ := h
  have e : tT S a = bV t := by unfold tT; rw [h1]; rfl
  exact ⟨by rw [e]; exact ⟨h2, (bV_pass t h3).2, h3, [], by rw [List.drop_zero, List.append_nil], Or.inl rfl⟩, by omega, h3, j, by rw [List.drop_zero]; exact h6⟩
/-- the reference begins a call -/
theorem begin_val {S : SS} (h78 : (S 78).length = 22) (h90 : (S 90).length = 3) (h91 : (S 91).length = 9000) : ∃ S', b_begin S = some S' ∧ (∀ a, a ≠ 78 → a ≠ 90 → S' a = S a) ∧ (∀ k, k ≠ 0 → k ≠ 12 → rd S' 78 k = rd S 78 k) ∧ rd S' 78 0 = 0 ∧ rd S' 78 12 = 0 ∧ (S' 78).length = 22 ∧ OutV S' [] := by
  unfold b_begin q_clear
  rw [o_bind]
  refine ⟨_, rfl, fun a n1 n2 => by rw [wr_ne n2, wr_ne n2, wr_ne n1, wr_ne n1], fun k k0 k12 => by rw [rd_wr_ne (by decide), rd_wr_ne (by decide), rd_wr_j (fun e => k12 e.symm), rd_wr_j (fun e => k0 e.symm)], ?_, ?_, ?_, ?_, ?_, ?_, ?_⟩
  · rw [rd_wr_ne (by decide), rd_wr_ne (by decide), rd_wr_j (by decide), rd_wr (by rw [h78]; decide)]
  · rw [rd_wr_ne (by decide), rd_wr_ne (by decide), rd_wr (by rw [wr_len, h78]; decide)]
  · rw [wr_len, wr_len, wr_len, wr_len]; exact h78
  · rw [wr_len, wr_len, wr_len, wr_len]; exact h91
  · rw [wr_len, wr_len, wr_len, wr_len]; exact h90
  · intro _
    refine ⟨⟨S 91, by rw [wr_ne (by decide), wr_ne (by decide), wr_ne (by decide), wr_ne (by decide)]; rfl⟩, ?_, ?_⟩
    · rw [rd_wr_j (by decide), rd_wr (by rw [wr_len, wr_len, h90]; decide)]; rfl
    · rw [rd_wr (by rw [wr_len, wr_len, wr_len, h90]; decide)]
  · intro h; simp at h
/-- the reference ends a call -/
theorem finish_ref {S : SS} (p0 p1 p2 : Int32) (h : rd S 78 12 = 1) (h78 : (S 78).length = 22) : ∃ S', b_finish S p0 p1 p2 = some S' ∧ (∀ a, a ≠ 78 → S' a = S a) ∧ rd S' 78 0 = p1 ∧ rd S' 78 4 = 1 ∧ ∀ k, k ≠ 0 → k ≠ 4 → rd S' 78 k = rd S 78 k := by
  unfold b_finish
  rw [h, if_neg (by decide)]
  exact ⟨_, rfl, fun a ha => by rw [wr_ne ha, wr_ne ha], rd_wr (by rw [wr_len, h78]; decide), by rw [rd_wr_j (by decide), rd_wr (by rw [h78]; decide)], fun k k0 k4 => by rw [rd_wr_j (fun e => k0 e.symm), rd_wr_j (fun e => k4 e.symm)]⟩
theorem finish_val {S : SS} {t : Vl} {n0 : Nat} (p1 p2 : Int32) (hn : n0 < 8) (h : rd S 78 12 = 0) (h0 : rd S 78 0 = 0) (h78 : (S 78).length = 22) (hw : wV t) (ho : OutV S (cV t)) (h80 : (S 80).length = 9000) (h82 : (S (82 + n0)).length = 9000) : (good t → ∃ S', b_finish S (Int32.ofNat n0) p1 p2 = some S' ∧ (∀ a, a ≠ 80 → a ≠ 94 → a ≠ 82 + n0 → S' a = S a) ∧ (S' 80).length = 9000 ∧ (S' (82 + n0)).length = 9000 ∧ ∃ j, S' (82 + n0) = cV t ++ j) ∧ (¬ good t → ∃ S', b_finish S (Int32.ofNat n0) p1 p2 = some S' ∧ (∀ a, a ≠ 80 → a ≠ 94 → a ≠ 78 → S' a = S a) ∧ (S' 80).length = 9000 ∧ rd S' 78 0 = p2 ∧ ∀ k, k ≠ 0 → rd S' 78 k = rd S 78 k) := by
  obtain ⟨S1, e1, f1, l1⟩ := fits_val hw ho h80
  unfold b_finish
  rw [h, if_pos (by decide), e1, o_bind]
  refine ⟨fun hg => ?_, fun hg => ?_⟩
  · rw [if_pos hg]
    have cb := cbound t hw
    have ho1 : OutV S1 (cV t) := by
      unfold OutV rd
      rw [f1 91 (by decide) (by decide), f1 90 (by decide) (by decide)]
      exact ho
    obtain ⟨S2, e2, f2, l2, j2⟩ := bkeep_val hn (by have := hg.1; omega) ho1 (by rw [f1 _ (by omega) (by omega)]; exact h82)
    rw [if_neg (show ¬ (1 : Int32) = 0 by decide), e2, o_bind]
    exact ⟨S2, rfl, fun a n1 n2 n3 => (f2 a n3).trans (f1 a n1 n2), by rw [f2 80 (by omega)]; exact l1, l2, j2⟩
  · rw [if_neg hg, if_pos rfl]
    show ∃ S', some (wr S1 78 0 p2) = some S' ∧ _
    exact ⟨_, rfl, fun a n1 n2 n3 => by rw [wr_ne n3, f1 a n1 n2], by rw [wr_ne (by decide)]; exact l1, rd_wr (by rw [f1 78 (by decide) (by decide), h78]; decide), fun k hk => by rw [rd_wr_j (fun e => hk e.symm)]; unfold rd; rw [f1 78 (by decide) (by decide)]⟩
end Fin138
