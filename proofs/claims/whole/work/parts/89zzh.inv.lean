/-! What holds between calls; the calls count, word and end. -/
section Inv123
theorem rd_up {S : SS} {a b k : Nat} {l : List Int32} (h : b ≠ a) : rd (up S a l) b k = rd S b k := by unfold rd; rw [up_ne h]
theorem wr_ne {S : SS} {a b k : Nat} {v : Int32} (h : b ≠ a) : wr S a k v b = S b := up_ne h
theorem rd_wr_ne {S : SS} {a b k j : Nat} {v : Int32} (h : b ≠ a) : rd (wr S a k v) b j = rd S b j := rd_up h
theorem rd_wr {S : SS} {a k : Nat} {v : Int32} (h : k < (S a).length) : rd (wr S a k v) a k = v := by
  unfold rd wr
  rw [up_same, List.getD_eq_getElem?_getD, List.getElem?_set_self h]
  rfl
theorem rd_wr_j {S : SS} {a k j : Nat} {v : Int32} (h : k ≠ j) : rd (wr S a k v) a j = rd S a j := by
  unfold rd wr
  rw [up_same, List.getD_eq_getElem?_getD, List.getElem?_set_ne h, List.getD_eq_getElem?_getD]
theorem wr_len {S : SS} {a k b : Nat} {v : Int32} : (wr S a k v b).length = (S b).length := by
  unfold wr up
  split
  · next e => rw [List.length_set, e]
  · rfl
/-- the places of the nine Texts that change places -/
def nine : List Nat := [49, 51, 53, 55, 57, 59, 61, 63, 65]
/-- rows that calls write anew -/
def InvL (S : SS) : Prop := rd S 47 1 = 0 ∧ (S 48).length = 2048 ∧ (S 71).length = 100 ∧ (S 74).length = 100 ∧ (S 76).length = 60 ∧ (S 77).length = 60 ∧ (S 80).length = 9000 ∧ (S 91).length = 9000 ∧ (S 97).length = 4200 ∧ (S 98).length = 9000 ∧ (S 99).length = 64 ∧ (S 100).length = 64 ∧ S 39 = mp_aS ∧ S 40 = mp_aE
/-- register r, by both -/
def InvR (S : SS) (a r : Nat) (t : Vl) : Prop := S a = 0 :: bV t ∧ (bV t).length ≤ 4096 ∧ wV t ∧ dV t ≤ 60 ∧ (S (82 + r)).length = 9000 ∧ ∃ j, S (82 + r) = cV t ++ j
/-- the registers: their Texts, the draft -/
def InvG (S : SS) (ts : Nat → Vl) (dr : Nat) (ra : List Nat) : Prop := S 46 = ra.map Int32.ofNat ∧ ra.length = 8 ∧ (dr :: ra).Perm nine ∧ rd S 41 9 = Int32.ofNat dr ∧ ∀ r, r < 8 → InvR S (ra.getD r 0) r (ts r)
/-- the tape, by both -/
def InvT (S : SS) (tape : List Int32) : Prop := S 42 = 0 :: tape ∧ tape.length ≤ 4096 ∧ byt tape ∧ (S 79).length = 4096 ∧ (∃ j, S 79 = tape ++ j) ∧ rd S 78 1 = Int32.ofNat tape.length
/-- what was printed last, by both -/
def InvP (S : SS) (res : List Int32) : Prop := S 44 = 0 :: res ∧ S 92 = 0 :: res ∧ res.length ≤ 4096 ∧ asc res
/-- where the tape was broken, why a call was refused -/
def InvB (S : SS) : Prop := (False → rd S 78 3 = rd S 41 10) ∧ (False → rd S 78 4 = rd S 41 11)
/-- the call count, its answers not compared -/
def stu10 (I : SS → Prop) : Prop := ∀ (S : SS) (p0 : Int32), (∃ h, cs h S) → I S → ∃ (c : SS × Int32) (w : SS × Int32), h_count S p0 = some c ∧ c.1 0 = S 0 ∧ b_count c.1 p0 = some w ∧ w.1 0 = S 0 ∧ I w.1
def Inv (S : SS) : Prop := InvL S ∧ InvB S ∧ (∃ tape, InvT S tape) ∧ (∃ res, InvP S res) ∧ ∃ ts dr ra, InvG S ts dr ra
theorem InvL.move {S S' : SS} (h : InvL S) (h1 : ∀ a ∈ [47, 48, 71, 74, 76, 77, 80, 91, 97, 98, 99, 100, 39, 40], S' a = S a) : InvL S' := by
  obtain ⟨a1, a2, a3, a4, a5, a6, a7, a8, a9, a10, a11, a12, a13, a14⟩ := h
  have e : ∀ a, a ∈ [47, 48, 71, 74, 76, 77, 80, 91, 97, 98, 99, 100, 39, 40] → S' a = S a := h1
  unfold InvL rd
  rw [e 47 (by decide), e 48 (by decide), e 71 (by decide), e 74 (by decide), e 76 (by decide), e 77 (by decide), e 80 (by decide), e 91 (by decide), e 97 (by decide), e 98 (by decide), e 99 (by decide), e 100 (by decide), e 39 (by decide), e 40 (by decide)]
  exact ⟨a1, a2, a3, a4, a5, a6, a7, a8, a9, a10, a11, a12, a13, a14⟩
theorem InvR.move {S S' : SS} {a r : Nat} {t : Vl} (h : InvR S a r t) (h1 : S' a = S a) (h2 : S' (82 + r) = S (82 + r)) : InvR S' a r t := by
  unfold InvR
  rw [h1, h2]
  exact h
theorem ra_mem {dr : Nat} {ra : List Nat} (h : (dr :: ra).Perm nine) (hl : ra.length = 8) {r : Nat} (hr : r < 8) : ra.getD r 0 ∈ nine := by
  have : ra.getD r 0 ∈ ra := by
    rw [List.getD_eq_getElem?_getD, List.getElem?_eq_getElem (by omega)]
    exact List.getElem_mem _
  exact h.mem_iff.mp (List.mem_cons_of_mem _ this)
theorem InvG.move {S S' : SS} {ts : Nat → Vl} {dr : Nat} {ra : List Nat} (h : InvG S ts dr ra) (h1 : S' 46 = S 46) (h2 : rd S' 41 9 = rd S 41 9) (h3 : ∀ a ∈ nine, S' a = S a) (h4 : ∀ r, r < 8 → S' (82 + r) = S (82 + r)) : InvG S' ts dr ra := by
  obtain ⟨g1, g2, g3, g4, g5⟩ := h
  exact ⟨h1.trans g1, g2, g3, h2.trans g4, fun r hr => (g5 r hr).move (h3 _ (ra_mem g3 g2 hr)) (h4 r hr)⟩
theorem InvT.move {S S' : SS} {tape : List Int32} (h : InvT S tape) (h1 : S' 42 = S 42) (h2 : S' 79 = S 79) (h3 : rd S' 78 1 = rd S 78 1) : InvT S' tape := by
  unfold InvT
  rw [h1, h2, h3]
  exact h
theorem InvP.move {S S' : SS} {res : List Int32} (h : InvP S res) (h1 : S' 44 = S 44) (h2 : S' 92 = S 92) : InvP S' res := by
  unfold InvP
  rw [h1, h2]
  exact h
/-- only what the law or the reference notes of a call has changed -/
theorem Inv.note {S S' : SS} (h : Inv S) (h1 : ∀ a, a ≠ 78 → a ≠ 101 → S' a = S a) (h2 : rd S' 78 1 = rd S 78 1) (h3 : rd S' 78 3 = rd S 78 3) (h4 : rd S' 78 4 = rd S 78 4) : Inv S' := by
  obtain ⟨i1, i2, ⟨tape, i3⟩, ⟨res, i4⟩, ts, dr, ra, i5⟩ := h
  have e : ∀ k, rd S' 41 k = rd S 41 k := fun k => by unfold rd; rw [h1 41 (by decide) (by decide)]
  refine ⟨i1.move fun a ha => h1 a ?_ ?_, ⟨by rw [h3, e]; exact i2.1, by rw [h4, e]; exact i2.2⟩, ⟨tape, i3.move (h1 42 (by decide) (by decide)) (h1 79 (by decide) (by decide)) h2⟩, ⟨res, i4.move (h1 44 (by decide) (by decide)) (h1 92 (by decide) (by decide))⟩, ts, dr, ra, i5.move (h1 46 (by decide) (by decide)) (e 9) (fun a ha => h1 a ?_ ?_) (fun r hr => h1 _ (by omega) (by omega))⟩
  · intro e; rw [e] at ha; revert ha; decide
  · intro e; rw [e] at ha; revert ha; decide
  · intro e; rw [e] at ha; revert ha; decide
  · intro e; rw [e] at ha; revert ha; decide
theorem cs.l78 {S : SS} (h : ∃ h, cs h S) : (S 78).length = 22 ∧ (S 41).length = 12 ∧ (S 90).length = 3 ∧ (S 96).length = 5 ∧ (S 67).length = 6 ∧ (S 68).length = 4 ∧ (S 69).length = 9 ∧ (S 70).length = 4 ∧ (S 72).length = 6 ∧ (S 73).length = 4 ∧ (S 75).length = 4 ∧ (S 47).length = 2 := by
  obtain ⟨h, hs⟩ := h
  exact ⟨(hs.ob o78).1, (hs.ob o41).1, (hs.ob o90).1, (hs.ob o96).1, (hs.ob o67).1, (hs.ob o68).1, (hs.ob o69).1, (hs.ob o70).1, (hs.ob o72).1, (hs.ob o73).1, (hs.ob o75).1, (hs.ob o47).1⟩
/-- noted: nothing was thrown, or what -/
theorem note0 {S : SS} {y : Int64} {v : Int32} (h : Inv S) : Inv (wr (up S 101 (lgE y)) 78 0 v) :=
  h.note (fun a n1 n2 => by rw [wr_ne n1, up_ne n2]) (by rw [rd_wr_j (by decide), rd_up (by decide)]) (by rw [rd_wr_j (by decide), rd_up (by decide)]) (by rw [rd_wr_j (by decide), rd_up (by decide)])
theorem note1 {S : SS} {v : Int32} (h : Inv S) : Inv (wr S 78 0 v) :=
  h.note (fun a n1 _ => wr_ne n1) (rd_wr_j (by decide)) (rd_wr_j (by decide)) (rd_wr_j (by decide))
theorem wr_wr (S : SS) (a k : Nat) (v v' : Int32) : wr (wr S a k v) a k v' = wr S a k v' := by
  unfold wr
  rw [up_up, up_same, List.set_set]
theorem fail_eq (S : SS) (v w : Int32) : b_fail (wr S 78 0 v) w = some (wr S 78 0 w, 0) := by unfold b_fail; rw [wr_wr]
/-- count -/
theorem oq10 : stu10 Inv := by
  intro S p0 hc hI
  obtain ⟨l78, l41, -⟩ := cs.l78 hc
  have hI' := hI
  obtain ⟨i1, i2, ⟨tape, i3⟩, ⟨res, i4⟩, -⟩ := hI'
  have key : ∀ v v' : Int32, a_count S p0 = some (S, 0, v) → (∀ y, b_count (up S 101 y) p0 = some (wr (up S 101 y) 78 0 0, v')) → ∃ (c : SS × Int32) (w : SS × Int32), h_count S p0 = some c ∧ c.1 0 = S 0 ∧ b_count c.1 p0 = some w ∧ w.1 0 = S 0 ∧ Inv w.1 := by
    intro v v' e1 e2
    refine ⟨(up S 101 (lgE v.toInt64), 0), (wr (up S 101 (lgE v.toInt64)) 78 0 0, v'), ?_, (show up S 101 (lgE v.toInt64) 0 = S 0 from up_ne (by decide)), e2 _, ?_, note0 hI⟩
    · unfold h_count; rw [e1, o_bind, if_pos rfl]
    · show wr (up S 101 (lgE v.toInt64)) 78 0 0 0 = _
      rw [wr_ne (by decide), up_ne (by decide)]
  have r1 : ∀ y, rd (wr (up S 101 y) 78 0 0) 78 1 = rd S 78 1 := fun y => by rw [rd_wr_j (by decide), rd_up (by decide)]
  by_cases h0 : p0 = 0
  · refine key (Int32.ofNat tape.length) (Int32.ofNat tape.length) (by unfold a_count; rw [if_pos h0]; unfold tT; rw [i3.1]; rfl) fun y => ?_
    unfold b_count
    rw [if_pos h0, rd_wr_j (by decide), rd_up (by decide), i3.2.2.2.2.2]
  by_cases h1 : p0 = 1
  · refine key (Int32.ofNat res.length) (Int32.ofNat res.length) (by unfold a_count; rw [if_neg h0, if_pos h1]; unfold tT; rw [i4.1]; rfl) fun y => ?_
    unfold b_count
    rw [if_neg h0, if_pos h1]
    unfold tT
    rw [wr_ne (by decide), up_ne (by decide), i4.2.1]
    rfl
  by_cases h2 : p0 = 2
  · refine key (rd S 41 10) (rd S 78 3) (by unfold a_count; rw [if_neg h0, if_neg h1, if_pos h2]) fun y => ?_
    unfold b_count
    rw [if_neg h0, if_neg h1, if_pos h2, rd_wr_j (by decide), rd_up (by decide)]
  by_cases h3 : p0 = 3
  · refine key (rd S 41 11) (rd S 78 4) (by unfold a_count; rw [if_neg h0, if_neg h1, if_neg h2, if_pos h3]) fun y => ?_
    unfold b_count
    rw [if_neg h0, if_neg h1, if_neg h2, if_pos h3, rd_wr_j (by decide), rd_up (by decide)]
  refine ⟨(S, 1), (wr S 78 0 1, 0), ?_, rfl, ?_, (show wr S 78 0 1 0 = S 0 from wr_ne (by decide)), note1 hI⟩
  · unfold h_count a_count
    rw [if_neg h0, if_neg h1, if_neg h2, if_neg h3, o_bind, if_neg (show ¬ (2 : Nat) = 0 by decide), if_pos rfl]
  · unfold b_count
    rw [if_neg h0, if_neg h1, if_neg h2, if_neg h3, fail_eq, o_bind]
end Inv123
