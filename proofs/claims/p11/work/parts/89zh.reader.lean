/-! PRINTED BY wip/whole (dec2): the reference's Reader. -/
section
set_option maxRecDepth 4000
variable {d : Nat} {h : mH} {q : Nat × Nat}
def e_at (S : SS) (p0 : Int32) : Option (Int32) := (if (rd S 96 1) ≤ p0 then some (-1) else (if rd S 96 0 = 0 then none else ((iget (S ((rd S 96 0).toNatClampNeg)) p0).bind fun b3 => some b3)))
theorem s169 {S : SS} {p0 : Int32} {v : Int32} (hs : cs h S) (hv : e_at S p0 = some v) : mW d mm169 (0, [some (.ref 96), some (.int p0)], [], (h, q)) (mQ q S (some (.int v))) := by
  unfold e_at at hv
  refine mW.sn 2 (g' := (2, [some (.ref 96), some (.int p0)], [.ref 96, .int p0], (h, q))) rfl ?_
  refine sW.getI rfl hs o96 rfl rfl ?_
  refine mW.br (g1 := (17, [some (.ref 96), some (.int p0)], [], (h, q))) (g2 := (8, [some (.ref 96), some (.int p0)], [], (h, q))) (c := (rd S 96 1) ≤ p0) rfl (fun hc1 => ?_) (fun hc1 => ?_)
  · rw [if_pos hc1] at hv
    refine mW.sn 1 (g' := (18, [some (.ref 96), some (.int p0)], [.int (-1)], (h, q))) rfl ?_
    cases hv
    exact sW.fin hs rfl
  · rw [if_neg hc1] at hv
    refine mW.sn 1 (g' := (9, [some (.ref 96), some (.int p0)], [.ref 96], (h, q))) rfl ?_
    by_cases hz2 : rd S 96 0 = 0
    · rw [if_pos hz2] at hv; cases hv
    rw [if_neg hz2] at hv
    refine sW.getN rfl hs o96 rfl rfl hz2 ?_
    refine mW.sn 1 (g' := (13, [some (.ref 96), some (.int p0)], [.int p0, .ref ((rd S 96 0).toNatClampNeg)], (h, q))) rfl ?_
    cases hr3 : iget (S ((rd S 96 0).toNatClampNeg)) p0 with
    | none => rw [hr3] at hv; cases hv
    | some b3 =>
      rw [hr3, o_bind] at hv
      refine sW.iald rfl hs (hs.okA o96 rfl hz2) hr3 ?_
      refine mW.sn 1 (g' := (18, [some (.ref 96), some (.int p0)], [.int b3], (h, q))) rfl ?_
      cases hv
      exact sW.fin hs rfl
def e_blanks_l0 : Nat → SS → Option (SS)
  | 0, _ => none
  | n + 1, S => ((e_at S (rd S 96 2)).bind fun r1 => (if r1 = (32 : Int32) then e_blanks_l0 n (wr S 96 2 ((rd S 96 2) + 1)) else (if r1 = (9 : Int32) then e_blanks_l0 n (wr S 96 2 ((rd S 96 2) + 1)) else (if r1 = (10 : Int32) then e_blanks_l0 n (wr S 96 2 ((rd S 96 2) + 1)) else (if r1 = (13 : Int32) then e_blanks_l0 n (wr S 96 2 ((rd S 96 2) + 1)) else some S)))))
theorem e_blanks_l0_ok : ∀ (n : Nat), ∀ (h : mH) (S : SS) (v : SS), cs h S → e_blanks_l0 n S = some v → mW (d + 1) mm168 (0, [some (.ref 96)], [], (h, q)) (mQ q v none) := by
  intro n
  induction n with
  | zero => intro h S v hs hv; cases hv
  | succ n ih =>
    intro h S v hs hv
    unfold e_blanks_l0 at hv
    refine mW.sn 2 (g' := (2, [some (.ref 96)], [.ref 96, .ref 96], (h, q))) rfl ?_
    refine sW.getI rfl hs o96 rfl rfl ?_
    cases hr1 : e_at S (rd S 96 2) with
    | none => rw [hr1] at hv; cases hv
    | some r1 =>
      rw [hr1, o_bind] at hv
      refine sW.call rfl rfl rfl rfl (hs.rcv o96) (s169 hs hr1) ?_
      intro h2 hs2
      refine mW.sn 1 (g' := (10, [some (.ref 96)], [.int 32, .int r1], (h2, q))) rfl ?_
      refine mW.br (g1 := (52, [some (.ref 96)], [], (h2, q))) (g2 := (13, [some (.ref 96)], [], (h2, q))) (c := r1 = (32 : Int32)) rfl (fun hc3 => ?_) (fun hc3 => ?_)
      · rw [if_pos hc3] at hv
        refine mW.sn 2 (g' := (54, [some (.ref 96)], [.ref 96, .ref 96], (h2, q))) rfl ?_
        refine sW.getI rfl hs2 o96 rfl rfl ?_
        refine mW.sn 2 (g' := (59, [some (.ref 96)], [.int ((rd S 96 2) + 1), .ref 96], (h2, q))) rfl ?_
        refine sW.putI rfl hs2 o96 rfl ?_
        intro h4 hs4
        refine mW.sn 1 (g' := (0, [some (.ref 96)], [], (h4, q))) rfl ?_
        exact ih _ _ _  hs4 hv
      · rw [if_neg hc3] at hv
        refine mW.sn 2 (g' := (15, [some (.ref 96)], [.ref 96, .ref 96], (h2, q))) rfl ?_
        refine sW.getI rfl hs2 o96 rfl rfl ?_
        refine sW.call rfl rfl rfl rfl (hs2.rcv o96) (s169 hs2 hr1) ?_
        intro h5 hs5
        refine mW.sn 1 (g' := (23, [some (.ref 96)], [.int 9, .int r1], (h5, q))) rfl ?_
        refine mW.br (g1 := (52, [some (.ref 96)], [], (h5, q))) (g2 := (26, [some (.ref 96)], [], (h5, q))) (c := r1 = (9 : Int32)) rfl (fun hc6 => ?_) (fun hc6 => ?_)
        · rw [if_pos hc6] at hv
          refine mW.sn 2 (g' := (54, [some (.ref 96)], [.ref 96, .ref 96], (h5, q))) rfl ?_
          refine sW.getI rfl hs5 o96 rfl rfl ?_
          refine mW.sn 2 (g' := (59, [some (.ref 96)], [.int ((rd S 96 2) + 1), .ref 96], (h5, q))) rfl ?_
          refine sW.putI rfl hs5 o96 rfl ?_
          intro h7 hs7
          refine mW.sn 1 (g' := (0, [some (.ref 96)], [], (h7, q))) rfl ?_
          exact ih _ _ _  hs7 hv
        · rw [if_neg hc6] at hv
          refine mW.sn 2 (g' := (28, [some (.ref 96)], [.ref 96, .ref 96], (h5, q))) rfl ?_
          refine sW.getI rfl hs5 o96 rfl rfl ?_
          refine sW.call rfl rfl rfl rfl (hs5.rcv o96) (s169 hs5 hr1) ?_
          intro h8 hs8
          refine mW.sn 1 (g' := (36, [some (.ref 96)], [.int 10, .int r1], (h8, q))) rfl ?_
          refine mW.br (g1 := (52, [some (.ref 96)], [], (h8, q))) (g2 := (39, [some (.ref 96)], [], (h8, q))) (c := r1 = (10 : Int32)) rfl (fun hc9 => ?_) (fun hc9 => ?_)
          · rw [if_pos hc9] at hv
            refine mW.sn 2 (g' := (54, [some (.ref 96)], [.ref 96, .ref 96], (h8, q))) rfl ?_
            refine sW.getI rfl hs8 o96 rfl rfl ?_
            refine mW.sn 2 (g' := (59, [some (.ref 96)], [.int ((rd S 96 2) + 1), .ref 96], (h8, q))) rfl ?_
            refine sW.putI rfl hs8 o96 rfl ?_
            intro h10 hs10
            refine mW.sn 1 (g' := (0, [some (.ref 96)], [], (h10, q))) rfl ?_
            exact ih _ _ _  hs10 hv
          · rw [if_neg hc9] at hv
            refine mW.sn 2 (g' := (41, [some (.ref 96)], [.ref 96, .ref 96], (h8, q))) rfl ?_
            refine sW.getI rfl hs8 o96 rfl rfl ?_
            refine sW.call rfl rfl rfl rfl (hs8.rcv o96) (s169 hs8 hr1) ?_
            intro h11 hs11
            refine mW.sn 1 (g' := (49, [some (.ref 96)], [.int 13, .int r1], (h11, q))) rfl ?_
            refine mW.br (g1 := (52, [some (.ref 96)], [], (h11, q))) (g2 := (65, [some (.ref 96)], [], (h11, q))) (c := r1 = (13 : Int32)) rfl (fun hc12 => ?_) (fun hc12 => ?_)
            · rw [if_pos hc12] at hv
              refine mW.sn 2 (g' := (54, [some (.ref 96)], [.ref 96, .ref 96], (h11, q))) rfl ?_
              refine sW.getI rfl hs11 o96 rfl rfl ?_
              refine mW.sn 2 (g' := (59, [some (.ref 96)], [.int ((rd S 96 2) + 1), .ref 96], (h11, q))) rfl ?_
              refine sW.putI rfl hs11 o96 rfl ?_
              intro h13 hs13
              refine mW.sn 1 (g' := (0, [some (.ref 96)], [], (h13, q))) rfl ?_
              exact ih _ _ _  hs13 hv
            · rw [if_neg hc12] at hv
              cases hv
              exact sW.fin hs11 rfl
def e_blanks (S : SS) : Option (SS) := e_blanks_l0 10000 S
theorem s168 {S : SS} {v : SS} (hs : cs h S) (hv : e_blanks S = some v) : mW (d + 1) mm168 (0, [some (.ref 96)], [], (h, q)) (mQ q v none) := by
  unfold e_blanks at hv
  exact e_blanks_l0_ok _ _ _ _  hs hv
def e_digit (S : SS) : Option (Int32) := ((e_at S (rd S 96 2)).bind fun r1 => (if r1 < (48 : Int32) then some 0 else (if (57 : Int32) < r1 then some 0 else some 1)))
theorem s201 {S : SS} {v : Int32} (hs : cs h S) (hv : e_digit S = some v) : mW (d + 1) mm201 (0, [some (.ref 96)], [], (h, q)) (mQ q S (some (.int v))) := by
  unfold e_digit at hv
  refine mW.sn 2 (g' := (2, [some (.ref 96)], [.ref 96, .ref 96], (h, q))) rfl ?_
  refine sW.getI rfl hs o96 rfl rfl ?_
  cases hr1 : e_at S (rd S 96 2) with
  | none => rw [hr1] at hv; cases hv
  | some r1 =>
    rw [hr1, o_bind] at hv
    refine sW.call rfl rfl rfl rfl (hs.rcv o96) (s169 hs hr1) ?_
    intro h2 hs2
    refine mW.sn 1 (g' := (10, [some (.ref 96)], [.int 48, .int r1], (h2, q))) rfl ?_
    refine mW.br (g1 := (30, [some (.ref 96)], [], (h2, q))) (g2 := (13, [some (.ref 96)], [], (h2, q))) (c := r1 < (48 : Int32)) rfl (fun hc3 => ?_) (fun hc3 => ?_)
    · rw [if_pos hc3] at hv
      refine mW.sn 1 (g' := (31, [some (.ref 96)], [.int 0], (h2, q))) rfl ?_
      cases hv
      exact sW.fin hs2 rfl
    · rw [if_neg hc3] at hv
      refine mW.sn 2 (g' := (15, [some (.ref 96)], [.ref 96, .ref 96], (h2, q))) rfl ?_
      refine sW.getI rfl hs2 o96 rfl rfl ?_
      refine sW.call rfl rfl rfl rfl (hs2.rcv o96) (s169 hs2 hr1) ?_
      intro h4 hs4
      refine mW.sn 1 (g' := (23, [some (.ref 96)], [.int 57, .int r1], (h4, q))) rfl ?_
      refine mW.br (g1 := (30, [some (.ref 96)], [], (h4, q))) (g2 := (26, [some (.ref 96)], [], (h4, q))) (c := (57 : Int32) < r1) rfl (fun hc5 => ?_) (fun hc5 => ?_)
      · rw [if_pos hc5] at hv
        refine mW.sn 1 (g' := (31, [some (.ref 96)], [.int 0], (h4, q))) rfl ?_
        cases hv
        exact sW.fin hs4 rfl
      · rw [if_neg hc5] at hv
        refine mW.sn 2 (g' := (31, [some (.ref 96)], [.int 1], (h4, q))) rfl ?_
        cases hv
        exact sW.fin hs4 rfl
def e_fail (S : SS) (p0 : Int32) : Option (SS × Int32) := some (wr S 96 3 p0, 0)
theorem s172 {S : SS} {p0 : Int32} {v : SS × Int32} (hs : cs h S) (hv : e_fail S p0 = some v) : mW d mm172 (0, [some (.ref 96), some (.int p0)], [], (h, q)) (mQ q v.1 (some (.int v.2))) := by
  unfold e_fail at hv
  refine mW.sn 2 (g' := (2, [some (.ref 96), some (.int p0)], [.int p0, .ref 96], (h, q))) rfl ?_
  refine sW.putI rfl hs o96 rfl ?_
  intro h1 hs1
  refine mW.sn 1 (g' := (6, [some (.ref 96), some (.int p0)], [.int 0], (h1, q))) rfl ?_
  cases hv
  exact sW.fin hs1 rfl
def e_word_l2 (bs : List Int32) : Nat → SS → Int32 → Int32 → Option (SS × Int32)
  | 0, _, _, _ => none
  | n + 1, S, l2, l3 => (if (Int32.ofNat bs.length) ≤ l3 then (if rd S 96 4 = 0 then none else ((q_simple S l2).bind fun r4 => some (r4, 1))) else ((e_at S (rd S 96 2)).bind fun r6 => ((sch bs l3).bind fun r8 => (if r6 = r8 then e_word_l2 bs n (wr S 96 2 ((rd S 96 2) + 1)) l2 (l3 + 1) else ((e_fail S (rd S 96 2)).bind fun r12 => some (r12.1, r12.2 &&& 1))))))
theorem e_word_l2_ok {c c' : Nat} {bs : List Int32} (hc : (c, c', bs) ∈ shS) : ∀ (n : Nat), ∀ (h : mH) (S : SS) (l2 : Int32) (l3 : Int32) (v : SS × Int32), cs h S → e_word_l2 bs n S l2 l3 = some v → mW (d + 4) mm171 (2, [some (.ref 96), some (.ref c), some (.int l2), some (.int l3)], [], (h, q)) (mQ q v.1 (some (.int v.2))) := by
  intro n
  induction n with
  | zero => intro h S l2 l3 v hs hv; cases hv
  | succ n ih =>
    intro h S l2 l3 v hs hv
    unfold e_word_l2 at hv
    refine mW.sn 2 (g' := (4, [some (.ref 96), some (.ref c), some (.int l2), some (.int l3)], [.ref c, .int l3], (h, q))) rfl ?_
    refine sW.call rfl rfl rfl rfl (hs.rcvS hc) (sW.of hs (x4 (hs.gsx hc))) ?_
    intro h1 hs1
    refine mW.br (g1 := (51, [some (.ref 96), some (.ref c), some (.int l2), some (.int l3)], [], (h1, q))) (g2 := (10, [some (.ref 96), some (.ref c), some (.int l2), some (.int l3)], [], (h1, q))) (c := (Int32.ofNat bs.length) ≤ l3) rfl (fun hc2 => ?_) (fun hc2 => ?_)
    · rw [if_pos hc2] at hv
      refine mW.sn 1 (g' := (52, [some (.ref 96), some (.ref c), some (.int l2), some (.int l3)], [.ref 96], (h1, q))) rfl ?_
      by_cases hz3 : rd S 96 4 = 0
      · rw [if_pos hz3] at hv; cases hv
      rw [if_neg hz3] at hv
      refine sW.getU rfl hs1 o96 rfl hz3 ?_
      refine mW.sn 1 (g' := (56, [some (.ref 96), some (.ref c), some (.int l2), some (.int l3)], [.int l2, .ref 90], (h1, q))) rfl ?_
      cases hr4 : q_simple S l2 with
      | none => rw [hr4] at hv; cases hv
      | some r4 =>
        rw [hr4, o_bind] at hv
        refine sW.call rfl rfl rfl rfl (hs1.rcv o90) (s173 hs1 hr4) ?_
        intro h5 hs5
        refine mW.sn 1 (g' := (60, [some (.ref 96), some (.ref c), some (.int l2), some (.int l3)], [.int 1], (h5, q))) rfl ?_
        cases hv
        exact sW.fin hs5 rfl
    · rw [if_neg hc2] at hv
      refine mW.sn 2 (g' := (12, [some (.ref 96), some (.ref c), some (.int l2), some (.int l3)], [.ref 96, .ref 96], (h1, q))) rfl ?_
      refine sW.getI rfl hs1 o96 rfl rfl ?_
      cases hr6 : e_at S (rd S 96 2) with
      | none => rw [hr6] at hv; cases hv
      | some r6 =>
        rw [hr6, o_bind] at hv
        refine sW.call rfl rfl rfl rfl (hs1.rcv o96) (s169 hs1 hr6) ?_
        intro h7 hs7
        refine mW.sn 2 (g' := (20, [some (.ref 96), some (.ref c), some (.int l2), some (.int l3)], [.int l3, .ref c, .int r6], (h7, q))) rfl ?_
        cases hr8 : sch bs l3 with
        | none => rw [hr8] at hv; cases hv
        | some r8 =>
          rw [hr8, o_bind] at hv
          refine sW.call rfl rfl rfl rfl (hs7.rcvS hc) (sW.of hs7 (x6o (hs7.gsx hc) hr8)) ?_
          intro h9 hs9
          refine mW.br (g1 := (35, [some (.ref 96), some (.ref c), some (.int l2), some (.int l3)], [], (h9, q))) (g2 := (26, [some (.ref 96), some (.ref c), some (.int l2), some (.int l3)], [], (h9, q))) (c := r6 = r8) rfl (fun hc10 => ?_) (fun hc10 => ?_)
          · rw [if_pos hc10] at hv
            refine mW.sn 2 (g' := (37, [some (.ref 96), some (.ref c), some (.int l2), some (.int l3)], [.ref 96, .ref 96], (h9, q))) rfl ?_
            refine sW.getI rfl hs9 o96 rfl rfl ?_
            refine mW.sn 2 (g' := (42, [some (.ref 96), some (.ref c), some (.int l2), some (.int l3)], [.int ((rd S 96 2) + 1), .ref 96], (h9, q))) rfl ?_
            refine sW.putI rfl hs9 o96 rfl ?_
            intro h11 hs11
            refine mW.sn 2 (g' := (2, [some (.ref 96), some (.ref c), some (.int l2), some (.int (l3 + 1))], [], (h11, q))) rfl ?_
            exact ih _ _ _ _ _  hs11 hv
          · rw [if_neg hc10] at hv
            refine mW.sn 2 (g' := (28, [some (.ref 96), some (.ref c), some (.int l2), some (.int l3)], [.ref 96, .ref 96], (h9, q))) rfl ?_
            refine sW.getI rfl hs9 o96 rfl rfl ?_
            cases hr12 : e_fail S (rd S 96 2) with
            | none => rw [hr12] at hv; cases hv
            | some r12 =>
              rw [hr12, o_bind] at hv
              refine sW.call rfl rfl rfl rfl (hs9.rcv o96) (s172 hs9 hr12) ?_
              intro h13 hs13
              cases hv
              exact sW.fin hs13 rfl
def e_word (S : SS) (bs : List Int32) (p0 : Int32) : Option (SS × Int32) := e_word_l2 bs 10000 S p0 0
theorem s171 {S : SS} {c c' : Nat} {bs : List Int32} (hc : (c, c', bs) ∈ shS) {p0 : Int32} {v : SS × Int32} (hs : cs h S) (hv : e_word S bs p0 = some v) : mW (d + 4) mm171 (0, [some (.ref 96), some (.ref c), some (.int p0), none], [], (h, q)) (mQ q v.1 (some (.int v.2))) := by
  unfold e_word at hv
  refine mW.sn 2 (g' := (2, [some (.ref 96), some (.ref c), some (.int p0), some (.int 0)], [], (h, q))) rfl ?_
  exact e_word_l2_ok hc _ _ _ _ _ _  hs hv
def e_hex (S : SS) (p0 : Int32) : Option (Int32) := (if p0 < (48 : Int32) then (if p0 < (97 : Int32) then (if p0 < (65 : Int32) then some (-1) else (if (70 : Int32) < p0 then some (-1) else some ((p0 - 65) + 10))) else (if (102 : Int32) < p0 then (if p0 < (65 : Int32) then some (-1) else (if (70 : Int32) < p0 then some (-1) else some ((p0 - 65) + 10))) else some ((p0 - 97) + 10))) else (if (57 : Int32) < p0 then (if p0 < (97 : Int32) then (if p0 < (65 : Int32) then some (-1) else (if (70 : Int32) < p0 then some (-1) else some ((p0 - 65) + 10))) else (if (102 : Int32) < p0 then (if p0 < (65 : Int32) then some (-1) else (if (70 : Int32) < p0 then some (-1) else some ((p0 - 65) + 10))) else some ((p0 - 97) + 10))) else some (p0 - 48)))
theorem s179 {S : SS} {p0 : Int32} {v : Int32} (hs : cs h S) (hv : e_hex S p0 = some v) : mW d mm179 (0, [some (.int p0)], [], (h, q)) (mQ q S (some (.int v))) := by
  unfold e_hex at hv
  refine mW.sn 2 (g' := (3, [some (.int p0)], [.int 48, .int p0], (h, q))) rfl ?_
  refine mW.br (g1 := (19, [some (.int p0)], [], (h, q))) (g2 := (6, [some (.int p0)], [], (h, q))) (c := p0 < (48 : Int32)) rfl (fun hc1 => ?_) (fun hc1 => ?_)
  · rw [if_pos hc1] at hv
    refine mW.sn 2 (g' := (22, [some (.int p0)], [.int 97, .int p0], (h, q))) rfl ?_
    refine mW.br (g1 := (41, [some (.int p0)], [], (h, q))) (g2 := (25, [some (.int p0)], [], (h, q))) (c := p0 < (97 : Int32)) rfl (fun hc2 => ?_) (fun hc2 => ?_)
    · rw [if_pos hc2] at hv
      refine mW.sn 2 (g' := (44, [some (.int p0)], [.int 65, .int p0], (h, q))) rfl ?_
      refine mW.br (g1 := (63, [some (.int p0)], [], (h, q))) (g2 := (47, [some (.int p0)], [], (h, q))) (c := p0 < (65 : Int32)) rfl (fun hc3 => ?_) (fun hc3 => ?_)
      · rw [if_pos hc3] at hv
        refine mW.sn 1 (g' := (64, [some (.int p0)], [.int (-1)], (h, q))) rfl ?_
        cases hv
        exact sW.fin hs rfl
      · rw [if_neg hc3] at hv
        refine mW.sn 2 (g' := (50, [some (.int p0)], [.int 70, .int p0], (h, q))) rfl ?_
        refine mW.br (g1 := (63, [some (.int p0)], [], (h, q))) (g2 := (53, [some (.int p0)], [], (h, q))) (c := (70 : Int32) < p0) rfl (fun hc4 => ?_) (fun hc4 => ?_)
        · rw [if_pos hc4] at hv
          refine mW.sn 1 (g' := (64, [some (.int p0)], [.int (-1)], (h, q))) rfl ?_
          cases hv
          exact sW.fin hs rfl
        · rw [if_neg hc4] at hv
          refine mW.sn 6 (g' := (64, [some (.int p0)], [.int ((p0 - 65) + 10)], (h, q))) rfl ?_
          cases hv
          exact sW.fin hs rfl
    · rw [if_neg hc2] at hv
      refine mW.sn 2 (g' := (28, [some (.int p0)], [.int 102, .int p0], (h, q))) rfl ?_
      refine mW.br (g1 := (41, [some (.int p0)], [], (h, q))) (g2 := (31, [some (.int p0)], [], (h, q))) (c := (102 : Int32) < p0) rfl (fun hc5 => ?_) (fun hc5 => ?_)
      · rw [if_pos hc5] at hv
        refine mW.sn 2 (g' := (44, [some (.int p0)], [.int 65, .int p0], (h, q))) rfl ?_
        refine mW.br (g1 := (63, [some (.int p0)], [], (h, q))) (g2 := (47, [some (.int p0)], [], (h, q))) (c := p0 < (65 : Int32)) rfl (fun hc6 => ?_) (fun hc6 => ?_)
        · rw [if_pos hc6] at hv
          refine mW.sn 1 (g' := (64, [some (.int p0)], [.int (-1)], (h, q))) rfl ?_
          cases hv
          exact sW.fin hs rfl
        · rw [if_neg hc6] at hv
          refine mW.sn 2 (g' := (50, [some (.int p0)], [.int 70, .int p0], (h, q))) rfl ?_
          refine mW.br (g1 := (63, [some (.int p0)], [], (h, q))) (g2 := (53, [some (.int p0)], [], (h, q))) (c := (70 : Int32) < p0) rfl (fun hc7 => ?_) (fun hc7 => ?_)
          · rw [if_pos hc7] at hv
            refine mW.sn 1 (g' := (64, [some (.int p0)], [.int (-1)], (h, q))) rfl ?_
            cases hv
            exact sW.fin hs rfl
          · rw [if_neg hc7] at hv
            refine mW.sn 6 (g' := (64, [some (.int p0)], [.int ((p0 - 65) + 10)], (h, q))) rfl ?_
            cases hv
            exact sW.fin hs rfl
      · rw [if_neg hc5] at hv
        refine mW.sn 6 (g' := (64, [some (.int p0)], [.int ((p0 - 97) + 10)], (h, q))) rfl ?_
        cases hv
        exact sW.fin hs rfl
  · rw [if_neg hc1] at hv
    refine mW.sn 2 (g' := (9, [some (.int p0)], [.int 57, .int p0], (h, q))) rfl ?_
    refine mW.br (g1 := (19, [some (.int p0)], [], (h, q))) (g2 := (12, [some (.int p0)], [], (h, q))) (c := (57 : Int32) < p0) rfl (fun hc8 => ?_) (fun hc8 => ?_)
    · rw [if_pos hc8] at hv
      refine mW.sn 2 (g' := (22, [some (.int p0)], [.int 97, .int p0], (h, q))) rfl ?_
      refine mW.br (g1 := (41, [some (.int p0)], [], (h, q))) (g2 := (25, [some (.int p0)], [], (h, q))) (c := p0 < (97 : Int32)) rfl (fun hc9 => ?_) (fun hc9 => ?_)
      · rw [if_pos hc9] at hv
        refine mW.sn 2 (g' := (44, [some (.int p0)], [.int 65, .int p0], (h, q))) rfl ?_
        refine mW.br (g1 := (63, [some (.int p0)], [], (h, q))) (g2 := (47, [some (.int p0)], [], (h, q))) (c := p0 < (65 : Int32)) rfl (fun hc10 => ?_) (fun hc10 => ?_)
        · rw [if_pos hc10] at hv
          refine mW.sn 1 (g' := (64, [some (.int p0)], [.int (-1)], (h, q))) rfl ?_
          cases hv
          exact sW.fin hs rfl
        · rw [if_neg hc10] at hv
          refine mW.sn 2 (g' := (50, [some (.int p0)], [.int 70, .int p0], (h, q))) rfl ?_
          refine mW.br (g1 := (63, [some (.int p0)], [], (h, q))) (g2 := (53, [some (.int p0)], [], (h, q))) (c := (70 : Int32) < p0) rfl (fun hc11 => ?_) (fun hc11 => ?_)
          · rw [if_pos hc11] at hv
            refine mW.sn 1 (g' := (64, [some (.int p0)], [.int (-1)], (h, q))) rfl ?_
            cases hv
            exact sW.fin hs rfl
          · rw [if_neg hc11] at hv
            refine mW.sn 6 (g' := (64, [some (.int p0)], [.int ((p0 - 65) + 10)], (h, q))) rfl ?_
            cases hv
            exact sW.fin hs rfl
      · rw [if_neg hc9] at hv
        refine mW.sn 2 (g' := (28, [some (.int p0)], [.int 102, .int p0], (h, q))) rfl ?_
        refine mW.br (g1 := (41, [some (.int p0)], [], (h, q))) (g2 := (31, [some (.int p0)], [], (h, q))) (c := (102 : Int32) < p0) rfl (fun hc12 => ?_) (fun hc12 => ?_)
        · rw [if_pos hc12] at hv
          refine mW.sn 2 (g' := (44, [some (.int p0)], [.int 65, .int p0], (h, q))) rfl ?_
          refine mW.br (g1 := (63, [some (.int p0)], [], (h, q))) (g2 := (47, [some (.int p0)], [], (h, q))) (c := p0 < (65 : Int32)) rfl (fun hc13 => ?_) (fun hc13 => ?_)
          · rw [if_pos hc13] at hv
            refine mW.sn 1 (g' := (64, [some (.int p0)], [.int (-1)], (h, q))) rfl ?_
            cases hv
            exact sW.fin hs rfl
          · rw [if_neg hc13] at hv
            refine mW.sn 2 (g' := (50, [some (.int p0)], [.int 70, .int p0], (h, q))) rfl ?_
            refine mW.br (g1 := (63, [some (.int p0)], [], (h, q))) (g2 := (53, [some (.int p0)], [], (h, q))) (c := (70 : Int32) < p0) rfl (fun hc14 => ?_) (fun hc14 => ?_)
            · rw [if_pos hc14] at hv
              refine mW.sn 1 (g' := (64, [some (.int p0)], [.int (-1)], (h, q))) rfl ?_
              cases hv
              exact sW.fin hs rfl
            · rw [if_neg hc14] at hv
              refine mW.sn 6 (g' := (64, [some (.int p0)], [.int ((p0 - 65) + 10)], (h, q))) rfl ?_
              cases hv
              exact sW.fin hs rfl
        · rw [if_neg hc12] at hv
          refine mW.sn 6 (g' := (64, [some (.int p0)], [.int ((p0 - 97) + 10)], (h, q))) rfl ?_
          cases hv
          exact sW.fin hs rfl
    · rw [if_neg hc8] at hv
      refine mW.sn 4 (g' := (64, [some (.int p0)], [.int (p0 - 48)], (h, q))) rfl ?_
      cases hv
      exact sW.fin hs rfl
def e_meant (S : SS) (p0 : Int32) : Option (Int32) := (if p0 = (0 : Int32) then some 34 else (if p0 = (1 : Int32) then some 92 else (if p0 = (2 : Int32) then some 47 else (if p0 = (3 : Int32) then some 8 else (if p0 = (4 : Int32) then some 12 else (if p0 = (5 : Int32) then some 10 else (if p0 = (6 : Int32) then some 13 else some 9)))))))
theorem s195 {S : SS} {p0 : Int32} {v : Int32} (hs : cs h S) (hv : e_meant S p0 = some v) : mW d mm195 (0, [some (.int p0)], [], (h, q)) (mQ q S (some (.int v))) := by
  unfold e_meant at hv
  refine mW.sn 1 (g' := (1, [some (.int p0)], [.int p0], (h, q))) rfl ?_
  by_cases hc1 : p0 = (0 : Int32)
  · rw [if_pos hc1] at hv
    refine mW.sn 1 (g' := (44, [some (.int p0)], [], (h, q))) (by rw [hc1]; rfl) ?_
    refine mW.sn 1 (g' := (46, [some (.int p0)], [.int 34], (h, q))) rfl ?_
    cases hv
    exact sW.fin hs rfl
  rw [if_neg hc1] at hv
  by_cases hc2 : p0 = (1 : Int32)
  · rw [if_pos hc2] at hv
    refine mW.sn 1 (g' := (47, [some (.int p0)], [], (h, q))) (by rw [hc2]; rfl) ?_
    refine mW.sn 1 (g' := (49, [some (.int p0)], [.int 92], (h, q))) rfl ?_
    cases hv
    exact sW.fin hs rfl
  rw [if_neg hc2] at hv
  by_cases hc3 : p0 = (2 : Int32)
  · rw [if_pos hc3] at hv
    refine mW.sn 1 (g' := (50, [some (.int p0)], [], (h, q))) (by rw [hc3]; rfl) ?_
    refine mW.sn 1 (g' := (52, [some (.int p0)], [.int 47], (h, q))) rfl ?_
    cases hv
    exact sW.fin hs rfl
  rw [if_neg hc3] at hv
  by_cases hc4 : p0 = (3 : Int32)
  · rw [if_pos hc4] at hv
    refine mW.sn 1 (g' := (53, [some (.int p0)], [], (h, q))) (by rw [hc4]; rfl) ?_
    refine mW.sn 1 (g' := (55, [some (.int p0)], [.int 8], (h, q))) rfl ?_
    cases hv
    exact sW.fin hs rfl
  rw [if_neg hc4] at hv
  by_cases hc5 : p0 = (4 : Int32)
  · rw [if_pos hc5] at hv
    refine mW.sn 1 (g' := (56, [some (.int p0)], [], (h, q))) (by rw [hc5]; rfl) ?_
    refine mW.sn 1 (g' := (58, [some (.int p0)], [.int 12], (h, q))) rfl ?_
    cases hv
    exact sW.fin hs rfl
  rw [if_neg hc5] at hv
  by_cases hc6 : p0 = (5 : Int32)
  · rw [if_pos hc6] at hv
    refine mW.sn 1 (g' := (59, [some (.int p0)], [], (h, q))) (by rw [hc6]; rfl) ?_
    refine mW.sn 1 (g' := (61, [some (.int p0)], [.int 10], (h, q))) rfl ?_
    cases hv
    exact sW.fin hs rfl
  rw [if_neg hc6] at hv
  by_cases hc7 : p0 = (6 : Int32)
  · rw [if_pos hc7] at hv
    refine mW.sn 1 (g' := (62, [some (.int p0)], [], (h, q))) (by rw [hc7]; rfl) ?_
    refine mW.sn 1 (g' := (64, [some (.int p0)], [.int 13], (h, q))) rfl ?_
    cases hv
    exact sW.fin hs rfl
  rw [if_neg hc7] at hv
  have hd7 : m_tsw 1 64 0 6 #[43, 46, 49, 52, 55, 58, 61] p0 = 65 := by
    have n1 : ¬ (0 : Int) = p0.toInt := fun e => hc1 (Int32.toInt_inj.mp (e.symm.trans rfl))
    have n2 : ¬ (1 : Int) = p0.toInt := fun e => hc2 (Int32.toInt_inj.mp (e.symm.trans rfl))
    have n3 : ¬ (2 : Int) = p0.toInt := fun e => hc3 (Int32.toInt_inj.mp (e.symm.trans rfl))
    have n4 : ¬ (3 : Int) = p0.toInt := fun e => hc4 (Int32.toInt_inj.mp (e.symm.trans rfl))
    have n5 : ¬ (4 : Int) = p0.toInt := fun e => hc5 (Int32.toInt_inj.mp (e.symm.trans rfl))
    have n6 : ¬ (5 : Int) = p0.toInt := fun e => hc6 (Int32.toInt_inj.mp (e.symm.trans rfl))
    have n7 : ¬ (6 : Int) = p0.toInt := fun e => hc7 (Int32.toInt_inj.mp (e.symm.trans rfl))
    exact m_tsw_out _ _ _ _ _ _ (by omega)
  refine mW.sn 1 (g' := (65, [some (.int p0)], [], (h, q))) (by rw [← hd7]; rfl) ?_
  refine mW.sn 1 (g' := (67, [some (.int p0)], [.int 9], (h, q))) rfl ?_
  cases hv
  exact sW.fin hs rfl
def e_escape_l35 : Nat → SS → Int32 → Int32 → Int32 → Option (SS × Int32)
  | 0, _, _, _, _ => none
  | n + 1, S, l1, l3, l4 => (if (4 : Int32) ≤ l4 then (if l3 ≤ (127 : Int32) then (if rd S 96 4 = 0 then none else ((q_put S l3).bind fun r8 => some (wr r8 96 2 ((rd r8 96 2) + 1), 1))) else ((e_fail S l1).bind fun r11 => some (r11.1, r11.2 &&& 1))) else ((e_at (wr S 96 2 ((rd S 96 2) + 1)) (rd (wr S 96 2 ((rd S 96 2) + 1)) 96 2)).bind fun r14 => ((e_hex (wr S 96 2 ((rd S 96 2) + 1)) r14).bind fun r16 => (if 0 ≤ r16 then e_escape_l35 n (wr S 96 2 ((rd S 96 2) + 1)) l1 ((16 * l3) + r16) (l4 + 1) else ((e_fail (wr S 96 2 ((rd S 96 2) + 1)) (rd (wr S 96 2 ((rd S 96 2) + 1)) 96 2)).bind fun r21 => some (r21.1, r21.2 &&& 1))))))
theorem e_escape_l35_ok : ∀ (n : Nat), ∀ (h : mH) (S : SS) (l1 : Int32) (l3 : Int32) (l4 : Int32) (y2 : Int32) (v : SS × Int32), cs h S → e_escape_l35 n S l1 l3 l4 = some v → mW (d + 4) mm178 (35, [some (.ref 96), some (.int l1), some (.int y2), some (.int l3), some (.int l4)], [], (h, q)) (mQ q v.1 (some (.int v.2))) := by
  intro n
  induction n with
  | zero => intro h S l1 l3 l4 y2 v hs hv; cases hv
  | succ n ih =>
    intro h S l1 l3 l4 y2 v hs hv
    unfold e_escape_l35 at hv
    refine mW.sn 2 (g' := (38, [some (.ref 96), some (.int l1), some (.int y2), some (.int l3), some (.int l4)], [.int 4, .int l4], (h, q))) rfl ?_
    refine mW.br (g1 := (97, [some (.ref 96), some (.int l1), some (.int y2), some (.int l3), some (.int l4)], [], (h, q))) (g2 := (41, [some (.ref 96), some (.int l1), some (.int y2), some (.int l3), some (.int l4)], [], (h, q))) (c := (4 : Int32) ≤ l4) rfl (fun hc5 => ?_) (fun hc5 => ?_)
    · rw [if_pos hc5] at hv
      refine mW.sn 2 (g' := (100, [some (.ref 96), some (.int l1), some (.int y2), some (.int l3), some (.int l4)], [.int 127, .int l3], (h, q))) rfl ?_
      refine mW.br (g1 := (109, [some (.ref 96), some (.int l1), some (.int y2), some (.int l3), some (.int l4)], [], (h, q))) (g2 := (103, [some (.ref 96), some (.int l1), some (.int y2), some (.int l3), some (.int l4)], [], (h, q))) (c := l3 ≤ (127 : Int32)) rfl (fun hc6 => ?_) (fun hc6 => ?_)
      · rw [if_pos hc6] at hv
        refine mW.sn 1 (g' := (110, [some (.ref 96), some (.int l1), some (.int y2), some (.int l3), some (.int l4)], [.ref 96], (h, q))) rfl ?_
        by_cases hz7 : rd S 96 4 = 0
        · rw [if_pos hz7] at hv; cases hv
        rw [if_neg hz7] at hv
        refine sW.getU rfl hs o96 rfl hz7 ?_
        refine mW.sn 1 (g' := (114, [some (.ref 96), some (.int l1), some (.int y2), some (.int l3), some (.int l4)], [.int l3, .ref 90], (h, q))) rfl ?_
        cases hr8 : q_put S l3 with
        | none => rw [hr8] at hv; cases hv
        | some r8 =>
          rw [hr8, o_bind] at hv
          refine sW.call rfl rfl rfl rfl (hs.rcv o90) (s175 hs hr8) ?_
          intro h9 hs9
          refine mW.sn 3 (g' := (161, [some (.ref 96), some (.int l1), some (.int y2), some (.int l3), some (.int l4)], [.ref 96, .ref 96], (h9, q))) rfl ?_
          refine sW.getI rfl hs9 o96 rfl rfl ?_
          refine mW.sn 2 (g' := (166, [some (.ref 96), some (.int l1), some (.int y2), some (.int l3), some (.int l4)], [.int ((rd r8 96 2) + 1), .ref 96], (h9, q))) rfl ?_
          refine sW.putI rfl hs9 o96 rfl ?_
          intro h10 hs10
          refine mW.sn 1 (g' := (170, [some (.ref 96), some (.int l1), some (.int y2), some (.int l3), some (.int l4)], [.int 1], (h10, q))) rfl ?_
          cases hv
          exact sW.fin hs10 rfl
      · rw [if_neg hc6] at hv
        refine mW.sn 2 (g' := (105, [some (.ref 96), some (.int l1), some (.int y2), some (.int l3), some (.int l4)], [.int l1, .ref 96], (h, q))) rfl ?_
        cases hr11 : e_fail S l1 with
        | none => rw [hr11] at hv; cases hv
        | some r11 =>
          rw [hr11, o_bind] at hv
          refine sW.call rfl rfl rfl rfl (hs.rcv o96) (s172 hs hr11) ?_
          intro h12 hs12
          cases hv
          exact sW.fin hs12 rfl
    · rw [if_neg hc5] at hv
      refine mW.sn 2 (g' := (43, [some (.ref 96), some (.int l1), some (.int y2), some (.int l3), some (.int l4)], [.ref 96, .ref 96], (h, q))) rfl ?_
      refine sW.getI rfl hs o96 rfl rfl ?_
      refine mW.sn 2 (g' := (48, [some (.ref 96), some (.int l1), some (.int y2), some (.int l3), some (.int l4)], [.int ((rd S 96 2) + 1), .ref 96], (h, q))) rfl ?_
      refine sW.putI rfl hs o96 rfl ?_
      intro h13 hs13
      refine mW.sn 2 (g' := (53, [some (.ref 96), some (.int l1), some (.int y2), some (.int l3), some (.int l4)], [.ref 96, .ref 96], (h13, q))) rfl ?_
      refine sW.getI rfl hs13 o96 rfl rfl ?_
      cases hr14 : e_at (wr S 96 2 ((rd S 96 2) + 1)) (rd (wr S 96 2 ((rd S 96 2) + 1)) 96 2) with
      | none => rw [hr14] at hv; cases hv
      | some r14 =>
        rw [hr14, o_bind] at hv
        refine sW.call rfl rfl rfl rfl (hs13.rcv o96) (s169 hs13 hr14) ?_
        intro h15 hs15
        cases hr16 : e_hex (wr S 96 2 ((rd S 96 2) + 1)) r14 with
        | none => rw [hr16] at hv; cases hv
        | some r16 =>
          rw [hr16, o_bind] at hv
          refine sW.call rfl rfl rfl rfl rfl (s179 hs15 hr16) ?_
          intro h17 hs17
          refine mW.br (g1 := (74, [some (.ref 96), some (.int l1), some (.int y2), some (.int l3), some (.int l4)], [], (h17, q))) (g2 := (65, [some (.ref 96), some (.int l1), some (.int y2), some (.int l3), some (.int l4)], [], (h17, q))) (c := 0 ≤ r16) rfl (fun hc18 => ?_) (fun hc18 => ?_)
          · rw [if_pos hc18] at hv
            refine mW.sn 5 (g' := (80, [some (.ref 96), some (.int l1), some (.int y2), some (.int l3), some (.int l4)], [.ref 96, .ref 96, .int (16 * l3)], (h17, q))) rfl ?_
            refine sW.getI rfl hs17 o96 rfl rfl ?_
            refine sW.call rfl rfl rfl rfl (hs17.rcv o96) (s169 hs17 hr14) ?_
            intro h19 hs19
            refine sW.call rfl rfl rfl rfl rfl (s179 hs19 hr16) ?_
            intro h20 hs20
            refine mW.sn 4 (g' := (35, [some (.ref 96), some (.int l1), some (.int y2), some (.int ((16 * l3) + r16)), some (.int (l4 + 1))], [], (h20, q))) rfl ?_
            exact ih _ _ _ _ _ _ _  hs20 hv
          · rw [if_neg hc18] at hv
            refine mW.sn 2 (g' := (67, [some (.ref 96), some (.int l1), some (.int y2), some (.int l3), some (.int l4)], [.ref 96, .ref 96], (h17, q))) rfl ?_
            refine sW.getI rfl hs17 o96 rfl rfl ?_
            cases hr21 : e_fail (wr S 96 2 ((rd S 96 2) + 1)) (rd (wr S 96 2 ((rd S 96 2) + 1)) 96 2) with
            | none => rw [hr21] at hv; cases hv
            | some r21 =>
              rw [hr21, o_bind] at hv
              refine sW.call rfl rfl rfl rfl (hs17.rcv o96) (s172 hs17 hr21) ?_
              intro h22 hs22
              cases hv
              exact sW.fin hs22 rfl
def e_escape (S : SS) : Option (SS × Int32) := ((e_at (wr S 96 2 ((rd S 96 2) + 1)) (rd (wr S 96 2 ((rd S 96 2) + 1)) 96 2)).bind fun r2 => (if r2 = (117 : Int32) then e_escape_l35 10000 (wr S 96 2 ((rd S 96 2) + 1)) (rd S 96 2) 0 0 else (if 0 ≤ r2 then ((j_indexOf (wr S 96 2 ((rd S 96 2) + 1)) k25 r2).bind fun r24 => (if 0 ≤ r24 then (if rd (wr S 96 2 ((rd S 96 2) + 1)) 96 4 = 0 then none else ((e_meant (wr S 96 2 ((rd S 96 2) + 1)) r24).bind fun r28 => ((q_put (wr S 96 2 ((rd S 96 2) + 1)) r28).bind fun r30 => some (wr r30 96 2 ((rd r30 96 2) + 1), 1)))) else ((e_fail (wr S 96 2 ((rd S 96 2) + 1)) (rd (wr S 96 2 ((rd S 96 2) + 1)) 96 2)).bind fun r33 => some (r33.1, r33.2 &&& 1)))) else (if 0 ≤ (-1 : Int32) then (if rd (wr S 96 2 ((rd S 96 2) + 1)) 96 4 = 0 then none else ((e_meant (wr S 96 2 ((rd S 96 2) + 1)) (-1)).bind fun r37 => ((q_put (wr S 96 2 ((rd S 96 2) + 1)) r37).bind fun r39 => some (wr r39 96 2 ((rd r39 96 2) + 1), 1)))) else ((e_fail (wr S 96 2 ((rd S 96 2) + 1)) (rd (wr S 96 2 ((rd S 96 2) + 1)) 96 2)).bind fun r42 => some (r42.1, r42.2 &&& 1))))))
theorem s178 {S : SS} {v : SS × Int32} (hs : cs h S) (hv : e_escape S = some v) : mW (d + 4) mm178 (0, [some (.ref 96), none, none, none, none], [], (h, q)) (mQ q v.1 (some (.int v.2))) := by
  unfold e_escape at hv
  refine mW.sn 1 (g' := (1, [some (.ref 96), none, none, none, none], [.ref 96], (h, q))) rfl ?_
  refine sW.getI rfl hs o96 rfl rfl ?_
  refine mW.sn 3 (g' := (7, [some (.ref 96), some (.int (rd S 96 2)), none, none, none], [.ref 96, .ref 96], (h, q))) rfl ?_
  refine sW.getI rfl hs o96 rfl rfl ?_
  refine mW.sn 2 (g' := (12, [some (.ref 96), some (.int (rd S 96 2)), none, none, none], [.int ((rd S 96 2) + 1), .ref 96], (h, q))) rfl ?_
  refine sW.putI rfl hs o96 rfl ?_
  intro h1 hs1
  refine mW.sn 2 (g' := (17, [some (.ref 96), some (.int (rd S 96 2)), none, none, none], [.ref 96, .ref 96], (h1, q))) rfl ?_
  refine sW.getI rfl hs1 o96 rfl rfl ?_
  cases hr2 : e_at (wr S 96 2 ((rd S 96 2) + 1)) (rd (wr S 96 2 ((rd S 96 2) + 1)) 96 2) with
  | none => rw [hr2] at hv; cases hv
  | some r2 =>
    rw [hr2, o_bind] at hv
    refine sW.call rfl rfl rfl rfl (hs1.rcv o96) (s169 hs1 hr2) ?_
    intro h3 hs3
    refine mW.sn 3 (g' := (27, [some (.ref 96), some (.int (rd S 96 2)), some (.int r2), none, none], [.int 117, .int r2], (h3, q))) rfl ?_
    refine mW.br (g1 := (30, [some (.ref 96), some (.int (rd S 96 2)), some (.int r2), none, none], [], (h3, q))) (g2 := (120, [some (.ref 96), some (.int (rd S 96 2)), some (.int r2), none, none], [], (h3, q))) (c := r2 = (117 : Int32)) rfl (fun hc4 => ?_) (fun hc4 => ?_)
    · rw [if_pos hc4] at hv
      refine mW.sn 4 (g' := (35, [some (.ref 96), some (.int (rd S 96 2)), some (.int r2), some (.int 0), some (.int 0)], [], (h3, q))) rfl ?_
      exact e_escape_l35_ok _ _ _ _ _ _ _ _  hs3 hv
    · rw [if_neg hc4] at hv
      refine mW.sn 1 (g' := (121, [some (.ref 96), some (.int (rd S 96 2)), some (.int r2), none, none], [.int r2], (h3, q))) rfl ?_
      refine mW.br (g1 := (128, [some (.ref 96), some (.int (rd S 96 2)), some (.int r2), none, none], [], (h3, q))) (g2 := (124, [some (.ref 96), some (.int (rd S 96 2)), some (.int r2), none, none], [], (h3, q))) (c := 0 ≤ r2) rfl (fun hc23 => ?_) (fun hc23 => ?_)
      · rw [if_pos hc23] at hv
        refine mW.sn 2 (g' := (131, [some (.ref 96), some (.int (rd S 96 2)), some (.int r2), none, none], [.int r2, .ref 25], (h3, q))) rfl ?_
        cases hr24 : j_indexOf (wr S 96 2 ((rd S 96 2) + 1)) k25 r2 with
        | none => rw [hr24] at hv; cases hv
        | some r24 =>
          rw [hr24, o_bind] at hv
          refine sW.call rfl rfl rfl rfl (hs3.rcvS m25) (s180 m25 hs3 hr24) ?_
          intro h25 hs25
          refine mW.sn 2 (g' := (136, [some (.ref 96), some (.int (rd S 96 2)), some (.int r2), some (.int r24), none], [.int r24], (h25, q))) rfl ?_
          refine mW.br (g1 := (148, [some (.ref 96), some (.int (rd S 96 2)), some (.int r2), some (.int r24), none], [], (h25, q))) (g2 := (139, [some (.ref 96), some (.int (rd S 96 2)), some (.int r2), some (.int r24), none], [], (h25, q))) (c := 0 ≤ r24) rfl (fun hc26 => ?_) (fun hc26 => ?_)
          · rw [if_pos hc26] at hv
            refine mW.sn 1 (g' := (149, [some (.ref 96), some (.int (rd S 96 2)), some (.int r2), some (.int r24), none], [.ref 96], (h25, q))) rfl ?_
            by_cases hz27 : rd (wr S 96 2 ((rd S 96 2) + 1)) 96 4 = 0
            · rw [if_pos hz27] at hv; cases hv
            rw [if_neg hz27] at hv
            refine sW.getU rfl hs25 o96 rfl hz27 ?_
            refine mW.sn 1 (g' := (153, [some (.ref 96), some (.int (rd S 96 2)), some (.int r2), some (.int r24), none], [.int r24, .ref 90], (h25, q))) rfl ?_
            cases hr28 : e_meant (wr S 96 2 ((rd S 96 2) + 1)) r24 with
            | none => rw [hr28] at hv; cases hv
            | some r28 =>
              rw [hr28, o_bind] at hv
              refine sW.call rfl rfl rfl rfl rfl (s195 hs25 hr28) ?_
              intro h29 hs29
              cases hr30 : q_put (wr S 96 2 ((rd S 96 2) + 1)) r28 with
              | none => rw [hr30] at hv; cases hv
              | some r30 =>
                rw [hr30, o_bind] at hv
                refine sW.call rfl rfl rfl rfl (hs29.rcv o90) (s175 hs29 hr30) ?_
                intro h31 hs31
                refine mW.sn 2 (g' := (161, [some (.ref 96), some (.int (rd S 96 2)), some (.int r2), some (.int r24), none], [.ref 96, .ref 96], (h31, q))) rfl ?_
                refine sW.getI rfl hs31 o96 rfl rfl ?_
                refine mW.sn 2 (g' := (166, [some (.ref 96), some (.int (rd S 96 2)), some (.int r2), some (.int r24), none], [.int ((rd r30 96 2) + 1), .ref 96], (h31, q))) rfl ?_
                refine sW.putI rfl hs31 o96 rfl ?_
                intro h32 hs32
                refine mW.sn 1 (g' := (170, [some (.ref 96), some (.int (rd S 96 2)), some (.int r2), some (.int r24), none], [.int 1], (h32, q))) rfl ?_
                cases hv
                exact sW.fin hs32 rfl
          · rw [if_neg hc26] at hv
            refine mW.sn 2 (g' := (141, [some (.ref 96), some (.int (rd S 96 2)), some (.int r2), some (.int r24), none], [.ref 96, .ref 96], (h25, q))) rfl ?_
            refine sW.getI rfl hs25 o96 rfl rfl ?_
            cases hr33 : e_fail (wr S 96 2 ((rd S 96 2) + 1)) (rd (wr S 96 2 ((rd S 96 2) + 1)) 96 2) with
            | none => rw [hr33] at hv; cases hv
            | some r33 =>
              rw [hr33, o_bind] at hv
              refine sW.call rfl rfl rfl rfl (hs25.rcv o96) (s172 hs25 hr33) ?_
              intro h34 hs34
              cases hv
              exact sW.fin hs34 rfl
      · rw [if_neg hc23] at hv
        refine mW.sn 4 (g' := (136, [some (.ref 96), some (.int (rd S 96 2)), some (.int r2), some (.int (-1)), none], [.int (-1)], (h3, q))) rfl ?_
        refine mW.br (g1 := (148, [some (.ref 96), some (.int (rd S 96 2)), some (.int r2), some (.int (-1)), none], [], (h3, q))) (g2 := (139, [some (.ref 96), some (.int (rd S 96 2)), some (.int r2), some (.int (-1)), none], [], (h3, q))) (c := 0 ≤ (-1 : Int32)) rfl (fun hc35 => ?_) (fun hc35 => ?_)
        · rw [if_pos hc35] at hv
          refine mW.sn 1 (g' := (149, [some (.ref 96), some (.int (rd S 96 2)), some (.int r2), some (.int (-1)), none], [.ref 96], (h3, q))) rfl ?_
          by_cases hz36 : rd (wr S 96 2 ((rd S 96 2) + 1)) 96 4 = 0
          · rw [if_pos hz36] at hv; cases hv
          rw [if_neg hz36] at hv
          refine sW.getU rfl hs3 o96 rfl hz36 ?_
          refine mW.sn 1 (g' := (153, [some (.ref 96), some (.int (rd S 96 2)), some (.int r2), some (.int (-1)), none], [.int (-1), .ref 90], (h3, q))) rfl ?_
          cases hr37 : e_meant (wr S 96 2 ((rd S 96 2) + 1)) (-1) with
          | none => rw [hr37] at hv; cases hv
          | some r37 =>
            rw [hr37, o_bind] at hv
            refine sW.call rfl rfl rfl rfl rfl (s195 hs3 hr37) ?_
            intro h38 hs38
            cases hr39 : q_put (wr S 96 2 ((rd S 96 2) + 1)) r37 with
            | none => rw [hr39] at hv; cases hv
            | some r39 =>
              rw [hr39, o_bind] at hv
              refine sW.call rfl rfl rfl rfl (hs38.rcv o90) (s175 hs38 hr39) ?_
              intro h40 hs40
              refine mW.sn 2 (g' := (161, [some (.ref 96), some (.int (rd S 96 2)), some (.int r2), some (.int (-1)), none], [.ref 96, .ref 96], (h40, q))) rfl ?_
              refine sW.getI rfl hs40 o96 rfl rfl ?_
              refine mW.sn 2 (g' := (166, [some (.ref 96), some (.int (rd S 96 2)), some (.int r2), some (.int (-1)), none], [.int ((rd r39 96 2) + 1), .ref 96], (h40, q))) rfl ?_
              refine sW.putI rfl hs40 o96 rfl ?_
              intro h41 hs41
              refine mW.sn 1 (g' := (170, [some (.ref 96), some (.int (rd S 96 2)), some (.int r2), some (.int (-1)), none], [.int 1], (h41, q))) rfl ?_
              cases hv
              exact sW.fin hs41 rfl
        · rw [if_neg hc35] at hv
          refine mW.sn 2 (g' := (141, [some (.ref 96), some (.int (rd S 96 2)), some (.int r2), some (.int (-1)), none], [.ref 96, .ref 96], (h3, q))) rfl ?_
          refine sW.getI rfl hs3 o96 rfl rfl ?_
          cases hr42 : e_fail (wr S 96 2 ((rd S 96 2) + 1)) (rd (wr S 96 2 ((rd S 96 2) + 1)) 96 2) with
          | none => rw [hr42] at hv; cases hv
          | some r42 =>
            rw [hr42, o_bind] at hv
            refine sW.call rfl rfl rfl rfl (hs3.rcv o96) (s172 hs3 hr42) ?_
            intro h43 hs43
            cases hv
            exact sW.fin hs43 rfl
def e_string_l19 : Nat → SS → Int32 → Option (SS × Int32)
  | 0, _, _ => none
  | n + 1, S, l1 => ((e_at S (rd S 96 2)).bind fun r5 => (if r5 = (34 : Int32) then (if rd (wr S 96 2 ((rd S 96 2) + 1)) 96 4 = 0 then none else ((q_close (wr S 96 2 ((rd S 96 2) + 1)) l1).bind fun r10 => some (r10, 1))) else (if r5 < (32 : Int32) then ((e_fail S (rd S 96 2)).bind fun r14 => some (r14.1, r14.2 &&& 1)) else (if r5 ≤ (126 : Int32) then (if r5 = (92 : Int32) then ((e_escape S).bind fun r20 => (if r20.2 = 0 then some (r20.1, 0) else e_string_l19 n r20.1 l1)) else (if rd S 96 4 = 0 then none else ((q_put S r5).bind fun r25 => e_string_l19 n (wr r25 96 2 ((rd r25 96 2) + 1)) l1))) else ((e_fail S (rd S 96 2)).bind fun r28 => some (r28.1, r28.2 &&& 1))))))
theorem e_string_l19_ok : ∀ (n : Nat), ∀ (h : mH) (S : SS) (l1 : Int32) (v : SS × Int32), cs h S → e_string_l19 n S l1 = some v → mW (d + 5) mm177 (19, [some (.ref 96), some (.int l1)], [], (h, q)) (mQ q v.1 (some (.int v.2))) := by
  intro n
  induction n with
  | zero => intro h S l1 v hs hv; cases hv
  | succ n ih =>
    intro h S l1 v hs hv
    unfold e_string_l19 at hv
    refine mW.sn 2 (g' := (21, [some (.ref 96), some (.int l1)], [.ref 96, .ref 96], (h, q))) rfl ?_
    refine sW.getI rfl hs o96 rfl rfl ?_
    cases hr5 : e_at S (rd S 96 2) with
    | none => rw [hr5] at hv; cases hv
    | some r5 =>
      rw [hr5, o_bind] at hv
      refine sW.call rfl rfl rfl rfl (hs.rcv o96) (s169 hs hr5) ?_
      intro h6 hs6
      refine mW.sn 1 (g' := (29, [some (.ref 96), some (.int l1)], [.int 34, .int r5], (h6, q))) rfl ?_
      refine mW.br (g1 := (117, [some (.ref 96), some (.int l1)], [], (h6, q))) (g2 := (32, [some (.ref 96), some (.int l1)], [], (h6, q))) (c := r5 = (34 : Int32)) rfl (fun hc7 => ?_) (fun hc7 => ?_)
      · rw [if_pos hc7] at hv
        refine mW.sn 2 (g' := (119, [some (.ref 96), some (.int l1)], [.ref 96, .ref 96], (h6, q))) rfl ?_
        refine sW.getI rfl hs6 o96 rfl rfl ?_
        refine mW.sn 2 (g' := (124, [some (.ref 96), some (.int l1)], [.int ((rd S 96 2) + 1), .ref 96], (h6, q))) rfl ?_
        refine sW.putI rfl hs6 o96 rfl ?_
        intro h8 hs8
        refine mW.sn 1 (g' := (128, [some (.ref 96), some (.int l1)], [.ref 96], (h8, q))) rfl ?_
        by_cases hz9 : rd (wr S 96 2 ((rd S 96 2) + 1)) 96 4 = 0
        · rw [if_pos hz9] at hv; cases hv
        rw [if_neg hz9] at hv
        refine sW.getU rfl hs8 o96 rfl hz9 ?_
        refine mW.sn 1 (g' := (132, [some (.ref 96), some (.int l1)], [.int l1, .ref 90], (h8, q))) rfl ?_
        cases hr10 : q_close (wr S 96 2 ((rd S 96 2) + 1)) l1 with
        | none => rw [hr10] at hv; cases hv
        | some r10 =>
          rw [hr10, o_bind] at hv
          refine sW.call rfl rfl rfl rfl (hs8.rcv o90) (s176 hs8 hr10) ?_
          intro h11 hs11
          refine mW.sn 1 (g' := (136, [some (.ref 96), some (.int l1)], [.int 1], (h11, q))) rfl ?_
          cases hv
          exact sW.fin hs11 rfl
      · rw [if_neg hc7] at hv
        refine mW.sn 2 (g' := (34, [some (.ref 96), some (.int l1)], [.ref 96, .ref 96], (h6, q))) rfl ?_
        refine sW.getI rfl hs6 o96 rfl rfl ?_
        refine sW.call rfl rfl rfl rfl (hs6.rcv o96) (s169 hs6 hr5) ?_
        intro h12 hs12
        refine mW.sn 1 (g' := (42, [some (.ref 96), some (.int l1)], [.int 32, .int r5], (h12, q))) rfl ?_
        refine mW.br (g1 := (58, [some (.ref 96), some (.int l1)], [], (h12, q))) (g2 := (45, [some (.ref 96), some (.int l1)], [], (h12, q))) (c := r5 < (32 : Int32)) rfl (fun hc13 => ?_) (fun hc13 => ?_)
        · rw [if_pos hc13] at hv
          refine mW.sn 2 (g' := (60, [some (.ref 96), some (.int l1)], [.ref 96, .ref 96], (h12, q))) rfl ?_
          refine sW.getI rfl hs12 o96 rfl rfl ?_
          cases hr14 : e_fail S (rd S 96 2) with
          | none => rw [hr14] at hv; cases hv
          | some r14 =>
            rw [hr14, o_bind] at hv
            refine sW.call rfl rfl rfl rfl (hs12.rcv o96) (s172 hs12 hr14) ?_
            intro h15 hs15
            cases hv
            exact sW.fin hs15 rfl
        · rw [if_neg hc13] at hv
          refine mW.sn 2 (g' := (47, [some (.ref 96), some (.int l1)], [.ref 96, .ref 96], (h12, q))) rfl ?_
          refine sW.getI rfl hs12 o96 rfl rfl ?_
          refine sW.call rfl rfl rfl rfl (hs12.rcv o96) (s169 hs12 hr5) ?_
          intro h16 hs16
          refine mW.sn 1 (g' := (55, [some (.ref 96), some (.int l1)], [.int 126, .int r5], (h16, q))) rfl ?_
          refine mW.br (g1 := (67, [some (.ref 96), some (.int l1)], [], (h16, q))) (g2 := (58, [some (.ref 96), some (.int l1)], [], (h16, q))) (c := r5 ≤ (126 : Int32)) rfl (fun hc17 => ?_) (fun hc17 => ?_)
          · rw [if_pos hc17] at hv
            refine mW.sn 2 (g' := (69, [some (.ref 96), some (.int l1)], [.ref 96, .ref 96], (h16, q))) rfl ?_
            refine sW.getI rfl hs16 o96 rfl rfl ?_
            refine sW.call rfl rfl rfl rfl (hs16.rcv o96) (s169 hs16 hr5) ?_
            intro h18 hs18
            refine mW.sn 1 (g' := (77, [some (.ref 96), some (.int l1)], [.int 92, .int r5], (h18, q))) rfl ?_
            refine mW.br (g1 := (80, [some (.ref 96), some (.int l1)], [], (h18, q))) (g2 := (89, [some (.ref 96), some (.int l1)], [], (h18, q))) (c := r5 = (92 : Int32)) rfl (fun hc19 => ?_) (fun hc19 => ?_)
            · rw [if_pos hc19] at hv
              refine mW.sn 1 (g' := (81, [some (.ref 96), some (.int l1)], [.ref 96], (h18, q))) rfl ?_
              cases hr20 : e_escape S with
              | none => rw [hr20] at hv; cases hv
              | some r20 =>
                rw [hr20, o_bind] at hv
                refine sW.call rfl rfl rfl rfl (hs18.rcv o96) (s178 hs18 hr20) ?_
                intro h21 hs21
                refine mW.br (g1 := (87, [some (.ref 96), some (.int l1)], [], (h21, q))) (g2 := (19, [some (.ref 96), some (.int l1)], [], (h21, q))) (c := r20.2 = 0) rfl (fun hc22 => ?_) (fun hc22 => ?_)
                · rw [if_pos hc22] at hv
                  refine mW.sn 1 (g' := (88, [some (.ref 96), some (.int l1)], [.int 0], (h21, q))) rfl ?_
                  cases hv
                  exact sW.fin hs21 rfl
                · rw [if_neg hc22] at hv
                  exact ih _ _ _ _  hs21 hv
            · rw [if_neg hc19] at hv
              refine mW.sn 1 (g' := (90, [some (.ref 96), some (.int l1)], [.ref 96], (h18, q))) rfl ?_
              by_cases hz23 : rd S 96 4 = 0
              · rw [if_pos hz23] at hv; cases hv
              rw [if_neg hz23] at hv
              refine sW.getU rfl hs18 o96 rfl hz23 ?_
              refine mW.sn 2 (g' := (95, [some (.ref 96), some (.int l1)], [.ref 96, .ref 96, .ref 90], (h18, q))) rfl ?_
              refine sW.getI rfl hs18 o96 rfl rfl ?_
              refine sW.call rfl rfl rfl rfl (hs18.rcv o96) (s169 hs18 hr5) ?_
              intro h24 hs24
              cases hr25 : q_put S r5 with
              | none => rw [hr25] at hv; cases hv
              | some r25 =>
                rw [hr25, o_bind] at hv
                refine sW.call rfl rfl rfl rfl (hs24.rcv o90) (s175 hs24 hr25) ?_
                intro h26 hs26
                refine mW.sn 2 (g' := (106, [some (.ref 96), some (.int l1)], [.ref 96, .ref 96], (h26, q))) rfl ?_
                refine sW.getI rfl hs26 o96 rfl rfl ?_
                refine mW.sn 2 (g' := (111, [some (.ref 96), some (.int l1)], [.int ((rd r25 96 2) + 1), .ref 96], (h26, q))) rfl ?_
                refine sW.putI rfl hs26 o96 rfl ?_
                intro h27 hs27
                refine mW.sn 1 (g' := (19, [some (.ref 96), some (.int l1)], [], (h27, q))) rfl ?_
                exact ih _ _ _ _  hs27 hv
          · rw [if_neg hc17] at hv
            refine mW.sn 2 (g' := (60, [some (.ref 96), some (.int l1)], [.ref 96, .ref 96], (h16, q))) rfl ?_
            refine sW.getI rfl hs16 o96 rfl rfl ?_
            cases hr28 : e_fail S (rd S 96 2) with
            | none => rw [hr28] at hv; cases hv
            | some r28 =>
              rw [hr28, o_bind] at hv
              refine sW.call rfl rfl rfl rfl (hs16.rcv o96) (s172 hs16 hr28) ?_
              intro h29 hs29
              cases hv
              exact sW.fin hs29 rfl
def e_string (S : SS) : Option (SS × Int32) := (if rd S 96 4 = 0 then none else ((q_open S 4).bind fun r2 => e_string_l19 10000 (wr r2.1 96 2 ((rd r2.1 96 2) + 1)) r2.2))
theorem s177 {S : SS} {v : SS × Int32} (hs : cs h S) (hv : e_string S = some v) : mW (d + 5) mm177 (0, [some (.ref 96), none], [], (h, q)) (mQ q v.1 (some (.int v.2))) := by
  unfold e_string at hv
  refine mW.sn 1 (g' := (1, [some (.ref 96), none], [.ref 96], (h, q))) rfl ?_
  by_cases hz1 : rd S 96 4 = 0
  · rw [if_pos hz1] at hv; cases hv
  rw [if_neg hz1] at hv
  refine sW.getU rfl hs o96 rfl hz1 ?_
  refine mW.sn 1 (g' := (5, [some (.ref 96), none], [.int 4, .ref 90], (h, q))) rfl ?_
  cases hr2 : q_open S 4 with
  | none => rw [hr2] at hv; cases hv
  | some r2 =>
    rw [hr2, o_bind] at hv
    refine sW.call rfl rfl rfl rfl (hs.rcv o90) (s174 hs hr2) ?_
    intro h3 hs3
    refine mW.sn 3 (g' := (11, [some (.ref 96), some (.int r2.2)], [.ref 96, .ref 96], (h3, q))) rfl ?_
    refine sW.getI rfl hs3 o96 rfl rfl ?_
    refine mW.sn 2 (g' := (16, [some (.ref 96), some (.int r2.2)], [.int ((rd r2.1 96 2) + 1), .ref 96], (h3, q))) rfl ?_
    refine sW.putI rfl hs3 o96 rfl ?_
    intro h4 hs4
    exact e_string_l19_ok _ _ _ _ _  hs4 hv
def e_number_l82 : Nat → SS → Int32 → Int32 → Int64 → Option (SS × Int32)
  | 0, _, _, _, _ => none
  | n + 1, S, l1, l2, l3 => ((e_digit S).bind fun r20 => (if r20 = 0 then (if (lg_cmp l3 9007199254740991) ≤ 0 then (if rd S 96 4 = 0 then none else (if l2 = 0 then ((q_num S l3).bind fun r26 => some (r26, 1)) else ((q_num S (-l3)).bind fun r28 => some (r28, 1)))) else ((e_fail S l1).bind fun r30 => some (r30.1, r30.2 &&& 1))) else (if 0 < (lg_cmp l3 9007199254740991) then e_number_l82 n (wr S 96 2 ((rd S 96 2) + 1)) l1 l2 l3 else ((e_at S (rd S 96 2)).bind fun r34 => e_number_l82 n (wr S 96 2 ((rd S 96 2) + 1)) l1 l2 (((10 * l3) + r34.toInt64) - 48)))))
theorem e_number_l82_ok : ∀ (n : Nat), ∀ (h : mH) (S : SS) (l1 : Int32) (l2 : Int32) (l3 : Int64) (v : SS × Int32), cs h S → e_number_l82 n S l1 l2 l3 = some v → mW (d + 3) mm200 (82, [some (.ref 96), some (.int l1), some (.int l2), some (.long l3), none], [], (h, q)) (mQ q v.1 (some (.int v.2))) := by
  intro n
  induction n with
  | zero => intro h S l1 l2 l3 v hs hv; cases hv
  | succ n ih =>
    intro h S l1 l2 l3 v hs hv
    unfold e_number_l82 at hv
    refine mW.sn 1 (g' := (83, [some (.ref 96), some (.int l1), some (.int l2), some (.long l3), none], [.ref 96], (h, q))) rfl ?_
    cases hr20 : e_digit S with
    | none => rw [hr20] at hv; cases hv
    | some r20 =>
      rw [hr20, o_bind] at hv
      refine sW.call rfl rfl rfl rfl (hs.rcv o96) (s201 hs hr20) ?_
      intro h21 hs21
      refine mW.br (g1 := (130, [some (.ref 96), some (.int l1), some (.int l2), some (.long l3), none], [], (h21, q))) (g2 := (89, [some (.ref 96), some (.int l1), some (.int l2), some (.long l3), none], [], (h21, q))) (c := r20 = 0) rfl (fun hc22 => ?_) (fun hc22 => ?_)
      · rw [if_pos hc22] at hv
        refine mW.sn 3 (g' := (135, [some (.ref 96), some (.int l1), some (.int l2), some (.long l3), none], [.int (lg_cmp l3 9007199254740991)], (h21, q))) rfl ?_
        refine mW.br (g1 := (144, [some (.ref 96), some (.int l1), some (.int l2), some (.long l3), none], [], (h21, q))) (g2 := (138, [some (.ref 96), some (.int l1), some (.int l2), some (.long l3), none], [], (h21, q))) (c := (lg_cmp l3 9007199254740991) ≤ 0) rfl (fun hc23 => ?_) (fun hc23 => ?_)
        · rw [if_pos hc23] at hv
          refine mW.sn 1 (g' := (145, [some (.ref 96), some (.int l1), some (.int l2), some (.long l3), none], [.ref 96], (h21, q))) rfl ?_
          by_cases hz24 : rd S 96 4 = 0
          · rw [if_pos hz24] at hv; cases hv
          rw [if_neg hz24] at hv
          refine sW.getU rfl hs21 o96 rfl hz24 ?_
          refine mW.sn 1 (g' := (149, [some (.ref 96), some (.int l1), some (.int l2), some (.long l3), none], [.int l2, .ref 90], (h21, q))) rfl ?_
          refine mW.br (g1 := (157, [some (.ref 96), some (.int l1), some (.int l2), some (.long l3), none], [.ref 90], (h21, q))) (g2 := (152, [some (.ref 96), some (.int l1), some (.int l2), some (.long l3), none], [.ref 90], (h21, q))) (c := l2 = 0) rfl (fun hc25 => ?_) (fun hc25 => ?_)
          · rw [if_pos hc25] at hv
            refine mW.sn 1 (g' := (158, [some (.ref 96), some (.int l1), some (.int l2), some (.long l3), none], [.long l3, .ref 90], (h21, q))) rfl ?_
            cases hr26 : q_num S l3 with
            | none => rw [hr26] at hv; cases hv
            | some r26 =>
              rw [hr26, o_bind] at hv
              refine sW.call rfl rfl rfl rfl (hs21.rcv o90) (s202 hs21 hr26) ?_
              intro h27 hs27
              refine mW.sn 1 (g' := (162, [some (.ref 96), some (.int l1), some (.int l2), some (.long l3), none], [.int 1], (h27, q))) rfl ?_
              cases hv
              exact sW.fin hs27 rfl
          · rw [if_neg hc25] at hv
            refine mW.sn 3 (g' := (158, [some (.ref 96), some (.int l1), some (.int l2), some (.long l3), none], [.long (-l3), .ref 90], (h21, q))) rfl ?_
            cases hr28 : q_num S (-l3) with
            | none => rw [hr28] at hv; cases hv
            | some r28 =>
              rw [hr28, o_bind] at hv
              refine sW.call rfl rfl rfl rfl (hs21.rcv o90) (s202 hs21 hr28) ?_
              intro h29 hs29
              refine mW.sn 1 (g' := (162, [some (.ref 96), some (.int l1), some (.int l2), some (.long l3), none], [.int 1], (h29, q))) rfl ?_
              cases hv
              exact sW.fin hs29 rfl
        · rw [if_neg hc23] at hv
          refine mW.sn 2 (g' := (140, [some (.ref 96), some (.int l1), some (.int l2), some (.long l3), none], [.int l1, .ref 96], (h21, q))) rfl ?_
          cases hr30 : e_fail S l1 with
          | none => rw [hr30] at hv; cases hv
          | some r30 =>
            rw [hr30, o_bind] at hv
            refine sW.call rfl rfl rfl rfl (hs21.rcv o96) (s172 hs21 hr30) ?_
            intro h31 hs31
            cases hv
            exact sW.fin hs31 rfl
      · rw [if_neg hc22] at hv
        refine mW.sn 3 (g' := (94, [some (.ref 96), some (.int l1), some (.int l2), some (.long l3), none], [.int (lg_cmp l3 9007199254740991)], (h21, q))) rfl ?_
        refine mW.br (g1 := (117, [some (.ref 96), some (.int l1), some (.int l2), some (.long l3), none], [], (h21, q))) (g2 := (97, [some (.ref 96), some (.int l1), some (.int l2), some (.long l3), none], [], (h21, q))) (c := 0 < (lg_cmp l3 9007199254740991)) rfl (fun hc32 => ?_) (fun hc32 => ?_)
        · rw [if_pos hc32] at hv
          refine mW.sn 2 (g' := (119, [some (.ref 96), some (.int l1), some (.int l2), some (.long l3), none], [.ref 96, .ref 96], (h21, q))) rfl ?_
          refine sW.getI rfl hs21 o96 rfl rfl ?_
          refine mW.sn 2 (g' := (124, [some (.ref 96), some (.int l1), some (.int l2), some (.long l3), none], [.int ((rd S 96 2) + 1), .ref 96], (h21, q))) rfl ?_
          refine sW.putI rfl hs21 o96 rfl ?_
          intro h33 hs33
          refine mW.sn 1 (g' := (82, [some (.ref 96), some (.int l1), some (.int l2), some (.long l3), none], [], (h33, q))) rfl ?_
          exact ih _ _ _ _ _ _  hs33 hv
        · rw [if_neg hc32] at hv
          refine mW.sn 5 (g' := (104, [some (.ref 96), some (.int l1), some (.int l2), some (.long l3), none], [.ref 96, .ref 96, .long (10 * l3)], (h21, q))) rfl ?_
          refine sW.getI rfl hs21 o96 rfl rfl ?_
          cases hr34 : e_at S (rd S 96 2) with
          | none => rw [hr34] at hv; cases hv
          | some r34 =>
            rw [hr34, o_bind] at hv
            refine sW.call rfl rfl rfl rfl (hs21.rcv o96) (s169 hs21 hr34) ?_
            intro h35 hs35
            refine mW.sn 7 (g' := (119, [some (.ref 96), some (.int l1), some (.int l2), some (.long (((10 * l3) + r34.toInt64) - 48)), none], [.ref 96, .ref 96], (h35, q))) rfl ?_
            refine sW.getI rfl hs35 o96 rfl rfl ?_
            refine mW.sn 2 (g' := (124, [some (.ref 96), some (.int l1), some (.int l2), some (.long (((10 * l3) + r34.toInt64) - 48)), none], [.int ((rd S 96 2) + 1), .ref 96], (h35, q))) rfl ?_
            refine sW.putI rfl hs35 o96 rfl ?_
            intro h36 hs36
            refine mW.sn 1 (g' := (82, [some (.ref 96), some (.int l1), some (.int l2), some (.long (((10 * l3) + r34.toInt64) - 48)), none], [], (h36, q))) rfl ?_
            exact ih _ _ _ _ _ _  hs36 hv
def e_number (S : SS) : Option (SS × Int32) := ((e_at S (rd S 96 2)).bind fun r1 => (if r1 = (45 : Int32) then ((e_digit (wr S 96 2 ((rd S 96 2) + 1))).bind fun r5 => (if r5 = 0 then ((e_fail (wr S 96 2 ((rd S 96 2) + 1)) (rd (wr S 96 2 ((rd S 96 2) + 1)) 96 2)).bind fun r8 => some (r8.1, r8.2 &&& 1)) else ((e_at (wr S 96 2 ((rd S 96 2) + 1)) (rd (wr S 96 2 ((rd S 96 2) + 1)) 96 2)).bind fun r10 => (if r10 = (48 : Int32) then (if (lg_cmp 0 9007199254740991) ≤ 0 then (if rd (wr (wr S 96 2 ((rd S 96 2) + 1)) 96 2 ((rd (wr S 96 2 ((rd S 96 2) + 1)) 96 2) + 1)) 96 4 = 0 then none else ((q_num (wr (wr S 96 2 ((rd S 96 2) + 1)) 96 2 ((rd (wr S 96 2 ((rd S 96 2) + 1)) 96 2) + 1)) (-0)).bind fun r16 => some (r16, 1))) else ((e_fail (wr (wr S 96 2 ((rd S 96 2) + 1)) 96 2 ((rd (wr S 96 2 ((rd S 96 2) + 1)) 96 2) + 1)) (rd S 96 2)).bind fun r18 => some (r18.1, r18.2 &&& 1))) else e_number_l82 10000 (wr S 96 2 ((rd S 96 2) + 1)) (rd S 96 2) 1 0)))) else ((e_digit S).bind fun r37 => (if r37 = 0 then ((e_fail S (rd S 96 2)).bind fun r40 => some (r40.1, r40.2 &&& 1)) else (if r1 = (48 : Int32) then (if (lg_cmp 0 9007199254740991) ≤ 0 then (if rd (wr S 96 2 ((rd S 96 2) + 1)) 96 4 = 0 then none else ((q_num (wr S 96 2 ((rd S 96 2) + 1)) 0).bind fun r47 => some (r47, 1))) else ((e_fail (wr S 96 2 ((rd S 96 2) + 1)) (rd S 96 2)).bind fun r49 => some (r49.1, r49.2 &&& 1))) else e_number_l82 10000 S (rd S 96 2) 0 0)))))
theorem s200 {S : SS} {v : SS × Int32} (hs : cs h S) (hv : e_number S = some v) : mW (d + 3) mm200 (0, [some (.ref 96), none, none, none, none], [], (h, q)) (mQ q v.1 (some (.int v.2))) := by
  unfold e_number at hv
  refine mW.sn 1 (g' := (1, [some (.ref 96), none, none, none, none], [.ref 96], (h, q))) rfl ?_
  refine sW.getI rfl hs o96 rfl rfl ?_
  refine mW.sn 3 (g' := (7, [some (.ref 96), some (.int (rd S 96 2)), none, none, none], [.ref 96, .ref 96], (h, q))) rfl ?_
  refine sW.getI rfl hs o96 rfl rfl ?_
  cases hr1 : e_at S (rd S 96 2) with
  | none => rw [hr1] at hv; cases hv
  | some r1 =>
    rw [hr1, o_bind] at hv
    refine sW.call rfl rfl rfl rfl (hs.rcv o96) (s169 hs hr1) ?_
    intro h2 hs2
    refine mW.sn 1 (g' := (15, [some (.ref 96), some (.int (rd S 96 2)), none, none, none], [.int 45, .int r1], (h2, q))) rfl ?_
    refine mW.br (g1 := (18, [some (.ref 96), some (.int (rd S 96 2)), none, none, none], [], (h2, q))) (g2 := (22, [some (.ref 96), some (.int (rd S 96 2)), none, none, none], [], (h2, q))) (c := r1 = (45 : Int32)) rfl (fun hc3 => ?_) (fun hc3 => ?_)
    · rw [if_pos hc3] at hv
      refine mW.sn 4 (g' := (25, [some (.ref 96), some (.int (rd S 96 2)), some (.int 1), none, none], [.int 1], (h2, q))) rfl ?_
      refine mW.no (g1 := (38, [some (.ref 96), some (.int (rd S 96 2)), some (.int 1), none, none], [], (h2, q))) (g2 := (28, [some (.ref 96), some (.int (rd S 96 2)), some (.int 1), none, none], [], (h2, q))) (c := (1 : Int32) = 0) rfl (by decide) ?_
      refine mW.sn 2 (g' := (30, [some (.ref 96), some (.int (rd S 96 2)), some (.int 1), none, none], [.ref 96, .ref 96], (h2, q))) rfl ?_
      refine sW.getI rfl hs2 o96 rfl rfl ?_
      refine mW.sn 2 (g' := (35, [some (.ref 96), some (.int (rd S 96 2)), some (.int 1), none, none], [.int ((rd S 96 2) + 1), .ref 96], (h2, q))) rfl ?_
      refine sW.putI rfl hs2 o96 rfl ?_
      intro h4 hs4
      refine mW.sn 1 (g' := (39, [some (.ref 96), some (.int (rd S 96 2)), some (.int 1), none, none], [.ref 96], (h4, q))) rfl ?_
      cases hr5 : e_digit (wr S 96 2 ((rd S 96 2) + 1)) with
      | none => rw [hr5] at hv; cases hv
      | some r5 =>
        rw [hr5, o_bind] at hv
        refine sW.call rfl rfl rfl rfl (hs4.rcv o96) (s201 hs4 hr5) ?_
        intro h6 hs6
        refine mW.br (g1 := (45, [some (.ref 96), some (.int (rd S 96 2)), some (.int 1), none, none], [], (h6, q))) (g2 := (54, [some (.ref 96), some (.int (rd S 96 2)), some (.int 1), none, none], [], (h6, q))) (c := r5 = 0) rfl (fun hc7 => ?_) (fun hc7 => ?_)
        · rw [if_pos hc7] at hv
          refine mW.sn 2 (g' := (47, [some (.ref 96), some (.int (rd S 96 2)), some (.int 1), none, none], [.ref 96, .ref 96], (h6, q))) rfl ?_
          refine sW.getI rfl hs6 o96 rfl rfl ?_
          cases hr8 : e_fail (wr S 96 2 ((rd S 96 2) + 1)) (rd (wr S 96 2 ((rd S 96 2) + 1)) 96 2) with
          | none => rw [hr8] at hv; cases hv
          | some r8 =>
            rw [hr8, o_bind] at hv
            refine sW.call rfl rfl rfl rfl (hs6.rcv o96) (s172 hs6 hr8) ?_
            intro h9 hs9
            cases hv
            exact sW.fin hs9 rfl
        · rw [if_neg hc7] at hv
          refine mW.sn 4 (g' := (58, [some (.ref 96), some (.int (rd S 96 2)), some (.int 1), some (.long 0), none], [.ref 96, .ref 96], (h6, q))) rfl ?_
          refine sW.getI rfl hs6 o96 rfl rfl ?_
          cases hr10 : e_at (wr S 96 2 ((rd S 96 2) + 1)) (rd (wr S 96 2 ((rd S 96 2) + 1)) 96 2) with
          | none => rw [hr10] at hv; cases hv
          | some r10 =>
            rw [hr10, o_bind] at hv
            refine sW.call rfl rfl rfl rfl (hs6.rcv o96) (s169 hs6 hr10) ?_
            intro h11 hs11
            refine mW.sn 1 (g' := (66, [some (.ref 96), some (.int (rd S 96 2)), some (.int 1), some (.long 0), none], [.int 48, .int r10], (h11, q))) rfl ?_
            refine mW.br (g1 := (69, [some (.ref 96), some (.int (rd S 96 2)), some (.int 1), some (.long 0), none], [], (h11, q))) (g2 := (82, [some (.ref 96), some (.int (rd S 96 2)), some (.int 1), some (.long 0), none], [], (h11, q))) (c := r10 = (48 : Int32)) rfl (fun hc12 => ?_) (fun hc12 => ?_)
            · rw [if_pos hc12] at hv
              refine mW.sn 2 (g' := (71, [some (.ref 96), some (.int (rd S 96 2)), some (.int 1), some (.long 0), none], [.ref 96, .ref 96], (h11, q))) rfl ?_
              refine sW.getI rfl hs11 o96 rfl rfl ?_
              refine mW.sn 2 (g' := (76, [some (.ref 96), some (.int (rd S 96 2)), some (.int 1), some (.long 0), none], [.int ((rd (wr S 96 2 ((rd S 96 2) + 1)) 96 2) + 1), .ref 96], (h11, q))) rfl ?_
              refine sW.putI rfl hs11 o96 rfl ?_
              intro h13 hs13
              refine mW.sn 4 (g' := (135, [some (.ref 96), some (.int (rd S 96 2)), some (.int 1), some (.long 0), none], [.int (lg_cmp 0 9007199254740991)], (h13, q))) rfl ?_
              refine mW.br (g1 := (144, [some (.ref 96), some (.int (rd S 96 2)), some (.int 1), some (.long 0), none], [], (h13, q))) (g2 := (138, [some (.ref 96), some (.int (rd S 96 2)), some (.int 1), some (.long 0), none], [], (h13, q))) (c := (lg_cmp 0 9007199254740991) ≤ 0) rfl (fun hc14 => ?_) (fun hc14 => ?_)
              · rw [if_pos hc14] at hv
                refine mW.sn 1 (g' := (145, [some (.ref 96), some (.int (rd S 96 2)), some (.int 1), some (.long 0), none], [.ref 96], (h13, q))) rfl ?_
                by_cases hz15 : rd (wr (wr S 96 2 ((rd S 96 2) + 1)) 96 2 ((rd (wr S 96 2 ((rd S 96 2) + 1)) 96 2) + 1)) 96 4 = 0
                · rw [if_pos hz15] at hv; cases hv
                rw [if_neg hz15] at hv
                refine sW.getU rfl hs13 o96 rfl hz15 ?_
                refine mW.sn 1 (g' := (149, [some (.ref 96), some (.int (rd S 96 2)), some (.int 1), some (.long 0), none], [.int 1, .ref 90], (h13, q))) rfl ?_
                refine mW.no (g1 := (157, [some (.ref 96), some (.int (rd S 96 2)), some (.int 1), some (.long 0), none], [.ref 90], (h13, q))) (g2 := (152, [some (.ref 96), some (.int (rd S 96 2)), some (.int 1), some (.long 0), none], [.ref 90], (h13, q))) (c := (1 : Int32) = 0) rfl (by decide) ?_
                refine mW.sn 3 (g' := (158, [some (.ref 96), some (.int (rd S 96 2)), some (.int 1), some (.long 0), none], [.long (-0), .ref 90], (h13, q))) rfl ?_
                cases hr16 : q_num (wr (wr S 96 2 ((rd S 96 2) + 1)) 96 2 ((rd (wr S 96 2 ((rd S 96 2) + 1)) 96 2) + 1)) (-0) with
                | none => rw [hr16] at hv; cases hv
                | some r16 =>
                  rw [hr16, o_bind] at hv
                  refine sW.call rfl rfl rfl rfl (hs13.rcv o90) (s202 hs13 hr16) ?_
                  intro h17 hs17
                  refine mW.sn 1 (g' := (162, [some (.ref 96), some (.int (rd S 96 2)), some (.int 1), some (.long 0), none], [.int 1], (h17, q))) rfl ?_
                  cases hv
                  exact sW.fin hs17 rfl
              · rw [if_neg hc14] at hv
                refine mW.sn 2 (g' := (140, [some (.ref 96), some (.int (rd S 96 2)), some (.int 1), some (.long 0), none], [.int (rd S 96 2), .ref 96], (h13, q))) rfl ?_
                cases hr18 : e_fail (wr (wr S 96 2 ((rd S 96 2) + 1)) 96 2 ((rd (wr S 96 2 ((rd S 96 2) + 1)) 96 2) + 1)) (rd S 96 2) with
                | none => rw [hr18] at hv; cases hv
                | some r18 =>
                  rw [hr18, o_bind] at hv
                  refine sW.call rfl rfl rfl rfl (hs13.rcv o96) (s172 hs13 hr18) ?_
                  intro h19 hs19
                  cases hv
                  exact sW.fin hs19 rfl
            · rw [if_neg hc12] at hv
              exact e_number_l82_ok _ _ _ _ _ _ _  hs11 hv
    · rw [if_neg hc3] at hv
      refine mW.sn 3 (g' := (25, [some (.ref 96), some (.int (rd S 96 2)), some (.int 0), none, none], [.int 0], (h2, q))) rfl ?_
      refine mW.yes (g1 := (38, [some (.ref 96), some (.int (rd S 96 2)), some (.int 0), none, none], [], (h2, q))) (g2 := (28, [some (.ref 96), some (.int (rd S 96 2)), some (.int 0), none, none], [], (h2, q))) (c := (0 : Int32) = 0) rfl (by decide) ?_
      refine mW.sn 1 (g' := (39, [some (.ref 96), some (.int (rd S 96 2)), some (.int 0), none, none], [.ref 96], (h2, q))) rfl ?_
      cases hr37 : e_digit S with
      | none => rw [hr37] at hv; cases hv
      | some r37 =>
        rw [hr37, o_bind] at hv
        refine sW.call rfl rfl rfl rfl (hs2.rcv o96) (s201 hs2 hr37) ?_
        intro h38 hs38
        refine mW.br (g1 := (45, [some (.ref 96), some (.int (rd S 96 2)), some (.int 0), none, none], [], (h38, q))) (g2 := (54, [some (.ref 96), some (.int (rd S 96 2)), some (.int 0), none, none], [], (h38, q))) (c := r37 = 0) rfl (fun hc39 => ?_) (fun hc39 => ?_)
        · rw [if_pos hc39] at hv
          refine mW.sn 2 (g' := (47, [some (.ref 96), some (.int (rd S 96 2)), some (.int 0), none, none], [.ref 96, .ref 96], (h38, q))) rfl ?_
          refine sW.getI rfl hs38 o96 rfl rfl ?_
          cases hr40 : e_fail S (rd S 96 2) with
          | none => rw [hr40] at hv; cases hv
          | some r40 =>
            rw [hr40, o_bind] at hv
            refine sW.call rfl rfl rfl rfl (hs38.rcv o96) (s172 hs38 hr40) ?_
            intro h41 hs41
            cases hv
            exact sW.fin hs41 rfl
        · rw [if_neg hc39] at hv
          refine mW.sn 4 (g' := (58, [some (.ref 96), some (.int (rd S 96 2)), some (.int 0), some (.long 0), none], [.ref 96, .ref 96], (h38, q))) rfl ?_
          refine sW.getI rfl hs38 o96 rfl rfl ?_
          refine sW.call rfl rfl rfl rfl (hs38.rcv o96) (s169 hs38 hr1) ?_
          intro h42 hs42
          refine mW.sn 1 (g' := (66, [some (.ref 96), some (.int (rd S 96 2)), some (.int 0), some (.long 0), none], [.int 48, .int r1], (h42, q))) rfl ?_
          refine mW.br (g1 := (69, [some (.ref 96), some (.int (rd S 96 2)), some (.int 0), some (.long 0), none], [], (h42, q))) (g2 := (82, [some (.ref 96), some (.int (rd S 96 2)), some (.int 0), some (.long 0), none], [], (h42, q))) (c := r1 = (48 : Int32)) rfl (fun hc43 => ?_) (fun hc43 => ?_)
          · rw [if_pos hc43] at hv
            refine mW.sn 2 (g' := (71, [some (.ref 96), some (.int (rd S 96 2)), some (.int 0), some (.long 0), none], [.ref 96, .ref 96], (h42, q))) rfl ?_
            refine sW.getI rfl hs42 o96 rfl rfl ?_
            refine mW.sn 2 (g' := (76, [some (.ref 96), some (.int (rd S 96 2)), some (.int 0), some (.long 0), none], [.int ((rd S 96 2) + 1), .ref 96], (h42, q))) rfl ?_
            refine sW.putI rfl hs42 o96 rfl ?_
            intro h44 hs44
            refine mW.sn 4 (g' := (135, [some (.ref 96), some (.int (rd S 96 2)), some (.int 0), some (.long 0), none], [.int (lg_cmp 0 9007199254740991)], (h44, q))) rfl ?_
            refine mW.br (g1 := (144, [some (.ref 96), some (.int (rd S 96 2)), some (.int 0), some (.long 0), none], [], (h44, q))) (g2 := (138, [some (.ref 96), some (.int (rd S 96 2)), some (.int 0), some (.long 0), none], [], (h44, q))) (c := (lg_cmp 0 9007199254740991) ≤ 0) rfl (fun hc45 => ?_) (fun hc45 => ?_)
            · rw [if_pos hc45] at hv
              refine mW.sn 1 (g' := (145, [some (.ref 96), some (.int (rd S 96 2)), some (.int 0), some (.long 0), none], [.ref 96], (h44, q))) rfl ?_
              by_cases hz46 : rd (wr S 96 2 ((rd S 96 2) + 1)) 96 4 = 0
              · rw [if_pos hz46] at hv; cases hv
              rw [if_neg hz46] at hv
              refine sW.getU rfl hs44 o96 rfl hz46 ?_
              refine mW.sn 1 (g' := (149, [some (.ref 96), some (.int (rd S 96 2)), some (.int 0), some (.long 0), none], [.int 0, .ref 90], (h44, q))) rfl ?_
              refine mW.yes (g1 := (157, [some (.ref 96), some (.int (rd S 96 2)), some (.int 0), some (.long 0), none], [.ref 90], (h44, q))) (g2 := (152, [some (.ref 96), some (.int (rd S 96 2)), some (.int 0), some (.long 0), none], [.ref 90], (h44, q))) (c := (0 : Int32) = 0) rfl (by decide) ?_
              refine mW.sn 1 (g' := (158, [some (.ref 96), some (.int (rd S 96 2)), some (.int 0), some (.long 0), none], [.long 0, .ref 90], (h44, q))) rfl ?_
              cases hr47 : q_num (wr S 96 2 ((rd S 96 2) + 1)) 0 with
              | none => rw [hr47] at hv; cases hv
              | some r47 =>
                rw [hr47, o_bind] at hv
                refine sW.call rfl rfl rfl rfl (hs44.rcv o90) (s202 hs44 hr47) ?_
                intro h48 hs48
                refine mW.sn 1 (g' := (162, [some (.ref 96), some (.int (rd S 96 2)), some (.int 0), some (.long 0), none], [.int 1], (h48, q))) rfl ?_
                cases hv
                exact sW.fin hs48 rfl
            · rw [if_neg hc45] at hv
              refine mW.sn 2 (g' := (140, [some (.ref 96), some (.int (rd S 96 2)), some (.int 0), some (.long 0), none], [.int (rd S 96 2), .ref 96], (h44, q))) rfl ?_
              cases hr49 : e_fail (wr S 96 2 ((rd S 96 2) + 1)) (rd S 96 2) with
              | none => rw [hr49] at hv; cases hv
              | some r49 =>
                rw [hr49, o_bind] at hv
                refine sW.call rfl rfl rfl rfl (hs44.rcv o96) (s172 hs44 hr49) ?_
                intro h50 hs50
                cases hv
                exact sW.fin hs50 rfl
          · rw [if_neg hc43] at hv
            exact e_number_l82_ok _ _ _ _ _ _ _  hs42 hv
def e_array_l42 (rec : SS → Int32 → Option (SS × Int32)) : Nat → SS → Int32 → Int32 → Int32 → Option (SS × Int32)
  | 0, _, _, _, _ => none
  | n + 1, S, l1, l2, l3 => (if l3 = 0 then (if rd (wr S 96 2 ((rd S 96 2) + 1)) 96 4 = 0 then none else ((q_close (wr S 96 2 ((rd S 96 2) + 1)) l2).bind fun r13 => some (r13, 1))) else ((rec S (l1 + 1)).bind fun r15 => (if r15.2 = 0 then some (r15.1, 0) else ((e_blanks r15.1).bind fun r18 => ((e_at r18 (rd r18 96 2)).bind fun r20 => (if r20 = (44 : Int32) then ((e_blanks (wr r18 96 2 ((rd r18 96 2) + 1))).bind fun r25 => e_array_l42 rec n r25 l1 l2 1) else (if r20 = (93 : Int32) then e_array_l42 rec n r18 l1 l2 0 else ((e_fail r18 (rd r18 96 2)).bind fun r30 => some (r30.1, r30.2 &&& 1)))))))))
theorem e_array_l42_ok {rec : SS → Int32 → Option (SS × Int32)} (hrec : ∀ (e : Nat), d ≤ e → ∀ (h : mH) (S : SS) (p0 : Int32) (v : SS × Int32), cs h S → rec S p0 = some v → mW e mm170 (0, [some (.ref 96), some (.int p0), none], [], (h, q)) (mQ q v.1 (some (.int v.2)))) : ∀ (n : Nat), ∀ (h : mH) (S : SS) (l1 : Int32) (l2 : Int32) (l3 : Int32) (v : SS × Int32), cs h S → e_array_l42 rec n S l1 l2 l3 = some v → mW (d + 2) mm196 (42, [some (.ref 96), some (.int l1), some (.int l2), some (.int l3)], [], (h, q)) (mQ q v.1 (some (.int v.2))) := by
  intro n
  induction n with
  | zero => intro h S l1 l2 l3 v hs hv; cases hv
  | succ n ih =>
    intro h S l1 l2 l3 v hs hv
    unfold e_array_l42 at hv
    refine mW.sn 1 (g' := (43, [some (.ref 96), some (.int l1), some (.int l2), some (.int l3)], [.int l3], (h, q))) rfl ?_
    refine mW.br (g1 := (140, [some (.ref 96), some (.int l1), some (.int l2), some (.int l3)], [], (h, q))) (g2 := (46, [some (.ref 96), some (.int l1), some (.int l2), some (.int l3)], [], (h, q))) (c := l3 = 0) rfl (fun hc10 => ?_) (fun hc10 => ?_)
    · rw [if_pos hc10] at hv
      refine mW.sn 2 (g' := (142, [some (.ref 96), some (.int l1), some (.int l2), some (.int l3)], [.ref 96, .ref 96], (h, q))) rfl ?_
      refine sW.getI rfl hs o96 rfl rfl ?_
      refine mW.sn 2 (g' := (147, [some (.ref 96), some (.int l1), some (.int l2), some (.int l3)], [.int ((rd S 96 2) + 1), .ref 96], (h, q))) rfl ?_
      refine sW.putI rfl hs o96 rfl ?_
      intro h11 hs11
      refine mW.sn 1 (g' := (151, [some (.ref 96), some (.int l1), some (.int l2), some (.int l3)], [.ref 96], (h11, q))) rfl ?_
      by_cases hz12 : rd (wr S 96 2 ((rd S 96 2) + 1)) 96 4 = 0
      · rw [if_pos hz12] at hv; cases hv
      rw [if_neg hz12] at hv
      refine sW.getU rfl hs11 o96 rfl hz12 ?_
      refine mW.sn 1 (g' := (155, [some (.ref 96), some (.int l1), some (.int l2), some (.int l3)], [.int l2, .ref 90], (h11, q))) rfl ?_
      cases hr13 : q_close (wr S 96 2 ((rd S 96 2) + 1)) l2 with
      | none => rw [hr13] at hv; cases hv
      | some r13 =>
        rw [hr13, o_bind] at hv
        refine sW.call rfl rfl rfl rfl (hs11.rcv o90) (s176 hs11 hr13) ?_
        intro h14 hs14
        refine mW.sn 1 (g' := (159, [some (.ref 96), some (.int l1), some (.int l2), some (.int l3)], [.int 1], (h14, q))) rfl ?_
        cases hv
        exact sW.fin hs14 rfl
    · rw [if_neg hc10] at hv
      refine mW.sn 4 (g' := (50, [some (.ref 96), some (.int l1), some (.int l2), some (.int l3)], [.int (l1 + 1), .ref 96], (h, q))) rfl ?_
      cases hr15 : rec S (l1 + 1) with
      | none => rw [hr15] at hv; cases hv
      | some r15 =>
        rw [hr15, o_bind] at hv
        refine sW.call rfl rfl rfl rfl (hs.rcv o96) (hrec _ (by omega) _ _ _ _  hs hr15) ?_
        intro h16 hs16
        refine mW.br (g1 := (56, [some (.ref 96), some (.int l1), some (.int l2), some (.int l3)], [], (h16, q))) (g2 := (58, [some (.ref 96), some (.int l1), some (.int l2), some (.int l3)], [], (h16, q))) (c := r15.2 = 0) rfl (fun hc17 => ?_) (fun hc17 => ?_)
        · rw [if_pos hc17] at hv
          refine mW.sn 1 (g' := (57, [some (.ref 96), some (.int l1), some (.int l2), some (.int l3)], [.int 0], (h16, q))) rfl ?_
          cases hv
          exact sW.fin hs16 rfl
        · rw [if_neg hc17] at hv
          refine mW.sn 1 (g' := (59, [some (.ref 96), some (.int l1), some (.int l2), some (.int l3)], [.ref 96], (h16, q))) rfl ?_
          cases hr18 : e_blanks r15.1 with
          | none => rw [hr18] at hv; cases hv
          | some r18 =>
            rw [hr18, o_bind] at hv
            refine sW.call rfl rfl rfl rfl (hs16.rcv o96) (s168 hs16 hr18) ?_
            intro h19 hs19
            refine mW.sn 2 (g' := (64, [some (.ref 96), some (.int l1), some (.int l2), some (.int l3)], [.ref 96, .ref 96], (h19, q))) rfl ?_
            refine sW.getI rfl hs19 o96 rfl rfl ?_
            cases hr20 : e_at r18 (rd r18 96 2) with
            | none => rw [hr20] at hv; cases hv
            | some r20 =>
              rw [hr20, o_bind] at hv
              refine sW.call rfl rfl rfl rfl (hs19.rcv o96) (s169 hs19 hr20) ?_
              intro h21 hs21
              refine mW.sn 1 (g' := (72, [some (.ref 96), some (.int l1), some (.int l2), some (.int l3)], [.int 44, .int r20], (h21, q))) rfl ?_
              refine mW.br (g1 := (97, [some (.ref 96), some (.int l1), some (.int l2), some (.int l3)], [], (h21, q))) (g2 := (75, [some (.ref 96), some (.int l1), some (.int l2), some (.int l3)], [], (h21, q))) (c := r20 = (44 : Int32)) rfl (fun hc22 => ?_) (fun hc22 => ?_)
              · rw [if_pos hc22] at hv
                refine mW.sn 2 (g' := (99, [some (.ref 96), some (.int l1), some (.int l2), some (.int l3)], [.ref 96, .ref 96], (h21, q))) rfl ?_
                refine sW.getI rfl hs21 o96 rfl rfl ?_
                refine sW.call rfl rfl rfl rfl (hs21.rcv o96) (s169 hs21 hr20) ?_
                intro h23 hs23
                refine mW.sn 1 (g' := (107, [some (.ref 96), some (.int l1), some (.int l2), some (.int l3)], [.int 44, .int r20], (h23, q))) rfl ?_
                refine mW.yes (g1 := (110, [some (.ref 96), some (.int l1), some (.int l2), some (.int l3)], [], (h23, q))) (g2 := (114, [some (.ref 96), some (.int l1), some (.int l2), some (.int l3)], [], (h23, q))) (c := r20 = (44 : Int32)) rfl hc22 ?_
                refine mW.sn 4 (g' := (117, [some (.ref 96), some (.int l1), some (.int l2), some (.int 1)], [.int 1], (h23, q))) rfl ?_
                refine mW.no (g1 := (120, [some (.ref 96), some (.int l1), some (.int l2), some (.int 1)], [], (h23, q))) (g2 := (123, [some (.ref 96), some (.int l1), some (.int l2), some (.int 1)], [], (h23, q))) (c := (1 : Int32) = 0) rfl (by decide) ?_
                refine mW.sn 2 (g' := (125, [some (.ref 96), some (.int l1), some (.int l2), some (.int 1)], [.ref 96, .ref 96], (h23, q))) rfl ?_
                refine sW.getI rfl hs23 o96 rfl rfl ?_
                refine mW.sn 2 (g' := (130, [some (.ref 96), some (.int l1), some (.int l2), some (.int 1)], [.int ((rd r18 96 2) + 1), .ref 96], (h23, q))) rfl ?_
                refine sW.putI rfl hs23 o96 rfl ?_
                intro h24 hs24
                refine mW.sn 1 (g' := (134, [some (.ref 96), some (.int l1), some (.int l2), some (.int 1)], [.ref 96], (h24, q))) rfl ?_
                cases hr25 : e_blanks (wr r18 96 2 ((rd r18 96 2) + 1)) with
                | none => rw [hr25] at hv; cases hv
                | some r25 =>
                  rw [hr25, o_bind] at hv
                  refine sW.call rfl rfl rfl rfl (hs24.rcv o96) (s168 hs24 hr25) ?_
                  intro h26 hs26
                  refine mW.sn 1 (g' := (42, [some (.ref 96), some (.int l1), some (.int l2), some (.int 1)], [], (h26, q))) rfl ?_
                  exact ih _ _ _ _ _ _  hs26 hv
              · rw [if_neg hc22] at hv
                refine mW.sn 2 (g' := (77, [some (.ref 96), some (.int l1), some (.int l2), some (.int l3)], [.ref 96, .ref 96], (h21, q))) rfl ?_
                refine sW.getI rfl hs21 o96 rfl rfl ?_
                refine sW.call rfl rfl rfl rfl (hs21.rcv o96) (s169 hs21 hr20) ?_
                intro h27 hs27
                refine mW.sn 1 (g' := (85, [some (.ref 96), some (.int l1), some (.int l2), some (.int l3)], [.int 93, .int r20], (h27, q))) rfl ?_
                refine mW.br (g1 := (97, [some (.ref 96), some (.int l1), some (.int l2), some (.int l3)], [], (h27, q))) (g2 := (88, [some (.ref 96), some (.int l1), some (.int l2), some (.int l3)], [], (h27, q))) (c := r20 = (93 : Int32)) rfl (fun hc28 => ?_) (fun hc28 => ?_)
                · rw [if_pos hc28] at hv
                  refine mW.sn 2 (g' := (99, [some (.ref 96), some (.int l1), some (.int l2), some (.int l3)], [.ref 96, .ref 96], (h27, q))) rfl ?_
                  refine sW.getI rfl hs27 o96 rfl rfl ?_
                  refine sW.call rfl rfl rfl rfl (hs27.rcv o96) (s169 hs27 hr20) ?_
                  intro h29 hs29
                  refine mW.sn 1 (g' := (107, [some (.ref 96), some (.int l1), some (.int l2), some (.int l3)], [.int 44, .int r20], (h29, q))) rfl ?_
                  refine mW.no (g1 := (110, [some (.ref 96), some (.int l1), some (.int l2), some (.int l3)], [], (h29, q))) (g2 := (114, [some (.ref 96), some (.int l1), some (.int l2), some (.int l3)], [], (h29, q))) (c := r20 = (44 : Int32)) rfl hc22 ?_
                  refine mW.sn 3 (g' := (117, [some (.ref 96), some (.int l1), some (.int l2), some (.int 0)], [.int 0], (h29, q))) rfl ?_
                  refine mW.yes (g1 := (120, [some (.ref 96), some (.int l1), some (.int l2), some (.int 0)], [], (h29, q))) (g2 := (123, [some (.ref 96), some (.int l1), some (.int l2), some (.int 0)], [], (h29, q))) (c := (0 : Int32) = 0) rfl (by decide) ?_
                  refine mW.sn 1 (g' := (42, [some (.ref 96), some (.int l1), some (.int l2), some (.int 0)], [], (h29, q))) rfl ?_
                  exact ih _ _ _ _ _ _  hs29 hv
                · rw [if_neg hc28] at hv
                  refine mW.sn 2 (g' := (90, [some (.ref 96), some (.int l1), some (.int l2), some (.int l3)], [.ref 96, .ref 96], (h27, q))) rfl ?_
                  refine sW.getI rfl hs27 o96 rfl rfl ?_
                  cases hr30 : e_fail r18 (rd r18 96 2) with
                  | none => rw [hr30] at hv; cases hv
                  | some r30 =>
                    rw [hr30, o_bind] at hv
                    refine sW.call rfl rfl rfl rfl (hs27.rcv o96) (s172 hs27 hr30) ?_
                    intro h31 hs31
                    cases hv
                    exact sW.fin hs31 rfl
def e_array (S : SS) (rec : SS → Int32 → Option (SS × Int32)) (p0 : Int32) : Option (SS × Int32) := (if rd S 96 4 = 0 then none else ((q_open S 5).bind fun r2 => ((e_blanks (wr r2.1 96 2 ((rd r2.1 96 2) + 1))).bind fun r5 => ((e_at r5 (rd r5 96 2)).bind fun r7 => (if r7 = (93 : Int32) then e_array_l42 rec 10000 r5 p0 r2.2 0 else e_array_l42 rec 10000 r5 p0 r2.2 1)))))
theorem s196 {S : SS} {rec : SS → Int32 → Option (SS × Int32)} (hrec : ∀ (e : Nat), d ≤ e → ∀ (h : mH) (S : SS) (p0 : Int32) (v : SS × Int32), cs h S → rec S p0 = some v → mW e mm170 (0, [some (.ref 96), some (.int p0), none], [], (h, q)) (mQ q v.1 (some (.int v.2)))) {p0 : Int32} {v : SS × Int32} (hs : cs h S) (hv : e_array S rec p0 = some v) : mW (d + 2) mm196 (0, [some (.ref 96), some (.int p0), none, none], [], (h, q)) (mQ q v.1 (some (.int v.2))) := by
  unfold e_array at hv
  refine mW.sn 1 (g' := (1, [some (.ref 96), some (.int p0), none, none], [.ref 96], (h, q))) rfl ?_
  by_cases hz1 : rd S 96 4 = 0
  · rw [if_pos hz1] at hv; cases hv
  rw [if_neg hz1] at hv
  refine sW.getU rfl hs o96 rfl hz1 ?_
  refine mW.sn 1 (g' := (5, [some (.ref 96), some (.int p0), none, none], [.int 5, .ref 90], (h, q))) rfl ?_
  cases hr2 : q_open S 5 with
  | none => rw [hr2] at hv; cases hv
  | some r2 =>
    rw [hr2, o_bind] at hv
    refine sW.call rfl rfl rfl rfl (hs.rcv o90) (s174 hs hr2) ?_
    intro h3 hs3
    refine mW.sn 3 (g' := (11, [some (.ref 96), some (.int p0), some (.int r2.2), none], [.ref 96, .ref 96], (h3, q))) rfl ?_
    refine sW.getI rfl hs3 o96 rfl rfl ?_
    refine mW.sn 2 (g' := (16, [some (.ref 96), some (.int p0), some (.int r2.2), none], [.int ((rd r2.1 96 2) + 1), .ref 96], (h3, q))) rfl ?_
    refine sW.putI rfl hs3 o96 rfl ?_
    intro h4 hs4
    refine mW.sn 1 (g' := (20, [some (.ref 96), some (.int p0), some (.int r2.2), none], [.ref 96], (h4, q))) rfl ?_
    cases hr5 : e_blanks (wr r2.1 96 2 ((rd r2.1 96 2) + 1)) with
    | none => rw [hr5] at hv; cases hv
    | some r5 =>
      rw [hr5, o_bind] at hv
      refine sW.call rfl rfl rfl rfl (hs4.rcv o96) (s168 hs4 hr5) ?_
      intro h6 hs6
      refine mW.sn 2 (g' := (25, [some (.ref 96), some (.int p0), some (.int r2.2), none], [.ref 96, .ref 96], (h6, q))) rfl ?_
      refine sW.getI rfl hs6 o96 rfl rfl ?_
      cases hr7 : e_at r5 (rd r5 96 2) with
      | none => rw [hr7] at hv; cases hv
      | some r7 =>
        rw [hr7, o_bind] at hv
        refine sW.call rfl rfl rfl rfl (hs6.rcv o96) (s169 hs6 hr7) ?_
        intro h8 hs8
        refine mW.sn 1 (g' := (33, [some (.ref 96), some (.int p0), some (.int r2.2), none], [.int 93, .int r7], (h8, q))) rfl ?_
        refine mW.br (g1 := (40, [some (.ref 96), some (.int p0), some (.int r2.2), none], [], (h8, q))) (g2 := (36, [some (.ref 96), some (.int p0), some (.int r2.2), none], [], (h8, q))) (c := r7 = (93 : Int32)) rfl (fun hc9 => ?_) (fun hc9 => ?_)
        · rw [if_pos hc9] at hv
          refine mW.sn 2 (g' := (42, [some (.ref 96), some (.int p0), some (.int r2.2), some (.int 0)], [], (h8, q))) rfl ?_
          exact e_array_l42_ok hrec _ _ _ _ _ _ _  hs8 hv
        · rw [if_neg hc9] at hv
          refine mW.sn 3 (g' := (42, [some (.ref 96), some (.int p0), some (.int r2.2), some (.int 1)], [], (h8, q))) rfl ?_
          exact e_array_l42_ok hrec _ _ _ _ _ _ _  hs8 hv
def e_object_l98 (rec : SS → Int32 → Option (SS × Int32)) (k43 : SS → Int32 → Int32 → Int32 → Option (SS × Int32)) : Nat → SS → Int32 → Int32 → Int32 → Int32 → Int32 → Option (SS × Int32)
  | 0, _, _, _, _, _, _ => none
  | n + 1, S, l1, l2, l4, l5, l6 => (if l5 ≤ l6 then ((e_blanks S).bind fun r23 => ((e_at r23 (rd r23 96 2)).bind fun r25 => (if r25 = (58 : Int32) then ((e_blanks (wr r23 96 2 ((rd r23 96 2) + 1))).bind fun r29 => ((rec r29 (l1 + 1)).bind fun r31 => (if r31.2 = 0 then some (r31.1, 0) else ((e_blanks r31.1).bind fun r34 => ((e_at r34 (rd r34 96 2)).bind fun r36 => (if r36 = (44 : Int32) then ((e_blanks (wr r34 96 2 ((rd r34 96 2) + 1))).bind fun r41 => k43 r41 l1 l2 1) else (if r36 = (125 : Int32) then k43 r34 l1 l2 0 else ((e_fail r34 (rd r34 96 2)).bind fun r46 => some (r46.1, r46.2 &&& 1))))))))) else ((e_fail r23 (rd r23 96 2)).bind fun r48 => some (r48.1, r48.2 &&& 1))))) else (if rd S 96 4 = 0 then none else ((r_strings (S 91) (S 91) l6 l5).bind fun r51 => (if r51 = 0 then ((e_fail S l4).bind fun r54 => some (r54.1, r54.2 &&& 1)) else ((r_next (S 91) l6).bind fun r56 => ((r_next (S 91) r56).bind fun r58 => e_object_l98 rec k43 n S l1 l2 l4 l5 r58))))))
theorem e_object_l98_ok {rec : SS → Int32 → Option (SS × Int32)} (hrec : ∀ (e : Nat), d ≤ e → ∀ (h : mH) (S : SS) (p0 : Int32) (v : SS × Int32), cs h S → rec S p0 = some v → mW e mm170 (0, [some (.ref 96), some (.int p0), none], [], (h, q)) (mQ q v.1 (some (.int v.2)))) {k43 : SS → Int32 → Int32 → Int32 → Option (SS × Int32)} (hk43 : ∀ (h : mH) (S : SS) (l1 : Int32) (l2 : Int32) (l3 : Int32) (x4 : Option Value) (x5 : Option Value) (x6 : Option Value) (v : SS × Int32), cs h S → k43 S l1 l2 l3 = some v → mW (d + 6) mm197 (43, [some (.ref 96), some (.int l1), some (.int l2), some (.int l3), x4, x5, x6], [], (h, q)) (mQ q v.1 (some (.int v.2)))) : ∀ (n : Nat), ∀ (h : mH) (S : SS) (l1 : Int32) (l2 : Int32) (l4 : Int32) (l5 : Int32) (l6 : Int32) (y3 : Int32) (v : SS × Int32), cs h S → e_object_l98 rec k43 n S l1 l2 l4 l5 l6 = some v → mW (d + 6) mm197 (98, [some (.ref 96), some (.int l1), some (.int l2), some (.int y3), some (.int l4), some (.int l5), some (.int l6)], [], (h, q)) (mQ q v.1 (some (.int v.2))) := by
  intro n
  induction n with
  | zero => intro h S l1 l2 l4 l5 l6 y3 v hs hv; cases hv
  | succ n ih =>
    intro h S l1 l2 l4 l5 l6 y3 v hs hv
    unfold e_object_l98 at hv
    refine mW.sn 2 (g' := (102, [some (.ref 96), some (.int l1), some (.int l2), some (.int y3), some (.int l4), some (.int l5), some (.int l6)], [.int l5, .int l6], (h, q))) rfl ?_
    refine mW.br (g1 := (163, [some (.ref 96), some (.int l1), some (.int l2), some (.int y3), some (.int l4), some (.int l5), some (.int l6)], [], (h, q))) (g2 := (105, [some (.ref 96), some (.int l1), some (.int l2), some (.int y3), some (.int l4), some (.int l5), some (.int l6)], [], (h, q))) (c := l5 ≤ l6) rfl (fun hc22 => ?_) (fun hc22 => ?_)
    · rw [if_pos hc22] at hv
      refine mW.sn 1 (g' := (164, [some (.ref 96), some (.int l1), some (.int l2), some (.int y3), some (.int l4), some (.int l5), some (.int l6)], [.ref 96], (h, q))) rfl ?_
      cases hr23 : e_blanks S with
      | none => rw [hr23] at hv; cases hv
      | some r23 =>
        rw [hr23, o_bind] at hv
        refine sW.call rfl rfl rfl rfl (hs.rcv o96) (s168 hs hr23) ?_
        intro h24 hs24
        refine mW.sn 2 (g' := (169, [some (.ref 96), some (.int l1), some (.int l2), some (.int y3), some (.int l4), some (.int l5), some (.int l6)], [.ref 96, .ref 96], (h24, q))) rfl ?_
        refine sW.getI rfl hs24 o96 rfl rfl ?_
        cases hr25 : e_at r23 (rd r23 96 2) with
        | none => rw [hr25] at hv; cases hv
        | some r25 =>
          rw [hr25, o_bind] at hv
          refine sW.call rfl rfl rfl rfl (hs24.rcv o96) (s169 hs24 hr25) ?_
          intro h26 hs26
          refine mW.sn 1 (g' := (177, [some (.ref 96), some (.int l1), some (.int l2), some (.int y3), some (.int l4), some (.int l5), some (.int l6)], [.int 58, .int r25], (h26, q))) rfl ?_
          refine mW.br (g1 := (189, [some (.ref 96), some (.int l1), some (.int l2), some (.int y3), some (.int l4), some (.int l5), some (.int l6)], [], (h26, q))) (g2 := (180, [some (.ref 96), some (.int l1), some (.int l2), some (.int y3), some (.int l4), some (.int l5), some (.int l6)], [], (h26, q))) (c := r25 = (58 : Int32)) rfl (fun hc27 => ?_) (fun hc27 => ?_)
          · rw [if_pos hc27] at hv
            refine mW.sn 2 (g' := (191, [some (.ref 96), some (.int l1), some (.int l2), some (.int y3), some (.int l4), some (.int l5), some (.int l6)], [.ref 96, .ref 96], (h26, q))) rfl ?_
            refine sW.getI rfl hs26 o96 rfl rfl ?_
            refine mW.sn 2 (g' := (196, [some (.ref 96), some (.int l1), some (.int l2), some (.int y3), some (.int l4), some (.int l5), some (.int l6)], [.int ((rd r23 96 2) + 1), .ref 96], (h26, q))) rfl ?_
            refine sW.putI rfl hs26 o96 rfl ?_
            intro h28 hs28
            refine mW.sn 1 (g' := (200, [some (.ref 96), some (.int l1), some (.int l2), some (.int y3), some (.int l4), some (.int l5), some (.int l6)], [.ref 96], (h28, q))) rfl ?_
            cases hr29 : e_blanks (wr r23 96 2 ((rd r23 96 2) + 1)) with
            | none => rw [hr29] at hv; cases hv
            | some r29 =>
              rw [hr29, o_bind] at hv
              refine sW.call rfl rfl rfl rfl (hs28.rcv o96) (s168 hs28 hr29) ?_
              intro h30 hs30
              refine mW.sn 4 (g' := (207, [some (.ref 96), some (.int l1), some (.int l2), some (.int y3), some (.int l4), some (.int l5), some (.int l6)], [.int (l1 + 1), .ref 96], (h30, q))) rfl ?_
              cases hr31 : rec r29 (l1 + 1) with
              | none => rw [hr31] at hv; cases hv
              | some r31 =>
                rw [hr31, o_bind] at hv
                refine sW.call rfl rfl rfl rfl (hs30.rcv o96) (hrec _ (by omega) _ _ _ _  hs30 hr31) ?_
                intro h32 hs32
                refine mW.br (g1 := (213, [some (.ref 96), some (.int l1), some (.int l2), some (.int y3), some (.int l4), some (.int l5), some (.int l6)], [], (h32, q))) (g2 := (215, [some (.ref 96), some (.int l1), some (.int l2), some (.int y3), some (.int l4), some (.int l5), some (.int l6)], [], (h32, q))) (c := r31.2 = 0) rfl (fun hc33 => ?_) (fun hc33 => ?_)
                · rw [if_pos hc33] at hv
                  refine mW.sn 1 (g' := (214, [some (.ref 96), some (.int l1), some (.int l2), some (.int y3), some (.int l4), some (.int l5), some (.int l6)], [.int 0], (h32, q))) rfl ?_
                  cases hv
                  exact sW.fin hs32 rfl
                · rw [if_neg hc33] at hv
                  refine mW.sn 1 (g' := (216, [some (.ref 96), some (.int l1), some (.int l2), some (.int y3), some (.int l4), some (.int l5), some (.int l6)], [.ref 96], (h32, q))) rfl ?_
                  cases hr34 : e_blanks r31.1 with
                  | none => rw [hr34] at hv; cases hv
                  | some r34 =>
                    rw [hr34, o_bind] at hv
                    refine sW.call rfl rfl rfl rfl (hs32.rcv o96) (s168 hs32 hr34) ?_
                    intro h35 hs35
                    refine mW.sn 2 (g' := (221, [some (.ref 96), some (.int l1), some (.int l2), some (.int y3), some (.int l4), some (.int l5), some (.int l6)], [.ref 96, .ref 96], (h35, q))) rfl ?_
                    refine sW.getI rfl hs35 o96 rfl rfl ?_
                    cases hr36 : e_at r34 (rd r34 96 2) with
                    | none => rw [hr36] at hv; cases hv
                    | some r36 =>
                      rw [hr36, o_bind] at hv
                      refine sW.call rfl rfl rfl rfl (hs35.rcv o96) (s169 hs35 hr36) ?_
                      intro h37 hs37
                      refine mW.sn 1 (g' := (229, [some (.ref 96), some (.int l1), some (.int l2), some (.int y3), some (.int l4), some (.int l5), some (.int l6)], [.int 44, .int r36], (h37, q))) rfl ?_
                      refine mW.br (g1 := (254, [some (.ref 96), some (.int l1), some (.int l2), some (.int y3), some (.int l4), some (.int l5), some (.int l6)], [], (h37, q))) (g2 := (232, [some (.ref 96), some (.int l1), some (.int l2), some (.int y3), some (.int l4), some (.int l5), some (.int l6)], [], (h37, q))) (c := r36 = (44 : Int32)) rfl (fun hc38 => ?_) (fun hc38 => ?_)
                      · rw [if_pos hc38] at hv
                        refine mW.sn 2 (g' := (256, [some (.ref 96), some (.int l1), some (.int l2), some (.int y3), some (.int l4), some (.int l5), some (.int l6)], [.ref 96, .ref 96], (h37, q))) rfl ?_
                        refine sW.getI rfl hs37 o96 rfl rfl ?_
                        refine sW.call rfl rfl rfl rfl (hs37.rcv o96) (s169 hs37 hr36) ?_
                        intro h39 hs39
                        refine mW.sn 1 (g' := (264, [some (.ref 96), some (.int l1), some (.int l2), some (.int y3), some (.int l4), some (.int l5), some (.int l6)], [.int 44, .int r36], (h39, q))) rfl ?_
                        refine mW.yes (g1 := (267, [some (.ref 96), some (.int l1), some (.int l2), some (.int y3), some (.int l4), some (.int l5), some (.int l6)], [], (h39, q))) (g2 := (271, [some (.ref 96), some (.int l1), some (.int l2), some (.int y3), some (.int l4), some (.int l5), some (.int l6)], [], (h39, q))) (c := r36 = (44 : Int32)) rfl hc38 ?_
                        refine mW.sn 4 (g' := (274, [some (.ref 96), some (.int l1), some (.int l2), some (.int 1), some (.int l4), some (.int l5), some (.int l6)], [.int 1], (h39, q))) rfl ?_
                        refine mW.no (g1 := (277, [some (.ref 96), some (.int l1), some (.int l2), some (.int 1), some (.int l4), some (.int l5), some (.int l6)], [], (h39, q))) (g2 := (280, [some (.ref 96), some (.int l1), some (.int l2), some (.int 1), some (.int l4), some (.int l5), some (.int l6)], [], (h39, q))) (c := (1 : Int32) = 0) rfl (by decide) ?_
                        refine mW.sn 2 (g' := (282, [some (.ref 96), some (.int l1), some (.int l2), some (.int 1), some (.int l4), some (.int l5), some (.int l6)], [.ref 96, .ref 96], (h39, q))) rfl ?_
                        refine sW.getI rfl hs39 o96 rfl rfl ?_
                        refine mW.sn 2 (g' := (287, [some (.ref 96), some (.int l1), some (.int l2), some (.int 1), some (.int l4), some (.int l5), some (.int l6)], [.int ((rd r34 96 2) + 1), .ref 96], (h39, q))) rfl ?_
                        refine sW.putI rfl hs39 o96 rfl ?_
                        intro h40 hs40
                        refine mW.sn 1 (g' := (291, [some (.ref 96), some (.int l1), some (.int l2), some (.int 1), some (.int l4), some (.int l5), some (.int l6)], [.ref 96], (h40, q))) rfl ?_
                        cases hr41 : e_blanks (wr r34 96 2 ((rd r34 96 2) + 1)) with
                        | none => rw [hr41] at hv; cases hv
                        | some r41 =>
                          rw [hr41, o_bind] at hv
                          refine sW.call rfl rfl rfl rfl (hs40.rcv o96) (s168 hs40 hr41) ?_
                          intro h42 hs42
                          refine mW.sn 1 (g' := (43, [some (.ref 96), some (.int l1), some (.int l2), some (.int 1), some (.int l4), some (.int l5), some (.int l6)], [], (h42, q))) rfl ?_
                          exact hk43 _ _ _ _ _ _ _ _ _  hs42 hv
                      · rw [if_neg hc38] at hv
                        refine mW.sn 2 (g' := (234, [some (.ref 96), some (.int l1), some (.int l2), some (.int y3), some (.int l4), some (.int l5), some (.int l6)], [.ref 96, .ref 96], (h37, q))) rfl ?_
                        refine sW.getI rfl hs37 o96 rfl rfl ?_
                        refine sW.call rfl rfl rfl rfl (hs37.rcv o96) (s169 hs37 hr36) ?_
                        intro h43 hs43
                        refine mW.sn 1 (g' := (242, [some (.ref 96), some (.int l1), some (.int l2), some (.int y3), some (.int l4), some (.int l5), some (.int l6)], [.int 125, .int r36], (h43, q))) rfl ?_
                        refine mW.br (g1 := (254, [some (.ref 96), some (.int l1), some (.int l2), some (.int y3), some (.int l4), some (.int l5), some (.int l6)], [], (h43, q))) (g2 := (245, [some (.ref 96), some (.int l1), some (.int l2), some (.int y3), some (.int l4), some (.int l5), some (.int l6)], [], (h43, q))) (c := r36 = (125 : Int32)) rfl (fun hc44 => ?_) (fun hc44 => ?_)
                        · rw [if_pos hc44] at hv
                          refine mW.sn 2 (g' := (256, [some (.ref 96), some (.int l1), some (.int l2), some (.int y3), some (.int l4), some (.int l5), some (.int l6)], [.ref 96, .ref 96], (h43, q))) rfl ?_
                          refine sW.getI rfl hs43 o96 rfl rfl ?_
                          refine sW.call rfl rfl rfl rfl (hs43.rcv o96) (s169 hs43 hr36) ?_
                          intro h45 hs45
                          refine mW.sn 1 (g' := (264, [some (.ref 96), some (.int l1), some (.int l2), some (.int y3), some (.int l4), some (.int l5), some (.int l6)], [.int 44, .int r36], (h45, q))) rfl ?_
                          refine mW.no (g1 := (267, [some (.ref 96), some (.int l1), some (.int l2), some (.int y3), some (.int l4), some (.int l5), some (.int l6)], [], (h45, q))) (g2 := (271, [some (.ref 96), some (.int l1), some (.int l2), some (.int y3), some (.int l4), some (.int l5), some (.int l6)], [], (h45, q))) (c := r36 = (44 : Int32)) rfl hc38 ?_
                          refine mW.sn 3 (g' := (274, [some (.ref 96), some (.int l1), some (.int l2), some (.int 0), some (.int l4), some (.int l5), some (.int l6)], [.int 0], (h45, q))) rfl ?_
                          refine mW.yes (g1 := (277, [some (.ref 96), some (.int l1), some (.int l2), some (.int 0), some (.int l4), some (.int l5), some (.int l6)], [], (h45, q))) (g2 := (280, [some (.ref 96), some (.int l1), some (.int l2), some (.int 0), some (.int l4), some (.int l5), some (.int l6)], [], (h45, q))) (c := (0 : Int32) = 0) rfl (by decide) ?_
                          refine mW.sn 1 (g' := (43, [some (.ref 96), some (.int l1), some (.int l2), some (.int 0), some (.int l4), some (.int l5), some (.int l6)], [], (h45, q))) rfl ?_
                          exact hk43 _ _ _ _ _ _ _ _ _  hs45 hv
                        · rw [if_neg hc44] at hv
                          refine mW.sn 2 (g' := (247, [some (.ref 96), some (.int l1), some (.int l2), some (.int y3), some (.int l4), some (.int l5), some (.int l6)], [.ref 96, .ref 96], (h43, q))) rfl ?_
                          refine sW.getI rfl hs43 o96 rfl rfl ?_
                          cases hr46 : e_fail r34 (rd r34 96 2) with
                          | none => rw [hr46] at hv; cases hv
                          | some r46 =>
                            rw [hr46, o_bind] at hv
                            refine sW.call rfl rfl rfl rfl (hs43.rcv o96) (s172 hs43 hr46) ?_
                            intro h47 hs47
                            cases hv
                            exact sW.fin hs47 rfl
          · rw [if_neg hc27] at hv
            refine mW.sn 2 (g' := (182, [some (.ref 96), some (.int l1), some (.int l2), some (.int y3), some (.int l4), some (.int l5), some (.int l6)], [.ref 96, .ref 96], (h26, q))) rfl ?_
            refine sW.getI rfl hs26 o96 rfl rfl ?_
            cases hr48 : e_fail r23 (rd r23 96 2) with
            | none => rw [hr48] at hv; cases hv
            | some r48 =>
              rw [hr48, o_bind] at hv
              refine sW.call rfl rfl rfl rfl (hs26.rcv o96) (s172 hs26 hr48) ?_
              intro h49 hs49
              cases hv
              exact sW.fin hs49 rfl
    · rw [if_neg hc22] at hv
      refine mW.sn 1 (g' := (106, [some (.ref 96), some (.int l1), some (.int l2), some (.int y3), some (.int l4), some (.int l5), some (.int l6)], [.ref 96], (h, q))) rfl ?_
      by_cases hz50 : rd S 96 4 = 0
      · rw [if_pos hz50] at hv; cases hv
      rw [if_neg hz50] at hv
      refine sW.getU rfl hs o96 rfl hz50 ?_
      refine sW.getR rfl hs o90 rfl rfl ?_
      refine mW.sn 2 (g' := (115, [some (.ref 96), some (.int l1), some (.int l2), some (.int y3), some (.int l4), some (.int l5), some (.int l6)], [.ref 96, .int l6, .ref 91], (h, q))) rfl ?_
      refine sW.getU rfl hs o96 rfl hz50 ?_
      refine sW.getR rfl hs o90 rfl rfl ?_
      refine mW.sn 1 (g' := (123, [some (.ref 96), some (.int l1), some (.int l2), some (.int y3), some (.int l4), some (.int l5), some (.int l6)], [.int l5, .ref 91, .int l6, .ref 91], (h, q))) rfl ?_
      cases hr51 : r_strings (S 91) (S 91) l6 l5 with
      | none => rw [hr51] at hv; cases hv
      | some r51 =>
        rw [hr51, o_bind] at hv
        refine sW.call rfl rfl rfl rfl rfl (sW.of hs (x198 (hs.ar (by decide)) (hs.ar (by decide)) hr51)) ?_
        intro h52 hs52
        refine mW.br (g1 := (129, [some (.ref 96), some (.int l1), some (.int l2), some (.int y3), some (.int l4), some (.int l5), some (.int l6)], [], (h52, q))) (g2 := (136, [some (.ref 96), some (.int l1), some (.int l2), some (.int y3), some (.int l4), some (.int l5), some (.int l6)], [], (h52, q))) (c := r51 = 0) rfl (fun hc53 => ?_) (fun hc53 => ?_)
        · rw [if_pos hc53] at hv
          refine mW.sn 2 (g' := (132, [some (.ref 96), some (.int l1), some (.int l2), some (.int y3), some (.int l4), some (.int l5), some (.int l6)], [.int l4, .ref 96], (h52, q))) rfl ?_
          cases hr54 : e_fail S l4 with
          | none => rw [hr54] at hv; cases hv
          | some r54 =>
            rw [hr54, o_bind] at hv
            refine sW.call rfl rfl rfl rfl (hs52.rcv o96) (s172 hs52 hr54) ?_
            intro h55 hs55
            cases hv
            exact sW.fin hs55 rfl
        · rw [if_neg hc53] at hv
          refine mW.sn 1 (g' := (137, [some (.ref 96), some (.int l1), some (.int l2), some (.int y3), some (.int l4), some (.int l5), some (.int l6)], [.ref 96], (h52, q))) rfl ?_
          refine sW.getU rfl hs52 o96 rfl hz50 ?_
          refine sW.getR rfl hs52 o90 rfl rfl ?_
          refine mW.sn 1 (g' := (144, [some (.ref 96), some (.int l1), some (.int l2), some (.int y3), some (.int l4), some (.int l5), some (.int l6)], [.ref 96, .ref 91], (h52, q))) rfl ?_
          refine sW.getU rfl hs52 o96 rfl hz50 ?_
          refine sW.getR rfl hs52 o90 rfl rfl ?_
          refine mW.sn 1 (g' := (152, [some (.ref 96), some (.int l1), some (.int l2), some (.int y3), some (.int l4), some (.int l5), some (.int l6)], [.int l6, .ref 91, .ref 91], (h52, q))) rfl ?_
          cases hr56 : r_next (S 91) l6 with
          | none => rw [hr56] at hv; cases hv
          | some r56 =>
            rw [hr56, o_bind] at hv
            refine sW.call rfl rfl rfl rfl rfl (sW.of hs52 (x199 (hs52.ar (by decide)) hr56)) ?_
            intro h57 hs57
            cases hr58 : r_next (S 91) r56 with
            | none => rw [hr58] at hv; cases hv
            | some r58 =>
              rw [hr58, o_bind] at hv
              refine sW.call rfl rfl rfl rfl rfl (sW.of hs57 (x199 (hs57.ar (by decide)) hr58)) ?_
              intro h59 hs59
              refine mW.sn 2 (g' := (98, [some (.ref 96), some (.int l1), some (.int l2), some (.int y3), some (.int l4), some (.int l5), some (.int r58)], [], (h59, q))) rfl ?_
              exact ih _ _ _ _ _ _ _ _ _  hs59 hv
def e_object_l43 (rec : SS → Int32 → Option (SS × Int32)) : Nat → SS → Int32 → Int32 → Int32 → Option (SS × Int32)
  | 0, _, _, _, _ => none
  | n + 1, S, l1, l2, l3 => (if l3 = 0 then (if rd (wr S 96 2 ((rd S 96 2) + 1)) 96 4 = 0 then none else ((q_close (wr S 96 2 ((rd S 96 2) + 1)) l2).bind fun r13 => some (r13, 1))) else (if rd S 96 4 = 0 then none else ((e_at S (rd S 96 2)).bind fun r16 => (if r16 = (34 : Int32) then ((e_string S).bind fun r19 => (if r19.2 = 0 then some (r19.1, 0) else e_object_l98 rec (e_object_l43 rec n) 10000 r19.1 l1 l2 (rd S 96 2) (rd S 90 1) (l2 + 2))) else ((e_fail S (rd S 96 2)).bind fun r60 => some (r60.1, r60.2 &&& 1))))))
theorem e_object_l43_ok {rec : SS → Int32 → Option (SS × Int32)} (hrec : ∀ (e : Nat), d ≤ e → ∀ (h : mH) (S : SS) (p0 : Int32) (v : SS × Int32), cs h S → rec S p0 = some v → mW e mm170 (0, [some (.ref 96), some (.int p0), none], [], (h, q)) (mQ q v.1 (some (.int v.2)))) : ∀ (n : Nat), ∀ (h : mH) (S : SS) (l1 : Int32) (l2 : Int32) (l3 : Int32) (x4 : Option Value) (x5 : Option Value) (x6 : Option Value) (v : SS × Int32), cs h S → e_object_l43 rec n S l1 l2 l3 = some v → mW (d + 6) mm197 (43, [some (.ref 96), some (.int l1), some (.int l2), some (.int l3), x4, x5, x6], [], (h, q)) (mQ q v.1 (some (.int v.2))) := by
  intro n
  induction n with
  | zero => intro h S l1 l2 l3 x4 x5 x6 v hs hv; cases hv
  | succ n ih =>
    intro h S l1 l2 l3 x4 x5 x6 v hs hv
    unfold e_object_l43 at hv
    refine mW.sn 1 (g' := (44, [some (.ref 96), some (.int l1), some (.int l2), some (.int l3), x4, x5, x6], [.int l3], (h, q))) rfl ?_
    refine mW.br (g1 := (297, [some (.ref 96), some (.int l1), some (.int l2), some (.int l3), x4, x5, x6], [], (h, q))) (g2 := (47, [some (.ref 96), some (.int l1), some (.int l2), some (.int l3), x4, x5, x6], [], (h, q))) (c := l3 = 0) rfl (fun hc10 => ?_) (fun hc10 => ?_)
    · rw [if_pos hc10] at hv
      refine mW.sn 2 (g' := (299, [some (.ref 96), some (.int l1), some (.int l2), some (.int l3), x4, x5, x6], [.ref 96, .ref 96], (h, q))) rfl ?_
      refine sW.getI rfl hs o96 rfl rfl ?_
      refine mW.sn 2 (g' := (304, [some (.ref 96), some (.int l1), some (.int l2), some (.int l3), x4, x5, x6], [.int ((rd S 96 2) + 1), .ref 96], (h, q))) rfl ?_
      refine sW.putI rfl hs o96 rfl ?_
      intro h11 hs11
      refine mW.sn 1 (g' := (308, [some (.ref 96), some (.int l1), some (.int l2), some (.int l3), x4, x5, x6], [.ref 96], (h11, q))) rfl ?_
      by_cases hz12 : rd (wr S 96 2 ((rd S 96 2) + 1)) 96 4 = 0
      · rw [if_pos hz12] at hv; cases hv
      rw [if_neg hz12] at hv
      refine sW.getU rfl hs11 o96 rfl hz12 ?_
      refine mW.sn 1 (g' := (312, [some (.ref 96), some (.int l1), some (.int l2), some (.int l3), x4, x5, x6], [.int l2, .ref 90], (h11, q))) rfl ?_
      cases hr13 : q_close (wr S 96 2 ((rd S 96 2) + 1)) l2 with
      | none => rw [hr13] at hv; cases hv
      | some r13 =>
        rw [hr13, o_bind] at hv
        refine sW.call rfl rfl rfl rfl (hs11.rcv o90) (s176 hs11 hr13) ?_
        intro h14 hs14
        refine mW.sn 1 (g' := (316, [some (.ref 96), some (.int l1), some (.int l2), some (.int l3), x4, x5, x6], [.int 1], (h14, q))) rfl ?_
        cases hv
        exact sW.fin hs14 rfl
    · rw [if_neg hc10] at hv
      refine mW.sn 1 (g' := (48, [some (.ref 96), some (.int l1), some (.int l2), some (.int l3), x4, x5, x6], [.ref 96], (h, q))) rfl ?_
      refine sW.getI rfl hs o96 rfl rfl ?_
      refine mW.sn 2 (g' := (54, [some (.ref 96), some (.int l1), some (.int l2), some (.int l3), some (.int (rd S 96 2)), x5, x6], [.ref 96], (h, q))) rfl ?_
      by_cases hz15 : rd S 96 4 = 0
      · rw [if_pos hz15] at hv; cases hv
      rw [if_neg hz15] at hv
      refine sW.getU rfl hs o96 rfl hz15 ?_
      refine sW.getI rfl hs o90 rfl rfl ?_
      refine mW.sn 3 (g' := (64, [some (.ref 96), some (.int l1), some (.int l2), some (.int l3), some (.int (rd S 96 2)), some (.int (rd S 90 1)), x6], [.ref 96, .ref 96], (h, q))) rfl ?_
      refine sW.getI rfl hs o96 rfl rfl ?_
      cases hr16 : e_at S (rd S 96 2) with
      | none => rw [hr16] at hv; cases hv
      | some r16 =>
        rw [hr16, o_bind] at hv
        refine sW.call rfl rfl rfl rfl (hs.rcv o96) (s169 hs hr16) ?_
        intro h17 hs17
        refine mW.sn 1 (g' := (72, [some (.ref 96), some (.int l1), some (.int l2), some (.int l3), some (.int (rd S 96 2)), some (.int (rd S 90 1)), x6], [.int 34, .int r16], (h17, q))) rfl ?_
        refine mW.br (g1 := (84, [some (.ref 96), some (.int l1), some (.int l2), some (.int l3), some (.int (rd S 96 2)), some (.int (rd S 90 1)), x6], [], (h17, q))) (g2 := (75, [some (.ref 96), some (.int l1), some (.int l2), some (.int l3), some (.int (rd S 96 2)), some (.int (rd S 90 1)), x6], [], (h17, q))) (c := r16 = (34 : Int32)) rfl (fun hc18 => ?_) (fun hc18 => ?_)
        · rw [if_pos hc18] at hv
          refine mW.sn 1 (g' := (85, [some (.ref 96), some (.int l1), some (.int l2), some (.int l3), some (.int (rd S 96 2)), some (.int (rd S 90 1)), x6], [.ref 96], (h17, q))) rfl ?_
          cases hr19 : e_string S with
          | none => rw [hr19] at hv; cases hv
          | some r19 =>
            rw [hr19, o_bind] at hv
            refine sW.call rfl rfl rfl rfl (hs17.rcv o96) (s177 hs17 hr19) ?_
            intro h20 hs20
            refine mW.br (g1 := (91, [some (.ref 96), some (.int l1), some (.int l2), some (.int l3), some (.int (rd S 96 2)), some (.int (rd S 90 1)), x6], [], (h20, q))) (g2 := (93, [some (.ref 96), some (.int l1), some (.int l2), some (.int l3), some (.int (rd S 96 2)), some (.int (rd S 90 1)), x6], [], (h20, q))) (c := r19.2 = 0) rfl (fun hc21 => ?_) (fun hc21 => ?_)
            · rw [if_pos hc21] at hv
              refine mW.sn 1 (g' := (92, [some (.ref 96), some (.int l1), some (.int l2), some (.int l3), some (.int (rd S 96 2)), some (.int (rd S 90 1)), x6], [.int 0], (h20, q))) rfl ?_
              cases hv
              exact sW.fin hs20 rfl
            · rw [if_neg hc21] at hv
              refine mW.sn 4 (g' := (98, [some (.ref 96), some (.int l1), some (.int l2), some (.int l3), some (.int (rd S 96 2)), some (.int (rd S 90 1)), some (.int (l2 + 2))], [], (h20, q))) rfl ?_
              exact e_object_l98_ok hrec ih _ _ _ _ _ _ _ _ _ _  hs20 hv
        · rw [if_neg hc18] at hv
          refine mW.sn 2 (g' := (77, [some (.ref 96), some (.int l1), some (.int l2), some (.int l3), some (.int (rd S 96 2)), some (.int (rd S 90 1)), x6], [.ref 96, .ref 96], (h17, q))) rfl ?_
          refine sW.getI rfl hs17 o96 rfl rfl ?_
          cases hr60 : e_fail S (rd S 96 2) with
          | none => rw [hr60] at hv; cases hv
          | some r60 =>
            rw [hr60, o_bind] at hv
            refine sW.call rfl rfl rfl rfl (hs17.rcv o96) (s172 hs17 hr60) ?_
            intro h61 hs61
            cases hv
            exact sW.fin hs61 rfl
def e_object (S : SS) (rec : SS → Int32 → Option (SS × Int32)) (p0 : Int32) : Option (SS × Int32) := (if rd S 96 4 = 0 then none else ((q_open S 6).bind fun r2 => ((e_blanks (wr r2.1 96 2 ((rd r2.1 96 2) + 1))).bind fun r5 => ((e_at r5 (rd r5 96 2)).bind fun r7 => (if r7 = (125 : Int32) then e_object_l43 rec 10000 r5 p0 r2.2 0 else e_object_l43 rec 10000 r5 p0 r2.2 1)))))
theorem s197 {S : SS} {rec : SS → Int32 → Option (SS × Int32)} (hrec : ∀ (e : Nat), d ≤ e → ∀ (h : mH) (S : SS) (p0 : Int32) (v : SS × Int32), cs h S → rec S p0 = some v → mW e mm170 (0, [some (.ref 96), some (.int p0), none], [], (h, q)) (mQ q v.1 (some (.int v.2)))) {p0 : Int32} {v : SS × Int32} (hs : cs h S) (hv : e_object S rec p0 = some v) : mW (d + 6) mm197 (0, [some (.ref 96), some (.int p0), none, none, none, none, none], [], (h, q)) (mQ q v.1 (some (.int v.2))) := by
  unfold e_object at hv
  refine mW.sn 1 (g' := (1, [some (.ref 96), some (.int p0), none, none, none, none, none], [.ref 96], (h, q))) rfl ?_
  by_cases hz1 : rd S 96 4 = 0
  · rw [if_pos hz1] at hv; cases hv
  rw [if_neg hz1] at hv
  refine sW.getU rfl hs o96 rfl hz1 ?_
  refine mW.sn 1 (g' := (6, [some (.ref 96), some (.int p0), none, none, none, none, none], [.int 6, .ref 90], (h, q))) rfl ?_
  cases hr2 : q_open S 6 with
  | none => rw [hr2] at hv; cases hv
  | some r2 =>
    rw [hr2, o_bind] at hv
    refine sW.call rfl rfl rfl rfl (hs.rcv o90) (s174 hs hr2) ?_
    intro h3 hs3
    refine mW.sn 3 (g' := (12, [some (.ref 96), some (.int p0), some (.int r2.2), none, none, none, none], [.ref 96, .ref 96], (h3, q))) rfl ?_
    refine sW.getI rfl hs3 o96 rfl rfl ?_
    refine mW.sn 2 (g' := (17, [some (.ref 96), some (.int p0), some (.int r2.2), none, none, none, none], [.int ((rd r2.1 96 2) + 1), .ref 96], (h3, q))) rfl ?_
    refine sW.putI rfl hs3 o96 rfl ?_
    intro h4 hs4
    refine mW.sn 1 (g' := (21, [some (.ref 96), some (.int p0), some (.int r2.2), none, none, none, none], [.ref 96], (h4, q))) rfl ?_
    cases hr5 : e_blanks (wr r2.1 96 2 ((rd r2.1 96 2) + 1)) with
    | none => rw [hr5] at hv; cases hv
    | some r5 =>
      rw [hr5, o_bind] at hv
      refine sW.call rfl rfl rfl rfl (hs4.rcv o96) (s168 hs4 hr5) ?_
      intro h6 hs6
      refine mW.sn 2 (g' := (26, [some (.ref 96), some (.int p0), some (.int r2.2), none, none, none, none], [.ref 96, .ref 96], (h6, q))) rfl ?_
      refine sW.getI rfl hs6 o96 rfl rfl ?_
      cases hr7 : e_at r5 (rd r5 96 2) with
      | none => rw [hr7] at hv; cases hv
      | some r7 =>
        rw [hr7, o_bind] at hv
        refine sW.call rfl rfl rfl rfl (hs6.rcv o96) (s169 hs6 hr7) ?_
        intro h8 hs8
        refine mW.sn 1 (g' := (34, [some (.ref 96), some (.int p0), some (.int r2.2), none, none, none, none], [.int 125, .int r7], (h8, q))) rfl ?_
        refine mW.br (g1 := (41, [some (.ref 96), some (.int p0), some (.int r2.2), none, none, none, none], [], (h8, q))) (g2 := (37, [some (.ref 96), some (.int p0), some (.int r2.2), none, none, none, none], [], (h8, q))) (c := r7 = (125 : Int32)) rfl (fun hc9 => ?_) (fun hc9 => ?_)
        · rw [if_pos hc9] at hv
          refine mW.sn 2 (g' := (43, [some (.ref 96), some (.int p0), some (.int r2.2), some (.int 0), none, none, none], [], (h8, q))) rfl ?_
          exact e_object_l43_ok hrec _ _ _ _ _ _ _ _ _ _  hs8 hv
        · rw [if_neg hc9] at hv
          refine mW.sn 3 (g' := (43, [some (.ref 96), some (.int p0), some (.int r2.2), some (.int 1), none, none, none], [], (h8, q))) rfl ?_
          exact e_object_l43_ok hrec _ _ _ _ _ _ _ _ _ _  hs8 hv
def e_valueB (S : SS) (rec : SS → Int32 → Option (SS × Int32)) (p0 : Int32) : Option (SS × Int32) := ((e_at S (rd S 96 2)).bind fun r1 => (if r1 = (110 : Int32) then ((e_word S k19 0).bind fun r4 => some (r4.1, r4.2 &&& 1)) else (if r1 = (102 : Int32) then ((e_word S k21 1).bind fun r7 => some (r7.1, r7.2 &&& 1)) else (if r1 = (116 : Int32) then ((e_word S k23 2).bind fun r10 => some (r10.1, r10.2 &&& 1)) else (if r1 = (34 : Int32) then ((e_string S).bind fun r13 => some (r13.1, r13.2 &&& 1)) else (if r1 = (91 : Int32) then (if (40 : Int32) ≤ p0 then ((e_fail S (rd S 96 2)).bind fun r17 => some (r17.1, r17.2 &&& 1)) else ((e_array S rec p0).bind fun r19 => some (r19.1, r19.2 &&& 1))) else (if r1 = (123 : Int32) then (if (40 : Int32) ≤ p0 then ((e_fail S (rd S 96 2)).bind fun r23 => some (r23.1, r23.2 &&& 1)) else ((e_object S rec p0).bind fun r25 => some (r25.1, r25.2 &&& 1))) else ((e_number S).bind fun r27 => some (r27.1, r27.2 &&& 1)))))))))
theorem s170 {S : SS} {rec : SS → Int32 → Option (SS × Int32)} (hrec : ∀ (e : Nat), d ≤ e → ∀ (h : mH) (S : SS) (p0 : Int32) (v : SS × Int32), cs h S → rec S p0 = some v → mW e mm170 (0, [some (.ref 96), some (.int p0), none], [], (h, q)) (mQ q v.1 (some (.int v.2)))) {p0 : Int32} {v : SS × Int32} (hs : cs h S) (hv : e_valueB S rec p0 = some v) : mW (d + 7) mm170 (0, [some (.ref 96), some (.int p0), none], [], (h, q)) (mQ q v.1 (some (.int v.2))) := by
  unfold e_valueB at hv
  refine mW.sn 2 (g' := (2, [some (.ref 96), some (.int p0), none], [.ref 96, .ref 96], (h, q))) rfl ?_
  refine sW.getI rfl hs o96 rfl rfl ?_
  cases hr1 : e_at S (rd S 96 2) with
  | none => rw [hr1] at hv; cases hv
  | some r1 =>
    rw [hr1, o_bind] at hv
    refine sW.call rfl rfl rfl rfl (hs.rcv o96) (s169 hs hr1) ?_
    intro h2 hs2
    refine mW.sn 3 (g' := (12, [some (.ref 96), some (.int p0), some (.int r1)], [.int 110, .int r1], (h2, q))) rfl ?_
    refine mW.br (g1 := (15, [some (.ref 96), some (.int p0), some (.int r1)], [], (h2, q))) (g2 := (23, [some (.ref 96), some (.int p0), some (.int r1)], [], (h2, q))) (c := r1 = (110 : Int32)) rfl (fun hc3 => ?_) (fun hc3 => ?_)
    · rw [if_pos hc3] at hv
      refine mW.sn 3 (g' := (19, [some (.ref 96), some (.int p0), some (.int r1)], [.int 0, .ref 19, .ref 96], (h2, q))) rfl ?_
      cases hr4 : e_word S k19 0 with
      | none => rw [hr4] at hv; cases hv
      | some r4 =>
        rw [hr4, o_bind] at hv
        refine sW.call rfl rfl rfl rfl (hs2.rcv o96) (s171 m19 hs2 hr4) ?_
        intro h5 hs5
        cases hv
        exact sW.fin hs5 rfl
    · rw [if_neg hc3] at hv
      refine mW.sn 2 (g' := (26, [some (.ref 96), some (.int p0), some (.int r1)], [.int 102, .int r1], (h2, q))) rfl ?_
      refine mW.br (g1 := (29, [some (.ref 96), some (.int p0), some (.int r1)], [], (h2, q))) (g2 := (37, [some (.ref 96), some (.int p0), some (.int r1)], [], (h2, q))) (c := r1 = (102 : Int32)) rfl (fun hc6 => ?_) (fun hc6 => ?_)
      · rw [if_pos hc6] at hv
        refine mW.sn 3 (g' := (33, [some (.ref 96), some (.int p0), some (.int r1)], [.int 1, .ref 21, .ref 96], (h2, q))) rfl ?_
        cases hr7 : e_word S k21 1 with
        | none => rw [hr7] at hv; cases hv
        | some r7 =>
          rw [hr7, o_bind] at hv
          refine sW.call rfl rfl rfl rfl (hs2.rcv o96) (s171 m21 hs2 hr7) ?_
          intro h8 hs8
          cases hv
          exact sW.fin hs8 rfl
      · rw [if_neg hc6] at hv
        refine mW.sn 2 (g' := (40, [some (.ref 96), some (.int p0), some (.int r1)], [.int 116, .int r1], (h2, q))) rfl ?_
        refine mW.br (g1 := (43, [some (.ref 96), some (.int p0), some (.int r1)], [], (h2, q))) (g2 := (51, [some (.ref 96), some (.int p0), some (.int r1)], [], (h2, q))) (c := r1 = (116 : Int32)) rfl (fun hc9 => ?_) (fun hc9 => ?_)
        · rw [if_pos hc9] at hv
          refine mW.sn 3 (g' := (47, [some (.ref 96), some (.int p0), some (.int r1)], [.int 2, .ref 23, .ref 96], (h2, q))) rfl ?_
          cases hr10 : e_word S k23 2 with
          | none => rw [hr10] at hv; cases hv
          | some r10 =>
            rw [hr10, o_bind] at hv
            refine sW.call rfl rfl rfl rfl (hs2.rcv o96) (s171 m23 hs2 hr10) ?_
            intro h11 hs11
            cases hv
            exact sW.fin hs11 rfl
        · rw [if_neg hc9] at hv
          refine mW.sn 2 (g' := (54, [some (.ref 96), some (.int p0), some (.int r1)], [.int 34, .int r1], (h2, q))) rfl ?_
          refine mW.br (g1 := (57, [some (.ref 96), some (.int p0), some (.int r1)], [], (h2, q))) (g2 := (62, [some (.ref 96), some (.int p0), some (.int r1)], [], (h2, q))) (c := r1 = (34 : Int32)) rfl (fun hc12 => ?_) (fun hc12 => ?_)
          · rw [if_pos hc12] at hv
            refine mW.sn 1 (g' := (58, [some (.ref 96), some (.int p0), some (.int r1)], [.ref 96], (h2, q))) rfl ?_
            cases hr13 : e_string S with
            | none => rw [hr13] at hv; cases hv
            | some r13 =>
              rw [hr13, o_bind] at hv
              refine sW.call rfl rfl rfl rfl (hs2.rcv o96) (s177 hs2 hr13) ?_
              intro h14 hs14
              cases hv
              exact sW.fin hs14 rfl
          · rw [if_neg hc12] at hv
            refine mW.sn 2 (g' := (65, [some (.ref 96), some (.int p0), some (.int r1)], [.int 91, .int r1], (h2, q))) rfl ?_
            refine mW.br (g1 := (68, [some (.ref 96), some (.int p0), some (.int r1)], [], (h2, q))) (g2 := (91, [some (.ref 96), some (.int p0), some (.int r1)], [], (h2, q))) (c := r1 = (91 : Int32)) rfl (fun hc15 => ?_) (fun hc15 => ?_)
            · rw [if_pos hc15] at hv
              refine mW.sn 2 (g' := (71, [some (.ref 96), some (.int p0), some (.int r1)], [.int 40, .int p0], (h2, q))) rfl ?_
              refine mW.br (g1 := (82, [some (.ref 96), some (.int p0), some (.int r1)], [], (h2, q))) (g2 := (74, [some (.ref 96), some (.int p0), some (.int r1)], [], (h2, q))) (c := (40 : Int32) ≤ p0) rfl (fun hc16 => ?_) (fun hc16 => ?_)
              · rw [if_pos hc16] at hv
                refine mW.sn 2 (g' := (84, [some (.ref 96), some (.int p0), some (.int r1)], [.ref 96, .ref 96], (h2, q))) rfl ?_
                refine sW.getI rfl hs2 o96 rfl rfl ?_
                cases hr17 : e_fail S (rd S 96 2) with
                | none => rw [hr17] at hv; cases hv
                | some r17 =>
                  rw [hr17, o_bind] at hv
                  refine sW.call rfl rfl rfl rfl (hs2.rcv o96) (s172 hs2 hr17) ?_
                  intro h18 hs18
                  cases hv
                  exact sW.fin hs18 rfl
              · rw [if_neg hc16] at hv
                refine mW.sn 2 (g' := (76, [some (.ref 96), some (.int p0), some (.int r1)], [.int p0, .ref 96], (h2, q))) rfl ?_
                cases hr19 : e_array S rec p0 with
                | none => rw [hr19] at hv; cases hv
                | some r19 =>
                  rw [hr19, o_bind] at hv
                  refine sW.call rfl rfl rfl rfl (hs2.rcv o96) (s196 (fun e he => hrec e (by omega)) hs2 hr19) ?_
                  intro h20 hs20
                  refine mW.sn 1 (g' := (90, [some (.ref 96), some (.int p0), some (.int r1)], [.int r19.2], (h20, q))) rfl ?_
                  cases hv
                  exact sW.fin hs20 rfl
            · rw [if_neg hc15] at hv
              refine mW.sn 2 (g' := (94, [some (.ref 96), some (.int p0), some (.int r1)], [.int 123, .int r1], (h2, q))) rfl ?_
              refine mW.br (g1 := (97, [some (.ref 96), some (.int p0), some (.int r1)], [], (h2, q))) (g2 := (120, [some (.ref 96), some (.int p0), some (.int r1)], [], (h2, q))) (c := r1 = (123 : Int32)) rfl (fun hc21 => ?_) (fun hc21 => ?_)
              · rw [if_pos hc21] at hv
                refine mW.sn 2 (g' := (100, [some (.ref 96), some (.int p0), some (.int r1)], [.int 40, .int p0], (h2, q))) rfl ?_
                refine mW.br (g1 := (111, [some (.ref 96), some (.int p0), some (.int r1)], [], (h2, q))) (g2 := (103, [some (.ref 96), some (.int p0), some (.int r1)], [], (h2, q))) (c := (40 : Int32) ≤ p0) rfl (fun hc22 => ?_) (fun hc22 => ?_)
                · rw [if_pos hc22] at hv
                  refine mW.sn 2 (g' := (113, [some (.ref 96), some (.int p0), some (.int r1)], [.ref 96, .ref 96], (h2, q))) rfl ?_
                  refine sW.getI rfl hs2 o96 rfl rfl ?_
                  cases hr23 : e_fail S (rd S 96 2) with
                  | none => rw [hr23] at hv; cases hv
                  | some r23 =>
                    rw [hr23, o_bind] at hv
                    refine sW.call rfl rfl rfl rfl (hs2.rcv o96) (s172 hs2 hr23) ?_
                    intro h24 hs24
                    cases hv
                    exact sW.fin hs24 rfl
                · rw [if_neg hc22] at hv
                  refine mW.sn 2 (g' := (105, [some (.ref 96), some (.int p0), some (.int r1)], [.int p0, .ref 96], (h2, q))) rfl ?_
                  cases hr25 : e_object S rec p0 with
                  | none => rw [hr25] at hv; cases hv
                  | some r25 =>
                    rw [hr25, o_bind] at hv
                    refine sW.call rfl rfl rfl rfl (hs2.rcv o96) (s197 (fun e he => hrec e (by omega)) hs2 hr25) ?_
                    intro h26 hs26
                    refine mW.sn 1 (g' := (119, [some (.ref 96), some (.int p0), some (.int r1)], [.int r25.2], (h26, q))) rfl ?_
                    cases hv
                    exact sW.fin hs26 rfl
              · rw [if_neg hc21] at hv
                refine mW.sn 1 (g' := (121, [some (.ref 96), some (.int p0), some (.int r1)], [.ref 96], (h2, q))) rfl ?_
                cases hr27 : e_number S with
                | none => rw [hr27] at hv; cases hv
                | some r27 =>
                  rw [hr27, o_bind] at hv
                  refine sW.call rfl rfl rfl rfl (hs2.rcv o96) (s200 hs2 hr27) ?_
                  intro h28 hs28
                  cases hv
                  exact sW.fin hs28 rfl
def e_value : Nat → SS → Int32 → Option (SS × Int32)
  | 0, _, _ => none
  | n + 1, S, p0 => e_valueB S (e_value n) p0
theorem e_value_ok : ∀ (n e : Nat), 7 * n ≤ e → ∀ (h : mH) (S : SS) (p0 : Int32) (v : SS × Int32), cs h S → e_value n S p0 = some v → mW e mm170 (0, [some (.ref 96), some (.int p0), none], [], (h, q)) (mQ q v.1 (some (.int v.2))) := by
  intro n
  induction n with
  | zero => intro e he h S p0 v  hs hv; cases hv
  | succ n ih =>
    intro e he h S p0 v  hs hv
    have := s170 (d := e - 7) (q := q)  (rec := e_value n) (fun e' he' => ih e' (by omega)) hs hv
    rw [show e = e - 7 + 7 by omega]
    exact this
def e_read (S : SS) (aa : Nat) (p0 : Int32) : Option (SS × Int32) := ((e_blanks (wr (wr (wr (wr (wr S 96 0 (Int32.ofNat aa)) 96 1 p0) 96 2 0) 96 4 90) 96 3 (-1))).bind fun r6 => ((e_value 64 r6 0).bind fun r8 => (if r8.2 = 0 then some (r8.1, rd r8.1 96 3) else ((e_blanks r8.1).bind fun r11 => (if (rd r11 96 1) ≤ (rd r11 96 2) then some (r11, rd r11 96 3) else some (wr r11 96 3 (rd r11 96 2), rd (wr r11 96 3 (rd r11 96 2)) 96 3))))))
theorem s167 {S : SS} {aa : Nat} (haa : aa ∈ shW) {p0 : Int32} {v : SS × Int32} (hs : cs h S) (hv : e_read S aa p0 = some v) : mW (d + 449) mm167 (0, [some (.ref 96), some (.ref aa), some (.int p0), some (.ref 90)], [], (h, q)) (mQ q v.1 (some (.int v.2))) := by
  unfold e_read at hv
  refine mW.sn 2 (g' := (2, [some (.ref 96), some (.ref aa), some (.int p0), some (.ref 90)], [.ref aa, .ref 96], (h, q))) rfl ?_
  refine sW.putA rfl hs o96 rfl haa ?_
  intro h1 hs1
  refine mW.sn 2 (g' := (7, [some (.ref 96), some (.ref aa), some (.int p0), some (.ref 90)], [.int p0, .ref 96], (h1, q))) rfl ?_
  refine sW.putI rfl hs1 o96 rfl ?_
  intro h2 hs2
  refine mW.sn 2 (g' := (12, [some (.ref 96), some (.ref aa), some (.int p0), some (.ref 90)], [.int 0, .ref 96], (h2, q))) rfl ?_
  refine sW.putI rfl hs2 o96 rfl ?_
  intro h3 hs3
  refine mW.sn 2 (g' := (17, [some (.ref 96), some (.ref aa), some (.int p0), some (.ref 90)], [.ref 90, .ref 96], (h3, q))) rfl ?_
  refine sW.putU rfl hs3 o96 rfl ?_
  intro h4 hs4
  refine mW.sn 2 (g' := (22, [some (.ref 96), some (.ref aa), some (.int p0), some (.ref 90)], [.int (-1), .ref 96], (h4, q))) rfl ?_
  refine sW.putI rfl hs4 o96 rfl ?_
  intro h5 hs5
  refine mW.sn 1 (g' := (26, [some (.ref 96), some (.ref aa), some (.int p0), some (.ref 90)], [.ref 96], (h5, q))) rfl ?_
  cases hr6 : e_blanks (wr (wr (wr (wr (wr S 96 0 (Int32.ofNat aa)) 96 1 p0) 96 2 0) 96 4 90) 96 3 (-1)) with
  | none => rw [hr6] at hv; cases hv
  | some r6 =>
    rw [hr6, o_bind] at hv
    refine sW.call rfl rfl rfl rfl (hs5.rcv o96) (s168 hs5 hr6) ?_
    intro h7 hs7
    refine mW.sn 2 (g' := (31, [some (.ref 96), some (.ref aa), some (.int p0), some (.ref 90)], [.int 0, .ref 96], (h7, q))) rfl ?_
    cases hr8 : e_value 64 r6 0 with
    | none => rw [hr8] at hv; cases hv
    | some r8 =>
      rw [hr8, o_bind] at hv
      refine sW.call rfl rfl rfl rfl (hs7.rcv o96) (e_value_ok 64 _ (by omega) _ _ _ _  hs7 hr8) ?_
      intro h9 hs9
      refine mW.br (g1 := (60, [some (.ref 96), some (.ref aa), some (.int p0), some (.ref 90)], [], (h9, q))) (g2 := (37, [some (.ref 96), some (.ref aa), some (.int p0), some (.ref 90)], [], (h9, q))) (c := r8.2 = 0) rfl (fun hc10 => ?_) (fun hc10 => ?_)
      · rw [if_pos hc10] at hv
        refine mW.sn 1 (g' := (61, [some (.ref 96), some (.ref aa), some (.int p0), some (.ref 90)], [.ref 96], (h9, q))) rfl ?_
        refine sW.getI rfl hs9 o96 rfl rfl ?_
        cases hv
        exact sW.fin hs9 rfl
      · rw [if_neg hc10] at hv
        refine mW.sn 1 (g' := (38, [some (.ref 96), some (.ref aa), some (.int p0), some (.ref 90)], [.ref 96], (h9, q))) rfl ?_
        cases hr11 : e_blanks r8.1 with
        | none => rw [hr11] at hv; cases hv
        | some r11 =>
          rw [hr11, o_bind] at hv
          refine sW.call rfl rfl rfl rfl (hs9.rcv o96) (s168 hs9 hr11) ?_
          intro h12 hs12
          refine mW.sn 1 (g' := (42, [some (.ref 96), some (.ref aa), some (.int p0), some (.ref 90)], [.ref 96], (h12, q))) rfl ?_
          refine sW.getI rfl hs12 o96 rfl rfl ?_
          refine mW.sn 1 (g' := (46, [some (.ref 96), some (.ref aa), some (.int p0), some (.ref 90)], [.ref 96, .int (rd r11 96 2)], (h12, q))) rfl ?_
          refine sW.getI rfl hs12 o96 rfl rfl ?_
          refine mW.br (g1 := (60, [some (.ref 96), some (.ref aa), some (.int p0), some (.ref 90)], [], (h12, q))) (g2 := (52, [some (.ref 96), some (.ref aa), some (.int p0), some (.ref 90)], [], (h12, q))) (c := (rd r11 96 1) ≤ (rd r11 96 2)) rfl (fun hc13 => ?_) (fun hc13 => ?_)
          · rw [if_pos hc13] at hv
            refine mW.sn 1 (g' := (61, [some (.ref 96), some (.ref aa), some (.int p0), some (.ref 90)], [.ref 96], (h12, q))) rfl ?_
            refine sW.getI rfl hs12 o96 rfl rfl ?_
            cases hv
            exact sW.fin hs12 rfl
          · rw [if_neg hc13] at hv
            refine mW.sn 2 (g' := (54, [some (.ref 96), some (.ref aa), some (.int p0), some (.ref 90)], [.ref 96, .ref 96], (h12, q))) rfl ?_
            refine sW.getI rfl hs12 o96 rfl rfl ?_
            refine sW.putI rfl hs12 o96 rfl ?_
            intro h14 hs14
            refine mW.sn 1 (g' := (61, [some (.ref 96), some (.ref aa), some (.int p0), some (.ref 90)], [.ref 96], (h14, q))) rfl ?_
            refine sW.getI rfl hs14 o96 rfl rfl ?_
            cases hv
            exact sW.fin hs14 rfl
end
