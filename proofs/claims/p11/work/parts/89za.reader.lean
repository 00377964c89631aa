/-! PRINTED BY wip/whole (dec2): the class's Reader, first half. -/
section
set_option maxRecDepth 4000
variable {d : Nat} {h : mH} {q : Nat × Nat}
def c_break (S : SS) (p0 : Int32) : Option (SS) := (if (rd S 68 3) = (-1 : Int32) then some (wr S 68 3 p0) else some S)
theorem s41 {S : SS} {p0 : Int32} {v : SS} (hs : cs h S) (hv : c_break S p0 = some v) : mW d mm41 (0, [some (.ref 68), some (.int p0)], [], (h, q)) (mQ q v none) := by
  unfold c_break at hv
  refine mW.sn 1 (g' := (1, [some (.ref 68), some (.int p0)], [.ref 68], (h, q))) rfl ?_
  refine sW.getI rfl hs o68 rfl rfl ?_
  refine mW.sn 1 (g' := (5, [some (.ref 68), some (.int p0)], [.int (-1), .int (rd S 68 3)], (h, q))) rfl ?_
  refine mW.br (g1 := (8, [some (.ref 68), some (.int p0)], [], (h, q))) (g2 := (13, [some (.ref 68), some (.int p0)], [], (h, q))) (c := (rd S 68 3) = (-1 : Int32)) rfl (fun hc1 => ?_) (fun hc1 => ?_)
  · rw [if_pos hc1] at hv
    refine mW.sn 2 (g' := (10, [some (.ref 68), some (.int p0)], [.int p0, .ref 68], (h, q))) rfl ?_
    refine sW.putI rfl hs o68 rfl ?_
    intro h2 hs2
    cases hv
    exact sW.fin hs2 rfl
  · rw [if_neg hc1] at hv
    cases hv
    exact sW.fin hs rfl
def c_blanks_l0 : Nat → SS → Option (SS)
  | 0, _ => none
  | n + 1, S => (if (Int32.ofNat (tT S 42).length) ≤ (rd S 68 2) then some S else (if (sg_blank (tat (tT S 42) (rd S 68 2))) = 0 then some S else c_blanks_l0 n (wr S 68 2 ((rd S 68 2) + 1))))
theorem c_blanks_l0_ok : ∀ (n : Nat), ∀ (h : mH) (S : SS) (v : SS), cs h S → c_blanks_l0 n S = some v → mW (d + 1) mm36 (0, [some (.ref 68)], [], (h, q)) (mQ q v none) := by
  intro n
  induction n with
  | zero => intro h S v hs hv; cases hv
  | succ n ih =>
    intro h S v hs hv
    unfold c_blanks_l0 at hv
    refine mW.sn 1 (g' := (1, [some (.ref 68)], [.ref 68], (h, q))) rfl ?_
    refine sW.getI rfl hs o68 rfl rfl ?_
    refine mW.sn 1 (g' := (5, [some (.ref 68)], [.ref 68, .int (rd S 68 2)], (h, q))) rfl ?_
    refine sW.getR rfl hs o68 rfl rfl ?_
    refine sW.call rfl rfl rfl rfl (hs.rcvT (by decide)) (sW.of hs (x24 (hs.gtx (by decide)))) ?_
    intro h1 hs1
    refine mW.br (g1 := (44, [some (.ref 68)], [], (h1, q))) (g2 := (14, [some (.ref 68)], [], (h1, q))) (c := (Int32.ofNat (tT S 42).length) ≤ (rd S 68 2)) rfl (fun hc2 => ?_) (fun hc2 => ?_)
    · rw [if_pos hc2] at hv
      cases hv
      exact sW.fin hs1 rfl
    · rw [if_neg hc2] at hv
      refine mW.sn 1 (g' := (15, [some (.ref 68)], [.ref 68], (h1, q))) rfl ?_
      refine sW.getR rfl hs1 o68 rfl rfl ?_
      refine mW.sn 1 (g' := (19, [some (.ref 68)], [.ref 68, .ref 42], (h1, q))) rfl ?_
      refine sW.getI rfl hs1 o68 rfl rfl ?_
      refine sW.call rfl rfl rfl rfl (hs1.rcvT (by decide)) (sW.of hs1 (x37 (hs1.gtx (by decide)) (rd S 68 2))) ?_
      intro h3 hs3
      refine sW.call rfl rfl rfl rfl rfl (sW.of hs3 (x38 (tat (tT S 42) (rd S 68 2)))) ?_
      intro h4 hs4
      refine mW.br (g1 := (44, [some (.ref 68)], [], (h4, q))) (g2 := (31, [some (.ref 68)], [], (h4, q))) (c := (sg_blank (tat (tT S 42) (rd S 68 2))) = 0) rfl (fun hc5 => ?_) (fun hc5 => ?_)
      · rw [if_pos hc5] at hv
        cases hv
        exact sW.fin hs4 rfl
      · rw [if_neg hc5] at hv
        refine mW.sn 2 (g' := (33, [some (.ref 68)], [.ref 68, .ref 68], (h4, q))) rfl ?_
        refine sW.getI rfl hs4 o68 rfl rfl ?_
        refine mW.sn 2 (g' := (38, [some (.ref 68)], [.int ((rd S 68 2) + 1), .ref 68], (h4, q))) rfl ?_
        refine sW.putI rfl hs4 o68 rfl ?_
        intro h6 hs6
        refine mW.sn 1 (g' := (0, [some (.ref 68)], [], (h6, q))) rfl ?_
        exact ih _ _ _  hs6 hv
def c_blanks (S : SS) : Option (SS) := c_blanks_l0 10000 S
theorem s36 {S : SS} {v : SS} (hs : cs h S) (hv : c_blanks S = some v) : mW (d + 1) mm36 (0, [some (.ref 68)], [], (h, q)) (mQ q v none) := by
  unfold c_blanks at hv
  exact c_blanks_l0_ok _ _ _ _  hs hv
def c_take (S : SS) (p0 : Int32) : Option (SS) := (if (tat (tT S 42) (rd S 68 2)) = p0 then some (sput (wr S 68 2 ((rd S 68 2) + 1)) ((rd (wr S 68 2 ((rd S 68 2) + 1)) 68 1).toNatClampNeg) p0) else ((c_break S (rd S 68 2)).bind fun r5 => some r5))
theorem s42 {S : SS} {p0 : Int32} {v : SS} (hs : cs h S) (hv : c_take S p0 = some v) : mW (d + 1) mm42 (0, [some (.ref 68), some (.int p0)], [], (h, q)) (mQ q v none) := by
  unfold c_take at hv
  refine mW.sn 1 (g' := (1, [some (.ref 68), some (.int p0)], [.ref 68], (h, q))) rfl ?_
  refine sW.getR rfl hs o68 rfl rfl ?_
  refine mW.sn 1 (g' := (5, [some (.ref 68), some (.int p0)], [.ref 68, .ref 42], (h, q))) rfl ?_
  refine sW.getI rfl hs o68 rfl rfl ?_
  refine sW.call rfl rfl rfl rfl (hs.rcvT (by decide)) (sW.of hs (x37 (hs.gtx (by decide)) (rd S 68 2))) ?_
  intro h1 hs1
  refine mW.sn 1 (g' := (12, [some (.ref 68), some (.int p0)], [.int p0, .int (tat (tT S 42) (rd S 68 2))], (h1, q))) rfl ?_
  refine mW.br (g1 := (15, [some (.ref 68), some (.int p0)], [], (h1, q))) (g2 := (36, [some (.ref 68), some (.int p0)], [], (h1, q))) (c := (tat (tT S 42) (rd S 68 2)) = p0) rfl (fun hc2 => ?_) (fun hc2 => ?_)
  · rw [if_pos hc2] at hv
    refine mW.sn 2 (g' := (17, [some (.ref 68), some (.int p0)], [.ref 68, .ref 68], (h1, q))) rfl ?_
    refine sW.getI rfl hs1 o68 rfl rfl ?_
    refine mW.sn 2 (g' := (22, [some (.ref 68), some (.int p0)], [.int ((rd S 68 2) + 1), .ref 68], (h1, q))) rfl ?_
    refine sW.putI rfl hs1 o68 rfl ?_
    intro h3 hs3
    refine mW.sn 1 (g' := (26, [some (.ref 68), some (.int p0)], [.ref 68], (h3, q))) rfl ?_
    refine sW.getT rfl hs3 o68 rfl ?_
    refine mW.sn 1 (g' := (30, [some (.ref 68), some (.int p0)], [.int p0, .ref ((rd (wr S 68 2 ((rd S 68 2) + 1)) 68 1).toNatClampNeg)], (h3, q))) rfl ?_
    refine sW.call rfl rfl rfl rfl (hs3.rcvT (hs3.okT o68 rfl)) (s15 hs3 (hs3.okT o68 rfl)) ?_
    intro h4 hs4
    refine mW.sn 1 (g' := (44, [some (.ref 68), some (.int p0)], [], (h4, q))) rfl ?_
    cases hv
    exact sW.fin hs4 rfl
  · rw [if_neg hc2] at hv
    refine mW.sn 2 (g' := (38, [some (.ref 68), some (.int p0)], [.ref 68, .ref 68], (h1, q))) rfl ?_
    refine sW.getI rfl hs1 o68 rfl rfl ?_
    cases hr5 : c_break S (rd S 68 2) with
    | none => rw [hr5] at hv; cases hv
    | some r5 =>
      rw [hr5, o_bind] at hv
      refine sW.call rfl rfl rfl rfl (hs1.rcv o68) (s41 hs1 hr5) ?_
      intro h6 hs6
      cases hv
      exact sW.fin hs6 rfl
def c_fine (S : SS) : Option (Int32) := (if (rd S 68 3) = (-1 : Int32) then some 1 else some 0)
theorem s45 {S : SS} {v : Int32} (hs : cs h S) (hv : c_fine S = some v) : mW d mm45 (0, [some (.ref 68)], [], (h, q)) (mQ q S (some (.int v))) := by
  unfold c_fine at hv
  refine mW.sn 1 (g' := (1, [some (.ref 68)], [.ref 68], (h, q))) rfl ?_
  refine sW.getI rfl hs o68 rfl rfl ?_
  refine mW.sn 1 (g' := (5, [some (.ref 68)], [.int (-1), .int (rd S 68 3)], (h, q))) rfl ?_
  refine mW.br (g1 := (8, [some (.ref 68)], [], (h, q))) (g2 := (12, [some (.ref 68)], [], (h, q))) (c := (rd S 68 3) = (-1 : Int32)) rfl (fun hc1 => ?_) (fun hc1 => ?_)
  · rw [if_pos hc1] at hv
    refine mW.sn 2 (g' := (13, [some (.ref 68)], [.int 1], (h, q))) rfl ?_
    cases hv
    exact sW.fin hs rfl
  · rw [if_neg hc1] at hv
    refine mW.sn 1 (g' := (13, [some (.ref 68)], [.int 0], (h, q))) rfl ?_
    cases hv
    exact sW.fin hs rfl
def c_plain (S : SS) : Option (SS × Int32) := (if (tat (tT S 42) (rd S 68 2)) < (32 : Int32) then ((c_break S (rd S 68 2)).bind fun r3 => some (wr r3 68 2 ((rd r3 68 2) + 1), tat (tT S 42) (rd S 68 2))) else (if (tat (tT S 42) (rd S 68 2)) ≤ (126 : Int32) then some (wr S 68 2 ((rd S 68 2) + 1), tat (tT S 42) (rd S 68 2)) else ((c_break S (rd S 68 2)).bind fun r8 => some (wr r8 68 2 ((rd r8 68 2) + 1), tat (tT S 42) (rd S 68 2)))))
theorem s49 {S : SS} {v : SS × Int32} (hs : cs h S) (hv : c_plain S = some v) : mW (d + 1) mm49 (0, [some (.ref 68), none], [], (h, q)) (mQ q v.1 (some (.int v.2))) := by
  unfold c_plain at hv
  refine mW.sn 1 (g' := (1, [some (.ref 68), none], [.ref 68], (h, q))) rfl ?_
  refine sW.getR rfl hs o68 rfl rfl ?_
  refine mW.sn 1 (g' := (5, [some (.ref 68), none], [.ref 68, .ref 42], (h, q))) rfl ?_
  refine sW.getI rfl hs o68 rfl rfl ?_
  refine sW.call rfl rfl rfl rfl (hs.rcvT (by decide)) (sW.of hs (x37 (hs.gtx (by decide)) (rd S 68 2))) ?_
  intro h1 hs1
  refine mW.sn 3 (g' := (15, [some (.ref 68), some (.int (tat (tT S 42) (rd S 68 2)))], [.int 32, .int (tat (tT S 42) (rd S 68 2))], (h1, q))) rfl ?_
  refine mW.br (g1 := (24, [some (.ref 68), some (.int (tat (tT S 42) (rd S 68 2)))], [], (h1, q))) (g2 := (18, [some (.ref 68), some (.int (tat (tT S 42) (rd S 68 2)))], [], (h1, q))) (c := (tat (tT S 42) (rd S 68 2)) < (32 : Int32)) rfl (fun hc2 => ?_) (fun hc2 => ?_)
  · rw [if_pos hc2] at hv
    refine mW.sn 2 (g' := (26, [some (.ref 68), some (.int (tat (tT S 42) (rd S 68 2)))], [.ref 68, .ref 68], (h1, q))) rfl ?_
    refine sW.getI rfl hs1 o68 rfl rfl ?_
    cases hr3 : c_break S (rd S 68 2) with
    | none => rw [hr3] at hv; cases hv
    | some r3 =>
      rw [hr3, o_bind] at hv
      refine sW.call rfl rfl rfl rfl (hs1.rcv o68) (s41 hs1 hr3) ?_
      intro h4 hs4
      refine mW.sn 2 (g' := (34, [some (.ref 68), some (.int (tat (tT S 42) (rd S 68 2)))], [.ref 68, .ref 68], (h4, q))) rfl ?_
      refine sW.getI rfl hs4 o68 rfl rfl ?_
      refine mW.sn 2 (g' := (39, [some (.ref 68), some (.int (tat (tT S 42) (rd S 68 2)))], [.int ((rd r3 68 2) + 1), .ref 68], (h4, q))) rfl ?_
      refine sW.putI rfl hs4 o68 rfl ?_
      intro h5 hs5
      refine mW.sn 1 (g' := (43, [some (.ref 68), some (.int (tat (tT S 42) (rd S 68 2)))], [.int (tat (tT S 42) (rd S 68 2))], (h5, q))) rfl ?_
      cases hv
      exact sW.fin hs5 rfl
  · rw [if_neg hc2] at hv
    refine mW.sn 2 (g' := (21, [some (.ref 68), some (.int (tat (tT S 42) (rd S 68 2)))], [.int 126, .int (tat (tT S 42) (rd S 68 2))], (h1, q))) rfl ?_
    refine mW.br (g1 := (32, [some (.ref 68), some (.int (tat (tT S 42) (rd S 68 2)))], [], (h1, q))) (g2 := (24, [some (.ref 68), some (.int (tat (tT S 42) (rd S 68 2)))], [], (h1, q))) (c := (tat (tT S 42) (rd S 68 2)) ≤ (126 : Int32)) rfl (fun hc6 => ?_) (fun hc6 => ?_)
    · rw [if_pos hc6] at hv
      refine mW.sn 2 (g' := (34, [some (.ref 68), some (.int (tat (tT S 42) (rd S 68 2)))], [.ref 68, .ref 68], (h1, q))) rfl ?_
      refine sW.getI rfl hs1 o68 rfl rfl ?_
      refine mW.sn 2 (g' := (39, [some (.ref 68), some (.int (tat (tT S 42) (rd S 68 2)))], [.int ((rd S 68 2) + 1), .ref 68], (h1, q))) rfl ?_
      refine sW.putI rfl hs1 o68 rfl ?_
      intro h7 hs7
      refine mW.sn 1 (g' := (43, [some (.ref 68), some (.int (tat (tT S 42) (rd S 68 2)))], [.int (tat (tT S 42) (rd S 68 2))], (h7, q))) rfl ?_
      cases hv
      exact sW.fin hs7 rfl
    · rw [if_neg hc6] at hv
      refine mW.sn 2 (g' := (26, [some (.ref 68), some (.int (tat (tT S 42) (rd S 68 2)))], [.ref 68, .ref 68], (h1, q))) rfl ?_
      refine sW.getI rfl hs1 o68 rfl rfl ?_
      cases hr8 : c_break S (rd S 68 2) with
      | none => rw [hr8] at hv; cases hv
      | some r8 =>
        rw [hr8, o_bind] at hv
        refine sW.call rfl rfl rfl rfl (hs1.rcv o68) (s41 hs1 hr8) ?_
        intro h9 hs9
        refine mW.sn 2 (g' := (34, [some (.ref 68), some (.int (tat (tT S 42) (rd S 68 2)))], [.ref 68, .ref 68], (h9, q))) rfl ?_
        refine sW.getI rfl hs9 o68 rfl rfl ?_
        refine mW.sn 2 (g' := (39, [some (.ref 68), some (.int (tat (tT S 42) (rd S 68 2)))], [.int ((rd r8 68 2) + 1), .ref 68], (h9, q))) rfl ?_
        refine sW.putI rfl hs9 o68 rfl ?_
        intro h10 hs10
        refine mW.sn 1 (g' := (43, [some (.ref 68), some (.int (tat (tT S 42) (rd S 68 2)))], [.int (tat (tT S 42) (rd S 68 2))], (h10, q))) rfl ?_
        cases hv
        exact sW.fin hs10 rfl
def c_escape_l62 : Nat → SS → Int32 → Int32 → Int32 → Int32 → Option (SS × Int32)
  | 0, _, _, _, _, _ => none
  | n + 1, S, l1, l2, l3, l4 => (if (4 : Int32) ≤ l4 then (if l3 ≤ (127 : Int32) then some (S, l3) else ((c_break S l1).bind fun r6 => some (r6, l3))) else (if l2 = (117 : Int32) then ((c_fine S).bind fun r9 => (if r9 = 0 then (if l3 ≤ (127 : Int32) then some (S, l3) else ((c_break S l1).bind fun r13 => some (r13, l3))) else (if (sg_hexv (tat (tT S 42) (rd S 68 2))) = (-1 : Int32) then ((c_break S (rd S 68 2)).bind fun r18 => c_escape_l62 n (wr r18 68 2 ((rd r18 68 2) + 1)) l1 l2 ((l3 * 16) + (sg_hexv (tat (tT S 42) (rd S 68 2)))) (l4 + 1)) else c_escape_l62 n (wr S 68 2 ((rd S 68 2) + 1)) l1 l2 ((l3 * 16) + (sg_hexv (tat (tT S 42) (rd S 68 2)))) (l4 + 1)))) else (if l3 ≤ (127 : Int32) then some (S, l3) else ((c_break S l1).bind fun r23 => some (r23, l3)))))
theorem c_escape_l62_ok : ∀ (n : Nat), ∀ (h : mH) (S : SS) (l1 : Int32) (l2 : Int32) (l3 : Int32) (l4 : Int32) (x5 : Option Value) (v : SS × Int32), cs h S → c_escape_l62 n S l1 l2 l3 l4 = some v → mW (d + 1) mm46 (62, [some (.ref 68), some (.int l1), some (.int l2), some (.int l3), some (.int l4), x5], [], (h, q)) (mQ q v.1 (some (.int v.2))) := by
  intro n
  induction n with
  | zero => intro h S l1 l2 l3 l4 x5 v hs hv; cases hv
  | succ n ih =>
    intro h S l1 l2 l3 l4 x5 v hs hv
    unfold c_escape_l62 at hv
    refine mW.sn 2 (g' := (65, [some (.ref 68), some (.int l1), some (.int l2), some (.int l3), some (.int l4), x5], [.int 4, .int l4], (h, q))) rfl ?_
    refine mW.br (g1 := (135, [some (.ref 68), some (.int l1), some (.int l2), some (.int l3), some (.int l4), x5], [], (h, q))) (g2 := (68, [some (.ref 68), some (.int l1), some (.int l2), some (.int l3), some (.int l4), x5], [], (h, q))) (c := (4 : Int32) ≤ l4) rfl (fun hc4 => ?_) (fun hc4 => ?_)
    · rw [if_pos hc4] at hv
      refine mW.sn 2 (g' := (138, [some (.ref 68), some (.int l1), some (.int l2), some (.int l3), some (.int l4), x5], [.int 127, .int l3], (h, q))) rfl ?_
      refine mW.br (g1 := (146, [some (.ref 68), some (.int l1), some (.int l2), some (.int l3), some (.int l4), x5], [], (h, q))) (g2 := (141, [some (.ref 68), some (.int l1), some (.int l2), some (.int l3), some (.int l4), x5], [], (h, q))) (c := l3 ≤ (127 : Int32)) rfl (fun hc5 => ?_) (fun hc5 => ?_)
      · rw [if_pos hc5] at hv
        refine mW.sn 1 (g' := (147, [some (.ref 68), some (.int l1), some (.int l2), some (.int l3), some (.int l4), x5], [.int l3], (h, q))) rfl ?_
        cases hv
        exact sW.fin hs rfl
      · rw [if_neg hc5] at hv
        refine mW.sn 2 (g' := (143, [some (.ref 68), some (.int l1), some (.int l2), some (.int l3), some (.int l4), x5], [.int l1, .ref 68], (h, q))) rfl ?_
        cases hr6 : c_break S l1 with
        | none => rw [hr6] at hv; cases hv
        | some r6 =>
          rw [hr6, o_bind] at hv
          refine sW.call rfl rfl rfl rfl (hs.rcv o68) (s41 hs hr6) ?_
          intro h7 hs7
          refine mW.sn 1 (g' := (147, [some (.ref 68), some (.int l1), some (.int l2), some (.int l3), some (.int l4), x5], [.int l3], (h7, q))) rfl ?_
          cases hv
          exact sW.fin hs7 rfl
    · rw [if_neg hc4] at hv
      refine mW.sn 2 (g' := (71, [some (.ref 68), some (.int l1), some (.int l2), some (.int l3), some (.int l4), x5], [.int 117, .int l2], (h, q))) rfl ?_
      refine mW.br (g1 := (74, [some (.ref 68), some (.int l1), some (.int l2), some (.int l3), some (.int l4), x5], [], (h, q))) (g2 := (135, [some (.ref 68), some (.int l1), some (.int l2), some (.int l3), some (.int l4), x5], [], (h, q))) (c := l2 = (117 : Int32)) rfl (fun hc8 => ?_) (fun hc8 => ?_)
      · rw [if_pos hc8] at hv
        refine mW.sn 1 (g' := (75, [some (.ref 68), some (.int l1), some (.int l2), some (.int l3), some (.int l4), x5], [.ref 68], (h, q))) rfl ?_
        cases hr9 : c_fine S with
        | none => rw [hr9] at hv; cases hv
        | some r9 =>
          rw [hr9, o_bind] at hv
          refine sW.call rfl rfl rfl rfl (hs.rcv o68) (s45 hs hr9) ?_
          intro h10 hs10
          refine mW.br (g1 := (135, [some (.ref 68), some (.int l1), some (.int l2), some (.int l3), some (.int l4), x5], [], (h10, q))) (g2 := (81, [some (.ref 68), some (.int l1), some (.int l2), some (.int l3), some (.int l4), x5], [], (h10, q))) (c := r9 = 0) rfl (fun hc11 => ?_) (fun hc11 => ?_)
          · rw [if_pos hc11] at hv
            refine mW.sn 2 (g' := (138, [some (.ref 68), some (.int l1), some (.int l2), some (.int l3), some (.int l4), x5], [.int 127, .int l3], (h10, q))) rfl ?_
            refine mW.br (g1 := (146, [some (.ref 68), some (.int l1), some (.int l2), some (.int l3), some (.int l4), x5], [], (h10, q))) (g2 := (141, [some (.ref 68), some (.int l1), some (.int l2), some (.int l3), some (.int l4), x5], [], (h10, q))) (c := l3 ≤ (127 : Int32)) rfl (fun hc12 => ?_) (fun hc12 => ?_)
            · rw [if_pos hc12] at hv
              refine mW.sn 1 (g' := (147, [some (.ref 68), some (.int l1), some (.int l2), some (.int l3), some (.int l4), x5], [.int l3], (h10, q))) rfl ?_
              cases hv
              exact sW.fin hs10 rfl
            · rw [if_neg hc12] at hv
              refine mW.sn 2 (g' := (143, [some (.ref 68), some (.int l1), some (.int l2), some (.int l3), some (.int l4), x5], [.int l1, .ref 68], (h10, q))) rfl ?_
              cases hr13 : c_break S l1 with
              | none => rw [hr13] at hv; cases hv
              | some r13 =>
                rw [hr13, o_bind] at hv
                refine sW.call rfl rfl rfl rfl (hs10.rcv o68) (s41 hs10 hr13) ?_
                intro h14 hs14
                refine mW.sn 1 (g' := (147, [some (.ref 68), some (.int l1), some (.int l2), some (.int l3), some (.int l4), x5], [.int l3], (h14, q))) rfl ?_
                cases hv
                exact sW.fin hs14 rfl
          · rw [if_neg hc11] at hv
            refine mW.sn 1 (g' := (82, [some (.ref 68), some (.int l1), some (.int l2), some (.int l3), some (.int l4), x5], [.ref 68], (h10, q))) rfl ?_
            refine sW.getR rfl hs10 o68 rfl rfl ?_
            refine mW.sn 1 (g' := (86, [some (.ref 68), some (.int l1), some (.int l2), some (.int l3), some (.int l4), x5], [.ref 68, .ref 42], (h10, q))) rfl ?_
            refine sW.getI rfl hs10 o68 rfl rfl ?_
            refine sW.call rfl rfl rfl rfl (hs10.rcvT (by decide)) (sW.of hs10 (x37 (hs10.gtx (by decide)) (rd S 68 2))) ?_
            intro h15 hs15
            refine sW.call rfl rfl rfl rfl rfl (sW.of hs15 (x48 (tat (tT S 42) (rd S 68 2)))) ?_
            intro h16 hs16
            refine mW.sn 3 (g' := (100, [some (.ref 68), some (.int l1), some (.int l2), some (.int l3), some (.int l4), some (.int (sg_hexv (tat (tT S 42) (rd S 68 2))))], [.int (-1), .int (sg_hexv (tat (tT S 42) (rd S 68 2)))], (h16, q))) rfl ?_
            refine mW.br (g1 := (103, [some (.ref 68), some (.int l1), some (.int l2), some (.int l3), some (.int l4), some (.int (sg_hexv (tat (tT S 42) (rd S 68 2))))], [], (h16, q))) (g2 := (111, [some (.ref 68), some (.int l1), some (.int l2), some (.int l3), some (.int l4), some (.int (sg_hexv (tat (tT S 42) (rd S 68 2))))], [], (h16, q))) (c := (sg_hexv (tat (tT S 42) (rd S 68 2))) = (-1 : Int32)) rfl (fun hc17 => ?_) (fun hc17 => ?_)
            · rw [if_pos hc17] at hv
              refine mW.sn 2 (g' := (105, [some (.ref 68), some (.int l1), some (.int l2), some (.int l3), some (.int l4), some (.int (sg_hexv (tat (tT S 42) (rd S 68 2))))], [.ref 68, .ref 68], (h16, q))) rfl ?_
              refine sW.getI rfl hs16 o68 rfl rfl ?_
              cases hr18 : c_break S (rd S 68 2) with
              | none => rw [hr18] at hv; cases hv
              | some r18 =>
                rw [hr18, o_bind] at hv
                refine sW.call rfl rfl rfl rfl (hs16.rcv o68) (s41 hs16 hr18) ?_
                intro h19 hs19
                refine mW.sn 8 (g' := (121, [some (.ref 68), some (.int l1), some (.int l2), some (.int ((l3 * 16) + (sg_hexv (tat (tT S 42) (rd S 68 2))))), some (.int l4), some (.int (sg_hexv (tat (tT S 42) (rd S 68 2))))], [.ref 68, .ref 68], (h19, q))) rfl ?_
                refine sW.getI rfl hs19 o68 rfl rfl ?_
                refine mW.sn 2 (g' := (126, [some (.ref 68), some (.int l1), some (.int l2), some (.int ((l3 * 16) + (sg_hexv (tat (tT S 42) (rd S 68 2))))), some (.int l4), some (.int (sg_hexv (tat (tT S 42) (rd S 68 2))))], [.int ((rd r18 68 2) + 1), .ref 68], (h19, q))) rfl ?_
                refine sW.putI rfl hs19 o68 rfl ?_
                intro h20 hs20
                refine mW.sn 2 (g' := (62, [some (.ref 68), some (.int l1), some (.int l2), some (.int ((l3 * 16) + (sg_hexv (tat (tT S 42) (rd S 68 2))))), some (.int (l4 + 1)), some (.int (sg_hexv (tat (tT S 42) (rd S 68 2))))], [], (h20, q))) rfl ?_
                exact ih _ _ _ _ _ _ _ _  hs20 hv
            · rw [if_neg hc17] at hv
              refine mW.sn 8 (g' := (121, [some (.ref 68), some (.int l1), some (.int l2), some (.int ((l3 * 16) + (sg_hexv (tat (tT S 42) (rd S 68 2))))), some (.int l4), some (.int (sg_hexv (tat (tT S 42) (rd S 68 2))))], [.ref 68, .ref 68], (h16, q))) rfl ?_
              refine sW.getI rfl hs16 o68 rfl rfl ?_
              refine mW.sn 2 (g' := (126, [some (.ref 68), some (.int l1), some (.int l2), some (.int ((l3 * 16) + (sg_hexv (tat (tT S 42) (rd S 68 2))))), some (.int l4), some (.int (sg_hexv (tat (tT S 42) (rd S 68 2))))], [.int ((rd S 68 2) + 1), .ref 68], (h16, q))) rfl ?_
              refine sW.putI rfl hs16 o68 rfl ?_
              intro h21 hs21
              refine mW.sn 2 (g' := (62, [some (.ref 68), some (.int l1), some (.int l2), some (.int ((l3 * 16) + (sg_hexv (tat (tT S 42) (rd S 68 2))))), some (.int (l4 + 1)), some (.int (sg_hexv (tat (tT S 42) (rd S 68 2))))], [], (h21, q))) rfl ?_
              exact ih _ _ _ _ _ _ _ _  hs21 hv
      · rw [if_neg hc8] at hv
        refine mW.sn 2 (g' := (138, [some (.ref 68), some (.int l1), some (.int l2), some (.int l3), some (.int l4), x5], [.int 127, .int l3], (h, q))) rfl ?_
        refine mW.br (g1 := (146, [some (.ref 68), some (.int l1), some (.int l2), some (.int l3), some (.int l4), x5], [], (h, q))) (g2 := (141, [some (.ref 68), some (.int l1), some (.int l2), some (.int l3), some (.int l4), x5], [], (h, q))) (c := l3 ≤ (127 : Int32)) rfl (fun hc22 => ?_) (fun hc22 => ?_)
        · rw [if_pos hc22] at hv
          refine mW.sn 1 (g' := (147, [some (.ref 68), some (.int l1), some (.int l2), some (.int l3), some (.int l4), x5], [.int l3], (h, q))) rfl ?_
          cases hv
          exact sW.fin hs rfl
        · rw [if_neg hc22] at hv
          refine mW.sn 2 (g' := (143, [some (.ref 68), some (.int l1), some (.int l2), some (.int l3), some (.int l4), x5], [.int l1, .ref 68], (h, q))) rfl ?_
          cases hr23 : c_break S l1 with
          | none => rw [hr23] at hv; cases hv
          | some r23 =>
            rw [hr23, o_bind] at hv
            refine sW.call rfl rfl rfl rfl (hs.rcv o68) (s41 hs hr23) ?_
            intro h24 hs24
            refine mW.sn 1 (g' := (147, [some (.ref 68), some (.int l1), some (.int l2), some (.int l3), some (.int l4), x5], [.int l3], (h24, q))) rfl ?_
            cases hv
            exact sW.fin hs24 rfl
def c_escape (S : SS) : Option (SS × Int32) := (if (tat (tT S 42) ((rd S 68 2) + 1)) = (117 : Int32) then c_escape_l62 10000 (wr S 68 2 ((rd S 68 2) + 2)) (rd S 68 2) (tat (tT S 42) ((rd S 68 2) + 1)) 0 0 else (if (sg_meaning (tat (tT S 42) ((rd S 68 2) + 1))) = (-1 : Int32) then ((c_break S ((rd S 68 2) + 1)).bind fun r27 => c_escape_l62 10000 (wr r27 68 2 ((rd r27 68 2) + 2)) (rd S 68 2) (tat (tT S 42) ((rd S 68 2) + 1)) (sg_meaning (tat (tT S 42) ((rd S 68 2) + 1))) 0) else c_escape_l62 10000 (wr S 68 2 ((rd S 68 2) + 2)) (rd S 68 2) (tat (tT S 42) ((rd S 68 2) + 1)) (sg_meaning (tat (tT S 42) ((rd S 68 2) + 1))) 0))
theorem s46 {S : SS} {v : SS × Int32} (hs : cs h S) (hv : c_escape S = some v) : mW (d + 1) mm46 (0, [some (.ref 68), none, none, none, none, none], [], (h, q)) (mQ q v.1 (some (.int v.2))) := by
  unfold c_escape at hv
  refine mW.sn 1 (g' := (1, [some (.ref 68), none, none, none, none, none], [.ref 68], (h, q))) rfl ?_
  refine sW.getI rfl hs o68 rfl rfl ?_
  refine mW.sn 2 (g' := (6, [some (.ref 68), some (.int (rd S 68 2)), none, none, none, none], [.ref 68], (h, q))) rfl ?_
  refine sW.getR rfl hs o68 rfl rfl ?_
  refine mW.sn 1 (g' := (10, [some (.ref 68), some (.int (rd S 68 2)), none, none, none, none], [.ref 68, .ref 42], (h, q))) rfl ?_
  refine sW.getI rfl hs o68 rfl rfl ?_
  refine mW.sn 2 (g' := (15, [some (.ref 68), some (.int (rd S 68 2)), none, none, none, none], [.int ((rd S 68 2) + 1), .ref 42], (h, q))) rfl ?_
  refine sW.call rfl rfl rfl rfl (hs.rcvT (by decide)) (sW.of hs (x37 (hs.gtx (by decide)) ((rd S 68 2) + 1))) ?_
  intro h1 hs1
  refine mW.sn 3 (g' := (22, [some (.ref 68), some (.int (rd S 68 2)), some (.int (tat (tT S 42) ((rd S 68 2) + 1))), none, none, none], [.int 117, .int (tat (tT S 42) ((rd S 68 2) + 1))], (h1, q))) rfl ?_
  refine mW.br (g1 := (25, [some (.ref 68), some (.int (rd S 68 2)), some (.int (tat (tT S 42) ((rd S 68 2) + 1))), none, none, none], [], (h1, q))) (g2 := (29, [some (.ref 68), some (.int (rd S 68 2)), some (.int (tat (tT S 42) ((rd S 68 2) + 1))), none, none, none], [], (h1, q))) (c := (tat (tT S 42) ((rd S 68 2) + 1)) = (117 : Int32)) rfl (fun hc2 => ?_) (fun hc2 => ?_)
  · rw [if_pos hc2] at hv
    refine mW.sn 5 (g' := (36, [some (.ref 68), some (.int (rd S 68 2)), some (.int (tat (tT S 42) ((rd S 68 2) + 1))), some (.int 0), none, none], [.int (-1), .int 0], (h1, q))) rfl ?_
    refine mW.no (g1 := (39, [some (.ref 68), some (.int (rd S 68 2)), some (.int (tat (tT S 42) ((rd S 68 2) + 1))), some (.int 0), none, none], [], (h1, q))) (g2 := (49, [some (.ref 68), some (.int (rd S 68 2)), some (.int (tat (tT S 42) ((rd S 68 2) + 1))), some (.int 0), none, none], [], (h1, q))) (c := (0 : Int32) = (-1 : Int32)) rfl (by decide) ?_
    refine mW.sn 2 (g' := (51, [some (.ref 68), some (.int (rd S 68 2)), some (.int (tat (tT S 42) ((rd S 68 2) + 1))), some (.int 0), none, none], [.ref 68, .ref 68], (h1, q))) rfl ?_
    refine sW.getI rfl hs1 o68 rfl rfl ?_
    refine mW.sn 2 (g' := (56, [some (.ref 68), some (.int (rd S 68 2)), some (.int (tat (tT S 42) ((rd S 68 2) + 1))), some (.int 0), none, none], [.int ((rd S 68 2) + 2), .ref 68], (h1, q))) rfl ?_
    refine sW.putI rfl hs1 o68 rfl ?_
    intro h3 hs3
    refine mW.sn 2 (g' := (62, [some (.ref 68), some (.int (rd S 68 2)), some (.int (tat (tT S 42) ((rd S 68 2) + 1))), some (.int 0), some (.int 0), none], [], (h3, q))) rfl ?_
    exact c_escape_l62_ok _ _ _ _ _ _ _ _ _  hs3 hv
  · rw [if_neg hc2] at hv
    refine mW.sn 1 (g' := (30, [some (.ref 68), some (.int (rd S 68 2)), some (.int (tat (tT S 42) ((rd S 68 2) + 1))), none, none, none], [.int (tat (tT S 42) ((rd S 68 2) + 1))], (h1, q))) rfl ?_
    refine sW.call rfl rfl rfl rfl rfl (sW.of hs1 (x47 (tat (tT S 42) ((rd S 68 2) + 1)))) ?_
    intro h25 hs25
    refine mW.sn 3 (g' := (36, [some (.ref 68), some (.int (rd S 68 2)), some (.int (tat (tT S 42) ((rd S 68 2) + 1))), some (.int (sg_meaning (tat (tT S 42) ((rd S 68 2) + 1)))), none, none], [.int (-1), .int (sg_meaning (tat (tT S 42) ((rd S 68 2) + 1)))], (h25, q))) rfl ?_
    refine mW.br (g1 := (39, [some (.ref 68), some (.int (rd S 68 2)), some (.int (tat (tT S 42) ((rd S 68 2) + 1))), some (.int (sg_meaning (tat (tT S 42) ((rd S 68 2) + 1)))), none, none], [], (h25, q))) (g2 := (49, [some (.ref 68), some (.int (rd S 68 2)), some (.int (tat (tT S 42) ((rd S 68 2) + 1))), some (.int (sg_meaning (tat (tT S 42) ((rd S 68 2) + 1)))), none, none], [], (h25, q))) (c := (sg_meaning (tat (tT S 42) ((rd S 68 2) + 1))) = (-1 : Int32)) rfl (fun hc26 => ?_) (fun hc26 => ?_)
    · rw [if_pos hc26] at hv
      refine mW.sn 2 (g' := (41, [some (.ref 68), some (.int (rd S 68 2)), some (.int (tat (tT S 42) ((rd S 68 2) + 1))), some (.int (sg_meaning (tat (tT S 42) ((rd S 68 2) + 1)))), none, none], [.ref 68, .ref 68], (h25, q))) rfl ?_
      refine sW.getI rfl hs25 o68 rfl rfl ?_
      refine mW.sn 2 (g' := (46, [some (.ref 68), some (.int (rd S 68 2)), some (.int (tat (tT S 42) ((rd S 68 2) + 1))), some (.int (sg_meaning (tat (tT S 42) ((rd S 68 2) + 1)))), none, none], [.int ((rd S 68 2) + 1), .ref 68], (h25, q))) rfl ?_
      cases hr27 : c_break S ((rd S 68 2) + 1) with
      | none => rw [hr27] at hv; cases hv
      | some r27 =>
        rw [hr27, o_bind] at hv
        refine sW.call rfl rfl rfl rfl (hs25.rcv o68) (s41 hs25 hr27) ?_
        intro h28 hs28
        refine mW.sn 2 (g' := (51, [some (.ref 68), some (.int (rd S 68 2)), some (.int (tat (tT S 42) ((rd S 68 2) + 1))), some (.int (sg_meaning (tat (tT S 42) ((rd S 68 2) + 1)))), none, none], [.ref 68, .ref 68], (h28, q))) rfl ?_
        refine sW.getI rfl hs28 o68 rfl rfl ?_
        refine mW.sn 2 (g' := (56, [some (.ref 68), some (.int (rd S 68 2)), some (.int (tat (tT S 42) ((rd S 68 2) + 1))), some (.int (sg_meaning (tat (tT S 42) ((rd S 68 2) + 1)))), none, none], [.int ((rd r27 68 2) + 2), .ref 68], (h28, q))) rfl ?_
        refine sW.putI rfl hs28 o68 rfl ?_
        intro h29 hs29
        refine mW.sn 2 (g' := (62, [some (.ref 68), some (.int (rd S 68 2)), some (.int (tat (tT S 42) ((rd S 68 2) + 1))), some (.int (sg_meaning (tat (tT S 42) ((rd S 68 2) + 1)))), some (.int 0), none], [], (h29, q))) rfl ?_
        exact c_escape_l62_ok _ _ _ _ _ _ _ _ _  hs29 hv
    · rw [if_neg hc26] at hv
      refine mW.sn 2 (g' := (51, [some (.ref 68), some (.int (rd S 68 2)), some (.int (tat (tT S 42) ((rd S 68 2) + 1))), some (.int (sg_meaning (tat (tT S 42) ((rd S 68 2) + 1)))), none, none], [.ref 68, .ref 68], (h25, q))) rfl ?_
      refine sW.getI rfl hs25 o68 rfl rfl ?_
      refine mW.sn 2 (g' := (56, [some (.ref 68), some (.int (rd S 68 2)), some (.int (tat (tT S 42) ((rd S 68 2) + 1))), some (.int (sg_meaning (tat (tT S 42) ((rd S 68 2) + 1)))), none, none], [.int ((rd S 68 2) + 2), .ref 68], (h25, q))) rfl ?_
      refine sW.putI rfl hs25 o68 rfl ?_
      intro h30 hs30
      refine mW.sn 2 (g' := (62, [some (.ref 68), some (.int (rd S 68 2)), some (.int (tat (tT S 42) ((rd S 68 2) + 1))), some (.int (sg_meaning (tat (tT S 42) ((rd S 68 2) + 1)))), some (.int 0), none], [], (h30, q))) rfl ?_
      exact c_escape_l62_ok _ _ _ _ _ _ _ _ _  hs30 hv
def c_putChar (S : SS) (o : Nat) (p0 : Int32) : Option (SS) := (if (sg_letter p0) = (-1 : Int32) then (if p0 < (32 : Int32) then some (sput (sput (sput (sput (sput (sput S o 92) o 117) o 48) o 48) o (sg_hexd (p0 >>> (4 &&& 31)))) o (sg_hexd p0)) else (if (127 : Int32) ≤ p0 then some (sput (sput (sput (sput (sput (sput S o 92) o 117) o 48) o 48) o (sg_hexd (p0 >>> (4 &&& 31)))) o (sg_hexd p0)) else some (sput S o p0))) else some (sput (sput S o 92) o (sg_letter p0)))
theorem s50 {S : SS} {o : Nat} (ho : o ∈ shT) {p0 : Int32} {v : SS} (hs : cs h S) (hv : c_putChar S o p0 = some v) : mW (d + 1) mm50 (0, [some (.ref o), some (.int p0), none], [], (h, q)) (mQ q v none) := by
  unfold c_putChar at hv
  refine mW.sn 1 (g' := (1, [some (.ref o), some (.int p0), none], [.int p0], (h, q))) rfl ?_
  refine sW.call rfl rfl rfl rfl rfl (sW.of hs (x51 p0)) ?_
  intro h1 hs1
  refine mW.sn 3 (g' := (7, [some (.ref o), some (.int p0), some (.int (sg_letter p0))], [.int (-1), .int (sg_letter p0)], (h1, q))) rfl ?_
  refine mW.br (g1 := (24, [some (.ref o), some (.int p0), some (.int (sg_letter p0))], [], (h1, q))) (g2 := (10, [some (.ref o), some (.int p0), some (.int (sg_letter p0))], [], (h1, q))) (c := (sg_letter p0) = (-1 : Int32)) rfl (fun hc2 => ?_) (fun hc2 => ?_)
  · rw [if_pos hc2] at hv
    refine mW.sn 2 (g' := (27, [some (.ref o), some (.int p0), some (.int (sg_letter p0))], [.int 32, .int p0], (h1, q))) rfl ?_
    refine mW.br (g1 := (44, [some (.ref o), some (.int p0), some (.int (sg_letter p0))], [], (h1, q))) (g2 := (30, [some (.ref o), some (.int p0), some (.int (sg_letter p0))], [], (h1, q))) (c := p0 < (32 : Int32)) rfl (fun hc3 => ?_) (fun hc3 => ?_)
    · rw [if_pos hc3] at hv
      refine mW.sn 2 (g' := (47, [some (.ref o), some (.int p0), some (.int (sg_letter p0))], [.int 92, .ref o], (h1, q))) rfl ?_
      refine sW.call rfl rfl rfl rfl (hs1.rcvT ho) (s15 hs1 ho) ?_
      intro h4 hs4
      refine mW.sn 2 (g' := (53, [some (.ref o), some (.int p0), some (.int (sg_letter p0))], [.int 117, .ref o], (h4, q))) rfl ?_
      refine sW.call rfl rfl rfl rfl (hs4.rcvT ho) (s15 hs4 ho) ?_
      intro h5 hs5
      refine mW.sn 2 (g' := (59, [some (.ref o), some (.int p0), some (.int (sg_letter p0))], [.int 48, .ref o], (h5, q))) rfl ?_
      refine sW.call rfl rfl rfl rfl (hs5.rcvT ho) (s15 hs5 ho) ?_
      intro h6 hs6
      refine mW.sn 2 (g' := (65, [some (.ref o), some (.int p0), some (.int (sg_letter p0))], [.int 48, .ref o], (h6, q))) rfl ?_
      refine sW.call rfl rfl rfl rfl (hs6.rcvT ho) (s15 hs6 ho) ?_
      intro h7 hs7
      refine mW.sn 4 (g' := (72, [some (.ref o), some (.int p0), some (.int (sg_letter p0))], [.int (p0 >>> (4 &&& 31)), .ref o], (h7, q))) rfl ?_
      refine sW.call rfl rfl rfl rfl rfl (sW.of hs7 (x52 (p0 >>> (4 &&& 31)))) ?_
      intro h8 hs8
      refine sW.call rfl rfl rfl rfl (hs8.rcvT ho) (s15 hs8 ho) ?_
      intro h9 hs9
      refine mW.sn 2 (g' := (80, [some (.ref o), some (.int p0), some (.int (sg_letter p0))], [.int p0, .ref o], (h9, q))) rfl ?_
      refine sW.call rfl rfl rfl rfl rfl (sW.of hs9 (x52 p0)) ?_
      intro h10 hs10
      refine sW.call rfl rfl rfl rfl (hs10.rcvT ho) (s15 hs10 ho) ?_
      intro h11 hs11
      cases hv
      exact sW.fin hs11 rfl
    · rw [if_neg hc3] at hv
      refine mW.sn 2 (g' := (33, [some (.ref o), some (.int p0), some (.int (sg_letter p0))], [.int 127, .int p0], (h1, q))) rfl ?_
      refine mW.br (g1 := (44, [some (.ref o), some (.int p0), some (.int (sg_letter p0))], [], (h1, q))) (g2 := (36, [some (.ref o), some (.int p0), some (.int (sg_letter p0))], [], (h1, q))) (c := (127 : Int32) ≤ p0) rfl (fun hc12 => ?_) (fun hc12 => ?_)
      · rw [if_pos hc12] at hv
        refine mW.sn 2 (g' := (47, [some (.ref o), some (.int p0), some (.int (sg_letter p0))], [.int 92, .ref o], (h1, q))) rfl ?_
        refine sW.call rfl rfl rfl rfl (hs1.rcvT ho) (s15 hs1 ho) ?_
        intro h13 hs13
        refine mW.sn 2 (g' := (53, [some (.ref o), some (.int p0), some (.int (sg_letter p0))], [.int 117, .ref o], (h13, q))) rfl ?_
        refine sW.call rfl rfl rfl rfl (hs13.rcvT ho) (s15 hs13 ho) ?_
        intro h14 hs14
        refine mW.sn 2 (g' := (59, [some (.ref o), some (.int p0), some (.int (sg_letter p0))], [.int 48, .ref o], (h14, q))) rfl ?_
        refine sW.call rfl rfl rfl rfl (hs14.rcvT ho) (s15 hs14 ho) ?_
        intro h15 hs15
        refine mW.sn 2 (g' := (65, [some (.ref o), some (.int p0), some (.int (sg_letter p0))], [.int 48, .ref o], (h15, q))) rfl ?_
        refine sW.call rfl rfl rfl rfl (hs15.rcvT ho) (s15 hs15 ho) ?_
        intro h16 hs16
        refine mW.sn 4 (g' := (72, [some (.ref o), some (.int p0), some (.int (sg_letter p0))], [.int (p0 >>> (4 &&& 31)), .ref o], (h16, q))) rfl ?_
        refine sW.call rfl rfl rfl rfl rfl (sW.of hs16 (x52 (p0 >>> (4 &&& 31)))) ?_
        intro h17 hs17
        refine sW.call rfl rfl rfl rfl (hs17.rcvT ho) (s15 hs17 ho) ?_
        intro h18 hs18
        refine mW.sn 2 (g' := (80, [some (.ref o), some (.int p0), some (.int (sg_letter p0))], [.int p0, .ref o], (h18, q))) rfl ?_
        refine sW.call rfl rfl rfl rfl rfl (sW.of hs18 (x52 p0)) ?_
        intro h19 hs19
        refine sW.call rfl rfl rfl rfl (hs19.rcvT ho) (s15 hs19 ho) ?_
        intro h20 hs20
        cases hv
        exact sW.fin hs20 rfl
      · rw [if_neg hc12] at hv
        refine mW.sn 2 (g' := (38, [some (.ref o), some (.int p0), some (.int (sg_letter p0))], [.int p0, .ref o], (h1, q))) rfl ?_
        refine sW.call rfl rfl rfl rfl (hs1.rcvT ho) (s15 hs1 ho) ?_
        intro h21 hs21
        refine mW.sn 1 (g' := (86, [some (.ref o), some (.int p0), some (.int (sg_letter p0))], [], (h21, q))) rfl ?_
        cases hv
        exact sW.fin hs21 rfl
  · rw [if_neg hc2] at hv
    refine mW.sn 2 (g' := (13, [some (.ref o), some (.int p0), some (.int (sg_letter p0))], [.int 92, .ref o], (h1, q))) rfl ?_
    refine sW.call rfl rfl rfl rfl (hs1.rcvT ho) (s15 hs1 ho) ?_
    intro h22 hs22
    refine mW.sn 2 (g' := (18, [some (.ref o), some (.int p0), some (.int (sg_letter p0))], [.int (sg_letter p0), .ref o], (h22, q))) rfl ?_
    refine sW.call rfl rfl rfl rfl (hs22.rcvT ho) (s15 hs22 ho) ?_
    intro h23 hs23
    refine mW.sn 1 (g' := (86, [some (.ref o), some (.int p0), some (.int (sg_letter p0))], [], (h23, q))) rfl ?_
    cases hv
    exact sW.fin hs23 rfl
def c_string_l8 : Nat → SS → Int32 → Option (SS)
  | 0, _, _ => none
  | n + 1, S, l1 => (if (4096 : Int32) ≤ l1 then ((c_take S 34).bind fun r4 => some r4) else ((c_fine S).bind fun r6 => (if r6 = 0 then ((c_take S 34).bind fun r9 => some r9) else (if (tat (tT S 42) (rd S 68 2)) = (34 : Int32) then ((c_take S 34).bind fun r13 => some r13) else (if (tat (tT S 42) (rd S 68 2)) = (92 : Int32) then ((c_escape S).bind fun r17 => ((c_fine r17.1).bind fun r19 => (if r19 = 0 then c_string_l8 n r17.1 (l1 + 1) else ((c_putChar r17.1 ((rd r17.1 68 1).toNatClampNeg) r17.2).bind fun r22 => c_string_l8 n r22 (l1 + 1))))) else ((c_plain S).bind fun r24 => ((c_fine r24.1).bind fun r26 => (if r26 = 0 then c_string_l8 n r24.1 (l1 + 1) else ((c_putChar r24.1 ((rd r24.1 68 1).toNatClampNeg) r24.2).bind fun r29 => c_string_l8 n r29 (l1 + 1))))))))))
theorem c_string_l8_ok : ∀ (n : Nat), ∀ (h : mH) (S : SS) (l1 : Int32) (x2 : Option Value) (v : SS), cs h S → c_string_l8 n S l1 = some v → mW (d + 2) mm44 (8, [some (.ref 68), some (.int l1), x2], [], (h, q)) (mQ q v none) := by
  intro n
  induction n with
  | zero => intro h S l1 x2 v hs hv; cases hv
  | succ n ih =>
    intro h S l1 x2 v hs hv
    unfold c_string_l8 at hv
    refine mW.sn 2 (g' := (12, [some (.ref 68), some (.int l1), x2], [.int 4096, .int l1], (h, q))) rfl ?_
    refine mW.br (g1 := (87, [some (.ref 68), some (.int l1), x2], [], (h, q))) (g2 := (15, [some (.ref 68), some (.int l1), x2], [], (h, q))) (c := (4096 : Int32) ≤ l1) rfl (fun hc3 => ?_) (fun hc3 => ?_)
    · rw [if_pos hc3] at hv
      refine mW.sn 2 (g' := (90, [some (.ref 68), some (.int l1), x2], [.int 34, .ref 68], (h, q))) rfl ?_
      cases hr4 : c_take S 34 with
      | none => rw [hr4] at hv; cases hv
      | some r4 =>
        rw [hr4, o_bind] at hv
        refine sW.call rfl rfl rfl rfl (hs.rcv o68) (s42 hs hr4) ?_
        intro h5 hs5
        cases hv
        exact sW.fin hs5 rfl
    · rw [if_neg hc3] at hv
      refine mW.sn 1 (g' := (16, [some (.ref 68), some (.int l1), x2], [.ref 68], (h, q))) rfl ?_
      cases hr6 : c_fine S with
      | none => rw [hr6] at hv; cases hv
      | some r6 =>
        rw [hr6, o_bind] at hv
        refine sW.call rfl rfl rfl rfl (hs.rcv o68) (s45 hs hr6) ?_
        intro h7 hs7
        refine mW.br (g1 := (87, [some (.ref 68), some (.int l1), x2], [], (h7, q))) (g2 := (22, [some (.ref 68), some (.int l1), x2], [], (h7, q))) (c := r6 = 0) rfl (fun hc8 => ?_) (fun hc8 => ?_)
        · rw [if_pos hc8] at hv
          refine mW.sn 2 (g' := (90, [some (.ref 68), some (.int l1), x2], [.int 34, .ref 68], (h7, q))) rfl ?_
          cases hr9 : c_take S 34 with
          | none => rw [hr9] at hv; cases hv
          | some r9 =>
            rw [hr9, o_bind] at hv
            refine sW.call rfl rfl rfl rfl (hs7.rcv o68) (s42 hs7 hr9) ?_
            intro h10 hs10
            cases hv
            exact sW.fin hs10 rfl
        · rw [if_neg hc8] at hv
          refine mW.sn 1 (g' := (23, [some (.ref 68), some (.int l1), x2], [.ref 68], (h7, q))) rfl ?_
          refine sW.getR rfl hs7 o68 rfl rfl ?_
          refine mW.sn 1 (g' := (27, [some (.ref 68), some (.int l1), x2], [.ref 68, .ref 42], (h7, q))) rfl ?_
          refine sW.getI rfl hs7 o68 rfl rfl ?_
          refine sW.call rfl rfl rfl rfl (hs7.rcvT (by decide)) (sW.of hs7 (x37 (hs7.gtx (by decide)) (rd S 68 2))) ?_
          intro h11 hs11
          refine mW.sn 1 (g' := (35, [some (.ref 68), some (.int l1), x2], [.int 34, .int (tat (tT S 42) (rd S 68 2))], (h11, q))) rfl ?_
          refine mW.br (g1 := (87, [some (.ref 68), some (.int l1), x2], [], (h11, q))) (g2 := (38, [some (.ref 68), some (.int l1), x2], [], (h11, q))) (c := (tat (tT S 42) (rd S 68 2)) = (34 : Int32)) rfl (fun hc12 => ?_) (fun hc12 => ?_)
          · rw [if_pos hc12] at hv
            refine mW.sn 2 (g' := (90, [some (.ref 68), some (.int l1), x2], [.int 34, .ref 68], (h11, q))) rfl ?_
            cases hr13 : c_take S 34 with
            | none => rw [hr13] at hv; cases hv
            | some r13 =>
              rw [hr13, o_bind] at hv
              refine sW.call rfl rfl rfl rfl (hs11.rcv o68) (s42 hs11 hr13) ?_
              intro h14 hs14
              cases hv
              exact sW.fin hs14 rfl
          · rw [if_neg hc12] at hv
            refine mW.sn 1 (g' := (39, [some (.ref 68), some (.int l1), x2], [.ref 68], (h11, q))) rfl ?_
            refine sW.getR rfl hs11 o68 rfl rfl ?_
            refine mW.sn 1 (g' := (43, [some (.ref 68), some (.int l1), x2], [.ref 68, .ref 42], (h11, q))) rfl ?_
            refine sW.getI rfl hs11 o68 rfl rfl ?_
            refine sW.call rfl rfl rfl rfl (hs11.rcvT (by decide)) (sW.of hs11 (x37 (hs11.gtx (by decide)) (rd S 68 2))) ?_
            intro h15 hs15
            refine mW.sn 1 (g' := (51, [some (.ref 68), some (.int l1), x2], [.int 92, .int (tat (tT S 42) (rd S 68 2))], (h15, q))) rfl ?_
            refine mW.br (g1 := (54, [some (.ref 68), some (.int l1), x2], [], (h15, q))) (g2 := (61, [some (.ref 68), some (.int l1), x2], [], (h15, q))) (c := (tat (tT S 42) (rd S 68 2)) = (92 : Int32)) rfl (fun hc16 => ?_) (fun hc16 => ?_)
            · rw [if_pos hc16] at hv
              refine mW.sn 1 (g' := (55, [some (.ref 68), some (.int l1), x2], [.ref 68], (h15, q))) rfl ?_
              cases hr17 : c_escape S with
              | none => rw [hr17] at hv; cases hv
              | some r17 =>
                rw [hr17, o_bind] at hv
                refine sW.call rfl rfl rfl rfl (hs15.rcv o68) (s46 hs15 hr17) ?_
                intro h18 hs18
                refine mW.sn 3 (g' := (67, [some (.ref 68), some (.int l1), some (.int r17.2)], [.ref 68], (h18, q))) rfl ?_
                cases hr19 : c_fine r17.1 with
                | none => rw [hr19] at hv; cases hv
                | some r19 =>
                  rw [hr19, o_bind] at hv
                  refine sW.call rfl rfl rfl rfl (hs18.rcv o68) (s45 hs18 hr19) ?_
                  intro h20 hs20
                  refine mW.br (g1 := (81, [some (.ref 68), some (.int l1), some (.int r17.2)], [], (h20, q))) (g2 := (73, [some (.ref 68), some (.int l1), some (.int r17.2)], [], (h20, q))) (c := r19 = 0) rfl (fun hc21 => ?_) (fun hc21 => ?_)
                  · rw [if_pos hc21] at hv
                    refine mW.sn 2 (g' := (8, [some (.ref 68), some (.int (l1 + 1)), some (.int r17.2)], [], (h20, q))) rfl ?_
                    exact ih _ _ _ _ _  hs20 hv
                  · rw [if_neg hc21] at hv
                    refine mW.sn 1 (g' := (74, [some (.ref 68), some (.int l1), some (.int r17.2)], [.ref 68], (h20, q))) rfl ?_
                    refine sW.getT rfl hs20 o68 rfl ?_
                    refine mW.sn 1 (g' := (78, [some (.ref 68), some (.int l1), some (.int r17.2)], [.int r17.2, .ref ((rd r17.1 68 1).toNatClampNeg)], (h20, q))) rfl ?_
                    cases hr22 : c_putChar r17.1 ((rd r17.1 68 1).toNatClampNeg) r17.2 with
                    | none => rw [hr22] at hv; cases hv
                    | some r22 =>
                      rw [hr22, o_bind] at hv
                      refine sW.call rfl rfl rfl rfl (hs20.rcvT (hs20.okT o68 rfl)) (s50 (hs20.okT o68 rfl) hs20 hr22) ?_
                      intro h23 hs23
                      refine mW.sn 2 (g' := (8, [some (.ref 68), some (.int (l1 + 1)), some (.int r17.2)], [], (h23, q))) rfl ?_
                      exact ih _ _ _ _ _  hs23 hv
            · rw [if_neg hc16] at hv
              refine mW.sn 1 (g' := (62, [some (.ref 68), some (.int l1), x2], [.ref 68], (h15, q))) rfl ?_
              cases hr24 : c_plain S with
              | none => rw [hr24] at hv; cases hv
              | some r24 =>
                rw [hr24, o_bind] at hv
                refine sW.call rfl rfl rfl rfl (hs15.rcv o68) (s49 hs15 hr24) ?_
                intro h25 hs25
                refine mW.sn 2 (g' := (67, [some (.ref 68), some (.int l1), some (.int r24.2)], [.ref 68], (h25, q))) rfl ?_
                cases hr26 : c_fine r24.1 with
                | none => rw [hr26] at hv; cases hv
                | some r26 =>
                  rw [hr26, o_bind] at hv
                  refine sW.call rfl rfl rfl rfl (hs25.rcv o68) (s45 hs25 hr26) ?_
                  intro h27 hs27
                  refine mW.br (g1 := (81, [some (.ref 68), some (.int l1), some (.int r24.2)], [], (h27, q))) (g2 := (73, [some (.ref 68), some (.int l1), some (.int r24.2)], [], (h27, q))) (c := r26 = 0) rfl (fun hc28 => ?_) (fun hc28 => ?_)
                  · rw [if_pos hc28] at hv
                    refine mW.sn 2 (g' := (8, [some (.ref 68), some (.int (l1 + 1)), some (.int r24.2)], [], (h27, q))) rfl ?_
                    exact ih _ _ _ _ _  hs27 hv
                  · rw [if_neg hc28] at hv
                    refine mW.sn 1 (g' := (74, [some (.ref 68), some (.int l1), some (.int r24.2)], [.ref 68], (h27, q))) rfl ?_
                    refine sW.getT rfl hs27 o68 rfl ?_
                    refine mW.sn 1 (g' := (78, [some (.ref 68), some (.int l1), some (.int r24.2)], [.int r24.2, .ref ((rd r24.1 68 1).toNatClampNeg)], (h27, q))) rfl ?_
                    cases hr29 : c_putChar r24.1 ((rd r24.1 68 1).toNatClampNeg) r24.2 with
                    | none => rw [hr29] at hv; cases hv
                    | some r29 =>
                      rw [hr29, o_bind] at hv
                      refine sW.call rfl rfl rfl rfl (hs27.rcvT (hs27.okT o68 rfl)) (s50 (hs27.okT o68 rfl) hs27 hr29) ?_
                      intro h30 hs30
                      refine mW.sn 2 (g' := (8, [some (.ref 68), some (.int (l1 + 1)), some (.int r24.2)], [], (h30, q))) rfl ?_
                      exact ih _ _ _ _ _  hs30 hv
def c_string (S : SS) : Option (SS) := ((c_take S 34).bind fun r1 => c_string_l8 10000 r1 0)
theorem s44 {S : SS} {v : SS} (hs : cs h S) (hv : c_string S = some v) : mW (d + 2) mm44 (0, [some (.ref 68), none, none], [], (h, q)) (mQ q v none) := by
  unfold c_string at hv
  refine mW.sn 2 (g' := (3, [some (.ref 68), none, none], [.int 34, .ref 68], (h, q))) rfl ?_
  cases hr1 : c_take S 34 with
  | none => rw [hr1] at hv; cases hv
  | some r1 =>
    rw [hr1, o_bind] at hv
    refine sW.call rfl rfl rfl rfl (hs.rcv o68) (s42 hs hr1) ?_
    intro h2 hs2
    refine mW.sn 2 (g' := (8, [some (.ref 68), some (.int 0), none], [], (h2, q))) rfl ?_
    exact c_string_l8_ok _ _ _ _ _ _  hs2 hv
def c_wasThere_l7 (S : SS) : Nat → Int32 → Int32 → Int32 → Option (Int32)
  | 0, _, _, _ => none
  | n + 1, l2, l3, l4 => (if l2 ≤ l4 then some 0 else (if l2 ≤ l3 then some 0 else ((t_same (tT S ((rd S 68 1).toNatClampNeg)) (tT S ((rd S 68 1).toNatClampNeg)) l3 l2).bind fun r3 => (if r3 = 0 then ((t_itemEnd (tT S ((rd S 68 1).toNatClampNeg)) l3).bind fun r6 => c_wasThere_l7 S n l2 (r6 + 1) (l4 + 1)) else some 1))))
theorem c_wasThere_l7_ok {S : SS} : ∀ (n : Nat), ∀ (h : mH) (l2 : Int32) (l3 : Int32) (l4 : Int32) (y1 : Int32) (v : Int32), cs h S → c_wasThere_l7 S n l2 l3 l4 = some v → mW (d + 3) mm53 (7, [some (.ref 68), some (.int y1), some (.int l2), some (.int l3), some (.int l4)], [], (h, q)) (mQ q S (some (.int v))) := by
  intro n
  induction n with
  | zero => intro h l2 l3 l4 y1 v hs hv; cases hv
  | succ n ih =>
    intro h l2 l3 l4 y1 v hs hv
    unfold c_wasThere_l7 at hv
    refine mW.sn 2 (g' := (10, [some (.ref 68), some (.int y1), some (.int l2), some (.int l3), some (.int l4)], [.int l2, .int l4], (h, q))) rfl ?_
    refine mW.br (g1 := (53, [some (.ref 68), some (.int y1), some (.int l2), some (.int l3), some (.int l4)], [], (h, q))) (g2 := (13, [some (.ref 68), some (.int y1), some (.int l2), some (.int l3), some (.int l4)], [], (h, q))) (c := l2 ≤ l4) rfl (fun hc1 => ?_) (fun hc1 => ?_)
    · rw [if_pos hc1] at hv
      refine mW.sn 1 (g' := (54, [some (.ref 68), some (.int y1), some (.int l2), some (.int l3), some (.int l4)], [.int 0], (h, q))) rfl ?_
      cases hv
      exact sW.fin hs rfl
    · rw [if_neg hc1] at hv
      refine mW.sn 2 (g' := (15, [some (.ref 68), some (.int y1), some (.int l2), some (.int l3), some (.int l4)], [.int l2, .int l3], (h, q))) rfl ?_
      refine mW.br (g1 := (53, [some (.ref 68), some (.int y1), some (.int l2), some (.int l3), some (.int l4)], [], (h, q))) (g2 := (18, [some (.ref 68), some (.int y1), some (.int l2), some (.int l3), some (.int l4)], [], (h, q))) (c := l2 ≤ l3) rfl (fun hc2 => ?_) (fun hc2 => ?_)
      · rw [if_pos hc2] at hv
        refine mW.sn 1 (g' := (54, [some (.ref 68), some (.int y1), some (.int l2), some (.int l3), some (.int l4)], [.int 0], (h, q))) rfl ?_
        cases hv
        exact sW.fin hs rfl
      · rw [if_neg hc2] at hv
        refine mW.sn 1 (g' := (19, [some (.ref 68), some (.int y1), some (.int l2), some (.int l3), some (.int l4)], [.ref 68], (h, q))) rfl ?_
        refine sW.getT rfl hs o68 rfl ?_
        refine mW.sn 2 (g' := (24, [some (.ref 68), some (.int y1), some (.int l2), some (.int l3), some (.int l4)], [.ref 68, .int l3, .ref ((rd S 68 1).toNatClampNeg)], (h, q))) rfl ?_
        refine sW.getT rfl hs o68 rfl ?_
        refine mW.sn 1 (g' := (28, [some (.ref 68), some (.int y1), some (.int l2), some (.int l3), some (.int l4)], [.int l2, .ref ((rd S 68 1).toNatClampNeg), .int l3, .ref ((rd S 68 1).toNatClampNeg)], (h, q))) rfl ?_
        cases hr3 : t_same (tT S ((rd S 68 1).toNatClampNeg)) (tT S ((rd S 68 1).toNatClampNeg)) l3 l2 with
        | none => rw [hr3] at hv; cases hv
        | some r3 =>
          rw [hr3, o_bind] at hv
          refine sW.call rfl rfl rfl rfl (hs.rcvT (hs.okT o68 rfl)) (sW.of hs (x54 (hs.gtx (hs.okT o68 rfl)) (hs.gtx (hs.okT o68 rfl)) hr3)) ?_
          intro h4 hs4
          refine mW.br (g1 := (36, [some (.ref 68), some (.int y1), some (.int l2), some (.int l3), some (.int l4)], [], (h4, q))) (g2 := (34, [some (.ref 68), some (.int y1), some (.int l2), some (.int l3), some (.int l4)], [], (h4, q))) (c := r3 = 0) rfl (fun hc5 => ?_) (fun hc5 => ?_)
          · rw [if_pos hc5] at hv
            refine mW.sn 1 (g' := (37, [some (.ref 68), some (.int y1), some (.int l2), some (.int l3), some (.int l4)], [.ref 68], (h4, q))) rfl ?_
            refine sW.getT rfl hs4 o68 rfl ?_
            refine mW.sn 1 (g' := (41, [some (.ref 68), some (.int y1), some (.int l2), some (.int l3), some (.int l4)], [.int l3, .ref ((rd S 68 1).toNatClampNeg)], (h4, q))) rfl ?_
            cases hr6 : t_itemEnd (tT S ((rd S 68 1).toNatClampNeg)) l3 with
            | none => rw [hr6] at hv; cases hv
            | some r6 =>
              rw [hr6, o_bind] at hv
              refine sW.call rfl rfl rfl rfl (hs4.rcvT (hs4.okT o68 rfl)) (sW.of hs4 (x55 (hs4.gtx (hs4.okT o68 rfl)) hr6)) ?_
              intro h7 hs7
              refine mW.sn 5 (g' := (7, [some (.ref 68), some (.int y1), some (.int l2), some (.int (r6 + 1)), some (.int (l4 + 1))], [], (h7, q))) rfl ?_
              exact ih _ _ _ _ _ _  hs7 hv
          · rw [if_neg hc5] at hv
            refine mW.sn 1 (g' := (35, [some (.ref 68), some (.int y1), some (.int l2), some (.int l3), some (.int l4)], [.int 1], (h4, q))) rfl ?_
            cases hv
            exact sW.fin hs4 rfl
def c_wasThere (S : SS) (p0 : Int32) (p1 : Int32) : Option (Int32) := c_wasThere_l7 S 10000 p1 (p0 + 1) 0
theorem s53 {S : SS} {p0 : Int32} {p1 : Int32} {v : Int32} (hs : cs h S) (hv : c_wasThere S p0 p1 = some v) : mW (d + 3) mm53 (0, [some (.ref 68), some (.int p0), some (.int p1), none, none], [], (h, q)) (mQ q S (some (.int v))) := by
  unfold c_wasThere at hv
  refine mW.sn 6 (g' := (7, [some (.ref 68), some (.int p0), some (.int p1), some (.int (p0 + 1)), some (.int 0)], [], (h, q))) rfl ?_
  exact c_wasThere_l7_ok _ _ _ _ _ _ _  hs hv
def c_name (S : SS) (p0 : Int32) : Option (SS) := (if (tat (tT S 42) (rd S 68 2)) = (34 : Int32) then ((c_string S).bind fun r4 => ((c_fine r4).bind fun r6 => (if r6 = 0 then ((c_blanks r4).bind fun r9 => ((c_take r9 58).bind fun r11 => ((c_blanks r11).bind fun r13 => some r13))) else ((c_wasThere r4 p0 (Int32.ofNat (tT S ((rd S 68 1).toNatClampNeg)).length)).bind fun r15 => (if r15 = 0 then ((c_blanks r4).bind fun r18 => ((c_take r18 58).bind fun r20 => ((c_blanks r20).bind fun r22 => some r22))) else ((c_break r4 (rd S 68 2)).bind fun r24 => ((c_blanks r24).bind fun r26 => ((c_take r26 58).bind fun r28 => ((c_blanks r28).bind fun r30 => some r30))))))))) else ((c_break S (rd S 68 2)).bind fun r32 => some r32))
theorem s43 {S : SS} {p0 : Int32} {v : SS} (hs : cs h S) (hv : c_name S p0 = some v) : mW (d + 4) mm43 (0, [some (.ref 68), some (.int p0), none, none], [], (h, q)) (mQ q v none) := by
  unfold c_name at hv
  refine mW.sn 1 (g' := (1, [some (.ref 68), some (.int p0), none, none], [.ref 68], (h, q))) rfl ?_
  refine sW.getI rfl hs o68 rfl rfl ?_
  refine mW.sn 2 (g' := (6, [some (.ref 68), some (.int p0), some (.int (rd S 68 2)), none], [.ref 68], (h, q))) rfl ?_
  refine sW.getT rfl hs o68 rfl ?_
  refine sW.call rfl rfl rfl rfl (hs.rcvT (hs.okT o68 rfl)) (sW.of hs (x24 (hs.gtx (hs.okT o68 rfl)))) ?_
  intro h1 hs1
  refine mW.sn 2 (g' := (14, [some (.ref 68), some (.int p0), some (.int (rd S 68 2)), some (.int (Int32.ofNat (tT S ((rd S 68 1).toNatClampNeg)).length))], [.ref 68], (h1, q))) rfl ?_
  refine sW.getR rfl hs1 o68 rfl rfl ?_
  refine mW.sn 1 (g' := (18, [some (.ref 68), some (.int p0), some (.int (rd S 68 2)), some (.int (Int32.ofNat (tT S ((rd S 68 1).toNatClampNeg)).length))], [.ref 68, .ref 42], (h1, q))) rfl ?_
  refine sW.getI rfl hs1 o68 rfl rfl ?_
  refine sW.call rfl rfl rfl rfl (hs1.rcvT (by decide)) (sW.of hs1 (x37 (hs1.gtx (by decide)) (rd S 68 2))) ?_
  intro h2 hs2
  refine mW.sn 1 (g' := (26, [some (.ref 68), some (.int p0), some (.int (rd S 68 2)), some (.int (Int32.ofNat (tT S ((rd S 68 1).toNatClampNeg)).length))], [.int 34, .int (tat (tT S 42) (rd S 68 2))], (h2, q))) rfl ?_
  refine mW.br (g1 := (38, [some (.ref 68), some (.int p0), some (.int (rd S 68 2)), some (.int (Int32.ofNat (tT S ((rd S 68 1).toNatClampNeg)).length))], [], (h2, q))) (g2 := (29, [some (.ref 68), some (.int p0), some (.int (rd S 68 2)), some (.int (Int32.ofNat (tT S ((rd S 68 1).toNatClampNeg)).length))], [], (h2, q))) (c := (tat (tT S 42) (rd S 68 2)) = (34 : Int32)) rfl (fun hc3 => ?_) (fun hc3 => ?_)
  · rw [if_pos hc3] at hv
    refine mW.sn 1 (g' := (39, [some (.ref 68), some (.int p0), some (.int (rd S 68 2)), some (.int (Int32.ofNat (tT S ((rd S 68 1).toNatClampNeg)).length))], [.ref 68], (h2, q))) rfl ?_
    cases hr4 : c_string S with
    | none => rw [hr4] at hv; cases hv
    | some r4 =>
      rw [hr4, o_bind] at hv
      refine sW.call rfl rfl rfl rfl (hs2.rcv o68) (s44 hs2 hr4) ?_
      intro h5 hs5
      refine mW.sn 1 (g' := (43, [some (.ref 68), some (.int p0), some (.int (rd S 68 2)), some (.int (Int32.ofNat (tT S ((rd S 68 1).toNatClampNeg)).length))], [.ref 68], (h5, q))) rfl ?_
      cases hr6 : c_fine r4 with
      | none => rw [hr6] at hv; cases hv
      | some r6 =>
        rw [hr6, o_bind] at hv
        refine sW.call rfl rfl rfl rfl (hs5.rcv o68) (s45 hs5 hr6) ?_
        intro h7 hs7
        refine mW.br (g1 := (63, [some (.ref 68), some (.int p0), some (.int (rd S 68 2)), some (.int (Int32.ofNat (tT S ((rd S 68 1).toNatClampNeg)).length))], [], (h7, q))) (g2 := (49, [some (.ref 68), some (.int p0), some (.int (rd S 68 2)), some (.int (Int32.ofNat (tT S ((rd S 68 1).toNatClampNeg)).length))], [], (h7, q))) (c := r6 = 0) rfl (fun hc8 => ?_) (fun hc8 => ?_)
        · rw [if_pos hc8] at hv
          refine mW.sn 1 (g' := (64, [some (.ref 68), some (.int p0), some (.int (rd S 68 2)), some (.int (Int32.ofNat (tT S ((rd S 68 1).toNatClampNeg)).length))], [.ref 68], (h7, q))) rfl ?_
          cases hr9 : c_blanks r4 with
          | none => rw [hr9] at hv; cases hv
          | some r9 =>
            rw [hr9, o_bind] at hv
            refine sW.call rfl rfl rfl rfl (hs7.rcv o68) (s36 hs7 hr9) ?_
            intro h10 hs10
            refine mW.sn 2 (g' := (70, [some (.ref 68), some (.int p0), some (.int (rd S 68 2)), some (.int (Int32.ofNat (tT S ((rd S 68 1).toNatClampNeg)).length))], [.int 58, .ref 68], (h10, q))) rfl ?_
            cases hr11 : c_take r9 58 with
            | none => rw [hr11] at hv; cases hv
            | some r11 =>
              rw [hr11, o_bind] at hv
              refine sW.call rfl rfl rfl rfl (hs10.rcv o68) (s42 hs10 hr11) ?_
              intro h12 hs12
              refine mW.sn 1 (g' := (74, [some (.ref 68), some (.int p0), some (.int (rd S 68 2)), some (.int (Int32.ofNat (tT S ((rd S 68 1).toNatClampNeg)).length))], [.ref 68], (h12, q))) rfl ?_
              cases hr13 : c_blanks r11 with
              | none => rw [hr13] at hv; cases hv
              | some r13 =>
                rw [hr13, o_bind] at hv
                refine sW.call rfl rfl rfl rfl (hs12.rcv o68) (s36 hs12 hr13) ?_
                intro h14 hs14
                cases hv
                exact sW.fin hs14 rfl
        · rw [if_neg hc8] at hv
          refine mW.sn 3 (g' := (52, [some (.ref 68), some (.int p0), some (.int (rd S 68 2)), some (.int (Int32.ofNat (tT S ((rd S 68 1).toNatClampNeg)).length))], [.int (Int32.ofNat (tT S ((rd S 68 1).toNatClampNeg)).length), .int p0, .ref 68], (h7, q))) rfl ?_
          cases hr15 : c_wasThere r4 p0 (Int32.ofNat (tT S ((rd S 68 1).toNatClampNeg)).length) with
          | none => rw [hr15] at hv; cases hv
          | some r15 =>
            rw [hr15, o_bind] at hv
            refine sW.call rfl rfl rfl rfl (hs7.rcv o68) (s53 hs7 hr15) ?_
            intro h16 hs16
            refine mW.br (g1 := (63, [some (.ref 68), some (.int p0), some (.int (rd S 68 2)), some (.int (Int32.ofNat (tT S ((rd S 68 1).toNatClampNeg)).length))], [], (h16, q))) (g2 := (58, [some (.ref 68), some (.int p0), some (.int (rd S 68 2)), some (.int (Int32.ofNat (tT S ((rd S 68 1).toNatClampNeg)).length))], [], (h16, q))) (c := r15 = 0) rfl (fun hc17 => ?_) (fun hc17 => ?_)
            · rw [if_pos hc17] at hv
              refine mW.sn 1 (g' := (64, [some (.ref 68), some (.int p0), some (.int (rd S 68 2)), some (.int (Int32.ofNat (tT S ((rd S 68 1).toNatClampNeg)).length))], [.ref 68], (h16, q))) rfl ?_
              cases hr18 : c_blanks r4 with
              | none => rw [hr18] at hv; cases hv
              | some r18 =>
                rw [hr18, o_bind] at hv
                refine sW.call rfl rfl rfl rfl (hs16.rcv o68) (s36 hs16 hr18) ?_
                intro h19 hs19
                refine mW.sn 2 (g' := (70, [some (.ref 68), some (.int p0), some (.int (rd S 68 2)), some (.int (Int32.ofNat (tT S ((rd S 68 1).toNatClampNeg)).length))], [.int 58, .ref 68], (h19, q))) rfl ?_
                cases hr20 : c_take r18 58 with
                | none => rw [hr20] at hv; cases hv
                | some r20 =>
                  rw [hr20, o_bind] at hv
                  refine sW.call rfl rfl rfl rfl (hs19.rcv o68) (s42 hs19 hr20) ?_
                  intro h21 hs21
                  refine mW.sn 1 (g' := (74, [some (.ref 68), some (.int p0), some (.int (rd S 68 2)), some (.int (Int32.ofNat (tT S ((rd S 68 1).toNatClampNeg)).length))], [.ref 68], (h21, q))) rfl ?_
                  cases hr22 : c_blanks r20 with
                  | none => rw [hr22] at hv; cases hv
                  | some r22 =>
                    rw [hr22, o_bind] at hv
                    refine sW.call rfl rfl rfl rfl (hs21.rcv o68) (s36 hs21 hr22) ?_
                    intro h23 hs23
                    cases hv
                    exact sW.fin hs23 rfl
            · rw [if_neg hc17] at hv
              refine mW.sn 2 (g' := (60, [some (.ref 68), some (.int p0), some (.int (rd S 68 2)), some (.int (Int32.ofNat (tT S ((rd S 68 1).toNatClampNeg)).length))], [.int (rd S 68 2), .ref 68], (h16, q))) rfl ?_
              cases hr24 : c_break r4 (rd S 68 2) with
              | none => rw [hr24] at hv; cases hv
              | some r24 =>
                rw [hr24, o_bind] at hv
                refine sW.call rfl rfl rfl rfl (hs16.rcv o68) (s41 hs16 hr24) ?_
                intro h25 hs25
                refine mW.sn 1 (g' := (64, [some (.ref 68), some (.int p0), some (.int (rd S 68 2)), some (.int (Int32.ofNat (tT S ((rd S 68 1).toNatClampNeg)).length))], [.ref 68], (h25, q))) rfl ?_
                cases hr26 : c_blanks r24 with
                | none => rw [hr26] at hv; cases hv
                | some r26 =>
                  rw [hr26, o_bind] at hv
                  refine sW.call rfl rfl rfl rfl (hs25.rcv o68) (s36 hs25 hr26) ?_
                  intro h27 hs27
                  refine mW.sn 2 (g' := (70, [some (.ref 68), some (.int p0), some (.int (rd S 68 2)), some (.int (Int32.ofNat (tT S ((rd S 68 1).toNatClampNeg)).length))], [.int 58, .ref 68], (h27, q))) rfl ?_
                  cases hr28 : c_take r26 58 with
                  | none => rw [hr28] at hv; cases hv
                  | some r28 =>
                    rw [hr28, o_bind] at hv
                    refine sW.call rfl rfl rfl rfl (hs27.rcv o68) (s42 hs27 hr28) ?_
                    intro h29 hs29
                    refine mW.sn 1 (g' := (74, [some (.ref 68), some (.int p0), some (.int (rd S 68 2)), some (.int (Int32.ofNat (tT S ((rd S 68 1).toNatClampNeg)).length))], [.ref 68], (h29, q))) rfl ?_
                    cases hr30 : c_blanks r28 with
                    | none => rw [hr30] at hv; cases hv
                    | some r30 =>
                      rw [hr30, o_bind] at hv
                      refine sW.call rfl rfl rfl rfl (hs29.rcv o68) (s36 hs29 hr30) ?_
                      intro h31 hs31
                      cases hv
                      exact sW.fin hs31 rfl
  · rw [if_neg hc3] at hv
    refine mW.sn 2 (g' := (31, [some (.ref 68), some (.int p0), some (.int (rd S 68 2)), some (.int (Int32.ofNat (tT S ((rd S 68 1).toNatClampNeg)).length))], [.ref 68, .ref 68], (h2, q))) rfl ?_
    refine sW.getI rfl hs2 o68 rfl rfl ?_
    cases hr32 : c_break S (rd S 68 2) with
    | none => rw [hr32] at hv; cases hv
    | some r32 =>
      rw [hr32, o_bind] at hv
      refine sW.call rfl rfl rfl rfl (hs2.rcv o68) (s41 hs2 hr32) ?_
      intro h33 hs33
      cases hv
      exact sW.fin hs33 rfl
def c_literal_l2 (bs : List Int32) : Nat → SS → Int32 → Option (SS)
  | 0, _, _ => none
  | n + 1, S, l2 => (if (Int32.ofNat bs.length) ≤ l2 then some S else ((sch bs l2).bind fun r3 => ((c_take S r3).bind fun r5 => c_literal_l2 bs n r5 (l2 + 1))))
theorem c_literal_l2_ok {c c' : Nat} {bs : List Int32} (hc : (c, c', bs) ∈ shS) : ∀ (n : Nat), ∀ (h : mH) (S : SS) (l2 : Int32) (v : SS), cs h S → c_literal_l2 bs n S l2 = some v → mW (d + 4) mm57 (2, [some (.ref 68), some (.ref c), some (.int l2)], [], (h, q)) (mQ q v none) := by
  intro n
  induction n with
  | zero => intro h S l2 v hs hv; cases hv
  | succ n ih =>
    intro h S l2 v hs hv
    unfold c_literal_l2 at hv
    refine mW.sn 2 (g' := (4, [some (.ref 68), some (.ref c), some (.int l2)], [.ref c, .int l2], (h, q))) rfl ?_
    refine sW.call rfl rfl rfl rfl (hs.rcvS hc) (sW.of hs (x4 (hs.gsx hc))) ?_
    intro h1 hs1
    refine mW.br (g1 := (25, [some (.ref 68), some (.ref c), some (.int l2)], [], (h1, q))) (g2 := (10, [some (.ref 68), some (.ref c), some (.int l2)], [], (h1, q))) (c := (Int32.ofNat bs.length) ≤ l2) rfl (fun hc2 => ?_) (fun hc2 => ?_)
    · rw [if_pos hc2] at hv
      cases hv
      exact sW.fin hs1 rfl
    · rw [if_neg hc2] at hv
      refine mW.sn 3 (g' := (13, [some (.ref 68), some (.ref c), some (.int l2)], [.int l2, .ref c, .ref 68], (h1, q))) rfl ?_
      cases hr3 : sch bs l2 with
      | none => rw [hr3] at hv; cases hv
      | some r3 =>
        rw [hr3, o_bind] at hv
        refine sW.call rfl rfl rfl rfl (hs1.rcvS hc) (sW.of hs1 (x6o (hs1.gsx hc) hr3)) ?_
        intro h4 hs4
        cases hr5 : c_take S r3 with
        | none => rw [hr5] at hv; cases hv
        | some r5 =>
          rw [hr5, o_bind] at hv
          refine sW.call rfl rfl rfl rfl (hs4.rcv o68) (s42 hs4 hr5) ?_
          intro h6 hs6
          refine mW.sn 2 (g' := (2, [some (.ref 68), some (.ref c), some (.int (l2 + 1))], [], (h6, q))) rfl ?_
          exact ih _ _ _ _  hs6 hv
def c_literal (S : SS) (bs : List Int32) : Option (SS) := c_literal_l2 bs 10000 S 0
theorem s57 {S : SS} {c c' : Nat} {bs : List Int32} (hc : (c, c', bs) ∈ shS) {v : SS} (hs : cs h S) (hv : c_literal S bs = some v) : mW (d + 4) mm57 (0, [some (.ref 68), some (.ref c), none], [], (h, q)) (mQ q v none) := by
  unfold c_literal at hv
  refine mW.sn 2 (g' := (2, [some (.ref 68), some (.ref c), some (.int 0)], [], (h, q))) rfl ?_
  exact c_literal_l2_ok hc _ _ _ _ _  hs hv
def c_digits_l38 : Nat → SS → Int64 → Int32 → Option (SS × Int64)
  | 0, _, _, _ => none
  | n + 1, S, l1, l3 => (if l3 = 0 then some (S, l1) else (if (Int32.ofNat (tT S 42).length) ≤ (rd S 68 2) then some (S, l1) else (if (sg_digit (tat (tT S 42) (rd S 68 2))) = 0 then some (S, l1) else (if 0 < (lg_cmp l1 9007199254740991) then c_digits_l38 n (wr S 68 2 ((rd S 68 2) + 1)) l1 l3 else c_digits_l38 n (wr S 68 2 ((rd S 68 2) + 1)) (((l1 * 10) + ((tat (tT S 42) (rd S 68 2)).toInt64)) - 48) l3))))
theorem c_digits_l38_ok : ∀ (n : Nat), ∀ (h : mH) (S : SS) (l1 : Int64) (l3 : Int32) (v : SS × Int64), cs h S → c_digits_l38 n S l1 l3 = some v → mW (d + 1) mm60 (38, [some (.ref 68), some (.long l1), none, some (.int l3)], [], (h, q)) (mQ q v.1 (some (.long v.2))) := by
  intro n
  induction n with
  | zero => intro h S l1 l3 v hs hv; cases hv
  | succ n ih =>
    intro h S l1 l3 v hs hv
    unfold c_digits_l38 at hv
    refine mW.sn 1 (g' := (39, [some (.ref 68), some (.long l1), none, some (.int l3)], [.int l3], (h, q))) rfl ?_
    refine mW.br (g1 := (117, [some (.ref 68), some (.long l1), none, some (.int l3)], [], (h, q))) (g2 := (42, [some (.ref 68), some (.long l1), none, some (.int l3)], [], (h, q))) (c := l3 = 0) rfl (fun hc4 => ?_) (fun hc4 => ?_)
    · rw [if_pos hc4] at hv
      refine mW.sn 1 (g' := (118, [some (.ref 68), some (.long l1), none, some (.int l3)], [.long l1], (h, q))) rfl ?_
      cases hv
      exact sW.fin hs rfl
    · rw [if_neg hc4] at hv
      refine mW.sn 1 (g' := (43, [some (.ref 68), some (.long l1), none, some (.int l3)], [.ref 68], (h, q))) rfl ?_
      refine sW.getI rfl hs o68 rfl rfl ?_
      refine mW.sn 1 (g' := (47, [some (.ref 68), some (.long l1), none, some (.int l3)], [.ref 68, .int (rd S 68 2)], (h, q))) rfl ?_
      refine sW.getR rfl hs o68 rfl rfl ?_
      refine sW.call rfl rfl rfl rfl (hs.rcvT (by decide)) (sW.of hs (x24 (hs.gtx (by decide)))) ?_
      intro h5 hs5
      refine mW.br (g1 := (117, [some (.ref 68), some (.long l1), none, some (.int l3)], [], (h5, q))) (g2 := (56, [some (.ref 68), some (.long l1), none, some (.int l3)], [], (h5, q))) (c := (Int32.ofNat (tT S 42).length) ≤ (rd S 68 2)) rfl (fun hc6 => ?_) (fun hc6 => ?_)
      · rw [if_pos hc6] at hv
        refine mW.sn 1 (g' := (118, [some (.ref 68), some (.long l1), none, some (.int l3)], [.long l1], (h5, q))) rfl ?_
        cases hv
        exact sW.fin hs5 rfl
      · rw [if_neg hc6] at hv
        refine mW.sn 1 (g' := (57, [some (.ref 68), some (.long l1), none, some (.int l3)], [.ref 68], (h5, q))) rfl ?_
        refine sW.getR rfl hs5 o68 rfl rfl ?_
        refine mW.sn 1 (g' := (61, [some (.ref 68), some (.long l1), none, some (.int l3)], [.ref 68, .ref 42], (h5, q))) rfl ?_
        refine sW.getI rfl hs5 o68 rfl rfl ?_
        refine sW.call rfl rfl rfl rfl (hs5.rcvT (by decide)) (sW.of hs5 (x37 (hs5.gtx (by decide)) (rd S 68 2))) ?_
        intro h7 hs7
        refine sW.call rfl rfl rfl rfl rfl (sW.of hs7 (x59 (tat (tT S 42) (rd S 68 2)))) ?_
        intro h8 hs8
        refine mW.br (g1 := (117, [some (.ref 68), some (.long l1), none, some (.int l3)], [], (h8, q))) (g2 := (73, [some (.ref 68), some (.long l1), none, some (.int l3)], [], (h8, q))) (c := (sg_digit (tat (tT S 42) (rd S 68 2))) = 0) rfl (fun hc9 => ?_) (fun hc9 => ?_)
        · rw [if_pos hc9] at hv
          refine mW.sn 1 (g' := (118, [some (.ref 68), some (.long l1), none, some (.int l3)], [.long l1], (h8, q))) rfl ?_
          cases hv
          exact sW.fin hs8 rfl
        · rw [if_neg hc9] at hv
          refine mW.sn 3 (g' := (78, [some (.ref 68), some (.long l1), none, some (.int l3)], [.int (lg_cmp l1 9007199254740991)], (h8, q))) rfl ?_
          refine mW.br (g1 := (104, [some (.ref 68), some (.long l1), none, some (.int l3)], [], (h8, q))) (g2 := (81, [some (.ref 68), some (.long l1), none, some (.int l3)], [], (h8, q))) (c := 0 < (lg_cmp l1 9007199254740991)) rfl (fun hc10 => ?_) (fun hc10 => ?_)
          · rw [if_pos hc10] at hv
            refine mW.sn 2 (g' := (106, [some (.ref 68), some (.long l1), none, some (.int l3)], [.ref 68, .ref 68], (h8, q))) rfl ?_
            refine sW.getI rfl hs8 o68 rfl rfl ?_
            refine mW.sn 2 (g' := (111, [some (.ref 68), some (.long l1), none, some (.int l3)], [.int ((rd S 68 2) + 1), .ref 68], (h8, q))) rfl ?_
            refine sW.putI rfl hs8 o68 rfl ?_
            intro h11 hs11
            refine mW.sn 1 (g' := (38, [some (.ref 68), some (.long l1), none, some (.int l3)], [], (h11, q))) rfl ?_
            exact ih _ _ _ _ _  hs11 hv
          · rw [if_neg hc10] at hv
            refine mW.sn 4 (g' := (87, [some (.ref 68), some (.long l1), none, some (.int l3)], [.ref 68, .long (l1 * 10)], (h8, q))) rfl ?_
            refine sW.getR rfl hs8 o68 rfl rfl ?_
            refine mW.sn 1 (g' := (91, [some (.ref 68), some (.long l1), none, some (.int l3)], [.ref 68, .ref 42, .long (l1 * 10)], (h8, q))) rfl ?_
            refine sW.getI rfl hs8 o68 rfl rfl ?_
            refine sW.call rfl rfl rfl rfl (hs8.rcvT (by decide)) (sW.of hs8 (x37 (hs8.gtx (by decide)) (rd S 68 2))) ?_
            intro h12 hs12
            refine mW.sn 7 (g' := (106, [some (.ref 68), some (.long (((l1 * 10) + ((tat (tT S 42) (rd S 68 2)).toInt64)) - 48)), none, some (.int l3)], [.ref 68, .ref 68], (h12, q))) rfl ?_
            refine sW.getI rfl hs12 o68 rfl rfl ?_
            refine mW.sn 2 (g' := (111, [some (.ref 68), some (.long (((l1 * 10) + ((tat (tT S 42) (rd S 68 2)).toInt64)) - 48)), none, some (.int l3)], [.int ((rd S 68 2) + 1), .ref 68], (h12, q))) rfl ?_
            refine sW.putI rfl hs12 o68 rfl ?_
            intro h13 hs13
            refine mW.sn 1 (g' := (38, [some (.ref 68), some (.long (((l1 * 10) + ((tat (tT S 42) (rd S 68 2)).toInt64)) - 48)), none, some (.int l3)], [], (h13, q))) rfl ?_
            exact ih _ _ _ _ _  hs13 hv
def c_digits (S : SS) : Option (SS × Int64) := (if (lg_cmp (((tat (tT S 42) (rd S 68 2)) - 48).toInt64) 0) ≤ 0 then c_digits_l38 10000 (wr S 68 2 ((rd S 68 2) + 1)) (((tat (tT S 42) (rd S 68 2)) - 48).toInt64) 0 else c_digits_l38 10000 (wr S 68 2 ((rd S 68 2) + 1)) (((tat (tT S 42) (rd S 68 2)) - 48).toInt64) 1)
theorem s60 {S : SS} {v : SS × Int64} (hs : cs h S) (hv : c_digits S = some v) : mW (d + 1) mm60 (0, [some (.ref 68), none, none, none], [], (h, q)) (mQ q v.1 (some (.long v.2))) := by
  unfold c_digits at hv
  refine mW.sn 1 (g' := (1, [some (.ref 68), none, none, none], [.ref 68], (h, q))) rfl ?_
  refine sW.getR rfl hs o68 rfl rfl ?_
  refine mW.sn 1 (g' := (5, [some (.ref 68), none, none, none], [.ref 68, .ref 42], (h, q))) rfl ?_
  refine sW.getI rfl hs o68 rfl rfl ?_
  refine sW.call rfl rfl rfl rfl (hs.rcvT (by decide)) (sW.of hs (x37 (hs.gtx (by decide)) (rd S 68 2))) ?_
  intro h1 hs1
  refine mW.sn 6 (g' := (18, [some (.ref 68), some (.long (((tat (tT S 42) (rd S 68 2)) - 48).toInt64)), none, none], [.ref 68, .ref 68], (h1, q))) rfl ?_
  refine sW.getI rfl hs1 o68 rfl rfl ?_
  refine mW.sn 2 (g' := (23, [some (.ref 68), some (.long (((tat (tT S 42) (rd S 68 2)) - 48).toInt64)), none, none], [.int ((rd S 68 2) + 1), .ref 68], (h1, q))) rfl ?_
  refine sW.putI rfl hs1 o68 rfl ?_
  intro h2 hs2
  refine mW.sn 3 (g' := (29, [some (.ref 68), some (.long (((tat (tT S 42) (rd S 68 2)) - 48).toInt64)), none, none], [.int (lg_cmp (((tat (tT S 42) (rd S 68 2)) - 48).toInt64) 0)], (h2, q))) rfl ?_
  refine mW.br (g1 := (36, [some (.ref 68), some (.long (((tat (tT S 42) (rd S 68 2)) - 48).toInt64)), none, none], [], (h2, q))) (g2 := (32, [some (.ref 68), some (.long (((tat (tT S 42) (rd S 68 2)) - 48).toInt64)), none, none], [], (h2, q))) (c := (lg_cmp (((tat (tT S 42) (rd S 68 2)) - 48).toInt64) 0) ≤ 0) rfl (fun hc3 => ?_) (fun hc3 => ?_)
  · rw [if_pos hc3] at hv
    refine mW.sn 2 (g' := (38, [some (.ref 68), some (.long (((tat (tT S 42) (rd S 68 2)) - 48).toInt64)), none, some (.int 0)], [], (h2, q))) rfl ?_
    exact c_digits_l38_ok _ _ _ _ _ _  hs2 hv
  · rw [if_neg hc3] at hv
    refine mW.sn 3 (g' := (38, [some (.ref 68), some (.long (((tat (tT S 42) (rd S 68 2)) - 48).toInt64)), none, some (.int 1)], [], (h2, q))) rfl ?_
    exact c_digits_l38_ok _ _ _ _ _ _  hs2 hv
def c_number (S : SS) : Option (SS) := (if (tat (tT S 42) (rd S 68 2)) = (45 : Int32) then (if (sg_digit (tat (tT (wr S 68 2 ((rd S 68 2) + 1)) 42) (rd (wr S 68 2 ((rd S 68 2) + 1)) 68 2))) = 0 then ((c_break (wr S 68 2 ((rd S 68 2) + 1)) (rd (wr S 68 2 ((rd S 68 2) + 1)) 68 2)).bind fun r7 => some r7) else ((c_digits (wr S 68 2 ((rd S 68 2) + 1))).bind fun r9 => (if (lg_cmp r9.2 9007199254740991) ≤ 0 then (if (lg_cmp r9.2 0) = 0 then some (sput r9.1 ((rd r9.1 68 1).toNatClampNeg) 48) else ((spart r9.1 ((rd r9.1 68 1).toNatClampNeg) 42 (rd S 68 2) (rd r9.1 68 2)).bind fun r14 => some r14)) else ((c_break r9.1 (rd S 68 2)).bind fun r16 => some r16)))) else (if (sg_digit (tat (tT S 42) (rd S 68 2))) = 0 then ((c_break S (rd S 68 2)).bind fun r21 => some r21) else ((c_digits S).bind fun r23 => (if (lg_cmp r23.2 9007199254740991) ≤ 0 then (if (lg_cmp r23.2 0) = 0 then some (sput r23.1 ((rd r23.1 68 1).toNatClampNeg) 48) else ((spart r23.1 ((rd r23.1 68 1).toNatClampNeg) 42 (rd S 68 2) (rd r23.1 68 2)).bind fun r28 => some r28)) else ((c_break r23.1 (rd S 68 2)).bind fun r30 => some r30)))))
theorem s58 {S : SS} {v : SS} (hs : cs h S) (hv : c_number S = some v) : mW (d + 2) mm58 (0, [some (.ref 68), none, none, none], [], (h, q)) (mQ q v none) := by
  unfold c_number at hv
  refine mW.sn 1 (g' := (1, [some (.ref 68), none, none, none], [.ref 68], (h, q))) rfl ?_
  refine sW.getI rfl hs o68 rfl rfl ?_
  refine mW.sn 2 (g' := (6, [some (.ref 68), some (.int (rd S 68 2)), none, none], [.ref 68], (h, q))) rfl ?_
  refine sW.getR rfl hs o68 rfl rfl ?_
  refine mW.sn 1 (g' := (10, [some (.ref 68), some (.int (rd S 68 2)), none, none], [.ref 68, .ref 42], (h, q))) rfl ?_
  refine sW.getI rfl hs o68 rfl rfl ?_
  refine sW.call rfl rfl rfl rfl (hs.rcvT (by decide)) (sW.of hs (x37 (hs.gtx (by decide)) (rd S 68 2))) ?_
  intro h1 hs1
  refine mW.sn 1 (g' := (18, [some (.ref 68), some (.int (rd S 68 2)), none, none], [.int 45, .int (tat (tT S 42) (rd S 68 2))], (h1, q))) rfl ?_
  refine mW.br (g1 := (21, [some (.ref 68), some (.int (rd S 68 2)), none, none], [], (h1, q))) (g2 := (31, [some (.ref 68), some (.int (rd S 68 2)), none, none], [], (h1, q))) (c := (tat (tT S 42) (rd S 68 2)) = (45 : Int32)) rfl (fun hc2 => ?_) (fun hc2 => ?_)
  · rw [if_pos hc2] at hv
    refine mW.sn 2 (g' := (23, [some (.ref 68), some (.int (rd S 68 2)), none, none], [.ref 68, .ref 68], (h1, q))) rfl ?_
    refine sW.getI rfl hs1 o68 rfl rfl ?_
    refine mW.sn 2 (g' := (28, [some (.ref 68), some (.int (rd S 68 2)), none, none], [.int ((rd S 68 2) + 1), .ref 68], (h1, q))) rfl ?_
    refine sW.putI rfl hs1 o68 rfl ?_
    intro h3 hs3
    refine mW.sn 1 (g' := (32, [some (.ref 68), some (.int (rd S 68 2)), none, none], [.ref 68], (h3, q))) rfl ?_
    refine sW.getR rfl hs3 o68 rfl rfl ?_
    refine mW.sn 1 (g' := (36, [some (.ref 68), some (.int (rd S 68 2)), none, none], [.ref 68, .ref 42], (h3, q))) rfl ?_
    refine sW.getI rfl hs3 o68 rfl rfl ?_
    refine sW.call rfl rfl rfl rfl (hs3.rcvT (by decide)) (sW.of hs3 (x37 (hs3.gtx (by decide)) (rd (wr S 68 2 ((rd S 68 2) + 1)) 68 2))) ?_
    intro h4 hs4
    refine sW.call rfl rfl rfl rfl rfl (sW.of hs4 (x59 (tat (tT (wr S 68 2 ((rd S 68 2) + 1)) 42) (rd (wr S 68 2 ((rd S 68 2) + 1)) 68 2)))) ?_
    intro h5 hs5
    refine mW.br (g1 := (48, [some (.ref 68), some (.int (rd S 68 2)), none, none], [], (h5, q))) (g2 := (57, [some (.ref 68), some (.int (rd S 68 2)), none, none], [], (h5, q))) (c := (sg_digit (tat (tT (wr S 68 2 ((rd S 68 2) + 1)) 42) (rd (wr S 68 2 ((rd S 68 2) + 1)) 68 2))) = 0) rfl (fun hc6 => ?_) (fun hc6 => ?_)
    · rw [if_pos hc6] at hv
      refine mW.sn 2 (g' := (50, [some (.ref 68), some (.int (rd S 68 2)), none, none], [.ref 68, .ref 68], (h5, q))) rfl ?_
      refine sW.getI rfl hs5 o68 rfl rfl ?_
      cases hr7 : c_break (wr S 68 2 ((rd S 68 2) + 1)) (rd (wr S 68 2 ((rd S 68 2) + 1)) 68 2) with
      | none => rw [hr7] at hv; cases hv
      | some r7 =>
        rw [hr7, o_bind] at hv
        refine sW.call rfl rfl rfl rfl (hs5.rcv o68) (s41 hs5 hr7) ?_
        intro h8 hs8
        cases hv
        exact sW.fin hs8 rfl
    · rw [if_neg hc6] at hv
      refine mW.sn 1 (g' := (58, [some (.ref 68), some (.int (rd S 68 2)), none, none], [.ref 68], (h5, q))) rfl ?_
      cases hr9 : c_digits (wr S 68 2 ((rd S 68 2) + 1)) with
      | none => rw [hr9] at hv; cases hv
      | some r9 =>
        rw [hr9, o_bind] at hv
        refine sW.call rfl rfl rfl rfl (hs5.rcv o68) (s60 hs5 hr9) ?_
        intro h10 hs10
        refine mW.sn 4 (g' := (67, [some (.ref 68), some (.int (rd S 68 2)), some (.long r9.2), none], [.int (lg_cmp r9.2 9007199254740991)], (h10, q))) rfl ?_
        refine mW.br (g1 := (78, [some (.ref 68), some (.int (rd S 68 2)), some (.long r9.2), none], [], (h10, q))) (g2 := (70, [some (.ref 68), some (.int (rd S 68 2)), some (.long r9.2), none], [], (h10, q))) (c := (lg_cmp r9.2 9007199254740991) ≤ 0) rfl (fun hc11 => ?_) (fun hc11 => ?_)
        · rw [if_pos hc11] at hv
          refine mW.sn 3 (g' := (81, [some (.ref 68), some (.int (rd S 68 2)), some (.long r9.2), none], [.int (lg_cmp r9.2 0)], (h10, q))) rfl ?_
          refine mW.br (g1 := (84, [some (.ref 68), some (.int (rd S 68 2)), some (.long r9.2), none], [], (h10, q))) (g2 := (96, [some (.ref 68), some (.int (rd S 68 2)), some (.long r9.2), none], [], (h10, q))) (c := (lg_cmp r9.2 0) = 0) rfl (fun hc12 => ?_) (fun hc12 => ?_)
          · rw [if_pos hc12] at hv
            refine mW.sn 1 (g' := (85, [some (.ref 68), some (.int (rd S 68 2)), some (.long r9.2), none], [.ref 68], (h10, q))) rfl ?_
            refine sW.getT rfl hs10 o68 rfl ?_
            refine mW.sn 1 (g' := (90, [some (.ref 68), some (.int (rd S 68 2)), some (.long r9.2), none], [.int 48, .ref ((rd r9.1 68 1).toNatClampNeg)], (h10, q))) rfl ?_
            refine sW.call rfl rfl rfl rfl (hs10.rcvT (hs10.okT o68 rfl)) (s15 hs10 (hs10.okT o68 rfl)) ?_
            intro h13 hs13
            refine mW.sn 1 (g' := (112, [some (.ref 68), some (.int (rd S 68 2)), some (.long r9.2), none], [], (h13, q))) rfl ?_
            cases hv
            exact sW.fin hs13 rfl
          · rw [if_neg hc12] at hv
            refine mW.sn 1 (g' := (97, [some (.ref 68), some (.int (rd S 68 2)), some (.long r9.2), none], [.ref 68], (h10, q))) rfl ?_
            refine sW.getT rfl hs10 o68 rfl ?_
            refine mW.sn 1 (g' := (101, [some (.ref 68), some (.int (rd S 68 2)), some (.long r9.2), none], [.ref 68, .ref ((rd r9.1 68 1).toNatClampNeg)], (h10, q))) rfl ?_
            refine sW.getR rfl hs10 o68 rfl rfl ?_
            refine mW.sn 2 (g' := (106, [some (.ref 68), some (.int (rd S 68 2)), some (.long r9.2), none], [.ref 68, .int (rd S 68 2), .ref 42, .ref ((rd r9.1 68 1).toNatClampNeg)], (h10, q))) rfl ?_
            refine sW.getI rfl hs10 o68 rfl rfl ?_
            cases hr14 : spart r9.1 ((rd r9.1 68 1).toNatClampNeg) 42 (rd S 68 2) (rd r9.1 68 2) with
            | none => rw [hr14] at hv; cases hv
            | some r14 =>
              rw [hr14, o_bind] at hv
              refine sW.call rfl rfl rfl rfl (hs10.rcvT (hs10.okT o68 rfl)) (s61 (hs10.okT o68 rfl) (by decide) hs10 hr14) ?_
              intro h15 hs15
              cases hv
              exact sW.fin hs15 rfl
        · rw [if_neg hc11] at hv
          refine mW.sn 2 (g' := (72, [some (.ref 68), some (.int (rd S 68 2)), some (.long r9.2), none], [.int (rd S 68 2), .ref 68], (h10, q))) rfl ?_
          cases hr16 : c_break r9.1 (rd S 68 2) with
          | none => rw [hr16] at hv; cases hv
          | some r16 =>
            rw [hr16, o_bind] at hv
            refine sW.call rfl rfl rfl rfl (hs10.rcv o68) (s41 hs10 hr16) ?_
            intro h17 hs17
            refine mW.sn 1 (g' := (112, [some (.ref 68), some (.int (rd S 68 2)), some (.long r9.2), none], [], (h17, q))) rfl ?_
            cases hv
            exact sW.fin hs17 rfl
  · rw [if_neg hc2] at hv
    refine mW.sn 1 (g' := (32, [some (.ref 68), some (.int (rd S 68 2)), none, none], [.ref 68], (h1, q))) rfl ?_
    refine sW.getR rfl hs1 o68 rfl rfl ?_
    refine mW.sn 1 (g' := (36, [some (.ref 68), some (.int (rd S 68 2)), none, none], [.ref 68, .ref 42], (h1, q))) rfl ?_
    refine sW.getI rfl hs1 o68 rfl rfl ?_
    refine sW.call rfl rfl rfl rfl (hs1.rcvT (by decide)) (sW.of hs1 (x37 (hs1.gtx (by decide)) (rd S 68 2))) ?_
    intro h18 hs18
    refine sW.call rfl rfl rfl rfl rfl (sW.of hs18 (x59 (tat (tT S 42) (rd S 68 2)))) ?_
    intro h19 hs19
    refine mW.br (g1 := (48, [some (.ref 68), some (.int (rd S 68 2)), none, none], [], (h19, q))) (g2 := (57, [some (.ref 68), some (.int (rd S 68 2)), none, none], [], (h19, q))) (c := (sg_digit (tat (tT S 42) (rd S 68 2))) = 0) rfl (fun hc20 => ?_) (fun hc20 => ?_)
    · rw [if_pos hc20] at hv
      refine mW.sn 2 (g' := (50, [some (.ref 68), some (.int (rd S 68 2)), none, none], [.ref 68, .ref 68], (h19, q))) rfl ?_
      refine sW.getI rfl hs19 o68 rfl rfl ?_
      cases hr21 : c_break S (rd S 68 2) with
      | none => rw [hr21] at hv; cases hv
      | some r21 =>
        rw [hr21, o_bind] at hv
        refine sW.call rfl rfl rfl rfl (hs19.rcv o68) (s41 hs19 hr21) ?_
        intro h22 hs22
        cases hv
        exact sW.fin hs22 rfl
    · rw [if_neg hc20] at hv
      refine mW.sn 1 (g' := (58, [some (.ref 68), some (.int (rd S 68 2)), none, none], [.ref 68], (h19, q))) rfl ?_
      cases hr23 : c_digits S with
      | none => rw [hr23] at hv; cases hv
      | some r23 =>
        rw [hr23, o_bind] at hv
        refine sW.call rfl rfl rfl rfl (hs19.rcv o68) (s60 hs19 hr23) ?_
        intro h24 hs24
        refine mW.sn 4 (g' := (67, [some (.ref 68), some (.int (rd S 68 2)), some (.long r23.2), none], [.int (lg_cmp r23.2 9007199254740991)], (h24, q))) rfl ?_
        refine mW.br (g1 := (78, [some (.ref 68), some (.int (rd S 68 2)), some (.long r23.2), none], [], (h24, q))) (g2 := (70, [some (.ref 68), some (.int (rd S 68 2)), some (.long r23.2), none], [], (h24, q))) (c := (lg_cmp r23.2 9007199254740991) ≤ 0) rfl (fun hc25 => ?_) (fun hc25 => ?_)
        · rw [if_pos hc25] at hv
          refine mW.sn 3 (g' := (81, [some (.ref 68), some (.int (rd S 68 2)), some (.long r23.2), none], [.int (lg_cmp r23.2 0)], (h24, q))) rfl ?_
          refine mW.br (g1 := (84, [some (.ref 68), some (.int (rd S 68 2)), some (.long r23.2), none], [], (h24, q))) (g2 := (96, [some (.ref 68), some (.int (rd S 68 2)), some (.long r23.2), none], [], (h24, q))) (c := (lg_cmp r23.2 0) = 0) rfl (fun hc26 => ?_) (fun hc26 => ?_)
          · rw [if_pos hc26] at hv
            refine mW.sn 1 (g' := (85, [some (.ref 68), some (.int (rd S 68 2)), some (.long r23.2), none], [.ref 68], (h24, q))) rfl ?_
            refine sW.getT rfl hs24 o68 rfl ?_
            refine mW.sn 1 (g' := (90, [some (.ref 68), some (.int (rd S 68 2)), some (.long r23.2), none], [.int 48, .ref ((rd r23.1 68 1).toNatClampNeg)], (h24, q))) rfl ?_
            refine sW.call rfl rfl rfl rfl (hs24.rcvT (hs24.okT o68 rfl)) (s15 hs24 (hs24.okT o68 rfl)) ?_
            intro h27 hs27
            refine mW.sn 1 (g' := (112, [some (.ref 68), some (.int (rd S 68 2)), some (.long r23.2), none], [], (h27, q))) rfl ?_
            cases hv
            exact sW.fin hs27 rfl
          · rw [if_neg hc26] at hv
            refine mW.sn 1 (g' := (97, [some (.ref 68), some (.int (rd S 68 2)), some (.long r23.2), none], [.ref 68], (h24, q))) rfl ?_
            refine sW.getT rfl hs24 o68 rfl ?_
            refine mW.sn 1 (g' := (101, [some (.ref 68), some (.int (rd S 68 2)), some (.long r23.2), none], [.ref 68, .ref ((rd r23.1 68 1).toNatClampNeg)], (h24, q))) rfl ?_
            refine sW.getR rfl hs24 o68 rfl rfl ?_
            refine mW.sn 2 (g' := (106, [some (.ref 68), some (.int (rd S 68 2)), some (.long r23.2), none], [.ref 68, .int (rd S 68 2), .ref 42, .ref ((rd r23.1 68 1).toNatClampNeg)], (h24, q))) rfl ?_
            refine sW.getI rfl hs24 o68 rfl rfl ?_
            cases hr28 : spart r23.1 ((rd r23.1 68 1).toNatClampNeg) 42 (rd S 68 2) (rd r23.1 68 2) with
            | none => rw [hr28] at hv; cases hv
            | some r28 =>
              rw [hr28, o_bind] at hv
              refine sW.call rfl rfl rfl rfl (hs24.rcvT (hs24.okT o68 rfl)) (s61 (hs24.okT o68 rfl) (by decide) hs24 hr28) ?_
              intro h29 hs29
              cases hv
              exact sW.fin hs29 rfl
        · rw [if_neg hc25] at hv
          refine mW.sn 2 (g' := (72, [some (.ref 68), some (.int (rd S 68 2)), some (.long r23.2), none], [.int (rd S 68 2), .ref 68], (h24, q))) rfl ?_
          cases hr30 : c_break r23.1 (rd S 68 2) with
          | none => rw [hr30] at hv; cases hv
          | some r30 =>
            rw [hr30, o_bind] at hv
            refine sW.call rfl rfl rfl rfl (hs24.rcv o68) (s41 hs24 hr30) ?_
            intro h31 hs31
            refine mW.sn 1 (g' := (112, [some (.ref 68), some (.int (rd S 68 2)), some (.long r23.2), none], [], (h31, q))) rfl ?_
            cases hv
            exact sW.fin hs31 rfl
end
