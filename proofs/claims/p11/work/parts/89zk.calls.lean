/-! PRINTED BY wip/whole (dec2): the reference's calls. -/
section
set_option maxRecDepth 4000
variable {d : Nat} {h : mH} {q : Nat × Nat}
def b_read (S : SS) (p0 : Int32) : Option (SS × Int32) := ((b_begin S).bind fun r1 => ((b_none r1 p0).bind fun r3 => (if r3 = 0 then ((e_read (wr r1 78 1 0) 79 (rd r1 78 1)).bind fun r7 => (if (rd (wr r7.1 78 3 r7.2) 78 3) = (-1 : Int32) then ((b_fits (wr r7.1 78 3 r7.2)).bind fun r11 => (if r11.2 = 0 then ((b_fail r11.1 3).bind fun r14 => some (r14.1, r14.2)) else ((b_keep r11.1 p0).bind fun r16 => some (r16, Int32.ofNat (tT r16 94).length)))) else ((b_fail (wr r7.1 78 3 r7.2) 2).bind fun r18 => some (r18.1, r18.2)))) else ((b_fail r1 1).bind fun r20 => some (r20.1, r20.2)))))
theorem s163 {S : SS} {p0 : Int32} {v : SS × Int32} (hs : cs h S) (hv : b_read S p0 = some v) : mW (d + 1346) mm163 (0, [some (.ref 78), some (.int p0), none], [], (h, q)) (mQ q v.1 (some (.int v.2))) := by
  unfold b_read at hv
  refine mW.sn 1 (g' := (1, [some (.ref 78), some (.int p0), none], [.ref 78], (h, q))) rfl ?_
  cases hr1 : b_begin S with
  | none => rw [hr1] at hv; cases hv
  | some r1 =>
    rw [hr1, o_bind] at hv
    refine sW.call rfl rfl rfl rfl (hs.rcv o78) (s164 hs hr1) ?_
    intro h2 hs2
    refine mW.sn 1 (g' := (5, [some (.ref 78), some (.int p0), none], [.int p0], (h2, q))) rfl ?_
    cases hr3 : b_none r1 p0 with
    | none => rw [hr3] at hv; cases hv
    | some r3 =>
      rw [hr3, o_bind] at hv
      refine sW.call rfl rfl rfl rfl rfl (s166 hs2 hr3) ?_
      intro h4 hs4
      refine mW.br (g1 := (17, [some (.ref 78), some (.int p0), none], [], (h4, q))) (g2 := (11, [some (.ref 78), some (.int p0), none], [], (h4, q))) (c := r3 = 0) rfl (fun hc5 => ?_) (fun hc5 => ?_)
      · rw [if_pos hc5] at hv
        refine mW.sn 1 (g' := (18, [some (.ref 78), some (.int p0), none], [.ref 78], (h4, q))) rfl ?_
        refine sW.getI rfl hs4 o78 rfl rfl ?_
        refine mW.sn 3 (g' := (24, [some (.ref 78), some (.int p0), some (.int (rd r1 78 1))], [.int 0, .ref 78], (h4, q))) rfl ?_
        refine sW.putI rfl hs4 o78 rfl ?_
        intro h6 hs6
        refine mW.sn 2 (g' := (29, [some (.ref 78), some (.int p0), some (.int (rd r1 78 1))], [.ref 78, .ref 78], (h6, q))) rfl ?_
        refine sW.getR rfl hs6 o78 rfl rfl ?_
        refine mW.sn 1 (g' := (33, [some (.ref 78), some (.int p0), some (.int (rd r1 78 1))], [.ref 78, .ref 96, .ref 78], (h6, q))) rfl ?_
        refine sW.getR rfl hs6 o78 rfl rfl ?_
        refine mW.sn 2 (g' := (38, [some (.ref 78), some (.int p0), some (.int (rd r1 78 1))], [.ref 78, .int (rd r1 78 1), .ref 79, .ref 96, .ref 78], (h6, q))) rfl ?_
        refine sW.getR rfl hs6 o78 rfl rfl ?_
        cases hr7 : e_read (wr r1 78 1 0) 79 (rd r1 78 1) with
        | none => rw [hr7] at hv; cases hv
        | some r7 =>
          rw [hr7, o_bind] at hv
          refine sW.call rfl rfl rfl rfl (hs6.rcv o96) (s167 (by decide) hs6 hr7) ?_
          intro h8 hs8
          refine sW.putI rfl hs8 o78 rfl ?_
          intro h9 hs9
          refine mW.sn 1 (g' := (48, [some (.ref 78), some (.int p0), some (.int (rd r1 78 1))], [.ref 78], (h9, q))) rfl ?_
          refine sW.getI rfl hs9 o78 rfl rfl ?_
          refine mW.sn 1 (g' := (52, [some (.ref 78), some (.int p0), some (.int (rd r1 78 1))], [.int (-1), .int (rd (wr r7.1 78 3 r7.2) 78 3)], (h9, q))) rfl ?_
          refine mW.br (g1 := (61, [some (.ref 78), some (.int p0), some (.int (rd r1 78 1))], [], (h9, q))) (g2 := (55, [some (.ref 78), some (.int p0), some (.int (rd r1 78 1))], [], (h9, q))) (c := (rd (wr r7.1 78 3 r7.2) 78 3) = (-1 : Int32)) rfl (fun hc10 => ?_) (fun hc10 => ?_)
          · rw [if_pos hc10] at hv
            refine mW.sn 1 (g' := (62, [some (.ref 78), some (.int p0), some (.int (rd r1 78 1))], [.ref 78], (h9, q))) rfl ?_
            cases hr11 : b_fits (wr r7.1 78 3 r7.2) with
            | none => rw [hr11] at hv; cases hv
            | some r11 =>
              rw [hr11, o_bind] at hv
              refine sW.call rfl rfl rfl rfl (hs9.rcv o78) (s203 hs9 hr11) ?_
              intro h12 hs12
              refine mW.br (g1 := (68, [some (.ref 78), some (.int p0), some (.int (rd r1 78 1))], [], (h12, q))) (g2 := (74, [some (.ref 78), some (.int p0), some (.int (rd r1 78 1))], [], (h12, q))) (c := r11.2 = 0) rfl (fun hc13 => ?_) (fun hc13 => ?_)
              · rw [if_pos hc13] at hv
                refine mW.sn 2 (g' := (70, [some (.ref 78), some (.int p0), some (.int (rd r1 78 1))], [.int 3, .ref 78], (h12, q))) rfl ?_
                cases hr14 : b_fail r11.1 3 with
                | none => rw [hr14] at hv; cases hv
                | some r14 =>
                  rw [hr14, o_bind] at hv
                  refine sW.call rfl rfl rfl rfl (hs12.rcv o78) (s160 hs12 hr14) ?_
                  intro h15 hs15
                  cases hv
                  exact sW.fin hs15 rfl
              · rw [if_neg hc13] at hv
                refine mW.sn 2 (g' := (76, [some (.ref 78), some (.int p0), some (.int (rd r1 78 1))], [.int p0, .ref 78], (h12, q))) rfl ?_
                cases hr16 : b_keep r11.1 p0 with
                | none => rw [hr16] at hv; cases hv
                | some r16 =>
                  rw [hr16, o_bind] at hv
                  refine sW.call rfl rfl rfl rfl (hs12.rcv o78) (s211 hs12 hr16) ?_
                  intro h17 hs17
                  refine mW.sn 1 (g' := (80, [some (.ref 78), some (.int p0), some (.int (rd r1 78 1))], [.ref 78], (h17, q))) rfl ?_
                  refine sW.getR rfl hs17 o78 rfl rfl ?_
                  refine sW.getPn rfl hs17 (by decide) ?_
                  cases hv
                  exact sW.fin hs17 rfl
          · rw [if_neg hc10] at hv
            refine mW.sn 2 (g' := (57, [some (.ref 78), some (.int p0), some (.int (rd r1 78 1))], [.int 2, .ref 78], (h9, q))) rfl ?_
            cases hr18 : b_fail (wr r7.1 78 3 r7.2) 2 with
            | none => rw [hr18] at hv; cases hv
            | some r18 =>
              rw [hr18, o_bind] at hv
              refine sW.call rfl rfl rfl rfl (hs9.rcv o78) (s160 hs9 hr18) ?_
              intro h19 hs19
              cases hv
              exact sW.fin hs19 rfl
      · rw [if_neg hc5] at hv
        refine mW.sn 2 (g' := (13, [some (.ref 78), some (.int p0), none], [.int 1, .ref 78], (h4, q))) rfl ?_
        cases hr20 : b_fail r1 1 with
        | none => rw [hr20] at hv; cases hv
        | some r20 =>
          rw [hr20, o_bind] at hv
          refine sW.call rfl rfl rfl rfl (hs4.rcv o78) (s160 hs4 hr20) ?_
          intro h21 hs21
          cases hv
          exact sW.fin hs21 rfl
def b_print (S : SS) (p0 : Int32) : Option (SS × Int32) := ((b_none (wr S 78 0 0) p0).bind fun r2 => (if r2 = 0 then ((iget sh81 p0).bind fun b6 => ((w_value 64 (up (wr S 78 0 0) 92 [0]) 92 b6.toNatClampNeg 0).bind fun r7 => some (r7, Int32.ofNat (tT r7 92).length))) else ((b_fail (wr S 78 0 0) 1).bind fun r9 => some (r9.1, r9.2))))
theorem s212 {S : SS} {p0 : Int32} {v : SS × Int32} (hs : cs h S) (hv : b_print S p0 = some v) : mW (d + 1345) mm212 (0, [some (.ref 78), some (.int p0)], [], (h, q)) (mQ q v.1 (some (.int v.2))) := by
  unfold b_print at hv
  refine mW.sn 2 (g' := (2, [some (.ref 78), some (.int p0)], [.int 0, .ref 78], (h, q))) rfl ?_
  refine sW.putI rfl hs o78 rfl ?_
  intro h1 hs1
  refine mW.sn 1 (g' := (6, [some (.ref 78), some (.int p0)], [.int p0], (h1, q))) rfl ?_
  cases hr2 : b_none (wr S 78 0 0) p0 with
  | none => rw [hr2] at hv; cases hv
  | some r2 =>
    rw [hr2, o_bind] at hv
    refine sW.call rfl rfl rfl rfl rfl (s166 hs1 hr2) ?_
    intro h3 hs3
    refine mW.br (g1 := (18, [some (.ref 78), some (.int p0)], [], (h3, q))) (g2 := (12, [some (.ref 78), some (.int p0)], [], (h3, q))) (c := r2 = 0) rfl (fun hc4 => ?_) (fun hc4 => ?_)
    · rw [if_pos hc4] at hv
      refine mW.sn 1 (g' := (19, [some (.ref 78), some (.int p0)], [.ref 78], (h3, q))) rfl ?_
      refine sW.getR rfl hs3 o78 rfl rfl ?_
      refine sW.call rfl rfl rfl rfl (hs3.rcvP (by decide)) (s204 (by decide) hs3) ?_
      intro h5 hs5
      refine mW.sn 1 (g' := (26, [some (.ref 78), some (.int p0)], [.ref 78], (h5, q))) rfl ?_
      refine sW.getR rfl hs5 o78 rfl rfl ?_
      refine mW.sn 1 (g' := (30, [some (.ref 78), some (.int p0)], [.ref 78, .ref 92], (h5, q))) rfl ?_
      refine sW.getR rfl hs5 o78 rfl rfl ?_
      refine mW.sn 1 (g' := (34, [some (.ref 78), some (.int p0)], [.int p0, .ref 81, .ref 92], (h5, q))) rfl ?_
      cases hr6 : iget sh81 p0 with
      | none => rw [hr6] at hv; cases hv
      | some b6 =>
        rw [hr6, o_bind] at hv
        refine sW.aald81 rfl hs5 hr6 ?_
        refine mW.sn 1 (g' := (36, [some (.ref 78), some (.int p0)], [.int 0, .ref b6.toNatClampNeg, .ref 92], (h5, q))) rfl ?_
        cases hr7 : w_value 64 (up (wr S 78 0 0) 92 [0]) 92 b6.toNatClampNeg 0 with
        | none => rw [hr7] at hv; cases hv
        | some r7 =>
          rw [hr7, o_bind] at hv
          refine sW.call rfl rfl rfl rfl (hs5.rcvP (by decide)) (w_value_ok 64 _ (by omega) _ _ _ _ _ _ (by decide) (shW_A _ (ok81 hr6)) hs5 hr7) ?_
          intro h8 hs8
          refine mW.sn 1 (g' := (40, [some (.ref 78), some (.int p0)], [.ref 78], (h8, q))) rfl ?_
          refine sW.getR rfl hs8 o78 rfl rfl ?_
          refine sW.getPn rfl hs8 (by decide) ?_
          cases hv
          exact sW.fin hs8 rfl
    · rw [if_neg hc4] at hv
      refine mW.sn 2 (g' := (14, [some (.ref 78), some (.int p0)], [.int 1, .ref 78], (h3, q))) rfl ?_
      cases hr9 : b_fail (wr S 78 0 0) 1 with
      | none => rw [hr9] at hv; cases hv
      | some r9 =>
        rw [hr9, o_bind] at hv
        refine sW.call rfl rfl rfl rfl (hs3.rcv o78) (s160 hs3 hr9) ?_
        intro h10 hs10
        cases hv
        exact sW.fin hs10 rfl
def b_same2 (S : SS) (aa : Nat) (ab : Nat) (p0 : Int32) (p1 : Int32) : Option (Int32) := ((r_cmp (S aa) (S ab) 70 p0 p1).bind fun r1 => (if r1 = 0 then some 1 else some 0))
theorem s214 {S : SS} {aa : Nat} (haa : aa ∈ shA) {ab : Nat} (hab : ab ∈ shA) {p0 : Int32} {p1 : Int32} {v : Int32} (hs : cs h S) (hv : b_same2 S aa ab p0 p1 = some v) : mW (d + 281) mm214 (0, [some (.ref aa), some (.int p0), some (.ref ab), some (.int p1)], [], (h, q)) (mQ q S (some (.int v))) := by
  unfold b_same2 at hv
  refine mW.sn 4 (g' := (4, [some (.ref aa), some (.int p0), some (.ref ab), some (.int p1)], [.int p1, .ref ab, .int p0, .ref aa], (h, q))) rfl ?_
  cases hr1 : r_cmp (S aa) (S ab) 70 p0 p1 with
  | none => rw [hr1] at hv; cases hv
  | some r1 =>
    rw [hr1, o_bind] at hv
    refine sW.call rfl rfl rfl rfl rfl (sW.of hs (r_cmp_ok (hs.ar haa) (hs.ar hab) 70 _ (by omega) _ _ _ hr1)) ?_
    intro h2 hs2
    refine mW.br (g1 := (10, [some (.ref aa), some (.int p0), some (.ref ab), some (.int p1)], [], (h2, q))) (g2 := (14, [some (.ref aa), some (.int p0), some (.ref ab), some (.int p1)], [], (h2, q))) (c := r1 = 0) rfl (fun hc3 => ?_) (fun hc3 => ?_)
    · rw [if_pos hc3] at hv
      refine mW.sn 2 (g' := (15, [some (.ref aa), some (.int p0), some (.ref ab), some (.int p1)], [.int 1], (h2, q))) rfl ?_
      cases hv
      exact sW.fin hs2 rfl
    · rw [if_neg hc3] at hv
      refine mW.sn 1 (g' := (15, [some (.ref aa), some (.int p0), some (.ref ab), some (.int p1)], [.int 0], (h2, q))) rfl ?_
      cases hv
      exact sW.fin hs2 rfl
def b_same (S : SS) (p0 : Int32) (p1 : Int32) : Option (SS × Int32) := ((b_none S p0).bind fun r1 => (if r1 = 0 then ((b_none S p1).bind fun r4 => (if r4 = 0 then (if (rd (wr S 78 0 0) 78 0) = 0 then ((iget sh81 p0).bind fun b9 => ((iget sh81 p1).bind fun b10 => ((b_same2 (wr S 78 0 0) b9.toNatClampNeg b10.toNatClampNeg 0 0).bind fun r11 => (if r11 = 0 then some (wr S 78 0 0, 0) else some (wr S 78 0 0, 1))))) else some (wr S 78 0 0, 0)) else (if (rd (wr S 78 0 1) 78 0) = 0 then ((iget sh81 p0).bind fun b16 => ((iget sh81 p1).bind fun b17 => ((b_same2 (wr S 78 0 1) b16.toNatClampNeg b17.toNatClampNeg 0 0).bind fun r18 => (if r18 = 0 then some (wr S 78 0 1, 0) else some (wr S 78 0 1, 1))))) else some (wr S 78 0 1, 0)))) else (if (rd (wr S 78 0 1) 78 0) = 0 then ((iget sh81 p0).bind fun b23 => ((iget sh81 p1).bind fun b24 => ((b_same2 (wr S 78 0 1) b23.toNatClampNeg b24.toNatClampNeg 0 0).bind fun r25 => (if r25 = 0 then some (wr S 78 0 1, 0) else some (wr S 78 0 1, 1))))) else some (wr S 78 0 1, 0))))
theorem s213 {S : SS} {p0 : Int32} {p1 : Int32} {v : SS × Int32} (hs : cs h S) (hv : b_same S p0 p1 = some v) : mW (d + 282) mm213 (0, [some (.ref 78), some (.int p0), some (.int p1)], [], (h, q)) (mQ q v.1 (some (.int v.2))) := by
  unfold b_same at hv
  refine mW.sn 2 (g' := (2, [some (.ref 78), some (.int p0), some (.int p1)], [.int p0, .ref 78], (h, q))) rfl ?_
  cases hr1 : b_none S p0 with
  | none => rw [hr1] at hv; cases hv
  | some r1 =>
    rw [hr1, o_bind] at hv
    refine sW.call rfl rfl rfl rfl rfl (s166 hs hr1) ?_
    intro h2 hs2
    refine mW.br (g1 := (8, [some (.ref 78), some (.int p0), some (.int p1)], [.ref 78], (h2, q))) (g2 := (15, [some (.ref 78), some (.int p0), some (.int p1)], [.ref 78], (h2, q))) (c := r1 = 0) rfl (fun hc3 => ?_) (fun hc3 => ?_)
    · rw [if_pos hc3] at hv
      refine mW.sn 1 (g' := (9, [some (.ref 78), some (.int p0), some (.int p1)], [.int p1, .ref 78], (h2, q))) rfl ?_
      cases hr4 : b_none S p1 with
      | none => rw [hr4] at hv; cases hv
      | some r4 =>
        rw [hr4, o_bind] at hv
        refine sW.call rfl rfl rfl rfl rfl (s166 hs2 hr4) ?_
        intro h5 hs5
        refine mW.br (g1 := (19, [some (.ref 78), some (.int p0), some (.int p1)], [.ref 78], (h5, q))) (g2 := (15, [some (.ref 78), some (.int p0), some (.int p1)], [.ref 78], (h5, q))) (c := r4 = 0) rfl (fun hc6 => ?_) (fun hc6 => ?_)
        · rw [if_pos hc6] at hv
          refine mW.sn 1 (g' := (20, [some (.ref 78), some (.int p0), some (.int p1)], [.int 0, .ref 78], (h5, q))) rfl ?_
          refine sW.putI rfl hs5 o78 rfl ?_
          intro h7 hs7
          refine mW.sn 1 (g' := (24, [some (.ref 78), some (.int p0), some (.int p1)], [.ref 78], (h7, q))) rfl ?_
          refine sW.getI rfl hs7 o78 rfl rfl ?_
          refine mW.br (g1 := (30, [some (.ref 78), some (.int p0), some (.int p1)], [], (h7, q))) (g2 := (54, [some (.ref 78), some (.int p0), some (.int p1)], [], (h7, q))) (c := (rd (wr S 78 0 0) 78 0) = 0) rfl (fun hc8 => ?_) (fun hc8 => ?_)
          · rw [if_pos hc8] at hv
            refine mW.sn 1 (g' := (31, [some (.ref 78), some (.int p0), some (.int p1)], [.ref 78], (h7, q))) rfl ?_
            refine sW.getR rfl hs7 o78 rfl rfl ?_
            refine mW.sn 1 (g' := (35, [some (.ref 78), some (.int p0), some (.int p1)], [.int p0, .ref 81], (h7, q))) rfl ?_
            cases hr9 : iget sh81 p0 with
            | none => rw [hr9] at hv; cases hv
            | some b9 =>
              rw [hr9, o_bind] at hv
              refine sW.aald81 rfl hs7 hr9 ?_
              refine mW.sn 2 (g' := (38, [some (.ref 78), some (.int p0), some (.int p1)], [.ref 78, .int 0, .ref b9.toNatClampNeg], (h7, q))) rfl ?_
              refine sW.getR rfl hs7 o78 rfl rfl ?_
              refine mW.sn 1 (g' := (42, [some (.ref 78), some (.int p0), some (.int p1)], [.int p1, .ref 81, .int 0, .ref b9.toNatClampNeg], (h7, q))) rfl ?_
              cases hr10 : iget sh81 p1 with
              | none => rw [hr10] at hv; cases hv
              | some b10 =>
                rw [hr10, o_bind] at hv
                refine sW.aald81 rfl hs7 hr10 ?_
                refine mW.sn 1 (g' := (44, [some (.ref 78), some (.int p0), some (.int p1)], [.int 0, .ref b10.toNatClampNeg, .int 0, .ref b9.toNatClampNeg], (h7, q))) rfl ?_
                cases hr11 : b_same2 (wr S 78 0 0) b9.toNatClampNeg b10.toNatClampNeg 0 0 with
                | none => rw [hr11] at hv; cases hv
                | some r11 =>
                  rw [hr11, o_bind] at hv
                  refine sW.call rfl rfl rfl rfl rfl (s214 (shW_A _ (ok81 hr9)) (shW_A _ (ok81 hr10)) hs7 hr11) ?_
                  intro h12 hs12
                  refine mW.br (g1 := (54, [some (.ref 78), some (.int p0), some (.int p1)], [], (h12, q))) (g2 := (50, [some (.ref 78), some (.int p0), some (.int p1)], [], (h12, q))) (c := r11 = 0) rfl (fun hc13 => ?_) (fun hc13 => ?_)
                  · rw [if_pos hc13] at hv
                    refine mW.sn 1 (g' := (55, [some (.ref 78), some (.int p0), some (.int p1)], [.int 0], (h12, q))) rfl ?_
                    cases hv
                    exact sW.fin hs12 rfl
                  · rw [if_neg hc13] at hv
                    refine mW.sn 2 (g' := (55, [some (.ref 78), some (.int p0), some (.int p1)], [.int 1], (h12, q))) rfl ?_
                    cases hv
                    exact sW.fin hs12 rfl
          · rw [if_neg hc8] at hv
            refine mW.sn 1 (g' := (55, [some (.ref 78), some (.int p0), some (.int p1)], [.int 0], (h7, q))) rfl ?_
            cases hv
            exact sW.fin hs7 rfl
        · rw [if_neg hc6] at hv
          refine mW.sn 2 (g' := (20, [some (.ref 78), some (.int p0), some (.int p1)], [.int 1, .ref 78], (h5, q))) rfl ?_
          refine sW.putI rfl hs5 o78 rfl ?_
          intro h14 hs14
          refine mW.sn 1 (g' := (24, [some (.ref 78), some (.int p0), some (.int p1)], [.ref 78], (h14, q))) rfl ?_
          refine sW.getI rfl hs14 o78 rfl rfl ?_
          refine mW.br (g1 := (30, [some (.ref 78), some (.int p0), some (.int p1)], [], (h14, q))) (g2 := (54, [some (.ref 78), some (.int p0), some (.int p1)], [], (h14, q))) (c := (rd (wr S 78 0 1) 78 0) = 0) rfl (fun hc15 => ?_) (fun hc15 => ?_)
          · rw [if_pos hc15] at hv
            refine mW.sn 1 (g' := (31, [some (.ref 78), some (.int p0), some (.int p1)], [.ref 78], (h14, q))) rfl ?_
            refine sW.getR rfl hs14 o78 rfl rfl ?_
            refine mW.sn 1 (g' := (35, [some (.ref 78), some (.int p0), some (.int p1)], [.int p0, .ref 81], (h14, q))) rfl ?_
            cases hr16 : iget sh81 p0 with
            | none => rw [hr16] at hv; cases hv
            | some b16 =>
              rw [hr16, o_bind] at hv
              refine sW.aald81 rfl hs14 hr16 ?_
              refine mW.sn 2 (g' := (38, [some (.ref 78), some (.int p0), some (.int p1)], [.ref 78, .int 0, .ref b16.toNatClampNeg], (h14, q))) rfl ?_
              refine sW.getR rfl hs14 o78 rfl rfl ?_
              refine mW.sn 1 (g' := (42, [some (.ref 78), some (.int p0), some (.int p1)], [.int p1, .ref 81, .int 0, .ref b16.toNatClampNeg], (h14, q))) rfl ?_
              cases hr17 : iget sh81 p1 with
              | none => rw [hr17] at hv; cases hv
              | some b17 =>
                rw [hr17, o_bind] at hv
                refine sW.aald81 rfl hs14 hr17 ?_
                refine mW.sn 1 (g' := (44, [some (.ref 78), some (.int p0), some (.int p1)], [.int 0, .ref b17.toNatClampNeg, .int 0, .ref b16.toNatClampNeg], (h14, q))) rfl ?_
                cases hr18 : b_same2 (wr S 78 0 1) b16.toNatClampNeg b17.toNatClampNeg 0 0 with
                | none => rw [hr18] at hv; cases hv
                | some r18 =>
                  rw [hr18, o_bind] at hv
                  refine sW.call rfl rfl rfl rfl rfl (s214 (shW_A _ (ok81 hr16)) (shW_A _ (ok81 hr17)) hs14 hr18) ?_
                  intro h19 hs19
                  refine mW.br (g1 := (54, [some (.ref 78), some (.int p0), some (.int p1)], [], (h19, q))) (g2 := (50, [some (.ref 78), some (.int p0), some (.int p1)], [], (h19, q))) (c := r18 = 0) rfl (fun hc20 => ?_) (fun hc20 => ?_)
                  · rw [if_pos hc20] at hv
                    refine mW.sn 1 (g' := (55, [some (.ref 78), some (.int p0), some (.int p1)], [.int 0], (h19, q))) rfl ?_
                    cases hv
                    exact sW.fin hs19 rfl
                  · rw [if_neg hc20] at hv
                    refine mW.sn 2 (g' := (55, [some (.ref 78), some (.int p0), some (.int p1)], [.int 1], (h19, q))) rfl ?_
                    cases hv
                    exact sW.fin hs19 rfl
          · rw [if_neg hc15] at hv
            refine mW.sn 1 (g' := (55, [some (.ref 78), some (.int p0), some (.int p1)], [.int 0], (h14, q))) rfl ?_
            cases hv
            exact sW.fin hs14 rfl
    · rw [if_neg hc3] at hv
      refine mW.sn 2 (g' := (20, [some (.ref 78), some (.int p0), some (.int p1)], [.int 1, .ref 78], (h2, q))) rfl ?_
      refine sW.putI rfl hs2 o78 rfl ?_
      intro h21 hs21
      refine mW.sn 1 (g' := (24, [some (.ref 78), some (.int p0), some (.int p1)], [.ref 78], (h21, q))) rfl ?_
      refine sW.getI rfl hs21 o78 rfl rfl ?_
      refine mW.br (g1 := (30, [some (.ref 78), some (.int p0), some (.int p1)], [], (h21, q))) (g2 := (54, [some (.ref 78), some (.int p0), some (.int p1)], [], (h21, q))) (c := (rd (wr S 78 0 1) 78 0) = 0) rfl (fun hc22 => ?_) (fun hc22 => ?_)
      · rw [if_pos hc22] at hv
        refine mW.sn 1 (g' := (31, [some (.ref 78), some (.int p0), some (.int p1)], [.ref 78], (h21, q))) rfl ?_
        refine sW.getR rfl hs21 o78 rfl rfl ?_
        refine mW.sn 1 (g' := (35, [some (.ref 78), some (.int p0), some (.int p1)], [.int p0, .ref 81], (h21, q))) rfl ?_
        cases hr23 : iget sh81 p0 with
        | none => rw [hr23] at hv; cases hv
        | some b23 =>
          rw [hr23, o_bind] at hv
          refine sW.aald81 rfl hs21 hr23 ?_
          refine mW.sn 2 (g' := (38, [some (.ref 78), some (.int p0), some (.int p1)], [.ref 78, .int 0, .ref b23.toNatClampNeg], (h21, q))) rfl ?_
          refine sW.getR rfl hs21 o78 rfl rfl ?_
          refine mW.sn 1 (g' := (42, [some (.ref 78), some (.int p0), some (.int p1)], [.int p1, .ref 81, .int 0, .ref b23.toNatClampNeg], (h21, q))) rfl ?_
          cases hr24 : iget sh81 p1 with
          | none => rw [hr24] at hv; cases hv
          | some b24 =>
            rw [hr24, o_bind] at hv
            refine sW.aald81 rfl hs21 hr24 ?_
            refine mW.sn 1 (g' := (44, [some (.ref 78), some (.int p0), some (.int p1)], [.int 0, .ref b24.toNatClampNeg, .int 0, .ref b23.toNatClampNeg], (h21, q))) rfl ?_
            cases hr25 : b_same2 (wr S 78 0 1) b23.toNatClampNeg b24.toNatClampNeg 0 0 with
            | none => rw [hr25] at hv; cases hv
            | some r25 =>
              rw [hr25, o_bind] at hv
              refine sW.call rfl rfl rfl rfl rfl (s214 (shW_A _ (ok81 hr23)) (shW_A _ (ok81 hr24)) hs21 hr25) ?_
              intro h26 hs26
              refine mW.br (g1 := (54, [some (.ref 78), some (.int p0), some (.int p1)], [], (h26, q))) (g2 := (50, [some (.ref 78), some (.int p0), some (.int p1)], [], (h26, q))) (c := r25 = 0) rfl (fun hc27 => ?_) (fun hc27 => ?_)
              · rw [if_pos hc27] at hv
                refine mW.sn 1 (g' := (55, [some (.ref 78), some (.int p0), some (.int p1)], [.int 0], (h26, q))) rfl ?_
                cases hv
                exact sW.fin hs26 rfl
              · rw [if_neg hc27] at hv
                refine mW.sn 2 (g' := (55, [some (.ref 78), some (.int p0), some (.int p1)], [.int 1], (h26, q))) rfl ?_
                cases hv
                exact sW.fin hs26 rfl
      · rw [if_neg hc22] at hv
        refine mW.sn 1 (g' := (55, [some (.ref 78), some (.int p0), some (.int p1)], [.int 0], (h21, q))) rfl ?_
        cases hv
        exact sW.fin hs21 rfl
def b_word_l32 : Nat → SS → Int32 → Int64 → Int32 → Option (SS × Int64)
  | 0, _, _, _, _ => none
  | n + 1, S, l1, l2, l4 => (if (l1 + 8) ≤ l4 then some (S, l2) else (if (Int32.ofNat (tT S 92).length) ≤ l4 then b_word_l32 n S l1 ((l2 <<< ((8 : Int32).toInt64 &&& 63)) ||| ((0 : Int32).toInt64)) (l4 + 1) else ((iget (tT S 92) l4).bind fun b8 => b_word_l32 n S l1 ((l2 <<< ((8 : Int32).toInt64 &&& 63)) ||| b8.toInt64) (l4 + 1))))
theorem b_word_l32_ok : ∀ (n : Nat), ∀ (h : mH) (S : SS) (l1 : Int32) (l2 : Int64) (l4 : Int32) (v : SS × Int64), cs h S → b_word_l32 n S l1 l2 l4 = some v → mW (d + 1) mm220 (32, [some (.ref 78), some (.int l1), some (.long l2), none, some (.int l4)], [], (h, q)) (mQ q v.1 (some (.long v.2))) := by
  intro n
  induction n with
  | zero => intro h S l1 l2 l4 v hs hv; cases hv
  | succ n ih =>
    intro h S l1 l2 l4 v hs hv
    unfold b_word_l32 at hv
    refine mW.sn 4 (g' := (38, [some (.ref 78), some (.int l1), some (.long l2), none, some (.int l4)], [.int (l1 + 8), .int l4], (h, q))) rfl ?_
    refine mW.br (g1 := (80, [some (.ref 78), some (.int l1), some (.long l2), none, some (.int l4)], [], (h, q))) (g2 := (41, [some (.ref 78), some (.int l1), some (.long l2), none, some (.int l4)], [], (h, q))) (c := (l1 + 8) ≤ l4) rfl (fun hc6 => ?_) (fun hc6 => ?_)
    · rw [if_pos hc6] at hv
      refine mW.sn 1 (g' := (81, [some (.ref 78), some (.int l1), some (.long l2), none, some (.int l4)], [.long l2], (h, q))) rfl ?_
      cases hv
      exact sW.fin hs rfl
    · rw [if_neg hc6] at hv
      refine mW.sn 5 (g' := (48, [some (.ref 78), some (.int l1), some (.long l2), none, some (.int l4)], [.ref 78, .int l4, .long (l2 <<< ((8 : Int32).toInt64 &&& 63))], (h, q))) rfl ?_
      refine sW.getR rfl hs o78 rfl rfl ?_
      refine sW.getPn rfl hs (by decide) ?_
      refine mW.br (g1 := (70, [some (.ref 78), some (.int l1), some (.long l2), none, some (.int l4)], [.long (l2 <<< ((8 : Int32).toInt64 &&& 63))], (h, q))) (g2 := (57, [some (.ref 78), some (.int l1), some (.long l2), none, some (.int l4)], [.long (l2 <<< ((8 : Int32).toInt64 &&& 63))], (h, q))) (c := (Int32.ofNat (tT S 92).length) ≤ l4) rfl (fun hc7 => ?_) (fun hc7 => ?_)
      · rw [if_pos hc7] at hv
        refine mW.sn 6 (g' := (32, [some (.ref 78), some (.int l1), some (.long ((l2 <<< ((8 : Int32).toInt64 &&& 63)) ||| ((0 : Int32).toInt64))), none, some (.int (l4 + 1))], [], (h, q))) rfl ?_
        exact ih _ _ _ _ _ _  hs hv
      · rw [if_neg hc7] at hv
        refine mW.sn 1 (g' := (58, [some (.ref 78), some (.int l1), some (.long l2), none, some (.int l4)], [.ref 78, .long (l2 <<< ((8 : Int32).toInt64 &&& 63))], (h, q))) rfl ?_
        refine sW.getR rfl hs o78 rfl rfl ?_
        refine sW.getPc rfl hs (by decide) ?_
        refine mW.sn 1 (g' := (66, [some (.ref 78), some (.int l1), some (.long l2), none, some (.int l4)], [.int l4, .ref 93, .long (l2 <<< ((8 : Int32).toInt64 &&& 63))], (h, q))) rfl ?_
        cases hr8 : iget (tT S 92) l4 with
        | none => rw [hr8] at hv; cases hv
        | some b8 =>
          rw [hr8, o_bind] at hv
          refine sW.paload rfl hs (by decide) hr8 ?_
          refine mW.sn 6 (g' := (32, [some (.ref 78), some (.int l1), some (.long ((l2 <<< ((8 : Int32).toInt64 &&& 63)) ||| b8.toInt64)), none, some (.int (l4 + 1))], [], (h, q))) rfl ?_
          exact ih _ _ _ _ _ _  hs hv
def b_word (S : SS) (p0 : Int32) : Option (SS × Int64) := (if p0 < 0 then ((b_fail (wr S 78 0 0) 1).bind fun r3 => some (r3.1, r3.2.toInt64)) else (if p0 < (Int32.ofNat (tT (wr S 78 0 0) 92).length) then b_word_l32 10000 (wr S 78 0 0) p0 0 p0 else ((b_fail (wr S 78 0 0) 1).bind fun r9 => some (r9.1, r9.2.toInt64))))
theorem s220 {S : SS} {p0 : Int32} {v : SS × Int64} (hs : cs h S) (hv : b_word S p0 = some v) : mW (d + 1) mm220 (0, [some (.ref 78), some (.int p0), none, none, none], [], (h, q)) (mQ q v.1 (some (.long v.2))) := by
  unfold b_word at hv
  refine mW.sn 2 (g' := (2, [some (.ref 78), some (.int p0), none, none, none], [.int 0, .ref 78], (h, q))) rfl ?_
  refine sW.putI rfl hs o78 rfl ?_
  intro h1 hs1
  refine mW.sn 1 (g' := (6, [some (.ref 78), some (.int p0), none, none, none], [.int p0], (h1, q))) rfl ?_
  refine mW.br (g1 := (20, [some (.ref 78), some (.int p0), none, none, none], [], (h1, q))) (g2 := (9, [some (.ref 78), some (.int p0), none, none, none], [], (h1, q))) (c := p0 < 0) rfl (fun hc2 => ?_) (fun hc2 => ?_)
  · rw [if_pos hc2] at hv
    refine mW.sn 2 (g' := (22, [some (.ref 78), some (.int p0), none, none, none], [.int 1, .ref 78], (h1, q))) rfl ?_
    cases hr3 : b_fail (wr S 78 0 0) 1 with
    | none => rw [hr3] at hv; cases hv
    | some r3 =>
      rw [hr3, o_bind] at hv
      refine sW.call rfl rfl rfl rfl (hs1.rcv o78) (s160 hs1 hr3) ?_
      intro h4 hs4
      refine mW.sn 1 (g' := (26, [some (.ref 78), some (.int p0), none, none, none], [.long r3.2.toInt64], (h4, q))) rfl ?_
      cases hv
      exact sW.fin hs4 rfl
  · rw [if_neg hc2] at hv
    refine mW.sn 2 (g' := (11, [some (.ref 78), some (.int p0), none, none, none], [.ref 78, .int p0], (h1, q))) rfl ?_
    refine sW.getR rfl hs1 o78 rfl rfl ?_
    refine sW.getPn rfl hs1 (by decide) ?_
    refine mW.br (g1 := (27, [some (.ref 78), some (.int p0), none, none, none], [], (h1, q))) (g2 := (20, [some (.ref 78), some (.int p0), none, none, none], [], (h1, q))) (c := p0 < (Int32.ofNat (tT (wr S 78 0 0) 92).length)) rfl (fun hc5 => ?_) (fun hc5 => ?_)
    · rw [if_pos hc5] at hv
      refine mW.sn 4 (g' := (32, [some (.ref 78), some (.int p0), some (.long 0), none, some (.int p0)], [], (h1, q))) rfl ?_
      exact b_word_l32_ok _ _ _ _ _ _ _  hs1 hv
    · rw [if_neg hc5] at hv
      refine mW.sn 2 (g' := (22, [some (.ref 78), some (.int p0), none, none, none], [.int 1, .ref 78], (h1, q))) rfl ?_
      cases hr9 : b_fail (wr S 78 0 0) 1 with
      | none => rw [hr9] at hv; cases hv
      | some r9 =>
        rw [hr9, o_bind] at hv
        refine sW.call rfl rfl rfl rfl (hs1.rcv o78) (s160 hs1 hr9) ?_
        intro h10 hs10
        refine mW.sn 1 (g' := (26, [some (.ref 78), some (.int p0), none, none, none], [.long r9.2.toInt64], (h10, q))) rfl ?_
        cases hv
        exact sW.fin hs10 rfl
def b_count (S : SS) (p0 : Int32) : Option (SS × Int32) := (if p0 = (0 : Int32) then some (wr S 78 0 0, rd (wr S 78 0 0) 78 1) else (if p0 = (1 : Int32) then some (wr S 78 0 0, Int32.ofNat (tT (wr S 78 0 0) 92).length) else (if p0 = (2 : Int32) then some (wr S 78 0 0, rd (wr S 78 0 0) 78 3) else (if p0 = (3 : Int32) then some (wr S 78 0 0, rd (wr S 78 0 0) 78 4) else ((b_fail (wr S 78 0 0) 1).bind fun r6 => some (r6.1, r6.2))))))
theorem s221 {S : SS} {p0 : Int32} {v : SS × Int32} (hs : cs h S) (hv : b_count S p0 = some v) : mW (d + 1) mm221 (0, [some (.ref 78), some (.int p0)], [], (h, q)) (mQ q v.1 (some (.int v.2))) := by
  unfold b_count at hv
  refine mW.sn 2 (g' := (2, [some (.ref 78), some (.int p0)], [.int 0, .ref 78], (h, q))) rfl ?_
  refine sW.putI rfl hs o78 rfl ?_
  intro h1 hs1
  refine mW.sn 1 (g' := (6, [some (.ref 78), some (.int p0)], [.int p0], (h1, q))) rfl ?_
  by_cases hc2 : p0 = (0 : Int32)
  · rw [if_pos hc2] at hv
    refine mW.sn 1 (g' := (36, [some (.ref 78), some (.int p0)], [], (h1, q))) (by rw [hc2]; rfl) ?_
    refine mW.sn 1 (g' := (37, [some (.ref 78), some (.int p0)], [.ref 78], (h1, q))) rfl ?_
    refine sW.getI rfl hs1 o78 rfl rfl ?_
    cases hv
    exact sW.fin hs1 rfl
  rw [if_neg hc2] at hv
  by_cases hc3 : p0 = (1 : Int32)
  · rw [if_pos hc3] at hv
    refine mW.sn 1 (g' := (41, [some (.ref 78), some (.int p0)], [], (h1, q))) (by rw [hc3]; rfl) ?_
    refine mW.sn 1 (g' := (42, [some (.ref 78), some (.int p0)], [.ref 78], (h1, q))) rfl ?_
    refine sW.getR rfl hs1 o78 rfl rfl ?_
    refine sW.getPn rfl hs1 (by decide) ?_
    cases hv
    exact sW.fin hs1 rfl
  rw [if_neg hc3] at hv
  by_cases hc4 : p0 = (2 : Int32)
  · rw [if_pos hc4] at hv
    refine mW.sn 1 (g' := (49, [some (.ref 78), some (.int p0)], [], (h1, q))) (by rw [hc4]; rfl) ?_
    refine mW.sn 1 (g' := (50, [some (.ref 78), some (.int p0)], [.ref 78], (h1, q))) rfl ?_
    refine sW.getI rfl hs1 o78 rfl rfl ?_
    cases hv
    exact sW.fin hs1 rfl
  rw [if_neg hc4] at hv
  by_cases hc5 : p0 = (3 : Int32)
  · rw [if_pos hc5] at hv
    refine mW.sn 1 (g' := (54, [some (.ref 78), some (.int p0)], [], (h1, q))) (by rw [hc5]; rfl) ?_
    refine mW.sn 1 (g' := (55, [some (.ref 78), some (.int p0)], [.ref 78], (h1, q))) rfl ?_
    refine sW.getI rfl hs1 o78 rfl rfl ?_
    cases hv
    exact sW.fin hs1 rfl
  rw [if_neg hc5] at hv
  have hd5 : m_tsw 6 53 0 3 #[30, 35, 43, 48] p0 = 59 := by
    have n2 : ¬ (0 : Int) = p0.toInt := fun e => hc2 (Int32.toInt_inj.mp (e.symm.trans rfl))
    have n3 : ¬ (1 : Int) = p0.toInt := fun e => hc3 (Int32.toInt_inj.mp (e.symm.trans rfl))
    have n4 : ¬ (2 : Int) = p0.toInt := fun e => hc4 (Int32.toInt_inj.mp (e.symm.trans rfl))
    have n5 : ¬ (3 : Int) = p0.toInt := fun e => hc5 (Int32.toInt_inj.mp (e.symm.trans rfl))
    exact m_tsw_out _ _ _ _ _ _ (by omega)
  refine mW.sn 1 (g' := (59, [some (.ref 78), some (.int p0)], [], (h1, q))) (by rw [← hd5]; rfl) ?_
  refine mW.sn 2 (g' := (61, [some (.ref 78), some (.int p0)], [.int 1, .ref 78], (h1, q))) rfl ?_
  cases hr6 : b_fail (wr S 78 0 0) 1 with
  | none => rw [hr6] at hv; cases hv
  | some r6 =>
    rw [hr6, o_bind] at hv
    refine sW.call rfl rfl rfl rfl (hs1.rcv o78) (s160 hs1 hr6) ?_
    intro h7 hs7
    cases hv
    exact sW.fin hs7 rfl
def b_get (S : SS) (p0 : Int32) (p1 : Int32) (p2 : Int32) : Option (SS) := ((b_begin S).bind fun r1 => ((b_none r1 p0).bind fun r3 => (if r3 = 0 then ((b_none r1 p1).bind fun r6 => (if r6 = 0 then ((b_none r1 p2).bind fun r9 => (if r9 = 0 then ((iget sh81 p2).bind fun b12 => ((iget (r1 b12.toNatClampNeg) 0).bind fun b13 => (if b13 = (5 : Int32) then ((iget sh81 p1).bind fun b15 => ((b_getv r1 b15.toNatClampNeg b12.toNatClampNeg).bind fun r16 => ((b_finish r16 p0 2 3).bind fun r18 => some r18))) else ((b_refuse r1 1).bind fun r20 => ((b_finish r20 p0 2 3).bind fun r22 => some r22))))) else some (wr r1 78 0 1))) else some (wr r1 78 0 1))) else some (wr r1 78 0 1))))
theorem s226 {S : SS} {p0 : Int32} {p1 : Int32} {p2 : Int32} {v : SS} (hs : cs h S) (hv : b_get S p0 p1 p2 = some v) : mW (d + 1347) mm226 (0, [some (.ref 78), some (.int p0), some (.int p1), some (.int p2)], [], (h, q)) (mQ q v none) := by
  unfold b_get at hv
  refine mW.sn 1 (g' := (1, [some (.ref 78), some (.int p0), some (.int p1), some (.int p2)], [.ref 78], (h, q))) rfl ?_
  cases hr1 : b_begin S with
  | none => rw [hr1] at hv; cases hv
  | some r1 =>
    rw [hr1, o_bind] at hv
    refine sW.call rfl rfl rfl rfl (hs.rcv o78) (s164 hs hr1) ?_
    intro h2 hs2
    refine mW.sn 1 (g' := (5, [some (.ref 78), some (.int p0), some (.int p1), some (.int p2)], [.int p0], (h2, q))) rfl ?_
    cases hr3 : b_none r1 p0 with
    | none => rw [hr3] at hv; cases hv
    | some r3 =>
      rw [hr3, o_bind] at hv
      refine sW.call rfl rfl rfl rfl rfl (s166 hs2 hr3) ?_
      intro h4 hs4
      refine mW.br (g1 := (11, [some (.ref 78), some (.int p0), some (.int p1), some (.int p2)], [], (h4, q))) (g2 := (25, [some (.ref 78), some (.int p0), some (.int p1), some (.int p2)], [], (h4, q))) (c := r3 = 0) rfl (fun hc5 => ?_) (fun hc5 => ?_)
      · rw [if_pos hc5] at hv
        refine mW.sn 1 (g' := (12, [some (.ref 78), some (.int p0), some (.int p1), some (.int p2)], [.int p1], (h4, q))) rfl ?_
        cases hr6 : b_none r1 p1 with
        | none => rw [hr6] at hv; cases hv
        | some r6 =>
          rw [hr6, o_bind] at hv
          refine sW.call rfl rfl rfl rfl rfl (s166 hs4 hr6) ?_
          intro h7 hs7
          refine mW.br (g1 := (18, [some (.ref 78), some (.int p0), some (.int p1), some (.int p2)], [], (h7, q))) (g2 := (25, [some (.ref 78), some (.int p0), some (.int p1), some (.int p2)], [], (h7, q))) (c := r6 = 0) rfl (fun hc8 => ?_) (fun hc8 => ?_)
          · rw [if_pos hc8] at hv
            refine mW.sn 1 (g' := (19, [some (.ref 78), some (.int p0), some (.int p1), some (.int p2)], [.int p2], (h7, q))) rfl ?_
            cases hr9 : b_none r1 p2 with
            | none => rw [hr9] at hv; cases hv
            | some r9 =>
              rw [hr9, o_bind] at hv
              refine sW.call rfl rfl rfl rfl rfl (s166 hs7 hr9) ?_
              intro h10 hs10
              refine mW.br (g1 := (31, [some (.ref 78), some (.int p0), some (.int p1), some (.int p2)], [], (h10, q))) (g2 := (25, [some (.ref 78), some (.int p0), some (.int p1), some (.int p2)], [], (h10, q))) (c := r9 = 0) rfl (fun hc11 => ?_) (fun hc11 => ?_)
              · rw [if_pos hc11] at hv
                refine mW.sn 1 (g' := (32, [some (.ref 78), some (.int p0), some (.int p1), some (.int p2)], [.ref 78], (h10, q))) rfl ?_
                refine sW.getR rfl hs10 o78 rfl rfl ?_
                refine mW.sn 1 (g' := (36, [some (.ref 78), some (.int p0), some (.int p1), some (.int p2)], [.int p2, .ref 81], (h10, q))) rfl ?_
                cases hr12 : iget sh81 p2 with
                | none => rw [hr12] at hv; cases hv
                | some b12 =>
                  rw [hr12, o_bind] at hv
                  refine sW.aald81 rfl hs10 hr12 ?_
                  refine mW.sn 1 (g' := (38, [some (.ref 78), some (.int p0), some (.int p1), some (.int p2)], [.int 0, .ref b12.toNatClampNeg], (h10, q))) rfl ?_
                  cases hr13 : iget (r1 b12.toNatClampNeg) 0 with
                  | none => rw [hr13] at hv; cases hv
                  | some b13 =>
                    rw [hr13, o_bind] at hv
                    refine sW.iald rfl hs10 (shW_A _ (ok81 hr12)) hr13 ?_
                    refine mW.sn 1 (g' := (40, [some (.ref 78), some (.int p0), some (.int p1), some (.int p2)], [.int 5, .int b13], (h10, q))) rfl ?_
                    refine mW.br (g1 := (51, [some (.ref 78), some (.int p0), some (.int p1), some (.int p2)], [], (h10, q))) (g2 := (43, [some (.ref 78), some (.int p0), some (.int p1), some (.int p2)], [], (h10, q))) (c := b13 = (5 : Int32)) rfl (fun hc14 => ?_) (fun hc14 => ?_)
                    · rw [if_pos hc14] at hv
                      refine mW.sn 2 (g' := (53, [some (.ref 78), some (.int p0), some (.int p1), some (.int p2)], [.ref 78, .ref 78], (h10, q))) rfl ?_
                      refine sW.getR rfl hs10 o78 rfl rfl ?_
                      refine mW.sn 1 (g' := (57, [some (.ref 78), some (.int p0), some (.int p1), some (.int p2)], [.int p1, .ref 81, .ref 78], (h10, q))) rfl ?_
                      cases hr15 : iget sh81 p1 with
                      | none => rw [hr15] at hv; cases hv
                      | some b15 =>
                        rw [hr15, o_bind] at hv
                        refine sW.aald81 rfl hs10 hr15 ?_
                        refine mW.sn 1 (g' := (59, [some (.ref 78), some (.int p0), some (.int p1), some (.int p2)], [.ref 78, .ref b15.toNatClampNeg, .ref 78], (h10, q))) rfl ?_
                        refine sW.getR rfl hs10 o78 rfl rfl ?_
                        refine mW.sn 1 (g' := (63, [some (.ref 78), some (.int p0), some (.int p1), some (.int p2)], [.int p2, .ref 81, .ref b15.toNatClampNeg, .ref 78], (h10, q))) rfl ?_
                        refine sW.aald81 rfl hs10 hr12 ?_
                        cases hr16 : b_getv r1 b15.toNatClampNeg b12.toNatClampNeg with
                        | none => rw [hr16] at hv; cases hv
                        | some r16 =>
                          rw [hr16, o_bind] at hv
                          refine sW.call rfl rfl rfl rfl (hs10.rcv o78) (s228 (shW_A _ (ok81 hr15)) (shW_A _ (ok81 hr12)) hs10 hr16) ?_
                          intro h17 hs17
                          refine mW.sn 4 (g' := (71, [some (.ref 78), some (.int p0), some (.int p1), some (.int p2)], [.int 3, .int 2, .int p0, .ref 78], (h17, q))) rfl ?_
                          cases hr18 : b_finish r16 p0 2 3 with
                          | none => rw [hr18] at hv; cases hv
                          | some r18 =>
                            rw [hr18, o_bind] at hv
                            refine sW.call rfl rfl rfl rfl (hs17.rcv o78) (s237 hs17 hr18) ?_
                            intro h19 hs19
                            cases hv
                            exact sW.fin hs19 rfl
                    · rw [if_neg hc14] at hv
                      refine mW.sn 2 (g' := (45, [some (.ref 78), some (.int p0), some (.int p1), some (.int p2)], [.int 1, .ref 78], (h10, q))) rfl ?_
                      cases hr20 : b_refuse r1 1 with
                      | none => rw [hr20] at hv; cases hv
                      | some r20 =>
                        rw [hr20, o_bind] at hv
                        refine sW.call rfl rfl rfl rfl (hs10.rcv o78) (s227 hs10 hr20) ?_
                        intro h21 hs21
                        refine mW.sn 5 (g' := (71, [some (.ref 78), some (.int p0), some (.int p1), some (.int p2)], [.int 3, .int 2, .int p0, .ref 78], (h21, q))) rfl ?_
                        cases hr22 : b_finish r20 p0 2 3 with
                        | none => rw [hr22] at hv; cases hv
                        | some r22 =>
                          rw [hr22, o_bind] at hv
                          refine sW.call rfl rfl rfl rfl (hs21.rcv o78) (s237 hs21 hr22) ?_
                          intro h23 hs23
                          cases hv
                          exact sW.fin hs23 rfl
              · rw [if_neg hc11] at hv
                refine mW.sn 2 (g' := (27, [some (.ref 78), some (.int p0), some (.int p1), some (.int p2)], [.int 1, .ref 78], (h10, q))) rfl ?_
                refine sW.putI rfl hs10 o78 rfl ?_
                intro h24 hs24
                cases hv
                exact sW.fin hs24 rfl
          · rw [if_neg hc8] at hv
            refine mW.sn 2 (g' := (27, [some (.ref 78), some (.int p0), some (.int p1), some (.int p2)], [.int 1, .ref 78], (h7, q))) rfl ?_
            refine sW.putI rfl hs7 o78 rfl ?_
            intro h25 hs25
            cases hv
            exact sW.fin hs25 rfl
      · rw [if_neg hc5] at hv
        refine mW.sn 2 (g' := (27, [some (.ref 78), some (.int p0), some (.int p1), some (.int p2)], [.int 1, .ref 78], (h4, q))) rfl ?_
        refine sW.putI rfl hs4 o78 rfl ?_
        intro h26 hs26
        cases hv
        exact sW.fin hs26 rfl
def b_set (S : SS) (p0 : Int32) (p1 : Int32) (p2 : Int32) (p3 : Int32) : Option (SS) := ((b_begin S).bind fun r1 => ((b_none r1 p0).bind fun r3 => (if r3 = 0 then ((b_none r1 p1).bind fun r6 => (if r6 = 0 then ((b_none r1 p2).bind fun r9 => (if r9 = 0 then ((b_none r1 p3).bind fun r12 => (if r12 = 0 then ((iget sh81 p2).bind fun b15 => ((iget sh81 p3).bind fun b17 => (if rd (wr (wr r1 78 19 (Int32.ofNat b15.toNatClampNeg)) 78 20 (Int32.ofNat b17.toNatClampNeg)) 78 19 = 0 then none else ((iget ((wr (wr r1 78 19 (Int32.ofNat b15.toNatClampNeg)) 78 20 (Int32.ofNat b17.toNatClampNeg)) ((rd (wr (wr r1 78 19 (Int32.ofNat b15.toNatClampNeg)) 78 20 (Int32.ofNat b17.toNatClampNeg)) 78 19).toNatClampNeg)) 0).bind fun b20 => (if b20 = (5 : Int32) then ((r_many ((wr (wr r1 78 19 (Int32.ofNat b15.toNatClampNeg)) 78 20 (Int32.ofNat b17.toNatClampNeg)) ((rd (wr (wr r1 78 19 (Int32.ofNat b15.toNatClampNeg)) 78 20 (Int32.ofNat b17.toNatClampNeg)) 78 19).toNatClampNeg)) 0).bind fun r22 => (if r22 ≤ (100 : Int32) then ((iget sh81 p1).bind fun b25 => ((b_put 70 (wr (wr r1 78 19 (Int32.ofNat b15.toNatClampNeg)) 78 20 (Int32.ofNat b17.toNatClampNeg)) b25.toNatClampNeg 0 2 0).bind fun r26 => ((b_finish r26 p0 2 3).bind fun r28 => some r28))) else ((b_refuse (wr (wr r1 78 19 (Int32.ofNat b15.toNatClampNeg)) 78 20 (Int32.ofNat b17.toNatClampNeg)) 2).bind fun r30 => ((b_finish r30 p0 2 3).bind fun r32 => some r32)))) else ((b_refuse (wr (wr r1 78 19 (Int32.ofNat b15.toNatClampNeg)) 78 20 (Int32.ofNat b17.toNatClampNeg)) 1).bind fun r34 => ((b_finish r34 p0 2 3).bind fun r36 => some r36))))))) else some (wr r1 78 0 1))) else some (wr r1 78 0 1))) else some (wr r1 78 0 1))) else some (wr r1 78 0 1))))
theorem s238 {S : SS} {p0 : Int32} {p1 : Int32} {p2 : Int32} {p3 : Int32} {v : SS} (hs : cs h S) (hv : b_set S p0 p1 p2 p3 = some v) : mW (d + 1347) mm238 (0, [some (.ref 78), some (.int p0), some (.int p1), some (.int p2), some (.int p3)], [], (h, q)) (mQ q v none) := by
  unfold b_set at hv
  refine mW.sn 1 (g' := (1, [some (.ref 78), some (.int p0), some (.int p1), some (.int p2), some (.int p3)], [.ref 78], (h, q))) rfl ?_
  cases hr1 : b_begin S with
  | none => rw [hr1] at hv; cases hv
  | some r1 =>
    rw [hr1, o_bind] at hv
    refine sW.call rfl rfl rfl rfl (hs.rcv o78) (s164 hs hr1) ?_
    intro h2 hs2
    refine mW.sn 1 (g' := (5, [some (.ref 78), some (.int p0), some (.int p1), some (.int p2), some (.int p3)], [.int p0], (h2, q))) rfl ?_
    cases hr3 : b_none r1 p0 with
    | none => rw [hr3] at hv; cases hv
    | some r3 =>
      rw [hr3, o_bind] at hv
      refine sW.call rfl rfl rfl rfl rfl (s166 hs2 hr3) ?_
      intro h4 hs4
      refine mW.br (g1 := (11, [some (.ref 78), some (.int p0), some (.int p1), some (.int p2), some (.int p3)], [], (h4, q))) (g2 := (33, [some (.ref 78), some (.int p0), some (.int p1), some (.int p2), some (.int p3)], [], (h4, q))) (c := r3 = 0) rfl (fun hc5 => ?_) (fun hc5 => ?_)
      · rw [if_pos hc5] at hv
        refine mW.sn 1 (g' := (12, [some (.ref 78), some (.int p0), some (.int p1), some (.int p2), some (.int p3)], [.int p1], (h4, q))) rfl ?_
        cases hr6 : b_none r1 p1 with
        | none => rw [hr6] at hv; cases hv
        | some r6 =>
          rw [hr6, o_bind] at hv
          refine sW.call rfl rfl rfl rfl rfl (s166 hs4 hr6) ?_
          intro h7 hs7
          refine mW.br (g1 := (18, [some (.ref 78), some (.int p0), some (.int p1), some (.int p2), some (.int p3)], [], (h7, q))) (g2 := (33, [some (.ref 78), some (.int p0), some (.int p1), some (.int p2), some (.int p3)], [], (h7, q))) (c := r6 = 0) rfl (fun hc8 => ?_) (fun hc8 => ?_)
          · rw [if_pos hc8] at hv
            refine mW.sn 1 (g' := (19, [some (.ref 78), some (.int p0), some (.int p1), some (.int p2), some (.int p3)], [.int p2], (h7, q))) rfl ?_
            cases hr9 : b_none r1 p2 with
            | none => rw [hr9] at hv; cases hv
            | some r9 =>
              rw [hr9, o_bind] at hv
              refine sW.call rfl rfl rfl rfl rfl (s166 hs7 hr9) ?_
              intro h10 hs10
              refine mW.br (g1 := (25, [some (.ref 78), some (.int p0), some (.int p1), some (.int p2), some (.int p3)], [], (h10, q))) (g2 := (33, [some (.ref 78), some (.int p0), some (.int p1), some (.int p2), some (.int p3)], [], (h10, q))) (c := r9 = 0) rfl (fun hc11 => ?_) (fun hc11 => ?_)
              · rw [if_pos hc11] at hv
                refine mW.sn 1 (g' := (27, [some (.ref 78), some (.int p0), some (.int p1), some (.int p2), some (.int p3)], [.int p3], (h10, q))) rfl ?_
                cases hr12 : b_none r1 p3 with
                | none => rw [hr12] at hv; cases hv
                | some r12 =>
                  rw [hr12, o_bind] at hv
                  refine sW.call rfl rfl rfl rfl rfl (s166 hs10 hr12) ?_
                  intro h13 hs13
                  refine mW.br (g1 := (39, [some (.ref 78), some (.int p0), some (.int p1), some (.int p2), some (.int p3)], [], (h13, q))) (g2 := (33, [some (.ref 78), some (.int p0), some (.int p1), some (.int p2), some (.int p3)], [], (h13, q))) (c := r12 = 0) rfl (fun hc14 => ?_) (fun hc14 => ?_)
                  · rw [if_pos hc14] at hv
                    refine mW.sn 2 (g' := (41, [some (.ref 78), some (.int p0), some (.int p1), some (.int p2), some (.int p3)], [.ref 78, .ref 78], (h13, q))) rfl ?_
                    refine sW.getR rfl hs13 o78 rfl rfl ?_
                    refine mW.sn 1 (g' := (45, [some (.ref 78), some (.int p0), some (.int p1), some (.int p2), some (.int p3)], [.int p2, .ref 81, .ref 78], (h13, q))) rfl ?_
                    cases hr15 : iget sh81 p2 with
                    | none => rw [hr15] at hv; cases hv
                    | some b15 =>
                      rw [hr15, o_bind] at hv
                      refine sW.aald81 rfl hs13 hr15 ?_
                      refine sW.putA rfl hs13 o78 rfl (ok81 hr15) ?_
                      intro h16 hs16
                      refine mW.sn 2 (g' := (51, [some (.ref 78), some (.int p0), some (.int p1), some (.int p2), some (.int p3)], [.ref 78, .ref 78], (h16, q))) rfl ?_
                      refine sW.getR rfl hs16 o78 rfl rfl ?_
                      refine mW.sn 1 (g' := (56, [some (.ref 78), some (.int p0), some (.int p1), some (.int p2), some (.int p3)], [.int p3, .ref 81, .ref 78], (h16, q))) rfl ?_
                      cases hr17 : iget sh81 p3 with
                      | none => rw [hr17] at hv; cases hv
                      | some b17 =>
                        rw [hr17, o_bind] at hv
                        refine sW.aald81 rfl hs16 hr17 ?_
                        refine sW.putA rfl hs16 o78 rfl (ok81 hr17) ?_
                        intro h18 hs18
                        refine mW.sn 1 (g' := (61, [some (.ref 78), some (.int p0), some (.int p1), some (.int p2), some (.int p3)], [.ref 78], (h18, q))) rfl ?_
                        by_cases hz19 : rd (wr (wr r1 78 19 (Int32.ofNat b15.toNatClampNeg)) 78 20 (Int32.ofNat b17.toNatClampNeg)) 78 19 = 0
                        · rw [if_pos hz19] at hv; cases hv
                        rw [if_neg hz19] at hv
                        refine sW.getN rfl hs18 o78 rfl rfl hz19 ?_
                        refine mW.sn 1 (g' := (65, [some (.ref 78), some (.int p0), some (.int p1), some (.int p2), some (.int p3)], [.int 0, .ref ((rd (wr (wr r1 78 19 (Int32.ofNat b15.toNatClampNeg)) 78 20 (Int32.ofNat b17.toNatClampNeg)) 78 19).toNatClampNeg)], (h18, q))) rfl ?_
                        cases hr20 : iget ((wr (wr r1 78 19 (Int32.ofNat b15.toNatClampNeg)) 78 20 (Int32.ofNat b17.toNatClampNeg)) ((rd (wr (wr r1 78 19 (Int32.ofNat b15.toNatClampNeg)) 78 20 (Int32.ofNat b17.toNatClampNeg)) 78 19).toNatClampNeg)) 0 with
                        | none => rw [hr20] at hv; cases hv
                        | some b20 =>
                          rw [hr20, o_bind] at hv
                          refine sW.iald rfl hs18 (hs18.okA o78 rfl hz19) hr20 ?_
                          refine mW.sn 1 (g' := (67, [some (.ref 78), some (.int p0), some (.int p1), some (.int p2), some (.int p3)], [.int 5, .int b20], (h18, q))) rfl ?_
                          refine mW.br (g1 := (78, [some (.ref 78), some (.int p0), some (.int p1), some (.int p2), some (.int p3)], [], (h18, q))) (g2 := (70, [some (.ref 78), some (.int p0), some (.int p1), some (.int p2), some (.int p3)], [], (h18, q))) (c := b20 = (5 : Int32)) rfl (fun hc21 => ?_) (fun hc21 => ?_)
                          · rw [if_pos hc21] at hv
                            refine mW.sn 1 (g' := (79, [some (.ref 78), some (.int p0), some (.int p1), some (.int p2), some (.int p3)], [.ref 78], (h18, q))) rfl ?_
                            refine sW.getN rfl hs18 o78 rfl rfl hz19 ?_
                            refine mW.sn 1 (g' := (83, [some (.ref 78), some (.int p0), some (.int p1), some (.int p2), some (.int p3)], [.int 0, .ref ((rd (wr (wr r1 78 19 (Int32.ofNat b15.toNatClampNeg)) 78 20 (Int32.ofNat b17.toNatClampNeg)) 78 19).toNatClampNeg)], (h18, q))) rfl ?_
                            cases hr22 : r_many ((wr (wr r1 78 19 (Int32.ofNat b15.toNatClampNeg)) 78 20 (Int32.ofNat b17.toNatClampNeg)) ((rd (wr (wr r1 78 19 (Int32.ofNat b15.toNatClampNeg)) 78 20 (Int32.ofNat b17.toNatClampNeg)) 78 19).toNatClampNeg)) 0 with
                            | none => rw [hr22] at hv; cases hv
                            | some r22 =>
                              rw [hr22, o_bind] at hv
                              refine sW.call rfl rfl rfl rfl rfl (sW.of hs18 (x239 (hs18.ar (hs18.okA o78 rfl hz19)) hr22)) ?_
                              intro h23 hs23
                              refine mW.sn 1 (g' := (88, [some (.ref 78), some (.int p0), some (.int p1), some (.int p2), some (.int p3)], [.int 100, .int r22], (h23, q))) rfl ?_
                              refine mW.br (g1 := (99, [some (.ref 78), some (.int p0), some (.int p1), some (.int p2), some (.int p3)], [], (h23, q))) (g2 := (91, [some (.ref 78), some (.int p0), some (.int p1), some (.int p2), some (.int p3)], [], (h23, q))) (c := r22 ≤ (100 : Int32)) rfl (fun hc24 => ?_) (fun hc24 => ?_)
                              · rw [if_pos hc24] at hv
                                refine mW.sn 2 (g' := (101, [some (.ref 78), some (.int p0), some (.int p1), some (.int p2), some (.int p3)], [.ref 78, .ref 78], (h23, q))) rfl ?_
                                refine sW.getR rfl hs23 o78 rfl rfl ?_
                                refine mW.sn 1 (g' := (105, [some (.ref 78), some (.int p0), some (.int p1), some (.int p2), some (.int p3)], [.int p1, .ref 81, .ref 78], (h23, q))) rfl ?_
                                cases hr25 : iget sh81 p1 with
                                | none => rw [hr25] at hv; cases hv
                                | some b25 =>
                                  rw [hr25, o_bind] at hv
                                  refine sW.aald81 rfl hs23 hr25 ?_
                                  refine mW.sn 3 (g' := (109, [some (.ref 78), some (.int p0), some (.int p1), some (.int p2), some (.int p3)], [.int 0, .int 2, .int 0, .ref b25.toNatClampNeg, .ref 78], (h23, q))) rfl ?_
                                  cases hr26 : b_put 70 (wr (wr r1 78 19 (Int32.ofNat b15.toNatClampNeg)) 78 20 (Int32.ofNat b17.toNatClampNeg)) b25.toNatClampNeg 0 2 0 with
                                  | none => rw [hr26] at hv; cases hv
                                  | some r26 =>
                                    rw [hr26, o_bind] at hv
                                    refine sW.call rfl rfl rfl rfl (hs23.rcv o78) (b_put_ok 70 _ (by omega) _ _ _ _ _ _ _ (shW_A _ (ok81 hr25)) hs23 hr26) ?_
                                    intro h27 hs27
                                    refine mW.sn 4 (g' := (116, [some (.ref 78), some (.int p0), some (.int p1), some (.int p2), some (.int p3)], [.int 3, .int 2, .int p0, .ref 78], (h27, q))) rfl ?_
                                    cases hr28 : b_finish r26 p0 2 3 with
                                    | none => rw [hr28] at hv; cases hv
                                    | some r28 =>
                                      rw [hr28, o_bind] at hv
                                      refine sW.call rfl rfl rfl rfl (hs27.rcv o78) (s237 hs27 hr28) ?_
                                      intro h29 hs29
                                      cases hv
                                      exact sW.fin hs29 rfl
                              · rw [if_neg hc24] at hv
                                refine mW.sn 2 (g' := (93, [some (.ref 78), some (.int p0), some (.int p1), some (.int p2), some (.int p3)], [.int 2, .ref 78], (h23, q))) rfl ?_
                                cases hr30 : b_refuse (wr (wr r1 78 19 (Int32.ofNat b15.toNatClampNeg)) 78 20 (Int32.ofNat b17.toNatClampNeg)) 2 with
                                | none => rw [hr30] at hv; cases hv
                                | some r30 =>
                                  rw [hr30, o_bind] at hv
                                  refine sW.call rfl rfl rfl rfl (hs23.rcv o78) (s227 hs23 hr30) ?_
                                  intro h31 hs31
                                  refine mW.sn 5 (g' := (116, [some (.ref 78), some (.int p0), some (.int p1), some (.int p2), some (.int p3)], [.int 3, .int 2, .int p0, .ref 78], (h31, q))) rfl ?_
                                  cases hr32 : b_finish r30 p0 2 3 with
                                  | none => rw [hr32] at hv; cases hv
                                  | some r32 =>
                                    rw [hr32, o_bind] at hv
                                    refine sW.call rfl rfl rfl rfl (hs31.rcv o78) (s237 hs31 hr32) ?_
                                    intro h33 hs33
                                    cases hv
                                    exact sW.fin hs33 rfl
                          · rw [if_neg hc21] at hv
                            refine mW.sn 2 (g' := (72, [some (.ref 78), some (.int p0), some (.int p1), some (.int p2), some (.int p3)], [.int 1, .ref 78], (h18, q))) rfl ?_
                            cases hr34 : b_refuse (wr (wr r1 78 19 (Int32.ofNat b15.toNatClampNeg)) 78 20 (Int32.ofNat b17.toNatClampNeg)) 1 with
                            | none => rw [hr34] at hv; cases hv
                            | some r34 =>
                              rw [hr34, o_bind] at hv
                              refine sW.call rfl rfl rfl rfl (hs18.rcv o78) (s227 hs18 hr34) ?_
                              intro h35 hs35
                              refine mW.sn 5 (g' := (116, [some (.ref 78), some (.int p0), some (.int p1), some (.int p2), some (.int p3)], [.int 3, .int 2, .int p0, .ref 78], (h35, q))) rfl ?_
                              cases hr36 : b_finish r34 p0 2 3 with
                              | none => rw [hr36] at hv; cases hv
                              | some r36 =>
                                rw [hr36, o_bind] at hv
                                refine sW.call rfl rfl rfl rfl (hs35.rcv o78) (s237 hs35 hr36) ?_
                                intro h37 hs37
                                cases hv
                                exact sW.fin hs37 rfl
                  · rw [if_neg hc14] at hv
                    refine mW.sn 2 (g' := (35, [some (.ref 78), some (.int p0), some (.int p1), some (.int p2), some (.int p3)], [.int 1, .ref 78], (h13, q))) rfl ?_
                    refine sW.putI rfl hs13 o78 rfl ?_
                    intro h38 hs38
                    cases hv
                    exact sW.fin hs38 rfl
              · rw [if_neg hc11] at hv
                refine mW.sn 2 (g' := (35, [some (.ref 78), some (.int p0), some (.int p1), some (.int p2), some (.int p3)], [.int 1, .ref 78], (h10, q))) rfl ?_
                refine sW.putI rfl hs10 o78 rfl ?_
                intro h39 hs39
                cases hv
                exact sW.fin hs39 rfl
          · rw [if_neg hc8] at hv
            refine mW.sn 2 (g' := (35, [some (.ref 78), some (.int p0), some (.int p1), some (.int p2), some (.int p3)], [.int 1, .ref 78], (h7, q))) rfl ?_
            refine sW.putI rfl hs7 o78 rfl ?_
            intro h40 hs40
            cases hv
            exact sW.fin hs40 rfl
      · rw [if_neg hc5] at hv
        refine mW.sn 2 (g' := (35, [some (.ref 78), some (.int p0), some (.int p1), some (.int p2), some (.int p3)], [.int 1, .ref 78], (h4, q))) rfl ?_
        refine sW.putI rfl hs4 o78 rfl ?_
        intro h41 hs41
        cases hv
        exact sW.fin hs41 rfl
def b_all (S : SS) (p0 : Int32) (p1 : Int32) : Option (SS) := ((b_begin S).bind fun r1 => ((b_none r1 p0).bind fun r3 => (if r3 = 0 then ((b_none r1 p1).bind fun r6 => (if r6 = 0 then ((q_open r1 5).bind fun r9 => ((iget sh81 p1).bind fun b11 => ((b_list 64 r9.1 b11.toNatClampNeg 0 0).bind fun r12 => ((q_close r12 r9.2).bind fun r14 => ((b_finish r14 p0 0 2).bind fun r16 => some r16))))) else some (wr r1 78 0 1))) else some (wr r1 78 0 1))))
theorem s252 {S : SS} {p0 : Int32} {p1 : Int32} {v : SS} (hs : cs h S) (hv : b_all S p0 p1 = some v) : mW (d + 1347) mm252 (0, [some (.ref 78), some (.int p0), some (.int p1), none], [], (h, q)) (mQ q v none) := by
  unfold b_all at hv
  refine mW.sn 1 (g' := (1, [some (.ref 78), some (.int p0), some (.int p1), none], [.ref 78], (h, q))) rfl ?_
  cases hr1 : b_begin S with
  | none => rw [hr1] at hv; cases hv
  | some r1 =>
    rw [hr1, o_bind] at hv
    refine sW.call rfl rfl rfl rfl (hs.rcv o78) (s164 hs hr1) ?_
    intro h2 hs2
    refine mW.sn 1 (g' := (5, [some (.ref 78), some (.int p0), some (.int p1), none], [.int p0], (h2, q))) rfl ?_
    cases hr3 : b_none r1 p0 with
    | none => rw [hr3] at hv; cases hv
    | some r3 =>
      rw [hr3, o_bind] at hv
      refine sW.call rfl rfl rfl rfl rfl (s166 hs2 hr3) ?_
      intro h4 hs4
      refine mW.br (g1 := (11, [some (.ref 78), some (.int p0), some (.int p1), none], [], (h4, q))) (g2 := (18, [some (.ref 78), some (.int p0), some (.int p1), none], [], (h4, q))) (c := r3 = 0) rfl (fun hc5 => ?_) (fun hc5 => ?_)
      · rw [if_pos hc5] at hv
        refine mW.sn 1 (g' := (12, [some (.ref 78), some (.int p0), some (.int p1), none], [.int p1], (h4, q))) rfl ?_
        cases hr6 : b_none r1 p1 with
        | none => rw [hr6] at hv; cases hv
        | some r6 =>
          rw [hr6, o_bind] at hv
          refine sW.call rfl rfl rfl rfl rfl (s166 hs4 hr6) ?_
          intro h7 hs7
          refine mW.br (g1 := (24, [some (.ref 78), some (.int p0), some (.int p1), none], [], (h7, q))) (g2 := (18, [some (.ref 78), some (.int p0), some (.int p1), none], [], (h7, q))) (c := r6 = 0) rfl (fun hc8 => ?_) (fun hc8 => ?_)
          · rw [if_pos hc8] at hv
            refine mW.sn 1 (g' := (25, [some (.ref 78), some (.int p0), some (.int p1), none], [.ref 78], (h7, q))) rfl ?_
            refine sW.getR rfl hs7 o78 rfl rfl ?_
            refine mW.sn 1 (g' := (29, [some (.ref 78), some (.int p0), some (.int p1), none], [.int 5, .ref 90], (h7, q))) rfl ?_
            cases hr9 : q_open r1 5 with
            | none => rw [hr9] at hv; cases hv
            | some r9 =>
              rw [hr9, o_bind] at hv
              refine sW.call rfl rfl rfl rfl (hs7.rcv o90) (s174 hs7 hr9) ?_
              intro h10 hs10
              refine mW.sn 3 (g' := (35, [some (.ref 78), some (.int p0), some (.int p1), some (.int r9.2)], [.ref 78, .ref 78], (h10, q))) rfl ?_
              refine sW.getR rfl hs10 o78 rfl rfl ?_
              refine mW.sn 1 (g' := (39, [some (.ref 78), some (.int p0), some (.int p1), some (.int r9.2)], [.int p1, .ref 81, .ref 78], (h10, q))) rfl ?_
              cases hr11 : iget sh81 p1 with
              | none => rw [hr11] at hv; cases hv
              | some b11 =>
                rw [hr11, o_bind] at hv
                refine sW.aald81 rfl hs10 hr11 ?_
                refine mW.sn 2 (g' := (42, [some (.ref 78), some (.int p0), some (.int p1), some (.int r9.2)], [.int 0, .int 0, .ref b11.toNatClampNeg, .ref 78], (h10, q))) rfl ?_
                cases hr12 : b_list 64 r9.1 b11.toNatClampNeg 0 0 with
                | none => rw [hr12] at hv; cases hv
                | some r12 =>
                  rw [hr12, o_bind] at hv
                  refine sW.call rfl rfl rfl rfl (hs10.rcv o78) (b_list_ok 64 _ (by omega) _ _ _ _ _ _ (shW_A _ (ok81 hr11)) hs10 hr12) ?_
                  intro h13 hs13
                  refine mW.sn 1 (g' := (46, [some (.ref 78), some (.int p0), some (.int p1), some (.int r9.2)], [.ref 78], (h13, q))) rfl ?_
                  refine sW.getR rfl hs13 o78 rfl rfl ?_
                  refine mW.sn 1 (g' := (50, [some (.ref 78), some (.int p0), some (.int p1), some (.int r9.2)], [.int r9.2, .ref 90], (h13, q))) rfl ?_
                  cases hr14 : q_close r12 r9.2 with
                  | none => rw [hr14] at hv; cases hv
                  | some r14 =>
                    rw [hr14, o_bind] at hv
                    refine sW.call rfl rfl rfl rfl (hs13.rcv o90) (s176 hs13 hr14) ?_
                    intro h15 hs15
                    refine mW.sn 4 (g' := (57, [some (.ref 78), some (.int p0), some (.int p1), some (.int r9.2)], [.int 2, .int 0, .int p0, .ref 78], (h15, q))) rfl ?_
                    cases hr16 : b_finish r14 p0 0 2 with
                    | none => rw [hr16] at hv; cases hv
                    | some r16 =>
                      rw [hr16, o_bind] at hv
                      refine sW.call rfl rfl rfl rfl (hs15.rcv o78) (s237 hs15 hr16) ?_
                      intro h17 hs17
                      cases hv
                      exact sW.fin hs17 rfl
          · rw [if_neg hc8] at hv
            refine mW.sn 2 (g' := (20, [some (.ref 78), some (.int p0), some (.int p1), none], [.int 1, .ref 78], (h7, q))) rfl ?_
            refine sW.putI rfl hs7 o78 rfl ?_
            intro h18 hs18
            cases hv
            exact sW.fin hs18 rfl
      · rw [if_neg hc5] at hv
        refine mW.sn 2 (g' := (20, [some (.ref 78), some (.int p0), some (.int p1), none], [.int 1, .ref 78], (h4, q))) rfl ?_
        refine sW.putI rfl hs4 o78 rfl ?_
        intro h19 hs19
        cases hv
        exact sW.fin hs19 rfl
def b_thrown (S : SS) : Option (Int32) := some (rd S 78 0)
theorem s158 {S : SS} {v : Int32} (hs : cs h S) (hv : b_thrown S = some v) : mW d mm158 (0, [some (.ref 78)], [], (h, q)) (mQ q S (some (.int v))) := by
  unfold b_thrown at hv
  refine mW.sn 1 (g' := (1, [some (.ref 78)], [.ref 78], (h, q))) rfl ?_
  refine sW.getI rfl hs o78 rfl rfl ?_
  cases hv
  exact sW.fin hs rfl
def b_del_l372 (k75 : SS → Int32 → Int32 → Nat → Int32 → Int32 → Option (SS)) (k112 : SS → Int32 → Int32 → Nat → Int32 → Int32 → Option (SS)) (k162 : SS → Int32 → Int32 → Nat → Int32 → Int32 → Int32 → Option (SS)) (k236 : SS → Int32 → Int32 → Nat → Int32 → Int32 → Option (SS)) (k355 : SS → Int32 → Nat → Int32 → Int32 → Option (SS)) : Nat → SS → Int32 → Nat → Int32 → Int32 → Int32 → Option (SS)
  | 0, _, _, _, _, _, _ => none
  | n + 1, S, l1, a4, l5, l7, l8 => (if (rd S 90 1) ≤ l8 then ((q_clear S).bind fun r33 => ((iget ((wr r33 78 19 (Int32.ofNat a4)) 97) l7).bind fun b36 => ((r_next ((wr r33 78 19 (Int32.ofNat a4)) a4) b36).bind fun r37 => ((iget ((wr (wr r33 78 19 (Int32.ofNat a4)) 78 21 r37) 97) l7).bind fun b40 => (if (b40 + 2) = (rd (wr (wr r33 78 19 (Int32.ofNat a4)) 78 21 r37) 78 21) then ((q_simple (wr (wr r33 78 19 (Int32.ofNat a4)) 78 21 r37) 0).bind fun r42 => k355 r42 l1 a4 l5 (l7 + 1)) else ((b_take 70 (wr (wr r33 78 19 (Int32.ofNat a4)) 78 21 r37) 98 0 (b40 + 2)).bind fun r44 => k355 r44 l1 a4 l5 (l7 + 1))))))) else ((iget (S 91) l8).bind fun b46 => ((iset (S 98) l8 b46).bind fun z47 => b_del_l372 k75 k112 k162 k236 k355 n (up S 98 z47) l1 a4 l5 l7 (l8 + 1))))
theorem b_del_l372_ok {k75 : SS → Int32 → Int32 → Nat → Int32 → Int32 → Option (SS)} (hk75 : ∀ (h : mH) (S : SS) (l1 : Int32) (l2 : Int32) (a4 : Nat) (l5 : Int32) (l6 : Int32) (y3 : Int32) (x7 : Option Value) (x8 : Option Value) (x9 : Option Value) (v : SS), a4 ∈ shW → cs h S → k75 S l1 l2 a4 l5 l6 = some v → mW (d + 1347) mm246 (75, [some (.ref 78), some (.int l1), some (.int l2), some (.int y3), some (.ref a4), some (.int l5), some (.int l6), x7, x8, x9], [], (h, q)) (mQ q v none)) {k112 : SS → Int32 → Int32 → Nat → Int32 → Int32 → Option (SS)} (hk112 : ∀ (h : mH) (S : SS) (l1 : Int32) (l2 : Int32) (a4 : Nat) (l5 : Int32) (l6 : Int32) (y3 : Int32) (x7 : Option Value) (x8 : Option Value) (x9 : Option Value) (v : SS), a4 ∈ shW → cs h S → k112 S l1 l2 a4 l5 l6 = some v → mW (d + 1347) mm246 (112, [some (.ref 78), some (.int l1), some (.int l2), some (.int y3), some (.ref a4), some (.int l5), some (.int l6), x7, x8, x9], [], (h, q)) (mQ q v none)) {k162 : SS → Int32 → Int32 → Nat → Int32 → Int32 → Int32 → Option (SS)} (hk162 : ∀ (h : mH) (S : SS) (l1 : Int32) (l2 : Int32) (a4 : Nat) (l5 : Int32) (l6 : Int32) (l7 : Int32) (y3 : Int32) (x8 : Option Value) (x9 : Option Value) (v : SS), a4 ∈ shW → cs h S → k162 S l1 l2 a4 l5 l6 l7 = some v → mW (d + 1347) mm246 (162, [some (.ref 78), some (.int l1), some (.int l2), some (.int y3), some (.ref a4), some (.int l5), some (.int l6), some (.int l7), x8, x9], [], (h, q)) (mQ q v none)) {k236 : SS → Int32 → Int32 → Nat → Int32 → Int32 → Option (SS)} (hk236 : ∀ (h : mH) (S : SS) (l1 : Int32) (l2 : Int32) (a4 : Nat) (l5 : Int32) (l7 : Int32) (y3 : Int32) (y6 : Int32) (x8 : Option Value) (x9 : Option Value) (v : SS), a4 ∈ shW → cs h S → k236 S l1 l2 a4 l5 l7 = some v → mW (d + 1347) mm246 (236, [some (.ref 78), some (.int l1), some (.int l2), some (.int y3), some (.ref a4), some (.int l5), some (.int y6), some (.int l7), x8, x9], [], (h, q)) (mQ q v none)) {k355 : SS → Int32 → Nat → Int32 → Int32 → Option (SS)} (hk355 : ∀ (h : mH) (S : SS) (l1 : Int32) (a4 : Nat) (l5 : Int32) (l7 : Int32) (y2 : Int32) (y3 : Int32) (y6 : Int32) (x8 : Option Value) (x9 : Option Value) (v : SS), a4 ∈ shW → cs h S → k355 S l1 a4 l5 l7 = some v → mW (d + 1347) mm246 (355, [some (.ref 78), some (.int l1), some (.int y2), some (.int y3), some (.ref a4), some (.int l5), some (.int y6), some (.int l7), x8, x9], [], (h, q)) (mQ q v none)) : ∀ (n : Nat), ∀ (h : mH) (S : SS) (l1 : Int32) (a4 : Nat) (l5 : Int32) (l7 : Int32) (l8 : Int32) (y2 : Int32) (y3 : Int32) (y6 : Int32) (x9 : Option Value) (v : SS), a4 ∈ shW → cs h S → b_del_l372 k75 k112 k162 k236 k355 n S l1 a4 l5 l7 l8 = some v → mW (d + 1347) mm246 (372, [some (.ref 78), some (.int l1), some (.int y2), some (.int y3), some (.ref a4), some (.int l5), some (.int y6), some (.int l7), some (.int l8), x9], [], (h, q)) (mQ q v none) := by
  intro n
  induction n with
  | zero => intro h S l1 a4 l5 l7 l8 y2 y3 y6 x9 v ha4 hs hv; cases hv
  | succ n ih =>
    intro h S l1 a4 l5 l7 l8 y2 y3 y6 x9 v ha4 hs hv
    unfold b_del_l372 at hv
    refine mW.sn 2 (g' := (375, [some (.ref 78), some (.int l1), some (.int y2), some (.int y3), some (.ref a4), some (.int l5), some (.int y6), some (.int l7), some (.int l8), x9], [.ref 78, .int l8], (h, q))) rfl ?_
    refine sW.getR rfl hs o78 rfl rfl ?_
    refine sW.getI rfl hs o90 rfl rfl ?_
    refine mW.br (g1 := (407, [some (.ref 78), some (.int l1), some (.int y2), some (.int y3), some (.ref a4), some (.int l5), some (.int y6), some (.int l7), some (.int l8), x9], [], (h, q))) (g2 := (384, [some (.ref 78), some (.int l1), some (.int y2), some (.int y3), some (.ref a4), some (.int l5), some (.int y6), some (.int l7), some (.int l8), x9], [], (h, q))) (c := (rd S 90 1) ≤ l8) rfl (fun hc32 => ?_) (fun hc32 => ?_)
    · rw [if_pos hc32] at hv
      refine mW.sn 1 (g' := (408, [some (.ref 78), some (.int l1), some (.int y2), some (.int y3), some (.ref a4), some (.int l5), some (.int y6), some (.int l7), some (.int l8), x9], [.ref 78], (h, q))) rfl ?_
      refine sW.getR rfl hs o78 rfl rfl ?_
      cases hr33 : q_clear S with
      | none => rw [hr33] at hv; cases hv
      | some r33 =>
        rw [hr33, o_bind] at hv
        refine sW.call rfl rfl rfl rfl (hs.rcv o90) (s165 hs hr33) ?_
        intro h34 hs34
        refine mW.sn 2 (g' := (417, [some (.ref 78), some (.int l1), some (.int y2), some (.int y3), some (.ref a4), some (.int l5), some (.int y6), some (.int l7), some (.int l8), x9], [.ref a4, .ref 78], (h34, q))) rfl ?_
        refine sW.putA rfl hs34 o78 rfl ha4 ?_
        intro h35 hs35
        refine mW.sn 3 (g' := (424, [some (.ref 78), some (.int l1), some (.int y2), some (.int y3), some (.ref a4), some (.int l5), some (.int y6), some (.int l7), some (.int l8), x9], [.ref 78, .ref a4, .ref 78], (h35, q))) rfl ?_
        refine sW.getR rfl hs35 o78 rfl rfl ?_
        refine mW.sn 1 (g' := (429, [some (.ref 78), some (.int l1), some (.int y2), some (.int y3), some (.ref a4), some (.int l5), some (.int y6), some (.int l7), some (.int l8), x9], [.int l7, .ref 97, .ref a4, .ref 78], (h35, q))) rfl ?_
        cases hr36 : iget ((wr r33 78 19 (Int32.ofNat a4)) 97) l7 with
        | none => rw [hr36] at hv; cases hv
        | some b36 =>
          rw [hr36, o_bind] at hv
          refine sW.iald rfl hs35 (by decide) hr36 ?_
          cases hr37 : r_next ((wr r33 78 19 (Int32.ofNat a4)) a4) b36 with
          | none => rw [hr37] at hv; cases hv
          | some r37 =>
            rw [hr37, o_bind] at hv
            refine sW.call rfl rfl rfl rfl rfl (sW.of hs35 (x199 (hs35.ar (shW_A _ ha4)) hr37)) ?_
            intro h38 hs38
            refine sW.putI rfl hs38 o78 rfl ?_
            intro h39 hs39
            refine mW.sn 1 (g' := (437, [some (.ref 78), some (.int l1), some (.int y2), some (.int y3), some (.ref a4), some (.int l5), some (.int y6), some (.int l7), some (.int l8), x9], [.ref 78], (h39, q))) rfl ?_
            refine sW.getR rfl hs39 o78 rfl rfl ?_
            refine mW.sn 1 (g' := (442, [some (.ref 78), some (.int l1), some (.int y2), some (.int y3), some (.ref a4), some (.int l5), some (.int y6), some (.int l7), some (.int l8), x9], [.int l7, .ref 97], (h39, q))) rfl ?_
            cases hr40 : iget ((wr (wr r33 78 19 (Int32.ofNat a4)) 78 21 r37) 97) l7 with
            | none => rw [hr40] at hv; cases hv
            | some b40 =>
              rw [hr40, o_bind] at hv
              refine sW.iald rfl hs39 (by decide) hr40 ?_
              refine mW.sn 3 (g' := (446, [some (.ref 78), some (.int l1), some (.int y2), some (.int y3), some (.ref a4), some (.int l5), some (.int y6), some (.int l7), some (.int l8), x9], [.ref 78, .int (b40 + 2)], (h39, q))) rfl ?_
              refine sW.getI rfl hs39 o78 rfl rfl ?_
              refine mW.br (g1 := (452, [some (.ref 78), some (.int l1), some (.int y2), some (.int y3), some (.ref a4), some (.int l5), some (.int y6), some (.int l7), some (.int l8), x9], [], (h39, q))) (g2 := (463, [some (.ref 78), some (.int l1), some (.int y2), some (.int y3), some (.ref a4), some (.int l5), some (.int y6), some (.int l7), some (.int l8), x9], [], (h39, q))) (c := (b40 + 2) = (rd (wr (wr r33 78 19 (Int32.ofNat a4)) 78 21 r37) 78 21)) rfl (fun hc41 => ?_) (fun hc41 => ?_)
              · rw [if_pos hc41] at hv
                refine mW.sn 1 (g' := (453, [some (.ref 78), some (.int l1), some (.int y2), some (.int y3), some (.ref a4), some (.int l5), some (.int y6), some (.int l7), some (.int l8), x9], [.ref 78], (h39, q))) rfl ?_
                refine sW.getR rfl hs39 o78 rfl rfl ?_
                refine mW.sn 1 (g' := (457, [some (.ref 78), some (.int l1), some (.int y2), some (.int y3), some (.ref a4), some (.int l5), some (.int y6), some (.int l7), some (.int l8), x9], [.int 0, .ref 90], (h39, q))) rfl ?_
                cases hr42 : q_simple (wr (wr r33 78 19 (Int32.ofNat a4)) 78 21 r37) 0 with
                | none => rw [hr42] at hv; cases hv
                | some r42 =>
                  rw [hr42, o_bind] at hv
                  refine sW.call rfl rfl rfl rfl (hs39.rcv o90) (s173 hs39 hr42) ?_
                  intro h43 hs43
                  refine mW.sn 3 (g' := (355, [some (.ref 78), some (.int l1), some (.int y2), some (.int y3), some (.ref a4), some (.int l5), some (.int y6), some (.int (l7 + 1)), some (.int l8), x9], [], (h43, q))) rfl ?_
                  exact hk355 _ _ _ _ _ _ _ _ _ _ _ _ ha4 hs43 hv
              · rw [if_neg hc41] at hv
                refine mW.sn 2 (g' := (465, [some (.ref 78), some (.int l1), some (.int y2), some (.int y3), some (.ref a4), some (.int l5), some (.int y6), some (.int l7), some (.int l8), x9], [.ref 78, .ref 78], (h39, q))) rfl ?_
                refine sW.getR rfl hs39 o78 rfl rfl ?_
                refine mW.sn 2 (g' := (470, [some (.ref 78), some (.int l1), some (.int y2), some (.int y3), some (.ref a4), some (.int l5), some (.int y6), some (.int l7), some (.int l8), x9], [.ref 78, .int 0, .ref 98, .ref 78], (h39, q))) rfl ?_
                refine sW.getR rfl hs39 o78 rfl rfl ?_
                refine mW.sn 1 (g' := (475, [some (.ref 78), some (.int l1), some (.int y2), some (.int y3), some (.ref a4), some (.int l5), some (.int y6), some (.int l7), some (.int l8), x9], [.int l7, .ref 97, .int 0, .ref 98, .ref 78], (h39, q))) rfl ?_
                refine sW.iald rfl hs39 (by decide) hr40 ?_
                refine mW.sn 2 (g' := (478, [some (.ref 78), some (.int l1), some (.int y2), some (.int y3), some (.ref a4), some (.int l5), some (.int y6), some (.int l7), some (.int l8), x9], [.int (b40 + 2), .int 0, .ref 98, .ref 78], (h39, q))) rfl ?_
                cases hr44 : b_take 70 (wr (wr r33 78 19 (Int32.ofNat a4)) 78 21 r37) 98 0 (b40 + 2) with
                | none => rw [hr44] at hv; cases hv
                | some r44 =>
                  rw [hr44, o_bind] at hv
                  refine sW.call rfl rfl rfl rfl (hs39.rcv o78) (b_take_ok 70 _ (by omega) _ _ _ _ _ _ (by decide) hs39 hr44) ?_
                  intro h45 hs45
                  refine mW.sn 2 (g' := (355, [some (.ref 78), some (.int l1), some (.int y2), some (.int y3), some (.ref a4), some (.int l5), some (.int y6), some (.int (l7 + 1)), some (.int l8), x9], [], (h45, q))) rfl ?_
                  exact hk355 _ _ _ _ _ _ _ _ _ _ _ _ ha4 hs45 hv
    · rw [if_neg hc32] at hv
      refine mW.sn 1 (g' := (385, [some (.ref 78), some (.int l1), some (.int y2), some (.int y3), some (.ref a4), some (.int l5), some (.int y6), some (.int l7), some (.int l8), x9], [.ref 78], (h, q))) rfl ?_
      refine sW.getR rfl hs o78 rfl rfl ?_
      refine mW.sn 2 (g' := (391, [some (.ref 78), some (.int l1), some (.int y2), some (.int y3), some (.ref a4), some (.int l5), some (.int y6), some (.int l7), some (.int l8), x9], [.ref 78, .int l8, .ref 98], (h, q))) rfl ?_
      refine sW.getR rfl hs o78 rfl rfl ?_
      refine sW.getR rfl hs o90 rfl rfl ?_
      refine mW.sn 1 (g' := (399, [some (.ref 78), some (.int l1), some (.int y2), some (.int y3), some (.ref a4), some (.int l5), some (.int y6), some (.int l7), some (.int l8), x9], [.int l8, .ref 91, .int l8, .ref 98], (h, q))) rfl ?_
      cases hr46 : iget (S 91) l8 with
      | none => rw [hr46] at hv; cases hv
      | some b46 =>
        rw [hr46, o_bind] at hv
        refine sW.iald rfl hs (by decide) hr46 ?_
        cases hr47 : iset (S 98) l8 b46 with
        | none => rw [hr47] at hv; cases hv
        | some z47 =>
          rw [hr47, o_bind] at hv
          refine sW.iast rfl hs (by decide) hr47 ?_
          intro h48 hs48
          refine mW.sn 2 (g' := (372, [some (.ref 78), some (.int l1), some (.int y2), some (.int y3), some (.ref a4), some (.int l5), some (.int y6), some (.int l7), some (.int (l8 + 1)), x9], [], (h48, q))) rfl ?_
          exact ih _ _ _ _ _ _ _ _ _ _ _ _ ha4 hs48 hv
def b_del_l355 (k75 : SS → Int32 → Int32 → Nat → Int32 → Int32 → Option (SS)) (k112 : SS → Int32 → Int32 → Nat → Int32 → Int32 → Option (SS)) (k162 : SS → Int32 → Int32 → Nat → Int32 → Int32 → Int32 → Option (SS)) (k236 : SS → Int32 → Int32 → Nat → Int32 → Int32 → Option (SS)) : Nat → SS → Int32 → Nat → Int32 → Int32 → Option (SS)
  | 0, _, _, _, _, _ => none
  | n + 1, S, l1, a4, l5, l7 => (if l5 ≤ l7 then ((b_finish S l1 2 3).bind fun r29 => some r29) else (if (rd S 78 12) = 0 then b_del_l372 k75 k112 k162 k236 (b_del_l355 k75 k112 k162 k236 n) 10000 S l1 a4 l5 l7 0 else ((b_finish S l1 2 3).bind fun r49 => some r49)))
theorem b_del_l355_ok {k75 : SS → Int32 → Int32 → Nat → Int32 → Int32 → Option (SS)} (hk75 : ∀ (h : mH) (S : SS) (l1 : Int32) (l2 : Int32) (a4 : Nat) (l5 : Int32) (l6 : Int32) (y3 : Int32) (x7 : Option Value) (x8 : Option Value) (x9 : Option Value) (v : SS), a4 ∈ shW → cs h S → k75 S l1 l2 a4 l5 l6 = some v → mW (d + 1347) mm246 (75, [some (.ref 78), some (.int l1), some (.int l2), some (.int y3), some (.ref a4), some (.int l5), some (.int l6), x7, x8, x9], [], (h, q)) (mQ q v none)) {k112 : SS → Int32 → Int32 → Nat → Int32 → Int32 → Option (SS)} (hk112 : ∀ (h : mH) (S : SS) (l1 : Int32) (l2 : Int32) (a4 : Nat) (l5 : Int32) (l6 : Int32) (y3 : Int32) (x7 : Option Value) (x8 : Option Value) (x9 : Option Value) (v : SS), a4 ∈ shW → cs h S → k112 S l1 l2 a4 l5 l6 = some v → mW (d + 1347) mm246 (112, [some (.ref 78), some (.int l1), some (.int l2), some (.int y3), some (.ref a4), some (.int l5), some (.int l6), x7, x8, x9], [], (h, q)) (mQ q v none)) {k162 : SS → Int32 → Int32 → Nat → Int32 → Int32 → Int32 → Option (SS)} (hk162 : ∀ (h : mH) (S : SS) (l1 : Int32) (l2 : Int32) (a4 : Nat) (l5 : Int32) (l6 : Int32) (l7 : Int32) (y3 : Int32) (x8 : Option Value) (x9 : Option Value) (v : SS), a4 ∈ shW → cs h S → k162 S l1 l2 a4 l5 l6 l7 = some v → mW (d + 1347) mm246 (162, [some (.ref 78), some (.int l1), some (.int l2), some (.int y3), some (.ref a4), some (.int l5), some (.int l6), some (.int l7), x8, x9], [], (h, q)) (mQ q v none)) {k236 : SS → Int32 → Int32 → Nat → Int32 → Int32 → Option (SS)} (hk236 : ∀ (h : mH) (S : SS) (l1 : Int32) (l2 : Int32) (a4 : Nat) (l5 : Int32) (l7 : Int32) (y3 : Int32) (y6 : Int32) (x8 : Option Value) (x9 : Option Value) (v : SS), a4 ∈ shW → cs h S → k236 S l1 l2 a4 l5 l7 = some v → mW (d + 1347) mm246 (236, [some (.ref 78), some (.int l1), some (.int l2), some (.int y3), some (.ref a4), some (.int l5), some (.int y6), some (.int l7), x8, x9], [], (h, q)) (mQ q v none)) : ∀ (n : Nat), ∀ (h : mH) (S : SS) (l1 : Int32) (a4 : Nat) (l5 : Int32) (l7 : Int32) (y2 : Int32) (y3 : Int32) (y6 : Int32) (x8 : Option Value) (x9 : Option Value) (v : SS), a4 ∈ shW → cs h S → b_del_l355 k75 k112 k162 k236 n S l1 a4 l5 l7 = some v → mW (d + 1347) mm246 (355, [some (.ref 78), some (.int l1), some (.int y2), some (.int y3), some (.ref a4), some (.int l5), some (.int y6), some (.int l7), x8, x9], [], (h, q)) (mQ q v none) := by
  intro n
  induction n with
  | zero => intro h S l1 a4 l5 l7 y2 y3 y6 x8 x9 v ha4 hs hv; cases hv
  | succ n ih =>
    intro h S l1 a4 l5 l7 y2 y3 y6 x8 x9 v ha4 hs hv
    unfold b_del_l355 at hv
    refine mW.sn 2 (g' := (359, [some (.ref 78), some (.int l1), some (.int y2), some (.int y3), some (.ref a4), some (.int l5), some (.int y6), some (.int l7), x8, x9], [.int l5, .int l7], (h, q))) rfl ?_
    refine mW.br (g1 := (487, [some (.ref 78), some (.int l1), some (.int y2), some (.int y3), some (.ref a4), some (.int l5), some (.int y6), some (.int l7), x8, x9], [], (h, q))) (g2 := (362, [some (.ref 78), some (.int l1), some (.int y2), some (.int y3), some (.ref a4), some (.int l5), some (.int y6), some (.int l7), x8, x9], [], (h, q))) (c := l5 ≤ l7) rfl (fun hc28 => ?_) (fun hc28 => ?_)
    · rw [if_pos hc28] at hv
      refine mW.sn 4 (g' := (491, [some (.ref 78), some (.int l1), some (.int y2), some (.int y3), some (.ref a4), some (.int l5), some (.int y6), some (.int l7), x8, x9], [.int 3, .int 2, .int l1, .ref 78], (h, q))) rfl ?_
      cases hr29 : b_finish S l1 2 3 with
      | none => rw [hr29] at hv; cases hv
      | some r29 =>
        rw [hr29, o_bind] at hv
        refine sW.call rfl rfl rfl rfl (hs.rcv o78) (s237 hs hr29) ?_
        intro h30 hs30
        cases hv
        exact sW.fin hs30 rfl
    · rw [if_neg hc28] at hv
      refine mW.sn 1 (g' := (363, [some (.ref 78), some (.int l1), some (.int y2), some (.int y3), some (.ref a4), some (.int l5), some (.int y6), some (.int l7), x8, x9], [.ref 78], (h, q))) rfl ?_
      refine sW.getI rfl hs o78 rfl rfl ?_
      refine mW.br (g1 := (369, [some (.ref 78), some (.int l1), some (.int y2), some (.int y3), some (.ref a4), some (.int l5), some (.int y6), some (.int l7), x8, x9], [], (h, q))) (g2 := (487, [some (.ref 78), some (.int l1), some (.int y2), some (.int y3), some (.ref a4), some (.int l5), some (.int y6), some (.int l7), x8, x9], [], (h, q))) (c := (rd S 78 12) = 0) rfl (fun hc31 => ?_) (fun hc31 => ?_)
      · rw [if_pos hc31] at hv
        refine mW.sn 2 (g' := (372, [some (.ref 78), some (.int l1), some (.int y2), some (.int y3), some (.ref a4), some (.int l5), some (.int y6), some (.int l7), some (.int 0), x9], [], (h, q))) rfl ?_
        exact b_del_l372_ok hk75 hk112 hk162 hk236 ih _ _ _ _ _ _ _ _ _ _ _ _ _ ha4 hs hv
      · rw [if_neg hc31] at hv
        refine mW.sn 4 (g' := (491, [some (.ref 78), some (.int l1), some (.int y2), some (.int y3), some (.ref a4), some (.int l5), some (.int y6), some (.int l7), x8, x9], [.int 3, .int 2, .int l1, .ref 78], (h, q))) rfl ?_
        cases hr49 : b_finish S l1 2 3 with
        | none => rw [hr49] at hv; cases hv
        | some r49 =>
          rw [hr49, o_bind] at hv
          refine sW.call rfl rfl rfl rfl (hs.rcv o78) (s237 hs hr49) ?_
          intro h50 hs50
          cases hv
          exact sW.fin hs50 rfl
def b_del_l265 (k75 : SS → Int32 → Int32 → Nat → Int32 → Int32 → Option (SS)) (k112 : SS → Int32 → Int32 → Nat → Int32 → Int32 → Option (SS)) (k162 : SS → Int32 → Int32 → Nat → Int32 → Int32 → Int32 → Option (SS)) (k236 : SS → Int32 → Int32 → Nat → Int32 → Int32 → Option (SS)) : Nat → SS → Int32 → Int32 → Nat → Int32 → Int32 → Int32 → Int32 → Option (SS)
  | 0, _, _, _, _, _, _, _, _ => none
  | n + 1, S, l1, l2, a4, l5, l7, l8, l9 => (if l9 ≤ 0 then ((iset (S 97) l9 l8).bind fun z55 => k236 (up S 97 z55) l1 l2 a4 l5 (l7 + 1)) else ((iget (S 97) (l9 - 1)).bind fun b57 => ((r_cmp (S a4) (S a4) 70 b57 l8).bind fun r58 => (if 0 ≤ r58 then ((iset (S 97) l9 l8).bind fun z61 => k236 (up S 97 z61) l1 l2 a4 l5 (l7 + 1)) else ((iset (S 97) l9 b57).bind fun z63 => b_del_l265 k75 k112 k162 k236 n (up S 97 z63) l1 l2 a4 l5 l7 l8 (l9 + (-1)))))))
theorem b_del_l265_ok {k75 : SS → Int32 → Int32 → Nat → Int32 → Int32 → Option (SS)} (hk75 : ∀ (h : mH) (S : SS) (l1 : Int32) (l2 : Int32) (a4 : Nat) (l5 : Int32) (l6 : Int32) (y3 : Int32) (x7 : Option Value) (x8 : Option Value) (x9 : Option Value) (v : SS), a4 ∈ shW → cs h S → k75 S l1 l2 a4 l5 l6 = some v → mW (d + 1347) mm246 (75, [some (.ref 78), some (.int l1), some (.int l2), some (.int y3), some (.ref a4), some (.int l5), some (.int l6), x7, x8, x9], [], (h, q)) (mQ q v none)) {k112 : SS → Int32 → Int32 → Nat → Int32 → Int32 → Option (SS)} (hk112 : ∀ (h : mH) (S : SS) (l1 : Int32) (l2 : Int32) (a4 : Nat) (l5 : Int32) (l6 : Int32) (y3 : Int32) (x7 : Option Value) (x8 : Option Value) (x9 : Option Value) (v : SS), a4 ∈ shW → cs h S → k112 S l1 l2 a4 l5 l6 = some v → mW (d + 1347) mm246 (112, [some (.ref 78), some (.int l1), some (.int l2), some (.int y3), some (.ref a4), some (.int l5), some (.int l6), x7, x8, x9], [], (h, q)) (mQ q v none)) {k162 : SS → Int32 → Int32 → Nat → Int32 → Int32 → Int32 → Option (SS)} (hk162 : ∀ (h : mH) (S : SS) (l1 : Int32) (l2 : Int32) (a4 : Nat) (l5 : Int32) (l6 : Int32) (l7 : Int32) (y3 : Int32) (x8 : Option Value) (x9 : Option Value) (v : SS), a4 ∈ shW → cs h S → k162 S l1 l2 a4 l5 l6 l7 = some v → mW (d + 1347) mm246 (162, [some (.ref 78), some (.int l1), some (.int l2), some (.int y3), some (.ref a4), some (.int l5), some (.int l6), some (.int l7), x8, x9], [], (h, q)) (mQ q v none)) {k236 : SS → Int32 → Int32 → Nat → Int32 → Int32 → Option (SS)} (hk236 : ∀ (h : mH) (S : SS) (l1 : Int32) (l2 : Int32) (a4 : Nat) (l5 : Int32) (l7 : Int32) (y3 : Int32) (y6 : Int32) (x8 : Option Value) (x9 : Option Value) (v : SS), a4 ∈ shW → cs h S → k236 S l1 l2 a4 l5 l7 = some v → mW (d + 1347) mm246 (236, [some (.ref 78), some (.int l1), some (.int l2), some (.int y3), some (.ref a4), some (.int l5), some (.int y6), some (.int l7), x8, x9], [], (h, q)) (mQ q v none)) : ∀ (n : Nat), ∀ (h : mH) (S : SS) (l1 : Int32) (l2 : Int32) (a4 : Nat) (l5 : Int32) (l7 : Int32) (l8 : Int32) (l9 : Int32) (y3 : Int32) (y6 : Int32) (v : SS), a4 ∈ shW → cs h S → b_del_l265 k75 k112 k162 k236 n S l1 l2 a4 l5 l7 l8 l9 = some v → mW (d + 1347) mm246 (265, [some (.ref 78), some (.int l1), some (.int l2), some (.int y3), some (.ref a4), some (.int l5), some (.int y6), some (.int l7), some (.int l8), some (.int l9)], [], (h, q)) (mQ q v none) := by
  intro n
  induction n with
  | zero => intro h S l1 l2 a4 l5 l7 l8 l9 y3 y6 v ha4 hs hv; cases hv
  | succ n ih =>
    intro h S l1 l2 a4 l5 l7 l8 l9 y3 y6 v ha4 hs hv
    unfold b_del_l265 at hv
    refine mW.sn 1 (g' := (267, [some (.ref 78), some (.int l1), some (.int l2), some (.int y3), some (.ref a4), some (.int l5), some (.int y6), some (.int l7), some (.int l8), some (.int l9)], [.int l9], (h, q))) rfl ?_
    refine mW.br (g1 := (313, [some (.ref 78), some (.int l1), some (.int l2), some (.int y3), some (.ref a4), some (.int l5), some (.int y6), some (.int l7), some (.int l8), some (.int l9)], [], (h, q))) (g2 := (270, [some (.ref 78), some (.int l1), some (.int l2), some (.int y3), some (.ref a4), some (.int l5), some (.int y6), some (.int l7), some (.int l8), some (.int l9)], [], (h, q))) (c := l9 ≤ 0) rfl (fun hc54 => ?_) (fun hc54 => ?_)
    · rw [if_pos hc54] at hv
      refine mW.sn 1 (g' := (314, [some (.ref 78), some (.int l1), some (.int l2), some (.int y3), some (.ref a4), some (.int l5), some (.int y6), some (.int l7), some (.int l8), some (.int l9)], [.ref 78], (h, q))) rfl ?_
      refine sW.getR rfl hs o78 rfl rfl ?_
      refine mW.sn 2 (g' := (321, [some (.ref 78), some (.int l1), some (.int l2), some (.int y3), some (.ref a4), some (.int l5), some (.int y6), some (.int l7), some (.int l8), some (.int l9)], [.int l8, .int l9, .ref 97], (h, q))) rfl ?_
      cases hr55 : iset (S 97) l9 l8 with
      | none => rw [hr55] at hv; cases hv
      | some z55 =>
        rw [hr55, o_bind] at hv
        refine sW.iast rfl hs (by decide) hr55 ?_
        intro h56 hs56
        refine mW.sn 2 (g' := (236, [some (.ref 78), some (.int l1), some (.int l2), some (.int y3), some (.ref a4), some (.int l5), some (.int y6), some (.int (l7 + 1)), some (.int l8), some (.int l9)], [], (h56, q))) rfl ?_
        exact hk236 _ _ _ _ _ _ _ _ _ _ _ _ ha4 hs56 hv
    · rw [if_neg hc54] at hv
      refine mW.sn 2 (g' := (273, [some (.ref 78), some (.int l1), some (.int l2), some (.int y3), some (.ref a4), some (.int l5), some (.int y6), some (.int l7), some (.int l8), some (.int l9)], [.ref 78, .ref a4], (h, q))) rfl ?_
      refine sW.getR rfl hs o78 rfl rfl ?_
      refine mW.sn 3 (g' := (280, [some (.ref 78), some (.int l1), some (.int l2), some (.int y3), some (.ref a4), some (.int l5), some (.int y6), some (.int l7), some (.int l8), some (.int l9)], [.int (l9 - 1), .ref 97, .ref a4], (h, q))) rfl ?_
      cases hr57 : iget (S 97) (l9 - 1) with
      | none => rw [hr57] at hv; cases hv
      | some b57 =>
        rw [hr57, o_bind] at hv
        refine sW.iald rfl hs (by decide) hr57 ?_
        refine mW.sn 2 (g' := (285, [some (.ref 78), some (.int l1), some (.int l2), some (.int y3), some (.ref a4), some (.int l5), some (.int y6), some (.int l7), some (.int l8), some (.int l9)], [.int l8, .ref a4, .int b57, .ref a4], (h, q))) rfl ?_
        cases hr58 : r_cmp (S a4) (S a4) 70 b57 l8 with
        | none => rw [hr58] at hv; cases hv
        | some r58 =>
          rw [hr58, o_bind] at hv
          refine sW.call rfl rfl rfl rfl rfl (sW.of hs (r_cmp_ok (hs.ar (shW_A _ ha4)) (hs.ar (shW_A _ ha4)) 70 _ (by omega) _ _ _ hr58)) ?_
          intro h59 hs59
          refine mW.br (g1 := (313, [some (.ref 78), some (.int l1), some (.int l2), some (.int y3), some (.ref a4), some (.int l5), some (.int y6), some (.int l7), some (.int l8), some (.int l9)], [], (h59, q))) (g2 := (291, [some (.ref 78), some (.int l1), some (.int l2), some (.int y3), some (.ref a4), some (.int l5), some (.int y6), some (.int l7), some (.int l8), some (.int l9)], [], (h59, q))) (c := 0 ≤ r58) rfl (fun hc60 => ?_) (fun hc60 => ?_)
          · rw [if_pos hc60] at hv
            refine mW.sn 1 (g' := (314, [some (.ref 78), some (.int l1), some (.int l2), some (.int y3), some (.ref a4), some (.int l5), some (.int y6), some (.int l7), some (.int l8), some (.int l9)], [.ref 78], (h59, q))) rfl ?_
            refine sW.getR rfl hs59 o78 rfl rfl ?_
            refine mW.sn 2 (g' := (321, [some (.ref 78), some (.int l1), some (.int l2), some (.int y3), some (.ref a4), some (.int l5), some (.int y6), some (.int l7), some (.int l8), some (.int l9)], [.int l8, .int l9, .ref 97], (h59, q))) rfl ?_
            cases hr61 : iset (S 97) l9 l8 with
            | none => rw [hr61] at hv; cases hv
            | some z61 =>
              rw [hr61, o_bind] at hv
              refine sW.iast rfl hs59 (by decide) hr61 ?_
              intro h62 hs62
              refine mW.sn 2 (g' := (236, [some (.ref 78), some (.int l1), some (.int l2), some (.int y3), some (.ref a4), some (.int l5), some (.int y6), some (.int (l7 + 1)), some (.int l8), some (.int l9)], [], (h62, q))) rfl ?_
              exact hk236 _ _ _ _ _ _ _ _ _ _ _ _ ha4 hs62 hv
          · rw [if_neg hc60] at hv
            refine mW.sn 1 (g' := (292, [some (.ref 78), some (.int l1), some (.int l2), some (.int y3), some (.ref a4), some (.int l5), some (.int y6), some (.int l7), some (.int l8), some (.int l9)], [.ref 78], (h59, q))) rfl ?_
            refine sW.getR rfl hs59 o78 rfl rfl ?_
            refine mW.sn 2 (g' := (298, [some (.ref 78), some (.int l1), some (.int l2), some (.int y3), some (.ref a4), some (.int l5), some (.int y6), some (.int l7), some (.int l8), some (.int l9)], [.ref 78, .int l9, .ref 97], (h59, q))) rfl ?_
            refine sW.getR rfl hs59 o78 rfl rfl ?_
            refine mW.sn 3 (g' := (305, [some (.ref 78), some (.int l1), some (.int l2), some (.int y3), some (.ref a4), some (.int l5), some (.int y6), some (.int l7), some (.int l8), some (.int l9)], [.int (l9 - 1), .ref 97, .int l9, .ref 97], (h59, q))) rfl ?_
            refine sW.iald rfl hs59 (by decide) hr57 ?_
            cases hr63 : iset (S 97) l9 b57 with
            | none => rw [hr63] at hv; cases hv
            | some z63 =>
              rw [hr63, o_bind] at hv
              refine sW.iast rfl hs59 (by decide) hr63 ?_
              intro h64 hs64
              refine mW.sn 2 (g' := (265, [some (.ref 78), some (.int l1), some (.int l2), some (.int y3), some (.ref a4), some (.int l5), some (.int y6), some (.int l7), some (.int l8), some (.int (l9 + (-1)))], [], (h64, q))) rfl ?_
              exact ih _ _ _ _ _ _ _ _ _ _ _ _ ha4 hs64 hv
def b_del_l236 (k75 : SS → Int32 → Int32 → Nat → Int32 → Int32 → Option (SS)) (k112 : SS → Int32 → Int32 → Nat → Int32 → Int32 → Option (SS)) (k162 : SS → Int32 → Int32 → Nat → Int32 → Int32 → Int32 → Option (SS)) : Nat → SS → Int32 → Int32 → Nat → Int32 → Int32 → Option (SS)
  | 0, _, _, _, _, _, _ => none
  | n + 1, S, l1, l2, a4, l5, l7 => (if l5 ≤ l7 then (if (rd S 90 2) = 0 then ((iget sh81 l2).bind fun b25 => ((q_copy S b25.toNatClampNeg 0).bind fun r26 => b_del_l355 k75 k112 k162 (b_del_l236 k75 k112 k162 n) 10000 r26 l1 a4 l5 0)) else b_del_l355 k75 k112 k162 (b_del_l236 k75 k112 k162 n) 10000 S l1 a4 l5 0) else (if (rd S 78 12) = 0 then ((r_element (S a4) 0 l7.toInt64).bind fun r52 => b_del_l265 k75 k112 k162 (b_del_l236 k75 k112 k162 n) 10000 S l1 l2 a4 l5 l7 r52 l7) else (if (rd S 90 2) = 0 then ((iget sh81 l2).bind fun b66 => ((q_copy S b66.toNatClampNeg 0).bind fun r67 => b_del_l355 k75 k112 k162 (b_del_l236 k75 k112 k162 n) 10000 r67 l1 a4 l5 0)) else b_del_l355 k75 k112 k162 (b_del_l236 k75 k112 k162 n) 10000 S l1 a4 l5 0)))
theorem b_del_l236_ok {k75 : SS → Int32 → Int32 → Nat → Int32 → Int32 → Option (SS)} (hk75 : ∀ (h : mH) (S : SS) (l1 : Int32) (l2 : Int32) (a4 : Nat) (l5 : Int32) (l6 : Int32) (y3 : Int32) (x7 : Option Value) (x8 : Option Value) (x9 : Option Value) (v : SS), a4 ∈ shW → cs h S → k75 S l1 l2 a4 l5 l6 = some v → mW (d + 1347) mm246 (75, [some (.ref 78), some (.int l1), some (.int l2), some (.int y3), some (.ref a4), some (.int l5), some (.int l6), x7, x8, x9], [], (h, q)) (mQ q v none)) {k112 : SS → Int32 → Int32 → Nat → Int32 → Int32 → Option (SS)} (hk112 : ∀ (h : mH) (S : SS) (l1 : Int32) (l2 : Int32) (a4 : Nat) (l5 : Int32) (l6 : Int32) (y3 : Int32) (x7 : Option Value) (x8 : Option Value) (x9 : Option Value) (v : SS), a4 ∈ shW → cs h S → k112 S l1 l2 a4 l5 l6 = some v → mW (d + 1347) mm246 (112, [some (.ref 78), some (.int l1), some (.int l2), some (.int y3), some (.ref a4), some (.int l5), some (.int l6), x7, x8, x9], [], (h, q)) (mQ q v none)) {k162 : SS → Int32 → Int32 → Nat → Int32 → Int32 → Int32 → Option (SS)} (hk162 : ∀ (h : mH) (S : SS) (l1 : Int32) (l2 : Int32) (a4 : Nat) (l5 : Int32) (l6 : Int32) (l7 : Int32) (y3 : Int32) (x8 : Option Value) (x9 : Option Value) (v : SS), a4 ∈ shW → cs h S → k162 S l1 l2 a4 l5 l6 l7 = some v → mW (d + 1347) mm246 (162, [some (.ref 78), some (.int l1), some (.int l2), some (.int y3), some (.ref a4), some (.int l5), some (.int l6), some (.int l7), x8, x9], [], (h, q)) (mQ q v none)) : ∀ (n : Nat), ∀ (h : mH) (S : SS) (l1 : Int32) (l2 : Int32) (a4 : Nat) (l5 : Int32) (l7 : Int32) (y3 : Int32) (y6 : Int32) (x8 : Option Value) (x9 : Option Value) (v : SS), a4 ∈ shW → cs h S → b_del_l236 k75 k112 k162 n S l1 l2 a4 l5 l7 = some v → mW (d + 1347) mm246 (236, [some (.ref 78), some (.int l1), some (.int l2), some (.int y3), some (.ref a4), some (.int l5), some (.int y6), some (.int l7), x8, x9], [], (h, q)) (mQ q v none) := by
  intro n
  induction n with
  | zero => intro h S l1 l2 a4 l5 l7 y3 y6 x8 x9 v ha4 hs hv; cases hv
  | succ n ih =>
    intro h S l1 l2 a4 l5 l7 y3 y6 x8 x9 v ha4 hs hv
    unfold b_del_l236 at hv
    refine mW.sn 2 (g' := (240, [some (.ref 78), some (.int l1), some (.int l2), some (.int y3), some (.ref a4), some (.int l5), some (.int y6), some (.int l7), x8, x9], [.int l5, .int l7], (h, q))) rfl ?_
    refine mW.br (g1 := (328, [some (.ref 78), some (.int l1), some (.int l2), some (.int y3), some (.ref a4), some (.int l5), some (.int y6), some (.int l7), x8, x9], [], (h, q))) (g2 := (243, [some (.ref 78), some (.int l1), some (.int l2), some (.int y3), some (.ref a4), some (.int l5), some (.int y6), some (.int l7), x8, x9], [], (h, q))) (c := l5 ≤ l7) rfl (fun hc23 => ?_) (fun hc23 => ?_)
    · rw [if_pos hc23] at hv
      refine mW.sn 1 (g' := (329, [some (.ref 78), some (.int l1), some (.int l2), some (.int y3), some (.ref a4), some (.int l5), some (.int y6), some (.int l7), x8, x9], [.ref 78], (h, q))) rfl ?_
      refine sW.getR rfl hs o78 rfl rfl ?_
      refine sW.getI rfl hs o90 rfl rfl ?_
      refine mW.br (g1 := (338, [some (.ref 78), some (.int l1), some (.int l2), some (.int y3), some (.ref a4), some (.int l5), some (.int y6), some (.int l7), x8, x9], [], (h, q))) (g2 := (352, [some (.ref 78), some (.int l1), some (.int l2), some (.int y3), some (.ref a4), some (.int l5), some (.int y6), some (.int l7), x8, x9], [], (h, q))) (c := (rd S 90 2) = 0) rfl (fun hc24 => ?_) (fun hc24 => ?_)
      · rw [if_pos hc24] at hv
        refine mW.sn 1 (g' := (339, [some (.ref 78), some (.int l1), some (.int l2), some (.int y3), some (.ref a4), some (.int l5), some (.int y6), some (.int l7), x8, x9], [.ref 78], (h, q))) rfl ?_
        refine sW.getR rfl hs o78 rfl rfl ?_
        refine mW.sn 1 (g' := (343, [some (.ref 78), some (.int l1), some (.int l2), some (.int y3), some (.ref a4), some (.int l5), some (.int y6), some (.int l7), x8, x9], [.ref 78, .ref 90], (h, q))) rfl ?_
        refine sW.getR rfl hs o78 rfl rfl ?_
        refine mW.sn 1 (g' := (347, [some (.ref 78), some (.int l1), some (.int l2), some (.int y3), some (.ref a4), some (.int l5), some (.int y6), some (.int l7), x8, x9], [.int l2, .ref 81, .ref 90], (h, q))) rfl ?_
        cases hr25 : iget sh81 l2 with
        | none => rw [hr25] at hv; cases hv
        | some b25 =>
          rw [hr25, o_bind] at hv
          refine sW.aald81 rfl hs hr25 ?_
          refine mW.sn 1 (g' := (349, [some (.ref 78), some (.int l1), some (.int l2), some (.int y3), some (.ref a4), some (.int l5), some (.int y6), some (.int l7), x8, x9], [.int 0, .ref b25.toNatClampNeg, .ref 90], (h, q))) rfl ?_
          cases hr26 : q_copy S b25.toNatClampNeg 0 with
          | none => rw [hr26] at hv; cases hv
          | some r26 =>
            rw [hr26, o_bind] at hv
            refine sW.call rfl rfl rfl rfl (hs.rcv o90) (s243 (shW_A _ (ok81 hr25)) hs hr26) ?_
            intro h27 hs27
            refine mW.sn 2 (g' := (355, [some (.ref 78), some (.int l1), some (.int l2), some (.int y3), some (.ref a4), some (.int l5), some (.int y6), some (.int 0), x8, x9], [], (h27, q))) rfl ?_
            exact b_del_l355_ok hk75 hk112 hk162 ih _ _ _ _ _ _ _ _ _ _ _ _ _ ha4 hs27 hv
      · rw [if_neg hc24] at hv
        refine mW.sn 2 (g' := (355, [some (.ref 78), some (.int l1), some (.int l2), some (.int y3), some (.ref a4), some (.int l5), some (.int y6), some (.int 0), x8, x9], [], (h, q))) rfl ?_
        exact b_del_l355_ok hk75 hk112 hk162 ih _ _ _ _ _ _ _ _ _ _ _ _ _ ha4 hs hv
    · rw [if_neg hc23] at hv
      refine mW.sn 1 (g' := (244, [some (.ref 78), some (.int l1), some (.int l2), some (.int y3), some (.ref a4), some (.int l5), some (.int y6), some (.int l7), x8, x9], [.ref 78], (h, q))) rfl ?_
      refine sW.getI rfl hs o78 rfl rfl ?_
      refine mW.br (g1 := (250, [some (.ref 78), some (.int l1), some (.int l2), some (.int y3), some (.ref a4), some (.int l5), some (.int y6), some (.int l7), x8, x9], [], (h, q))) (g2 := (328, [some (.ref 78), some (.int l1), some (.int l2), some (.int y3), some (.ref a4), some (.int l5), some (.int y6), some (.int l7), x8, x9], [], (h, q))) (c := (rd S 78 12) = 0) rfl (fun hc51 => ?_) (fun hc51 => ?_)
      · rw [if_pos hc51] at hv
        refine mW.sn 4 (g' := (256, [some (.ref 78), some (.int l1), some (.int l2), some (.int y3), some (.ref a4), some (.int l5), some (.int y6), some (.int l7), x8, x9], [.long l7.toInt64, .int 0, .ref a4], (h, q))) rfl ?_
        cases hr52 : r_element (S a4) 0 l7.toInt64 with
        | none => rw [hr52] at hv; cases hv
        | some r52 =>
          rw [hr52, o_bind] at hv
          refine sW.call rfl rfl rfl rfl rfl (sW.of hs (x247 (hs.ar (shW_A _ ha4)) hr52)) ?_
          intro h53 hs53
          refine mW.sn 3 (g' := (265, [some (.ref 78), some (.int l1), some (.int l2), some (.int y3), some (.ref a4), some (.int l5), some (.int y6), some (.int l7), some (.int r52), some (.int l7)], [], (h53, q))) rfl ?_
          exact b_del_l265_ok hk75 hk112 hk162 ih _ _ _ _ _ _ _ _ _ _ _ _ _ ha4 hs53 hv
      · rw [if_neg hc51] at hv
        refine mW.sn 1 (g' := (329, [some (.ref 78), some (.int l1), some (.int l2), some (.int y3), some (.ref a4), some (.int l5), some (.int y6), some (.int l7), x8, x9], [.ref 78], (h, q))) rfl ?_
        refine sW.getR rfl hs o78 rfl rfl ?_
        refine sW.getI rfl hs o90 rfl rfl ?_
        refine mW.br (g1 := (338, [some (.ref 78), some (.int l1), some (.int l2), some (.int y3), some (.ref a4), some (.int l5), some (.int y6), some (.int l7), x8, x9], [], (h, q))) (g2 := (352, [some (.ref 78), some (.int l1), some (.int l2), some (.int y3), some (.ref a4), some (.int l5), some (.int y6), some (.int l7), x8, x9], [], (h, q))) (c := (rd S 90 2) = 0) rfl (fun hc65 => ?_) (fun hc65 => ?_)
        · rw [if_pos hc65] at hv
          refine mW.sn 1 (g' := (339, [some (.ref 78), some (.int l1), some (.int l2), some (.int y3), some (.ref a4), some (.int l5), some (.int y6), some (.int l7), x8, x9], [.ref 78], (h, q))) rfl ?_
          refine sW.getR rfl hs o78 rfl rfl ?_
          refine mW.sn 1 (g' := (343, [some (.ref 78), some (.int l1), some (.int l2), some (.int y3), some (.ref a4), some (.int l5), some (.int y6), some (.int l7), x8, x9], [.ref 78, .ref 90], (h, q))) rfl ?_
          refine sW.getR rfl hs o78 rfl rfl ?_
          refine mW.sn 1 (g' := (347, [some (.ref 78), some (.int l1), some (.int l2), some (.int y3), some (.ref a4), some (.int l5), some (.int y6), some (.int l7), x8, x9], [.int l2, .ref 81, .ref 90], (h, q))) rfl ?_
          cases hr66 : iget sh81 l2 with
          | none => rw [hr66] at hv; cases hv
          | some b66 =>
            rw [hr66, o_bind] at hv
            refine sW.aald81 rfl hs hr66 ?_
            refine mW.sn 1 (g' := (349, [some (.ref 78), some (.int l1), some (.int l2), some (.int y3), some (.ref a4), some (.int l5), some (.int y6), some (.int l7), x8, x9], [.int 0, .ref b66.toNatClampNeg, .ref 90], (h, q))) rfl ?_
            cases hr67 : q_copy S b66.toNatClampNeg 0 with
            | none => rw [hr67] at hv; cases hv
            | some r67 =>
              rw [hr67, o_bind] at hv
              refine sW.call rfl rfl rfl rfl (hs.rcv o90) (s243 (shW_A _ (ok81 hr66)) hs hr67) ?_
              intro h68 hs68
              refine mW.sn 2 (g' := (355, [some (.ref 78), some (.int l1), some (.int l2), some (.int y3), some (.ref a4), some (.int l5), some (.int y6), some (.int 0), x8, x9], [], (h68, q))) rfl ?_
              exact b_del_l355_ok hk75 hk112 hk162 ih _ _ _ _ _ _ _ _ _ _ _ _ _ ha4 hs68 hv
        · rw [if_neg hc65] at hv
          refine mW.sn 2 (g' := (355, [some (.ref 78), some (.int l1), some (.int l2), some (.int y3), some (.ref a4), some (.int l5), some (.int y6), some (.int 0), x8, x9], [], (h, q))) rfl ?_
          exact b_del_l355_ok hk75 hk112 hk162 ih _ _ _ _ _ _ _ _ _ _ _ _ _ ha4 hs hv
def b_del_l162 (k75 : SS → Int32 → Int32 → Nat → Int32 → Int32 → Option (SS)) (k112 : SS → Int32 → Int32 → Nat → Int32 → Int32 → Option (SS)) : Nat → SS → Int32 → Int32 → Nat → Int32 → Int32 → Int32 → Option (SS)
  | 0, _, _, _, _, _, _, _ => none
  | n + 1, S, l1, l2, a4, l5, l6, l7 => (if l5 ≤ l7 then (if (100 : Int32) < l5 then (if (rd S 78 12) = 0 then b_del_l236 k75 k112 (b_del_l162 k75 k112 n) 10000 (wr S 90 2 1) l1 l2 a4 0 0 else b_del_l236 k75 k112 (b_del_l162 k75 k112 n) 10000 S l1 l2 a4 l5 0) else (if l6 ≤ (100 : Int32) then b_del_l236 k75 k112 (b_del_l162 k75 k112 n) 10000 S l1 l2 a4 l5 0 else (if (rd S 78 12) = 0 then b_del_l236 k75 k112 (b_del_l162 k75 k112 n) 10000 (wr S 90 2 1) l1 l2 a4 0 0 else b_del_l236 k75 k112 (b_del_l162 k75 k112 n) 10000 S l1 l2 a4 l5 0))) else (if (rd S 78 12) = 0 then ((r_element (S a4) 0 l7.toInt64).bind fun r73 => ((r_many (S a4) r73).bind fun r75 => b_del_l162 k75 k112 n S l1 l2 a4 l5 (l6 + r75) (l7 + 1))) else (if (100 : Int32) < l5 then b_del_l236 k75 k112 (b_del_l162 k75 k112 n) 10000 S l1 l2 a4 l5 0 else (if l6 ≤ (100 : Int32) then b_del_l236 k75 k112 (b_del_l162 k75 k112 n) 10000 S l1 l2 a4 l5 0 else b_del_l236 k75 k112 (b_del_l162 k75 k112 n) 10000 S l1 l2 a4 l5 0))))
theorem b_del_l162_ok {k75 : SS → Int32 → Int32 → Nat → Int32 → Int32 → Option (SS)} (hk75 : ∀ (h : mH) (S : SS) (l1 : Int32) (l2 : Int32) (a4 : Nat) (l5 : Int32) (l6 : Int32) (y3 : Int32) (x7 : Option Value) (x8 : Option Value) (x9 : Option Value) (v : SS), a4 ∈ shW → cs h S → k75 S l1 l2 a4 l5 l6 = some v → mW (d + 1347) mm246 (75, [some (.ref 78), some (.int l1), some (.int l2), some (.int y3), some (.ref a4), some (.int l5), some (.int l6), x7, x8, x9], [], (h, q)) (mQ q v none)) {k112 : SS → Int32 → Int32 → Nat → Int32 → Int32 → Option (SS)} (hk112 : ∀ (h : mH) (S : SS) (l1 : Int32) (l2 : Int32) (a4 : Nat) (l5 : Int32) (l6 : Int32) (y3 : Int32) (x7 : Option Value) (x8 : Option Value) (x9 : Option Value) (v : SS), a4 ∈ shW → cs h S → k112 S l1 l2 a4 l5 l6 = some v → mW (d + 1347) mm246 (112, [some (.ref 78), some (.int l1), some (.int l2), some (.int y3), some (.ref a4), some (.int l5), some (.int l6), x7, x8, x9], [], (h, q)) (mQ q v none)) : ∀ (n : Nat), ∀ (h : mH) (S : SS) (l1 : Int32) (l2 : Int32) (a4 : Nat) (l5 : Int32) (l6 : Int32) (l7 : Int32) (y3 : Int32) (x8 : Option Value) (x9 : Option Value) (v : SS), a4 ∈ shW → cs h S → b_del_l162 k75 k112 n S l1 l2 a4 l5 l6 l7 = some v → mW (d + 1347) mm246 (162, [some (.ref 78), some (.int l1), some (.int l2), some (.int y3), some (.ref a4), some (.int l5), some (.int l6), some (.int l7), x8, x9], [], (h, q)) (mQ q v none) := by
  intro n
  induction n with
  | zero => intro h S l1 l2 a4 l5 l6 l7 y3 x8 x9 v ha4 hs hv; cases hv
  | succ n ih =>
    intro h S l1 l2 a4 l5 l6 l7 y3 x8 x9 v ha4 hs hv
    unfold b_del_l162 at hv
    refine mW.sn 2 (g' := (166, [some (.ref 78), some (.int l1), some (.int l2), some (.int y3), some (.ref a4), some (.int l5), some (.int l6), some (.int l7), x8, x9], [.int l5, .int l7], (h, q))) rfl ?_
    refine mW.br (g1 := (201, [some (.ref 78), some (.int l1), some (.int l2), some (.int y3), some (.ref a4), some (.int l5), some (.int l6), some (.int l7), x8, x9], [], (h, q))) (g2 := (169, [some (.ref 78), some (.int l1), some (.int l2), some (.int y3), some (.ref a4), some (.int l5), some (.int l6), some (.int l7), x8, x9], [], (h, q))) (c := l5 ≤ l7) rfl (fun hc19 => ?_) (fun hc19 => ?_)
    · rw [if_pos hc19] at hv
      refine mW.sn 2 (g' := (205, [some (.ref 78), some (.int l1), some (.int l2), some (.int y3), some (.ref a4), some (.int l5), some (.int l6), some (.int l7), x8, x9], [.int 100, .int l5], (h, q))) rfl ?_
      refine mW.br (g1 := (215, [some (.ref 78), some (.int l1), some (.int l2), some (.int y3), some (.ref a4), some (.int l5), some (.int l6), some (.int l7), x8, x9], [], (h, q))) (g2 := (208, [some (.ref 78), some (.int l1), some (.int l2), some (.int y3), some (.ref a4), some (.int l5), some (.int l6), some (.int l7), x8, x9], [], (h, q))) (c := (100 : Int32) < l5) rfl (fun hc20 => ?_) (fun hc20 => ?_)
      · rw [if_pos hc20] at hv
        refine mW.sn 1 (g' := (216, [some (.ref 78), some (.int l1), some (.int l2), some (.int y3), some (.ref a4), some (.int l5), some (.int l6), some (.int l7), x8, x9], [.ref 78], (h, q))) rfl ?_
        refine sW.getI rfl hs o78 rfl rfl ?_
        refine mW.br (g1 := (222, [some (.ref 78), some (.int l1), some (.int l2), some (.int y3), some (.ref a4), some (.int l5), some (.int l6), some (.int l7), x8, x9], [], (h, q))) (g2 := (233, [some (.ref 78), some (.int l1), some (.int l2), some (.int y3), some (.ref a4), some (.int l5), some (.int l6), some (.int l7), x8, x9], [], (h, q))) (c := (rd S 78 12) = 0) rfl (fun hc21 => ?_) (fun hc21 => ?_)
        · rw [if_pos hc21] at hv
          refine mW.sn 1 (g' := (223, [some (.ref 78), some (.int l1), some (.int l2), some (.int y3), some (.ref a4), some (.int l5), some (.int l6), some (.int l7), x8, x9], [.ref 78], (h, q))) rfl ?_
          refine sW.getR rfl hs o78 rfl rfl ?_
          refine mW.sn 1 (g' := (227, [some (.ref 78), some (.int l1), some (.int l2), some (.int y3), some (.ref a4), some (.int l5), some (.int l6), some (.int l7), x8, x9], [.int 1, .ref 90], (h, q))) rfl ?_
          refine sW.putZ rfl hs o90 rfl (by decide) ?_
          intro h22 hs22
          refine mW.sn 4 (g' := (236, [some (.ref 78), some (.int l1), some (.int l2), some (.int y3), some (.ref a4), some (.int 0), some (.int l6), some (.int 0), x8, x9], [], (h22, q))) rfl ?_
          exact b_del_l236_ok hk75 hk112 ih _ _ _ _ _ _ _ _ _ _ _ _ _ ha4 hs22 hv
        · rw [if_neg hc21] at hv
          refine mW.sn 2 (g' := (236, [some (.ref 78), some (.int l1), some (.int l2), some (.int y3), some (.ref a4), some (.int l5), some (.int l6), some (.int 0), x8, x9], [], (h, q))) rfl ?_
          exact b_del_l236_ok hk75 hk112 ih _ _ _ _ _ _ _ _ _ _ _ _ _ ha4 hs hv
      · rw [if_neg hc20] at hv
        refine mW.sn 2 (g' := (212, [some (.ref 78), some (.int l1), some (.int l2), some (.int y3), some (.ref a4), some (.int l5), some (.int l6), some (.int l7), x8, x9], [.int 100, .int l6], (h, q))) rfl ?_
        refine mW.br (g1 := (233, [some (.ref 78), some (.int l1), some (.int l2), some (.int y3), some (.ref a4), some (.int l5), some (.int l6), some (.int l7), x8, x9], [], (h, q))) (g2 := (215, [some (.ref 78), some (.int l1), some (.int l2), some (.int y3), some (.ref a4), some (.int l5), some (.int l6), some (.int l7), x8, x9], [], (h, q))) (c := l6 ≤ (100 : Int32)) rfl (fun hc69 => ?_) (fun hc69 => ?_)
        · rw [if_pos hc69] at hv
          refine mW.sn 2 (g' := (236, [some (.ref 78), some (.int l1), some (.int l2), some (.int y3), some (.ref a4), some (.int l5), some (.int l6), some (.int 0), x8, x9], [], (h, q))) rfl ?_
          exact b_del_l236_ok hk75 hk112 ih _ _ _ _ _ _ _ _ _ _ _ _ _ ha4 hs hv
        · rw [if_neg hc69] at hv
          refine mW.sn 1 (g' := (216, [some (.ref 78), some (.int l1), some (.int l2), some (.int y3), some (.ref a4), some (.int l5), some (.int l6), some (.int l7), x8, x9], [.ref 78], (h, q))) rfl ?_
          refine sW.getI rfl hs o78 rfl rfl ?_
          refine mW.br (g1 := (222, [some (.ref 78), some (.int l1), some (.int l2), some (.int y3), some (.ref a4), some (.int l5), some (.int l6), some (.int l7), x8, x9], [], (h, q))) (g2 := (233, [some (.ref 78), some (.int l1), some (.int l2), some (.int y3), some (.ref a4), some (.int l5), some (.int l6), some (.int l7), x8, x9], [], (h, q))) (c := (rd S 78 12) = 0) rfl (fun hc70 => ?_) (fun hc70 => ?_)
          · rw [if_pos hc70] at hv
            refine mW.sn 1 (g' := (223, [some (.ref 78), some (.int l1), some (.int l2), some (.int y3), some (.ref a4), some (.int l5), some (.int l6), some (.int l7), x8, x9], [.ref 78], (h, q))) rfl ?_
            refine sW.getR rfl hs o78 rfl rfl ?_
            refine mW.sn 1 (g' := (227, [some (.ref 78), some (.int l1), some (.int l2), some (.int y3), some (.ref a4), some (.int l5), some (.int l6), some (.int l7), x8, x9], [.int 1, .ref 90], (h, q))) rfl ?_
            refine sW.putZ rfl hs o90 rfl (by decide) ?_
            intro h71 hs71
            refine mW.sn 4 (g' := (236, [some (.ref 78), some (.int l1), some (.int l2), some (.int y3), some (.ref a4), some (.int 0), some (.int l6), some (.int 0), x8, x9], [], (h71, q))) rfl ?_
            exact b_del_l236_ok hk75 hk112 ih _ _ _ _ _ _ _ _ _ _ _ _ _ ha4 hs71 hv
          · rw [if_neg hc70] at hv
            refine mW.sn 2 (g' := (236, [some (.ref 78), some (.int l1), some (.int l2), some (.int y3), some (.ref a4), some (.int l5), some (.int l6), some (.int 0), x8, x9], [], (h, q))) rfl ?_
            exact b_del_l236_ok hk75 hk112 ih _ _ _ _ _ _ _ _ _ _ _ _ _ ha4 hs hv
    · rw [if_neg hc19] at hv
      refine mW.sn 1 (g' := (170, [some (.ref 78), some (.int l1), some (.int l2), some (.int y3), some (.ref a4), some (.int l5), some (.int l6), some (.int l7), x8, x9], [.ref 78], (h, q))) rfl ?_
      refine sW.getI rfl hs o78 rfl rfl ?_
      refine mW.br (g1 := (176, [some (.ref 78), some (.int l1), some (.int l2), some (.int y3), some (.ref a4), some (.int l5), some (.int l6), some (.int l7), x8, x9], [], (h, q))) (g2 := (201, [some (.ref 78), some (.int l1), some (.int l2), some (.int y3), some (.ref a4), some (.int l5), some (.int l6), some (.int l7), x8, x9], [], (h, q))) (c := (rd S 78 12) = 0) rfl (fun hc72 => ?_) (fun hc72 => ?_)
      · rw [if_pos hc72] at hv
        refine mW.sn 6 (g' := (186, [some (.ref 78), some (.int l1), some (.int l2), some (.int y3), some (.ref a4), some (.int l5), some (.int l6), some (.int l7), x8, x9], [.long l7.toInt64, .int 0, .ref a4, .ref a4, .int l6], (h, q))) rfl ?_
        cases hr73 : r_element (S a4) 0 l7.toInt64 with
        | none => rw [hr73] at hv; cases hv
        | some r73 =>
          rw [hr73, o_bind] at hv
          refine sW.call rfl rfl rfl rfl rfl (sW.of hs (x247 (hs.ar (shW_A _ ha4)) hr73)) ?_
          intro h74 hs74
          cases hr75 : r_many (S a4) r73 with
          | none => rw [hr75] at hv; cases hv
          | some r75 =>
            rw [hr75, o_bind] at hv
            refine sW.call rfl rfl rfl rfl rfl (sW.of hs74 (x239 (hs74.ar (shW_A _ ha4)) hr75)) ?_
            intro h76 hs76
            refine mW.sn 4 (g' := (162, [some (.ref 78), some (.int l1), some (.int l2), some (.int y3), some (.ref a4), some (.int l5), some (.int (l6 + r75)), some (.int (l7 + 1)), x8, x9], [], (h76, q))) rfl ?_
            exact ih _ _ _ _ _ _ _ _ _ _ _ _ ha4 hs76 hv
      · rw [if_neg hc72] at hv
        refine mW.sn 2 (g' := (205, [some (.ref 78), some (.int l1), some (.int l2), some (.int y3), some (.ref a4), some (.int l5), some (.int l6), some (.int l7), x8, x9], [.int 100, .int l5], (h, q))) rfl ?_
        refine mW.br (g1 := (215, [some (.ref 78), some (.int l1), some (.int l2), some (.int y3), some (.ref a4), some (.int l5), some (.int l6), some (.int l7), x8, x9], [], (h, q))) (g2 := (208, [some (.ref 78), some (.int l1), some (.int l2), some (.int y3), some (.ref a4), some (.int l5), some (.int l6), some (.int l7), x8, x9], [], (h, q))) (c := (100 : Int32) < l5) rfl (fun hc77 => ?_) (fun hc77 => ?_)
        · rw [if_pos hc77] at hv
          refine mW.sn 1 (g' := (216, [some (.ref 78), some (.int l1), some (.int l2), some (.int y3), some (.ref a4), some (.int l5), some (.int l6), some (.int l7), x8, x9], [.ref 78], (h, q))) rfl ?_
          refine sW.getI rfl hs o78 rfl rfl ?_
          refine mW.no (g1 := (222, [some (.ref 78), some (.int l1), some (.int l2), some (.int y3), some (.ref a4), some (.int l5), some (.int l6), some (.int l7), x8, x9], [], (h, q))) (g2 := (233, [some (.ref 78), some (.int l1), some (.int l2), some (.int y3), some (.ref a4), some (.int l5), some (.int l6), some (.int l7), x8, x9], [], (h, q))) (c := (rd S 78 12) = 0) rfl hc72 ?_
          refine mW.sn 2 (g' := (236, [some (.ref 78), some (.int l1), some (.int l2), some (.int y3), some (.ref a4), some (.int l5), some (.int l6), some (.int 0), x8, x9], [], (h, q))) rfl ?_
          exact b_del_l236_ok hk75 hk112 ih _ _ _ _ _ _ _ _ _ _ _ _ _ ha4 hs hv
        · rw [if_neg hc77] at hv
          refine mW.sn 2 (g' := (212, [some (.ref 78), some (.int l1), some (.int l2), some (.int y3), some (.ref a4), some (.int l5), some (.int l6), some (.int l7), x8, x9], [.int 100, .int l6], (h, q))) rfl ?_
          refine mW.br (g1 := (233, [some (.ref 78), some (.int l1), some (.int l2), some (.int y3), some (.ref a4), some (.int l5), some (.int l6), some (.int l7), x8, x9], [], (h, q))) (g2 := (215, [some (.ref 78), some (.int l1), some (.int l2), some (.int y3), some (.ref a4), some (.int l5), some (.int l6), some (.int l7), x8, x9], [], (h, q))) (c := l6 ≤ (100 : Int32)) rfl (fun hc78 => ?_) (fun hc78 => ?_)
          · rw [if_pos hc78] at hv
            refine mW.sn 2 (g' := (236, [some (.ref 78), some (.int l1), some (.int l2), some (.int y3), some (.ref a4), some (.int l5), some (.int l6), some (.int 0), x8, x9], [], (h, q))) rfl ?_
            exact b_del_l236_ok hk75 hk112 ih _ _ _ _ _ _ _ _ _ _ _ _ _ ha4 hs hv
          · rw [if_neg hc78] at hv
            refine mW.sn 1 (g' := (216, [some (.ref 78), some (.int l1), some (.int l2), some (.int y3), some (.ref a4), some (.int l5), some (.int l6), some (.int l7), x8, x9], [.ref 78], (h, q))) rfl ?_
            refine sW.getI rfl hs o78 rfl rfl ?_
            refine mW.no (g1 := (222, [some (.ref 78), some (.int l1), some (.int l2), some (.int y3), some (.ref a4), some (.int l5), some (.int l6), some (.int l7), x8, x9], [], (h, q))) (g2 := (233, [some (.ref 78), some (.int l1), some (.int l2), some (.int y3), some (.ref a4), some (.int l5), some (.int l6), some (.int l7), x8, x9], [], (h, q))) (c := (rd S 78 12) = 0) rfl hc72 ?_
            refine mW.sn 2 (g' := (236, [some (.ref 78), some (.int l1), some (.int l2), some (.int y3), some (.ref a4), some (.int l5), some (.int l6), some (.int 0), x8, x9], [], (h, q))) rfl ?_
            exact b_del_l236_ok hk75 hk112 ih _ _ _ _ _ _ _ _ _ _ _ _ _ ha4 hs hv
def b_del_l112 (k75 : SS → Int32 → Int32 → Nat → Int32 → Int32 → Option (SS)) : Nat → SS → Int32 → Int32 → Nat → Int32 → Int32 → Option (SS)
  | 0, _, _, _, _, _, _ => none
  | n + 1, S, l1, l2, a4, l5, l6 => (if l5 ≤ l6 then b_del_l162 k75 (b_del_l112 k75 n) 10000 S l1 l2 a4 l5 0 0 else (if (rd S 78 12) = 0 then ((r_element (S a4) 0 l6.toInt64).bind fun r80 => ((r_many (S a4) r80).bind fun r82 => (if r82 ≤ (100 : Int32) then b_del_l112 k75 n S l1 l2 a4 l5 (l6 + 1) else ((b_refuse S 2).bind fun r85 => b_del_l112 k75 n r85 l1 l2 a4 l5 (l6 + 1))))) else b_del_l162 k75 (b_del_l112 k75 n) 10000 S l1 l2 a4 l5 0 0))
theorem b_del_l112_ok {k75 : SS → Int32 → Int32 → Nat → Int32 → Int32 → Option (SS)} (hk75 : ∀ (h : mH) (S : SS) (l1 : Int32) (l2 : Int32) (a4 : Nat) (l5 : Int32) (l6 : Int32) (y3 : Int32) (x7 : Option Value) (x8 : Option Value) (x9 : Option Value) (v : SS), a4 ∈ shW → cs h S → k75 S l1 l2 a4 l5 l6 = some v → mW (d + 1347) mm246 (75, [some (.ref 78), some (.int l1), some (.int l2), some (.int y3), some (.ref a4), some (.int l5), some (.int l6), x7, x8, x9], [], (h, q)) (mQ q v none)) : ∀ (n : Nat), ∀ (h : mH) (S : SS) (l1 : Int32) (l2 : Int32) (a4 : Nat) (l5 : Int32) (l6 : Int32) (y3 : Int32) (x7 : Option Value) (x8 : Option Value) (x9 : Option Value) (v : SS), a4 ∈ shW → cs h S → b_del_l112 k75 n S l1 l2 a4 l5 l6 = some v → mW (d + 1347) mm246 (112, [some (.ref 78), some (.int l1), some (.int l2), some (.int y3), some (.ref a4), some (.int l5), some (.int l6), x7, x8, x9], [], (h, q)) (mQ q v none) := by
  intro n
  induction n with
  | zero => intro h S l1 l2 a4 l5 l6 y3 x7 x8 x9 v ha4 hs hv; cases hv
  | succ n ih =>
    intro h S l1 l2 a4 l5 l6 y3 x7 x8 x9 v ha4 hs hv
    unfold b_del_l112 at hv
    refine mW.sn 2 (g' := (116, [some (.ref 78), some (.int l1), some (.int l2), some (.int y3), some (.ref a4), some (.int l5), some (.int l6), x7, x8, x9], [.int l5, .int l6], (h, q))) rfl ?_
    refine mW.br (g1 := (156, [some (.ref 78), some (.int l1), some (.int l2), some (.int y3), some (.ref a4), some (.int l5), some (.int l6), x7, x8, x9], [], (h, q))) (g2 := (119, [some (.ref 78), some (.int l1), some (.int l2), some (.int y3), some (.ref a4), some (.int l5), some (.int l6), x7, x8, x9], [], (h, q))) (c := l5 ≤ l6) rfl (fun hc18 => ?_) (fun hc18 => ?_)
    · rw [if_pos hc18] at hv
      refine mW.sn 4 (g' := (162, [some (.ref 78), some (.int l1), some (.int l2), some (.int y3), some (.ref a4), some (.int l5), some (.int 0), some (.int 0), x8, x9], [], (h, q))) rfl ?_
      exact b_del_l162_ok hk75 ih _ _ _ _ _ _ _ _ _ _ _ _ _ ha4 hs hv
    · rw [if_neg hc18] at hv
      refine mW.sn 1 (g' := (120, [some (.ref 78), some (.int l1), some (.int l2), some (.int y3), some (.ref a4), some (.int l5), some (.int l6), x7, x8, x9], [.ref 78], (h, q))) rfl ?_
      refine sW.getI rfl hs o78 rfl rfl ?_
      refine mW.br (g1 := (126, [some (.ref 78), some (.int l1), some (.int l2), some (.int y3), some (.ref a4), some (.int l5), some (.int l6), x7, x8, x9], [], (h, q))) (g2 := (156, [some (.ref 78), some (.int l1), some (.int l2), some (.int y3), some (.ref a4), some (.int l5), some (.int l6), x7, x8, x9], [], (h, q))) (c := (rd S 78 12) = 0) rfl (fun hc79 => ?_) (fun hc79 => ?_)
      · rw [if_pos hc79] at hv
        refine mW.sn 5 (g' := (134, [some (.ref 78), some (.int l1), some (.int l2), some (.int y3), some (.ref a4), some (.int l5), some (.int l6), x7, x8, x9], [.long l6.toInt64, .int 0, .ref a4, .ref a4], (h, q))) rfl ?_
        cases hr80 : r_element (S a4) 0 l6.toInt64 with
        | none => rw [hr80] at hv; cases hv
        | some r80 =>
          rw [hr80, o_bind] at hv
          refine sW.call rfl rfl rfl rfl rfl (sW.of hs (x247 (hs.ar (shW_A _ ha4)) hr80)) ?_
          intro h81 hs81
          cases hr82 : r_many (S a4) r80 with
          | none => rw [hr82] at hv; cases hv
          | some r82 =>
            rw [hr82, o_bind] at hv
            refine sW.call rfl rfl rfl rfl rfl (sW.of hs81 (x239 (hs81.ar (shW_A _ ha4)) hr82)) ?_
            intro h83 hs83
            refine mW.sn 1 (g' := (142, [some (.ref 78), some (.int l1), some (.int l2), some (.int y3), some (.ref a4), some (.int l5), some (.int l6), x7, x8, x9], [.int 100, .int r82], (h83, q))) rfl ?_
            refine mW.br (g1 := (150, [some (.ref 78), some (.int l1), some (.int l2), some (.int y3), some (.ref a4), some (.int l5), some (.int l6), x7, x8, x9], [], (h83, q))) (g2 := (145, [some (.ref 78), some (.int l1), some (.int l2), some (.int y3), some (.ref a4), some (.int l5), some (.int l6), x7, x8, x9], [], (h83, q))) (c := r82 ≤ (100 : Int32)) rfl (fun hc84 => ?_) (fun hc84 => ?_)
            · rw [if_pos hc84] at hv
              refine mW.sn 2 (g' := (112, [some (.ref 78), some (.int l1), some (.int l2), some (.int y3), some (.ref a4), some (.int l5), some (.int (l6 + 1)), x7, x8, x9], [], (h83, q))) rfl ?_
              exact ih _ _ _ _ _ _ _ _ _ _ _ _ ha4 hs83 hv
            · rw [if_neg hc84] at hv
              refine mW.sn 2 (g' := (147, [some (.ref 78), some (.int l1), some (.int l2), some (.int y3), some (.ref a4), some (.int l5), some (.int l6), x7, x8, x9], [.int 2, .ref 78], (h83, q))) rfl ?_
              cases hr85 : b_refuse S 2 with
              | none => rw [hr85] at hv; cases hv
              | some r85 =>
                rw [hr85, o_bind] at hv
                refine sW.call rfl rfl rfl rfl (hs83.rcv o78) (s227 hs83 hr85) ?_
                intro h86 hs86
                refine mW.sn 2 (g' := (112, [some (.ref 78), some (.int l1), some (.int l2), some (.int y3), some (.ref a4), some (.int l5), some (.int (l6 + 1)), x7, x8, x9], [], (h86, q))) rfl ?_
                exact ih _ _ _ _ _ _ _ _ _ _ _ _ ha4 hs86 hv
      · rw [if_neg hc79] at hv
        refine mW.sn 4 (g' := (162, [some (.ref 78), some (.int l1), some (.int l2), some (.int y3), some (.ref a4), some (.int l5), some (.int 0), some (.int 0), x8, x9], [], (h, q))) rfl ?_
        exact b_del_l162_ok hk75 ih _ _ _ _ _ _ _ _ _ _ _ _ _ ha4 hs hv
def b_del_l75 : Nat → SS → Int32 → Int32 → Nat → Int32 → Int32 → Option (SS)
  | 0, _, _, _, _, _, _ => none
  | n + 1, S, l1, l2, a4, l5, l6 => (if l5 ≤ l6 then b_del_l112 (b_del_l75 n) 10000 S l1 l2 a4 l5 0 else ((r_element (S a4) 0 l6.toInt64).bind fun r87 => ((iget (S a4) r87).bind fun b89 => (if b89 = (5 : Int32) then b_del_l75 n S l1 l2 a4 l5 (l6 + 1) else ((b_refuse S 1).bind fun r91 => b_del_l75 n r91 l1 l2 a4 l5 (l6 + 1))))))
theorem b_del_l75_ok : ∀ (n : Nat), ∀ (h : mH) (S : SS) (l1 : Int32) (l2 : Int32) (a4 : Nat) (l5 : Int32) (l6 : Int32) (y3 : Int32) (x7 : Option Value) (x8 : Option Value) (x9 : Option Value) (v : SS), a4 ∈ shW → cs h S → b_del_l75 n S l1 l2 a4 l5 l6 = some v → mW (d + 1347) mm246 (75, [some (.ref 78), some (.int l1), some (.int l2), some (.int y3), some (.ref a4), some (.int l5), some (.int l6), x7, x8, x9], [], (h, q)) (mQ q v none) := by
  intro n
  induction n with
  | zero => intro h S l1 l2 a4 l5 l6 y3 x7 x8 x9 v ha4 hs hv; cases hv
  | succ n ih =>
    intro h S l1 l2 a4 l5 l6 y3 x7 x8 x9 v ha4 hs hv
    unfold b_del_l75 at hv
    refine mW.sn 2 (g' := (79, [some (.ref 78), some (.int l1), some (.int l2), some (.int y3), some (.ref a4), some (.int l5), some (.int l6), x7, x8, x9], [.int l5, .int l6], (h, q))) rfl ?_
    refine mW.br (g1 := (109, [some (.ref 78), some (.int l1), some (.int l2), some (.int y3), some (.ref a4), some (.int l5), some (.int l6), x7, x8, x9], [], (h, q))) (g2 := (82, [some (.ref 78), some (.int l1), some (.int l2), some (.int y3), some (.ref a4), some (.int l5), some (.int l6), x7, x8, x9], [], (h, q))) (c := l5 ≤ l6) rfl (fun hc17 => ?_) (fun hc17 => ?_)
    · rw [if_pos hc17] at hv
      refine mW.sn 2 (g' := (112, [some (.ref 78), some (.int l1), some (.int l2), some (.int y3), some (.ref a4), some (.int l5), some (.int 0), x7, x8, x9], [], (h, q))) rfl ?_
      exact b_del_l112_ok ih _ _ _ _ _ _ _ _ _ _ _ _ _ ha4 hs hv
    · rw [if_neg hc17] at hv
      refine mW.sn 5 (g' := (90, [some (.ref 78), some (.int l1), some (.int l2), some (.int y3), some (.ref a4), some (.int l5), some (.int l6), x7, x8, x9], [.long l6.toInt64, .int 0, .ref a4, .ref a4], (h, q))) rfl ?_
      cases hr87 : r_element (S a4) 0 l6.toInt64 with
      | none => rw [hr87] at hv; cases hv
      | some r87 =>
        rw [hr87, o_bind] at hv
        refine sW.call rfl rfl rfl rfl rfl (sW.of hs (x247 (hs.ar (shW_A _ ha4)) hr87)) ?_
        intro h88 hs88
        cases hr89 : iget (S a4) r87 with
        | none => rw [hr89] at hv; cases hv
        | some b89 =>
          rw [hr89, o_bind] at hv
          refine sW.iald rfl hs88 (shW_A _ ha4) hr89 ?_
          refine mW.sn 1 (g' := (95, [some (.ref 78), some (.int l1), some (.int l2), some (.int y3), some (.ref a4), some (.int l5), some (.int l6), x7, x8, x9], [.int 5, .int b89], (h88, q))) rfl ?_
          refine mW.br (g1 := (103, [some (.ref 78), some (.int l1), some (.int l2), some (.int y3), some (.ref a4), some (.int l5), some (.int l6), x7, x8, x9], [], (h88, q))) (g2 := (98, [some (.ref 78), some (.int l1), some (.int l2), some (.int y3), some (.ref a4), some (.int l5), some (.int l6), x7, x8, x9], [], (h88, q))) (c := b89 = (5 : Int32)) rfl (fun hc90 => ?_) (fun hc90 => ?_)
          · rw [if_pos hc90] at hv
            refine mW.sn 2 (g' := (75, [some (.ref 78), some (.int l1), some (.int l2), some (.int y3), some (.ref a4), some (.int l5), some (.int (l6 + 1)), x7, x8, x9], [], (h88, q))) rfl ?_
            exact ih _ _ _ _ _ _ _ _ _ _ _ _ ha4 hs88 hv
          · rw [if_neg hc90] at hv
            refine mW.sn 2 (g' := (100, [some (.ref 78), some (.int l1), some (.int l2), some (.int y3), some (.ref a4), some (.int l5), some (.int l6), x7, x8, x9], [.int 1, .ref 78], (h88, q))) rfl ?_
            cases hr91 : b_refuse S 1 with
            | none => rw [hr91] at hv; cases hv
            | some r91 =>
              rw [hr91, o_bind] at hv
              refine sW.call rfl rfl rfl rfl (hs88.rcv o78) (s227 hs88 hr91) ?_
              intro h92 hs92
              refine mW.sn 2 (g' := (75, [some (.ref 78), some (.int l1), some (.int l2), some (.int y3), some (.ref a4), some (.int l5), some (.int (l6 + 1)), x7, x8, x9], [], (h92, q))) rfl ?_
              exact ih _ _ _ _ _ _ _ _ _ _ _ _ ha4 hs92 hv
def b_del (S : SS) (p0 : Int32) (p1 : Int32) (p2 : Int32) : Option (SS) := ((b_begin S).bind fun r1 => ((b_none r1 p0).bind fun r3 => (if r3 = 0 then ((b_none r1 p1).bind fun r6 => (if r6 = 0 then ((b_none r1 p2).bind fun r9 => (if r9 = 0 then ((iget sh81 p2).bind fun b12 => ((iget (r1 b12.toNatClampNeg) 0).bind fun b13 => (if b13 = (5 : Int32) then ((r_many (r1 b12.toNatClampNeg) 0).bind fun r15 => b_del_l75 10000 r1 p0 p1 b12.toNatClampNeg r15 0) else ((b_refuse r1 1).bind fun r93 => b_del_l75 10000 r93 p0 p1 b12.toNatClampNeg 0 0)))) else some (wr r1 78 0 1))) else some (wr r1 78 0 1))) else some (wr r1 78 0 1))))
theorem s246 {S : SS} {p0 : Int32} {p1 : Int32} {p2 : Int32} {v : SS} (hs : cs h S) (hv : b_del S p0 p1 p2 = some v) : mW (d + 1347) mm246 (0, [some (.ref 78), some (.int p0), some (.int p1), some (.int p2), none, none, none, none, none, none], [], (h, q)) (mQ q v none) := by
  unfold b_del at hv
  refine mW.sn 1 (g' := (1, [some (.ref 78), some (.int p0), some (.int p1), some (.int p2), none, none, none, none, none, none], [.ref 78], (h, q))) rfl ?_
  cases hr1 : b_begin S with
  | none => rw [hr1] at hv; cases hv
  | some r1 =>
    rw [hr1, o_bind] at hv
    refine sW.call rfl rfl rfl rfl (hs.rcv o78) (s164 hs hr1) ?_
    intro h2 hs2
    refine mW.sn 1 (g' := (5, [some (.ref 78), some (.int p0), some (.int p1), some (.int p2), none, none, none, none, none, none], [.int p0], (h2, q))) rfl ?_
    cases hr3 : b_none r1 p0 with
    | none => rw [hr3] at hv; cases hv
    | some r3 =>
      rw [hr3, o_bind] at hv
      refine sW.call rfl rfl rfl rfl rfl (s166 hs2 hr3) ?_
      intro h4 hs4
      refine mW.br (g1 := (11, [some (.ref 78), some (.int p0), some (.int p1), some (.int p2), none, none, none, none, none, none], [], (h4, q))) (g2 := (25, [some (.ref 78), some (.int p0), some (.int p1), some (.int p2), none, none, none, none, none, none], [], (h4, q))) (c := r3 = 0) rfl (fun hc5 => ?_) (fun hc5 => ?_)
      · rw [if_pos hc5] at hv
        refine mW.sn 1 (g' := (12, [some (.ref 78), some (.int p0), some (.int p1), some (.int p2), none, none, none, none, none, none], [.int p1], (h4, q))) rfl ?_
        cases hr6 : b_none r1 p1 with
        | none => rw [hr6] at hv; cases hv
        | some r6 =>
          rw [hr6, o_bind] at hv
          refine sW.call rfl rfl rfl rfl rfl (s166 hs4 hr6) ?_
          intro h7 hs7
          refine mW.br (g1 := (18, [some (.ref 78), some (.int p0), some (.int p1), some (.int p2), none, none, none, none, none, none], [], (h7, q))) (g2 := (25, [some (.ref 78), some (.int p0), some (.int p1), some (.int p2), none, none, none, none, none, none], [], (h7, q))) (c := r6 = 0) rfl (fun hc8 => ?_) (fun hc8 => ?_)
          · rw [if_pos hc8] at hv
            refine mW.sn 1 (g' := (19, [some (.ref 78), some (.int p0), some (.int p1), some (.int p2), none, none, none, none, none, none], [.int p2], (h7, q))) rfl ?_
            cases hr9 : b_none r1 p2 with
            | none => rw [hr9] at hv; cases hv
            | some r9 =>
              rw [hr9, o_bind] at hv
              refine sW.call rfl rfl rfl rfl rfl (s166 hs7 hr9) ?_
              intro h10 hs10
              refine mW.br (g1 := (31, [some (.ref 78), some (.int p0), some (.int p1), some (.int p2), none, none, none, none, none, none], [], (h10, q))) (g2 := (25, [some (.ref 78), some (.int p0), some (.int p1), some (.int p2), none, none, none, none, none, none], [], (h10, q))) (c := r9 = 0) rfl (fun hc11 => ?_) (fun hc11 => ?_)
              · rw [if_pos hc11] at hv
                refine mW.sn 1 (g' := (32, [some (.ref 78), some (.int p0), some (.int p1), some (.int p2), none, none, none, none, none, none], [.ref 78], (h10, q))) rfl ?_
                refine sW.getR rfl hs10 o78 rfl rfl ?_
                refine mW.sn 1 (g' := (36, [some (.ref 78), some (.int p0), some (.int p1), some (.int p2), none, none, none, none, none, none], [.int p2, .ref 81], (h10, q))) rfl ?_
                cases hr12 : iget sh81 p2 with
                | none => rw [hr12] at hv; cases hv
                | some b12 =>
                  rw [hr12, o_bind] at hv
                  refine sW.aald81 rfl hs10 hr12 ?_
                  refine mW.sn 3 (g' := (42, [some (.ref 78), some (.int p0), some (.int p1), some (.int p2), some (.ref b12.toNatClampNeg), none, none, none, none, none], [.int 0, .ref b12.toNatClampNeg], (h10, q))) rfl ?_
                  cases hr13 : iget (r1 b12.toNatClampNeg) 0 with
                  | none => rw [hr13] at hv; cases hv
                  | some b13 =>
                    rw [hr13, o_bind] at hv
                    refine sW.iald rfl hs10 (shW_A _ (ok81 hr12)) hr13 ?_
                    refine mW.sn 1 (g' := (44, [some (.ref 78), some (.int p0), some (.int p1), some (.int p2), some (.ref b12.toNatClampNeg), none, none, none, none, none], [.int 5, .int b13], (h10, q))) rfl ?_
                    refine mW.br (g1 := (47, [some (.ref 78), some (.int p0), some (.int p1), some (.int p2), some (.ref b12.toNatClampNeg), none, none, none, none, none], [], (h10, q))) (g2 := (56, [some (.ref 78), some (.int p0), some (.int p1), some (.int p2), some (.ref b12.toNatClampNeg), none, none, none, none, none], [], (h10, q))) (c := b13 = (5 : Int32)) rfl (fun hc14 => ?_) (fun hc14 => ?_)
                    · rw [if_pos hc14] at hv
                      refine mW.sn 2 (g' := (50, [some (.ref 78), some (.int p0), some (.int p1), some (.int p2), some (.ref b12.toNatClampNeg), none, none, none, none, none], [.int 0, .ref b12.toNatClampNeg], (h10, q))) rfl ?_
                      cases hr15 : r_many (r1 b12.toNatClampNeg) 0 with
                      | none => rw [hr15] at hv; cases hv
                      | some r15 =>
                        rw [hr15, o_bind] at hv
                        refine sW.call rfl rfl rfl rfl rfl (sW.of hs10 (x239 (hs10.ar (shW_A _ (ok81 hr12))) hr15)) ?_
                        intro h16 hs16
                        refine mW.sn 4 (g' := (62, [some (.ref 78), some (.int p0), some (.int p1), some (.int p2), some (.ref b12.toNatClampNeg), some (.int r15), none, none, none, none], [.int 0, .ref b12.toNatClampNeg], (h16, q))) rfl ?_
                        refine sW.iald rfl hs16 (shW_A _ (ok81 hr12)) hr13 ?_
                        refine mW.sn 1 (g' := (64, [some (.ref 78), some (.int p0), some (.int p1), some (.int p2), some (.ref b12.toNatClampNeg), some (.int r15), none, none, none, none], [.int 5, .int b13], (h16, q))) rfl ?_
                        refine mW.yes (g1 := (72, [some (.ref 78), some (.int p0), some (.int p1), some (.int p2), some (.ref b12.toNatClampNeg), some (.int r15), none, none, none, none], [], (h16, q))) (g2 := (67, [some (.ref 78), some (.int p0), some (.int p1), some (.int p2), some (.ref b12.toNatClampNeg), some (.int r15), none, none, none, none], [], (h16, q))) (c := b13 = (5 : Int32)) rfl hc14 ?_
                        refine mW.sn 2 (g' := (75, [some (.ref 78), some (.int p0), some (.int p1), some (.int p2), some (.ref b12.toNatClampNeg), some (.int r15), some (.int 0), none, none, none], [], (h16, q))) rfl ?_
                        exact b_del_l75_ok _ _ _ _ _ _ _ _ _ _ _ _ _ (ok81 hr12) hs16 hv
                    · rw [if_neg hc14] at hv
                      refine mW.sn 4 (g' := (62, [some (.ref 78), some (.int p0), some (.int p1), some (.int p2), some (.ref b12.toNatClampNeg), some (.int 0), none, none, none, none], [.int 0, .ref b12.toNatClampNeg], (h10, q))) rfl ?_
                      refine sW.iald rfl hs10 (shW_A _ (ok81 hr12)) hr13 ?_
                      refine mW.sn 1 (g' := (64, [some (.ref 78), some (.int p0), some (.int p1), some (.int p2), some (.ref b12.toNatClampNeg), some (.int 0), none, none, none, none], [.int 5, .int b13], (h10, q))) rfl ?_
                      refine mW.no (g1 := (72, [some (.ref 78), some (.int p0), some (.int p1), some (.int p2), some (.ref b12.toNatClampNeg), some (.int 0), none, none, none, none], [], (h10, q))) (g2 := (67, [some (.ref 78), some (.int p0), some (.int p1), some (.int p2), some (.ref b12.toNatClampNeg), some (.int 0), none, none, none, none], [], (h10, q))) (c := b13 = (5 : Int32)) rfl hc14 ?_
                      refine mW.sn 2 (g' := (69, [some (.ref 78), some (.int p0), some (.int p1), some (.int p2), some (.ref b12.toNatClampNeg), some (.int 0), none, none, none, none], [.int 1, .ref 78], (h10, q))) rfl ?_
                      cases hr93 : b_refuse r1 1 with
                      | none => rw [hr93] at hv; cases hv
                      | some r93 =>
                        rw [hr93, o_bind] at hv
                        refine sW.call rfl rfl rfl rfl (hs10.rcv o78) (s227 hs10 hr93) ?_
                        intro h94 hs94
                        refine mW.sn 2 (g' := (75, [some (.ref 78), some (.int p0), some (.int p1), some (.int p2), some (.ref b12.toNatClampNeg), some (.int 0), some (.int 0), none, none, none], [], (h94, q))) rfl ?_
                        exact b_del_l75_ok _ _ _ _ _ _ _ _ _ _ _ _ _ (ok81 hr12) hs94 hv
              · rw [if_neg hc11] at hv
                refine mW.sn 2 (g' := (27, [some (.ref 78), some (.int p0), some (.int p1), some (.int p2), none, none, none, none, none, none], [.int 1, .ref 78], (h10, q))) rfl ?_
                refine sW.putI rfl hs10 o78 rfl ?_
                intro h95 hs95
                cases hv
                exact sW.fin hs95 rfl
          · rw [if_neg hc8] at hv
            refine mW.sn 2 (g' := (27, [some (.ref 78), some (.int p0), some (.int p1), some (.int p2), none, none, none, none, none, none], [.int 1, .ref 78], (h7, q))) rfl ?_
            refine sW.putI rfl hs7 o78 rfl ?_
            intro h96 hs96
            cases hv
            exact sW.fin hs96 rfl
      · rw [if_neg hc5] at hv
        refine mW.sn 2 (g' := (27, [some (.ref 78), some (.int p0), some (.int p1), some (.int p2), none, none, none, none, none, none], [.int 1, .ref 78], (h4, q))) rfl ?_
        refine sW.putI rfl hs4 o78 rfl ?_
        intro h97 hs97
        cases hv
        exact sW.fin hs97 rfl
end
