/-! PRINTED BY wip/whole (dec2): the class's Spot and Gap. -/
section
set_option maxRecDepth 4000
variable {d : Nat} {h : mH} {q : Nat × Nat}
def p_start (S : SS) (t0 : Nat) : Option (SS) := some (wr (wr (wr (wr S 67 0 (Int32.ofNat t0)) 67 1 0) 67 2 0) 67 3 0)
theorem s73 {S : SS} {t0 : Nat} (ht0 : t0 ∈ shT) {v : SS} (hs : cs h S) (hv : p_start S t0 = some v) : mW d mm73 (0, [some (.ref 67), some (.ref t0)], [], (h, q)) (mQ q v none) := by
  unfold p_start at hv
  refine mW.sn 2 (g' := (2, [some (.ref 67), some (.ref t0)], [.ref t0, .ref 67], (h, q))) rfl ?_
  refine sW.putT rfl hs o67 rfl ht0 ?_
  intro h1 hs1
  refine mW.sn 2 (g' := (7, [some (.ref 67), some (.ref t0)], [.int 0, .ref 67], (h1, q))) rfl ?_
  refine sW.putI rfl hs1 o67 rfl ?_
  intro h2 hs2
  refine mW.sn 2 (g' := (12, [some (.ref 67), some (.ref t0)], [.int 0, .ref 67], (h2, q))) rfl ?_
  refine sW.putI rfl hs2 o67 rfl ?_
  intro h3 hs3
  refine mW.sn 2 (g' := (17, [some (.ref 67), some (.ref t0)], [.int 0, .ref 67], (h3, q))) rfl ?_
  refine sW.putZ rfl hs3 o67 rfl (by decide) ?_
  intro h4 hs4
  cases hv
  exact sW.fin hs4 rfl
def p_kind (S : SS) : Option (Int32) := ((t_kind (tT S ((rd S 67 0).toNatClampNeg)) (rd S 67 1)).bind fun r1 => some r1)
theorem s76 {S : SS} {v : Int32} (hs : cs h S) (hv : p_kind S = some v) : mW (d + 2) mm76 (0, [some (.ref 67)], [], (h, q)) (mQ q S (some (.int v))) := by
  unfold p_kind at hv
  refine mW.sn 1 (g' := (1, [some (.ref 67)], [.ref 67], (h, q))) rfl ?_
  refine sW.getT rfl hs o67 rfl ?_
  refine mW.sn 1 (g' := (5, [some (.ref 67)], [.ref 67, .ref ((rd S 67 0).toNatClampNeg)], (h, q))) rfl ?_
  refine sW.getI rfl hs o67 rfl rfl ?_
  cases hr1 : t_kind (tT S ((rd S 67 0).toNatClampNeg)) (rd S 67 1) with
  | none => rw [hr1] at hv; cases hv
  | some r1 =>
    rw [hr1, o_bind] at hv
    refine sW.call rfl rfl rfl rfl (hs.rcvT (hs.okT o67 rfl)) (sW.of hs (x70 (hs.gtx (hs.okT o67 rfl)) hr1)) ?_
    intro h2 hs2
    cases hv
    exact sW.fin hs2 rfl
def p_isNull (S : SS) : Option (Int32) := ((p_kind S).bind fun r1 => (if r1 = 0 then some 1 else some 0))
theorem s75 {S : SS} {v : Int32} (hs : cs h S) (hv : p_isNull S = some v) : mW (d + 3) mm75 (0, [some (.ref 67)], [], (h, q)) (mQ q S (some (.int v))) := by
  unfold p_isNull at hv
  refine mW.sn 1 (g' := (1, [some (.ref 67)], [.ref 67], (h, q))) rfl ?_
  cases hr1 : p_kind S with
  | none => rw [hr1] at hv; cases hv
  | some r1 =>
    rw [hr1, o_bind] at hv
    refine sW.call rfl rfl rfl rfl (hs.rcv o67) (s76 hs hr1) ?_
    intro h2 hs2
    refine mW.br (g1 := (7, [some (.ref 67)], [], (h2, q))) (g2 := (11, [some (.ref 67)], [], (h2, q))) (c := r1 = 0) rfl (fun hc3 => ?_) (fun hc3 => ?_)
    · rw [if_pos hc3] at hv
      refine mW.sn 2 (g' := (12, [some (.ref 67)], [.int 1], (h2, q))) rfl ?_
      cases hv
      exact sW.fin hs2 rfl
    · rw [if_neg hc3] at hv
      refine mW.sn 1 (g' := (12, [some (.ref 67)], [.int 0], (h2, q))) rfl ?_
      cases hv
      exact sW.fin hs2 rfl
def p_moveTo (S : SS) (p0 : Int32) (p1 : Int32) : Option (SS) := some (wr (wr (wr S 67 2 p0) 67 1 p1) 67 3 0)
theorem s77 {S : SS} {p0 : Int32} {p1 : Int32} {v : SS} (hs : cs h S) (hv : p_moveTo S p0 p1 = some v) : mW d mm77 (0, [some (.ref 67), some (.int p0), some (.int p1)], [], (h, q)) (mQ q v none) := by
  unfold p_moveTo at hv
  refine mW.sn 2 (g' := (2, [some (.ref 67), some (.int p0), some (.int p1)], [.int p0, .ref 67], (h, q))) rfl ?_
  refine sW.putI rfl hs o67 rfl ?_
  intro h1 hs1
  refine mW.sn 2 (g' := (7, [some (.ref 67), some (.int p0), some (.int p1)], [.int p1, .ref 67], (h1, q))) rfl ?_
  refine sW.putI rfl hs1 o67 rfl ?_
  intro h2 hs2
  refine mW.sn 2 (g' := (12, [some (.ref 67), some (.int p0), some (.int p1)], [.int 0, .ref 67], (h2, q))) rfl ?_
  refine sW.putZ rfl hs2 o67 rfl (by decide) ?_
  intro h3 hs3
  cases hv
  exact sW.fin hs3 rfl
def p_byName (S : SS) (t0 : Nat) (p0 : Int32) : Option (SS × Int32) := ((p_kind S).bind fun r1 => (if r1 = (6 : Int32) then ((t_named (tT S ((rd S 67 0).toNatClampNeg)) (tT S t0) (rd S 67 1) p0).bind fun r4 => ((t_valueOf (tT S ((rd S 67 0).toNatClampNeg)) r4).bind fun r6 => ((p_moveTo S r4 r6).bind fun r8 => some (r8, 0)))) else some (S, 1)))
theorem s79 {S : SS} {t0 : Nat} (ht0 : t0 ∈ shT) {p0 : Int32} {v : SS × Int32} (hs : cs h S) (hv : p_byName S t0 p0 = some v) : mW (d + 4) mm79 (0, [some (.ref 67), some (.ref t0), some (.int p0), none], [], (h, q)) (mQ q v.1 (some (.int v.2))) := by
  unfold p_byName at hv
  refine mW.sn 1 (g' := (1, [some (.ref 67), some (.ref t0), some (.int p0), none], [.ref 67], (h, q))) rfl ?_
  cases hr1 : p_kind S with
  | none => rw [hr1] at hv; cases hv
  | some r1 =>
    rw [hr1, o_bind] at hv
    refine sW.call rfl rfl rfl rfl (hs.rcv o67) (s76 hs hr1) ?_
    intro h2 hs2
    refine mW.sn 1 (g' := (6, [some (.ref 67), some (.ref t0), some (.int p0), none], [.int 6, .int r1], (h2, q))) rfl ?_
    refine mW.br (g1 := (11, [some (.ref 67), some (.ref t0), some (.int p0), none], [], (h2, q))) (g2 := (9, [some (.ref 67), some (.ref t0), some (.int p0), none], [], (h2, q))) (c := r1 = (6 : Int32)) rfl (fun hc3 => ?_) (fun hc3 => ?_)
    · rw [if_pos hc3] at hv
      refine mW.sn 1 (g' := (12, [some (.ref 67), some (.ref t0), some (.int p0), none], [.ref 67], (h2, q))) rfl ?_
      refine sW.getT rfl hs2 o67 rfl ?_
      refine mW.sn 1 (g' := (16, [some (.ref 67), some (.ref t0), some (.int p0), none], [.ref 67, .ref ((rd S 67 0).toNatClampNeg)], (h2, q))) rfl ?_
      refine sW.getI rfl hs2 o67 rfl rfl ?_
      refine mW.sn 2 (g' := (21, [some (.ref 67), some (.ref t0), some (.int p0), none], [.int p0, .ref t0, .int (rd S 67 1), .ref ((rd S 67 0).toNatClampNeg)], (h2, q))) rfl ?_
      cases hr4 : t_named (tT S ((rd S 67 0).toNatClampNeg)) (tT S t0) (rd S 67 1) p0 with
      | none => rw [hr4] at hv; cases hv
      | some r4 =>
        rw [hr4, o_bind] at hv
        refine sW.call rfl rfl rfl rfl (hs2.rcvT (hs2.okT o67 rfl)) (sW.of hs2 (x80 (hs2.gtx (hs2.okT o67 rfl)) (hs2.gtx ht0) hr4)) ?_
        intro h5 hs5
        refine mW.sn 4 (g' := (28, [some (.ref 67), some (.ref t0), some (.int p0), some (.int r4)], [.ref 67, .int r4, .ref 67], (h5, q))) rfl ?_
        refine sW.getT rfl hs5 o67 rfl ?_
        refine mW.sn 1 (g' := (32, [some (.ref 67), some (.ref t0), some (.int p0), some (.int r4)], [.int r4, .ref ((rd S 67 0).toNatClampNeg), .int r4, .ref 67], (h5, q))) rfl ?_
        cases hr6 : t_valueOf (tT S ((rd S 67 0).toNatClampNeg)) r4 with
        | none => rw [hr6] at hv; cases hv
        | some r6 =>
          rw [hr6, o_bind] at hv
          refine sW.call rfl rfl rfl rfl (hs5.rcvT (hs5.okT o67 rfl)) (sW.of hs5 (x82 (hs5.gtx (hs5.okT o67 rfl)) hr6)) ?_
          intro h7 hs7
          cases hr8 : p_moveTo S r4 r6 with
          | none => rw [hr8] at hv; cases hv
          | some r8 =>
            rw [hr8, o_bind] at hv
            refine sW.call rfl rfl rfl rfl (hs7.rcv o67) (s77 hs7 hr8) ?_
            intro h9 hs9
            refine mW.sn 1 (g' := (39, [some (.ref 67), some (.ref t0), some (.int p0), some (.int r4)], [.int 0], (h9, q))) rfl ?_
            cases hv
            exact sW.fin hs9 rfl
    · rw [if_neg hc3] at hv
      refine mW.sn 1 (g' := (10, [some (.ref 67), some (.ref t0), some (.int p0), none], [.int 1], (h2, q))) rfl ?_
      cases hv
      exact sW.fin hs2 rfl
def p_fromStart (S : SS) (p0 : Int64) (p1 : Int32) : Option (Int64) := (if 0 ≤ (lg_cmp p0 0) then some p0 else some (p0 + p1.toInt64))
theorem s87 {S : SS} {p0 : Int64} {p1 : Int32} {v : Int64} (hs : cs h S) (hv : p_fromStart S p0 p1 = some v) : mW d mm87 (0, [some (.long p0), none, some (.int p1)], [], (h, q)) (mQ q S (some (.long v))) := by
  unfold p_fromStart at hv
  refine mW.sn 3 (g' := (3, [some (.long p0), none, some (.int p1)], [.int (lg_cmp p0 0)], (h, q))) rfl ?_
  refine mW.br (g1 := (13, [some (.long p0), none, some (.int p1)], [], (h, q))) (g2 := (6, [some (.long p0), none, some (.int p1)], [], (h, q))) (c := 0 ≤ (lg_cmp p0 0)) rfl (fun hc1 => ?_) (fun hc1 => ?_)
  · rw [if_pos hc1] at hv
    refine mW.sn 1 (g' := (14, [some (.long p0), none, some (.int p1)], [.long p0], (h, q))) rfl ?_
    cases hv
    exact sW.fin hs rfl
  · rw [if_neg hc1] at hv
    refine mW.sn 5 (g' := (14, [some (.long p0), none, some (.int p1)], [.long (p0 + p1.toInt64)], (h, q))) rfl ?_
    cases hv
    exact sW.fin hs rfl
def p_byPlace (S : SS) (p0 : Int64) : Option (SS × Int32) := ((p_kind S).bind fun r1 => (if r1 = (5 : Int32) then (if (rd S 67 3) = 0 then ((t_items (tT S ((rd S 67 0).toNatClampNeg)) (rd S 67 1)).bind fun r5 => ((p_fromStart S p0 r5).bind fun r7 => (if (lg_cmp r7 0) < 0 then ((p_moveTo S (-1) (-1)).bind fun r10 => some (r10, 0)) else (if 0 ≤ (lg_cmp r7 r5.toInt64) then ((p_moveTo S (-1) (-1)).bind fun r13 => some (r13, 0)) else ((t_item (tT S ((rd S 67 0).toNatClampNeg)) (rd S 67 1) (0 + r7.toInt32)).bind fun r15 => ((p_moveTo S r15 r15).bind fun r17 => some (r17, 0))))))) else ((p_fromStart S p0 ((rd S 67 5) - (rd S 67 4))).bind fun r19 => (if (lg_cmp r19 0) < 0 then ((p_moveTo S (-1) (-1)).bind fun r22 => some (r22, 0)) else (if 0 ≤ (lg_cmp r19 (((rd S 67 5) - (rd S 67 4)).toInt64)) then ((p_moveTo S (-1) (-1)).bind fun r25 => some (r25, 0)) else ((t_item (tT S ((rd S 67 0).toNatClampNeg)) (rd S 67 1) ((rd S 67 4) + r19.toInt32)).bind fun r27 => ((p_moveTo S r27 r27).bind fun r29 => some (r29, 0))))))) else some (S, 1)))
theorem s85 {S : SS} {p0 : Int64} {v : SS × Int32} (hs : cs h S) (hv : p_byPlace S p0 = some v) : mW (d + 4) mm85 (0, [some (.ref 67), some (.long p0), none, none, none, none, none, none], [], (h, q)) (mQ q v.1 (some (.int v.2))) := by
  unfold p_byPlace at hv
  refine mW.sn 1 (g' := (1, [some (.ref 67), some (.long p0), none, none, none, none, none, none], [.ref 67], (h, q))) rfl ?_
  cases hr1 : p_kind S with
  | none => rw [hr1] at hv; cases hv
  | some r1 =>
    rw [hr1, o_bind] at hv
    refine sW.call rfl rfl rfl rfl (hs.rcv o67) (s76 hs hr1) ?_
    intro h2 hs2
    refine mW.sn 1 (g' := (5, [some (.ref 67), some (.long p0), none, none, none, none, none, none], [.int 5, .int r1], (h2, q))) rfl ?_
    refine mW.br (g1 := (10, [some (.ref 67), some (.long p0), none, none, none, none, none, none], [], (h2, q))) (g2 := (8, [some (.ref 67), some (.long p0), none, none, none, none, none, none], [], (h2, q))) (c := r1 = (5 : Int32)) rfl (fun hc3 => ?_) (fun hc3 => ?_)
    · rw [if_pos hc3] at hv
      refine mW.sn 1 (g' := (11, [some (.ref 67), some (.long p0), none, none, none, none, none, none], [.ref 67], (h2, q))) rfl ?_
      refine sW.getI rfl hs2 o67 rfl rfl ?_
      refine mW.br (g1 := (29, [some (.ref 67), some (.long p0), none, none, none, none, none, none], [], (h2, q))) (g2 := (17, [some (.ref 67), some (.long p0), none, none, none, none, none, none], [], (h2, q))) (c := (rd S 67 3) = 0) rfl (fun hc4 => ?_) (fun hc4 => ?_)
      · rw [if_pos hc4] at hv
        refine mW.sn 1 (g' := (30, [some (.ref 67), some (.long p0), none, none, none, none, none, none], [.ref 67], (h2, q))) rfl ?_
        refine sW.getT rfl hs2 o67 rfl ?_
        refine mW.sn 1 (g' := (34, [some (.ref 67), some (.long p0), none, none, none, none, none, none], [.ref 67, .ref ((rd S 67 0).toNatClampNeg)], (h2, q))) rfl ?_
        refine sW.getI rfl hs2 o67 rfl rfl ?_
        cases hr5 : t_items (tT S ((rd S 67 0).toNatClampNeg)) (rd S 67 1) with
        | none => rw [hr5] at hv; cases hv
        | some r5 =>
          rw [hr5, o_bind] at hv
          refine sW.call rfl rfl rfl rfl (hs2.rcvT (hs2.okT o67 rfl)) (sW.of hs2 (x86 (hs2.gtx (hs2.okT o67 rfl)) hr5)) ?_
          intro h6 hs6
          refine mW.sn 3 (g' := (43, [some (.ref 67), some (.long p0), none, some (.int r5), none, none, none, none], [.int r5, .long p0], (h6, q))) rfl ?_
          cases hr7 : p_fromStart S p0 r5 with
          | none => rw [hr7] at hv; cases hv
          | some r7 =>
            rw [hr7, o_bind] at hv
            refine sW.call rfl rfl rfl rfl rfl (s87 hs6 hr7) ?_
            intro h8 hs8
            refine mW.sn 4 (g' := (52, [some (.ref 67), some (.long p0), none, some (.int r5), some (.long r7), none, none, none], [.int (lg_cmp r7 0)], (h8, q))) rfl ?_
            refine mW.br (g1 := (67, [some (.ref 67), some (.long p0), none, some (.int r5), some (.long r7), none, none, none], [], (h8, q))) (g2 := (55, [some (.ref 67), some (.long p0), none, some (.int r5), some (.long r7), none, none, none], [], (h8, q))) (c := (lg_cmp r7 0) < 0) rfl (fun hc9 => ?_) (fun hc9 => ?_)
            · rw [if_pos hc9] at hv
              refine mW.sn 3 (g' := (72, [some (.ref 67), some (.long p0), none, some (.int r5), some (.long r7), none, some (.int 0), none], [.int 0], (h8, q))) rfl ?_
              refine mW.yes (g1 := (108, [some (.ref 67), some (.long p0), none, some (.int r5), some (.long r7), none, some (.int 0), none], [], (h8, q))) (g2 := (75, [some (.ref 67), some (.long p0), none, some (.int r5), some (.long r7), none, some (.int 0), none], [], (h8, q))) (c := (0 : Int32) = 0) rfl (by decide) ?_
              refine mW.sn 5 (g' := (116, [some (.ref 67), some (.long p0), none, some (.int r5), some (.long r7), none, some (.int 0), some (.int (-1))], [.int (-1), .int (-1), .ref 67], (h8, q))) rfl ?_
              cases hr10 : p_moveTo S (-1) (-1) with
              | none => rw [hr10] at hv; cases hv
              | some r10 =>
                rw [hr10, o_bind] at hv
                refine sW.call rfl rfl rfl rfl (hs8.rcv o67) (s77 hs8 hr10) ?_
                intro h11 hs11
                refine mW.sn 1 (g' := (120, [some (.ref 67), some (.long p0), none, some (.int r5), some (.long r7), none, some (.int 0), some (.int (-1))], [.int 0], (h11, q))) rfl ?_
                cases hv
                exact sW.fin hs11 rfl
            · rw [if_neg hc9] at hv
              refine mW.sn 4 (g' := (60, [some (.ref 67), some (.long p0), none, some (.int r5), some (.long r7), none, none, none], [.int (lg_cmp r7 r5.toInt64)], (h8, q))) rfl ?_
              refine mW.br (g1 := (67, [some (.ref 67), some (.long p0), none, some (.int r5), some (.long r7), none, none, none], [], (h8, q))) (g2 := (63, [some (.ref 67), some (.long p0), none, some (.int r5), some (.long r7), none, none, none], [], (h8, q))) (c := 0 ≤ (lg_cmp r7 r5.toInt64)) rfl (fun hc12 => ?_) (fun hc12 => ?_)
              · rw [if_pos hc12] at hv
                refine mW.sn 3 (g' := (72, [some (.ref 67), some (.long p0), none, some (.int r5), some (.long r7), none, some (.int 0), none], [.int 0], (h8, q))) rfl ?_
                refine mW.yes (g1 := (108, [some (.ref 67), some (.long p0), none, some (.int r5), some (.long r7), none, some (.int 0), none], [], (h8, q))) (g2 := (75, [some (.ref 67), some (.long p0), none, some (.int r5), some (.long r7), none, some (.int 0), none], [], (h8, q))) (c := (0 : Int32) = 0) rfl (by decide) ?_
                refine mW.sn 5 (g' := (116, [some (.ref 67), some (.long p0), none, some (.int r5), some (.long r7), none, some (.int 0), some (.int (-1))], [.int (-1), .int (-1), .ref 67], (h8, q))) rfl ?_
                cases hr13 : p_moveTo S (-1) (-1) with
                | none => rw [hr13] at hv; cases hv
                | some r13 =>
                  rw [hr13, o_bind] at hv
                  refine sW.call rfl rfl rfl rfl (hs8.rcv o67) (s77 hs8 hr13) ?_
                  intro h14 hs14
                  refine mW.sn 1 (g' := (120, [some (.ref 67), some (.long p0), none, some (.int r5), some (.long r7), none, some (.int 0), some (.int (-1))], [.int 0], (h14, q))) rfl ?_
                  cases hv
                  exact sW.fin hs14 rfl
              · rw [if_neg hc12] at hv
                refine mW.sn 4 (g' := (72, [some (.ref 67), some (.long p0), none, some (.int r5), some (.long r7), none, some (.int 1), none], [.int 1], (h8, q))) rfl ?_
                refine mW.no (g1 := (108, [some (.ref 67), some (.long p0), none, some (.int r5), some (.long r7), none, some (.int 1), none], [], (h8, q))) (g2 := (75, [some (.ref 67), some (.long p0), none, some (.int r5), some (.long r7), none, some (.int 1), none], [], (h8, q))) (c := (1 : Int32) = 0) rfl (by decide) ?_
                refine mW.sn 1 (g' := (76, [some (.ref 67), some (.long p0), none, some (.int r5), some (.long r7), none, some (.int 1), none], [.ref 67], (h8, q))) rfl ?_
                refine sW.getT rfl hs8 o67 rfl ?_
                refine mW.sn 1 (g' := (80, [some (.ref 67), some (.long p0), none, some (.int r5), some (.long r7), none, some (.int 1), none], [.ref 67, .ref ((rd S 67 0).toNatClampNeg)], (h8, q))) rfl ?_
                refine sW.getI rfl hs8 o67 rfl rfl ?_
                refine mW.sn 1 (g' := (84, [some (.ref 67), some (.long p0), none, some (.int r5), some (.long r7), none, some (.int 1), none], [.ref 67, .int (rd S 67 1), .ref ((rd S 67 0).toNatClampNeg)], (h8, q))) rfl ?_
                refine sW.getI rfl hs8 o67 rfl rfl ?_
                refine mW.yes (g1 := (97, [some (.ref 67), some (.long p0), none, some (.int r5), some (.long r7), none, some (.int 1), none], [.int (rd S 67 1), .ref ((rd S 67 0).toNatClampNeg)], (h8, q))) (g2 := (90, [some (.ref 67), some (.long p0), none, some (.int r5), some (.long r7), none, some (.int 1), none], [.int (rd S 67 1), .ref ((rd S 67 0).toNatClampNeg)], (h8, q))) (c := (rd S 67 3) = 0) rfl hc4 ?_
                refine mW.sn 4 (g' := (102, [some (.ref 67), some (.long p0), none, some (.int r5), some (.long r7), none, some (.int 1), none], [.int (0 + r7.toInt32), .int (rd S 67 1), .ref ((rd S 67 0).toNatClampNeg)], (h8, q))) rfl ?_
                cases hr15 : t_item (tT S ((rd S 67 0).toNatClampNeg)) (rd S 67 1) (0 + r7.toInt32) with
                | none => rw [hr15] at hv; cases hv
                | some r15 =>
                  rw [hr15, o_bind] at hv
                  refine sW.call rfl rfl rfl rfl (hs8.rcvT (hs8.okT o67 rfl)) (sW.of hs8 (x88 (hs8.gtx (hs8.okT o67 rfl)) hr15)) ?_
                  intro h16 hs16
                  refine mW.sn 5 (g' := (116, [some (.ref 67), some (.long p0), none, some (.int r5), some (.long r7), none, some (.int 1), some (.int r15)], [.int r15, .int r15, .ref 67], (h16, q))) rfl ?_
                  cases hr17 : p_moveTo S r15 r15 with
                  | none => rw [hr17] at hv; cases hv
                  | some r17 =>
                    rw [hr17, o_bind] at hv
                    refine sW.call rfl rfl rfl rfl (hs16.rcv o67) (s77 hs16 hr17) ?_
                    intro h18 hs18
                    refine mW.sn 1 (g' := (120, [some (.ref 67), some (.long p0), none, some (.int r5), some (.long r7), none, some (.int 1), some (.int r15)], [.int 0], (h18, q))) rfl ?_
                    cases hv
                    exact sW.fin hs18 rfl
      · rw [if_neg hc4] at hv
        refine mW.sn 1 (g' := (18, [some (.ref 67), some (.long p0), none, none, none, none, none, none], [.ref 67], (h2, q))) rfl ?_
        refine sW.getI rfl hs2 o67 rfl rfl ?_
        refine mW.sn 1 (g' := (22, [some (.ref 67), some (.long p0), none, none, none, none, none, none], [.ref 67, .int (rd S 67 5)], (h2, q))) rfl ?_
        refine sW.getI rfl hs2 o67 rfl rfl ?_
        refine mW.sn 5 (g' := (43, [some (.ref 67), some (.long p0), none, some (.int ((rd S 67 5) - (rd S 67 4))), none, none, none, none], [.int ((rd S 67 5) - (rd S 67 4)), .long p0], (h2, q))) rfl ?_
        cases hr19 : p_fromStart S p0 ((rd S 67 5) - (rd S 67 4)) with
        | none => rw [hr19] at hv; cases hv
        | some r19 =>
          rw [hr19, o_bind] at hv
          refine sW.call rfl rfl rfl rfl rfl (s87 hs2 hr19) ?_
          intro h20 hs20
          refine mW.sn 4 (g' := (52, [some (.ref 67), some (.long p0), none, some (.int ((rd S 67 5) - (rd S 67 4))), some (.long r19), none, none, none], [.int (lg_cmp r19 0)], (h20, q))) rfl ?_
          refine mW.br (g1 := (67, [some (.ref 67), some (.long p0), none, some (.int ((rd S 67 5) - (rd S 67 4))), some (.long r19), none, none, none], [], (h20, q))) (g2 := (55, [some (.ref 67), some (.long p0), none, some (.int ((rd S 67 5) - (rd S 67 4))), some (.long r19), none, none, none], [], (h20, q))) (c := (lg_cmp r19 0) < 0) rfl (fun hc21 => ?_) (fun hc21 => ?_)
          · rw [if_pos hc21] at hv
            refine mW.sn 3 (g' := (72, [some (.ref 67), some (.long p0), none, some (.int ((rd S 67 5) - (rd S 67 4))), some (.long r19), none, some (.int 0), none], [.int 0], (h20, q))) rfl ?_
            refine mW.yes (g1 := (108, [some (.ref 67), some (.long p0), none, some (.int ((rd S 67 5) - (rd S 67 4))), some (.long r19), none, some (.int 0), none], [], (h20, q))) (g2 := (75, [some (.ref 67), some (.long p0), none, some (.int ((rd S 67 5) - (rd S 67 4))), some (.long r19), none, some (.int 0), none], [], (h20, q))) (c := (0 : Int32) = 0) rfl (by decide) ?_
            refine mW.sn 5 (g' := (116, [some (.ref 67), some (.long p0), none, some (.int ((rd S 67 5) - (rd S 67 4))), some (.long r19), none, some (.int 0), some (.int (-1))], [.int (-1), .int (-1), .ref 67], (h20, q))) rfl ?_
            cases hr22 : p_moveTo S (-1) (-1) with
            | none => rw [hr22] at hv; cases hv
            | some r22 =>
              rw [hr22, o_bind] at hv
              refine sW.call rfl rfl rfl rfl (hs20.rcv o67) (s77 hs20 hr22) ?_
              intro h23 hs23
              refine mW.sn 1 (g' := (120, [some (.ref 67), some (.long p0), none, some (.int ((rd S 67 5) - (rd S 67 4))), some (.long r19), none, some (.int 0), some (.int (-1))], [.int 0], (h23, q))) rfl ?_
              cases hv
              exact sW.fin hs23 rfl
          · rw [if_neg hc21] at hv
            refine mW.sn 4 (g' := (60, [some (.ref 67), some (.long p0), none, some (.int ((rd S 67 5) - (rd S 67 4))), some (.long r19), none, none, none], [.int (lg_cmp r19 (((rd S 67 5) - (rd S 67 4)).toInt64))], (h20, q))) rfl ?_
            refine mW.br (g1 := (67, [some (.ref 67), some (.long p0), none, some (.int ((rd S 67 5) - (rd S 67 4))), some (.long r19), none, none, none], [], (h20, q))) (g2 := (63, [some (.ref 67), some (.long p0), none, some (.int ((rd S 67 5) - (rd S 67 4))), some (.long r19), none, none, none], [], (h20, q))) (c := 0 ≤ (lg_cmp r19 (((rd S 67 5) - (rd S 67 4)).toInt64))) rfl (fun hc24 => ?_) (fun hc24 => ?_)
            · rw [if_pos hc24] at hv
              refine mW.sn 3 (g' := (72, [some (.ref 67), some (.long p0), none, some (.int ((rd S 67 5) - (rd S 67 4))), some (.long r19), none, some (.int 0), none], [.int 0], (h20, q))) rfl ?_
              refine mW.yes (g1 := (108, [some (.ref 67), some (.long p0), none, some (.int ((rd S 67 5) - (rd S 67 4))), some (.long r19), none, some (.int 0), none], [], (h20, q))) (g2 := (75, [some (.ref 67), some (.long p0), none, some (.int ((rd S 67 5) - (rd S 67 4))), some (.long r19), none, some (.int 0), none], [], (h20, q))) (c := (0 : Int32) = 0) rfl (by decide) ?_
              refine mW.sn 5 (g' := (116, [some (.ref 67), some (.long p0), none, some (.int ((rd S 67 5) - (rd S 67 4))), some (.long r19), none, some (.int 0), some (.int (-1))], [.int (-1), .int (-1), .ref 67], (h20, q))) rfl ?_
              cases hr25 : p_moveTo S (-1) (-1) with
              | none => rw [hr25] at hv; cases hv
              | some r25 =>
                rw [hr25, o_bind] at hv
                refine sW.call rfl rfl rfl rfl (hs20.rcv o67) (s77 hs20 hr25) ?_
                intro h26 hs26
                refine mW.sn 1 (g' := (120, [some (.ref 67), some (.long p0), none, some (.int ((rd S 67 5) - (rd S 67 4))), some (.long r19), none, some (.int 0), some (.int (-1))], [.int 0], (h26, q))) rfl ?_
                cases hv
                exact sW.fin hs26 rfl
            · rw [if_neg hc24] at hv
              refine mW.sn 4 (g' := (72, [some (.ref 67), some (.long p0), none, some (.int ((rd S 67 5) - (rd S 67 4))), some (.long r19), none, some (.int 1), none], [.int 1], (h20, q))) rfl ?_
              refine mW.no (g1 := (108, [some (.ref 67), some (.long p0), none, some (.int ((rd S 67 5) - (rd S 67 4))), some (.long r19), none, some (.int 1), none], [], (h20, q))) (g2 := (75, [some (.ref 67), some (.long p0), none, some (.int ((rd S 67 5) - (rd S 67 4))), some (.long r19), none, some (.int 1), none], [], (h20, q))) (c := (1 : Int32) = 0) rfl (by decide) ?_
              refine mW.sn 1 (g' := (76, [some (.ref 67), some (.long p0), none, some (.int ((rd S 67 5) - (rd S 67 4))), some (.long r19), none, some (.int 1), none], [.ref 67], (h20, q))) rfl ?_
              refine sW.getT rfl hs20 o67 rfl ?_
              refine mW.sn 1 (g' := (80, [some (.ref 67), some (.long p0), none, some (.int ((rd S 67 5) - (rd S 67 4))), some (.long r19), none, some (.int 1), none], [.ref 67, .ref ((rd S 67 0).toNatClampNeg)], (h20, q))) rfl ?_
              refine sW.getI rfl hs20 o67 rfl rfl ?_
              refine mW.sn 1 (g' := (84, [some (.ref 67), some (.long p0), none, some (.int ((rd S 67 5) - (rd S 67 4))), some (.long r19), none, some (.int 1), none], [.ref 67, .int (rd S 67 1), .ref ((rd S 67 0).toNatClampNeg)], (h20, q))) rfl ?_
              refine sW.getI rfl hs20 o67 rfl rfl ?_
              refine mW.no (g1 := (97, [some (.ref 67), some (.long p0), none, some (.int ((rd S 67 5) - (rd S 67 4))), some (.long r19), none, some (.int 1), none], [.int (rd S 67 1), .ref ((rd S 67 0).toNatClampNeg)], (h20, q))) (g2 := (90, [some (.ref 67), some (.long p0), none, some (.int ((rd S 67 5) - (rd S 67 4))), some (.long r19), none, some (.int 1), none], [.int (rd S 67 1), .ref ((rd S 67 0).toNatClampNeg)], (h20, q))) (c := (rd S 67 3) = 0) rfl hc4 ?_
              refine mW.sn 1 (g' := (91, [some (.ref 67), some (.long p0), none, some (.int ((rd S 67 5) - (rd S 67 4))), some (.long r19), none, some (.int 1), none], [.ref 67, .int (rd S 67 1), .ref ((rd S 67 0).toNatClampNeg)], (h20, q))) rfl ?_
              refine sW.getI rfl hs20 o67 rfl rfl ?_
              refine mW.sn 4 (g' := (102, [some (.ref 67), some (.long p0), none, some (.int ((rd S 67 5) - (rd S 67 4))), some (.long r19), none, some (.int 1), none], [.int ((rd S 67 4) + r19.toInt32), .int (rd S 67 1), .ref ((rd S 67 0).toNatClampNeg)], (h20, q))) rfl ?_
              cases hr27 : t_item (tT S ((rd S 67 0).toNatClampNeg)) (rd S 67 1) ((rd S 67 4) + r19.toInt32) with
              | none => rw [hr27] at hv; cases hv
              | some r27 =>
                rw [hr27, o_bind] at hv
                refine sW.call rfl rfl rfl rfl (hs20.rcvT (hs20.okT o67 rfl)) (sW.of hs20 (x88 (hs20.gtx (hs20.okT o67 rfl)) hr27)) ?_
                intro h28 hs28
                refine mW.sn 5 (g' := (116, [some (.ref 67), some (.long p0), none, some (.int ((rd S 67 5) - (rd S 67 4))), some (.long r19), none, some (.int 1), some (.int r27)], [.int r27, .int r27, .ref 67], (h28, q))) rfl ?_
                cases hr29 : p_moveTo S r27 r27 with
                | none => rw [hr29] at hv; cases hv
                | some r29 =>
                  rw [hr29, o_bind] at hv
                  refine sW.call rfl rfl rfl rfl (hs28.rcv o67) (s77 hs28 hr29) ?_
                  intro h30 hs30
                  refine mW.sn 1 (g' := (120, [some (.ref 67), some (.long p0), none, some (.int ((rd S 67 5) - (rd S 67 4))), some (.long r19), none, some (.int 1), some (.int r27)], [.int 0], (h30, q))) rfl ?_
                  cases hv
                  exact sW.fin hs30 rfl
    · rw [if_neg hc3] at hv
      refine mW.sn 1 (g' := (9, [some (.ref 67), some (.long p0), none, none, none, none, none, none], [.int 1], (h2, q))) rfl ?_
      cases hv
      exact sW.fin hs2 rfl
def p_isBound (S : SS) (t0 : Nat) (p0 : Int32) : Option (Int32) := ((t_kind (tT S t0) p0).bind fun r1 => (if r1 = (3 : Int32) then some 1 else (if r1 = 0 then some 1 else some 0)))
theorem s92 {S : SS} {t0 : Nat} (ht0 : t0 ∈ shT) {p0 : Int32} {v : Int32} (hs : cs h S) (hv : p_isBound S t0 p0 = some v) : mW (d + 2) mm92 (0, [some (.ref t0), some (.int p0), none], [], (h, q)) (mQ q S (some (.int v))) := by
  unfold p_isBound at hv
  refine mW.sn 2 (g' := (2, [some (.ref t0), some (.int p0), none], [.int p0, .ref t0], (h, q))) rfl ?_
  cases hr1 : t_kind (tT S t0) p0 with
  | none => rw [hr1] at hv; cases hv
  | some r1 =>
    rw [hr1, o_bind] at hv
    refine sW.call rfl rfl rfl rfl (hs.rcvT ht0) (sW.of hs (x70 (hs.gtx ht0) hr1)) ?_
    intro h2 hs2
    refine mW.sn 3 (g' := (8, [some (.ref t0), some (.int p0), some (.int r1)], [.int 3, .int r1], (h2, q))) rfl ?_
    refine mW.br (g1 := (15, [some (.ref t0), some (.int p0), some (.int r1)], [], (h2, q))) (g2 := (11, [some (.ref t0), some (.int p0), some (.int r1)], [], (h2, q))) (c := r1 = (3 : Int32)) rfl (fun hc3 => ?_) (fun hc3 => ?_)
    · rw [if_pos hc3] at hv
      refine mW.sn 2 (g' := (20, [some (.ref t0), some (.int p0), some (.int r1)], [.int 1], (h2, q))) rfl ?_
      cases hv
      exact sW.fin hs2 rfl
    · rw [if_neg hc3] at hv
      refine mW.sn 1 (g' := (12, [some (.ref t0), some (.int p0), some (.int r1)], [.int r1], (h2, q))) rfl ?_
      refine mW.br (g1 := (15, [some (.ref t0), some (.int p0), some (.int r1)], [], (h2, q))) (g2 := (19, [some (.ref t0), some (.int p0), some (.int r1)], [], (h2, q))) (c := r1 = 0) rfl (fun hc4 => ?_) (fun hc4 => ?_)
      · rw [if_pos hc4] at hv
        refine mW.sn 2 (g' := (20, [some (.ref t0), some (.int p0), some (.int r1)], [.int 1], (h2, q))) rfl ?_
        cases hv
        exact sW.fin hs2 rfl
      · rw [if_neg hc4] at hv
        refine mW.sn 1 (g' := (20, [some (.ref t0), some (.int p0), some (.int r1)], [.int 0], (h2, q))) rfl ?_
        cases hv
        exact sW.fin hs2 rfl
def p_bound (S : SS) (t0 : Nat) (p0 : Int32) (p1 : Int32) (p2 : Int32) : Option (Int32) := ((t_kind (tT S t0) p0).bind fun r1 => (if r1 = 0 then some p2 else ((t_number (tT S t0) p0).bind fun r4 => ((p_fromStart S r4 p1).bind fun r6 => some ((lmax 0 (lmin r6 p1.toInt64)).toInt32)))))
theorem s95 {S : SS} {t0 : Nat} (ht0 : t0 ∈ shT) {p0 : Int32} {p1 : Int32} {p2 : Int32} {v : Int32} (hs : cs h S) (hv : p_bound S t0 p0 p1 p2 = some v) : mW (d + 2) mm95 (0, [some (.ref t0), some (.int p0), some (.int p1), some (.int p2)], [], (h, q)) (mQ q S (some (.int v))) := by
  unfold p_bound at hv
  refine mW.sn 2 (g' := (2, [some (.ref t0), some (.int p0), some (.int p1), some (.int p2)], [.int p0, .ref t0], (h, q))) rfl ?_
  cases hr1 : t_kind (tT S t0) p0 with
  | none => rw [hr1] at hv; cases hv
  | some r1 =>
    rw [hr1, o_bind] at hv
    refine sW.call rfl rfl rfl rfl (hs.rcvT ht0) (sW.of hs (x70 (hs.gtx ht0) hr1)) ?_
    intro h2 hs2
    refine mW.br (g1 := (8, [some (.ref t0), some (.int p0), some (.int p1), some (.int p2)], [], (h2, q))) (g2 := (10, [some (.ref t0), some (.int p0), some (.int p1), some (.int p2)], [], (h2, q))) (c := r1 = 0) rfl (fun hc3 => ?_) (fun hc3 => ?_)
    · rw [if_pos hc3] at hv
      refine mW.sn 1 (g' := (9, [some (.ref t0), some (.int p0), some (.int p1), some (.int p2)], [.int p2], (h2, q))) rfl ?_
      cases hv
      exact sW.fin hs2 rfl
    · rw [if_neg hc3] at hv
      refine mW.sn 3 (g' := (13, [some (.ref t0), some (.int p0), some (.int p1), some (.int p2)], [.int p0, .ref t0, .long 0], (h2, q))) rfl ?_
      cases hr4 : t_number (tT S t0) p0 with
      | none => rw [hr4] at hv; cases hv
      | some r4 =>
        rw [hr4, o_bind] at hv
        refine sW.call rfl rfl rfl rfl (hs2.rcvT ht0) (sW.of hs2 (x84 (hs2.gtx ht0) hr4)) ?_
        intro h5 hs5
        refine mW.sn 1 (g' := (17, [some (.ref t0), some (.int p0), some (.int p1), some (.int p2)], [.int p1, .long r4, .long 0], (h5, q))) rfl ?_
        cases hr6 : p_fromStart S r4 p1 with
        | none => rw [hr6] at hv; cases hv
        | some r6 =>
          rw [hr6, o_bind] at hv
          refine sW.call rfl rfl rfl rfl rfl (s87 hs5 hr6) ?_
          intro h7 hs7
          refine mW.sn 2 (g' := (22, [some (.ref t0), some (.int p0), some (.int p1), some (.int p2)], [.long p1.toInt64, .long r6, .long 0], (h7, q))) rfl ?_
          refine sW.call rfl rfl rfl rfl rfl (sW.of hs7 (x96 r6 p1.toInt64)) ?_
          intro h8 hs8
          refine sW.call rfl rfl rfl rfl rfl (sW.of hs8 (x97 0 (lmin r6 p1.toInt64))) ?_
          intro h9 hs9
          refine mW.sn 1 (g' := (29, [some (.ref t0), some (.int p0), some (.int p1), some (.int p2)], [.int ((lmax 0 (lmin r6 p1.toInt64)).toInt32)], (h9, q))) rfl ?_
          cases hv
          exact sW.fin hs9 rfl
def p_byPart (S : SS) (t0 : Nat) (p0 : Int32) : Option (SS × Int32) := ((t_itemBy (tT S t0) k9 p0).bind fun r1 => ((t_valueOf (tT S t0) r1).bind fun r3 => ((t_itemBy (tT S t0) k11 p0).bind fun r5 => ((t_valueOf (tT S t0) r5).bind fun r7 => ((p_kind S).bind fun r9 => (if r9 = (4 : Int32) then (if r9 = (5 : Int32) then ((p_isBound S t0 r3).bind fun r14 => (if r14 = 0 then some (S, 1) else ((p_isBound S t0 r7).bind fun r17 => (if r17 = 0 then some (S, 1) else (if (rd S 67 3) = 0 then ((t_chars (tT (wr (wr S 67 3 1) 67 4 0) ((rd (wr (wr S 67 3 1) 67 4 0) 67 0).toNatClampNeg)) (rd (wr (wr S 67 3 1) 67 4 0) 67 1)).bind fun r23 => ((p_bound (wr (wr (wr S 67 3 1) 67 4 0) 67 5 r23) t0 r3 ((rd (wr (wr (wr S 67 3 1) 67 4 0) 67 5 r23) 67 5) - (rd (wr (wr (wr S 67 3 1) 67 4 0) 67 5 r23) 67 4)) 0).bind fun r26 => ((p_bound (wr (wr (wr S 67 3 1) 67 4 0) 67 5 r23) t0 r7 ((rd (wr (wr (wr S 67 3 1) 67 4 0) 67 5 r23) 67 5) - (rd (wr (wr (wr S 67 3 1) 67 4 0) 67 5 r23) 67 4)) ((rd (wr (wr (wr S 67 3 1) 67 4 0) 67 5 r23) 67 5) - (rd (wr (wr (wr S 67 3 1) 67 4 0) 67 5 r23) 67 4))).bind fun r28 => some (wr (wr (wr (wr (wr S 67 3 1) 67 4 0) 67 5 r23) 67 5 ((rd (wr (wr (wr S 67 3 1) 67 4 0) 67 5 r23) 67 4) + (imax r26 r28))) 67 4 ((rd (wr (wr (wr (wr S 67 3 1) 67 4 0) 67 5 r23) 67 5 ((rd (wr (wr (wr S 67 3 1) 67 4 0) 67 5 r23) 67 4) + (imax r26 r28))) 67 4) + r26), 0)))) else ((p_bound S t0 r3 ((rd S 67 5) - (rd S 67 4)) 0).bind fun r33 => ((p_bound S t0 r7 ((rd S 67 5) - (rd S 67 4)) ((rd S 67 5) - (rd S 67 4))).bind fun r35 => some (wr (wr S 67 5 ((rd S 67 4) + (imax r33 r35))) 67 4 ((rd (wr S 67 5 ((rd S 67 4) + (imax r33 r35))) 67 4) + r33), 0)))))))) else ((p_isBound S t0 r3).bind fun r40 => (if r40 = 0 then some (S, 1) else ((p_isBound S t0 r7).bind fun r43 => (if r43 = 0 then some (S, 1) else (if (rd S 67 3) = 0 then ((t_chars (tT (wr (wr S 67 3 1) 67 4 0) ((rd (wr (wr S 67 3 1) 67 4 0) 67 0).toNatClampNeg)) (rd (wr (wr S 67 3 1) 67 4 0) 67 1)).bind fun r49 => ((p_bound (wr (wr (wr S 67 3 1) 67 4 0) 67 5 r49) t0 r3 ((rd (wr (wr (wr S 67 3 1) 67 4 0) 67 5 r49) 67 5) - (rd (wr (wr (wr S 67 3 1) 67 4 0) 67 5 r49) 67 4)) 0).bind fun r52 => ((p_bound (wr (wr (wr S 67 3 1) 67 4 0) 67 5 r49) t0 r7 ((rd (wr (wr (wr S 67 3 1) 67 4 0) 67 5 r49) 67 5) - (rd (wr (wr (wr S 67 3 1) 67 4 0) 67 5 r49) 67 4)) ((rd (wr (wr (wr S 67 3 1) 67 4 0) 67 5 r49) 67 5) - (rd (wr (wr (wr S 67 3 1) 67 4 0) 67 5 r49) 67 4))).bind fun r54 => some (wr (wr (wr (wr (wr S 67 3 1) 67 4 0) 67 5 r49) 67 5 ((rd (wr (wr (wr S 67 3 1) 67 4 0) 67 5 r49) 67 4) + (imax r52 r54))) 67 4 ((rd (wr (wr (wr (wr S 67 3 1) 67 4 0) 67 5 r49) 67 5 ((rd (wr (wr (wr S 67 3 1) 67 4 0) 67 5 r49) 67 4) + (imax r52 r54))) 67 4) + r52), 0)))) else ((p_bound S t0 r3 ((rd S 67 5) - (rd S 67 4)) 0).bind fun r59 => ((p_bound S t0 r7 ((rd S 67 5) - (rd S 67 4)) ((rd S 67 5) - (rd S 67 4))).bind fun r61 => some (wr (wr S 67 5 ((rd S 67 4) + (imax r59 r61))) 67 4 ((rd (wr S 67 5 ((rd S 67 4) + (imax r59 r61))) 67 4) + r59), 0))))))))) else (if r9 = (5 : Int32) then ((p_isBound S t0 r3).bind fun r68 => (if r68 = 0 then some (S, 1) else ((p_isBound S t0 r7).bind fun r71 => (if r71 = 0 then some (S, 1) else (if (rd S 67 3) = 0 then ((t_items (tT (wr (wr S 67 3 1) 67 4 0) ((rd (wr (wr S 67 3 1) 67 4 0) 67 0).toNatClampNeg)) (rd (wr (wr S 67 3 1) 67 4 0) 67 1)).bind fun r77 => ((p_bound (wr (wr (wr S 67 3 1) 67 4 0) 67 5 r77) t0 r3 ((rd (wr (wr (wr S 67 3 1) 67 4 0) 67 5 r77) 67 5) - (rd (wr (wr (wr S 67 3 1) 67 4 0) 67 5 r77) 67 4)) 0).bind fun r80 => ((p_bound (wr (wr (wr S 67 3 1) 67 4 0) 67 5 r77) t0 r7 ((rd (wr (wr (wr S 67 3 1) 67 4 0) 67 5 r77) 67 5) - (rd (wr (wr (wr S 67 3 1) 67 4 0) 67 5 r77) 67 4)) ((rd (wr (wr (wr S 67 3 1) 67 4 0) 67 5 r77) 67 5) - (rd (wr (wr (wr S 67 3 1) 67 4 0) 67 5 r77) 67 4))).bind fun r82 => some (wr (wr (wr (wr (wr S 67 3 1) 67 4 0) 67 5 r77) 67 5 ((rd (wr (wr (wr S 67 3 1) 67 4 0) 67 5 r77) 67 4) + (imax r80 r82))) 67 4 ((rd (wr (wr (wr (wr S 67 3 1) 67 4 0) 67 5 r77) 67 5 ((rd (wr (wr (wr S 67 3 1) 67 4 0) 67 5 r77) 67 4) + (imax r80 r82))) 67 4) + r80), 0)))) else ((p_bound S t0 r3 ((rd S 67 5) - (rd S 67 4)) 0).bind fun r87 => ((p_bound S t0 r7 ((rd S 67 5) - (rd S 67 4)) ((rd S 67 5) - (rd S 67 4))).bind fun r89 => some (wr (wr S 67 5 ((rd S 67 4) + (imax r87 r89))) 67 4 ((rd (wr S 67 5 ((rd S 67 4) + (imax r87 r89))) 67 4) + r87), 0)))))))) else some (S, 1))))))))
theorem s89 {S : SS} {t0 : Nat} (ht0 : t0 ∈ shT) {p0 : Int32} {v : SS × Int32} (hs : cs h S) (hv : p_byPart S t0 p0 = some v) : mW (d + 6) mm89 (0, [some (.ref 67), some (.ref t0), some (.int p0), none, none, none, none, none, none], [], (h, q)) (mQ q v.1 (some (.int v.2))) := by
  unfold p_byPart at hv
  refine mW.sn 4 (g' := (5, [some (.ref 67), some (.ref t0), some (.int p0), none, none, none, none, none, none], [.ref 9, .int p0, .ref t0, .ref t0], (h, q))) rfl ?_
  cases hr1 : t_itemBy (tT S t0) k9 p0 with
  | none => rw [hr1] at hv; cases hv
  | some r1 =>
    rw [hr1, o_bind] at hv
    refine sW.call rfl rfl rfl rfl (hs.rcvT ht0) (sW.of hs (x90 (hs.gtx ht0) (hs.gsx m9) hr1)) ?_
    intro h2 hs2
    cases hr3 : t_valueOf (tT S t0) r1 with
    | none => rw [hr3] at hv; cases hv
    | some r3 =>
      rw [hr3, o_bind] at hv
      refine sW.call rfl rfl rfl rfl (hs2.rcvT ht0) (sW.of hs2 (x82 (hs2.gtx ht0) hr3)) ?_
      intro h4 hs4
      refine mW.sn 5 (g' := (17, [some (.ref 67), some (.ref t0), some (.int p0), some (.int r3), none, none, none, none, none], [.ref 11, .int p0, .ref t0, .ref t0], (h4, q))) rfl ?_
      cases hr5 : t_itemBy (tT S t0) k11 p0 with
      | none => rw [hr5] at hv; cases hv
      | some r5 =>
        rw [hr5, o_bind] at hv
        refine sW.call rfl rfl rfl rfl (hs4.rcvT ht0) (sW.of hs4 (x90 (hs4.gtx ht0) (hs4.gsx m11) hr5)) ?_
        intro h6 hs6
        cases hr7 : t_valueOf (tT S t0) r5 with
        | none => rw [hr7] at hv; cases hv
        | some r7 =>
          rw [hr7, o_bind] at hv
          refine sW.call rfl rfl rfl rfl (hs6.rcvT ht0) (sW.of hs6 (x82 (hs6.gtx ht0) hr7)) ?_
          intro h8 hs8
          refine mW.sn 2 (g' := (26, [some (.ref 67), some (.ref t0), some (.int p0), some (.int r3), some (.int r7), none, none, none, none], [.ref 67], (h8, q))) rfl ?_
          cases hr9 : p_kind S with
          | none => rw [hr9] at hv; cases hv
          | some r9 =>
            rw [hr9, o_bind] at hv
            refine sW.call rfl rfl rfl rfl (hs8.rcv o67) (s76 hs8 hr9) ?_
            intro h10 hs10
            refine mW.sn 1 (g' := (30, [some (.ref 67), some (.ref t0), some (.int p0), some (.int r3), some (.int r7), none, none, none, none], [.int 4, .int r9], (h10, q))) rfl ?_
            refine mW.br (g1 := (33, [some (.ref 67), some (.ref t0), some (.int p0), some (.int r3), some (.int r7), none, none, none, none], [], (h10, q))) (g2 := (37, [some (.ref 67), some (.ref t0), some (.int p0), some (.int r3), some (.int r7), none, none, none, none], [], (h10, q))) (c := r9 = (4 : Int32)) rfl (fun hc11 => ?_) (fun hc11 => ?_)
            · rw [if_pos hc11] at hv
              refine mW.sn 4 (g' := (41, [some (.ref 67), some (.ref t0), some (.int p0), some (.int r3), some (.int r7), some (.int 1), none, none, none], [.ref 67], (h10, q))) rfl ?_
              refine sW.call rfl rfl rfl rfl (hs10.rcv o67) (s76 hs10 hr9) ?_
              intro h12 hs12
              refine mW.sn 1 (g' := (45, [some (.ref 67), some (.ref t0), some (.int p0), some (.int r3), some (.int r7), some (.int 1), none, none, none], [.int 5, .int r9], (h12, q))) rfl ?_
              refine mW.br (g1 := (53, [some (.ref 67), some (.ref t0), some (.int p0), some (.int r3), some (.int r7), some (.int 1), none, none, none], [], (h12, q))) (g2 := (48, [some (.ref 67), some (.ref t0), some (.int p0), some (.int r3), some (.int r7), some (.int 1), none, none, none], [], (h12, q))) (c := r9 = (5 : Int32)) rfl (fun hc13 => ?_) (fun hc13 => ?_)
              · rw [if_pos hc13] at hv
                refine mW.sn 2 (g' := (55, [some (.ref 67), some (.ref t0), some (.int p0), some (.int r3), some (.int r7), some (.int 1), none, none, none], [.int r3, .ref t0], (h12, q))) rfl ?_
                cases hr14 : p_isBound S t0 r3 with
                | none => rw [hr14] at hv; cases hv
                | some r14 =>
                  rw [hr14, o_bind] at hv
                  refine sW.call rfl rfl rfl rfl rfl (s92 ht0 hs12 hr14) ?_
                  intro h15 hs15
                  refine mW.br (g1 := (70, [some (.ref 67), some (.ref t0), some (.int p0), some (.int r3), some (.int r7), some (.int 1), none, none, none], [], (h15, q))) (g2 := (61, [some (.ref 67), some (.ref t0), some (.int p0), some (.int r3), some (.int r7), some (.int 1), none, none, none], [], (h15, q))) (c := r14 = 0) rfl (fun hc16 => ?_) (fun hc16 => ?_)
                  · rw [if_pos hc16] at hv
                    refine mW.sn 1 (g' := (71, [some (.ref 67), some (.ref t0), some (.int p0), some (.int r3), some (.int r7), some (.int 1), none, none, none], [.int 1], (h15, q))) rfl ?_
                    cases hv
                    exact sW.fin hs15 rfl
                  · rw [if_neg hc16] at hv
                    refine mW.sn 2 (g' := (64, [some (.ref 67), some (.ref t0), some (.int p0), some (.int r3), some (.int r7), some (.int 1), none, none, none], [.int r7, .ref t0], (h15, q))) rfl ?_
                    cases hr17 : p_isBound S t0 r7 with
                    | none => rw [hr17] at hv; cases hv
                    | some r17 =>
                      rw [hr17, o_bind] at hv
                      refine sW.call rfl rfl rfl rfl rfl (s92 ht0 hs15 hr17) ?_
                      intro h18 hs18
                      refine mW.br (g1 := (70, [some (.ref 67), some (.ref t0), some (.int p0), some (.int r3), some (.int r7), some (.int 1), none, none, none], [], (h18, q))) (g2 := (72, [some (.ref 67), some (.ref t0), some (.int p0), some (.int r3), some (.int r7), some (.int 1), none, none, none], [], (h18, q))) (c := r17 = 0) rfl (fun hc19 => ?_) (fun hc19 => ?_)
                      · rw [if_pos hc19] at hv
                        refine mW.sn 1 (g' := (71, [some (.ref 67), some (.ref t0), some (.int p0), some (.int r3), some (.int r7), some (.int 1), none, none, none], [.int 1], (h18, q))) rfl ?_
                        cases hv
                        exact sW.fin hs18 rfl
                      · rw [if_neg hc19] at hv
                        refine mW.sn 1 (g' := (73, [some (.ref 67), some (.ref t0), some (.int p0), some (.int r3), some (.int r7), some (.int 1), none, none, none], [.ref 67], (h18, q))) rfl ?_
                        refine sW.getI rfl hs18 o67 rfl rfl ?_
                        refine mW.br (g1 := (79, [some (.ref 67), some (.ref t0), some (.int p0), some (.int r3), some (.int r7), some (.int 1), none, none, none], [], (h18, q))) (g2 := (123, [some (.ref 67), some (.ref t0), some (.int p0), some (.int r3), some (.int r7), some (.int 1), none, none, none], [], (h18, q))) (c := (rd S 67 3) = 0) rfl (fun hc20 => ?_) (fun hc20 => ?_)
                        · rw [if_pos hc20] at hv
                          refine mW.sn 2 (g' := (81, [some (.ref 67), some (.ref t0), some (.int p0), some (.int r3), some (.int r7), some (.int 1), none, none, none], [.int 1, .ref 67], (h18, q))) rfl ?_
                          refine sW.putZ rfl hs18 o67 rfl (by decide) ?_
                          intro h21 hs21
                          refine mW.sn 2 (g' := (86, [some (.ref 67), some (.ref t0), some (.int p0), some (.int r3), some (.int r7), some (.int 1), none, none, none], [.int 0, .ref 67], (h21, q))) rfl ?_
                          refine sW.putI rfl hs21 o67 rfl ?_
                          intro h22 hs22
                          refine mW.sn 2 (g' := (92, [some (.ref 67), some (.ref t0), some (.int p0), some (.int r3), some (.int r7), some (.int 1), none, none, none], [.int 1, .ref 67], (h22, q))) rfl ?_
                          refine mW.no (g1 := (109, [some (.ref 67), some (.ref t0), some (.int p0), some (.int r3), some (.int r7), some (.int 1), none, none, none], [.ref 67], (h22, q))) (g2 := (95, [some (.ref 67), some (.ref t0), some (.int p0), some (.int r3), some (.int r7), some (.int 1), none, none, none], [.ref 67], (h22, q))) (c := (1 : Int32) = 0) rfl (by decide) ?_
                          refine mW.sn 1 (g' := (96, [some (.ref 67), some (.ref t0), some (.int p0), some (.int r3), some (.int r7), some (.int 1), none, none, none], [.ref 67, .ref 67], (h22, q))) rfl ?_
                          refine sW.getT rfl hs22 o67 rfl ?_
                          refine mW.sn 1 (g' := (100, [some (.ref 67), some (.ref t0), some (.int p0), some (.int r3), some (.int r7), some (.int 1), none, none, none], [.ref 67, .ref ((rd (wr (wr S 67 3 1) 67 4 0) 67 0).toNatClampNeg), .ref 67], (h22, q))) rfl ?_
                          refine sW.getI rfl hs22 o67 rfl rfl ?_
                          cases hr23 : t_chars (tT (wr (wr S 67 3 1) 67 4 0) ((rd (wr (wr S 67 3 1) 67 4 0) 67 0).toNatClampNeg)) (rd (wr (wr S 67 3 1) 67 4 0) 67 1) with
                          | none => rw [hr23] at hv; cases hv
                          | some r23 =>
                            rw [hr23, o_bind] at hv
                            refine sW.call rfl rfl rfl rfl (hs22.rcvT (hs22.okT o67 rfl)) (sW.of hs22 (x93 (hs22.gtx (hs22.okT o67 rfl)) hr23)) ?_
                            intro h24 hs24
                            refine mW.sn 1 (g' := (120, [some (.ref 67), some (.ref t0), some (.int p0), some (.int r3), some (.int r7), some (.int 1), none, none, none], [.int r23, .ref 67], (h24, q))) rfl ?_
                            refine sW.putI rfl hs24 o67 rfl ?_
                            intro h25 hs25
                            refine mW.sn 1 (g' := (124, [some (.ref 67), some (.ref t0), some (.int p0), some (.int r3), some (.int r7), some (.int 1), none, none, none], [.ref 67], (h25, q))) rfl ?_
                            refine sW.getI rfl hs25 o67 rfl rfl ?_
                            refine mW.sn 1 (g' := (128, [some (.ref 67), some (.ref t0), some (.int p0), some (.int r3), some (.int r7), some (.int 1), none, none, none], [.ref 67, .int (rd (wr (wr (wr S 67 3 1) 67 4 0) 67 5 r23) 67 5)], (h25, q))) rfl ?_
                            refine sW.getI rfl hs25 o67 rfl rfl ?_
                            refine mW.sn 6 (g' := (139, [some (.ref 67), some (.ref t0), some (.int p0), some (.int r3), some (.int r7), some (.int 1), some (.int ((rd (wr (wr (wr S 67 3 1) 67 4 0) 67 5 r23) 67 5) - (rd (wr (wr (wr S 67 3 1) 67 4 0) 67 5 r23) 67 4))), none, none], [.int 0, .int ((rd (wr (wr (wr S 67 3 1) 67 4 0) 67 5 r23) 67 5) - (rd (wr (wr (wr S 67 3 1) 67 4 0) 67 5 r23) 67 4)), .int r3, .ref t0], (h25, q))) rfl ?_
                            cases hr26 : p_bound (wr (wr (wr S 67 3 1) 67 4 0) 67 5 r23) t0 r3 ((rd (wr (wr (wr S 67 3 1) 67 4 0) 67 5 r23) 67 5) - (rd (wr (wr (wr S 67 3 1) 67 4 0) 67 5 r23) 67 4)) 0 with
                            | none => rw [hr26] at hv; cases hv
                            | some r26 =>
                              rw [hr26, o_bind] at hv
                              refine sW.call rfl rfl rfl rfl rfl (s95 ht0 hs25 hr26) ?_
                              intro h27 hs27
                              refine mW.sn 5 (g' := (151, [some (.ref 67), some (.ref t0), some (.int p0), some (.int r3), some (.int r7), some (.int 1), some (.int ((rd (wr (wr (wr S 67 3 1) 67 4 0) 67 5 r23) 67 5) - (rd (wr (wr (wr S 67 3 1) 67 4 0) 67 5 r23) 67 4))), some (.int r26), none], [.int ((rd (wr (wr (wr S 67 3 1) 67 4 0) 67 5 r23) 67 5) - (rd (wr (wr (wr S 67 3 1) 67 4 0) 67 5 r23) 67 4)), .int ((rd (wr (wr (wr S 67 3 1) 67 4 0) 67 5 r23) 67 5) - (rd (wr (wr (wr S 67 3 1) 67 4 0) 67 5 r23) 67 4)), .int r7, .ref t0], (h27, q))) rfl ?_
                              cases hr28 : p_bound (wr (wr (wr S 67 3 1) 67 4 0) 67 5 r23) t0 r7 ((rd (wr (wr (wr S 67 3 1) 67 4 0) 67 5 r23) 67 5) - (rd (wr (wr (wr S 67 3 1) 67 4 0) 67 5 r23) 67 4)) ((rd (wr (wr (wr S 67 3 1) 67 4 0) 67 5 r23) 67 5) - (rd (wr (wr (wr S 67 3 1) 67 4 0) 67 5 r23) 67 4)) with
                              | none => rw [hr28] at hv; cases hv
                              | some r28 =>
                                rw [hr28, o_bind] at hv
                                refine sW.call rfl rfl rfl rfl rfl (s95 ht0 hs27 hr28) ?_
                                intro h29 hs29
                                refine mW.sn 3 (g' := (158, [some (.ref 67), some (.ref t0), some (.int p0), some (.int r3), some (.int r7), some (.int 1), some (.int ((rd (wr (wr (wr S 67 3 1) 67 4 0) 67 5 r23) 67 5) - (rd (wr (wr (wr S 67 3 1) 67 4 0) 67 5 r23) 67 4))), some (.int r26), some (.int r28)], [.ref 67, .ref 67], (h29, q))) rfl ?_
                                refine sW.getI rfl hs29 o67 rfl rfl ?_
                                refine mW.sn 2 (g' := (165, [some (.ref 67), some (.ref t0), some (.int p0), some (.int r3), some (.int r7), some (.int 1), some (.int ((rd (wr (wr (wr S 67 3 1) 67 4 0) 67 5 r23) 67 5) - (rd (wr (wr (wr S 67 3 1) 67 4 0) 67 5 r23) 67 4))), some (.int r26), some (.int r28)], [.int r28, .int r26, .int (rd (wr (wr (wr S 67 3 1) 67 4 0) 67 5 r23) 67 4), .ref 67], (h29, q))) rfl ?_
                                refine sW.call rfl rfl rfl rfl rfl (sW.of hs29 (x30 r26 r28)) ?_
                                intro h30 hs30
                                refine mW.sn 1 (g' := (169, [some (.ref 67), some (.ref t0), some (.int p0), some (.int r3), some (.int r7), some (.int 1), some (.int ((rd (wr (wr (wr S 67 3 1) 67 4 0) 67 5 r23) 67 5) - (rd (wr (wr (wr S 67 3 1) 67 4 0) 67 5 r23) 67 4))), some (.int r26), some (.int r28)], [.int ((rd (wr (wr (wr S 67 3 1) 67 4 0) 67 5 r23) 67 4) + (imax r26 r28)), .ref 67], (h30, q))) rfl ?_
                                refine sW.putI rfl hs30 o67 rfl ?_
                                intro h31 hs31
                                refine mW.sn 2 (g' := (174, [some (.ref 67), some (.ref t0), some (.int p0), some (.int r3), some (.int r7), some (.int 1), some (.int ((rd (wr (wr (wr S 67 3 1) 67 4 0) 67 5 r23) 67 5) - (rd (wr (wr (wr S 67 3 1) 67 4 0) 67 5 r23) 67 4))), some (.int r26), some (.int r28)], [.ref 67, .ref 67], (h31, q))) rfl ?_
                                refine sW.getI rfl hs31 o67 rfl rfl ?_
                                refine mW.sn 2 (g' := (180, [some (.ref 67), some (.ref t0), some (.int p0), some (.int r3), some (.int r7), some (.int 1), some (.int ((rd (wr (wr (wr S 67 3 1) 67 4 0) 67 5 r23) 67 5) - (rd (wr (wr (wr S 67 3 1) 67 4 0) 67 5 r23) 67 4))), some (.int r26), some (.int r28)], [.int ((rd (wr (wr (wr (wr S 67 3 1) 67 4 0) 67 5 r23) 67 5 ((rd (wr (wr (wr S 67 3 1) 67 4 0) 67 5 r23) 67 4) + (imax r26 r28))) 67 4) + r26), .ref 67], (h31, q))) rfl ?_
                                refine sW.putI rfl hs31 o67 rfl ?_
                                intro h32 hs32
                                refine mW.sn 1 (g' := (184, [some (.ref 67), some (.ref t0), some (.int p0), some (.int r3), some (.int r7), some (.int 1), some (.int ((rd (wr (wr (wr S 67 3 1) 67 4 0) 67 5 r23) 67 5) - (rd (wr (wr (wr S 67 3 1) 67 4 0) 67 5 r23) 67 4))), some (.int r26), some (.int r28)], [.int 0], (h32, q))) rfl ?_
                                cases hv
                                exact sW.fin hs32 rfl
                        · rw [if_neg hc20] at hv
                          refine mW.sn 1 (g' := (124, [some (.ref 67), some (.ref t0), some (.int p0), some (.int r3), some (.int r7), some (.int 1), none, none, none], [.ref 67], (h18, q))) rfl ?_
                          refine sW.getI rfl hs18 o67 rfl rfl ?_
                          refine mW.sn 1 (g' := (128, [some (.ref 67), some (.ref t0), some (.int p0), some (.int r3), some (.int r7), some (.int 1), none, none, none], [.ref 67, .int (rd S 67 5)], (h18, q))) rfl ?_
                          refine sW.getI rfl hs18 o67 rfl rfl ?_
                          refine mW.sn 6 (g' := (139, [some (.ref 67), some (.ref t0), some (.int p0), some (.int r3), some (.int r7), some (.int 1), some (.int ((rd S 67 5) - (rd S 67 4))), none, none], [.int 0, .int ((rd S 67 5) - (rd S 67 4)), .int r3, .ref t0], (h18, q))) rfl ?_
                          cases hr33 : p_bound S t0 r3 ((rd S 67 5) - (rd S 67 4)) 0 with
                          | none => rw [hr33] at hv; cases hv
                          | some r33 =>
                            rw [hr33, o_bind] at hv
                            refine sW.call rfl rfl rfl rfl rfl (s95 ht0 hs18 hr33) ?_
                            intro h34 hs34
                            refine mW.sn 5 (g' := (151, [some (.ref 67), some (.ref t0), some (.int p0), some (.int r3), some (.int r7), some (.int 1), some (.int ((rd S 67 5) - (rd S 67 4))), some (.int r33), none], [.int ((rd S 67 5) - (rd S 67 4)), .int ((rd S 67 5) - (rd S 67 4)), .int r7, .ref t0], (h34, q))) rfl ?_
                            cases hr35 : p_bound S t0 r7 ((rd S 67 5) - (rd S 67 4)) ((rd S 67 5) - (rd S 67 4)) with
                            | none => rw [hr35] at hv; cases hv
                            | some r35 =>
                              rw [hr35, o_bind] at hv
                              refine sW.call rfl rfl rfl rfl rfl (s95 ht0 hs34 hr35) ?_
                              intro h36 hs36
                              refine mW.sn 3 (g' := (158, [some (.ref 67), some (.ref t0), some (.int p0), some (.int r3), some (.int r7), some (.int 1), some (.int ((rd S 67 5) - (rd S 67 4))), some (.int r33), some (.int r35)], [.ref 67, .ref 67], (h36, q))) rfl ?_
                              refine sW.getI rfl hs36 o67 rfl rfl ?_
                              refine mW.sn 2 (g' := (165, [some (.ref 67), some (.ref t0), some (.int p0), some (.int r3), some (.int r7), some (.int 1), some (.int ((rd S 67 5) - (rd S 67 4))), some (.int r33), some (.int r35)], [.int r35, .int r33, .int (rd S 67 4), .ref 67], (h36, q))) rfl ?_
                              refine sW.call rfl rfl rfl rfl rfl (sW.of hs36 (x30 r33 r35)) ?_
                              intro h37 hs37
                              refine mW.sn 1 (g' := (169, [some (.ref 67), some (.ref t0), some (.int p0), some (.int r3), some (.int r7), some (.int 1), some (.int ((rd S 67 5) - (rd S 67 4))), some (.int r33), some (.int r35)], [.int ((rd S 67 4) + (imax r33 r35)), .ref 67], (h37, q))) rfl ?_
                              refine sW.putI rfl hs37 o67 rfl ?_
                              intro h38 hs38
                              refine mW.sn 2 (g' := (174, [some (.ref 67), some (.ref t0), some (.int p0), some (.int r3), some (.int r7), some (.int 1), some (.int ((rd S 67 5) - (rd S 67 4))), some (.int r33), some (.int r35)], [.ref 67, .ref 67], (h38, q))) rfl ?_
                              refine sW.getI rfl hs38 o67 rfl rfl ?_
                              refine mW.sn 2 (g' := (180, [some (.ref 67), some (.ref t0), some (.int p0), some (.int r3), some (.int r7), some (.int 1), some (.int ((rd S 67 5) - (rd S 67 4))), some (.int r33), some (.int r35)], [.int ((rd (wr S 67 5 ((rd S 67 4) + (imax r33 r35))) 67 4) + r33), .ref 67], (h38, q))) rfl ?_
                              refine sW.putI rfl hs38 o67 rfl ?_
                              intro h39 hs39
                              refine mW.sn 1 (g' := (184, [some (.ref 67), some (.ref t0), some (.int p0), some (.int r3), some (.int r7), some (.int 1), some (.int ((rd S 67 5) - (rd S 67 4))), some (.int r33), some (.int r35)], [.int 0], (h39, q))) rfl ?_
                              cases hv
                              exact sW.fin hs39 rfl
              · rw [if_neg hc13] at hv
                refine mW.sn 1 (g' := (50, [some (.ref 67), some (.ref t0), some (.int p0), some (.int r3), some (.int r7), some (.int 1), none, none, none], [.int 1], (h12, q))) rfl ?_
                refine mW.no (g1 := (70, [some (.ref 67), some (.ref t0), some (.int p0), some (.int r3), some (.int r7), some (.int 1), none, none, none], [], (h12, q))) (g2 := (53, [some (.ref 67), some (.ref t0), some (.int p0), some (.int r3), some (.int r7), some (.int 1), none, none, none], [], (h12, q))) (c := (1 : Int32) = 0) rfl (by decide) ?_
                refine mW.sn 2 (g' := (55, [some (.ref 67), some (.ref t0), some (.int p0), some (.int r3), some (.int r7), some (.int 1), none, none, none], [.int r3, .ref t0], (h12, q))) rfl ?_
                cases hr40 : p_isBound S t0 r3 with
                | none => rw [hr40] at hv; cases hv
                | some r40 =>
                  rw [hr40, o_bind] at hv
                  refine sW.call rfl rfl rfl rfl rfl (s92 ht0 hs12 hr40) ?_
                  intro h41 hs41
                  refine mW.br (g1 := (70, [some (.ref 67), some (.ref t0), some (.int p0), some (.int r3), some (.int r7), some (.int 1), none, none, none], [], (h41, q))) (g2 := (61, [some (.ref 67), some (.ref t0), some (.int p0), some (.int r3), some (.int r7), some (.int 1), none, none, none], [], (h41, q))) (c := r40 = 0) rfl (fun hc42 => ?_) (fun hc42 => ?_)
                  · rw [if_pos hc42] at hv
                    refine mW.sn 1 (g' := (71, [some (.ref 67), some (.ref t0), some (.int p0), some (.int r3), some (.int r7), some (.int 1), none, none, none], [.int 1], (h41, q))) rfl ?_
                    cases hv
                    exact sW.fin hs41 rfl
                  · rw [if_neg hc42] at hv
                    refine mW.sn 2 (g' := (64, [some (.ref 67), some (.ref t0), some (.int p0), some (.int r3), some (.int r7), some (.int 1), none, none, none], [.int r7, .ref t0], (h41, q))) rfl ?_
                    cases hr43 : p_isBound S t0 r7 with
                    | none => rw [hr43] at hv; cases hv
                    | some r43 =>
                      rw [hr43, o_bind] at hv
                      refine sW.call rfl rfl rfl rfl rfl (s92 ht0 hs41 hr43) ?_
                      intro h44 hs44
                      refine mW.br (g1 := (70, [some (.ref 67), some (.ref t0), some (.int p0), some (.int r3), some (.int r7), some (.int 1), none, none, none], [], (h44, q))) (g2 := (72, [some (.ref 67), some (.ref t0), some (.int p0), some (.int r3), some (.int r7), some (.int 1), none, none, none], [], (h44, q))) (c := r43 = 0) rfl (fun hc45 => ?_) (fun hc45 => ?_)
                      · rw [if_pos hc45] at hv
                        refine mW.sn 1 (g' := (71, [some (.ref 67), some (.ref t0), some (.int p0), some (.int r3), some (.int r7), some (.int 1), none, none, none], [.int 1], (h44, q))) rfl ?_
                        cases hv
                        exact sW.fin hs44 rfl
                      · rw [if_neg hc45] at hv
                        refine mW.sn 1 (g' := (73, [some (.ref 67), some (.ref t0), some (.int p0), some (.int r3), some (.int r7), some (.int 1), none, none, none], [.ref 67], (h44, q))) rfl ?_
                        refine sW.getI rfl hs44 o67 rfl rfl ?_
                        refine mW.br (g1 := (79, [some (.ref 67), some (.ref t0), some (.int p0), some (.int r3), some (.int r7), some (.int 1), none, none, none], [], (h44, q))) (g2 := (123, [some (.ref 67), some (.ref t0), some (.int p0), some (.int r3), some (.int r7), some (.int 1), none, none, none], [], (h44, q))) (c := (rd S 67 3) = 0) rfl (fun hc46 => ?_) (fun hc46 => ?_)
                        · rw [if_pos hc46] at hv
                          refine mW.sn 2 (g' := (81, [some (.ref 67), some (.ref t0), some (.int p0), some (.int r3), some (.int r7), some (.int 1), none, none, none], [.int 1, .ref 67], (h44, q))) rfl ?_
                          refine sW.putZ rfl hs44 o67 rfl (by decide) ?_
                          intro h47 hs47
                          refine mW.sn 2 (g' := (86, [some (.ref 67), some (.ref t0), some (.int p0), some (.int r3), some (.int r7), some (.int 1), none, none, none], [.int 0, .ref 67], (h47, q))) rfl ?_
                          refine sW.putI rfl hs47 o67 rfl ?_
                          intro h48 hs48
                          refine mW.sn 2 (g' := (92, [some (.ref 67), some (.ref t0), some (.int p0), some (.int r3), some (.int r7), some (.int 1), none, none, none], [.int 1, .ref 67], (h48, q))) rfl ?_
                          refine mW.no (g1 := (109, [some (.ref 67), some (.ref t0), some (.int p0), some (.int r3), some (.int r7), some (.int 1), none, none, none], [.ref 67], (h48, q))) (g2 := (95, [some (.ref 67), some (.ref t0), some (.int p0), some (.int r3), some (.int r7), some (.int 1), none, none, none], [.ref 67], (h48, q))) (c := (1 : Int32) = 0) rfl (by decide) ?_
                          refine mW.sn 1 (g' := (96, [some (.ref 67), some (.ref t0), some (.int p0), some (.int r3), some (.int r7), some (.int 1), none, none, none], [.ref 67, .ref 67], (h48, q))) rfl ?_
                          refine sW.getT rfl hs48 o67 rfl ?_
                          refine mW.sn 1 (g' := (100, [some (.ref 67), some (.ref t0), some (.int p0), some (.int r3), some (.int r7), some (.int 1), none, none, none], [.ref 67, .ref ((rd (wr (wr S 67 3 1) 67 4 0) 67 0).toNatClampNeg), .ref 67], (h48, q))) rfl ?_
                          refine sW.getI rfl hs48 o67 rfl rfl ?_
                          cases hr49 : t_chars (tT (wr (wr S 67 3 1) 67 4 0) ((rd (wr (wr S 67 3 1) 67 4 0) 67 0).toNatClampNeg)) (rd (wr (wr S 67 3 1) 67 4 0) 67 1) with
                          | none => rw [hr49] at hv; cases hv
                          | some r49 =>
                            rw [hr49, o_bind] at hv
                            refine sW.call rfl rfl rfl rfl (hs48.rcvT (hs48.okT o67 rfl)) (sW.of hs48 (x93 (hs48.gtx (hs48.okT o67 rfl)) hr49)) ?_
                            intro h50 hs50
                            refine mW.sn 1 (g' := (120, [some (.ref 67), some (.ref t0), some (.int p0), some (.int r3), some (.int r7), some (.int 1), none, none, none], [.int r49, .ref 67], (h50, q))) rfl ?_
                            refine sW.putI rfl hs50 o67 rfl ?_
                            intro h51 hs51
                            refine mW.sn 1 (g' := (124, [some (.ref 67), some (.ref t0), some (.int p0), some (.int r3), some (.int r7), some (.int 1), none, none, none], [.ref 67], (h51, q))) rfl ?_
                            refine sW.getI rfl hs51 o67 rfl rfl ?_
                            refine mW.sn 1 (g' := (128, [some (.ref 67), some (.ref t0), some (.int p0), some (.int r3), some (.int r7), some (.int 1), none, none, none], [.ref 67, .int (rd (wr (wr (wr S 67 3 1) 67 4 0) 67 5 r49) 67 5)], (h51, q))) rfl ?_
                            refine sW.getI rfl hs51 o67 rfl rfl ?_
                            refine mW.sn 6 (g' := (139, [some (.ref 67), some (.ref t0), some (.int p0), some (.int r3), some (.int r7), some (.int 1), some (.int ((rd (wr (wr (wr S 67 3 1) 67 4 0) 67 5 r49) 67 5) - (rd (wr (wr (wr S 67 3 1) 67 4 0) 67 5 r49) 67 4))), none, none], [.int 0, .int ((rd (wr (wr (wr S 67 3 1) 67 4 0) 67 5 r49) 67 5) - (rd (wr (wr (wr S 67 3 1) 67 4 0) 67 5 r49) 67 4)), .int r3, .ref t0], (h51, q))) rfl ?_
                            cases hr52 : p_bound (wr (wr (wr S 67 3 1) 67 4 0) 67 5 r49) t0 r3 ((rd (wr (wr (wr S 67 3 1) 67 4 0) 67 5 r49) 67 5) - (rd (wr (wr (wr S 67 3 1) 67 4 0) 67 5 r49) 67 4)) 0 with
                            | none => rw [hr52] at hv; cases hv
                            | some r52 =>
                              rw [hr52, o_bind] at hv
                              refine sW.call rfl rfl rfl rfl rfl (s95 ht0 hs51 hr52) ?_
                              intro h53 hs53
                              refine mW.sn 5 (g' := (151, [some (.ref 67), some (.ref t0), some (.int p0), some (.int r3), some (.int r7), some (.int 1), some (.int ((rd (wr (wr (wr S 67 3 1) 67 4 0) 67 5 r49) 67 5) - (rd (wr (wr (wr S 67 3 1) 67 4 0) 67 5 r49) 67 4))), some (.int r52), none], [.int ((rd (wr (wr (wr S 67 3 1) 67 4 0) 67 5 r49) 67 5) - (rd (wr (wr (wr S 67 3 1) 67 4 0) 67 5 r49) 67 4)), .int ((rd (wr (wr (wr S 67 3 1) 67 4 0) 67 5 r49) 67 5) - (rd (wr (wr (wr S 67 3 1) 67 4 0) 67 5 r49) 67 4)), .int r7, .ref t0], (h53, q))) rfl ?_
                              cases hr54 : p_bound (wr (wr (wr S 67 3 1) 67 4 0) 67 5 r49) t0 r7 ((rd (wr (wr (wr S 67 3 1) 67 4 0) 67 5 r49) 67 5) - (rd (wr (wr (wr S 67 3 1) 67 4 0) 67 5 r49) 67 4)) ((rd (wr (wr (wr S 67 3 1) 67 4 0) 67 5 r49) 67 5) - (rd (wr (wr (wr S 67 3 1) 67 4 0) 67 5 r49) 67 4)) with
                              | none => rw [hr54] at hv; cases hv
                              | some r54 =>
                                rw [hr54, o_bind] at hv
                                refine sW.call rfl rfl rfl rfl rfl (s95 ht0 hs53 hr54) ?_
                                intro h55 hs55
                                refine mW.sn 3 (g' := (158, [some (.ref 67), some (.ref t0), some (.int p0), some (.int r3), some (.int r7), some (.int 1), some (.int ((rd (wr (wr (wr S 67 3 1) 67 4 0) 67 5 r49) 67 5) - (rd (wr (wr (wr S 67 3 1) 67 4 0) 67 5 r49) 67 4))), some (.int r52), some (.int r54)], [.ref 67, .ref 67], (h55, q))) rfl ?_
                                refine sW.getI rfl hs55 o67 rfl rfl ?_
                                refine mW.sn 2 (g' := (165, [some (.ref 67), some (.ref t0), some (.int p0), some (.int r3), some (.int r7), some (.int 1), some (.int ((rd (wr (wr (wr S 67 3 1) 67 4 0) 67 5 r49) 67 5) - (rd (wr (wr (wr S 67 3 1) 67 4 0) 67 5 r49) 67 4))), some (.int r52), some (.int r54)], [.int r54, .int r52, .int (rd (wr (wr (wr S 67 3 1) 67 4 0) 67 5 r49) 67 4), .ref 67], (h55, q))) rfl ?_
                                refine sW.call rfl rfl rfl rfl rfl (sW.of hs55 (x30 r52 r54)) ?_
                                intro h56 hs56
                                refine mW.sn 1 (g' := (169, [some (.ref 67), some (.ref t0), some (.int p0), some (.int r3), some (.int r7), some (.int 1), some (.int ((rd (wr (wr (wr S 67 3 1) 67 4 0) 67 5 r49) 67 5) - (rd (wr (wr (wr S 67 3 1) 67 4 0) 67 5 r49) 67 4))), some (.int r52), some (.int r54)], [.int ((rd (wr (wr (wr S 67 3 1) 67 4 0) 67 5 r49) 67 4) + (imax r52 r54)), .ref 67], (h56, q))) rfl ?_
                                refine sW.putI rfl hs56 o67 rfl ?_
                                intro h57 hs57
                                refine mW.sn 2 (g' := (174, [some (.ref 67), some (.ref t0), some (.int p0), some (.int r3), some (.int r7), some (.int 1), some (.int ((rd (wr (wr (wr S 67 3 1) 67 4 0) 67 5 r49) 67 5) - (rd (wr (wr (wr S 67 3 1) 67 4 0) 67 5 r49) 67 4))), some (.int r52), some (.int r54)], [.ref 67, .ref 67], (h57, q))) rfl ?_
                                refine sW.getI rfl hs57 o67 rfl rfl ?_
                                refine mW.sn 2 (g' := (180, [some (.ref 67), some (.ref t0), some (.int p0), some (.int r3), some (.int r7), some (.int 1), some (.int ((rd (wr (wr (wr S 67 3 1) 67 4 0) 67 5 r49) 67 5) - (rd (wr (wr (wr S 67 3 1) 67 4 0) 67 5 r49) 67 4))), some (.int r52), some (.int r54)], [.int ((rd (wr (wr (wr (wr S 67 3 1) 67 4 0) 67 5 r49) 67 5 ((rd (wr (wr (wr S 67 3 1) 67 4 0) 67 5 r49) 67 4) + (imax r52 r54))) 67 4) + r52), .ref 67], (h57, q))) rfl ?_
                                refine sW.putI rfl hs57 o67 rfl ?_
                                intro h58 hs58
                                refine mW.sn 1 (g' := (184, [some (.ref 67), some (.ref t0), some (.int p0), some (.int r3), some (.int r7), some (.int 1), some (.int ((rd (wr (wr (wr S 67 3 1) 67 4 0) 67 5 r49) 67 5) - (rd (wr (wr (wr S 67 3 1) 67 4 0) 67 5 r49) 67 4))), some (.int r52), some (.int r54)], [.int 0], (h58, q))) rfl ?_
                                cases hv
                                exact sW.fin hs58 rfl
                        · rw [if_neg hc46] at hv
                          refine mW.sn 1 (g' := (124, [some (.ref 67), some (.ref t0), some (.int p0), some (.int r3), some (.int r7), some (.int 1), none, none, none], [.ref 67], (h44, q))) rfl ?_
                          refine sW.getI rfl hs44 o67 rfl rfl ?_
                          refine mW.sn 1 (g' := (128, [some (.ref 67), some (.ref t0), some (.int p0), some (.int r3), some (.int r7), some (.int 1), none, none, none], [.ref 67, .int (rd S 67 5)], (h44, q))) rfl ?_
                          refine sW.getI rfl hs44 o67 rfl rfl ?_
                          refine mW.sn 6 (g' := (139, [some (.ref 67), some (.ref t0), some (.int p0), some (.int r3), some (.int r7), some (.int 1), some (.int ((rd S 67 5) - (rd S 67 4))), none, none], [.int 0, .int ((rd S 67 5) - (rd S 67 4)), .int r3, .ref t0], (h44, q))) rfl ?_
                          cases hr59 : p_bound S t0 r3 ((rd S 67 5) - (rd S 67 4)) 0 with
                          | none => rw [hr59] at hv; cases hv
                          | some r59 =>
                            rw [hr59, o_bind] at hv
                            refine sW.call rfl rfl rfl rfl rfl (s95 ht0 hs44 hr59) ?_
                            intro h60 hs60
                            refine mW.sn 5 (g' := (151, [some (.ref 67), some (.ref t0), some (.int p0), some (.int r3), some (.int r7), some (.int 1), some (.int ((rd S 67 5) - (rd S 67 4))), some (.int r59), none], [.int ((rd S 67 5) - (rd S 67 4)), .int ((rd S 67 5) - (rd S 67 4)), .int r7, .ref t0], (h60, q))) rfl ?_
                            cases hr61 : p_bound S t0 r7 ((rd S 67 5) - (rd S 67 4)) ((rd S 67 5) - (rd S 67 4)) with
                            | none => rw [hr61] at hv; cases hv
                            | some r61 =>
                              rw [hr61, o_bind] at hv
                              refine sW.call rfl rfl rfl rfl rfl (s95 ht0 hs60 hr61) ?_
                              intro h62 hs62
                              refine mW.sn 3 (g' := (158, [some (.ref 67), some (.ref t0), some (.int p0), some (.int r3), some (.int r7), some (.int 1), some (.int ((rd S 67 5) - (rd S 67 4))), some (.int r59), some (.int r61)], [.ref 67, .ref 67], (h62, q))) rfl ?_
                              refine sW.getI rfl hs62 o67 rfl rfl ?_
                              refine mW.sn 2 (g' := (165, [some (.ref 67), some (.ref t0), some (.int p0), some (.int r3), some (.int r7), some (.int 1), some (.int ((rd S 67 5) - (rd S 67 4))), some (.int r59), some (.int r61)], [.int r61, .int r59, .int (rd S 67 4), .ref 67], (h62, q))) rfl ?_
                              refine sW.call rfl rfl rfl rfl rfl (sW.of hs62 (x30 r59 r61)) ?_
                              intro h63 hs63
                              refine mW.sn 1 (g' := (169, [some (.ref 67), some (.ref t0), some (.int p0), some (.int r3), some (.int r7), some (.int 1), some (.int ((rd S 67 5) - (rd S 67 4))), some (.int r59), some (.int r61)], [.int ((rd S 67 4) + (imax r59 r61)), .ref 67], (h63, q))) rfl ?_
                              refine sW.putI rfl hs63 o67 rfl ?_
                              intro h64 hs64
                              refine mW.sn 2 (g' := (174, [some (.ref 67), some (.ref t0), some (.int p0), some (.int r3), some (.int r7), some (.int 1), some (.int ((rd S 67 5) - (rd S 67 4))), some (.int r59), some (.int r61)], [.ref 67, .ref 67], (h64, q))) rfl ?_
                              refine sW.getI rfl hs64 o67 rfl rfl ?_
                              refine mW.sn 2 (g' := (180, [some (.ref 67), some (.ref t0), some (.int p0), some (.int r3), some (.int r7), some (.int 1), some (.int ((rd S 67 5) - (rd S 67 4))), some (.int r59), some (.int r61)], [.int ((rd (wr S 67 5 ((rd S 67 4) + (imax r59 r61))) 67 4) + r59), .ref 67], (h64, q))) rfl ?_
                              refine sW.putI rfl hs64 o67 rfl ?_
                              intro h65 hs65
                              refine mW.sn 1 (g' := (184, [some (.ref 67), some (.ref t0), some (.int p0), some (.int r3), some (.int r7), some (.int 1), some (.int ((rd S 67 5) - (rd S 67 4))), some (.int r59), some (.int r61)], [.int 0], (h65, q))) rfl ?_
                              cases hv
                              exact sW.fin hs65 rfl
            · rw [if_neg hc11] at hv
              refine mW.sn 3 (g' := (41, [some (.ref 67), some (.ref t0), some (.int p0), some (.int r3), some (.int r7), some (.int 0), none, none, none], [.ref 67], (h10, q))) rfl ?_
              refine sW.call rfl rfl rfl rfl (hs10.rcv o67) (s76 hs10 hr9) ?_
              intro h66 hs66
              refine mW.sn 1 (g' := (45, [some (.ref 67), some (.ref t0), some (.int p0), some (.int r3), some (.int r7), some (.int 0), none, none, none], [.int 5, .int r9], (h66, q))) rfl ?_
              refine mW.br (g1 := (53, [some (.ref 67), some (.ref t0), some (.int p0), some (.int r3), some (.int r7), some (.int 0), none, none, none], [], (h66, q))) (g2 := (48, [some (.ref 67), some (.ref t0), some (.int p0), some (.int r3), some (.int r7), some (.int 0), none, none, none], [], (h66, q))) (c := r9 = (5 : Int32)) rfl (fun hc67 => ?_) (fun hc67 => ?_)
              · rw [if_pos hc67] at hv
                refine mW.sn 2 (g' := (55, [some (.ref 67), some (.ref t0), some (.int p0), some (.int r3), some (.int r7), some (.int 0), none, none, none], [.int r3, .ref t0], (h66, q))) rfl ?_
                cases hr68 : p_isBound S t0 r3 with
                | none => rw [hr68] at hv; cases hv
                | some r68 =>
                  rw [hr68, o_bind] at hv
                  refine sW.call rfl rfl rfl rfl rfl (s92 ht0 hs66 hr68) ?_
                  intro h69 hs69
                  refine mW.br (g1 := (70, [some (.ref 67), some (.ref t0), some (.int p0), some (.int r3), some (.int r7), some (.int 0), none, none, none], [], (h69, q))) (g2 := (61, [some (.ref 67), some (.ref t0), some (.int p0), some (.int r3), some (.int r7), some (.int 0), none, none, none], [], (h69, q))) (c := r68 = 0) rfl (fun hc70 => ?_) (fun hc70 => ?_)
                  · rw [if_pos hc70] at hv
                    refine mW.sn 1 (g' := (71, [some (.ref 67), some (.ref t0), some (.int p0), some (.int r3), some (.int r7), some (.int 0), none, none, none], [.int 1], (h69, q))) rfl ?_
                    cases hv
                    exact sW.fin hs69 rfl
                  · rw [if_neg hc70] at hv
                    refine mW.sn 2 (g' := (64, [some (.ref 67), some (.ref t0), some (.int p0), some (.int r3), some (.int r7), some (.int 0), none, none, none], [.int r7, .ref t0], (h69, q))) rfl ?_
                    cases hr71 : p_isBound S t0 r7 with
                    | none => rw [hr71] at hv; cases hv
                    | some r71 =>
                      rw [hr71, o_bind] at hv
                      refine sW.call rfl rfl rfl rfl rfl (s92 ht0 hs69 hr71) ?_
                      intro h72 hs72
                      refine mW.br (g1 := (70, [some (.ref 67), some (.ref t0), some (.int p0), some (.int r3), some (.int r7), some (.int 0), none, none, none], [], (h72, q))) (g2 := (72, [some (.ref 67), some (.ref t0), some (.int p0), some (.int r3), some (.int r7), some (.int 0), none, none, none], [], (h72, q))) (c := r71 = 0) rfl (fun hc73 => ?_) (fun hc73 => ?_)
                      · rw [if_pos hc73] at hv
                        refine mW.sn 1 (g' := (71, [some (.ref 67), some (.ref t0), some (.int p0), some (.int r3), some (.int r7), some (.int 0), none, none, none], [.int 1], (h72, q))) rfl ?_
                        cases hv
                        exact sW.fin hs72 rfl
                      · rw [if_neg hc73] at hv
                        refine mW.sn 1 (g' := (73, [some (.ref 67), some (.ref t0), some (.int p0), some (.int r3), some (.int r7), some (.int 0), none, none, none], [.ref 67], (h72, q))) rfl ?_
                        refine sW.getI rfl hs72 o67 rfl rfl ?_
                        refine mW.br (g1 := (79, [some (.ref 67), some (.ref t0), some (.int p0), some (.int r3), some (.int r7), some (.int 0), none, none, none], [], (h72, q))) (g2 := (123, [some (.ref 67), some (.ref t0), some (.int p0), some (.int r3), some (.int r7), some (.int 0), none, none, none], [], (h72, q))) (c := (rd S 67 3) = 0) rfl (fun hc74 => ?_) (fun hc74 => ?_)
                        · rw [if_pos hc74] at hv
                          refine mW.sn 2 (g' := (81, [some (.ref 67), some (.ref t0), some (.int p0), some (.int r3), some (.int r7), some (.int 0), none, none, none], [.int 1, .ref 67], (h72, q))) rfl ?_
                          refine sW.putZ rfl hs72 o67 rfl (by decide) ?_
                          intro h75 hs75
                          refine mW.sn 2 (g' := (86, [some (.ref 67), some (.ref t0), some (.int p0), some (.int r3), some (.int r7), some (.int 0), none, none, none], [.int 0, .ref 67], (h75, q))) rfl ?_
                          refine sW.putI rfl hs75 o67 rfl ?_
                          intro h76 hs76
                          refine mW.sn 2 (g' := (92, [some (.ref 67), some (.ref t0), some (.int p0), some (.int r3), some (.int r7), some (.int 0), none, none, none], [.int 0, .ref 67], (h76, q))) rfl ?_
                          refine mW.yes (g1 := (109, [some (.ref 67), some (.ref t0), some (.int p0), some (.int r3), some (.int r7), some (.int 0), none, none, none], [.ref 67], (h76, q))) (g2 := (95, [some (.ref 67), some (.ref t0), some (.int p0), some (.int r3), some (.int r7), some (.int 0), none, none, none], [.ref 67], (h76, q))) (c := (0 : Int32) = 0) rfl (by decide) ?_
                          refine mW.sn 1 (g' := (110, [some (.ref 67), some (.ref t0), some (.int p0), some (.int r3), some (.int r7), some (.int 0), none, none, none], [.ref 67, .ref 67], (h76, q))) rfl ?_
                          refine sW.getT rfl hs76 o67 rfl ?_
                          refine mW.sn 1 (g' := (114, [some (.ref 67), some (.ref t0), some (.int p0), some (.int r3), some (.int r7), some (.int 0), none, none, none], [.ref 67, .ref ((rd (wr (wr S 67 3 1) 67 4 0) 67 0).toNatClampNeg), .ref 67], (h76, q))) rfl ?_
                          refine sW.getI rfl hs76 o67 rfl rfl ?_
                          cases hr77 : t_items (tT (wr (wr S 67 3 1) 67 4 0) ((rd (wr (wr S 67 3 1) 67 4 0) 67 0).toNatClampNeg)) (rd (wr (wr S 67 3 1) 67 4 0) 67 1) with
                          | none => rw [hr77] at hv; cases hv
                          | some r77 =>
                            rw [hr77, o_bind] at hv
                            refine sW.call rfl rfl rfl rfl (hs76.rcvT (hs76.okT o67 rfl)) (sW.of hs76 (x86 (hs76.gtx (hs76.okT o67 rfl)) hr77)) ?_
                            intro h78 hs78
                            refine sW.putI rfl hs78 o67 rfl ?_
                            intro h79 hs79
                            refine mW.sn 1 (g' := (124, [some (.ref 67), some (.ref t0), some (.int p0), some (.int r3), some (.int r7), some (.int 0), none, none, none], [.ref 67], (h79, q))) rfl ?_
                            refine sW.getI rfl hs79 o67 rfl rfl ?_
                            refine mW.sn 1 (g' := (128, [some (.ref 67), some (.ref t0), some (.int p0), some (.int r3), some (.int r7), some (.int 0), none, none, none], [.ref 67, .int (rd (wr (wr (wr S 67 3 1) 67 4 0) 67 5 r77) 67 5)], (h79, q))) rfl ?_
                            refine sW.getI rfl hs79 o67 rfl rfl ?_
                            refine mW.sn 6 (g' := (139, [some (.ref 67), some (.ref t0), some (.int p0), some (.int r3), some (.int r7), some (.int 0), some (.int ((rd (wr (wr (wr S 67 3 1) 67 4 0) 67 5 r77) 67 5) - (rd (wr (wr (wr S 67 3 1) 67 4 0) 67 5 r77) 67 4))), none, none], [.int 0, .int ((rd (wr (wr (wr S 67 3 1) 67 4 0) 67 5 r77) 67 5) - (rd (wr (wr (wr S 67 3 1) 67 4 0) 67 5 r77) 67 4)), .int r3, .ref t0], (h79, q))) rfl ?_
                            cases hr80 : p_bound (wr (wr (wr S 67 3 1) 67 4 0) 67 5 r77) t0 r3 ((rd (wr (wr (wr S 67 3 1) 67 4 0) 67 5 r77) 67 5) - (rd (wr (wr (wr S 67 3 1) 67 4 0) 67 5 r77) 67 4)) 0 with
                            | none => rw [hr80] at hv; cases hv
                            | some r80 =>
                              rw [hr80, o_bind] at hv
                              refine sW.call rfl rfl rfl rfl rfl (s95 ht0 hs79 hr80) ?_
                              intro h81 hs81
                              refine mW.sn 5 (g' := (151, [some (.ref 67), some (.ref t0), some (.int p0), some (.int r3), some (.int r7), some (.int 0), some (.int ((rd (wr (wr (wr S 67 3 1) 67 4 0) 67 5 r77) 67 5) - (rd (wr (wr (wr S 67 3 1) 67 4 0) 67 5 r77) 67 4))), some (.int r80), none], [.int ((rd (wr (wr (wr S 67 3 1) 67 4 0) 67 5 r77) 67 5) - (rd (wr (wr (wr S 67 3 1) 67 4 0) 67 5 r77) 67 4)), .int ((rd (wr (wr (wr S 67 3 1) 67 4 0) 67 5 r77) 67 5) - (rd (wr (wr (wr S 67 3 1) 67 4 0) 67 5 r77) 67 4)), .int r7, .ref t0], (h81, q))) rfl ?_
                              cases hr82 : p_bound (wr (wr (wr S 67 3 1) 67 4 0) 67 5 r77) t0 r7 ((rd (wr (wr (wr S 67 3 1) 67 4 0) 67 5 r77) 67 5) - (rd (wr (wr (wr S 67 3 1) 67 4 0) 67 5 r77) 67 4)) ((rd (wr (wr (wr S 67 3 1) 67 4 0) 67 5 r77) 67 5) - (rd (wr (wr (wr S 67 3 1) 67 4 0) 67 5 r77) 67 4)) with
                              | none => rw [hr82] at hv; cases hv
                              | some r82 =>
                                rw [hr82, o_bind] at hv
                                refine sW.call rfl rfl rfl rfl rfl (s95 ht0 hs81 hr82) ?_
                                intro h83 hs83
                                refine mW.sn 3 (g' := (158, [some (.ref 67), some (.ref t0), some (.int p0), some (.int r3), some (.int r7), some (.int 0), some (.int ((rd (wr (wr (wr S 67 3 1) 67 4 0) 67 5 r77) 67 5) - (rd (wr (wr (wr S 67 3 1) 67 4 0) 67 5 r77) 67 4))), some (.int r80), some (.int r82)], [.ref 67, .ref 67], (h83, q))) rfl ?_
                                refine sW.getI rfl hs83 o67 rfl rfl ?_
                                refine mW.sn 2 (g' := (165, [some (.ref 67), some (.ref t0), some (.int p0), some (.int r3), some (.int r7), some (.int 0), some (.int ((rd (wr (wr (wr S 67 3 1) 67 4 0) 67 5 r77) 67 5) - (rd (wr (wr (wr S 67 3 1) 67 4 0) 67 5 r77) 67 4))), some (.int r80), some (.int r82)], [.int r82, .int r80, .int (rd (wr (wr (wr S 67 3 1) 67 4 0) 67 5 r77) 67 4), .ref 67], (h83, q))) rfl ?_
                                refine sW.call rfl rfl rfl rfl rfl (sW.of hs83 (x30 r80 r82)) ?_
                                intro h84 hs84
                                refine mW.sn 1 (g' := (169, [some (.ref 67), some (.ref t0), some (.int p0), some (.int r3), some (.int r7), some (.int 0), some (.int ((rd (wr (wr (wr S 67 3 1) 67 4 0) 67 5 r77) 67 5) - (rd (wr (wr (wr S 67 3 1) 67 4 0) 67 5 r77) 67 4))), some (.int r80), some (.int r82)], [.int ((rd (wr (wr (wr S 67 3 1) 67 4 0) 67 5 r77) 67 4) + (imax r80 r82)), .ref 67], (h84, q))) rfl ?_
                                refine sW.putI rfl hs84 o67 rfl ?_
                                intro h85 hs85
                                refine mW.sn 2 (g' := (174, [some (.ref 67), some (.ref t0), some (.int p0), some (.int r3), some (.int r7), some (.int 0), some (.int ((rd (wr (wr (wr S 67 3 1) 67 4 0) 67 5 r77) 67 5) - (rd (wr (wr (wr S 67 3 1) 67 4 0) 67 5 r77) 67 4))), some (.int r80), some (.int r82)], [.ref 67, .ref 67], (h85, q))) rfl ?_
                                refine sW.getI rfl hs85 o67 rfl rfl ?_
                                refine mW.sn 2 (g' := (180, [some (.ref 67), some (.ref t0), some (.int p0), some (.int r3), some (.int r7), some (.int 0), some (.int ((rd (wr (wr (wr S 67 3 1) 67 4 0) 67 5 r77) 67 5) - (rd (wr (wr (wr S 67 3 1) 67 4 0) 67 5 r77) 67 4))), some (.int r80), some (.int r82)], [.int ((rd (wr (wr (wr (wr S 67 3 1) 67 4 0) 67 5 r77) 67 5 ((rd (wr (wr (wr S 67 3 1) 67 4 0) 67 5 r77) 67 4) + (imax r80 r82))) 67 4) + r80), .ref 67], (h85, q))) rfl ?_
                                refine sW.putI rfl hs85 o67 rfl ?_
                                intro h86 hs86
                                refine mW.sn 1 (g' := (184, [some (.ref 67), some (.ref t0), some (.int p0), some (.int r3), some (.int r7), some (.int 0), some (.int ((rd (wr (wr (wr S 67 3 1) 67 4 0) 67 5 r77) 67 5) - (rd (wr (wr (wr S 67 3 1) 67 4 0) 67 5 r77) 67 4))), some (.int r80), some (.int r82)], [.int 0], (h86, q))) rfl ?_
                                cases hv
                                exact sW.fin hs86 rfl
                        · rw [if_neg hc74] at hv
                          refine mW.sn 1 (g' := (124, [some (.ref 67), some (.ref t0), some (.int p0), some (.int r3), some (.int r7), some (.int 0), none, none, none], [.ref 67], (h72, q))) rfl ?_
                          refine sW.getI rfl hs72 o67 rfl rfl ?_
                          refine mW.sn 1 (g' := (128, [some (.ref 67), some (.ref t0), some (.int p0), some (.int r3), some (.int r7), some (.int 0), none, none, none], [.ref 67, .int (rd S 67 5)], (h72, q))) rfl ?_
                          refine sW.getI rfl hs72 o67 rfl rfl ?_
                          refine mW.sn 6 (g' := (139, [some (.ref 67), some (.ref t0), some (.int p0), some (.int r3), some (.int r7), some (.int 0), some (.int ((rd S 67 5) - (rd S 67 4))), none, none], [.int 0, .int ((rd S 67 5) - (rd S 67 4)), .int r3, .ref t0], (h72, q))) rfl ?_
                          cases hr87 : p_bound S t0 r3 ((rd S 67 5) - (rd S 67 4)) 0 with
                          | none => rw [hr87] at hv; cases hv
                          | some r87 =>
                            rw [hr87, o_bind] at hv
                            refine sW.call rfl rfl rfl rfl rfl (s95 ht0 hs72 hr87) ?_
                            intro h88 hs88
                            refine mW.sn 5 (g' := (151, [some (.ref 67), some (.ref t0), some (.int p0), some (.int r3), some (.int r7), some (.int 0), some (.int ((rd S 67 5) - (rd S 67 4))), some (.int r87), none], [.int ((rd S 67 5) - (rd S 67 4)), .int ((rd S 67 5) - (rd S 67 4)), .int r7, .ref t0], (h88, q))) rfl ?_
                            cases hr89 : p_bound S t0 r7 ((rd S 67 5) - (rd S 67 4)) ((rd S 67 5) - (rd S 67 4)) with
                            | none => rw [hr89] at hv; cases hv
                            | some r89 =>
                              rw [hr89, o_bind] at hv
                              refine sW.call rfl rfl rfl rfl rfl (s95 ht0 hs88 hr89) ?_
                              intro h90 hs90
                              refine mW.sn 3 (g' := (158, [some (.ref 67), some (.ref t0), some (.int p0), some (.int r3), some (.int r7), some (.int 0), some (.int ((rd S 67 5) - (rd S 67 4))), some (.int r87), some (.int r89)], [.ref 67, .ref 67], (h90, q))) rfl ?_
                              refine sW.getI rfl hs90 o67 rfl rfl ?_
                              refine mW.sn 2 (g' := (165, [some (.ref 67), some (.ref t0), some (.int p0), some (.int r3), some (.int r7), some (.int 0), some (.int ((rd S 67 5) - (rd S 67 4))), some (.int r87), some (.int r89)], [.int r89, .int r87, .int (rd S 67 4), .ref 67], (h90, q))) rfl ?_
                              refine sW.call rfl rfl rfl rfl rfl (sW.of hs90 (x30 r87 r89)) ?_
                              intro h91 hs91
                              refine mW.sn 1 (g' := (169, [some (.ref 67), some (.ref t0), some (.int p0), some (.int r3), some (.int r7), some (.int 0), some (.int ((rd S 67 5) - (rd S 67 4))), some (.int r87), some (.int r89)], [.int ((rd S 67 4) + (imax r87 r89)), .ref 67], (h91, q))) rfl ?_
                              refine sW.putI rfl hs91 o67 rfl ?_
                              intro h92 hs92
                              refine mW.sn 2 (g' := (174, [some (.ref 67), some (.ref t0), some (.int p0), some (.int r3), some (.int r7), some (.int 0), some (.int ((rd S 67 5) - (rd S 67 4))), some (.int r87), some (.int r89)], [.ref 67, .ref 67], (h92, q))) rfl ?_
                              refine sW.getI rfl hs92 o67 rfl rfl ?_
                              refine mW.sn 2 (g' := (180, [some (.ref 67), some (.ref t0), some (.int p0), some (.int r3), some (.int r7), some (.int 0), some (.int ((rd S 67 5) - (rd S 67 4))), some (.int r87), some (.int r89)], [.int ((rd (wr S 67 5 ((rd S 67 4) + (imax r87 r89))) 67 4) + r87), .ref 67], (h92, q))) rfl ?_
                              refine sW.putI rfl hs92 o67 rfl ?_
                              intro h93 hs93
                              refine mW.sn 1 (g' := (184, [some (.ref 67), some (.ref t0), some (.int p0), some (.int r3), some (.int r7), some (.int 0), some (.int ((rd S 67 5) - (rd S 67 4))), some (.int r87), some (.int r89)], [.int 0], (h93, q))) rfl ?_
                              cases hv
                              exact sW.fin hs93 rfl
              · rw [if_neg hc67] at hv
                refine mW.sn 1 (g' := (50, [some (.ref 67), some (.ref t0), some (.int p0), some (.int r3), some (.int r7), some (.int 0), none, none, none], [.int 0], (h66, q))) rfl ?_
                refine mW.yes (g1 := (70, [some (.ref 67), some (.ref t0), some (.int p0), some (.int r3), some (.int r7), some (.int 0), none, none, none], [], (h66, q))) (g2 := (53, [some (.ref 67), some (.ref t0), some (.int p0), some (.int r3), some (.int r7), some (.int 0), none, none, none], [], (h66, q))) (c := (0 : Int32) = 0) rfl (by decide) ?_
                refine mW.sn 1 (g' := (71, [some (.ref 67), some (.ref t0), some (.int p0), some (.int r3), some (.int r7), some (.int 0), none, none, none], [.int 1], (h66, q))) rfl ?_
                cases hv
                exact sW.fin hs66 rfl
def p_step (S : SS) (t0 : Nat) (p0 : Int32) : Option (SS × Int32) := ((t_kind (tT S t0) p0).bind fun r1 => (if r1 = (3 : Int32) then ((t_number (tT S t0) p0).bind fun r4 => ((p_byPlace S r4).bind fun r6 => some (r6.1, r6.2))) else (if r1 = (4 : Int32) then ((p_byName S t0 p0).bind fun r9 => some (r9.1, r9.2)) else (if r1 = (6 : Int32) then ((p_byPart S t0 p0).bind fun r12 => some (r12.1, r12.2)) else some (S, 1)))))
theorem s78 {S : SS} {t0 : Nat} (ht0 : t0 ∈ shT) {p0 : Int32} {v : SS × Int32} (hs : cs h S) (hv : p_step S t0 p0 = some v) : mW (d + 7) mm78 (0, [some (.ref 67), some (.ref t0), some (.int p0)], [], (h, q)) (mQ q v.1 (some (.int v.2))) := by
  unfold p_step at hv
  refine mW.sn 2 (g' := (2, [some (.ref 67), some (.ref t0), some (.int p0)], [.int p0, .ref t0], (h, q))) rfl ?_
  cases hr1 : t_kind (tT S t0) p0 with
  | none => rw [hr1] at hv; cases hv
  | some r1 =>
    rw [hr1, o_bind] at hv
    refine sW.call rfl rfl rfl rfl (hs.rcvT ht0) (sW.of hs (x70 (hs.gtx ht0) hr1)) ?_
    intro h2 hs2
    by_cases hc3 : r1 = (3 : Int32)
    · rw [if_pos hc3] at hv
      refine mW.sn 1 (g' := (43, [some (.ref 67), some (.ref t0), some (.int p0)], [], (h2, q))) (by rw [hc3]; rfl) ?_
      refine mW.sn 3 (g' := (46, [some (.ref 67), some (.ref t0), some (.int p0)], [.int p0, .ref t0, .ref 67], (h2, q))) rfl ?_
      cases hr4 : t_number (tT S t0) p0 with
      | none => rw [hr4] at hv; cases hv
      | some r4 =>
        rw [hr4, o_bind] at hv
        refine sW.call rfl rfl rfl rfl (hs2.rcvT ht0) (sW.of hs2 (x84 (hs2.gtx ht0) hr4)) ?_
        intro h5 hs5
        cases hr6 : p_byPlace S r4 with
        | none => rw [hr6] at hv; cases hv
        | some r6 =>
          rw [hr6, o_bind] at hv
          refine sW.call rfl rfl rfl rfl (hs5.rcv o67) (s85 hs5 hr6) ?_
          intro h7 hs7
          cases hv
          exact sW.fin hs7 rfl
    rw [if_neg hc3] at hv
    by_cases hc8 : r1 = (4 : Int32)
    · rw [if_pos hc8] at hv
      refine mW.sn 1 (g' := (36, [some (.ref 67), some (.ref t0), some (.int p0)], [], (h2, q))) (by rw [hc8]; rfl) ?_
      refine mW.sn 3 (g' := (39, [some (.ref 67), some (.ref t0), some (.int p0)], [.int p0, .ref t0, .ref 67], (h2, q))) rfl ?_
      cases hr9 : p_byName S t0 p0 with
      | none => rw [hr9] at hv; cases hv
      | some r9 =>
        rw [hr9, o_bind] at hv
        refine sW.call rfl rfl rfl rfl (hs2.rcv o67) (s79 ht0 hs2 hr9) ?_
        intro h10 hs10
        cases hv
        exact sW.fin hs10 rfl
    rw [if_neg hc8] at hv
    by_cases hc11 : r1 = (6 : Int32)
    · rw [if_pos hc11] at hv
      refine mW.sn 1 (g' := (53, [some (.ref 67), some (.ref t0), some (.int p0)], [], (h2, q))) (by rw [hc11]; rfl) ?_
      refine mW.sn 3 (g' := (56, [some (.ref 67), some (.ref t0), some (.int p0)], [.int p0, .ref t0, .ref 67], (h2, q))) rfl ?_
      cases hr12 : p_byPart S t0 p0 with
      | none => rw [hr12] at hv; cases hv
      | some r12 =>
        rw [hr12, o_bind] at hv
        refine sW.call rfl rfl rfl rfl (hs2.rcv o67) (s89 ht0 hs2 hr12) ?_
        intro h13 hs13
        cases hv
        exact sW.fin hs13 rfl
    rw [if_neg hc11] at hv
    have hd13 : m_tsw 5 55 3 6 #[38, 31, 55, 48] r1 = 60 := by
      have n3 : ¬ (3 : Int) = r1.toInt := fun e => hc3 (Int32.toInt_inj.mp (e.symm.trans rfl))
      have n8 : ¬ (4 : Int) = r1.toInt := fun e => hc8 (Int32.toInt_inj.mp (e.symm.trans rfl))
      have n11 : ¬ (6 : Int) = r1.toInt := fun e => hc11 (Int32.toInt_inj.mp (e.symm.trans rfl))
      by_cases e5 : r1 = (5 : Int32)
      · rw [e5]; rfl
      have n_5 : ¬ (5 : Int) = r1.toInt := fun e => e5 (Int32.toInt_inj.mp (e.symm.trans rfl))
      exact m_tsw_out _ _ _ _ _ _ (by omega)
    refine mW.sn 1 (g' := (60, [some (.ref 67), some (.ref t0), some (.int p0)], [], (h2, q))) (by rw [← hd13]; rfl) ?_
    refine mW.sn 1 (g' := (61, [some (.ref 67), some (.ref t0), some (.int p0)], [.int 1], (h2, q))) rfl ?_
    cases hv
    exact sW.fin hs2 rfl
def p_follow_l15 (t0 : Nat) (t1 : Nat) : Nat → SS → Int32 → Int32 → Option (SS × Int32)
  | 0, _, _, _ => none
  | n + 1, S, l4, l5 => (if (4096 : Int32) ≤ l5 then some (S, 0) else (if l4 = (-1 : Int32) then some (S, 0) else ((p_isNull S).bind fun r7 => (if r7 = 0 then ((p_step S t1 l4).bind fun r10 => (if r10.2 = 0 then ((t_next (tT r10.1 t1) l4).bind fun r13 => p_follow_l15 t0 t1 n r10.1 r13 (l5 + 1)) else some (r10.1, r10.2))) else ((p_moveTo S (-1) (-1)).bind fun r15 => some (r15, 0))))))
theorem p_follow_l15_ok {t0 : Nat} (ht0 : t0 ∈ shT) {t1 : Nat} (ht1 : t1 ∈ shT) : ∀ (n : Nat), ∀ (h : mH) (S : SS) (l4 : Int32) (l5 : Int32) (y1 : Nat) (y3 : Int32) (x6 : Option Value) (v : SS × Int32), cs h S → p_follow_l15 t0 t1 n S l4 l5 = some v → mW (d + 8) mm72 (15, [some (.ref 67), some (.ref y1), some (.ref t1), some (.int y3), some (.int l4), some (.int l5), x6], [], (h, q)) (mQ q v.1 (some (.int v.2))) := by
  intro n
  induction n with
  | zero => intro h S l4 l5 y1 y3 x6 v hs hv; cases hv
  | succ n ih =>
    intro h S l4 l5 y1 y3 x6 v hs hv
    unfold p_follow_l15 at hv
    refine mW.sn 2 (g' := (20, [some (.ref 67), some (.ref y1), some (.ref t1), some (.int y3), some (.int l4), some (.int l5), x6], [.int 4096, .int l5], (h, q))) rfl ?_
    refine mW.br (g1 := (75, [some (.ref 67), some (.ref y1), some (.ref t1), some (.int y3), some (.int l4), some (.int l5), x6], [], (h, q))) (g2 := (23, [some (.ref 67), some (.ref y1), some (.ref t1), some (.int y3), some (.int l4), some (.int l5), x6], [], (h, q))) (c := (4096 : Int32) ≤ l5) rfl (fun hc5 => ?_) (fun hc5 => ?_)
    · rw [if_pos hc5] at hv
      refine mW.sn 1 (g' := (76, [some (.ref 67), some (.ref y1), some (.ref t1), some (.int y3), some (.int l4), some (.int l5), x6], [.int 0], (h, q))) rfl ?_
      cases hv
      exact sW.fin hs rfl
    · rw [if_neg hc5] at hv
      refine mW.sn 2 (g' := (26, [some (.ref 67), some (.ref y1), some (.ref t1), some (.int y3), some (.int l4), some (.int l5), x6], [.int (-1), .int l4], (h, q))) rfl ?_
      refine mW.br (g1 := (75, [some (.ref 67), some (.ref y1), some (.ref t1), some (.int y3), some (.int l4), some (.int l5), x6], [], (h, q))) (g2 := (29, [some (.ref 67), some (.ref y1), some (.ref t1), some (.int y3), some (.int l4), some (.int l5), x6], [], (h, q))) (c := l4 = (-1 : Int32)) rfl (fun hc6 => ?_) (fun hc6 => ?_)
      · rw [if_pos hc6] at hv
        refine mW.sn 1 (g' := (76, [some (.ref 67), some (.ref y1), some (.ref t1), some (.int y3), some (.int l4), some (.int l5), x6], [.int 0], (h, q))) rfl ?_
        cases hv
        exact sW.fin hs rfl
      · rw [if_neg hc6] at hv
        refine mW.sn 1 (g' := (30, [some (.ref 67), some (.ref y1), some (.ref t1), some (.int y3), some (.int l4), some (.int l5), x6], [.ref 67], (h, q))) rfl ?_
        cases hr7 : p_isNull S with
        | none => rw [hr7] at hv; cases hv
        | some r7 =>
          rw [hr7, o_bind] at hv
          refine sW.call rfl rfl rfl rfl (hs.rcv o67) (s75 hs hr7) ?_
          intro h8 hs8
          refine mW.br (g1 := (44, [some (.ref 67), some (.ref y1), some (.ref t1), some (.int y3), some (.int l4), some (.int l5), x6], [], (h8, q))) (g2 := (36, [some (.ref 67), some (.ref y1), some (.ref t1), some (.int y3), some (.int l4), some (.int l5), x6], [], (h8, q))) (c := r7 = 0) rfl (fun hc9 => ?_) (fun hc9 => ?_)
          · rw [if_pos hc9] at hv
            refine mW.sn 3 (g' := (48, [some (.ref 67), some (.ref y1), some (.ref t1), some (.int y3), some (.int l4), some (.int l5), x6], [.int l4, .ref t1, .ref 67], (h8, q))) rfl ?_
            cases hr10 : p_step S t1 l4 with
            | none => rw [hr10] at hv; cases hv
            | some r10 =>
              rw [hr10, o_bind] at hv
              refine sW.call rfl rfl rfl rfl (hs8.rcv o67) (s78 ht1 hs8 hr10) ?_
              intro h11 hs11
              refine mW.sn 2 (g' := (55, [some (.ref 67), some (.ref y1), some (.ref t1), some (.int y3), some (.int l4), some (.int l5), some (.int r10.2)], [.int r10.2], (h11, q))) rfl ?_
              refine mW.br (g1 := (61, [some (.ref 67), some (.ref y1), some (.ref t1), some (.int y3), some (.int l4), some (.int l5), some (.int r10.2)], [], (h11, q))) (g2 := (58, [some (.ref 67), some (.ref y1), some (.ref t1), some (.int y3), some (.int l4), some (.int l5), some (.int r10.2)], [], (h11, q))) (c := r10.2 = 0) rfl (fun hc12 => ?_) (fun hc12 => ?_)
              · rw [if_pos hc12] at hv
                refine mW.sn 2 (g' := (64, [some (.ref 67), some (.ref y1), some (.ref t1), some (.int y3), some (.int l4), some (.int l5), some (.int r10.2)], [.int l4, .ref t1], (h11, q))) rfl ?_
                cases hr13 : t_next (tT r10.1 t1) l4 with
                | none => rw [hr13] at hv; cases hv
                | some r13 =>
                  rw [hr13, o_bind] at hv
                  refine sW.call rfl rfl rfl rfl (hs11.rcvT ht1) (sW.of hs11 (x81 (hs11.gtx ht1) hr13)) ?_
                  intro h14 hs14
                  refine mW.sn 3 (g' := (15, [some (.ref 67), some (.ref y1), some (.ref t1), some (.int y3), some (.int r13), some (.int (l5 + 1)), some (.int r10.2)], [], (h14, q))) rfl ?_
                  exact ih _ _ _ _ _ _ _ _  hs14 hv
              · rw [if_neg hc12] at hv
                refine mW.sn 1 (g' := (60, [some (.ref 67), some (.ref y1), some (.ref t1), some (.int y3), some (.int l4), some (.int l5), some (.int r10.2)], [.int r10.2], (h11, q))) rfl ?_
                cases hv
                exact sW.fin hs11 rfl
          · rw [if_neg hc9] at hv
            refine mW.sn 3 (g' := (39, [some (.ref 67), some (.ref y1), some (.ref t1), some (.int y3), some (.int l4), some (.int l5), x6], [.int (-1), .int (-1), .ref 67], (h8, q))) rfl ?_
            cases hr15 : p_moveTo S (-1) (-1) with
            | none => rw [hr15] at hv; cases hv
            | some r15 =>
              rw [hr15, o_bind] at hv
              refine sW.call rfl rfl rfl rfl (hs8.rcv o67) (s77 hs8 hr15) ?_
              intro h16 hs16
              refine mW.sn 1 (g' := (43, [some (.ref 67), some (.ref y1), some (.ref t1), some (.int y3), some (.int l4), some (.int l5), x6], [.int 0], (h16, q))) rfl ?_
              cases hv
              exact sW.fin hs16 rfl
def p_follow (S : SS) (t0 : Nat) (t1 : Nat) (p0 : Int32) : Option (SS × Int32) := ((p_start S t0).bind fun r1 => ((t_first (tT r1 t1) p0).bind fun r3 => p_follow_l15 t0 t1 10000 r1 r3 0))
theorem s72 {S : SS} {t0 : Nat} (ht0 : t0 ∈ shT) {t1 : Nat} (ht1 : t1 ∈ shT) {p0 : Int32} {v : SS × Int32} (hs : cs h S) (hv : p_follow S t0 t1 p0 = some v) : mW (d + 8) mm72 (0, [some (.ref 67), some (.ref t0), some (.ref t1), some (.int p0), none, none, none], [], (h, q)) (mQ q v.1 (some (.int v.2))) := by
  unfold p_follow at hv
  refine mW.sn 2 (g' := (2, [some (.ref 67), some (.ref t0), some (.ref t1), some (.int p0), none, none, none], [.ref t0, .ref 67], (h, q))) rfl ?_
  cases hr1 : p_start S t0 with
  | none => rw [hr1] at hv; cases hv
  | some r1 =>
    rw [hr1, o_bind] at hv
    refine sW.call rfl rfl rfl rfl (hs.rcv o67) (s73 ht0 hs hr1) ?_
    intro h2 hs2
    refine mW.sn 2 (g' := (7, [some (.ref 67), some (.ref t0), some (.ref t1), some (.int p0), none, none, none], [.int p0, .ref t1], (h2, q))) rfl ?_
    cases hr3 : t_first (tT r1 t1) p0 with
    | none => rw [hr3] at hv; cases hv
    | some r3 =>
      rw [hr3, o_bind] at hv
      refine sW.call rfl rfl rfl rfl (hs2.rcvT ht1) (sW.of hs2 (x74 (hs2.gtx ht1) hr3)) ?_
      intro h4 hs4
      refine mW.sn 3 (g' := (15, [some (.ref 67), some (.ref t0), some (.ref t1), some (.int p0), some (.int r3), some (.int 0), none], [], (h4, q))) rfl ?_
      exact p_follow_l15_ok ht0 ht1 _ _ _ _ _ _ _ _ _  hs4 hv
def p_nothing (S : SS) : Option (Int32) := (if (rd S 67 1) = (-1 : Int32) then some 1 else some 0)
theorem s99 {S : SS} {v : Int32} (hs : cs h S) (hv : p_nothing S = some v) : mW d mm99 (0, [some (.ref 67)], [], (h, q)) (mQ q S (some (.int v))) := by
  unfold p_nothing at hv
  refine mW.sn 1 (g' := (1, [some (.ref 67)], [.ref 67], (h, q))) rfl ?_
  refine sW.getI rfl hs o67 rfl rfl ?_
  refine mW.sn 1 (g' := (5, [some (.ref 67)], [.int (-1), .int (rd S 67 1)], (h, q))) rfl ?_
  refine mW.br (g1 := (8, [some (.ref 67)], [], (h, q))) (g2 := (12, [some (.ref 67)], [], (h, q))) (c := (rd S 67 1) = (-1 : Int32)) rfl (fun hc1 => ?_) (fun hc1 => ?_)
  · rw [if_pos hc1] at hv
    refine mW.sn 2 (g' := (13, [some (.ref 67)], [.int 1], (h, q))) rfl ?_
    cases hv
    exact sW.fin hs rfl
  · rw [if_neg hc1] at hv
    refine mW.sn 1 (g' := (13, [some (.ref 67)], [.int 0], (h, q))) rfl ?_
    cases hv
    exact sW.fin hs rfl
def p_isPart (S : SS) : Option (Int32) := some ((rd S 67 3) &&& 1)
theorem s106 {S : SS} {v : Int32} (hs : cs h S) (hv : p_isPart S = some v) : mW d mm106 (0, [some (.ref 67)], [], (h, q)) (mQ q S (some (.int v))) := by
  unfold p_isPart at hv
  refine mW.sn 1 (g' := (1, [some (.ref 67)], [.ref 67], (h, q))) rfl ?_
  refine sW.getI rfl hs o67 rfl rfl ?_
  cases hv
  exact sW.fin hs rfl
def p_place (S : SS) : Option (Int32) := some (rd S 67 1)
theorem s108 {S : SS} {v : Int32} (hs : cs h S) (hv : p_place S = some v) : mW d mm108 (0, [some (.ref 67)], [], (h, q)) (mQ q S (some (.int v))) := by
  unfold p_place at hv
  refine mW.sn 1 (g' := (1, [some (.ref 67)], [.ref 67], (h, q))) rfl ?_
  refine sW.getI rfl hs o67 rfl rfl ?_
  cases hv
  exact sW.fin hs rfl
def p_size (S : SS) : Option (Int32) := (if (rd S 67 3) = 0 then ((t_items (tT S ((rd S 67 0).toNatClampNeg)) (rd S 67 1)).bind fun r2 => some r2) else some ((rd S 67 5) - (rd S 67 4)))
theorem s119 {S : SS} {v : Int32} (hs : cs h S) (hv : p_size S = some v) : mW (d + 4) mm119 (0, [some (.ref 67)], [], (h, q)) (mQ q S (some (.int v))) := by
  unfold p_size at hv
  refine mW.sn 1 (g' := (1, [some (.ref 67)], [.ref 67], (h, q))) rfl ?_
  refine sW.getI rfl hs o67 rfl rfl ?_
  refine mW.br (g1 := (19, [some (.ref 67)], [], (h, q))) (g2 := (7, [some (.ref 67)], [], (h, q))) (c := (rd S 67 3) = 0) rfl (fun hc1 => ?_) (fun hc1 => ?_)
  · rw [if_pos hc1] at hv
    refine mW.sn 1 (g' := (20, [some (.ref 67)], [.ref 67], (h, q))) rfl ?_
    refine sW.getT rfl hs o67 rfl ?_
    refine mW.sn 1 (g' := (24, [some (.ref 67)], [.ref 67, .ref ((rd S 67 0).toNatClampNeg)], (h, q))) rfl ?_
    refine sW.getI rfl hs o67 rfl rfl ?_
    cases hr2 : t_items (tT S ((rd S 67 0).toNatClampNeg)) (rd S 67 1) with
    | none => rw [hr2] at hv; cases hv
    | some r2 =>
      rw [hr2, o_bind] at hv
      refine sW.call rfl rfl rfl rfl (hs.rcvT (hs.okT o67 rfl)) (sW.of hs (x86 (hs.gtx (hs.okT o67 rfl)) hr2)) ?_
      intro h3 hs3
      cases hv
      exact sW.fin hs3 rfl
  · rw [if_neg hc1] at hv
    refine mW.sn 1 (g' := (8, [some (.ref 67)], [.ref 67], (h, q))) rfl ?_
    refine sW.getI rfl hs o67 rfl rfl ?_
    refine mW.sn 1 (g' := (12, [some (.ref 67)], [.ref 67, .int (rd S 67 5)], (h, q))) rfl ?_
    refine sW.getI rfl hs o67 rfl rfl ?_
    refine mW.sn 2 (g' := (30, [some (.ref 67)], [.int ((rd S 67 5) - (rd S 67 4))], (h, q))) rfl ?_
    cases hv
    exact sW.fin hs rfl
def p_behind (S : SS) : Option (Int32) := (if (rd S 67 3) = 0 then ((t_items (tT S ((rd S 67 0).toNatClampNeg)) (rd S 67 1)).bind fun r2 => some r2) else some (rd S 67 5))
theorem s120 {S : SS} {v : Int32} (hs : cs h S) (hv : p_behind S = some v) : mW (d + 4) mm120 (0, [some (.ref 67)], [], (h, q)) (mQ q S (some (.int v))) := by
  unfold p_behind at hv
  refine mW.sn 1 (g' := (1, [some (.ref 67)], [.ref 67], (h, q))) rfl ?_
  refine sW.getI rfl hs o67 rfl rfl ?_
  refine mW.br (g1 := (14, [some (.ref 67)], [], (h, q))) (g2 := (7, [some (.ref 67)], [], (h, q))) (c := (rd S 67 3) = 0) rfl (fun hc1 => ?_) (fun hc1 => ?_)
  · rw [if_pos hc1] at hv
    refine mW.sn 1 (g' := (15, [some (.ref 67)], [.ref 67], (h, q))) rfl ?_
    refine sW.getT rfl hs o67 rfl ?_
    refine mW.sn 1 (g' := (19, [some (.ref 67)], [.ref 67, .ref ((rd S 67 0).toNatClampNeg)], (h, q))) rfl ?_
    refine sW.getI rfl hs o67 rfl rfl ?_
    cases hr2 : t_items (tT S ((rd S 67 0).toNatClampNeg)) (rd S 67 1) with
    | none => rw [hr2] at hv; cases hv
    | some r2 =>
      rw [hr2, o_bind] at hv
      refine sW.call rfl rfl rfl rfl (hs.rcvT (hs.okT o67 rfl)) (sW.of hs (x86 (hs.gtx (hs.okT o67 rfl)) hr2)) ?_
      intro h3 hs3
      cases hv
      exact sW.fin hs3 rfl
  · rw [if_neg hc1] at hv
    refine mW.sn 1 (g' := (8, [some (.ref 67)], [.ref 67], (h, q))) rfl ?_
    refine sW.getI rfl hs o67 rfl rfl ?_
    refine mW.sn 1 (g' := (25, [some (.ref 67)], [.int (rd S 67 5)], (h, q))) rfl ?_
    cases hv
    exact sW.fin hs rfl
def p_hasBounds (S : SS) (t0 : Nat) (p0 : Int32) : Option (Int32) := ((t_itemBy (tT S t0) k9 p0).bind fun r1 => ((t_valueOf (tT S t0) r1).bind fun r3 => ((t_itemBy (tT S t0) k11 p0).bind fun r5 => ((t_valueOf (tT S t0) r5).bind fun r7 => ((p_isBound S t0 r3).bind fun r9 => (if r9 = 0 then some 0 else ((p_isBound S t0 r7).bind fun r12 => (if r12 = 0 then some 0 else some 1))))))))
theorem s117 {S : SS} {t0 : Nat} (ht0 : t0 ∈ shT) {p0 : Int32} {v : Int32} (hs : cs h S) (hv : p_hasBounds S t0 p0 = some v) : mW (d + 6) mm117 (0, [some (.ref t0), some (.int p0), none, none], [], (h, q)) (mQ q S (some (.int v))) := by
  unfold p_hasBounds at hv
  refine mW.sn 4 (g' := (5, [some (.ref t0), some (.int p0), none, none], [.ref 9, .int p0, .ref t0, .ref t0], (h, q))) rfl ?_
  cases hr1 : t_itemBy (tT S t0) k9 p0 with
  | none => rw [hr1] at hv; cases hv
  | some r1 =>
    rw [hr1, o_bind] at hv
    refine sW.call rfl rfl rfl rfl (hs.rcvT ht0) (sW.of hs (x90 (hs.gtx ht0) (hs.gsx m9) hr1)) ?_
    intro h2 hs2
    cases hr3 : t_valueOf (tT S t0) r1 with
    | none => rw [hr3] at hv; cases hv
    | some r3 =>
      rw [hr3, o_bind] at hv
      refine sW.call rfl rfl rfl rfl (hs2.rcvT ht0) (sW.of hs2 (x82 (hs2.gtx ht0) hr3)) ?_
      intro h4 hs4
      refine mW.sn 5 (g' := (17, [some (.ref t0), some (.int p0), some (.int r3), none], [.ref 11, .int p0, .ref t0, .ref t0], (h4, q))) rfl ?_
      cases hr5 : t_itemBy (tT S t0) k11 p0 with
      | none => rw [hr5] at hv; cases hv
      | some r5 =>
        rw [hr5, o_bind] at hv
        refine sW.call rfl rfl rfl rfl (hs4.rcvT ht0) (sW.of hs4 (x90 (hs4.gtx ht0) (hs4.gsx m11) hr5)) ?_
        intro h6 hs6
        cases hr7 : t_valueOf (tT S t0) r5 with
        | none => rw [hr7] at hv; cases hv
        | some r7 =>
          rw [hr7, o_bind] at hv
          refine sW.call rfl rfl rfl rfl (hs6.rcvT ht0) (sW.of hs6 (x82 (hs6.gtx ht0) hr7)) ?_
          intro h8 hs8
          refine mW.sn 3 (g' := (26, [some (.ref t0), some (.int p0), some (.int r3), some (.int r7)], [.int r3, .ref t0], (h8, q))) rfl ?_
          cases hr9 : p_isBound S t0 r3 with
          | none => rw [hr9] at hv; cases hv
          | some r9 =>
            rw [hr9, o_bind] at hv
            refine sW.call rfl rfl rfl rfl rfl (s92 ht0 hs8 hr9) ?_
            intro h10 hs10
            refine mW.br (g1 := (44, [some (.ref t0), some (.int p0), some (.int r3), some (.int r7)], [], (h10, q))) (g2 := (32, [some (.ref t0), some (.int p0), some (.int r3), some (.int r7)], [], (h10, q))) (c := r9 = 0) rfl (fun hc11 => ?_) (fun hc11 => ?_)
            · rw [if_pos hc11] at hv
              refine mW.sn 1 (g' := (45, [some (.ref t0), some (.int p0), some (.int r3), some (.int r7)], [.int 0], (h10, q))) rfl ?_
              cases hv
              exact sW.fin hs10 rfl
            · rw [if_neg hc11] at hv
              refine mW.sn 2 (g' := (34, [some (.ref t0), some (.int p0), some (.int r3), some (.int r7)], [.int r7, .ref t0], (h10, q))) rfl ?_
              cases hr12 : p_isBound S t0 r7 with
              | none => rw [hr12] at hv; cases hv
              | some r12 =>
                rw [hr12, o_bind] at hv
                refine sW.call rfl rfl rfl rfl rfl (s92 ht0 hs10 hr12) ?_
                intro h13 hs13
                refine mW.br (g1 := (44, [some (.ref t0), some (.int p0), some (.int r3), some (.int r7)], [], (h13, q))) (g2 := (40, [some (.ref t0), some (.int p0), some (.int r3), some (.int r7)], [], (h13, q))) (c := r12 = 0) rfl (fun hc14 => ?_) (fun hc14 => ?_)
                · rw [if_pos hc14] at hv
                  refine mW.sn 1 (g' := (45, [some (.ref t0), some (.int p0), some (.int r3), some (.int r7)], [.int 0], (h13, q))) rfl ?_
                  cases hv
                  exact sW.fin hs13 rfl
                · rw [if_neg hc14] at hv
                  refine mW.sn 2 (g' := (45, [some (.ref t0), some (.int p0), some (.int r3), some (.int r7)], [.int 1], (h13, q))) rfl ?_
                  cases hv
                  exact sW.fin hs13 rfl
def g_span (S : SS) (g : Nat) (p0 : Int32) (p1 : Int32) : Option (SS) := some (wr (wr (wr (wr S g 0 p0) g 1 p1) g 2 0) g 3 0)
theorem s109 {S : SS} {g : Nat} (hg : (g, 10, [0, 0, 1, 1]) ∈ shO) {p0 : Int32} {p1 : Int32} {v : SS} (hs : cs h S) (hv : g_span S g p0 p1 = some v) : mW d mm109 (0, [some (.ref g), some (.int p0), some (.int p1)], [], (h, q)) (mQ q v none) := by
  unfold g_span at hv
  refine mW.sn 2 (g' := (2, [some (.ref g), some (.int p0), some (.int p1)], [.int p0, .ref g], (h, q))) rfl ?_
  refine sW.putI rfl hs hg rfl ?_
  intro h1 hs1
  refine mW.sn 2 (g' := (7, [some (.ref g), some (.int p0), some (.int p1)], [.int p1, .ref g], (h1, q))) rfl ?_
  refine sW.putI rfl hs1 hg rfl ?_
  intro h2 hs2
  refine mW.sn 2 (g' := (12, [some (.ref g), some (.int p0), some (.int p1)], [.int 0, .ref g], (h2, q))) rfl ?_
  refine sW.putZ rfl hs2 hg rfl (by decide) ?_
  intro h3 hs3
  refine mW.sn 2 (g' := (17, [some (.ref g), some (.int p0), some (.int p1)], [.int 0, .ref g], (h3, q))) rfl ?_
  refine sW.putZ rfl hs3 hg rfl (by decide) ?_
  intro h4 hs4
  cases hv
  exact sW.fin hs4 rfl
def g_from (S : SS) (g : Nat) : Option (Int32) := some (rd S g 0)
theorem s111 {S : SS} {g : Nat} (hg : (g, 10, [0, 0, 1, 1]) ∈ shO) {v : Int32} (hs : cs h S) (hv : g_from S g = some v) : mW d mm111 (0, [some (.ref g)], [], (h, q)) (mQ q S (some (.int v))) := by
  unfold g_from at hv
  refine mW.sn 1 (g' := (1, [some (.ref g)], [.ref g], (h, q))) rfl ?_
  refine sW.getI rfl hs hg rfl rfl ?_
  cases hv
  exact sW.fin hs rfl
def g_to (S : SS) (g : Nat) : Option (Int32) := some (rd S g 1)
theorem s128 {S : SS} {g : Nat} (hg : (g, 10, [0, 0, 1, 1]) ∈ shO) {v : Int32} (hs : cs h S) (hv : g_to S g = some v) : mW d mm128 (0, [some (.ref g)], [], (h, q)) (mQ q S (some (.int v))) := by
  unfold g_to at hv
  refine mW.sn 1 (g' := (1, [some (.ref g)], [.ref g], (h, q))) rfl ?_
  refine sW.getI rfl hs hg rfl rfl ?_
  cases hv
  exact sW.fin hs rfl
def g_cB (S : SS) (g : Nat) : Option (Int32) := some ((rd S g 2) &&& 1)
theorem s112 {S : SS} {g : Nat} (hg : (g, 10, [0, 0, 1, 1]) ∈ shO) {v : Int32} (hs : cs h S) (hv : g_cB S g = some v) : mW d mm112 (0, [some (.ref g)], [], (h, q)) (mQ q S (some (.int v))) := by
  unfold g_cB at hv
  refine mW.sn 1 (g' := (1, [some (.ref g)], [.ref g], (h, q))) rfl ?_
  refine sW.getI rfl hs hg rfl rfl ?_
  cases hv
  exact sW.fin hs rfl
def g_cH (S : SS) (g : Nat) : Option (Int32) := some ((rd S g 3) &&& 1)
theorem s127 {S : SS} {g : Nat} (hg : (g, 10, [0, 0, 1, 1]) ∈ shO) {v : Int32} (hs : cs h S) (hv : g_cH S g = some v) : mW d mm127 (0, [some (.ref g)], [], (h, q)) (mQ q S (some (.int v))) := by
  unfold g_cH at hv
  refine mW.sn 1 (g' := (1, [some (.ref g)], [.ref g], (h, q))) rfl ?_
  refine sW.getI rfl hs hg rfl rfl ?_
  cases hv
  exact sW.fin hs rfl
def g_items (S : SS) (g : Nat) (t0 : Nat) (p0 : Int32) (p1 : Int32) (p2 : Int32) : Option (SS) := ((t_items (tT S t0) p0).bind fun r1 => (if p2 ≤ p1 then (if r1 ≤ p1 then ((t_past (tT S t0) p0).bind fun r5 => ((g_span S g (r5 - 1) (r5 - 1)).bind fun r7 => (if r1 ≤ 0 then some (wr r7 g 2 0) else some (wr r7 g 2 1)))) else ((t_item (tT S t0) p0 p1).bind fun r12 => ((g_span S g r12 r12).bind fun r14 => some (wr r14 g 3 1)))) else ((t_item (tT S t0) p0 p1).bind fun r17 => ((t_item (tT S t0) p0 (p2 - 1)).bind fun r19 => ((t_itemEnd (tT S t0) r19).bind fun r21 => ((g_span S g r17 r21).bind fun r23 => some r23))))))
theorem s121 {S : SS} {g : Nat} (hg : (g, 10, [0, 0, 1, 1]) ∈ shO) {t0 : Nat} (ht0 : t0 ∈ shT) {p0 : Int32} {p1 : Int32} {p2 : Int32} {v : SS} (hs : cs h S) (hv : g_items S g t0 p0 p1 p2 = some v) : mW (d + 4) mm121 (0, [some (.ref g), some (.ref t0), some (.int p0), some (.int p1), some (.int p2), none, none], [], (h, q)) (mQ q v none) := by
  unfold g_items at hv
  refine mW.sn 2 (g' := (2, [some (.ref g), some (.ref t0), some (.int p0), some (.int p1), some (.int p2), none, none], [.int p0, .ref t0], (h, q))) rfl ?_
  cases hr1 : t_items (tT S t0) p0 with
  | none => rw [hr1] at hv; cases hv
  | some r1 =>
    rw [hr1, o_bind] at hv
    refine sW.call rfl rfl rfl rfl (hs.rcvT ht0) (sW.of hs (x86 (hs.gtx ht0) hr1)) ?_
    intro h2 hs2
    refine mW.sn 3 (g' := (10, [some (.ref g), some (.ref t0), some (.int p0), some (.int p1), some (.int p2), some (.int r1), none], [.int p2, .int p1], (h2, q))) rfl ?_
    refine mW.br (g1 := (39, [some (.ref g), some (.ref t0), some (.int p0), some (.int p1), some (.int p2), some (.int r1), none], [], (h2, q))) (g2 := (13, [some (.ref g), some (.ref t0), some (.int p0), some (.int p1), some (.int p2), some (.int r1), none], [], (h2, q))) (c := p2 ≤ p1) rfl (fun hc3 => ?_) (fun hc3 => ?_)
    · rw [if_pos hc3] at hv
      refine mW.sn 2 (g' := (42, [some (.ref g), some (.ref t0), some (.int p0), some (.int p1), some (.int p2), some (.int r1), none], [.int r1, .int p1], (h2, q))) rfl ?_
      refine mW.br (g1 := (69, [some (.ref g), some (.ref t0), some (.int p0), some (.int p1), some (.int p2), some (.int r1), none], [], (h2, q))) (g2 := (45, [some (.ref g), some (.ref t0), some (.int p0), some (.int p1), some (.int p2), some (.int r1), none], [], (h2, q))) (c := r1 ≤ p1) rfl (fun hc4 => ?_) (fun hc4 => ?_)
      · rw [if_pos hc4] at hv
        refine mW.sn 2 (g' := (71, [some (.ref g), some (.ref t0), some (.int p0), some (.int p1), some (.int p2), some (.int r1), none], [.int p0, .ref t0], (h2, q))) rfl ?_
        cases hr5 : t_past (tT S t0) p0 with
        | none => rw [hr5] at hv; cases hv
        | some r5 =>
          rw [hr5, o_bind] at hv
          refine sW.call rfl rfl rfl rfl (hs2.rcvT ht0) (sW.of hs2 (x83 (hs2.gtx ht0) hr5)) ?_
          intro h6 hs6
          refine mW.sn 6 (g' := (83, [some (.ref g), some (.ref t0), some (.int p0), some (.int p1), some (.int p2), some (.int r1), some (.int (r5 - 1))], [.int (r5 - 1), .int (r5 - 1), .ref g], (h6, q))) rfl ?_
          cases hr7 : g_span S g (r5 - 1) (r5 - 1) with
          | none => rw [hr7] at hv; cases hv
          | some r7 =>
            rw [hr7, o_bind] at hv
            refine sW.call rfl rfl rfl rfl (hs6.rcv hg) (s109 hg hs6 hr7) ?_
            intro h8 hs8
            refine mW.sn 2 (g' := (89, [some (.ref g), some (.ref t0), some (.int p0), some (.int p1), some (.int p2), some (.int r1), some (.int (r5 - 1))], [.int r1, .ref g], (h8, q))) rfl ?_
            refine mW.br (g1 := (96, [some (.ref g), some (.ref t0), some (.int p0), some (.int p1), some (.int p2), some (.int r1), some (.int (r5 - 1))], [.ref g], (h8, q))) (g2 := (92, [some (.ref g), some (.ref t0), some (.int p0), some (.int p1), some (.int p2), some (.int r1), some (.int (r5 - 1))], [.ref g], (h8, q))) (c := r1 ≤ 0) rfl (fun hc9 => ?_) (fun hc9 => ?_)
            · rw [if_pos hc9] at hv
              refine mW.sn 1 (g' := (97, [some (.ref g), some (.ref t0), some (.int p0), some (.int p1), some (.int p2), some (.int r1), some (.int (r5 - 1))], [.int 0, .ref g], (h8, q))) rfl ?_
              refine sW.putZ rfl hs8 hg rfl (by decide) ?_
              intro h10 hs10
              cases hv
              exact sW.fin hs10 rfl
            · rw [if_neg hc9] at hv
              refine mW.sn 2 (g' := (97, [some (.ref g), some (.ref t0), some (.int p0), some (.int p1), some (.int p2), some (.int r1), some (.int (r5 - 1))], [.int 1, .ref g], (h8, q))) rfl ?_
              refine sW.putZ rfl hs8 hg rfl (by decide) ?_
              intro h11 hs11
              cases hv
              exact sW.fin hs11 rfl
      · rw [if_neg hc4] at hv
        refine mW.sn 3 (g' := (48, [some (.ref g), some (.ref t0), some (.int p0), some (.int p1), some (.int p2), some (.int r1), none], [.int p1, .int p0, .ref t0], (h2, q))) rfl ?_
        cases hr12 : t_item (tT S t0) p0 p1 with
        | none => rw [hr12] at hv; cases hv
        | some r12 =>
          rw [hr12, o_bind] at hv
          refine sW.call rfl rfl rfl rfl (hs2.rcvT ht0) (sW.of hs2 (x88 (hs2.gtx ht0) hr12)) ?_
          intro h13 hs13
          refine mW.sn 4 (g' := (58, [some (.ref g), some (.ref t0), some (.int p0), some (.int p1), some (.int p2), some (.int r1), some (.int r12)], [.int r12, .int r12, .ref g], (h13, q))) rfl ?_
          cases hr14 : g_span S g r12 r12 with
          | none => rw [hr14] at hv; cases hv
          | some r14 =>
            rw [hr14, o_bind] at hv
            refine sW.call rfl rfl rfl rfl (hs13.rcv hg) (s109 hg hs13 hr14) ?_
            intro h15 hs15
            refine mW.sn 2 (g' := (63, [some (.ref g), some (.ref t0), some (.int p0), some (.int p1), some (.int p2), some (.int r1), some (.int r12)], [.int 1, .ref g], (h15, q))) rfl ?_
            refine sW.putZ rfl hs15 hg rfl (by decide) ?_
            intro h16 hs16
            refine mW.sn 1 (g' := (100, [some (.ref g), some (.ref t0), some (.int p0), some (.int p1), some (.int p2), some (.int r1), some (.int r12)], [], (h16, q))) rfl ?_
            cases hv
            exact sW.fin hs16 rfl
    · rw [if_neg hc3] at hv
      refine mW.sn 4 (g' := (17, [some (.ref g), some (.ref t0), some (.int p0), some (.int p1), some (.int p2), some (.int r1), none], [.int p1, .int p0, .ref t0, .ref g], (h2, q))) rfl ?_
      cases hr17 : t_item (tT S t0) p0 p1 with
      | none => rw [hr17] at hv; cases hv
      | some r17 =>
        rw [hr17, o_bind] at hv
        refine sW.call rfl rfl rfl rfl (hs2.rcvT ht0) (sW.of hs2 (x88 (hs2.gtx ht0) hr17)) ?_
        intro h18 hs18
        refine mW.sn 6 (g' := (27, [some (.ref g), some (.ref t0), some (.int p0), some (.int p1), some (.int p2), some (.int r1), none], [.int (p2 - 1), .int p0, .ref t0, .ref t0, .int r17, .ref g], (h18, q))) rfl ?_
        cases hr19 : t_item (tT S t0) p0 (p2 - 1) with
        | none => rw [hr19] at hv; cases hv
        | some r19 =>
          rw [hr19, o_bind] at hv
          refine sW.call rfl rfl rfl rfl (hs18.rcvT ht0) (sW.of hs18 (x88 (hs18.gtx ht0) hr19)) ?_
          intro h20 hs20
          cases hr21 : t_itemEnd (tT S t0) r19 with
          | none => rw [hr21] at hv; cases hv
          | some r21 =>
            rw [hr21, o_bind] at hv
            refine sW.call rfl rfl rfl rfl (hs20.rcvT ht0) (sW.of hs20 (x55 (hs20.gtx ht0) hr21)) ?_
            intro h22 hs22
            cases hr23 : g_span S g r17 r21 with
            | none => rw [hr23] at hv; cases hv
            | some r23 =>
              rw [hr23, o_bind] at hv
              refine sW.call rfl rfl rfl rfl (hs22.rcv hg) (s109 hg hs22 hr23) ?_
              intro h24 hs24
              refine mW.sn 1 (g' := (100, [some (.ref g), some (.ref t0), some (.int p0), some (.int p1), some (.int p2), some (.int r1), none], [], (h24, q))) rfl ?_
              cases hv
              exact sW.fin hs24 rfl
def p_span (S : SS) (g : Nat) : Option (SS) := (if (rd S 67 3) = 0 then ((t_past (tT S ((rd S 67 0).toNatClampNeg)) (rd S 67 1)).bind fun r2 => ((g_span S g (rd S 67 2) r2).bind fun r4 => some r4)) else ((g_items S g ((rd S 67 0).toNatClampNeg) (rd S 67 1) (rd S 67 4) (rd S 67 5)).bind fun r6 => some r6))
theorem s123 {S : SS} {g : Nat} (hg : (g, 10, [0, 0, 1, 1]) ∈ shO) {v : SS} (hs : cs h S) (hv : p_span S g = some v) : mW (d + 5) mm123 (0, [some (.ref 67), some (.ref g)], [], (h, q)) (mQ q v none) := by
  unfold p_span at hv
  refine mW.sn 1 (g' := (1, [some (.ref 67), some (.ref g)], [.ref 67], (h, q))) rfl ?_
  refine sW.getI rfl hs o67 rfl rfl ?_
  refine mW.br (g1 := (30, [some (.ref 67), some (.ref g)], [], (h, q))) (g2 := (7, [some (.ref 67), some (.ref g)], [], (h, q))) (c := (rd S 67 3) = 0) rfl (fun hc1 => ?_) (fun hc1 => ?_)
  · rw [if_pos hc1] at hv
    refine mW.sn 2 (g' := (32, [some (.ref 67), some (.ref g)], [.ref 67, .ref g], (h, q))) rfl ?_
    refine sW.getI rfl hs o67 rfl rfl ?_
    refine mW.sn 1 (g' := (36, [some (.ref 67), some (.ref g)], [.ref 67, .int (rd S 67 2), .ref g], (h, q))) rfl ?_
    refine sW.getT rfl hs o67 rfl ?_
    refine mW.sn 1 (g' := (40, [some (.ref 67), some (.ref g)], [.ref 67, .ref ((rd S 67 0).toNatClampNeg), .int (rd S 67 2), .ref g], (h, q))) rfl ?_
    refine sW.getI rfl hs o67 rfl rfl ?_
    cases hr2 : t_past (tT S ((rd S 67 0).toNatClampNeg)) (rd S 67 1) with
    | none => rw [hr2] at hv; cases hv
    | some r2 =>
      rw [hr2, o_bind] at hv
      refine sW.call rfl rfl rfl rfl (hs.rcvT (hs.okT o67 rfl)) (sW.of hs (x83 (hs.gtx (hs.okT o67 rfl)) hr2)) ?_
      intro h3 hs3
      cases hr4 : g_span S g (rd S 67 2) r2 with
      | none => rw [hr4] at hv; cases hv
      | some r4 =>
        rw [hr4, o_bind] at hv
        refine sW.call rfl rfl rfl rfl (hs3.rcv hg) (s109 hg hs3 hr4) ?_
        intro h5 hs5
        cases hv
        exact sW.fin hs5 rfl
  · rw [if_neg hc1] at hv
    refine mW.sn 2 (g' := (9, [some (.ref 67), some (.ref g)], [.ref 67, .ref g], (h, q))) rfl ?_
    refine sW.getT rfl hs o67 rfl ?_
    refine mW.sn 1 (g' := (13, [some (.ref 67), some (.ref g)], [.ref 67, .ref ((rd S 67 0).toNatClampNeg), .ref g], (h, q))) rfl ?_
    refine sW.getI rfl hs o67 rfl rfl ?_
    refine mW.sn 1 (g' := (17, [some (.ref 67), some (.ref g)], [.ref 67, .int (rd S 67 1), .ref ((rd S 67 0).toNatClampNeg), .ref g], (h, q))) rfl ?_
    refine sW.getI rfl hs o67 rfl rfl ?_
    refine mW.sn 1 (g' := (21, [some (.ref 67), some (.ref g)], [.ref 67, .int (rd S 67 4), .int (rd S 67 1), .ref ((rd S 67 0).toNatClampNeg), .ref g], (h, q))) rfl ?_
    refine sW.getI rfl hs o67 rfl rfl ?_
    cases hr6 : g_items S g ((rd S 67 0).toNatClampNeg) (rd S 67 1) (rd S 67 4) (rd S 67 5) with
    | none => rw [hr6] at hv; cases hv
    | some r6 =>
      rw [hr6, o_bind] at hv
      refine sW.call rfl rfl rfl rfl (hs.rcv hg) (s121 hg (hs.okT o67 rfl) hs hr6) ?_
      intro h7 hs7
      refine mW.sn 1 (g' := (49, [some (.ref 67), some (.ref g)], [], (h7, q))) rfl ?_
      cases hv
      exact sW.fin hs7 rfl
def g_closeUp (S : SS) (g : Nat) (t0 : Nat) : Option (SS) := (if (rd (wr (wr S g 2 0) g 3 0) g 1) ≤ (rd (wr (wr S g 2 0) g 3 0) g 0) then some (wr (wr S g 2 0) g 3 0) else (if (tat (tT (wr (wr S g 2 0) g 3 0) t0) (rd (wr (wr S g 2 0) g 3 0) g 1)) = (44 : Int32) then some (wr (wr (wr S g 2 0) g 3 0) g 1 ((rd (wr (wr S g 2 0) g 3 0) g 1) + 1)) else (if (tat (tT (wr (wr S g 2 0) g 3 0) t0) ((rd (wr (wr S g 2 0) g 3 0) g 0) - 1)) = (44 : Int32) then some (wr (wr (wr S g 2 0) g 3 0) g 0 ((rd (wr (wr S g 2 0) g 3 0) g 0) - 1)) else some (wr (wr S g 2 0) g 3 0))))
theorem s124 {S : SS} {g : Nat} (hg : (g, 10, [0, 0, 1, 1]) ∈ shO) {t0 : Nat} (ht0 : t0 ∈ shT) {v : SS} (hs : cs h S) (hv : g_closeUp S g t0 = some v) : mW (d + 1) mm124 (0, [some (.ref g), some (.ref t0)], [], (h, q)) (mQ q v none) := by
  unfold g_closeUp at hv
  refine mW.sn 2 (g' := (2, [some (.ref g), some (.ref t0)], [.int 0, .ref g], (h, q))) rfl ?_
  refine sW.putZ rfl hs hg rfl (by decide) ?_
  intro h1 hs1
  refine mW.sn 2 (g' := (7, [some (.ref g), some (.ref t0)], [.int 0, .ref g], (h1, q))) rfl ?_
  refine sW.putZ rfl hs1 hg rfl (by decide) ?_
  intro h2 hs2
  refine mW.sn 1 (g' := (11, [some (.ref g), some (.ref t0)], [.ref g], (h2, q))) rfl ?_
  refine sW.getI rfl hs2 hg rfl rfl ?_
  refine mW.sn 1 (g' := (15, [some (.ref g), some (.ref t0)], [.ref g, .int (rd (wr (wr S g 2 0) g 3 0) g 0)], (h2, q))) rfl ?_
  refine sW.getI rfl hs2 hg rfl rfl ?_
  refine mW.br (g1 := (47, [some (.ref g), some (.ref t0)], [], (h2, q))) (g2 := (21, [some (.ref g), some (.ref t0)], [], (h2, q))) (c := (rd (wr (wr S g 2 0) g 3 0) g 1) ≤ (rd (wr (wr S g 2 0) g 3 0) g 0)) rfl (fun hc3 => ?_) (fun hc3 => ?_)
  · rw [if_pos hc3] at hv
    refine mW.sn 1 (g' := (48, [some (.ref g), some (.ref t0)], [.ref g], (h2, q))) rfl ?_
    refine sW.getI rfl hs2 hg rfl rfl ?_
    refine mW.sn 1 (g' := (52, [some (.ref g), some (.ref t0)], [.ref g, .int (rd (wr (wr S g 2 0) g 3 0) g 0)], (h2, q))) rfl ?_
    refine sW.getI rfl hs2 hg rfl rfl ?_
    refine mW.yes (g1 := (83, [some (.ref g), some (.ref t0)], [], (h2, q))) (g2 := (58, [some (.ref g), some (.ref t0)], [], (h2, q))) (c := (rd (wr (wr S g 2 0) g 3 0) g 1) ≤ (rd (wr (wr S g 2 0) g 3 0) g 0)) rfl hc3 ?_
    cases hv
    exact sW.fin hs2 rfl
  · rw [if_neg hc3] at hv
    refine mW.sn 2 (g' := (23, [some (.ref g), some (.ref t0)], [.ref g, .ref t0], (h2, q))) rfl ?_
    refine sW.getI rfl hs2 hg rfl rfl ?_
    refine sW.call rfl rfl rfl rfl (hs2.rcvT ht0) (sW.of hs2 (x37 (hs2.gtx ht0) (rd (wr (wr S g 2 0) g 3 0) g 1))) ?_
    intro h4 hs4
    refine mW.sn 1 (g' := (31, [some (.ref g), some (.ref t0)], [.int 44, .int (tat (tT (wr (wr S g 2 0) g 3 0) t0) (rd (wr (wr S g 2 0) g 3 0) g 1))], (h4, q))) rfl ?_
    refine mW.br (g1 := (34, [some (.ref g), some (.ref t0)], [], (h4, q))) (g2 := (47, [some (.ref g), some (.ref t0)], [], (h4, q))) (c := (tat (tT (wr (wr S g 2 0) g 3 0) t0) (rd (wr (wr S g 2 0) g 3 0) g 1)) = (44 : Int32)) rfl (fun hc5 => ?_) (fun hc5 => ?_)
    · rw [if_pos hc5] at hv
      refine mW.sn 2 (g' := (36, [some (.ref g), some (.ref t0)], [.ref g, .ref g], (h4, q))) rfl ?_
      refine sW.getI rfl hs4 hg rfl rfl ?_
      refine mW.sn 2 (g' := (41, [some (.ref g), some (.ref t0)], [.int ((rd (wr (wr S g 2 0) g 3 0) g 1) + 1), .ref g], (h4, q))) rfl ?_
      refine sW.putI rfl hs4 hg rfl ?_
      intro h6 hs6
      refine mW.sn 1 (g' := (83, [some (.ref g), some (.ref t0)], [], (h6, q))) rfl ?_
      cases hv
      exact sW.fin hs6 rfl
    · rw [if_neg hc5] at hv
      refine mW.sn 1 (g' := (48, [some (.ref g), some (.ref t0)], [.ref g], (h4, q))) rfl ?_
      refine sW.getI rfl hs4 hg rfl rfl ?_
      refine mW.sn 1 (g' := (52, [some (.ref g), some (.ref t0)], [.ref g, .int (rd (wr (wr S g 2 0) g 3 0) g 0)], (h4, q))) rfl ?_
      refine sW.getI rfl hs4 hg rfl rfl ?_
      refine mW.no (g1 := (83, [some (.ref g), some (.ref t0)], [], (h4, q))) (g2 := (58, [some (.ref g), some (.ref t0)], [], (h4, q))) (c := (rd (wr (wr S g 2 0) g 3 0) g 1) ≤ (rd (wr (wr S g 2 0) g 3 0) g 0)) rfl hc3 ?_
      refine mW.sn 2 (g' := (60, [some (.ref g), some (.ref t0)], [.ref g, .ref t0], (h4, q))) rfl ?_
      refine sW.getI rfl hs4 hg rfl rfl ?_
      refine mW.sn 2 (g' := (65, [some (.ref g), some (.ref t0)], [.int ((rd (wr (wr S g 2 0) g 3 0) g 0) - 1), .ref t0], (h4, q))) rfl ?_
      refine sW.call rfl rfl rfl rfl (hs4.rcvT ht0) (sW.of hs4 (x37 (hs4.gtx ht0) ((rd (wr (wr S g 2 0) g 3 0) g 0) - 1))) ?_
      intro h7 hs7
      refine mW.sn 1 (g' := (70, [some (.ref g), some (.ref t0)], [.int 44, .int (tat (tT (wr (wr S g 2 0) g 3 0) t0) ((rd (wr (wr S g 2 0) g 3 0) g 0) - 1))], (h7, q))) rfl ?_
      refine mW.br (g1 := (73, [some (.ref g), some (.ref t0)], [], (h7, q))) (g2 := (83, [some (.ref g), some (.ref t0)], [], (h7, q))) (c := (tat (tT (wr (wr S g 2 0) g 3 0) t0) ((rd (wr (wr S g 2 0) g 3 0) g 0) - 1)) = (44 : Int32)) rfl (fun hc8 => ?_) (fun hc8 => ?_)
      · rw [if_pos hc8] at hv
        refine mW.sn 2 (g' := (75, [some (.ref g), some (.ref t0)], [.ref g, .ref g], (h7, q))) rfl ?_
        refine sW.getI rfl hs7 hg rfl rfl ?_
        refine mW.sn 2 (g' := (80, [some (.ref g), some (.ref t0)], [.int ((rd (wr (wr S g 2 0) g 3 0) g 0) - 1), .ref g], (h7, q))) rfl ?_
        refine sW.putI rfl hs7 hg rfl ?_
        intro h9 hs9
        cases hv
        exact sW.fin hs9 rfl
      · rw [if_neg hc8] at hv
        cases hv
        exact sW.fin hs7 rfl
def p_writeTo (S : SS) (t0 : Nat) : Option (SS) := ((p_nothing S).bind fun r1 => (if r1 = 0 then (if (rd S 67 3) = 0 then ((t_past (tT S ((rd S 67 0).toNatClampNeg)) (rd S 67 1)).bind fun r5 => ((spart S t0 ((rd S 67 0).toNatClampNeg) (rd S 67 1) r5).bind fun r7 => some r7)) else ((p_kind S).bind fun r9 => (if r9 = (4 : Int32) then ((t_charPlace (tT (sput S t0 34) ((rd (sput S t0 34) 67 0).toNatClampNeg)) (rd (sput S t0 34) 67 1) (rd (sput S t0 34) 67 4)).bind fun r13 => ((t_charPlace (tT (sput S t0 34) ((rd (sput S t0 34) 67 0).toNatClampNeg)) (rd (sput S t0 34) 67 1) (rd (sput S t0 34) 67 5)).bind fun r15 => ((spart (sput S t0 34) t0 ((rd (sput S t0 34) 67 0).toNatClampNeg) r13 r15).bind fun r17 => some (sput r17 t0 34)))) else (if (rd (sput S t0 91) 67 5) ≤ (rd (sput S t0 91) 67 4) then some (sput (sput S t0 91) t0 93) else ((t_item (tT (sput S t0 91) ((rd (sput S t0 91) 67 0).toNatClampNeg)) (rd (sput S t0 91) 67 1) (rd (sput S t0 91) 67 4)).bind fun r23 => ((t_item (tT (sput S t0 91) ((rd (sput S t0 91) 67 0).toNatClampNeg)) (rd (sput S t0 91) 67 1) ((rd (sput S t0 91) 67 5) - 1)).bind fun r25 => ((t_itemEnd (tT (sput S t0 91) ((rd (sput S t0 91) 67 0).toNatClampNeg)) r25).bind fun r27 => ((spart (sput S t0 91) t0 ((rd (sput S t0 91) 67 0).toNatClampNeg) r23 r27).bind fun r29 => some (sput r29 t0 93))))))))) else some (sputs S t0 k13)))
theorem s98 {S : SS} {t0 : Nat} (ht0 : t0 ∈ shT) {v : SS} (hs : cs h S) (hv : p_writeTo S t0 = some v) : mW (d + 5) mm98 (0, [some (.ref 67), some (.ref t0)], [], (h, q)) (mQ q v none) := by
  unfold p_writeTo at hv
  refine mW.sn 1 (g' := (1, [some (.ref 67), some (.ref t0)], [.ref 67], (h, q))) rfl ?_
  cases hr1 : p_nothing S with
  | none => rw [hr1] at hv; cases hv
  | some r1 =>
    rw [hr1, o_bind] at hv
    refine sW.call rfl rfl rfl rfl (hs.rcv o67) (s99 hs hr1) ?_
    intro h2 hs2
    refine mW.br (g1 := (16, [some (.ref 67), some (.ref t0)], [], (h2, q))) (g2 := (7, [some (.ref 67), some (.ref t0)], [], (h2, q))) (c := r1 = 0) rfl (fun hc3 => ?_) (fun hc3 => ?_)
    · rw [if_pos hc3] at hv
      refine mW.sn 1 (g' := (17, [some (.ref 67), some (.ref t0)], [.ref 67], (h2, q))) rfl ?_
      refine sW.getI rfl hs2 o67 rfl rfl ?_
      refine mW.br (g1 := (23, [some (.ref 67), some (.ref t0)], [], (h2, q))) (g2 := (49, [some (.ref 67), some (.ref t0)], [], (h2, q))) (c := (rd S 67 3) = 0) rfl (fun hc4 => ?_) (fun hc4 => ?_)
      · rw [if_pos hc4] at hv
        refine mW.sn 2 (g' := (25, [some (.ref 67), some (.ref t0)], [.ref 67, .ref t0], (h2, q))) rfl ?_
        refine sW.getT rfl hs2 o67 rfl ?_
        refine mW.sn 1 (g' := (29, [some (.ref 67), some (.ref t0)], [.ref 67, .ref ((rd S 67 0).toNatClampNeg), .ref t0], (h2, q))) rfl ?_
        refine sW.getI rfl hs2 o67 rfl rfl ?_
        refine mW.sn 1 (g' := (33, [some (.ref 67), some (.ref t0)], [.ref 67, .int (rd S 67 1), .ref ((rd S 67 0).toNatClampNeg), .ref t0], (h2, q))) rfl ?_
        refine sW.getT rfl hs2 o67 rfl ?_
        refine mW.sn 1 (g' := (37, [some (.ref 67), some (.ref t0)], [.ref 67, .ref ((rd S 67 0).toNatClampNeg), .int (rd S 67 1), .ref ((rd S 67 0).toNatClampNeg), .ref t0], (h2, q))) rfl ?_
        refine sW.getI rfl hs2 o67 rfl rfl ?_
        cases hr5 : t_past (tT S ((rd S 67 0).toNatClampNeg)) (rd S 67 1) with
        | none => rw [hr5] at hv; cases hv
        | some r5 =>
          rw [hr5, o_bind] at hv
          refine sW.call rfl rfl rfl rfl (hs2.rcvT (hs2.okT o67 rfl)) (sW.of hs2 (x83 (hs2.gtx (hs2.okT o67 rfl)) hr5)) ?_
          intro h6 hs6
          cases hr7 : spart S t0 ((rd S 67 0).toNatClampNeg) (rd S 67 1) r5 with
          | none => rw [hr7] at hv; cases hv
          | some r7 =>
            rw [hr7, o_bind] at hv
            refine sW.call rfl rfl rfl rfl (hs6.rcvT ht0) (s61 ht0 (hs2.okT o67 rfl) hs6 hr7) ?_
            intro h8 hs8
            refine mW.sn 1 (g' := (180, [some (.ref 67), some (.ref t0)], [], (h8, q))) rfl ?_
            cases hv
            exact sW.fin hs8 rfl
      · rw [if_neg hc4] at hv
        refine mW.sn 1 (g' := (50, [some (.ref 67), some (.ref t0)], [.ref 67], (h2, q))) rfl ?_
        cases hr9 : p_kind S with
        | none => rw [hr9] at hv; cases hv
        | some r9 =>
          rw [hr9, o_bind] at hv
          refine sW.call rfl rfl rfl rfl (hs2.rcv o67) (s76 hs2 hr9) ?_
          intro h10 hs10
          refine mW.sn 1 (g' := (54, [some (.ref 67), some (.ref t0)], [.int 4, .int r9], (h10, q))) rfl ?_
          refine mW.br (g1 := (57, [some (.ref 67), some (.ref t0)], [], (h10, q))) (g2 := (110, [some (.ref 67), some (.ref t0)], [], (h10, q))) (c := r9 = (4 : Int32)) rfl (fun hc11 => ?_) (fun hc11 => ?_)
          · rw [if_pos hc11] at hv
            refine mW.sn 2 (g' := (60, [some (.ref 67), some (.ref t0)], [.int 34, .ref t0], (h10, q))) rfl ?_
            refine sW.call rfl rfl rfl rfl (hs10.rcvT ht0) (s15 hs10 ht0) ?_
            intro h12 hs12
            refine mW.sn 2 (g' := (65, [some (.ref 67), some (.ref t0)], [.ref 67, .ref t0], (h12, q))) rfl ?_
            refine sW.getT rfl hs12 o67 rfl ?_
            refine mW.sn 1 (g' := (69, [some (.ref 67), some (.ref t0)], [.ref 67, .ref ((rd (sput S t0 34) 67 0).toNatClampNeg), .ref t0], (h12, q))) rfl ?_
            refine sW.getT rfl hs12 o67 rfl ?_
            refine mW.sn 1 (g' := (73, [some (.ref 67), some (.ref t0)], [.ref 67, .ref ((rd (sput S t0 34) 67 0).toNatClampNeg), .ref ((rd (sput S t0 34) 67 0).toNatClampNeg), .ref t0], (h12, q))) rfl ?_
            refine sW.getI rfl hs12 o67 rfl rfl ?_
            refine mW.sn 1 (g' := (77, [some (.ref 67), some (.ref t0)], [.ref 67, .int (rd (sput S t0 34) 67 1), .ref ((rd (sput S t0 34) 67 0).toNatClampNeg), .ref ((rd (sput S t0 34) 67 0).toNatClampNeg), .ref t0], (h12, q))) rfl ?_
            refine sW.getI rfl hs12 o67 rfl rfl ?_
            cases hr13 : t_charPlace (tT (sput S t0 34) ((rd (sput S t0 34) 67 0).toNatClampNeg)) (rd (sput S t0 34) 67 1) (rd (sput S t0 34) 67 4) with
            | none => rw [hr13] at hv; cases hv
            | some r13 =>
              rw [hr13, o_bind] at hv
              refine sW.call rfl rfl rfl rfl (hs12.rcvT (hs12.okT o67 rfl)) (sW.of hs12 (x100 (hs12.gtx (hs12.okT o67 rfl)) hr13)) ?_
              intro h14 hs14
              refine mW.sn 1 (g' := (84, [some (.ref 67), some (.ref t0)], [.ref 67, .int r13, .ref ((rd (sput S t0 34) 67 0).toNatClampNeg), .ref t0], (h14, q))) rfl ?_
              refine sW.getT rfl hs14 o67 rfl ?_
              refine mW.sn 1 (g' := (88, [some (.ref 67), some (.ref t0)], [.ref 67, .ref ((rd (sput S t0 34) 67 0).toNatClampNeg), .int r13, .ref ((rd (sput S t0 34) 67 0).toNatClampNeg), .ref t0], (h14, q))) rfl ?_
              refine sW.getI rfl hs14 o67 rfl rfl ?_
              refine mW.sn 1 (g' := (92, [some (.ref 67), some (.ref t0)], [.ref 67, .int (rd (sput S t0 34) 67 1), .ref ((rd (sput S t0 34) 67 0).toNatClampNeg), .int r13, .ref ((rd (sput S t0 34) 67 0).toNatClampNeg), .ref t0], (h14, q))) rfl ?_
              refine sW.getI rfl hs14 o67 rfl rfl ?_
              cases hr15 : t_charPlace (tT (sput S t0 34) ((rd (sput S t0 34) 67 0).toNatClampNeg)) (rd (sput S t0 34) 67 1) (rd (sput S t0 34) 67 5) with
              | none => rw [hr15] at hv; cases hv
              | some r15 =>
                rw [hr15, o_bind] at hv
                refine sW.call rfl rfl rfl rfl (hs14.rcvT (hs14.okT o67 rfl)) (sW.of hs14 (x100 (hs14.gtx (hs14.okT o67 rfl)) hr15)) ?_
                intro h16 hs16
                cases hr17 : spart (sput S t0 34) t0 ((rd (sput S t0 34) 67 0).toNatClampNeg) r13 r15 with
                | none => rw [hr17] at hv; cases hv
                | some r17 =>
                  rw [hr17, o_bind] at hv
                  refine sW.call rfl rfl rfl rfl (hs16.rcvT ht0) (s61 ht0 (hs12.okT o67 rfl) hs16 hr17) ?_
                  intro h18 hs18
                  refine mW.sn 2 (g' := (104, [some (.ref 67), some (.ref t0)], [.int 34, .ref t0], (h18, q))) rfl ?_
                  refine sW.call rfl rfl rfl rfl (hs18.rcvT ht0) (s15 hs18 ht0) ?_
                  intro h19 hs19
                  refine mW.sn 1 (g' := (180, [some (.ref 67), some (.ref t0)], [], (h19, q))) rfl ?_
                  cases hv
                  exact sW.fin hs19 rfl
          · rw [if_neg hc11] at hv
            refine mW.sn 2 (g' := (113, [some (.ref 67), some (.ref t0)], [.int 91, .ref t0], (h10, q))) rfl ?_
            refine sW.call rfl rfl rfl rfl (hs10.rcvT ht0) (s15 hs10 ht0) ?_
            intro h20 hs20
            refine mW.sn 1 (g' := (117, [some (.ref 67), some (.ref t0)], [.ref 67], (h20, q))) rfl ?_
            refine sW.getI rfl hs20 o67 rfl rfl ?_
            refine mW.sn 1 (g' := (121, [some (.ref 67), some (.ref t0)], [.ref 67, .int (rd (sput S t0 91) 67 4)], (h20, q))) rfl ?_
            refine sW.getI rfl hs20 o67 rfl rfl ?_
            refine mW.br (g1 := (174, [some (.ref 67), some (.ref t0)], [], (h20, q))) (g2 := (127, [some (.ref 67), some (.ref t0)], [], (h20, q))) (c := (rd (sput S t0 91) 67 5) ≤ (rd (sput S t0 91) 67 4)) rfl (fun hc21 => ?_) (fun hc21 => ?_)
            · rw [if_pos hc21] at hv
              refine mW.sn 2 (g' := (177, [some (.ref 67), some (.ref t0)], [.int 93, .ref t0], (h20, q))) rfl ?_
              refine sW.call rfl rfl rfl rfl (hs20.rcvT ht0) (s15 hs20 ht0) ?_
              intro h22 hs22
              cases hv
              exact sW.fin hs22 rfl
            · rw [if_neg hc21] at hv
              refine mW.sn 2 (g' := (129, [some (.ref 67), some (.ref t0)], [.ref 67, .ref t0], (h20, q))) rfl ?_
              refine sW.getT rfl hs20 o67 rfl ?_
              refine mW.sn 1 (g' := (133, [some (.ref 67), some (.ref t0)], [.ref 67, .ref ((rd (sput S t0 91) 67 0).toNatClampNeg), .ref t0], (h20, q))) rfl ?_
              refine sW.getT rfl hs20 o67 rfl ?_
              refine mW.sn 1 (g' := (137, [some (.ref 67), some (.ref t0)], [.ref 67, .ref ((rd (sput S t0 91) 67 0).toNatClampNeg), .ref ((rd (sput S t0 91) 67 0).toNatClampNeg), .ref t0], (h20, q))) rfl ?_
              refine sW.getI rfl hs20 o67 rfl rfl ?_
              refine mW.sn 1 (g' := (141, [some (.ref 67), some (.ref t0)], [.ref 67, .int (rd (sput S t0 91) 67 1), .ref ((rd (sput S t0 91) 67 0).toNatClampNeg), .ref ((rd (sput S t0 91) 67 0).toNatClampNeg), .ref t0], (h20, q))) rfl ?_
              refine sW.getI rfl hs20 o67 rfl rfl ?_
              cases hr23 : t_item (tT (sput S t0 91) ((rd (sput S t0 91) 67 0).toNatClampNeg)) (rd (sput S t0 91) 67 1) (rd (sput S t0 91) 67 4) with
              | none => rw [hr23] at hv; cases hv
              | some r23 =>
                rw [hr23, o_bind] at hv
                refine sW.call rfl rfl rfl rfl (hs20.rcvT (hs20.okT o67 rfl)) (sW.of hs20 (x88 (hs20.gtx (hs20.okT o67 rfl)) hr23)) ?_
                intro h24 hs24
                refine mW.sn 1 (g' := (148, [some (.ref 67), some (.ref t0)], [.ref 67, .int r23, .ref ((rd (sput S t0 91) 67 0).toNatClampNeg), .ref t0], (h24, q))) rfl ?_
                refine sW.getT rfl hs24 o67 rfl ?_
                refine mW.sn 1 (g' := (152, [some (.ref 67), some (.ref t0)], [.ref 67, .ref ((rd (sput S t0 91) 67 0).toNatClampNeg), .int r23, .ref ((rd (sput S t0 91) 67 0).toNatClampNeg), .ref t0], (h24, q))) rfl ?_
                refine sW.getT rfl hs24 o67 rfl ?_
                refine mW.sn 1 (g' := (156, [some (.ref 67), some (.ref t0)], [.ref 67, .ref ((rd (sput S t0 91) 67 0).toNatClampNeg), .ref ((rd (sput S t0 91) 67 0).toNatClampNeg), .int r23, .ref ((rd (sput S t0 91) 67 0).toNatClampNeg), .ref t0], (h24, q))) rfl ?_
                refine sW.getI rfl hs24 o67 rfl rfl ?_
                refine mW.sn 1 (g' := (160, [some (.ref 67), some (.ref t0)], [.ref 67, .int (rd (sput S t0 91) 67 1), .ref ((rd (sput S t0 91) 67 0).toNatClampNeg), .ref ((rd (sput S t0 91) 67 0).toNatClampNeg), .int r23, .ref ((rd (sput S t0 91) 67 0).toNatClampNeg), .ref t0], (h24, q))) rfl ?_
                refine sW.getI rfl hs24 o67 rfl rfl ?_
                refine mW.sn 2 (g' := (165, [some (.ref 67), some (.ref t0)], [.int ((rd (sput S t0 91) 67 5) - 1), .int (rd (sput S t0 91) 67 1), .ref ((rd (sput S t0 91) 67 0).toNatClampNeg), .ref ((rd (sput S t0 91) 67 0).toNatClampNeg), .int r23, .ref ((rd (sput S t0 91) 67 0).toNatClampNeg), .ref t0], (h24, q))) rfl ?_
                cases hr25 : t_item (tT (sput S t0 91) ((rd (sput S t0 91) 67 0).toNatClampNeg)) (rd (sput S t0 91) 67 1) ((rd (sput S t0 91) 67 5) - 1) with
                | none => rw [hr25] at hv; cases hv
                | some r25 =>
                  rw [hr25, o_bind] at hv
                  refine sW.call rfl rfl rfl rfl (hs24.rcvT (hs24.okT o67 rfl)) (sW.of hs24 (x88 (hs24.gtx (hs24.okT o67 rfl)) hr25)) ?_
                  intro h26 hs26
                  cases hr27 : t_itemEnd (tT (sput S t0 91) ((rd (sput S t0 91) 67 0).toNatClampNeg)) r25 with
                  | none => rw [hr27] at hv; cases hv
                  | some r27 =>
                    rw [hr27, o_bind] at hv
                    refine sW.call rfl rfl rfl rfl (hs26.rcvT (hs24.okT o67 rfl)) (sW.of hs26 (x55 (hs26.gtx (hs24.okT o67 rfl)) hr27)) ?_
                    intro h28 hs28
                    cases hr29 : spart (sput S t0 91) t0 ((rd (sput S t0 91) 67 0).toNatClampNeg) r23 r27 with
                    | none => rw [hr29] at hv; cases hv
                    | some r29 =>
                      rw [hr29, o_bind] at hv
                      refine sW.call rfl rfl rfl rfl (hs28.rcvT ht0) (s61 ht0 (hs20.okT o67 rfl) hs28 hr29) ?_
                      intro h30 hs30
                      refine mW.sn 2 (g' := (177, [some (.ref 67), some (.ref t0)], [.int 93, .ref t0], (h30, q))) rfl ?_
                      refine sW.call rfl rfl rfl rfl (hs30.rcvT ht0) (s15 hs30 ht0) ?_
                      intro h31 hs31
                      cases hv
                      exact sW.fin hs31 rfl
    · rw [if_neg hc3] at hv
      refine mW.sn 2 (g' := (10, [some (.ref 67), some (.ref t0)], [.ref 13, .ref t0], (h2, q))) rfl ?_
      refine sW.call rfl rfl rfl rfl (hs2.rcvT ht0) (s3 hs2 ht0 m13) ?_
      intro h32 hs32
      refine mW.sn 1 (g' := (180, [some (.ref 67), some (.ref t0)], [], (h32, q))) rfl ?_
      cases hv
      exact sW.fin hs32 rfl
end
