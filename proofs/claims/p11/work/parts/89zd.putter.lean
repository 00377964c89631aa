/-! PRINTED BY wip/whole (dec2): the class's Putter. -/
section
set_option maxRecDepth 4000
variable {d : Nat} {h : mH} {q : Nat × Nat}
def u_start (S : SS) : Option (SS) := ((g_from (wr S 69 6 1) 70).bind fun r2 => ((spart (wr S 69 6 1) ((rd (wr S 69 6 1) 69 5).toNatClampNeg) ((rd (wr S 69 6 1) 69 4).toNatClampNeg) 0 r2).bind fun r4 => ((g_cB r4 70).bind fun r6 => (if r6 = 0 then some r4 else some (sput r4 ((rd r4 69 5).toNatClampNeg) 44)))))
theorem s110 {S : SS} {v : SS} (hs : cs h S) (hv : u_start S = some v) : mW (d + 2) mm110 (0, [some (.ref 69)], [], (h, q)) (mQ q v none) := by
  unfold u_start at hv
  refine mW.sn 2 (g' := (2, [some (.ref 69)], [.int 1, .ref 69], (h, q))) rfl ?_
  refine sW.putZ rfl hs o69 rfl (by decide) ?_
  intro h1 hs1
  refine mW.sn 1 (g' := (6, [some (.ref 69)], [.ref 69], (h1, q))) rfl ?_
  refine sW.getT rfl hs1 o69 rfl ?_
  refine mW.sn 1 (g' := (10, [some (.ref 69)], [.ref 69, .ref ((rd (wr S 69 6 1) 69 5).toNatClampNeg)], (h1, q))) rfl ?_
  refine sW.getT rfl hs1 o69 rfl ?_
  refine mW.sn 2 (g' := (15, [some (.ref 69)], [.ref 69, .int 0, .ref ((rd (wr S 69 6 1) 69 4).toNatClampNeg), .ref ((rd (wr S 69 6 1) 69 5).toNatClampNeg)], (h1, q))) rfl ?_
  refine sW.getR rfl hs1 o69 rfl rfl ?_
  cases hr2 : g_from (wr S 69 6 1) 70 with
  | none => rw [hr2] at hv; cases hv
  | some r2 =>
    rw [hr2, o_bind] at hv
    refine sW.call rfl rfl rfl rfl (hs1.rcv o70) (s111 o70 hs1 hr2) ?_
    intro h3 hs3
    cases hr4 : spart (wr S 69 6 1) ((rd (wr S 69 6 1) 69 5).toNatClampNeg) ((rd (wr S 69 6 1) 69 4).toNatClampNeg) 0 r2 with
    | none => rw [hr4] at hv; cases hv
    | some r4 =>
      rw [hr4, o_bind] at hv
      refine sW.call rfl rfl rfl rfl (hs3.rcvT (hs1.okT o69 rfl)) (s61 (hs1.okT o69 rfl) (hs1.okT o69 rfl) hs3 hr4) ?_
      intro h5 hs5
      refine mW.sn 1 (g' := (25, [some (.ref 69)], [.ref 69], (h5, q))) rfl ?_
      refine sW.getR rfl hs5 o69 rfl rfl ?_
      cases hr6 : g_cB r4 70 with
      | none => rw [hr6] at hv; cases hv
      | some r6 =>
        rw [hr6, o_bind] at hv
        refine sW.call rfl rfl rfl rfl (hs5.rcv o70) (s112 o70 hs5 hr6) ?_
        intro h7 hs7
        refine mW.br (g1 := (43, [some (.ref 69)], [], (h7, q))) (g2 := (34, [some (.ref 69)], [], (h7, q))) (c := r6 = 0) rfl (fun hc8 => ?_) (fun hc8 => ?_)
        · rw [if_pos hc8] at hv
          cases hv
          exact sW.fin hs7 rfl
        · rw [if_neg hc8] at hv
          refine mW.sn 1 (g' := (35, [some (.ref 69)], [.ref 69], (h7, q))) rfl ?_
          refine sW.getT rfl hs7 o69 rfl ?_
          refine mW.sn 1 (g' := (40, [some (.ref 69)], [.int 44, .ref ((rd r4 69 5).toNatClampNeg)], (h7, q))) rfl ?_
          refine sW.call rfl rfl rfl rfl (hs7.rcvT (hs7.okT o69 rfl)) (s15 hs7 (hs7.okT o69 rfl)) ?_
          intro h9 hs9
          cases hv
          exact sW.fin hs9 rfl
def u_value (S : SS) : Option (SS) := ((p_place S).bind fun r1 => ((t_past (tT S ((rd S 69 4).toNatClampNeg)) r1).bind fun r4 => ((g_span S 70 r1 r4).bind fun r6 => ((u_start r6).bind fun r8 => some r8))))
theorem s107 {S : SS} {v : SS} (hs : cs h S) (hv : u_value S = some v) : mW (d + 3) mm107 (0, [some (.ref 69)], [], (h, q)) (mQ q v none) := by
  unfold u_value at hv
  refine mW.sn 1 (g' := (1, [some (.ref 69)], [.ref 69], (h, q))) rfl ?_
  refine sW.getR rfl hs o69 rfl rfl ?_
  refine mW.sn 1 (g' := (5, [some (.ref 69)], [.ref 69, .ref 70], (h, q))) rfl ?_
  refine sW.getR rfl hs o69 rfl rfl ?_
  cases hr1 : p_place S with
  | none => rw [hr1] at hv; cases hv
  | some r1 =>
    rw [hr1, o_bind] at hv
    refine sW.call rfl rfl rfl rfl (hs.rcv o67) (s108 hs hr1) ?_
    intro h2 hs2
    refine mW.sn 1 (g' := (12, [some (.ref 69)], [.ref 69, .int r1, .ref 70], (h2, q))) rfl ?_
    refine sW.getT rfl hs2 o69 rfl ?_
    refine mW.sn 1 (g' := (16, [some (.ref 69)], [.ref 69, .ref ((rd S 69 4).toNatClampNeg), .int r1, .ref 70], (h2, q))) rfl ?_
    refine sW.getR rfl hs2 o69 rfl rfl ?_
    refine sW.call rfl rfl rfl rfl (hs2.rcv o67) (s108 hs2 hr1) ?_
    intro h3 hs3
    cases hr4 : t_past (tT S ((rd S 69 4).toNatClampNeg)) r1 with
    | none => rw [hr4] at hv; cases hv
    | some r4 =>
      rw [hr4, o_bind] at hv
      refine sW.call rfl rfl rfl rfl (hs3.rcvT (hs2.okT o69 rfl)) (sW.of hs3 (x83 (hs3.gtx (hs2.okT o69 rfl)) hr4)) ?_
      intro h5 hs5
      cases hr6 : g_span S 70 r1 r4 with
      | none => rw [hr6] at hv; cases hv
      | some r6 =>
        rw [hr6, o_bind] at hv
        refine sW.call rfl rfl rfl rfl (hs5.rcv o70) (s109 o70 hs5 hr6) ?_
        intro h7 hs7
        refine mW.sn 1 (g' := (29, [some (.ref 69)], [.ref 69], (h7, q))) rfl ?_
        cases hr8 : u_start r6 with
        | none => rw [hr8] at hv; cases hv
        | some r8 =>
          rw [hr8, o_bind] at hv
          refine sW.call rfl rfl rfl rfl (hs7.rcv o69) (s110 hs7 hr8) ?_
          intro h9 hs9
          cases hv
          exact sW.fin hs9 rfl
def u_null (S : SS) (t0 : Nat) (p0 : Int32) : Option (SS) := ((p_isPart S).bind fun r1 => (if r1 = 0 then ((p_isNull S).bind fun r4 => (if r4 = 0 then some S else ((u_value (wr S 69 7 0)).bind fun r8 => some r8))) else ((t_kind (tT S t0) p0).bind fun r10 => (if r10 = (4 : Int32) then ((u_value (wr S 69 7 1)).bind fun r14 => some r14) else ((p_isNull S).bind fun r16 => (if r16 = 0 then some S else ((u_value (wr S 69 7 0)).bind fun r20 => some r20)))))))
theorem s105 {S : SS} {t0 : Nat} (ht0 : t0 ∈ shT) {p0 : Int32} {v : SS} (hs : cs h S) (hv : u_null S t0 p0 = some v) : mW (d + 4) mm105 (0, [some (.ref 69), some (.ref t0), some (.int p0), none], [], (h, q)) (mQ q v none) := by
  unfold u_null at hv
  refine mW.sn 1 (g' := (1, [some (.ref 69), some (.ref t0), some (.int p0), none], [.ref 69], (h, q))) rfl ?_
  refine sW.getR rfl hs o69 rfl rfl ?_
  cases hr1 : p_isPart S with
  | none => rw [hr1] at hv; cases hv
  | some r1 =>
    rw [hr1, o_bind] at hv
    refine sW.call rfl rfl rfl rfl (hs.rcv o67) (s106 hs hr1) ?_
    intro h2 hs2
    refine mW.br (g1 := (23, [some (.ref 69), some (.ref t0), some (.int p0), none], [], (h2, q))) (g2 := (10, [some (.ref 69), some (.ref t0), some (.int p0), none], [], (h2, q))) (c := r1 = 0) rfl (fun hc3 => ?_) (fun hc3 => ?_)
    · rw [if_pos hc3] at hv
      refine mW.sn 3 (g' := (26, [some (.ref 69), some (.ref t0), some (.int p0), some (.int 0)], [.int 0], (h2, q))) rfl ?_
      refine mW.yes (g1 := (29, [some (.ref 69), some (.ref t0), some (.int p0), some (.int 0)], [], (h2, q))) (g2 := (39, [some (.ref 69), some (.ref t0), some (.int p0), some (.int 0)], [], (h2, q))) (c := (0 : Int32) = 0) rfl (by decide) ?_
      refine mW.sn 1 (g' := (30, [some (.ref 69), some (.ref t0), some (.int p0), some (.int 0)], [.ref 69], (h2, q))) rfl ?_
      refine sW.getR rfl hs2 o69 rfl rfl ?_
      cases hr4 : p_isNull S with
      | none => rw [hr4] at hv; cases hv
      | some r4 =>
        rw [hr4, o_bind] at hv
        refine sW.call rfl rfl rfl rfl (hs2.rcv o67) (s75 hs2 hr4) ?_
        intro h5 hs5
        refine mW.br (g1 := (48, [some (.ref 69), some (.ref t0), some (.int p0), some (.int 0)], [], (h5, q))) (g2 := (39, [some (.ref 69), some (.ref t0), some (.int p0), some (.int 0)], [], (h5, q))) (c := r4 = 0) rfl (fun hc6 => ?_) (fun hc6 => ?_)
        · rw [if_pos hc6] at hv
          cases hv
          exact sW.fin hs5 rfl
        · rw [if_neg hc6] at hv
          refine mW.sn 2 (g' := (41, [some (.ref 69), some (.ref t0), some (.int p0), some (.int 0)], [.int 0, .ref 69], (h5, q))) rfl ?_
          refine sW.putZ rfl hs5 o69 rfl (by decide) ?_
          intro h7 hs7
          refine mW.sn 1 (g' := (45, [some (.ref 69), some (.ref t0), some (.int p0), some (.int 0)], [.ref 69], (h7, q))) rfl ?_
          cases hr8 : u_value (wr S 69 7 0) with
          | none => rw [hr8] at hv; cases hv
          | some r8 =>
            rw [hr8, o_bind] at hv
            refine sW.call rfl rfl rfl rfl (hs7.rcv o69) (s107 hs7 hr8) ?_
            intro h9 hs9
            cases hv
            exact sW.fin hs9 rfl
    · rw [if_neg hc3] at hv
      refine mW.sn 2 (g' := (12, [some (.ref 69), some (.ref t0), some (.int p0), none], [.int p0, .ref t0], (h2, q))) rfl ?_
      cases hr10 : t_kind (tT S t0) p0 with
      | none => rw [hr10] at hv; cases hv
      | some r10 =>
        rw [hr10, o_bind] at hv
        refine sW.call rfl rfl rfl rfl (hs2.rcvT ht0) (sW.of hs2 (x70 (hs2.gtx ht0) hr10)) ?_
        intro h11 hs11
        refine mW.sn 1 (g' := (16, [some (.ref 69), some (.ref t0), some (.int p0), none], [.int 4, .int r10], (h11, q))) rfl ?_
        refine mW.br (g1 := (19, [some (.ref 69), some (.ref t0), some (.int p0), none], [], (h11, q))) (g2 := (23, [some (.ref 69), some (.ref t0), some (.int p0), none], [], (h11, q))) (c := r10 = (4 : Int32)) rfl (fun hc12 => ?_) (fun hc12 => ?_)
        · rw [if_pos hc12] at hv
          refine mW.sn 4 (g' := (26, [some (.ref 69), some (.ref t0), some (.int p0), some (.int 1)], [.int 1], (h11, q))) rfl ?_
          refine mW.no (g1 := (29, [some (.ref 69), some (.ref t0), some (.int p0), some (.int 1)], [], (h11, q))) (g2 := (39, [some (.ref 69), some (.ref t0), some (.int p0), some (.int 1)], [], (h11, q))) (c := (1 : Int32) = 0) rfl (by decide) ?_
          refine mW.sn 2 (g' := (41, [some (.ref 69), some (.ref t0), some (.int p0), some (.int 1)], [.int 1, .ref 69], (h11, q))) rfl ?_
          refine sW.putZ rfl hs11 o69 rfl (by decide) ?_
          intro h13 hs13
          refine mW.sn 1 (g' := (45, [some (.ref 69), some (.ref t0), some (.int p0), some (.int 1)], [.ref 69], (h13, q))) rfl ?_
          cases hr14 : u_value (wr S 69 7 1) with
          | none => rw [hr14] at hv; cases hv
          | some r14 =>
            rw [hr14, o_bind] at hv
            refine sW.call rfl rfl rfl rfl (hs13.rcv o69) (s107 hs13 hr14) ?_
            intro h15 hs15
            cases hv
            exact sW.fin hs15 rfl
        · rw [if_neg hc12] at hv
          refine mW.sn 3 (g' := (26, [some (.ref 69), some (.ref t0), some (.int p0), some (.int 0)], [.int 0], (h11, q))) rfl ?_
          refine mW.yes (g1 := (29, [some (.ref 69), some (.ref t0), some (.int p0), some (.int 0)], [], (h11, q))) (g2 := (39, [some (.ref 69), some (.ref t0), some (.int p0), some (.int 0)], [], (h11, q))) (c := (0 : Int32) = 0) rfl (by decide) ?_
          refine mW.sn 1 (g' := (30, [some (.ref 69), some (.ref t0), some (.int p0), some (.int 0)], [.ref 69], (h11, q))) rfl ?_
          refine sW.getR rfl hs11 o69 rfl rfl ?_
          cases hr16 : p_isNull S with
          | none => rw [hr16] at hv; cases hv
          | some r16 =>
            rw [hr16, o_bind] at hv
            refine sW.call rfl rfl rfl rfl (hs11.rcv o67) (s75 hs11 hr16) ?_
            intro h17 hs17
            refine mW.br (g1 := (48, [some (.ref 69), some (.ref t0), some (.int p0), some (.int 0)], [], (h17, q))) (g2 := (39, [some (.ref 69), some (.ref t0), some (.int p0), some (.int 0)], [], (h17, q))) (c := r16 = 0) rfl (fun hc18 => ?_) (fun hc18 => ?_)
            · rw [if_pos hc18] at hv
              cases hv
              exact sW.fin hs17 rfl
            · rw [if_neg hc18] at hv
              refine mW.sn 2 (g' := (41, [some (.ref 69), some (.ref t0), some (.int p0), some (.int 0)], [.int 0, .ref 69], (h17, q))) rfl ?_
              refine sW.putZ rfl hs17 o69 rfl (by decide) ?_
              intro h19 hs19
              refine mW.sn 1 (g' := (45, [some (.ref 69), some (.ref t0), some (.int p0), some (.int 0)], [.ref 69], (h19, q))) rfl ?_
              cases hr20 : u_value (wr S 69 7 0) with
              | none => rw [hr20] at hv; cases hv
              | some r20 =>
                rw [hr20, o_bind] at hv
                refine sW.call rfl rfl rfl rfl (hs19.rcv o69) (s107 hs19 hr20) ?_
                intro h21 hs21
                cases hv
                exact sW.fin hs21 rfl
def u_begin (S : SS) (t0 : Nat) (t1 : Nat) : Option (SS) := ((p_start (up (wr (wr S 69 4 (Int32.ofNat t0)) 69 5 (Int32.ofNat t1)) ((rd (wr (wr S 69 4 (Int32.ofNat t0)) 69 5 (Int32.ofNat t1)) 69 5).toNatClampNeg) [0]) t0).bind fun r4 => some (wr (wr (wr (wr r4 69 3 0) 69 6 0) 69 7 0) 69 8 0))
theorem s104 {S : SS} {t0 : Nat} (ht0 : t0 ∈ shT) {t1 : Nat} (ht1 : t1 ∈ shT) {v : SS} (hs : cs h S) (hv : u_begin S t0 t1 = some v) : mW (d + 1) mm104 (0, [some (.ref 69), some (.ref t0), some (.ref t1)], [], (h, q)) (mQ q v none) := by
  unfold u_begin at hv
  refine mW.sn 2 (g' := (2, [some (.ref 69), some (.ref t0), some (.ref t1)], [.ref t0, .ref 69], (h, q))) rfl ?_
  refine sW.putT rfl hs o69 rfl ht0 ?_
  intro h1 hs1
  refine mW.sn 2 (g' := (7, [some (.ref 69), some (.ref t0), some (.ref t1)], [.ref t1, .ref 69], (h1, q))) rfl ?_
  refine sW.putT rfl hs1 o69 rfl ht1 ?_
  intro h2 hs2
  refine mW.sn 1 (g' := (11, [some (.ref 69), some (.ref t0), some (.ref t1)], [.ref 69], (h2, q))) rfl ?_
  refine sW.getT rfl hs2 o69 rfl ?_
  refine sW.call rfl rfl rfl rfl (hs2.rcvT (hs2.okT o69 rfl)) (s35 hs2 (hs2.okT o69 rfl)) ?_
  intro h3 hs3
  refine mW.sn 1 (g' := (18, [some (.ref 69), some (.ref t0), some (.ref t1)], [.ref 69], (h3, q))) rfl ?_
  refine sW.getR rfl hs3 o69 rfl rfl ?_
  refine mW.sn 1 (g' := (22, [some (.ref 69), some (.ref t0), some (.ref t1)], [.ref t0, .ref 67], (h3, q))) rfl ?_
  cases hr4 : p_start (up (wr (wr S 69 4 (Int32.ofNat t0)) 69 5 (Int32.ofNat t1)) ((rd (wr (wr S 69 4 (Int32.ofNat t0)) 69 5 (Int32.ofNat t1)) 69 5).toNatClampNeg) [0]) t0 with
  | none => rw [hr4] at hv; cases hv
  | some r4 =>
    rw [hr4, o_bind] at hv
    refine sW.call rfl rfl rfl rfl (hs3.rcv o67) (s73 ht0 hs3 hr4) ?_
    intro h5 hs5
    refine mW.sn 2 (g' := (27, [some (.ref 69), some (.ref t0), some (.ref t1)], [.int 0, .ref 69], (h5, q))) rfl ?_
    refine sW.putI rfl hs5 o69 rfl ?_
    intro h6 hs6
    refine mW.sn 2 (g' := (32, [some (.ref 69), some (.ref t0), some (.ref t1)], [.int 0, .ref 69], (h6, q))) rfl ?_
    refine sW.putZ rfl hs6 o69 rfl (by decide) ?_
    intro h7 hs7
    refine mW.sn 2 (g' := (37, [some (.ref 69), some (.ref t0), some (.ref t1)], [.int 0, .ref 69], (h7, q))) rfl ?_
    refine sW.putZ rfl hs7 o69 rfl (by decide) ?_
    intro h8 hs8
    refine mW.sn 2 (g' := (42, [some (.ref 69), some (.ref t0), some (.ref t1)], [.int 0, .ref 69], (h8, q))) rfl ?_
    refine sW.putZ rfl hs8 o69 rfl (by decide) ?_
    intro h9 hs9
    cases hv
    exact sW.fin hs9 rfl
def u_open (S : SS) (p0 : Int32) (p1 : Int32) : Option (SS) := (if (Int32.ofNat ((sput (wr S 69 7 0) ((rd (wr S 69 7 0) 69 5).toNatClampNeg) p0) 71).length) ≤ (rd (sput (wr S 69 7 0) ((rd (wr S 69 7 0) 69 5).toNatClampNeg) p0) 69 3) then some (sput (wr S 69 7 0) ((rd (wr S 69 7 0) 69 5).toNatClampNeg) p0) else ((iset ((sput (wr S 69 7 0) ((rd (wr S 69 7 0) 69 5).toNatClampNeg) p0) 71) (rd (sput (wr S 69 7 0) ((rd (wr S 69 7 0) 69 5).toNatClampNeg) p0) 69 3) p1.toInt8.toInt32.toInt8.toInt32).bind fun z4 => some (wr (up (sput (wr S 69 7 0) ((rd (wr S 69 7 0) 69 5).toNatClampNeg) p0) 71 z4) 69 3 ((rd (up (sput (wr S 69 7 0) ((rd (wr S 69 7 0) 69 5).toNatClampNeg) p0) 71 z4) 69 3) + 1))))
theorem s114 {S : SS} {p0 : Int32} {p1 : Int32} {v : SS} (hs : cs h S) (hv : u_open S p0 p1 = some v) : mW (d + 1) mm114 (0, [some (.ref 69), some (.int p0), some (.int p1)], [], (h, q)) (mQ q v none) := by
  unfold u_open at hv
  refine mW.sn 2 (g' := (2, [some (.ref 69), some (.int p0), some (.int p1)], [.int 0, .ref 69], (h, q))) rfl ?_
  refine sW.putZ rfl hs o69 rfl (by decide) ?_
  intro h1 hs1
  refine mW.sn 1 (g' := (6, [some (.ref 69), some (.int p0), some (.int p1)], [.ref 69], (h1, q))) rfl ?_
  refine sW.getT rfl hs1 o69 rfl ?_
  refine mW.sn 1 (g' := (10, [some (.ref 69), some (.int p0), some (.int p1)], [.int p0, .ref ((rd (wr S 69 7 0) 69 5).toNatClampNeg)], (h1, q))) rfl ?_
  refine sW.call rfl rfl rfl rfl (hs1.rcvT (hs1.okT o69 rfl)) (s15 hs1 (hs1.okT o69 rfl)) ?_
  intro h2 hs2
  refine mW.sn 1 (g' := (14, [some (.ref 69), some (.int p0), some (.int p1)], [.ref 69], (h2, q))) rfl ?_
  refine sW.getI rfl hs2 o69 rfl rfl ?_
  refine mW.sn 1 (g' := (18, [some (.ref 69), some (.int p0), some (.int p1)], [.ref 69, .int (rd (sput (wr S 69 7 0) ((rd (wr S 69 7 0) 69 5).toNatClampNeg) p0) 69 3)], (h2, q))) rfl ?_
  refine sW.getR rfl hs2 o69 rfl rfl ?_
  refine sW.aln71 rfl hs2 ?_
  refine mW.br (g1 := (46, [some (.ref 69), some (.int p0), some (.int p1)], [], (h2, q))) (g2 := (25, [some (.ref 69), some (.int p0), some (.int p1)], [], (h2, q))) (c := (Int32.ofNat ((sput (wr S 69 7 0) ((rd (wr S 69 7 0) 69 5).toNatClampNeg) p0) 71).length) ≤ (rd (sput (wr S 69 7 0) ((rd (wr S 69 7 0) 69 5).toNatClampNeg) p0) 69 3)) rfl (fun hc3 => ?_) (fun hc3 => ?_)
  · rw [if_pos hc3] at hv
    cases hv
    exact sW.fin hs2 rfl
  · rw [if_neg hc3] at hv
    refine mW.sn 1 (g' := (26, [some (.ref 69), some (.int p0), some (.int p1)], [.ref 69], (h2, q))) rfl ?_
    refine sW.getR rfl hs2 o69 rfl rfl ?_
    refine mW.sn 1 (g' := (30, [some (.ref 69), some (.int p0), some (.int p1)], [.ref 69, .ref 71], (h2, q))) rfl ?_
    refine sW.getI rfl hs2 o69 rfl rfl ?_
    refine mW.sn 2 (g' := (35, [some (.ref 69), some (.int p0), some (.int p1)], [.int p1.toInt8.toInt32, .int (rd (sput (wr S 69 7 0) ((rd (wr S 69 7 0) 69 5).toNatClampNeg) p0) 69 3), .ref 71], (h2, q))) rfl ?_
    cases hr4 : iset ((sput (wr S 69 7 0) ((rd (wr S 69 7 0) 69 5).toNatClampNeg) p0) 71) (rd (sput (wr S 69 7 0) ((rd (wr S 69 7 0) 69 5).toNatClampNeg) p0) 69 3) p1.toInt8.toInt32.toInt8.toInt32 with
    | none => rw [hr4] at hv; cases hv
    | some z4 =>
      rw [hr4, o_bind] at hv
      refine sW.bast71 rfl hs2 hr4 ?_
      intro h5 hs5
      refine mW.sn 2 (g' := (38, [some (.ref 69), some (.int p0), some (.int p1)], [.ref 69, .ref 69], (h5, q))) rfl ?_
      refine sW.getI rfl hs5 o69 rfl rfl ?_
      refine mW.sn 2 (g' := (43, [some (.ref 69), some (.int p0), some (.int p1)], [.int ((rd (up (sput (wr S 69 7 0) ((rd (wr S 69 7 0) 69 5).toNatClampNeg) p0) 71 z4) 69 3) + 1), .ref 69], (h5, q))) rfl ?_
      refine sW.putI rfl hs5 o69 rfl ?_
      intro h6 hs6
      cases hv
      exact sW.fin hs6 rfl
def u_name (S : SS) (t0 : Nat) (p0 : Int32) : Option (SS) := ((t_past (tT S t0) p0).bind fun r1 => ((spart S ((rd S 69 5).toNatClampNeg) t0 p0 r1).bind fun r3 => some (sput r3 ((rd r3 69 5).toNatClampNeg) 58)))
theorem s115 {S : SS} {t0 : Nat} (ht0 : t0 ∈ shT) {p0 : Int32} {v : SS} (hs : cs h S) (hv : u_name S t0 p0 = some v) : mW (d + 3) mm115 (0, [some (.ref 69), some (.ref t0), some (.int p0)], [], (h, q)) (mQ q v none) := by
  unfold u_name at hv
  refine mW.sn 1 (g' := (1, [some (.ref 69), some (.ref t0), some (.int p0)], [.ref 69], (h, q))) rfl ?_
  refine sW.getT rfl hs o69 rfl ?_
  refine mW.sn 4 (g' := (8, [some (.ref 69), some (.ref t0), some (.int p0)], [.int p0, .ref t0, .int p0, .ref t0, .ref ((rd S 69 5).toNatClampNeg)], (h, q))) rfl ?_
  cases hr1 : t_past (tT S t0) p0 with
  | none => rw [hr1] at hv; cases hv
  | some r1 =>
    rw [hr1, o_bind] at hv
    refine sW.call rfl rfl rfl rfl (hs.rcvT ht0) (sW.of hs (x83 (hs.gtx ht0) hr1)) ?_
    intro h2 hs2
    cases hr3 : spart S ((rd S 69 5).toNatClampNeg) t0 p0 r1 with
    | none => rw [hr3] at hv; cases hv
    | some r3 =>
      rw [hr3, o_bind] at hv
      refine sW.call rfl rfl rfl rfl (hs2.rcvT (hs.okT o69 rfl)) (s61 (hs.okT o69 rfl) ht0 hs2 hr3) ?_
      intro h4 hs4
      refine mW.sn 1 (g' := (15, [some (.ref 69), some (.ref t0), some (.int p0)], [.ref 69], (h4, q))) rfl ?_
      refine sW.getT rfl hs4 o69 rfl ?_
      refine mW.sn 1 (g' := (20, [some (.ref 69), some (.ref t0), some (.int p0)], [.int 58, .ref ((rd r3 69 5).toNatClampNeg)], (h4, q))) rfl ?_
      refine sW.call rfl rfl rfl rfl (hs4.rcvT (hs4.okT o69 rfl)) (s15 hs4 (hs4.okT o69 rfl)) ?_
      intro h5 hs5
      cases hv
      exact sW.fin hs5 rfl
def u_nulls_l2 : Nat → SS → Int32 → Int32 → Option (SS)
  | 0, _, _, _ => none
  | n + 1, S, l1, l2 => (if l1 ≤ l2 then some S else (if ((tV S ((rd S 69 5).toNatClampNeg)) &&& 1) = 0 then u_nulls_l2 n (sputs S ((rd S 69 5).toNatClampNeg) k15) l1 (l2 + 1) else some S))
theorem u_nulls_l2_ok : ∀ (n : Nat), ∀ (h : mH) (S : SS) (l1 : Int32) (l2 : Int32) (v : SS), cs h S → u_nulls_l2 n S l1 l2 = some v → mW (d + 5) mm116 (2, [some (.ref 69), some (.int l1), some (.int l2)], [], (h, q)) (mQ q v none) := by
  intro n
  induction n with
  | zero => intro h S l1 l2 v hs hv; cases hv
  | succ n ih =>
    intro h S l1 l2 v hs hv
    unfold u_nulls_l2 at hv
    refine mW.sn 2 (g' := (4, [some (.ref 69), some (.int l1), some (.int l2)], [.int l1, .int l2], (h, q))) rfl ?_
    refine mW.br (g1 := (32, [some (.ref 69), some (.int l1), some (.int l2)], [], (h, q))) (g2 := (7, [some (.ref 69), some (.int l1), some (.int l2)], [], (h, q))) (c := l1 ≤ l2) rfl (fun hc1 => ?_) (fun hc1 => ?_)
    · rw [if_pos hc1] at hv
      cases hv
      exact sW.fin hs rfl
    · rw [if_neg hc1] at hv
      refine mW.sn 1 (g' := (8, [some (.ref 69), some (.int l1), some (.int l2)], [.ref 69], (h, q))) rfl ?_
      refine sW.getT rfl hs o69 rfl ?_
      refine sW.call rfl rfl rfl rfl (hs.rcvT (hs.okT o69 rfl)) (sW.of hs (x63 (hs.gtx (hs.okT o69 rfl)))) ?_
      intro h2 hs2
      refine mW.br (g1 := (17, [some (.ref 69), some (.int l1), some (.int l2)], [], (h2, q))) (g2 := (32, [some (.ref 69), some (.int l1), some (.int l2)], [], (h2, q))) (c := ((tV S ((rd S 69 5).toNatClampNeg)) &&& 1) = 0) rfl (fun hc3 => ?_) (fun hc3 => ?_)
      · rw [if_pos hc3] at hv
        refine mW.sn 1 (g' := (18, [some (.ref 69), some (.int l1), some (.int l2)], [.ref 69], (h2, q))) rfl ?_
        refine sW.getT rfl hs2 o69 rfl ?_
        refine mW.sn 1 (g' := (23, [some (.ref 69), some (.int l1), some (.int l2)], [.ref 15, .ref ((rd S 69 5).toNatClampNeg)], (h2, q))) rfl ?_
        refine sW.call rfl rfl rfl rfl (hs2.rcvT (hs2.okT o69 rfl)) (s3 hs2 (hs2.okT o69 rfl) m15) ?_
        intro h4 hs4
        refine mW.sn 2 (g' := (2, [some (.ref 69), some (.int l1), some (.int (l2 + 1))], [], (h4, q))) rfl ?_
        exact ih _ _ _ _ _  hs4 hv
      · rw [if_neg hc3] at hv
        cases hv
        exact sW.fin hs2 rfl
def u_nulls (S : SS) (p0 : Int32) : Option (SS) := u_nulls_l2 10000 S p0 0
theorem s116 {S : SS} {p0 : Int32} {v : SS} (hs : cs h S) (hv : u_nulls S p0 = some v) : mW (d + 5) mm116 (0, [some (.ref 69), some (.int p0), none], [], (h, q)) (mQ q v none) := by
  unfold u_nulls at hv
  refine mW.sn 2 (g' := (2, [some (.ref 69), some (.int p0), some (.int 0)], [], (h, q))) rfl ?_
  exact u_nulls_l2_ok _ _ _ _ _ _  hs hv
def u_goOn (S : SS) (t0 : Nat) (p0 : Int32) : Option (SS × Int32) := ((p_kind S).bind fun r1 => (if r1 = (5 : Int32) then ((t_kind (tT S t0) p0).bind fun r4 => (if r4 = (3 : Int32) then ((p_place S).bind fun r7 => ((p_size S).bind fun r9 => ((p_behind S).bind fun r11 => ((t_number (tT S t0) p0).bind fun r13 => ((p_fromStart S r13 r9).bind fun r15 => (if (lg_cmp r15 0) < 0 then some (S, 2) else (if (lg_cmp r15 1000) ≤ 0 then ((p_step S t0 p0).bind fun r19 => (if r19.2 = 0 then ((p_nothing r19.1).bind fun r22 => (if r22 = 0 then some (r19.1, r19.2) else ((g_items r19.1 70 ((rd r19.1 69 4).toNatClampNeg) r7 r11 r11).bind fun r25 => ((u_start r25).bind fun r27 => ((u_nulls r27 (r15.toInt32 - r9)).bind fun r29 => some (r29, 0)))))) else some (r19.1, r19.2))) else some (S, 2)))))))) else ((p_place S).bind fun r31 => ((p_size S).bind fun r33 => ((p_behind S).bind fun r35 => (if (lg_cmp 0 0) < 0 then some (S, 2) else (if (lg_cmp 0 1000) ≤ 0 then ((p_step S t0 p0).bind fun r39 => (if r39.2 = 0 then ((p_nothing r39.1).bind fun r42 => (if r42 = 0 then some (r39.1, r39.2) else ((g_items r39.1 70 ((rd r39.1 69 4).toNatClampNeg) r31 r35 r35).bind fun r45 => ((u_start r45).bind fun r47 => ((u_name r47 t0 p0).bind fun r49 => some (r49, 0)))))) else some (r39.1, r39.2))) else some (S, 2)))))))) else (if r1 = (6 : Int32) then ((p_place S).bind fun r52 => ((p_size S).bind fun r54 => ((p_behind S).bind fun r56 => (if (lg_cmp 0 0) < 0 then some (S, 2) else (if (lg_cmp 0 1000) ≤ 0 then ((p_step S t0 p0).bind fun r60 => (if r60.2 = 0 then ((p_nothing r60.1).bind fun r63 => (if r63 = 0 then some (r60.1, r60.2) else ((g_items r60.1 70 ((rd r60.1 69 4).toNatClampNeg) r52 r56 r56).bind fun r66 => ((u_start r66).bind fun r68 => ((u_name r68 t0 p0).bind fun r70 => some (r70, 0)))))) else some (r60.1, r60.2))) else some (S, 2)))))) else some (S, 1))))
theorem s118 {S : SS} {t0 : Nat} (ht0 : t0 ∈ shT) {p0 : Int32} {v : SS × Int32} (hs : cs h S) (hv : u_goOn S t0 p0 = some v) : mW (d + 8) mm118 (0, [some (.ref 69), some (.ref t0), some (.int p0), none, none, none, none, none, none, none, none], [], (h, q)) (mQ q v.1 (some (.int v.2))) := by
  unfold u_goOn at hv
  refine mW.sn 1 (g' := (1, [some (.ref 69), some (.ref t0), some (.int p0), none, none, none, none, none, none, none, none], [.ref 69], (h, q))) rfl ?_
  refine sW.getR rfl hs o69 rfl rfl ?_
  cases hr1 : p_kind S with
  | none => rw [hr1] at hv; cases hv
  | some r1 =>
    rw [hr1, o_bind] at hv
    refine sW.call rfl rfl rfl rfl (hs.rcv o67) (s76 hs hr1) ?_
    intro h2 hs2
    refine mW.sn 3 (g' := (10, [some (.ref 69), some (.ref t0), some (.int p0), some (.int r1), none, none, none, none, none, none, none], [.int 5, .int r1], (h2, q))) rfl ?_
    refine mW.br (g1 := (21, [some (.ref 69), some (.ref t0), some (.int p0), some (.int r1), none, none, none, none, none, none, none], [], (h2, q))) (g2 := (13, [some (.ref 69), some (.ref t0), some (.int p0), some (.int r1), none, none, none, none, none, none, none], [], (h2, q))) (c := r1 = (5 : Int32)) rfl (fun hc3 => ?_) (fun hc3 => ?_)
    · rw [if_pos hc3] at hv
      refine mW.sn 2 (g' := (23, [some (.ref 69), some (.ref t0), some (.int p0), some (.int r1), none, none, none, none, none, none, none], [.int 5, .int r1], (h2, q))) rfl ?_
      refine mW.yes (g1 := (26, [some (.ref 69), some (.ref t0), some (.int p0), some (.int r1), none, none, none, none, none, none, none], [], (h2, q))) (g2 := (39, [some (.ref 69), some (.ref t0), some (.int p0), some (.int r1), none, none, none, none, none, none, none], [], (h2, q))) (c := r1 = (5 : Int32)) rfl hc3 ?_
      refine mW.sn 2 (g' := (28, [some (.ref 69), some (.ref t0), some (.int p0), some (.int r1), none, none, none, none, none, none, none], [.int p0, .ref t0], (h2, q))) rfl ?_
      cases hr4 : t_kind (tT S t0) p0 with
      | none => rw [hr4] at hv; cases hv
      | some r4 =>
        rw [hr4, o_bind] at hv
        refine sW.call rfl rfl rfl rfl (hs2.rcvT ht0) (sW.of hs2 (x70 (hs2.gtx ht0) hr4)) ?_
        intro h5 hs5
        refine mW.sn 1 (g' := (32, [some (.ref 69), some (.ref t0), some (.int p0), some (.int r1), none, none, none, none, none, none, none], [.int 3, .int r4], (h5, q))) rfl ?_
        refine mW.br (g1 := (35, [some (.ref 69), some (.ref t0), some (.int p0), some (.int r1), none, none, none, none, none, none, none], [], (h5, q))) (g2 := (39, [some (.ref 69), some (.ref t0), some (.int p0), some (.int r1), none, none, none, none, none, none, none], [], (h5, q))) (c := r4 = (3 : Int32)) rfl (fun hc6 => ?_) (fun hc6 => ?_)
        · rw [if_pos hc6] at hv
          refine mW.sn 4 (g' := (43, [some (.ref 69), some (.ref t0), some (.int p0), some (.int r1), some (.int 1), none, none, none, none, none, none], [.ref 69], (h5, q))) rfl ?_
          refine sW.getR rfl hs5 o69 rfl rfl ?_
          cases hr7 : p_place S with
          | none => rw [hr7] at hv; cases hv
          | some r7 =>
            rw [hr7, o_bind] at hv
            refine sW.call rfl rfl rfl rfl (hs5.rcv o67) (s108 hs5 hr7) ?_
            intro h8 hs8
            refine mW.sn 2 (g' := (52, [some (.ref 69), some (.ref t0), some (.int p0), some (.int r1), some (.int 1), some (.int r7), none, none, none, none, none], [.ref 69], (h8, q))) rfl ?_
            refine sW.getR rfl hs8 o69 rfl rfl ?_
            cases hr9 : p_size S with
            | none => rw [hr9] at hv; cases hv
            | some r9 =>
              rw [hr9, o_bind] at hv
              refine sW.call rfl rfl rfl rfl (hs8.rcv o67) (s119 hs8 hr9) ?_
              intro h10 hs10
              refine mW.sn 2 (g' := (61, [some (.ref 69), some (.ref t0), some (.int p0), some (.int r1), some (.int 1), some (.int r7), some (.int r9), none, none, none, none], [.ref 69], (h10, q))) rfl ?_
              refine sW.getR rfl hs10 o69 rfl rfl ?_
              cases hr11 : p_behind S with
              | none => rw [hr11] at hv; cases hv
              | some r11 =>
                rw [hr11, o_bind] at hv
                refine sW.call rfl rfl rfl rfl (hs10.rcv o67) (s120 hs10 hr11) ?_
                intro h12 hs12
                refine mW.sn 2 (g' := (71, [some (.ref 69), some (.ref t0), some (.int p0), some (.int r1), some (.int 1), some (.int r7), some (.int r9), some (.int r11), none, none, none], [.int 1], (h12, q))) rfl ?_
                refine mW.no (g1 := (87, [some (.ref 69), some (.ref t0), some (.int p0), some (.int r1), some (.int 1), some (.int r7), some (.int r9), some (.int r11), none, none, none], [], (h12, q))) (g2 := (74, [some (.ref 69), some (.ref t0), some (.int p0), some (.int r1), some (.int 1), some (.int r7), some (.int r9), some (.int r11), none, none, none], [], (h12, q))) (c := (1 : Int32) = 0) rfl (by decide) ?_
                refine mW.sn 2 (g' := (76, [some (.ref 69), some (.ref t0), some (.int p0), some (.int r1), some (.int 1), some (.int r7), some (.int r9), some (.int r11), none, none, none], [.int p0, .ref t0], (h12, q))) rfl ?_
                cases hr13 : t_number (tT S t0) p0 with
                | none => rw [hr13] at hv; cases hv
                | some r13 =>
                  rw [hr13, o_bind] at hv
                  refine sW.call rfl rfl rfl rfl (hs12.rcvT ht0) (sW.of hs12 (x84 (hs12.gtx ht0) hr13)) ?_
                  intro h14 hs14
                  refine mW.sn 1 (g' := (81, [some (.ref 69), some (.ref t0), some (.int p0), some (.int r1), some (.int 1), some (.int r7), some (.int r9), some (.int r11), none, none, none], [.int r9, .long r13], (h14, q))) rfl ?_
                  cases hr15 : p_fromStart S r13 r9 with
                  | none => rw [hr15] at hv; cases hv
                  | some r15 =>
                    rw [hr15, o_bind] at hv
                    refine sW.call rfl rfl rfl rfl rfl (s87 hs14 hr15) ?_
                    intro h16 hs16
                    refine mW.sn 5 (g' := (94, [some (.ref 69), some (.ref t0), some (.int p0), some (.int r1), some (.int 1), some (.int r7), some (.int r9), some (.int r11), some (.long r15), none, none], [.int (lg_cmp r15 0)], (h16, q))) rfl ?_
                    refine mW.br (g1 := (106, [some (.ref 69), some (.ref t0), some (.int p0), some (.int r1), some (.int 1), some (.int r7), some (.int r9), some (.int r11), some (.long r15), none, none], [], (h16, q))) (g2 := (97, [some (.ref 69), some (.ref t0), some (.int p0), some (.int r1), some (.int 1), some (.int r7), some (.int r9), some (.int r11), some (.long r15), none, none], [], (h16, q))) (c := (lg_cmp r15 0) < 0) rfl (fun hc17 => ?_) (fun hc17 => ?_)
                    · rw [if_pos hc17] at hv
                      refine mW.sn 1 (g' := (107, [some (.ref 69), some (.ref t0), some (.int p0), some (.int r1), some (.int 1), some (.int r7), some (.int r9), some (.int r11), some (.long r15), none, none], [.int 2], (h16, q))) rfl ?_
                      cases hv
                      exact sW.fin hs16 rfl
                    · rw [if_neg hc17] at hv
                      refine mW.sn 3 (g' := (103, [some (.ref 69), some (.ref t0), some (.int p0), some (.int r1), some (.int 1), some (.int r7), some (.int r9), some (.int r11), some (.long r15), none, none], [.int (lg_cmp r15 1000)], (h16, q))) rfl ?_
                      refine mW.br (g1 := (108, [some (.ref 69), some (.ref t0), some (.int p0), some (.int r1), some (.int 1), some (.int r7), some (.int r9), some (.int r11), some (.long r15), none, none], [], (h16, q))) (g2 := (106, [some (.ref 69), some (.ref t0), some (.int p0), some (.int r1), some (.int 1), some (.int r7), some (.int r9), some (.int r11), some (.long r15), none, none], [], (h16, q))) (c := (lg_cmp r15 1000) ≤ 0) rfl (fun hc18 => ?_) (fun hc18 => ?_)
                      · rw [if_pos hc18] at hv
                        refine mW.sn 1 (g' := (109, [some (.ref 69), some (.ref t0), some (.int p0), some (.int r1), some (.int 1), some (.int r7), some (.int r9), some (.int r11), some (.long r15), none, none], [.ref 69], (h16, q))) rfl ?_
                        refine sW.getR rfl hs16 o69 rfl rfl ?_
                        refine mW.sn 2 (g' := (114, [some (.ref 69), some (.ref t0), some (.int p0), some (.int r1), some (.int 1), some (.int r7), some (.int r9), some (.int r11), some (.long r15), none, none], [.int p0, .ref t0, .ref 67], (h16, q))) rfl ?_
                        cases hr19 : p_step S t0 p0 with
                        | none => rw [hr19] at hv; cases hv
                        | some r19 =>
                          rw [hr19, o_bind] at hv
                          refine sW.call rfl rfl rfl rfl (hs16.rcv o67) (s78 ht0 hs16 hr19) ?_
                          intro h20 hs20
                          refine mW.sn 2 (g' := (121, [some (.ref 69), some (.ref t0), some (.int p0), some (.int r1), some (.int 1), some (.int r7), some (.int r9), some (.int r11), some (.long r15), none, some (.int r19.2)], [.int r19.2], (h20, q))) rfl ?_
                          refine mW.br (g1 := (124, [some (.ref 69), some (.ref t0), some (.int p0), some (.int r1), some (.int 1), some (.int r7), some (.int r9), some (.int r11), some (.long r15), none, some (.int r19.2)], [], (h20, q))) (g2 := (134, [some (.ref 69), some (.ref t0), some (.int p0), some (.int r1), some (.int 1), some (.int r7), some (.int r9), some (.int r11), some (.long r15), none, some (.int r19.2)], [], (h20, q))) (c := r19.2 = 0) rfl (fun hc21 => ?_) (fun hc21 => ?_)
                          · rw [if_pos hc21] at hv
                            refine mW.sn 1 (g' := (125, [some (.ref 69), some (.ref t0), some (.int p0), some (.int r1), some (.int 1), some (.int r7), some (.int r9), some (.int r11), some (.long r15), none, some (.int r19.2)], [.ref 69], (h20, q))) rfl ?_
                            refine sW.getR rfl hs20 o69 rfl rfl ?_
                            cases hr22 : p_nothing r19.1 with
                            | none => rw [hr22] at hv; cases hv
                            | some r22 =>
                              rw [hr22, o_bind] at hv
                              refine sW.call rfl rfl rfl rfl (hs20.rcv o67) (s99 hs20 hr22) ?_
                              intro h23 hs23
                              refine mW.br (g1 := (134, [some (.ref 69), some (.ref t0), some (.int p0), some (.int r1), some (.int 1), some (.int r7), some (.int r9), some (.int r11), some (.long r15), none, some (.int r19.2)], [], (h23, q))) (g2 := (137, [some (.ref 69), some (.ref t0), some (.int p0), some (.int r1), some (.int 1), some (.int r7), some (.int r9), some (.int r11), some (.long r15), none, some (.int r19.2)], [], (h23, q))) (c := r22 = 0) rfl (fun hc24 => ?_) (fun hc24 => ?_)
                              · rw [if_pos hc24] at hv
                                refine mW.sn 1 (g' := (136, [some (.ref 69), some (.ref t0), some (.int p0), some (.int r1), some (.int 1), some (.int r7), some (.int r9), some (.int r11), some (.long r15), none, some (.int r19.2)], [.int r19.2], (h23, q))) rfl ?_
                                cases hv
                                exact sW.fin hs23 rfl
                              · rw [if_neg hc24] at hv
                                refine mW.sn 1 (g' := (138, [some (.ref 69), some (.ref t0), some (.int p0), some (.int r1), some (.int 1), some (.int r7), some (.int r9), some (.int r11), some (.long r15), none, some (.int r19.2)], [.ref 69], (h23, q))) rfl ?_
                                refine sW.getR rfl hs23 o69 rfl rfl ?_
                                refine mW.sn 1 (g' := (142, [some (.ref 69), some (.ref t0), some (.int p0), some (.int r1), some (.int 1), some (.int r7), some (.int r9), some (.int r11), some (.long r15), none, some (.int r19.2)], [.ref 69, .ref 70], (h23, q))) rfl ?_
                                refine sW.getT rfl hs23 o69 rfl ?_
                                refine mW.sn 3 (g' := (151, [some (.ref 69), some (.ref t0), some (.int p0), some (.int r1), some (.int 1), some (.int r7), some (.int r9), some (.int r11), some (.long r15), none, some (.int r19.2)], [.int r11, .int r11, .int r7, .ref ((rd r19.1 69 4).toNatClampNeg), .ref 70], (h23, q))) rfl ?_
                                cases hr25 : g_items r19.1 70 ((rd r19.1 69 4).toNatClampNeg) r7 r11 r11 with
                                | none => rw [hr25] at hv; cases hv
                                | some r25 =>
                                  rw [hr25, o_bind] at hv
                                  refine sW.call rfl rfl rfl rfl (hs23.rcv o70) (s121 o70 (hs23.okT o69 rfl) hs23 hr25) ?_
                                  intro h26 hs26
                                  refine mW.sn 1 (g' := (155, [some (.ref 69), some (.ref t0), some (.int p0), some (.int r1), some (.int 1), some (.int r7), some (.int r9), some (.int r11), some (.long r15), none, some (.int r19.2)], [.ref 69], (h26, q))) rfl ?_
                                  cases hr27 : u_start r25 with
                                  | none => rw [hr27] at hv; cases hv
                                  | some r27 =>
                                    rw [hr27, o_bind] at hv
                                    refine sW.call rfl rfl rfl rfl (hs26.rcv o69) (s110 hs26 hr27) ?_
                                    intro h28 hs28
                                    refine mW.sn 1 (g' := (160, [some (.ref 69), some (.ref t0), some (.int p0), some (.int r1), some (.int 1), some (.int r7), some (.int r9), some (.int r11), some (.long r15), none, some (.int r19.2)], [.int 1], (h28, q))) rfl ?_
                                    refine mW.no (g1 := (176, [some (.ref 69), some (.ref t0), some (.int p0), some (.int r1), some (.int 1), some (.int r7), some (.int r9), some (.int r11), some (.long r15), none, some (.int r19.2)], [], (h28, q))) (g2 := (163, [some (.ref 69), some (.ref t0), some (.int p0), some (.int r1), some (.int 1), some (.int r7), some (.int r9), some (.int r11), some (.long r15), none, some (.int r19.2)], [], (h28, q))) (c := (1 : Int32) = 0) rfl (by decide) ?_
                                    refine mW.sn 5 (g' := (170, [some (.ref 69), some (.ref t0), some (.int p0), some (.int r1), some (.int 1), some (.int r7), some (.int r9), some (.int r11), some (.long r15), none, some (.int r19.2)], [.int (r15.toInt32 - r9), .ref 69], (h28, q))) rfl ?_
                                    cases hr29 : u_nulls r27 (r15.toInt32 - r9) with
                                    | none => rw [hr29] at hv; cases hv
                                    | some r29 =>
                                      rw [hr29, o_bind] at hv
                                      refine sW.call rfl rfl rfl rfl (hs28.rcv o69) (s116 hs28 hr29) ?_
                                      intro h30 hs30
                                      refine mW.sn 2 (g' := (183, [some (.ref 69), some (.ref t0), some (.int p0), some (.int r1), some (.int 1), some (.int r7), some (.int r9), some (.int r11), some (.long r15), none, some (.int r19.2)], [.int 0], (h30, q))) rfl ?_
                                      cases hv
                                      exact sW.fin hs30 rfl
                          · rw [if_neg hc21] at hv
                            refine mW.sn 1 (g' := (136, [some (.ref 69), some (.ref t0), some (.int p0), some (.int r1), some (.int 1), some (.int r7), some (.int r9), some (.int r11), some (.long r15), none, some (.int r19.2)], [.int r19.2], (h20, q))) rfl ?_
                            cases hv
                            exact sW.fin hs20 rfl
                      · rw [if_neg hc18] at hv
                        refine mW.sn 1 (g' := (107, [some (.ref 69), some (.ref t0), some (.int p0), some (.int r1), some (.int 1), some (.int r7), some (.int r9), some (.int r11), some (.long r15), none, none], [.int 2], (h16, q))) rfl ?_
                        cases hv
                        exact sW.fin hs16 rfl
        · rw [if_neg hc6] at hv
          refine mW.sn 3 (g' := (43, [some (.ref 69), some (.ref t0), some (.int p0), some (.int r1), some (.int 0), none, none, none, none, none, none], [.ref 69], (h5, q))) rfl ?_
          refine sW.getR rfl hs5 o69 rfl rfl ?_
          cases hr31 : p_place S with
          | none => rw [hr31] at hv; cases hv
          | some r31 =>
            rw [hr31, o_bind] at hv
            refine sW.call rfl rfl rfl rfl (hs5.rcv o67) (s108 hs5 hr31) ?_
            intro h32 hs32
            refine mW.sn 2 (g' := (52, [some (.ref 69), some (.ref t0), some (.int p0), some (.int r1), some (.int 0), some (.int r31), none, none, none, none, none], [.ref 69], (h32, q))) rfl ?_
            refine sW.getR rfl hs32 o69 rfl rfl ?_
            cases hr33 : p_size S with
            | none => rw [hr33] at hv; cases hv
            | some r33 =>
              rw [hr33, o_bind] at hv
              refine sW.call rfl rfl rfl rfl (hs32.rcv o67) (s119 hs32 hr33) ?_
              intro h34 hs34
              refine mW.sn 2 (g' := (61, [some (.ref 69), some (.ref t0), some (.int p0), some (.int r1), some (.int 0), some (.int r31), some (.int r33), none, none, none, none], [.ref 69], (h34, q))) rfl ?_
              refine sW.getR rfl hs34 o69 rfl rfl ?_
              cases hr35 : p_behind S with
              | none => rw [hr35] at hv; cases hv
              | some r35 =>
                rw [hr35, o_bind] at hv
                refine sW.call rfl rfl rfl rfl (hs34.rcv o67) (s120 hs34 hr35) ?_
                intro h36 hs36
                refine mW.sn 2 (g' := (71, [some (.ref 69), some (.ref t0), some (.int p0), some (.int r1), some (.int 0), some (.int r31), some (.int r33), some (.int r35), none, none, none], [.int 0], (h36, q))) rfl ?_
                refine mW.yes (g1 := (87, [some (.ref 69), some (.ref t0), some (.int p0), some (.int r1), some (.int 0), some (.int r31), some (.int r33), some (.int r35), none, none, none], [], (h36, q))) (g2 := (74, [some (.ref 69), some (.ref t0), some (.int p0), some (.int r1), some (.int 0), some (.int r31), some (.int r33), some (.int r35), none, none, none], [], (h36, q))) (c := (0 : Int32) = 0) rfl (by decide) ?_
                refine mW.sn 5 (g' := (94, [some (.ref 69), some (.ref t0), some (.int p0), some (.int r1), some (.int 0), some (.int r31), some (.int r33), some (.int r35), some (.long 0), none, none], [.int (lg_cmp 0 0)], (h36, q))) rfl ?_
                refine mW.br (g1 := (106, [some (.ref 69), some (.ref t0), some (.int p0), some (.int r1), some (.int 0), some (.int r31), some (.int r33), some (.int r35), some (.long 0), none, none], [], (h36, q))) (g2 := (97, [some (.ref 69), some (.ref t0), some (.int p0), some (.int r1), some (.int 0), some (.int r31), some (.int r33), some (.int r35), some (.long 0), none, none], [], (h36, q))) (c := (lg_cmp 0 0) < 0) rfl (fun hc37 => ?_) (fun hc37 => ?_)
                · rw [if_pos hc37] at hv
                  refine mW.sn 1 (g' := (107, [some (.ref 69), some (.ref t0), some (.int p0), some (.int r1), some (.int 0), some (.int r31), some (.int r33), some (.int r35), some (.long 0), none, none], [.int 2], (h36, q))) rfl ?_
                  cases hv
                  exact sW.fin hs36 rfl
                · rw [if_neg hc37] at hv
                  refine mW.sn 3 (g' := (103, [some (.ref 69), some (.ref t0), some (.int p0), some (.int r1), some (.int 0), some (.int r31), some (.int r33), some (.int r35), some (.long 0), none, none], [.int (lg_cmp 0 1000)], (h36, q))) rfl ?_
                  refine mW.br (g1 := (108, [some (.ref 69), some (.ref t0), some (.int p0), some (.int r1), some (.int 0), some (.int r31), some (.int r33), some (.int r35), some (.long 0), none, none], [], (h36, q))) (g2 := (106, [some (.ref 69), some (.ref t0), some (.int p0), some (.int r1), some (.int 0), some (.int r31), some (.int r33), some (.int r35), some (.long 0), none, none], [], (h36, q))) (c := (lg_cmp 0 1000) ≤ 0) rfl (fun hc38 => ?_) (fun hc38 => ?_)
                  · rw [if_pos hc38] at hv
                    refine mW.sn 1 (g' := (109, [some (.ref 69), some (.ref t0), some (.int p0), some (.int r1), some (.int 0), some (.int r31), some (.int r33), some (.int r35), some (.long 0), none, none], [.ref 69], (h36, q))) rfl ?_
                    refine sW.getR rfl hs36 o69 rfl rfl ?_
                    refine mW.sn 2 (g' := (114, [some (.ref 69), some (.ref t0), some (.int p0), some (.int r1), some (.int 0), some (.int r31), some (.int r33), some (.int r35), some (.long 0), none, none], [.int p0, .ref t0, .ref 67], (h36, q))) rfl ?_
                    cases hr39 : p_step S t0 p0 with
                    | none => rw [hr39] at hv; cases hv
                    | some r39 =>
                      rw [hr39, o_bind] at hv
                      refine sW.call rfl rfl rfl rfl (hs36.rcv o67) (s78 ht0 hs36 hr39) ?_
                      intro h40 hs40
                      refine mW.sn 2 (g' := (121, [some (.ref 69), some (.ref t0), some (.int p0), some (.int r1), some (.int 0), some (.int r31), some (.int r33), some (.int r35), some (.long 0), none, some (.int r39.2)], [.int r39.2], (h40, q))) rfl ?_
                      refine mW.br (g1 := (124, [some (.ref 69), some (.ref t0), some (.int p0), some (.int r1), some (.int 0), some (.int r31), some (.int r33), some (.int r35), some (.long 0), none, some (.int r39.2)], [], (h40, q))) (g2 := (134, [some (.ref 69), some (.ref t0), some (.int p0), some (.int r1), some (.int 0), some (.int r31), some (.int r33), some (.int r35), some (.long 0), none, some (.int r39.2)], [], (h40, q))) (c := r39.2 = 0) rfl (fun hc41 => ?_) (fun hc41 => ?_)
                      · rw [if_pos hc41] at hv
                        refine mW.sn 1 (g' := (125, [some (.ref 69), some (.ref t0), some (.int p0), some (.int r1), some (.int 0), some (.int r31), some (.int r33), some (.int r35), some (.long 0), none, some (.int r39.2)], [.ref 69], (h40, q))) rfl ?_
                        refine sW.getR rfl hs40 o69 rfl rfl ?_
                        cases hr42 : p_nothing r39.1 with
                        | none => rw [hr42] at hv; cases hv
                        | some r42 =>
                          rw [hr42, o_bind] at hv
                          refine sW.call rfl rfl rfl rfl (hs40.rcv o67) (s99 hs40 hr42) ?_
                          intro h43 hs43
                          refine mW.br (g1 := (134, [some (.ref 69), some (.ref t0), some (.int p0), some (.int r1), some (.int 0), some (.int r31), some (.int r33), some (.int r35), some (.long 0), none, some (.int r39.2)], [], (h43, q))) (g2 := (137, [some (.ref 69), some (.ref t0), some (.int p0), some (.int r1), some (.int 0), some (.int r31), some (.int r33), some (.int r35), some (.long 0), none, some (.int r39.2)], [], (h43, q))) (c := r42 = 0) rfl (fun hc44 => ?_) (fun hc44 => ?_)
                          · rw [if_pos hc44] at hv
                            refine mW.sn 1 (g' := (136, [some (.ref 69), some (.ref t0), some (.int p0), some (.int r1), some (.int 0), some (.int r31), some (.int r33), some (.int r35), some (.long 0), none, some (.int r39.2)], [.int r39.2], (h43, q))) rfl ?_
                            cases hv
                            exact sW.fin hs43 rfl
                          · rw [if_neg hc44] at hv
                            refine mW.sn 1 (g' := (138, [some (.ref 69), some (.ref t0), some (.int p0), some (.int r1), some (.int 0), some (.int r31), some (.int r33), some (.int r35), some (.long 0), none, some (.int r39.2)], [.ref 69], (h43, q))) rfl ?_
                            refine sW.getR rfl hs43 o69 rfl rfl ?_
                            refine mW.sn 1 (g' := (142, [some (.ref 69), some (.ref t0), some (.int p0), some (.int r1), some (.int 0), some (.int r31), some (.int r33), some (.int r35), some (.long 0), none, some (.int r39.2)], [.ref 69, .ref 70], (h43, q))) rfl ?_
                            refine sW.getT rfl hs43 o69 rfl ?_
                            refine mW.sn 3 (g' := (151, [some (.ref 69), some (.ref t0), some (.int p0), some (.int r1), some (.int 0), some (.int r31), some (.int r33), some (.int r35), some (.long 0), none, some (.int r39.2)], [.int r35, .int r35, .int r31, .ref ((rd r39.1 69 4).toNatClampNeg), .ref 70], (h43, q))) rfl ?_
                            cases hr45 : g_items r39.1 70 ((rd r39.1 69 4).toNatClampNeg) r31 r35 r35 with
                            | none => rw [hr45] at hv; cases hv
                            | some r45 =>
                              rw [hr45, o_bind] at hv
                              refine sW.call rfl rfl rfl rfl (hs43.rcv o70) (s121 o70 (hs43.okT o69 rfl) hs43 hr45) ?_
                              intro h46 hs46
                              refine mW.sn 1 (g' := (155, [some (.ref 69), some (.ref t0), some (.int p0), some (.int r1), some (.int 0), some (.int r31), some (.int r33), some (.int r35), some (.long 0), none, some (.int r39.2)], [.ref 69], (h46, q))) rfl ?_
                              cases hr47 : u_start r45 with
                              | none => rw [hr47] at hv; cases hv
                              | some r47 =>
                                rw [hr47, o_bind] at hv
                                refine sW.call rfl rfl rfl rfl (hs46.rcv o69) (s110 hs46 hr47) ?_
                                intro h48 hs48
                                refine mW.sn 1 (g' := (160, [some (.ref 69), some (.ref t0), some (.int p0), some (.int r1), some (.int 0), some (.int r31), some (.int r33), some (.int r35), some (.long 0), none, some (.int r39.2)], [.int 0], (h48, q))) rfl ?_
                                refine mW.yes (g1 := (176, [some (.ref 69), some (.ref t0), some (.int p0), some (.int r1), some (.int 0), some (.int r31), some (.int r33), some (.int r35), some (.long 0), none, some (.int r39.2)], [], (h48, q))) (g2 := (163, [some (.ref 69), some (.ref t0), some (.int p0), some (.int r1), some (.int 0), some (.int r31), some (.int r33), some (.int r35), some (.long 0), none, some (.int r39.2)], [], (h48, q))) (c := (0 : Int32) = 0) rfl (by decide) ?_
                                refine mW.sn 3 (g' := (179, [some (.ref 69), some (.ref t0), some (.int p0), some (.int r1), some (.int 0), some (.int r31), some (.int r33), some (.int r35), some (.long 0), none, some (.int r39.2)], [.int p0, .ref t0, .ref 69], (h48, q))) rfl ?_
                                cases hr49 : u_name r47 t0 p0 with
                                | none => rw [hr49] at hv; cases hv
                                | some r49 =>
                                  rw [hr49, o_bind] at hv
                                  refine sW.call rfl rfl rfl rfl (hs48.rcv o69) (s115 ht0 hs48 hr49) ?_
                                  intro h50 hs50
                                  refine mW.sn 1 (g' := (183, [some (.ref 69), some (.ref t0), some (.int p0), some (.int r1), some (.int 0), some (.int r31), some (.int r33), some (.int r35), some (.long 0), none, some (.int r39.2)], [.int 0], (h50, q))) rfl ?_
                                  cases hv
                                  exact sW.fin hs50 rfl
                      · rw [if_neg hc41] at hv
                        refine mW.sn 1 (g' := (136, [some (.ref 69), some (.ref t0), some (.int p0), some (.int r1), some (.int 0), some (.int r31), some (.int r33), some (.int r35), some (.long 0), none, some (.int r39.2)], [.int r39.2], (h40, q))) rfl ?_
                        cases hv
                        exact sW.fin hs40 rfl
                  · rw [if_neg hc38] at hv
                    refine mW.sn 1 (g' := (107, [some (.ref 69), some (.ref t0), some (.int p0), some (.int r1), some (.int 0), some (.int r31), some (.int r33), some (.int r35), some (.long 0), none, none], [.int 2], (h36, q))) rfl ?_
                    cases hv
                    exact sW.fin hs36 rfl
    · rw [if_neg hc3] at hv
      refine mW.sn 2 (g' := (16, [some (.ref 69), some (.ref t0), some (.int p0), some (.int r1), none, none, none, none, none, none, none], [.int 6, .int r1], (h2, q))) rfl ?_
      refine mW.br (g1 := (21, [some (.ref 69), some (.ref t0), some (.int p0), some (.int r1), none, none, none, none, none, none, none], [], (h2, q))) (g2 := (19, [some (.ref 69), some (.ref t0), some (.int p0), some (.int r1), none, none, none, none, none, none, none], [], (h2, q))) (c := r1 = (6 : Int32)) rfl (fun hc51 => ?_) (fun hc51 => ?_)
      · rw [if_pos hc51] at hv
        refine mW.sn 2 (g' := (23, [some (.ref 69), some (.ref t0), some (.int p0), some (.int r1), none, none, none, none, none, none, none], [.int 5, .int r1], (h2, q))) rfl ?_
        refine mW.no (g1 := (26, [some (.ref 69), some (.ref t0), some (.int p0), some (.int r1), none, none, none, none, none, none, none], [], (h2, q))) (g2 := (39, [some (.ref 69), some (.ref t0), some (.int p0), some (.int r1), none, none, none, none, none, none, none], [], (h2, q))) (c := r1 = (5 : Int32)) rfl hc3 ?_
        refine mW.sn 3 (g' := (43, [some (.ref 69), some (.ref t0), some (.int p0), some (.int r1), some (.int 0), none, none, none, none, none, none], [.ref 69], (h2, q))) rfl ?_
        refine sW.getR rfl hs2 o69 rfl rfl ?_
        cases hr52 : p_place S with
        | none => rw [hr52] at hv; cases hv
        | some r52 =>
          rw [hr52, o_bind] at hv
          refine sW.call rfl rfl rfl rfl (hs2.rcv o67) (s108 hs2 hr52) ?_
          intro h53 hs53
          refine mW.sn 2 (g' := (52, [some (.ref 69), some (.ref t0), some (.int p0), some (.int r1), some (.int 0), some (.int r52), none, none, none, none, none], [.ref 69], (h53, q))) rfl ?_
          refine sW.getR rfl hs53 o69 rfl rfl ?_
          cases hr54 : p_size S with
          | none => rw [hr54] at hv; cases hv
          | some r54 =>
            rw [hr54, o_bind] at hv
            refine sW.call rfl rfl rfl rfl (hs53.rcv o67) (s119 hs53 hr54) ?_
            intro h55 hs55
            refine mW.sn 2 (g' := (61, [some (.ref 69), some (.ref t0), some (.int p0), some (.int r1), some (.int 0), some (.int r52), some (.int r54), none, none, none, none], [.ref 69], (h55, q))) rfl ?_
            refine sW.getR rfl hs55 o69 rfl rfl ?_
            cases hr56 : p_behind S with
            | none => rw [hr56] at hv; cases hv
            | some r56 =>
              rw [hr56, o_bind] at hv
              refine sW.call rfl rfl rfl rfl (hs55.rcv o67) (s120 hs55 hr56) ?_
              intro h57 hs57
              refine mW.sn 2 (g' := (71, [some (.ref 69), some (.ref t0), some (.int p0), some (.int r1), some (.int 0), some (.int r52), some (.int r54), some (.int r56), none, none, none], [.int 0], (h57, q))) rfl ?_
              refine mW.yes (g1 := (87, [some (.ref 69), some (.ref t0), some (.int p0), some (.int r1), some (.int 0), some (.int r52), some (.int r54), some (.int r56), none, none, none], [], (h57, q))) (g2 := (74, [some (.ref 69), some (.ref t0), some (.int p0), some (.int r1), some (.int 0), some (.int r52), some (.int r54), some (.int r56), none, none, none], [], (h57, q))) (c := (0 : Int32) = 0) rfl (by decide) ?_
              refine mW.sn 5 (g' := (94, [some (.ref 69), some (.ref t0), some (.int p0), some (.int r1), some (.int 0), some (.int r52), some (.int r54), some (.int r56), some (.long 0), none, none], [.int (lg_cmp 0 0)], (h57, q))) rfl ?_
              refine mW.br (g1 := (106, [some (.ref 69), some (.ref t0), some (.int p0), some (.int r1), some (.int 0), some (.int r52), some (.int r54), some (.int r56), some (.long 0), none, none], [], (h57, q))) (g2 := (97, [some (.ref 69), some (.ref t0), some (.int p0), some (.int r1), some (.int 0), some (.int r52), some (.int r54), some (.int r56), some (.long 0), none, none], [], (h57, q))) (c := (lg_cmp 0 0) < 0) rfl (fun hc58 => ?_) (fun hc58 => ?_)
              · rw [if_pos hc58] at hv
                refine mW.sn 1 (g' := (107, [some (.ref 69), some (.ref t0), some (.int p0), some (.int r1), some (.int 0), some (.int r52), some (.int r54), some (.int r56), some (.long 0), none, none], [.int 2], (h57, q))) rfl ?_
                cases hv
                exact sW.fin hs57 rfl
              · rw [if_neg hc58] at hv
                refine mW.sn 3 (g' := (103, [some (.ref 69), some (.ref t0), some (.int p0), some (.int r1), some (.int 0), some (.int r52), some (.int r54), some (.int r56), some (.long 0), none, none], [.int (lg_cmp 0 1000)], (h57, q))) rfl ?_
                refine mW.br (g1 := (108, [some (.ref 69), some (.ref t0), some (.int p0), some (.int r1), some (.int 0), some (.int r52), some (.int r54), some (.int r56), some (.long 0), none, none], [], (h57, q))) (g2 := (106, [some (.ref 69), some (.ref t0), some (.int p0), some (.int r1), some (.int 0), some (.int r52), some (.int r54), some (.int r56), some (.long 0), none, none], [], (h57, q))) (c := (lg_cmp 0 1000) ≤ 0) rfl (fun hc59 => ?_) (fun hc59 => ?_)
                · rw [if_pos hc59] at hv
                  refine mW.sn 1 (g' := (109, [some (.ref 69), some (.ref t0), some (.int p0), some (.int r1), some (.int 0), some (.int r52), some (.int r54), some (.int r56), some (.long 0), none, none], [.ref 69], (h57, q))) rfl ?_
                  refine sW.getR rfl hs57 o69 rfl rfl ?_
                  refine mW.sn 2 (g' := (114, [some (.ref 69), some (.ref t0), some (.int p0), some (.int r1), some (.int 0), some (.int r52), some (.int r54), some (.int r56), some (.long 0), none, none], [.int p0, .ref t0, .ref 67], (h57, q))) rfl ?_
                  cases hr60 : p_step S t0 p0 with
                  | none => rw [hr60] at hv; cases hv
                  | some r60 =>
                    rw [hr60, o_bind] at hv
                    refine sW.call rfl rfl rfl rfl (hs57.rcv o67) (s78 ht0 hs57 hr60) ?_
                    intro h61 hs61
                    refine mW.sn 2 (g' := (121, [some (.ref 69), some (.ref t0), some (.int p0), some (.int r1), some (.int 0), some (.int r52), some (.int r54), some (.int r56), some (.long 0), none, some (.int r60.2)], [.int r60.2], (h61, q))) rfl ?_
                    refine mW.br (g1 := (124, [some (.ref 69), some (.ref t0), some (.int p0), some (.int r1), some (.int 0), some (.int r52), some (.int r54), some (.int r56), some (.long 0), none, some (.int r60.2)], [], (h61, q))) (g2 := (134, [some (.ref 69), some (.ref t0), some (.int p0), some (.int r1), some (.int 0), some (.int r52), some (.int r54), some (.int r56), some (.long 0), none, some (.int r60.2)], [], (h61, q))) (c := r60.2 = 0) rfl (fun hc62 => ?_) (fun hc62 => ?_)
                    · rw [if_pos hc62] at hv
                      refine mW.sn 1 (g' := (125, [some (.ref 69), some (.ref t0), some (.int p0), some (.int r1), some (.int 0), some (.int r52), some (.int r54), some (.int r56), some (.long 0), none, some (.int r60.2)], [.ref 69], (h61, q))) rfl ?_
                      refine sW.getR rfl hs61 o69 rfl rfl ?_
                      cases hr63 : p_nothing r60.1 with
                      | none => rw [hr63] at hv; cases hv
                      | some r63 =>
                        rw [hr63, o_bind] at hv
                        refine sW.call rfl rfl rfl rfl (hs61.rcv o67) (s99 hs61 hr63) ?_
                        intro h64 hs64
                        refine mW.br (g1 := (134, [some (.ref 69), some (.ref t0), some (.int p0), some (.int r1), some (.int 0), some (.int r52), some (.int r54), some (.int r56), some (.long 0), none, some (.int r60.2)], [], (h64, q))) (g2 := (137, [some (.ref 69), some (.ref t0), some (.int p0), some (.int r1), some (.int 0), some (.int r52), some (.int r54), some (.int r56), some (.long 0), none, some (.int r60.2)], [], (h64, q))) (c := r63 = 0) rfl (fun hc65 => ?_) (fun hc65 => ?_)
                        · rw [if_pos hc65] at hv
                          refine mW.sn 1 (g' := (136, [some (.ref 69), some (.ref t0), some (.int p0), some (.int r1), some (.int 0), some (.int r52), some (.int r54), some (.int r56), some (.long 0), none, some (.int r60.2)], [.int r60.2], (h64, q))) rfl ?_
                          cases hv
                          exact sW.fin hs64 rfl
                        · rw [if_neg hc65] at hv
                          refine mW.sn 1 (g' := (138, [some (.ref 69), some (.ref t0), some (.int p0), some (.int r1), some (.int 0), some (.int r52), some (.int r54), some (.int r56), some (.long 0), none, some (.int r60.2)], [.ref 69], (h64, q))) rfl ?_
                          refine sW.getR rfl hs64 o69 rfl rfl ?_
                          refine mW.sn 1 (g' := (142, [some (.ref 69), some (.ref t0), some (.int p0), some (.int r1), some (.int 0), some (.int r52), some (.int r54), some (.int r56), some (.long 0), none, some (.int r60.2)], [.ref 69, .ref 70], (h64, q))) rfl ?_
                          refine sW.getT rfl hs64 o69 rfl ?_
                          refine mW.sn 3 (g' := (151, [some (.ref 69), some (.ref t0), some (.int p0), some (.int r1), some (.int 0), some (.int r52), some (.int r54), some (.int r56), some (.long 0), none, some (.int r60.2)], [.int r56, .int r56, .int r52, .ref ((rd r60.1 69 4).toNatClampNeg), .ref 70], (h64, q))) rfl ?_
                          cases hr66 : g_items r60.1 70 ((rd r60.1 69 4).toNatClampNeg) r52 r56 r56 with
                          | none => rw [hr66] at hv; cases hv
                          | some r66 =>
                            rw [hr66, o_bind] at hv
                            refine sW.call rfl rfl rfl rfl (hs64.rcv o70) (s121 o70 (hs64.okT o69 rfl) hs64 hr66) ?_
                            intro h67 hs67
                            refine mW.sn 1 (g' := (155, [some (.ref 69), some (.ref t0), some (.int p0), some (.int r1), some (.int 0), some (.int r52), some (.int r54), some (.int r56), some (.long 0), none, some (.int r60.2)], [.ref 69], (h67, q))) rfl ?_
                            cases hr68 : u_start r66 with
                            | none => rw [hr68] at hv; cases hv
                            | some r68 =>
                              rw [hr68, o_bind] at hv
                              refine sW.call rfl rfl rfl rfl (hs67.rcv o69) (s110 hs67 hr68) ?_
                              intro h69 hs69
                              refine mW.sn 1 (g' := (160, [some (.ref 69), some (.ref t0), some (.int p0), some (.int r1), some (.int 0), some (.int r52), some (.int r54), some (.int r56), some (.long 0), none, some (.int r60.2)], [.int 0], (h69, q))) rfl ?_
                              refine mW.yes (g1 := (176, [some (.ref 69), some (.ref t0), some (.int p0), some (.int r1), some (.int 0), some (.int r52), some (.int r54), some (.int r56), some (.long 0), none, some (.int r60.2)], [], (h69, q))) (g2 := (163, [some (.ref 69), some (.ref t0), some (.int p0), some (.int r1), some (.int 0), some (.int r52), some (.int r54), some (.int r56), some (.long 0), none, some (.int r60.2)], [], (h69, q))) (c := (0 : Int32) = 0) rfl (by decide) ?_
                              refine mW.sn 3 (g' := (179, [some (.ref 69), some (.ref t0), some (.int p0), some (.int r1), some (.int 0), some (.int r52), some (.int r54), some (.int r56), some (.long 0), none, some (.int r60.2)], [.int p0, .ref t0, .ref 69], (h69, q))) rfl ?_
                              cases hr70 : u_name r68 t0 p0 with
                              | none => rw [hr70] at hv; cases hv
                              | some r70 =>
                                rw [hr70, o_bind] at hv
                                refine sW.call rfl rfl rfl rfl (hs69.rcv o69) (s115 ht0 hs69 hr70) ?_
                                intro h71 hs71
                                refine mW.sn 1 (g' := (183, [some (.ref 69), some (.ref t0), some (.int p0), some (.int r1), some (.int 0), some (.int r52), some (.int r54), some (.int r56), some (.long 0), none, some (.int r60.2)], [.int 0], (h71, q))) rfl ?_
                                cases hv
                                exact sW.fin hs71 rfl
                    · rw [if_neg hc62] at hv
                      refine mW.sn 1 (g' := (136, [some (.ref 69), some (.ref t0), some (.int p0), some (.int r1), some (.int 0), some (.int r52), some (.int r54), some (.int r56), some (.long 0), none, some (.int r60.2)], [.int r60.2], (h61, q))) rfl ?_
                      cases hv
                      exact sW.fin hs61 rfl
                · rw [if_neg hc59] at hv
                  refine mW.sn 1 (g' := (107, [some (.ref 69), some (.ref t0), some (.int p0), some (.int r1), some (.int 0), some (.int r52), some (.int r54), some (.int r56), some (.long 0), none, none], [.int 2], (h57, q))) rfl ?_
                  cases hv
                  exact sW.fin hs57 rfl
      · rw [if_neg hc51] at hv
        refine mW.sn 1 (g' := (20, [some (.ref 69), some (.ref t0), some (.int p0), some (.int r1), none, none, none, none, none, none, none], [.int 1], (h2, q))) rfl ?_
        cases hv
        exact sW.fin hs2 rfl
def u_grow (S : SS) (t0 : Nat) (p0 : Int32) : Option (SS × Int32) := ((t_kind (tT S t0) p0).bind fun r1 => (if r1 = (3 : Int32) then ((t_number (tT S t0) p0).bind fun r4 => (if (lg_cmp r4 0) < 0 then some (S, 2) else (if (lg_cmp r4 1000) ≤ 0 then ((u_open S 91 93).bind fun r8 => ((u_nulls r8 r4.toInt32).bind fun r10 => some (r10, 0))) else some (S, 2)))) else (if r1 = (4 : Int32) then (if (rd S 69 8) = 0 then (if (rd S 69 7) = 0 then ((u_open (wr S 69 8 0) 123 125).bind fun r16 => ((u_name r16 t0 p0).bind fun r18 => some (r18, 0))) else ((u_open (wr S 69 8 1) 123 125).bind fun r21 => ((u_name r21 t0 p0).bind fun r23 => some (r23, 0)))) else ((u_open (wr S 69 8 1) 123 125).bind fun r26 => ((u_name r26 t0 p0).bind fun r28 => some (r28, 0)))) else (if r1 = (6 : Int32) then ((p_hasBounds (wr S 69 7 1) t0 p0).bind fun r32 => (if r32 = 0 then some (wr S 69 7 1, 1) else some (wr S 69 7 1, 0))) else some (S, 1)))))
theorem s113 {S : SS} {t0 : Nat} (ht0 : t0 ∈ shT) {p0 : Int32} {v : SS × Int32} (hs : cs h S) (hv : u_grow S t0 p0 = some v) : mW (d + 7) mm113 (0, [some (.ref 69), some (.ref t0), some (.int p0), none, none], [], (h, q)) (mQ q v.1 (some (.int v.2))) := by
  unfold u_grow at hv
  refine mW.sn 2 (g' := (2, [some (.ref 69), some (.ref t0), some (.int p0), none, none], [.int p0, .ref t0], (h, q))) rfl ?_
  cases hr1 : t_kind (tT S t0) p0 with
  | none => rw [hr1] at hv; cases hv
  | some r1 =>
    rw [hr1, o_bind] at hv
    refine sW.call rfl rfl rfl rfl (hs.rcvT ht0) (sW.of hs (x70 (hs.gtx ht0) hr1)) ?_
    intro h2 hs2
    by_cases hc3 : r1 = (3 : Int32)
    · rw [if_pos hc3] at hv
      refine mW.sn 1 (g' := (75, [some (.ref 69), some (.ref t0), some (.int p0), none, none], [], (h2, q))) (by rw [hc3]; rfl) ?_
      refine mW.sn 2 (g' := (77, [some (.ref 69), some (.ref t0), some (.int p0), none, none], [.int p0, .ref t0], (h2, q))) rfl ?_
      cases hr4 : t_number (tT S t0) p0 with
      | none => rw [hr4] at hv; cases hv
      | some r4 =>
        rw [hr4, o_bind] at hv
        refine sW.call rfl rfl rfl rfl (hs2.rcvT ht0) (sW.of hs2 (x84 (hs2.gtx ht0) hr4)) ?_
        intro h5 hs5
        refine mW.sn 4 (g' := (84, [some (.ref 69), some (.ref t0), some (.int p0), some (.long r4), none], [.int (lg_cmp r4 0)], (h5, q))) rfl ?_
        refine mW.br (g1 := (95, [some (.ref 69), some (.ref t0), some (.int p0), some (.long r4), none], [], (h5, q))) (g2 := (87, [some (.ref 69), some (.ref t0), some (.int p0), some (.long r4), none], [], (h5, q))) (c := (lg_cmp r4 0) < 0) rfl (fun hc6 => ?_) (fun hc6 => ?_)
        · rw [if_pos hc6] at hv
          refine mW.sn 1 (g' := (96, [some (.ref 69), some (.ref t0), some (.int p0), some (.long r4), none], [.int 2], (h5, q))) rfl ?_
          cases hv
          exact sW.fin hs5 rfl
        · rw [if_neg hc6] at hv
          refine mW.sn 3 (g' := (92, [some (.ref 69), some (.ref t0), some (.int p0), some (.long r4), none], [.int (lg_cmp r4 1000)], (h5, q))) rfl ?_
          refine mW.br (g1 := (97, [some (.ref 69), some (.ref t0), some (.int p0), some (.long r4), none], [], (h5, q))) (g2 := (95, [some (.ref 69), some (.ref t0), some (.int p0), some (.long r4), none], [], (h5, q))) (c := (lg_cmp r4 1000) ≤ 0) rfl (fun hc7 => ?_) (fun hc7 => ?_)
          · rw [if_pos hc7] at hv
            refine mW.sn 3 (g' := (102, [some (.ref 69), some (.ref t0), some (.int p0), some (.long r4), none], [.int 93, .int 91, .ref 69], (h5, q))) rfl ?_
            cases hr8 : u_open S 91 93 with
            | none => rw [hr8] at hv; cases hv
            | some r8 =>
              rw [hr8, o_bind] at hv
              refine sW.call rfl rfl rfl rfl (hs5.rcv o69) (s114 hs5 hr8) ?_
              intro h9 hs9
              refine mW.sn 3 (g' := (108, [some (.ref 69), some (.ref t0), some (.int p0), some (.long r4), none], [.int r4.toInt32, .ref 69], (h9, q))) rfl ?_
              cases hr10 : u_nulls r8 r4.toInt32 with
              | none => rw [hr10] at hv; cases hv
              | some r10 =>
                rw [hr10, o_bind] at hv
                refine sW.call rfl rfl rfl rfl (hs9.rcv o69) (s116 hs9 hr10) ?_
                intro h11 hs11
                refine mW.sn 1 (g' := (112, [some (.ref 69), some (.ref t0), some (.int p0), some (.long r4), none], [.int 0], (h11, q))) rfl ?_
                cases hv
                exact sW.fin hs11 rfl
          · rw [if_neg hc7] at hv
            refine mW.sn 1 (g' := (96, [some (.ref 69), some (.ref t0), some (.int p0), some (.long r4), none], [.int 2], (h5, q))) rfl ?_
            cases hv
            exact sW.fin hs5 rfl
    rw [if_neg hc3] at hv
    by_cases hc12 : r1 = (4 : Int32)
    · rw [if_pos hc12] at hv
      refine mW.sn 1 (g' := (36, [some (.ref 69), some (.ref t0), some (.int p0), none, none], [], (h2, q))) (by rw [hc12]; rfl) ?_
      refine mW.sn 2 (g' := (38, [some (.ref 69), some (.ref t0), some (.int p0), none, none], [.ref 69, .ref 69], (h2, q))) rfl ?_
      refine sW.getI rfl hs2 o69 rfl rfl ?_
      refine mW.br (g1 := (44, [some (.ref 69), some (.ref t0), some (.int p0), none, none], [.ref 69], (h2, q))) (g2 := (51, [some (.ref 69), some (.ref t0), some (.int p0), none, none], [.ref 69], (h2, q))) (c := (rd S 69 8) = 0) rfl (fun hc13 => ?_) (fun hc13 => ?_)
      · rw [if_pos hc13] at hv
        refine mW.sn 1 (g' := (45, [some (.ref 69), some (.ref t0), some (.int p0), none, none], [.ref 69, .ref 69], (h2, q))) rfl ?_
        refine sW.getI rfl hs2 o69 rfl rfl ?_
        refine mW.br (g1 := (55, [some (.ref 69), some (.ref t0), some (.int p0), none, none], [.ref 69], (h2, q))) (g2 := (51, [some (.ref 69), some (.ref t0), some (.int p0), none, none], [.ref 69], (h2, q))) (c := (rd S 69 7) = 0) rfl (fun hc14 => ?_) (fun hc14 => ?_)
        · rw [if_pos hc14] at hv
          refine mW.sn 1 (g' := (56, [some (.ref 69), some (.ref t0), some (.int p0), none, none], [.int 0, .ref 69], (h2, q))) rfl ?_
          refine sW.putZ rfl hs2 o69 rfl (by decide) ?_
          intro h15 hs15
          refine mW.sn 3 (g' := (64, [some (.ref 69), some (.ref t0), some (.int p0), none, none], [.int 125, .int 123, .ref 69], (h15, q))) rfl ?_
          cases hr16 : u_open (wr S 69 8 0) 123 125 with
          | none => rw [hr16] at hv; cases hv
          | some r16 =>
            rw [hr16, o_bind] at hv
            refine sW.call rfl rfl rfl rfl (hs15.rcv o69) (s114 hs15 hr16) ?_
            intro h17 hs17
            refine mW.sn 3 (g' := (70, [some (.ref 69), some (.ref t0), some (.int p0), none, none], [.int p0, .ref t0, .ref 69], (h17, q))) rfl ?_
            cases hr18 : u_name r16 t0 p0 with
            | none => rw [hr18] at hv; cases hv
            | some r18 =>
              rw [hr18, o_bind] at hv
              refine sW.call rfl rfl rfl rfl (hs17.rcv o69) (s115 ht0 hs17 hr18) ?_
              intro h19 hs19
              refine mW.sn 1 (g' := (74, [some (.ref 69), some (.ref t0), some (.int p0), none, none], [.int 0], (h19, q))) rfl ?_
              cases hv
              exact sW.fin hs19 rfl
        · rw [if_neg hc14] at hv
          refine mW.sn 2 (g' := (56, [some (.ref 69), some (.ref t0), some (.int p0), none, none], [.int 1, .ref 69], (h2, q))) rfl ?_
          refine sW.putZ rfl hs2 o69 rfl (by decide) ?_
          intro h20 hs20
          refine mW.sn 3 (g' := (64, [some (.ref 69), some (.ref t0), some (.int p0), none, none], [.int 125, .int 123, .ref 69], (h20, q))) rfl ?_
          cases hr21 : u_open (wr S 69 8 1) 123 125 with
          | none => rw [hr21] at hv; cases hv
          | some r21 =>
            rw [hr21, o_bind] at hv
            refine sW.call rfl rfl rfl rfl (hs20.rcv o69) (s114 hs20 hr21) ?_
            intro h22 hs22
            refine mW.sn 3 (g' := (70, [some (.ref 69), some (.ref t0), some (.int p0), none, none], [.int p0, .ref t0, .ref 69], (h22, q))) rfl ?_
            cases hr23 : u_name r21 t0 p0 with
            | none => rw [hr23] at hv; cases hv
            | some r23 =>
              rw [hr23, o_bind] at hv
              refine sW.call rfl rfl rfl rfl (hs22.rcv o69) (s115 ht0 hs22 hr23) ?_
              intro h24 hs24
              refine mW.sn 1 (g' := (74, [some (.ref 69), some (.ref t0), some (.int p0), none, none], [.int 0], (h24, q))) rfl ?_
              cases hv
              exact sW.fin hs24 rfl
      · rw [if_neg hc13] at hv
        refine mW.sn 2 (g' := (56, [some (.ref 69), some (.ref t0), some (.int p0), none, none], [.int 1, .ref 69], (h2, q))) rfl ?_
        refine sW.putZ rfl hs2 o69 rfl (by decide) ?_
        intro h25 hs25
        refine mW.sn 3 (g' := (64, [some (.ref 69), some (.ref t0), some (.int p0), none, none], [.int 125, .int 123, .ref 69], (h25, q))) rfl ?_
        cases hr26 : u_open (wr S 69 8 1) 123 125 with
        | none => rw [hr26] at hv; cases hv
        | some r26 =>
          rw [hr26, o_bind] at hv
          refine sW.call rfl rfl rfl rfl (hs25.rcv o69) (s114 hs25 hr26) ?_
          intro h27 hs27
          refine mW.sn 3 (g' := (70, [some (.ref 69), some (.ref t0), some (.int p0), none, none], [.int p0, .ref t0, .ref 69], (h27, q))) rfl ?_
          cases hr28 : u_name r26 t0 p0 with
          | none => rw [hr28] at hv; cases hv
          | some r28 =>
            rw [hr28, o_bind] at hv
            refine sW.call rfl rfl rfl rfl (hs27.rcv o69) (s115 ht0 hs27 hr28) ?_
            intro h29 hs29
            refine mW.sn 1 (g' := (74, [some (.ref 69), some (.ref t0), some (.int p0), none, none], [.int 0], (h29, q))) rfl ?_
            cases hv
            exact sW.fin hs29 rfl
    rw [if_neg hc12] at hv
    by_cases hc30 : r1 = (6 : Int32)
    · rw [if_pos hc30] at hv
      refine mW.sn 1 (g' := (113, [some (.ref 69), some (.ref t0), some (.int p0), none, none], [], (h2, q))) (by rw [hc30]; rfl) ?_
      refine mW.sn 2 (g' := (115, [some (.ref 69), some (.ref t0), some (.int p0), none, none], [.int 1, .ref 69], (h2, q))) rfl ?_
      refine sW.putZ rfl hs2 o69 rfl (by decide) ?_
      intro h31 hs31
      refine mW.sn 2 (g' := (120, [some (.ref 69), some (.ref t0), some (.int p0), none, none], [.int p0, .ref t0], (h31, q))) rfl ?_
      cases hr32 : p_hasBounds (wr S 69 7 1) t0 p0 with
      | none => rw [hr32] at hv; cases hv
      | some r32 =>
        rw [hr32, o_bind] at hv
        refine sW.call rfl rfl rfl rfl rfl (s117 ht0 hs31 hr32) ?_
        intro h33 hs33
        refine mW.br (g1 := (130, [some (.ref 69), some (.ref t0), some (.int p0), none, none], [], (h33, q))) (g2 := (126, [some (.ref 69), some (.ref t0), some (.int p0), none, none], [], (h33, q))) (c := r32 = 0) rfl (fun hc34 => ?_) (fun hc34 => ?_)
        · rw [if_pos hc34] at hv
          refine mW.sn 1 (g' := (131, [some (.ref 69), some (.ref t0), some (.int p0), none, none], [.int 1], (h33, q))) rfl ?_
          cases hv
          exact sW.fin hs33 rfl
        · rw [if_neg hc34] at hv
          refine mW.sn 2 (g' := (131, [some (.ref 69), some (.ref t0), some (.int p0), none, none], [.int 0], (h33, q))) rfl ?_
          cases hv
          exact sW.fin hs33 rfl
    rw [if_neg hc30] at hv
    have hd34 : m_tsw 5 127 3 6 #[70, 31, 127, 108] r1 = 132 := by
      have n3 : ¬ (3 : Int) = r1.toInt := fun e => hc3 (Int32.toInt_inj.mp (e.symm.trans rfl))
      have n12 : ¬ (4 : Int) = r1.toInt := fun e => hc12 (Int32.toInt_inj.mp (e.symm.trans rfl))
      have n30 : ¬ (6 : Int) = r1.toInt := fun e => hc30 (Int32.toInt_inj.mp (e.symm.trans rfl))
      by_cases e5 : r1 = (5 : Int32)
      · rw [e5]; rfl
      have n_5 : ¬ (5 : Int) = r1.toInt := fun e => e5 (Int32.toInt_inj.mp (e.symm.trans rfl))
      exact m_tsw_out _ _ _ _ _ _ (by omega)
    refine mW.sn 1 (g' := (132, [some (.ref 69), some (.ref t0), some (.int p0), none, none], [], (h2, q))) (by rw [← hd34]; rfl) ?_
    refine mW.sn 1 (g' := (133, [some (.ref 69), some (.ref t0), some (.int p0), none, none], [.int 1], (h2, q))) rfl ?_
    cases hv
    exact sW.fin hs2 rfl
def u_fill (S : SS) (t0 : Nat) : Option (SS) := (if (rd S 69 6) = 0 then ((u_value S).bind fun r2 => ((spart r2 ((rd r2 69 5).toNatClampNeg) t0 0 (Int32.ofNat (tT r2 t0).length)).bind fun r5 => some r5)) else ((spart S ((rd S 69 5).toNatClampNeg) t0 0 (Int32.ofNat (tT S t0).length)).bind fun r8 => some r8))
theorem s125 {S : SS} {t0 : Nat} (ht0 : t0 ∈ shT) {v : SS} (hs : cs h S) (hv : u_fill S t0 = some v) : mW (d + 4) mm125 (0, [some (.ref 69), some (.ref t0)], [], (h, q)) (mQ q v none) := by
  unfold u_fill at hv
  refine mW.sn 1 (g' := (1, [some (.ref 69), some (.ref t0)], [.ref 69], (h, q))) rfl ?_
  refine sW.getI rfl hs o69 rfl rfl ?_
  refine mW.br (g1 := (7, [some (.ref 69), some (.ref t0)], [], (h, q))) (g2 := (11, [some (.ref 69), some (.ref t0)], [], (h, q))) (c := (rd S 69 6) = 0) rfl (fun hc1 => ?_) (fun hc1 => ?_)
  · rw [if_pos hc1] at hv
    refine mW.sn 1 (g' := (8, [some (.ref 69), some (.ref t0)], [.ref 69], (h, q))) rfl ?_
    cases hr2 : u_value S with
    | none => rw [hr2] at hv; cases hv
    | some r2 =>
      rw [hr2, o_bind] at hv
      refine sW.call rfl rfl rfl rfl (hs.rcv o69) (s107 hs hr2) ?_
      intro h3 hs3
      refine mW.sn 1 (g' := (12, [some (.ref 69), some (.ref t0)], [.ref 69], (h3, q))) rfl ?_
      refine sW.getT rfl hs3 o69 rfl ?_
      refine mW.sn 3 (g' := (18, [some (.ref 69), some (.ref t0)], [.ref t0, .int 0, .ref t0, .ref ((rd r2 69 5).toNatClampNeg)], (h3, q))) rfl ?_
      refine sW.call rfl rfl rfl rfl (hs3.rcvT ht0) (sW.of hs3 (x24 (hs3.gtx ht0))) ?_
      intro h4 hs4
      cases hr5 : spart r2 ((rd r2 69 5).toNatClampNeg) t0 0 (Int32.ofNat (tT r2 t0).length) with
      | none => rw [hr5] at hv; cases hv
      | some r5 =>
        rw [hr5, o_bind] at hv
        refine sW.call rfl rfl rfl rfl (hs4.rcvT (hs3.okT o69 rfl)) (s61 (hs3.okT o69 rfl) ht0 hs4 hr5) ?_
        intro h6 hs6
        cases hv
        exact sW.fin hs6 rfl
  · rw [if_neg hc1] at hv
    refine mW.sn 1 (g' := (12, [some (.ref 69), some (.ref t0)], [.ref 69], (h, q))) rfl ?_
    refine sW.getT rfl hs o69 rfl ?_
    refine mW.sn 3 (g' := (18, [some (.ref 69), some (.ref t0)], [.ref t0, .int 0, .ref t0, .ref ((rd S 69 5).toNatClampNeg)], (h, q))) rfl ?_
    refine sW.call rfl rfl rfl rfl (hs.rcvT ht0) (sW.of hs (x24 (hs.gtx ht0))) ?_
    intro h7 hs7
    cases hr8 : spart S ((rd S 69 5).toNatClampNeg) t0 0 (Int32.ofNat (tT S t0).length) with
    | none => rw [hr8] at hv; cases hv
    | some r8 =>
      rw [hr8, o_bind] at hv
      refine sW.call rfl rfl rfl rfl (hs7.rcvT (hs.okT o69 rfl)) (s61 (hs.okT o69 rfl) ht0 hs7 hr8) ?_
      intro h9 hs9
      cases hv
      exact sW.fin hs9 rfl
def u_fillPart (S : SS) (t0 : Nat) : Option (SS) := ((p_span S 70).bind fun r1 => ((t_items (tT r1 t0) 0).bind fun r3 => (if r3 = 0 then ((g_closeUp r1 70 ((rd r1 69 4).toNatClampNeg)).bind fun r6 => ((u_start r6).bind fun r8 => ((spart r8 ((rd r8 69 5).toNatClampNeg) t0 1 ((Int32.ofNat (tT r8 t0).length) - 1)).bind fun r11 => some r11))) else ((u_start r1).bind fun r13 => ((spart r13 ((rd r13 69 5).toNatClampNeg) t0 1 ((Int32.ofNat (tT r13 t0).length) - 1)).bind fun r16 => some r16)))))
theorem s122 {S : SS} {t0 : Nat} (ht0 : t0 ∈ shT) {v : SS} (hs : cs h S) (hv : u_fillPart S t0 = some v) : mW (d + 6) mm122 (0, [some (.ref 69), some (.ref t0)], [], (h, q)) (mQ q v none) := by
  unfold u_fillPart at hv
  refine mW.sn 1 (g' := (1, [some (.ref 69), some (.ref t0)], [.ref 69], (h, q))) rfl ?_
  refine sW.getR rfl hs o69 rfl rfl ?_
  refine mW.sn 1 (g' := (5, [some (.ref 69), some (.ref t0)], [.ref 69, .ref 67], (h, q))) rfl ?_
  refine sW.getR rfl hs o69 rfl rfl ?_
  cases hr1 : p_span S 70 with
  | none => rw [hr1] at hv; cases hv
  | some r1 =>
    rw [hr1, o_bind] at hv
    refine sW.call rfl rfl rfl rfl (hs.rcv o67) (s123 o70 hs hr1) ?_
    intro h2 hs2
    refine mW.sn 2 (g' := (13, [some (.ref 69), some (.ref t0)], [.int 0, .ref t0], (h2, q))) rfl ?_
    cases hr3 : t_items (tT r1 t0) 0 with
    | none => rw [hr3] at hv; cases hv
    | some r3 =>
      rw [hr3, o_bind] at hv
      refine sW.call rfl rfl rfl rfl (hs2.rcvT ht0) (sW.of hs2 (x86 (hs2.gtx ht0) hr3)) ?_
      intro h4 hs4
      refine mW.br (g1 := (19, [some (.ref 69), some (.ref t0)], [], (h4, q))) (g2 := (30, [some (.ref 69), some (.ref t0)], [], (h4, q))) (c := r3 = 0) rfl (fun hc5 => ?_) (fun hc5 => ?_)
      · rw [if_pos hc5] at hv
        refine mW.sn 1 (g' := (20, [some (.ref 69), some (.ref t0)], [.ref 69], (h4, q))) rfl ?_
        refine sW.getR rfl hs4 o69 rfl rfl ?_
        refine mW.sn 1 (g' := (24, [some (.ref 69), some (.ref t0)], [.ref 69, .ref 70], (h4, q))) rfl ?_
        refine sW.getT rfl hs4 o69 rfl ?_
        cases hr6 : g_closeUp r1 70 ((rd r1 69 4).toNatClampNeg) with
        | none => rw [hr6] at hv; cases hv
        | some r6 =>
          rw [hr6, o_bind] at hv
          refine sW.call rfl rfl rfl rfl (hs4.rcv o70) (s124 o70 (hs4.okT o69 rfl) hs4 hr6) ?_
          intro h7 hs7
          refine mW.sn 1 (g' := (31, [some (.ref 69), some (.ref t0)], [.ref 69], (h7, q))) rfl ?_
          cases hr8 : u_start r6 with
          | none => rw [hr8] at hv; cases hv
          | some r8 =>
            rw [hr8, o_bind] at hv
            refine sW.call rfl rfl rfl rfl (hs7.rcv o69) (s110 hs7 hr8) ?_
            intro h9 hs9
            refine mW.sn 1 (g' := (35, [some (.ref 69), some (.ref t0)], [.ref 69], (h9, q))) rfl ?_
            refine sW.getT rfl hs9 o69 rfl ?_
            refine mW.sn 3 (g' := (41, [some (.ref 69), some (.ref t0)], [.ref t0, .int 1, .ref t0, .ref ((rd r8 69 5).toNatClampNeg)], (h9, q))) rfl ?_
            refine sW.call rfl rfl rfl rfl (hs9.rcvT ht0) (sW.of hs9 (x24 (hs9.gtx ht0))) ?_
            intro h10 hs10
            refine mW.sn 2 (g' := (46, [some (.ref 69), some (.ref t0)], [.int ((Int32.ofNat (tT r8 t0).length) - 1), .int 1, .ref t0, .ref ((rd r8 69 5).toNatClampNeg)], (h10, q))) rfl ?_
            cases hr11 : spart r8 ((rd r8 69 5).toNatClampNeg) t0 1 ((Int32.ofNat (tT r8 t0).length) - 1) with
            | none => rw [hr11] at hv; cases hv
            | some r11 =>
              rw [hr11, o_bind] at hv
              refine sW.call rfl rfl rfl rfl (hs10.rcvT (hs9.okT o69 rfl)) (s61 (hs9.okT o69 rfl) ht0 hs10 hr11) ?_
              intro h12 hs12
              cases hv
              exact sW.fin hs12 rfl
      · rw [if_neg hc5] at hv
        refine mW.sn 1 (g' := (31, [some (.ref 69), some (.ref t0)], [.ref 69], (h4, q))) rfl ?_
        cases hr13 : u_start r1 with
        | none => rw [hr13] at hv; cases hv
        | some r13 =>
          rw [hr13, o_bind] at hv
          refine sW.call rfl rfl rfl rfl (hs4.rcv o69) (s110 hs4 hr13) ?_
          intro h14 hs14
          refine mW.sn 1 (g' := (35, [some (.ref 69), some (.ref t0)], [.ref 69], (h14, q))) rfl ?_
          refine sW.getT rfl hs14 o69 rfl ?_
          refine mW.sn 3 (g' := (41, [some (.ref 69), some (.ref t0)], [.ref t0, .int 1, .ref t0, .ref ((rd r13 69 5).toNatClampNeg)], (h14, q))) rfl ?_
          refine sW.call rfl rfl rfl rfl (hs14.rcvT ht0) (sW.of hs14 (x24 (hs14.gtx ht0))) ?_
          intro h15 hs15
          refine mW.sn 2 (g' := (46, [some (.ref 69), some (.ref t0)], [.int ((Int32.ofNat (tT r13 t0).length) - 1), .int 1, .ref t0, .ref ((rd r13 69 5).toNatClampNeg)], (h15, q))) rfl ?_
          cases hr16 : spart r13 ((rd r13 69 5).toNatClampNeg) t0 1 ((Int32.ofNat (tT r13 t0).length) - 1) with
          | none => rw [hr16] at hv; cases hv
          | some r16 =>
            rw [hr16, o_bind] at hv
            refine sW.call rfl rfl rfl rfl (hs15.rcvT (hs14.okT o69 rfl)) (s61 (hs14.okT o69 rfl) ht0 hs15 hr16) ?_
            intro h17 hs17
            cases hv
            exact sW.fin hs17 rfl
def u_close_l7 : Nat → SS → Int32 → Option (SS)
  | 0, _, _ => none
  | n + 1, S, l1 => (if l1 < 0 then ((g_cH S 70).bind fun r2 => (if r2 = 0 then ((g_to S 70).bind fun r5 => ((spart S ((rd S 69 5).toNatClampNeg) ((rd S 69 4).toNatClampNeg) r5 (Int32.ofNat (tT S ((rd S 69 4).toNatClampNeg)).length)).bind fun r8 => some r8)) else ((g_to (sput S ((rd S 69 5).toNatClampNeg) 44) 70).bind fun r11 => ((spart (sput S ((rd S 69 5).toNatClampNeg) 44) ((rd (sput S ((rd S 69 5).toNatClampNeg) 44) 69 5).toNatClampNeg) ((rd (sput S ((rd S 69 5).toNatClampNeg) 44) 69 4).toNatClampNeg) r11 (Int32.ofNat (tT (sput S ((rd S 69 5).toNatClampNeg) 44) ((rd (sput S ((rd S 69 5).toNatClampNeg) 44) 69 4).toNatClampNeg)).length)).bind fun r14 => some r14)))) else ((iget (S 71) l1).bind fun b16 => u_close_l7 n (sput S ((rd S 69 5).toNatClampNeg) b16) (l1 + (-1))))
theorem u_close_l7_ok : ∀ (n : Nat), ∀ (h : mH) (S : SS) (l1 : Int32) (v : SS), cs h S → u_close_l7 n S l1 = some v → mW (d + 2) mm126 (7, [some (.ref 69), some (.int l1)], [], (h, q)) (mQ q v none) := by
  intro n
  induction n with
  | zero => intro h S l1 v hs hv; cases hv
  | succ n ih =>
    intro h S l1 v hs hv
    unfold u_close_l7 at hv
    refine mW.sn 1 (g' := (8, [some (.ref 69), some (.int l1)], [.int l1], (h, q))) rfl ?_
    refine mW.br (g1 := (30, [some (.ref 69), some (.int l1)], [], (h, q))) (g2 := (11, [some (.ref 69), some (.int l1)], [], (h, q))) (c := l1 < 0) rfl (fun hc1 => ?_) (fun hc1 => ?_)
    · rw [if_pos hc1] at hv
      refine mW.sn 1 (g' := (31, [some (.ref 69), some (.int l1)], [.ref 69], (h, q))) rfl ?_
      refine sW.getR rfl hs o69 rfl rfl ?_
      cases hr2 : g_cH S 70 with
      | none => rw [hr2] at hv; cases hv
      | some r2 =>
        rw [hr2, o_bind] at hv
        refine sW.call rfl rfl rfl rfl (hs.rcv o70) (s127 o70 hs hr2) ?_
        intro h3 hs3
        refine mW.br (g1 := (49, [some (.ref 69), some (.int l1)], [], (h3, q))) (g2 := (40, [some (.ref 69), some (.int l1)], [], (h3, q))) (c := r2 = 0) rfl (fun hc4 => ?_) (fun hc4 => ?_)
        · rw [if_pos hc4] at hv
          refine mW.sn 1 (g' := (50, [some (.ref 69), some (.int l1)], [.ref 69], (h3, q))) rfl ?_
          refine sW.getT rfl hs3 o69 rfl ?_
          refine mW.sn 1 (g' := (54, [some (.ref 69), some (.int l1)], [.ref 69, .ref ((rd S 69 5).toNatClampNeg)], (h3, q))) rfl ?_
          refine sW.getT rfl hs3 o69 rfl ?_
          refine mW.sn 1 (g' := (58, [some (.ref 69), some (.int l1)], [.ref 69, .ref ((rd S 69 4).toNatClampNeg), .ref ((rd S 69 5).toNatClampNeg)], (h3, q))) rfl ?_
          refine sW.getR rfl hs3 o69 rfl rfl ?_
          cases hr5 : g_to S 70 with
          | none => rw [hr5] at hv; cases hv
          | some r5 =>
            rw [hr5, o_bind] at hv
            refine sW.call rfl rfl rfl rfl (hs3.rcv o70) (s128 o70 hs3 hr5) ?_
            intro h6 hs6
            refine mW.sn 1 (g' := (65, [some (.ref 69), some (.int l1)], [.ref 69, .int r5, .ref ((rd S 69 4).toNatClampNeg), .ref ((rd S 69 5).toNatClampNeg)], (h6, q))) rfl ?_
            refine sW.getT rfl hs6 o69 rfl ?_
            refine sW.call rfl rfl rfl rfl (hs6.rcvT (hs6.okT o69 rfl)) (sW.of hs6 (x24 (hs6.gtx (hs6.okT o69 rfl)))) ?_
            intro h7 hs7
            cases hr8 : spart S ((rd S 69 5).toNatClampNeg) ((rd S 69 4).toNatClampNeg) r5 (Int32.ofNat (tT S ((rd S 69 4).toNatClampNeg)).length) with
            | none => rw [hr8] at hv; cases hv
            | some r8 =>
              rw [hr8, o_bind] at hv
              refine sW.call rfl rfl rfl rfl (hs7.rcvT (hs3.okT o69 rfl)) (s61 (hs3.okT o69 rfl) (hs3.okT o69 rfl) hs7 hr8) ?_
              intro h9 hs9
              cases hv
              exact sW.fin hs9 rfl
        · rw [if_neg hc4] at hv
          refine mW.sn 1 (g' := (41, [some (.ref 69), some (.int l1)], [.ref 69], (h3, q))) rfl ?_
          refine sW.getT rfl hs3 o69 rfl ?_
          refine mW.sn 1 (g' := (46, [some (.ref 69), some (.int l1)], [.int 44, .ref ((rd S 69 5).toNatClampNeg)], (h3, q))) rfl ?_
          refine sW.call rfl rfl rfl rfl (hs3.rcvT (hs3.okT o69 rfl)) (s15 hs3 (hs3.okT o69 rfl)) ?_
          intro h10 hs10
          refine mW.sn 1 (g' := (50, [some (.ref 69), some (.int l1)], [.ref 69], (h10, q))) rfl ?_
          refine sW.getT rfl hs10 o69 rfl ?_
          refine mW.sn 1 (g' := (54, [some (.ref 69), some (.int l1)], [.ref 69, .ref ((rd (sput S ((rd S 69 5).toNatClampNeg) 44) 69 5).toNatClampNeg)], (h10, q))) rfl ?_
          refine sW.getT rfl hs10 o69 rfl ?_
          refine mW.sn 1 (g' := (58, [some (.ref 69), some (.int l1)], [.ref 69, .ref ((rd (sput S ((rd S 69 5).toNatClampNeg) 44) 69 4).toNatClampNeg), .ref ((rd (sput S ((rd S 69 5).toNatClampNeg) 44) 69 5).toNatClampNeg)], (h10, q))) rfl ?_
          refine sW.getR rfl hs10 o69 rfl rfl ?_
          cases hr11 : g_to (sput S ((rd S 69 5).toNatClampNeg) 44) 70 with
          | none => rw [hr11] at hv; cases hv
          | some r11 =>
            rw [hr11, o_bind] at hv
            refine sW.call rfl rfl rfl rfl (hs10.rcv o70) (s128 o70 hs10 hr11) ?_
            intro h12 hs12
            refine mW.sn 1 (g' := (65, [some (.ref 69), some (.int l1)], [.ref 69, .int r11, .ref ((rd (sput S ((rd S 69 5).toNatClampNeg) 44) 69 4).toNatClampNeg), .ref ((rd (sput S ((rd S 69 5).toNatClampNeg) 44) 69 5).toNatClampNeg)], (h12, q))) rfl ?_
            refine sW.getT rfl hs12 o69 rfl ?_
            refine sW.call rfl rfl rfl rfl (hs12.rcvT (hs12.okT o69 rfl)) (sW.of hs12 (x24 (hs12.gtx (hs12.okT o69 rfl)))) ?_
            intro h13 hs13
            cases hr14 : spart (sput S ((rd S 69 5).toNatClampNeg) 44) ((rd (sput S ((rd S 69 5).toNatClampNeg) 44) 69 5).toNatClampNeg) ((rd (sput S ((rd S 69 5).toNatClampNeg) 44) 69 4).toNatClampNeg) r11 (Int32.ofNat (tT (sput S ((rd S 69 5).toNatClampNeg) 44) ((rd (sput S ((rd S 69 5).toNatClampNeg) 44) 69 4).toNatClampNeg)).length) with
            | none => rw [hr14] at hv; cases hv
            | some r14 =>
              rw [hr14, o_bind] at hv
              refine sW.call rfl rfl rfl rfl (hs13.rcvT (hs10.okT o69 rfl)) (s61 (hs10.okT o69 rfl) (hs10.okT o69 rfl) hs13 hr14) ?_
              intro h15 hs15
              cases hv
              exact sW.fin hs15 rfl
    · rw [if_neg hc1] at hv
      refine mW.sn 1 (g' := (12, [some (.ref 69), some (.int l1)], [.ref 69], (h, q))) rfl ?_
      refine sW.getT rfl hs o69 rfl ?_
      refine mW.sn 1 (g' := (16, [some (.ref 69), some (.int l1)], [.ref 69, .ref ((rd S 69 5).toNatClampNeg)], (h, q))) rfl ?_
      refine sW.getR rfl hs o69 rfl rfl ?_
      refine mW.sn 1 (g' := (20, [some (.ref 69), some (.int l1)], [.int l1, .ref 71, .ref ((rd S 69 5).toNatClampNeg)], (h, q))) rfl ?_
      cases hr16 : iget (S 71) l1 with
      | none => rw [hr16] at hv; cases hv
      | some b16 =>
        rw [hr16, o_bind] at hv
        refine sW.bald71 rfl hs hr16 ?_
        refine sW.call rfl rfl rfl rfl (hs.rcvT (hs.okT o69 rfl)) (s15 hs (hs.okT o69 rfl)) ?_
        intro h17 hs17
        refine mW.sn 2 (g' := (7, [some (.ref 69), some (.int (l1 + (-1)))], [], (h17, q))) rfl ?_
        exact ih _ _ _ _  hs17 hv
def u_close (S : SS) : Option (SS) := u_close_l7 10000 S ((rd S 69 3) - 1)
theorem s126 {S : SS} {v : SS} (hs : cs h S) (hv : u_close S = some v) : mW (d + 2) mm126 (0, [some (.ref 69), none], [], (h, q)) (mQ q v none) := by
  unfold u_close at hv
  refine mW.sn 1 (g' := (1, [some (.ref 69), none], [.ref 69], (h, q))) rfl ?_
  refine sW.getI rfl hs o69 rfl rfl ?_
  refine mW.sn 3 (g' := (7, [some (.ref 69), some (.int ((rd S 69 3) - 1))], [], (h, q))) rfl ?_
  exact u_close_l7_ok _ _ _ _ _  hs hv
def u_put_l44 (t0 : Nat) (t1 : Nat) (t2 : Nat) (t3 : Nat) : Nat → SS → Int32 → Int32 → Int32 → Option (SS × Int32)
  | 0, _, _, _, _ => none
  | n + 1, S, l5, l6, l7 => (if l5 ≤ l7 then (if (rd S 69 6) = 0 then ((p_isPart S).bind fun r13 => (if (rd S 69 8) = 0 then (if r13 = 0 then ((u_fill S t2).bind fun r17 => ((u_close r17).bind fun r19 => some (r19, 0))) else ((t_kind (tT S t2) 0).bind fun r21 => (if r21 = (5 : Int32) then ((u_fillPart S t2).bind fun r24 => ((u_close r24).bind fun r26 => some (r26, 0))) else some (S, 1)))) else some (S, 1))) else (if (rd S 69 8) = 0 then (if (rd S 69 7) = 0 then ((u_fill S t2).bind fun r30 => ((u_close r30).bind fun r32 => some (r32, 0))) else ((t_kind (tT S t2) 0).bind fun r34 => (if r34 = (5 : Int32) then ((u_fill S t2).bind fun r37 => ((u_close r37).bind fun r39 => some (r39, 0))) else some (S, 1)))) else some (S, 1))) else (if (rd S 69 6) = 0 then ((u_null S t1 l6).bind fun r42 => (if (rd r42 69 6) = 0 then ((u_goOn r42 t1 l6).bind fun r45 => (if r45.2 = 0 then ((t_next (tT r45.1 t1) l6).bind fun r48 => u_put_l44 t0 t1 t2 t3 n r45.1 l5 r48 (l7 + 1)) else some (r45.1, r45.2))) else ((u_grow r42 t1 l6).bind fun r50 => (if r50.2 = 0 then ((t_next (tT r50.1 t1) l6).bind fun r53 => u_put_l44 t0 t1 t2 t3 n r50.1 l5 r53 (l7 + 1)) else some (r50.1, r50.2))))) else ((u_grow S t1 l6).bind fun r55 => (if r55.2 = 0 then ((t_next (tT r55.1 t1) l6).bind fun r58 => u_put_l44 t0 t1 t2 t3 n r55.1 l5 r58 (l7 + 1)) else some (r55.1, r55.2)))))
theorem u_put_l44_ok {t0 : Nat} (ht0 : t0 ∈ shT) {t1 : Nat} (ht1 : t1 ∈ shT) {t2 : Nat} (ht2 : t2 ∈ shT) {t3 : Nat} (ht3 : t3 ∈ shT) : ∀ (n : Nat), ∀ (h : mH) (S : SS) (l5 : Int32) (l6 : Int32) (l7 : Int32) (y1 : Nat) (y4 : Nat) (x8 : Option Value) (v : SS × Int32), cs h S → u_put_l44 t0 t1 t2 t3 n S l5 l6 l7 = some v → mW (d + 9) mm103 (44, [some (.ref 69), some (.ref y1), some (.ref t1), some (.ref t2), some (.ref y4), some (.int l5), some (.int l6), some (.int l7), x8], [], (h, q)) (mQ q v.1 (some (.int v.2))) := by
  intro n
  induction n with
  | zero => intro h S l5 l6 l7 y1 y4 x8 v hs hv; cases hv
  | succ n ih =>
    intro h S l5 l6 l7 y1 y4 x8 v hs hv
    unfold u_put_l44 at hv
    refine mW.sn 2 (g' := (48, [some (.ref 69), some (.ref y1), some (.ref t1), some (.ref t2), some (.ref y4), some (.int l5), some (.int l6), some (.int l7), x8], [.int l5, .int l7], (h, q))) rfl ?_
    refine mW.br (g1 := (113, [some (.ref 69), some (.ref y1), some (.ref t1), some (.ref t2), some (.ref y4), some (.int l5), some (.int l6), some (.int l7), x8], [], (h, q))) (g2 := (51, [some (.ref 69), some (.ref y1), some (.ref t1), some (.ref t2), some (.ref y4), some (.int l5), some (.int l6), some (.int l7), x8], [], (h, q))) (c := l5 ≤ l7) rfl (fun hc11 => ?_) (fun hc11 => ?_)
    · rw [if_pos hc11] at hv
      refine mW.sn 1 (g' := (114, [some (.ref 69), some (.ref y1), some (.ref t1), some (.ref t2), some (.ref y4), some (.int l5), some (.int l6), some (.int l7), x8], [.ref 69], (h, q))) rfl ?_
      refine sW.getI rfl hs o69 rfl rfl ?_
      refine mW.br (g1 := (127, [some (.ref 69), some (.ref y1), some (.ref t1), some (.ref t2), some (.ref y4), some (.int l5), some (.int l6), some (.int l7), x8], [], (h, q))) (g2 := (120, [some (.ref 69), some (.ref y1), some (.ref t1), some (.ref t2), some (.ref y4), some (.int l5), some (.int l6), some (.int l7), x8], [], (h, q))) (c := (rd S 69 6) = 0) rfl (fun hc12 => ?_) (fun hc12 => ?_)
      · rw [if_pos hc12] at hv
        refine mW.sn 1 (g' := (128, [some (.ref 69), some (.ref y1), some (.ref t1), some (.ref t2), some (.ref y4), some (.int l5), some (.int l6), some (.int l7), x8], [.ref 69], (h, q))) rfl ?_
        refine sW.getR rfl hs o69 rfl rfl ?_
        cases hr13 : p_isPart S with
        | none => rw [hr13] at hv; cases hv
        | some r13 =>
          rw [hr13, o_bind] at hv
          refine sW.call rfl rfl rfl rfl (hs.rcv o67) (s106 hs hr13) ?_
          intro h14 hs14
          refine mW.sn 2 (g' := (137, [some (.ref 69), some (.ref y1), some (.ref t1), some (.ref t2), some (.ref y4), some (.int l5), some (.int l6), some (.int r13), x8], [.ref 69], (h14, q))) rfl ?_
          refine sW.getI rfl hs14 o69 rfl rfl ?_
          refine mW.br (g1 := (143, [some (.ref 69), some (.ref y1), some (.ref t1), some (.ref t2), some (.ref y4), some (.int l5), some (.int l6), some (.int r13), x8], [], (h14, q))) (g2 := (157, [some (.ref 69), some (.ref y1), some (.ref t1), some (.ref t2), some (.ref y4), some (.int l5), some (.int l6), some (.int r13), x8], [], (h14, q))) (c := (rd S 69 8) = 0) rfl (fun hc15 => ?_) (fun hc15 => ?_)
          · rw [if_pos hc15] at hv
            refine mW.sn 1 (g' := (145, [some (.ref 69), some (.ref y1), some (.ref t1), some (.ref t2), some (.ref y4), some (.int l5), some (.int l6), some (.int r13), x8], [.int r13], (h14, q))) rfl ?_
            refine mW.br (g1 := (159, [some (.ref 69), some (.ref y1), some (.ref t1), some (.ref t2), some (.ref y4), some (.int l5), some (.int l6), some (.int r13), x8], [], (h14, q))) (g2 := (148, [some (.ref 69), some (.ref y1), some (.ref t1), some (.ref t2), some (.ref y4), some (.int l5), some (.int l6), some (.int r13), x8], [], (h14, q))) (c := r13 = 0) rfl (fun hc16 => ?_) (fun hc16 => ?_)
            · rw [if_pos hc16] at hv
              refine mW.sn 1 (g' := (160, [some (.ref 69), some (.ref y1), some (.ref t1), some (.ref t2), some (.ref y4), some (.int l5), some (.int l6), some (.int r13), x8], [.ref 69], (h14, q))) rfl ?_
              refine sW.getI rfl hs14 o69 rfl rfl ?_
              refine mW.yes (g1 := (166, [some (.ref 69), some (.ref y1), some (.ref t1), some (.ref t2), some (.ref y4), some (.int l5), some (.int l6), some (.int r13), x8], [], (h14, q))) (g2 := (179, [some (.ref 69), some (.ref y1), some (.ref t1), some (.ref t2), some (.ref y4), some (.int l5), some (.int l6), some (.int r13), x8], [], (h14, q))) (c := (rd S 69 6) = 0) rfl hc12 ?_
              refine mW.sn 1 (g' := (168, [some (.ref 69), some (.ref y1), some (.ref t1), some (.ref t2), some (.ref y4), some (.int l5), some (.int l6), some (.int r13), x8], [.int r13], (h14, q))) rfl ?_
              refine mW.yes (g1 := (179, [some (.ref 69), some (.ref y1), some (.ref t1), some (.ref t2), some (.ref y4), some (.int l5), some (.int l6), some (.int r13), x8], [], (h14, q))) (g2 := (171, [some (.ref 69), some (.ref y1), some (.ref t1), some (.ref t2), some (.ref y4), some (.int l5), some (.int l6), some (.int r13), x8], [], (h14, q))) (c := r13 = 0) rfl hc16 ?_
              refine mW.sn 2 (g' := (181, [some (.ref 69), some (.ref y1), some (.ref t1), some (.ref t2), some (.ref y4), some (.int l5), some (.int l6), some (.int r13), x8], [.ref t2, .ref 69], (h14, q))) rfl ?_
              cases hr17 : u_fill S t2 with
              | none => rw [hr17] at hv; cases hv
              | some r17 =>
                rw [hr17, o_bind] at hv
                refine sW.call rfl rfl rfl rfl (hs14.rcv o69) (s125 ht2 hs14 hr17) ?_
                intro h18 hs18
                refine mW.sn 1 (g' := (185, [some (.ref 69), some (.ref y1), some (.ref t1), some (.ref t2), some (.ref y4), some (.int l5), some (.int l6), some (.int r13), x8], [.ref 69], (h18, q))) rfl ?_
                cases hr19 : u_close r17 with
                | none => rw [hr19] at hv; cases hv
                | some r19 =>
                  rw [hr19, o_bind] at hv
                  refine sW.call rfl rfl rfl rfl (hs18.rcv o69) (s126 hs18 hr19) ?_
                  intro h20 hs20
                  refine mW.sn 1 (g' := (189, [some (.ref 69), some (.ref y1), some (.ref t1), some (.ref t2), some (.ref y4), some (.int l5), some (.int l6), some (.int r13), x8], [.int 0], (h20, q))) rfl ?_
                  cases hv
                  exact sW.fin hs20 rfl
            · rw [if_neg hc16] at hv
              refine mW.sn 2 (g' := (150, [some (.ref 69), some (.ref y1), some (.ref t1), some (.ref t2), some (.ref y4), some (.int l5), some (.int l6), some (.int r13), x8], [.int 0, .ref t2], (h14, q))) rfl ?_
              cases hr21 : t_kind (tT S t2) 0 with
              | none => rw [hr21] at hv; cases hv
              | some r21 =>
                rw [hr21, o_bind] at hv
                refine sW.call rfl rfl rfl rfl (hs14.rcvT ht2) (sW.of hs14 (x70 (hs14.gtx ht2) hr21)) ?_
                intro h22 hs22
                refine mW.sn 1 (g' := (154, [some (.ref 69), some (.ref y1), some (.ref t1), some (.ref t2), some (.ref y4), some (.int l5), some (.int l6), some (.int r13), x8], [.int 5, .int r21], (h22, q))) rfl ?_
                refine mW.br (g1 := (159, [some (.ref 69), some (.ref y1), some (.ref t1), some (.ref t2), some (.ref y4), some (.int l5), some (.int l6), some (.int r13), x8], [], (h22, q))) (g2 := (157, [some (.ref 69), some (.ref y1), some (.ref t1), some (.ref t2), some (.ref y4), some (.int l5), some (.int l6), some (.int r13), x8], [], (h22, q))) (c := r21 = (5 : Int32)) rfl (fun hc23 => ?_) (fun hc23 => ?_)
                · rw [if_pos hc23] at hv
                  refine mW.sn 1 (g' := (160, [some (.ref 69), some (.ref y1), some (.ref t1), some (.ref t2), some (.ref y4), some (.int l5), some (.int l6), some (.int r13), x8], [.ref 69], (h22, q))) rfl ?_
                  refine sW.getI rfl hs22 o69 rfl rfl ?_
                  refine mW.yes (g1 := (166, [some (.ref 69), some (.ref y1), some (.ref t1), some (.ref t2), some (.ref y4), some (.int l5), some (.int l6), some (.int r13), x8], [], (h22, q))) (g2 := (179, [some (.ref 69), some (.ref y1), some (.ref t1), some (.ref t2), some (.ref y4), some (.int l5), some (.int l6), some (.int r13), x8], [], (h22, q))) (c := (rd S 69 6) = 0) rfl hc12 ?_
                  refine mW.sn 1 (g' := (168, [some (.ref 69), some (.ref y1), some (.ref t1), some (.ref t2), some (.ref y4), some (.int l5), some (.int l6), some (.int r13), x8], [.int r13], (h22, q))) rfl ?_
                  refine mW.no (g1 := (179, [some (.ref 69), some (.ref y1), some (.ref t1), some (.ref t2), some (.ref y4), some (.int l5), some (.int l6), some (.int r13), x8], [], (h22, q))) (g2 := (171, [some (.ref 69), some (.ref y1), some (.ref t1), some (.ref t2), some (.ref y4), some (.int l5), some (.int l6), some (.int r13), x8], [], (h22, q))) (c := r13 = 0) rfl hc16 ?_
                  refine mW.sn 2 (g' := (173, [some (.ref 69), some (.ref y1), some (.ref t1), some (.ref t2), some (.ref y4), some (.int l5), some (.int l6), some (.int r13), x8], [.ref t2, .ref 69], (h22, q))) rfl ?_
                  cases hr24 : u_fillPart S t2 with
                  | none => rw [hr24] at hv; cases hv
                  | some r24 =>
                    rw [hr24, o_bind] at hv
                    refine sW.call rfl rfl rfl rfl (hs22.rcv o69) (s122 ht2 hs22 hr24) ?_
                    intro h25 hs25
                    refine mW.sn 2 (g' := (185, [some (.ref 69), some (.ref y1), some (.ref t1), some (.ref t2), some (.ref y4), some (.int l5), some (.int l6), some (.int r13), x8], [.ref 69], (h25, q))) rfl ?_
                    cases hr26 : u_close r24 with
                    | none => rw [hr26] at hv; cases hv
                    | some r26 =>
                      rw [hr26, o_bind] at hv
                      refine sW.call rfl rfl rfl rfl (hs25.rcv o69) (s126 hs25 hr26) ?_
                      intro h27 hs27
                      refine mW.sn 1 (g' := (189, [some (.ref 69), some (.ref y1), some (.ref t1), some (.ref t2), some (.ref y4), some (.int l5), some (.int l6), some (.int r13), x8], [.int 0], (h27, q))) rfl ?_
                      cases hv
                      exact sW.fin hs27 rfl
                · rw [if_neg hc23] at hv
                  refine mW.sn 1 (g' := (158, [some (.ref 69), some (.ref y1), some (.ref t1), some (.ref t2), some (.ref y4), some (.int l5), some (.int l6), some (.int r13), x8], [.int 1], (h22, q))) rfl ?_
                  cases hv
                  exact sW.fin hs22 rfl
          · rw [if_neg hc15] at hv
            refine mW.sn 1 (g' := (158, [some (.ref 69), some (.ref y1), some (.ref t1), some (.ref t2), some (.ref y4), some (.int l5), some (.int l6), some (.int r13), x8], [.int 1], (h14, q))) rfl ?_
            cases hv
            exact sW.fin hs14 rfl
      · rw [if_neg hc12] at hv
        refine mW.sn 1 (g' := (121, [some (.ref 69), some (.ref y1), some (.ref t1), some (.ref t2), some (.ref y4), some (.int l5), some (.int l6), some (.int l7), x8], [.ref 69], (h, q))) rfl ?_
        refine sW.getI rfl hs o69 rfl rfl ?_
        refine mW.sn 3 (g' := (137, [some (.ref 69), some (.ref y1), some (.ref t1), some (.ref t2), some (.ref y4), some (.int l5), some (.int l6), some (.int (rd S 69 7)), x8], [.ref 69], (h, q))) rfl ?_
        refine sW.getI rfl hs o69 rfl rfl ?_
        refine mW.br (g1 := (143, [some (.ref 69), some (.ref y1), some (.ref t1), some (.ref t2), some (.ref y4), some (.int l5), some (.int l6), some (.int (rd S 69 7)), x8], [], (h, q))) (g2 := (157, [some (.ref 69), some (.ref y1), some (.ref t1), some (.ref t2), some (.ref y4), some (.int l5), some (.int l6), some (.int (rd S 69 7)), x8], [], (h, q))) (c := (rd S 69 8) = 0) rfl (fun hc28 => ?_) (fun hc28 => ?_)
        · rw [if_pos hc28] at hv
          refine mW.sn 1 (g' := (145, [some (.ref 69), some (.ref y1), some (.ref t1), some (.ref t2), some (.ref y4), some (.int l5), some (.int l6), some (.int (rd S 69 7)), x8], [.int (rd S 69 7)], (h, q))) rfl ?_
          refine mW.br (g1 := (159, [some (.ref 69), some (.ref y1), some (.ref t1), some (.ref t2), some (.ref y4), some (.int l5), some (.int l6), some (.int (rd S 69 7)), x8], [], (h, q))) (g2 := (148, [some (.ref 69), some (.ref y1), some (.ref t1), some (.ref t2), some (.ref y4), some (.int l5), some (.int l6), some (.int (rd S 69 7)), x8], [], (h, q))) (c := (rd S 69 7) = 0) rfl (fun hc29 => ?_) (fun hc29 => ?_)
          · rw [if_pos hc29] at hv
            refine mW.sn 1 (g' := (160, [some (.ref 69), some (.ref y1), some (.ref t1), some (.ref t2), some (.ref y4), some (.int l5), some (.int l6), some (.int (rd S 69 7)), x8], [.ref 69], (h, q))) rfl ?_
            refine sW.getI rfl hs o69 rfl rfl ?_
            refine mW.no (g1 := (166, [some (.ref 69), some (.ref y1), some (.ref t1), some (.ref t2), some (.ref y4), some (.int l5), some (.int l6), some (.int (rd S 69 7)), x8], [], (h, q))) (g2 := (179, [some (.ref 69), some (.ref y1), some (.ref t1), some (.ref t2), some (.ref y4), some (.int l5), some (.int l6), some (.int (rd S 69 7)), x8], [], (h, q))) (c := (rd S 69 6) = 0) rfl hc12 ?_
            refine mW.sn 2 (g' := (181, [some (.ref 69), some (.ref y1), some (.ref t1), some (.ref t2), some (.ref y4), some (.int l5), some (.int l6), some (.int (rd S 69 7)), x8], [.ref t2, .ref 69], (h, q))) rfl ?_
            cases hr30 : u_fill S t2 with
            | none => rw [hr30] at hv; cases hv
            | some r30 =>
              rw [hr30, o_bind] at hv
              refine sW.call rfl rfl rfl rfl (hs.rcv o69) (s125 ht2 hs hr30) ?_
              intro h31 hs31
              refine mW.sn 1 (g' := (185, [some (.ref 69), some (.ref y1), some (.ref t1), some (.ref t2), some (.ref y4), some (.int l5), some (.int l6), some (.int (rd S 69 7)), x8], [.ref 69], (h31, q))) rfl ?_
              cases hr32 : u_close r30 with
              | none => rw [hr32] at hv; cases hv
              | some r32 =>
                rw [hr32, o_bind] at hv
                refine sW.call rfl rfl rfl rfl (hs31.rcv o69) (s126 hs31 hr32) ?_
                intro h33 hs33
                refine mW.sn 1 (g' := (189, [some (.ref 69), some (.ref y1), some (.ref t1), some (.ref t2), some (.ref y4), some (.int l5), some (.int l6), some (.int (rd S 69 7)), x8], [.int 0], (h33, q))) rfl ?_
                cases hv
                exact sW.fin hs33 rfl
          · rw [if_neg hc29] at hv
            refine mW.sn 2 (g' := (150, [some (.ref 69), some (.ref y1), some (.ref t1), some (.ref t2), some (.ref y4), some (.int l5), some (.int l6), some (.int (rd S 69 7)), x8], [.int 0, .ref t2], (h, q))) rfl ?_
            cases hr34 : t_kind (tT S t2) 0 with
            | none => rw [hr34] at hv; cases hv
            | some r34 =>
              rw [hr34, o_bind] at hv
              refine sW.call rfl rfl rfl rfl (hs.rcvT ht2) (sW.of hs (x70 (hs.gtx ht2) hr34)) ?_
              intro h35 hs35
              refine mW.sn 1 (g' := (154, [some (.ref 69), some (.ref y1), some (.ref t1), some (.ref t2), some (.ref y4), some (.int l5), some (.int l6), some (.int (rd S 69 7)), x8], [.int 5, .int r34], (h35, q))) rfl ?_
              refine mW.br (g1 := (159, [some (.ref 69), some (.ref y1), some (.ref t1), some (.ref t2), some (.ref y4), some (.int l5), some (.int l6), some (.int (rd S 69 7)), x8], [], (h35, q))) (g2 := (157, [some (.ref 69), some (.ref y1), some (.ref t1), some (.ref t2), some (.ref y4), some (.int l5), some (.int l6), some (.int (rd S 69 7)), x8], [], (h35, q))) (c := r34 = (5 : Int32)) rfl (fun hc36 => ?_) (fun hc36 => ?_)
              · rw [if_pos hc36] at hv
                refine mW.sn 1 (g' := (160, [some (.ref 69), some (.ref y1), some (.ref t1), some (.ref t2), some (.ref y4), some (.int l5), some (.int l6), some (.int (rd S 69 7)), x8], [.ref 69], (h35, q))) rfl ?_
                refine sW.getI rfl hs35 o69 rfl rfl ?_
                refine mW.no (g1 := (166, [some (.ref 69), some (.ref y1), some (.ref t1), some (.ref t2), some (.ref y4), some (.int l5), some (.int l6), some (.int (rd S 69 7)), x8], [], (h35, q))) (g2 := (179, [some (.ref 69), some (.ref y1), some (.ref t1), some (.ref t2), some (.ref y4), some (.int l5), some (.int l6), some (.int (rd S 69 7)), x8], [], (h35, q))) (c := (rd S 69 6) = 0) rfl hc12 ?_
                refine mW.sn 2 (g' := (181, [some (.ref 69), some (.ref y1), some (.ref t1), some (.ref t2), some (.ref y4), some (.int l5), some (.int l6), some (.int (rd S 69 7)), x8], [.ref t2, .ref 69], (h35, q))) rfl ?_
                cases hr37 : u_fill S t2 with
                | none => rw [hr37] at hv; cases hv
                | some r37 =>
                  rw [hr37, o_bind] at hv
                  refine sW.call rfl rfl rfl rfl (hs35.rcv o69) (s125 ht2 hs35 hr37) ?_
                  intro h38 hs38
                  refine mW.sn 1 (g' := (185, [some (.ref 69), some (.ref y1), some (.ref t1), some (.ref t2), some (.ref y4), some (.int l5), some (.int l6), some (.int (rd S 69 7)), x8], [.ref 69], (h38, q))) rfl ?_
                  cases hr39 : u_close r37 with
                  | none => rw [hr39] at hv; cases hv
                  | some r39 =>
                    rw [hr39, o_bind] at hv
                    refine sW.call rfl rfl rfl rfl (hs38.rcv o69) (s126 hs38 hr39) ?_
                    intro h40 hs40
                    refine mW.sn 1 (g' := (189, [some (.ref 69), some (.ref y1), some (.ref t1), some (.ref t2), some (.ref y4), some (.int l5), some (.int l6), some (.int (rd S 69 7)), x8], [.int 0], (h40, q))) rfl ?_
                    cases hv
                    exact sW.fin hs40 rfl
              · rw [if_neg hc36] at hv
                refine mW.sn 1 (g' := (158, [some (.ref 69), some (.ref y1), some (.ref t1), some (.ref t2), some (.ref y4), some (.int l5), some (.int l6), some (.int (rd S 69 7)), x8], [.int 1], (h35, q))) rfl ?_
                cases hv
                exact sW.fin hs35 rfl
        · rw [if_neg hc28] at hv
          refine mW.sn 1 (g' := (158, [some (.ref 69), some (.ref y1), some (.ref t1), some (.ref t2), some (.ref y4), some (.int l5), some (.int l6), some (.int (rd S 69 7)), x8], [.int 1], (h, q))) rfl ?_
          cases hv
          exact sW.fin hs rfl
    · rw [if_neg hc11] at hv
      refine mW.sn 1 (g' := (52, [some (.ref 69), some (.ref y1), some (.ref t1), some (.ref t2), some (.ref y4), some (.int l5), some (.int l6), some (.int l7), x8], [.ref 69], (h, q))) rfl ?_
      refine sW.getI rfl hs o69 rfl rfl ?_
      refine mW.br (g1 := (58, [some (.ref 69), some (.ref y1), some (.ref t1), some (.ref t2), some (.ref y4), some (.int l5), some (.int l6), some (.int l7), x8], [], (h, q))) (g2 := (65, [some (.ref 69), some (.ref y1), some (.ref t1), some (.ref t2), some (.ref y4), some (.int l5), some (.int l6), some (.int l7), x8], [], (h, q))) (c := (rd S 69 6) = 0) rfl (fun hc41 => ?_) (fun hc41 => ?_)
      · rw [if_pos hc41] at hv
        refine mW.sn 3 (g' := (62, [some (.ref 69), some (.ref y1), some (.ref t1), some (.ref t2), some (.ref y4), some (.int l5), some (.int l6), some (.int l7), x8], [.int l6, .ref t1, .ref 69], (h, q))) rfl ?_
        cases hr42 : u_null S t1 l6 with
        | none => rw [hr42] at hv; cases hv
        | some r42 =>
          rw [hr42, o_bind] at hv
          refine sW.call rfl rfl rfl rfl (hs.rcv o69) (s105 ht1 hs hr42) ?_
          intro h43 hs43
          refine mW.sn 1 (g' := (66, [some (.ref 69), some (.ref y1), some (.ref t1), some (.ref t2), some (.ref y4), some (.int l5), some (.int l6), some (.int l7), x8], [.ref 69], (h43, q))) rfl ?_
          refine sW.getI rfl hs43 o69 rfl rfl ?_
          refine mW.br (g1 := (82, [some (.ref 69), some (.ref y1), some (.ref t1), some (.ref t2), some (.ref y4), some (.int l5), some (.int l6), some (.int l7), x8], [], (h43, q))) (g2 := (72, [some (.ref 69), some (.ref y1), some (.ref t1), some (.ref t2), some (.ref y4), some (.int l5), some (.int l6), some (.int l7), x8], [], (h43, q))) (c := (rd r42 69 6) = 0) rfl (fun hc44 => ?_) (fun hc44 => ?_)
          · rw [if_pos hc44] at hv
            refine mW.sn 3 (g' := (86, [some (.ref 69), some (.ref y1), some (.ref t1), some (.ref t2), some (.ref y4), some (.int l5), some (.int l6), some (.int l7), x8], [.int l6, .ref t1, .ref 69], (h43, q))) rfl ?_
            cases hr45 : u_goOn r42 t1 l6 with
            | none => rw [hr45] at hv; cases hv
            | some r45 =>
              rw [hr45, o_bind] at hv
              refine sW.call rfl rfl rfl rfl (hs43.rcv o69) (s118 ht1 hs43 hr45) ?_
              intro h46 hs46
              refine mW.sn 2 (g' := (93, [some (.ref 69), some (.ref y1), some (.ref t1), some (.ref t2), some (.ref y4), some (.int l5), some (.int l6), some (.int l7), some (.int r45.2)], [.int r45.2], (h46, q))) rfl ?_
              refine mW.br (g1 := (99, [some (.ref 69), some (.ref y1), some (.ref t1), some (.ref t2), some (.ref y4), some (.int l5), some (.int l6), some (.int l7), some (.int r45.2)], [], (h46, q))) (g2 := (96, [some (.ref 69), some (.ref y1), some (.ref t1), some (.ref t2), some (.ref y4), some (.int l5), some (.int l6), some (.int l7), some (.int r45.2)], [], (h46, q))) (c := r45.2 = 0) rfl (fun hc47 => ?_) (fun hc47 => ?_)
              · rw [if_pos hc47] at hv
                refine mW.sn 2 (g' := (102, [some (.ref 69), some (.ref y1), some (.ref t1), some (.ref t2), some (.ref y4), some (.int l5), some (.int l6), some (.int l7), some (.int r45.2)], [.int l6, .ref t1], (h46, q))) rfl ?_
                cases hr48 : t_next (tT r45.1 t1) l6 with
                | none => rw [hr48] at hv; cases hv
                | some r48 =>
                  rw [hr48, o_bind] at hv
                  refine sW.call rfl rfl rfl rfl (hs46.rcvT ht1) (sW.of hs46 (x81 (hs46.gtx ht1) hr48)) ?_
                  intro h49 hs49
                  refine mW.sn 3 (g' := (44, [some (.ref 69), some (.ref y1), some (.ref t1), some (.ref t2), some (.ref y4), some (.int l5), some (.int r48), some (.int (l7 + 1)), some (.int r45.2)], [], (h49, q))) rfl ?_
                  exact ih _ _ _ _ _ _ _ _ _  hs49 hv
              · rw [if_neg hc47] at hv
                refine mW.sn 1 (g' := (98, [some (.ref 69), some (.ref y1), some (.ref t1), some (.ref t2), some (.ref y4), some (.int l5), some (.int l6), some (.int l7), some (.int r45.2)], [.int r45.2], (h46, q))) rfl ?_
                cases hv
                exact sW.fin hs46 rfl
          · rw [if_neg hc44] at hv
            refine mW.sn 3 (g' := (76, [some (.ref 69), some (.ref y1), some (.ref t1), some (.ref t2), some (.ref y4), some (.int l5), some (.int l6), some (.int l7), x8], [.int l6, .ref t1, .ref 69], (h43, q))) rfl ?_
            cases hr50 : u_grow r42 t1 l6 with
            | none => rw [hr50] at hv; cases hv
            | some r50 =>
              rw [hr50, o_bind] at hv
              refine sW.call rfl rfl rfl rfl (hs43.rcv o69) (s113 ht1 hs43 hr50) ?_
              intro h51 hs51
              refine mW.sn 3 (g' := (93, [some (.ref 69), some (.ref y1), some (.ref t1), some (.ref t2), some (.ref y4), some (.int l5), some (.int l6), some (.int l7), some (.int r50.2)], [.int r50.2], (h51, q))) rfl ?_
              refine mW.br (g1 := (99, [some (.ref 69), some (.ref y1), some (.ref t1), some (.ref t2), some (.ref y4), some (.int l5), some (.int l6), some (.int l7), some (.int r50.2)], [], (h51, q))) (g2 := (96, [some (.ref 69), some (.ref y1), some (.ref t1), some (.ref t2), some (.ref y4), some (.int l5), some (.int l6), some (.int l7), some (.int r50.2)], [], (h51, q))) (c := r50.2 = 0) rfl (fun hc52 => ?_) (fun hc52 => ?_)
              · rw [if_pos hc52] at hv
                refine mW.sn 2 (g' := (102, [some (.ref 69), some (.ref y1), some (.ref t1), some (.ref t2), some (.ref y4), some (.int l5), some (.int l6), some (.int l7), some (.int r50.2)], [.int l6, .ref t1], (h51, q))) rfl ?_
                cases hr53 : t_next (tT r50.1 t1) l6 with
                | none => rw [hr53] at hv; cases hv
                | some r53 =>
                  rw [hr53, o_bind] at hv
                  refine sW.call rfl rfl rfl rfl (hs51.rcvT ht1) (sW.of hs51 (x81 (hs51.gtx ht1) hr53)) ?_
                  intro h54 hs54
                  refine mW.sn 3 (g' := (44, [some (.ref 69), some (.ref y1), some (.ref t1), some (.ref t2), some (.ref y4), some (.int l5), some (.int r53), some (.int (l7 + 1)), some (.int r50.2)], [], (h54, q))) rfl ?_
                  exact ih _ _ _ _ _ _ _ _ _  hs54 hv
              · rw [if_neg hc52] at hv
                refine mW.sn 1 (g' := (98, [some (.ref 69), some (.ref y1), some (.ref t1), some (.ref t2), some (.ref y4), some (.int l5), some (.int l6), some (.int l7), some (.int r50.2)], [.int r50.2], (h51, q))) rfl ?_
                cases hv
                exact sW.fin hs51 rfl
      · rw [if_neg hc41] at hv
        refine mW.sn 1 (g' := (66, [some (.ref 69), some (.ref y1), some (.ref t1), some (.ref t2), some (.ref y4), some (.int l5), some (.int l6), some (.int l7), x8], [.ref 69], (h, q))) rfl ?_
        refine sW.getI rfl hs o69 rfl rfl ?_
        refine mW.no (g1 := (82, [some (.ref 69), some (.ref y1), some (.ref t1), some (.ref t2), some (.ref y4), some (.int l5), some (.int l6), some (.int l7), x8], [], (h, q))) (g2 := (72, [some (.ref 69), some (.ref y1), some (.ref t1), some (.ref t2), some (.ref y4), some (.int l5), some (.int l6), some (.int l7), x8], [], (h, q))) (c := (rd S 69 6) = 0) rfl hc41 ?_
        refine mW.sn 3 (g' := (76, [some (.ref 69), some (.ref y1), some (.ref t1), some (.ref t2), some (.ref y4), some (.int l5), some (.int l6), some (.int l7), x8], [.int l6, .ref t1, .ref 69], (h, q))) rfl ?_
        cases hr55 : u_grow S t1 l6 with
        | none => rw [hr55] at hv; cases hv
        | some r55 =>
          rw [hr55, o_bind] at hv
          refine sW.call rfl rfl rfl rfl (hs.rcv o69) (s113 ht1 hs hr55) ?_
          intro h56 hs56
          refine mW.sn 3 (g' := (93, [some (.ref 69), some (.ref y1), some (.ref t1), some (.ref t2), some (.ref y4), some (.int l5), some (.int l6), some (.int l7), some (.int r55.2)], [.int r55.2], (h56, q))) rfl ?_
          refine mW.br (g1 := (99, [some (.ref 69), some (.ref y1), some (.ref t1), some (.ref t2), some (.ref y4), some (.int l5), some (.int l6), some (.int l7), some (.int r55.2)], [], (h56, q))) (g2 := (96, [some (.ref 69), some (.ref y1), some (.ref t1), some (.ref t2), some (.ref y4), some (.int l5), some (.int l6), some (.int l7), some (.int r55.2)], [], (h56, q))) (c := r55.2 = 0) rfl (fun hc57 => ?_) (fun hc57 => ?_)
          · rw [if_pos hc57] at hv
            refine mW.sn 2 (g' := (102, [some (.ref 69), some (.ref y1), some (.ref t1), some (.ref t2), some (.ref y4), some (.int l5), some (.int l6), some (.int l7), some (.int r55.2)], [.int l6, .ref t1], (h56, q))) rfl ?_
            cases hr58 : t_next (tT r55.1 t1) l6 with
            | none => rw [hr58] at hv; cases hv
            | some r58 =>
              rw [hr58, o_bind] at hv
              refine sW.call rfl rfl rfl rfl (hs56.rcvT ht1) (sW.of hs56 (x81 (hs56.gtx ht1) hr58)) ?_
              intro h59 hs59
              refine mW.sn 3 (g' := (44, [some (.ref 69), some (.ref y1), some (.ref t1), some (.ref t2), some (.ref y4), some (.int l5), some (.int r58), some (.int (l7 + 1)), some (.int r55.2)], [], (h59, q))) rfl ?_
              exact ih _ _ _ _ _ _ _ _ _  hs59 hv
          · rw [if_neg hc57] at hv
            refine mW.sn 1 (g' := (98, [some (.ref 69), some (.ref y1), some (.ref t1), some (.ref t2), some (.ref y4), some (.int l5), some (.int l6), some (.int l7), some (.int r55.2)], [.int r55.2], (h56, q))) rfl ?_
            cases hv
            exact sW.fin hs56 rfl
def u_put (S : SS) (t0 : Nat) (t1 : Nat) (t2 : Nat) (t3 : Nat) : Option (SS × Int32) := ((t_kind (tT S t1) 0).bind fun r1 => (if r1 = (5 : Int32) then ((t_items (tT S t1) 0).bind fun r4 => (if r4 ≤ (100 : Int32) then ((u_begin S t0 t3).bind fun r7 => ((t_first (tT r7 t1) 0).bind fun r9 => u_put_l44 t0 t1 t2 t3 10000 r7 r4 r9 0)) else some (S, 2))) else some (S, 1)))
theorem s103 {S : SS} {t0 : Nat} (ht0 : t0 ∈ shT) {t1 : Nat} (ht1 : t1 ∈ shT) {t2 : Nat} (ht2 : t2 ∈ shT) {t3 : Nat} (ht3 : t3 ∈ shT) {v : SS × Int32} (hs : cs h S) (hv : u_put S t0 t1 t2 t3 = some v) : mW (d + 9) mm103 (0, [some (.ref 69), some (.ref t0), some (.ref t1), some (.ref t2), some (.ref t3), none, none, none, none], [], (h, q)) (mQ q v.1 (some (.int v.2))) := by
  unfold u_put at hv
  refine mW.sn 2 (g' := (2, [some (.ref 69), some (.ref t0), some (.ref t1), some (.ref t2), some (.ref t3), none, none, none, none], [.int 0, .ref t1], (h, q))) rfl ?_
  cases hr1 : t_kind (tT S t1) 0 with
  | none => rw [hr1] at hv; cases hv
  | some r1 =>
    rw [hr1, o_bind] at hv
    refine sW.call rfl rfl rfl rfl (hs.rcvT ht1) (sW.of hs (x70 (hs.gtx ht1) hr1)) ?_
    intro h2 hs2
    refine mW.sn 1 (g' := (6, [some (.ref 69), some (.ref t0), some (.ref t1), some (.ref t2), some (.ref t3), none, none, none, none], [.int 5, .int r1], (h2, q))) rfl ?_
    refine mW.br (g1 := (11, [some (.ref 69), some (.ref t0), some (.ref t1), some (.ref t2), some (.ref t3), none, none, none, none], [], (h2, q))) (g2 := (9, [some (.ref 69), some (.ref t0), some (.ref t1), some (.ref t2), some (.ref t3), none, none, none, none], [], (h2, q))) (c := r1 = (5 : Int32)) rfl (fun hc3 => ?_) (fun hc3 => ?_)
    · rw [if_pos hc3] at hv
      refine mW.sn 2 (g' := (13, [some (.ref 69), some (.ref t0), some (.ref t1), some (.ref t2), some (.ref t3), none, none, none, none], [.int 0, .ref t1], (h2, q))) rfl ?_
      cases hr4 : t_items (tT S t1) 0 with
      | none => rw [hr4] at hv; cases hv
      | some r4 =>
        rw [hr4, o_bind] at hv
        refine sW.call rfl rfl rfl rfl (hs2.rcvT ht1) (sW.of hs2 (x86 (hs2.gtx ht1) hr4)) ?_
        intro h5 hs5
        refine mW.sn 3 (g' := (22, [some (.ref 69), some (.ref t0), some (.ref t1), some (.ref t2), some (.ref t3), some (.int r4), none, none, none], [.int 100, .int r4], (h5, q))) rfl ?_
        refine mW.br (g1 := (27, [some (.ref 69), some (.ref t0), some (.ref t1), some (.ref t2), some (.ref t3), some (.int r4), none, none, none], [], (h5, q))) (g2 := (25, [some (.ref 69), some (.ref t0), some (.ref t1), some (.ref t2), some (.ref t3), some (.int r4), none, none, none], [], (h5, q))) (c := r4 ≤ (100 : Int32)) rfl (fun hc6 => ?_) (fun hc6 => ?_)
        · rw [if_pos hc6] at hv
          refine mW.sn 3 (g' := (31, [some (.ref 69), some (.ref t0), some (.ref t1), some (.ref t2), some (.ref t3), some (.int r4), none, none, none], [.ref t3, .ref t0, .ref 69], (h5, q))) rfl ?_
          cases hr7 : u_begin S t0 t3 with
          | none => rw [hr7] at hv; cases hv
          | some r7 =>
            rw [hr7, o_bind] at hv
            refine sW.call rfl rfl rfl rfl (hs5.rcv o69) (s104 ht0 ht3 hs5 hr7) ?_
            intro h8 hs8
            refine mW.sn 2 (g' := (36, [some (.ref 69), some (.ref t0), some (.ref t1), some (.ref t2), some (.ref t3), some (.int r4), none, none, none], [.int 0, .ref t1], (h8, q))) rfl ?_
            cases hr9 : t_first (tT r7 t1) 0 with
            | none => rw [hr9] at hv; cases hv
            | some r9 =>
              rw [hr9, o_bind] at hv
              refine sW.call rfl rfl rfl rfl (hs8.rcvT ht1) (sW.of hs8 (x74 (hs8.gtx ht1) hr9)) ?_
              intro h10 hs10
              refine mW.sn 3 (g' := (44, [some (.ref 69), some (.ref t0), some (.ref t1), some (.ref t2), some (.ref t3), some (.int r4), some (.int r9), some (.int 0), none], [], (h10, q))) rfl ?_
              exact u_put_l44_ok ht0 ht1 ht2 ht3 _ _ _ _ _ _ _ _ _ _  hs10 hv
        · rw [if_neg hc6] at hv
          refine mW.sn 1 (g' := (26, [some (.ref 69), some (.ref t0), some (.ref t1), some (.ref t2), some (.ref t3), some (.int r4), none, none, none], [.int 2], (h5, q))) rfl ?_
          cases hv
          exact sW.fin hs5 rfl
    · rw [if_neg hc3] at hv
      refine mW.sn 1 (g' := (10, [some (.ref 69), some (.ref t0), some (.ref t1), some (.ref t2), some (.ref t3), none, none, none, none], [.int 1], (h2, q))) rfl ?_
      cases hv
      exact sW.fin hs2 rfl
end
