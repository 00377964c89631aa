/-! PRINTED BY wip/whole (dec2): the class's calls. -/
section
set_option maxRecDepth 4000
variable {d : Nat} {h : mH} {q : Nat × Nat}
def a_reg (S : SS) (p0 : Int32) : Option (SS × Nat) := (if p0 < 0 then some (S, 2) else (if p0 < (8 : Int32) then some (S, 0) else some (S, 2)))
theorem s33 {S : SS} {p0 : Int32} {v : SS × Nat} (hs : cs h S) (hK : 1 ≤ q.1 ∧ 6 ≤ q.2) (hv : a_reg S p0 = some v) : mW (d + 8) mm33 (0, [some (.int p0)], [], (h, q)) (mX q v.1 v.2 none) := by
  unfold a_reg at hv
  refine mW.sn 1 (g' := (1, [some (.int p0)], [.int p0], (h, q))) rfl ?_
  refine mW.br (g1 := (10, [some (.int p0)], [], (h, q))) (g2 := (4, [some (.int p0)], [], (h, q))) (c := p0 < 0) rfl (fun hc1 => ?_) (fun hc1 => ?_)
  · rw [if_pos hc1] at hv
    cases hv
    exact sW.thr rfl rfl hs hK (by omega) (by decide)
  · rw [if_neg hc1] at hv
    refine mW.sn 2 (g' := (7, [some (.int p0)], [.int 8, .int p0], (h, q))) rfl ?_
    refine mW.br (g1 := (18, [some (.int p0)], [], (h, q))) (g2 := (10, [some (.int p0)], [], (h, q))) (c := p0 < (8 : Int32)) rfl (fun hc2 => ?_) (fun hc2 => ?_)
    · rw [if_pos hc2] at hv
      cases hv
      exact sW.finX hs rfl
    · rw [if_neg hc2] at hv
      cases hv
      exact sW.thr rfl rfl hs hK (by omega) (by decide)
def a_refuse (S : SS) (p0 : Int32) : Option (SS × Nat) := (if p0 = 0 then some (S, 0) else some (wr S 41 11 p0, 4))
theorem s71 {S : SS} {p0 : Int32} {v : SS × Nat} (hs : cs h S) (hK : 1 ≤ q.1 ∧ 6 ≤ q.2) (hv : a_refuse S p0 = some v) : mW (d + 8) mm71 (0, [some (.ref 41), some (.int p0)], [], (h, q)) (mX q v.1 v.2 none) := by
  unfold a_refuse at hv
  refine mW.sn 1 (g' := (1, [some (.ref 41), some (.int p0)], [.int p0], (h, q))) rfl ?_
  refine mW.br (g1 := (17, [some (.ref 41), some (.int p0)], [], (h, q))) (g2 := (4, [some (.ref 41), some (.int p0)], [], (h, q))) (c := p0 = 0) rfl (fun hc1 => ?_) (fun hc1 => ?_)
  · rw [if_pos hc1] at hv
    cases hv
    exact sW.finX hs rfl
  · rw [if_neg hc1] at hv
    refine mW.sn 2 (g' := (6, [some (.ref 41), some (.int p0)], [.int p0, .ref 41], (h, q))) rfl ?_
    refine sW.putI rfl hs o41 rfl ?_
    intro h2 hs2
    cases hv
    exact sW.thr rfl rfl hs2 hK (by omega) (by decide)
def a_keep (S : SS) (p0 : Int32) : Option (SS × Nat) := (if ((tV S ((rd S 41 9).toNatClampNeg)) &&& 1) = 0 then ((t_depth (tT S ((rd S 41 9).toNatClampNeg))).bind fun r3 => (if r3 ≤ (60 : Int32) then ((iget (S 46) p0).bind fun b6 => ((iset (S 46) p0 (Int32.ofNat ((rd S 41 9).toNatClampNeg))).bind fun z7 => some (wr (up S 46 z7) 41 9 (Int32.ofNat b6.toNatClampNeg), 0))) else some (S, 1))) else some (S, 1))
theorem s62 {S : SS} {p0 : Int32} {v : SS × Nat} (hs : cs h S) (hK : 1 ≤ q.1 ∧ 6 ≤ q.2) (hv : a_keep S p0 = some v) : mW (d + 8) mm62 (0, [some (.ref 41), some (.int p0), none], [], (h, q)) (mX q v.1 v.2 none) := by
  unfold a_keep at hv
  refine mW.sn 1 (g' := (1, [some (.ref 41), some (.int p0), none], [.ref 41], (h, q))) rfl ?_
  refine sW.getT rfl hs o41 rfl ?_
  refine sW.call rfl rfl rfl rfl (hs.rcvT (hs.okT o41 rfl)) (sW.of hs (x63 (hs.gtx (hs.okT o41 rfl)))) ?_
  intro h1 hs1
  refine mW.br (g1 := (10, [some (.ref 41), some (.int p0), none], [], (h1, q))) (g2 := (22, [some (.ref 41), some (.int p0), none], [], (h1, q))) (c := ((tV S ((rd S 41 9).toNatClampNeg)) &&& 1) = 0) rfl (fun hc2 => ?_) (fun hc2 => ?_)
  · rw [if_pos hc2] at hv
    refine mW.sn 1 (g' := (11, [some (.ref 41), some (.int p0), none], [.ref 41], (h1, q))) rfl ?_
    refine sW.getT rfl hs1 o41 rfl ?_
    cases hr3 : t_depth (tT S ((rd S 41 9).toNatClampNeg)) with
    | none => rw [hr3] at hv; cases hv
    | some r3 =>
      rw [hr3, o_bind] at hv
      refine sW.call rfl rfl rfl rfl (hs1.rcvT (hs1.okT o41 rfl)) (sW.of hs1 (x64 (hs1.gtx (hs1.okT o41 rfl)) hr3)) ?_
      intro h4 hs4
      refine mW.sn 1 (g' := (19, [some (.ref 41), some (.int p0), none], [.int 60, .int r3], (h4, q))) rfl ?_
      refine mW.br (g1 := (30, [some (.ref 41), some (.int p0), none], [], (h4, q))) (g2 := (22, [some (.ref 41), some (.int p0), none], [], (h4, q))) (c := r3 ≤ (60 : Int32)) rfl (fun hc5 => ?_) (fun hc5 => ?_)
      · rw [if_pos hc5] at hv
        refine mW.sn 1 (g' := (31, [some (.ref 41), some (.int p0), none], [.ref 41], (h4, q))) rfl ?_
        refine sW.getR rfl hs4 o41 rfl rfl ?_
        refine mW.sn 1 (g' := (35, [some (.ref 41), some (.int p0), none], [.int p0, .ref 46], (h4, q))) rfl ?_
        cases hr6 : iget (S 46) p0 with
        | none => rw [hr6] at hv; cases hv
        | some b6 =>
          rw [hr6, o_bind] at hv
          refine sW.aald46 rfl hs4 hr6 ?_
          refine mW.sn 2 (g' := (38, [some (.ref 41), some (.int p0), some (.ref b6.toNatClampNeg)], [.ref 41], (h4, q))) rfl ?_
          refine sW.getR rfl hs4 o41 rfl rfl ?_
          refine mW.sn 2 (g' := (43, [some (.ref 41), some (.int p0), some (.ref b6.toNatClampNeg)], [.ref 41, .int p0, .ref 46], (h4, q))) rfl ?_
          refine sW.getT rfl hs4 o41 rfl ?_
          cases hr7 : iset (S 46) p0 (Int32.ofNat ((rd S 41 9).toNatClampNeg)) with
          | none => rw [hr7] at hv; cases hv
          | some z7 =>
            rw [hr7, o_bind] at hv
            refine sW.aast46 rfl hs4 (hs4.okT o41 rfl) hr7 ?_
            intro h8 hs8
            refine mW.sn 2 (g' := (49, [some (.ref 41), some (.int p0), some (.ref b6.toNatClampNeg)], [.ref b6.toNatClampNeg, .ref 41], (h8, q))) rfl ?_
            refine sW.putT rfl hs8 o41 rfl (hs4.ok46 hr6) ?_
            intro h9 hs9
            cases hv
            exact sW.finX hs9 rfl
      · rw [if_neg hc5] at hv
        cases hv
        exact sW.thr rfl rfl hs4 hK (by omega) (by decide)
  · rw [if_neg hc2] at hv
    cases hv
    exact sW.thr rfl rfl hs1 hK (by omega) (by decide)
def a_read (S : SS) (p0 : Int32) : Option (SS × Nat × Int32) := ((a_reg S p0).bind fun r1 => if r1.2 = 0 then ((c_parse r1.1 ((rd r1.1 41 9).toNatClampNeg)).bind fun r3 => (if (rd (up (wr r3.1 41 10 r3.2) 42 [0]) 41 10) = (-1 : Int32) then ((a_keep (up (wr r3.1 41 10 r3.2) 42 [0]) p0).bind fun r8 => if r8.2 = 0 then ((iget (r8.1 46) p0).bind fun b10 => some (r8.1, 0, Int32.ofNat (tT r8.1 b10.toNatClampNeg).length)) else some (r8.1, r8.2, 0)) else some (up (wr r3.1 41 10 r3.2) 42 [0], 3, 0))) else some (r1.1, r1.2, 0))
theorem s32 {S : SS} {p0 : Int32} {v : SS × Nat × Int32} (hs : cs h S) (hK : 1 ≤ q.1 ∧ 6 ≤ q.2) (hv : a_read S p0 = some v) : mW (d + 602) mm32 (0, [some (.ref 41), some (.int p0)], [], (h, q)) (mX q v.1 v.2.1 (some (.int v.2.2))) := by
  unfold a_read at hv
  refine mW.sn 1 (g' := (1, [some (.ref 41), some (.int p0)], [.int p0], (h, q))) rfl ?_
  cases hr1 : a_reg S p0 with
  | none => rw [hr1] at hv; cases hv
  | some r1 =>
    rw [hr1, o_bind] at hv
    by_cases ht1 : r1.2 = 0
    case neg =>
      rw [if_neg ht1] at hv
      cases hv
      exact sW.callXT rfl rfl rfl rfl rfl rfl (s33 hs hK hr1) ht1
    rw [if_pos ht1] at hv
    refine sW.callX0 rfl rfl rfl rfl rfl (s33 hs hK hr1) ht1 ?_
    intro h2 hs2
    refine mW.sn 2 (g' := (6, [some (.ref 41), some (.int p0)], [.ref 41, .ref 41], (h2, q))) rfl ?_
    refine sW.getR rfl hs2 o41 rfl rfl ?_
    refine mW.sn 1 (g' := (10, [some (.ref 41), some (.int p0)], [.ref 41, .ref 68, .ref 41], (h2, q))) rfl ?_
    refine sW.getT rfl hs2 o41 rfl ?_
    cases hr3 : c_parse r1.1 ((rd r1.1 41 9).toNatClampNeg) with
    | none => rw [hr3] at hv; cases hv
    | some r3 =>
      rw [hr3, o_bind] at hv
      refine sW.call rfl rfl rfl rfl (hs2.rcv o68) (s34 (hs2.okT o41 rfl) hs2 hr3) ?_
      intro h4 hs4
      refine sW.putI rfl hs4 o41 rfl ?_
      intro h5 hs5
      refine mW.sn 1 (g' := (20, [some (.ref 41), some (.int p0)], [.ref 41], (h5, q))) rfl ?_
      refine sW.getR rfl hs5 o41 rfl rfl ?_
      refine sW.call rfl rfl rfl rfl (hs5.rcvT (by decide)) (s35 hs5 (by decide)) ?_
      intro h6 hs6
      refine mW.sn 1 (g' := (27, [some (.ref 41), some (.int p0)], [.ref 41], (h6, q))) rfl ?_
      refine sW.getI rfl hs6 o41 rfl rfl ?_
      refine mW.sn 1 (g' := (31, [some (.ref 41), some (.int p0)], [.int (-1), .int (rd (up (wr r3.1 41 10 r3.2) 42 [0]) 41 10)], (h6, q))) rfl ?_
      refine mW.br (g1 := (42, [some (.ref 41), some (.int p0)], [], (h6, q))) (g2 := (34, [some (.ref 41), some (.int p0)], [], (h6, q))) (c := (rd (up (wr r3.1 41 10 r3.2) 42 [0]) 41 10) = (-1 : Int32)) rfl (fun hc7 => ?_) (fun hc7 => ?_)
      · rw [if_pos hc7] at hv
        refine mW.sn 2 (g' := (44, [some (.ref 41), some (.int p0)], [.int p0, .ref 41], (h6, q))) rfl ?_
        cases hr8 : a_keep (up (wr r3.1 41 10 r3.2) 42 [0]) p0 with
        | none => rw [hr8] at hv; cases hv
        | some r8 =>
          rw [hr8, o_bind] at hv
          by_cases ht8 : r8.2 = 0
          case neg =>
            rw [if_neg ht8] at hv
            cases hv
            exact sW.callXT rfl rfl rfl rfl (hs6.rcv o41) rfl (s62 hs6 hK hr8) ht8
          rw [if_pos ht8] at hv
          refine sW.callX0 rfl rfl rfl rfl (hs6.rcv o41) (s62 hs6 hK hr8) ht8 ?_
          intro h9 hs9
          refine mW.sn 1 (g' := (48, [some (.ref 41), some (.int p0)], [.ref 41], (h9, q))) rfl ?_
          refine sW.getR rfl hs9 o41 rfl rfl ?_
          refine mW.sn 1 (g' := (52, [some (.ref 41), some (.int p0)], [.int p0, .ref 46], (h9, q))) rfl ?_
          cases hr10 : iget (r8.1 46) p0 with
          | none => rw [hr10] at hv; cases hv
          | some b10 =>
            rw [hr10, o_bind] at hv
            refine sW.aald46 rfl hs9 hr10 ?_
            refine sW.call rfl rfl rfl rfl (hs9.rcvT (hs9.ok46 hr10)) (sW.of hs9 (x24 (hs9.gtx (hs9.ok46 hr10)))) ?_
            intro h11 hs11
            cases hv
            exact sW.finX hs11 rfl
      · rw [if_neg hc7] at hv
        cases hv
        exact sW.thr rfl rfl hs6 hK (by omega) (by decide)
def a_print (S : SS) (p0 : Int32) : Option (SS × Nat × Int32) := ((a_reg S p0).bind fun r1 => if r1.2 = 0 then ((iget (r1.1 46) p0).bind fun b3 => ((scopy r1.1 44 b3.toNatClampNeg).bind fun r4 => some (r4, 0, Int32.ofNat (tT r4 44).length))) else some (r1.1, r1.2, 0))
theorem s66 {S : SS} {p0 : Int32} {v : SS × Nat × Int32} (hs : cs h S) (hK : 1 ≤ q.1 ∧ 6 ≤ q.2) (hv : a_print S p0 = some v) : mW (d + 9) mm66 (0, [some (.ref 41), some (.int p0)], [], (h, q)) (mX q v.1 v.2.1 (some (.int v.2.2))) := by
  unfold a_print at hv
  refine mW.sn 1 (g' := (1, [some (.ref 41), some (.int p0)], [.int p0], (h, q))) rfl ?_
  cases hr1 : a_reg S p0 with
  | none => rw [hr1] at hv; cases hv
  | some r1 =>
    rw [hr1, o_bind] at hv
    by_cases ht1 : r1.2 = 0
    case neg =>
      rw [if_neg ht1] at hv
      cases hv
      exact sW.callXT rfl rfl rfl rfl rfl rfl (s33 hs hK hr1) ht1
    rw [if_pos ht1] at hv
    refine sW.callX0 rfl rfl rfl rfl rfl (s33 hs hK hr1) ht1 ?_
    intro h2 hs2
    refine mW.sn 1 (g' := (5, [some (.ref 41), some (.int p0)], [.ref 41], (h2, q))) rfl ?_
    refine sW.getR rfl hs2 o41 rfl rfl ?_
    refine mW.sn 1 (g' := (9, [some (.ref 41), some (.int p0)], [.ref 41, .ref 44], (h2, q))) rfl ?_
    refine sW.getR rfl hs2 o41 rfl rfl ?_
    refine mW.sn 1 (g' := (13, [some (.ref 41), some (.int p0)], [.int p0, .ref 46, .ref 44], (h2, q))) rfl ?_
    cases hr3 : iget (r1.1 46) p0 with
    | none => rw [hr3] at hv; cases hv
    | some b3 =>
      rw [hr3, o_bind] at hv
      refine sW.aald46 rfl hs2 hr3 ?_
      cases hr4 : scopy r1.1 44 b3.toNatClampNeg with
      | none => rw [hr4] at hv; cases hv
      | some r4 =>
        rw [hr4, o_bind] at hv
        refine sW.call rfl rfl rfl rfl (hs2.rcvT (by decide)) (s67 (by decide) (hs2.ok46 hr3) hs2 hr4) ?_
        intro h5 hs5
        refine mW.sn 1 (g' := (18, [some (.ref 41), some (.int p0)], [.ref 41], (h5, q))) rfl ?_
        refine sW.getR rfl hs5 o41 rfl rfl ?_
        refine sW.call rfl rfl rfl rfl (hs5.rcvT (by decide)) (sW.of hs5 (x24 (hs5.gtx (by decide)))) ?_
        intro h6 hs6
        cases hv
        exact sW.finX hs6 rfl
def a_get (S : SS) (p0 : Int32) (p1 : Int32) (p2 : Int32) : Option (SS × Nat) := ((a_reg S p0).bind fun r1 => if r1.2 = 0 then ((a_reg r1.1 p1).bind fun r3 => if r3.2 = 0 then ((a_reg r3.1 p2).bind fun r5 => if r5.2 = 0 then ((iget (r5.1 46) p2).bind fun b7 => ((t_kind (tT r5.1 b7.toNatClampNeg) 0).bind fun r8 => (if r8 = (5 : Int32) then ((a_refuse r5.1 0).bind fun r11 => if r11.2 = 0 then ((iget (r11.1 46) p1).bind fun b13 => ((iget (r11.1 46) p2).bind fun b14 => ((p_follow r11.1 b13.toNatClampNeg b14.toNatClampNeg 0).bind fun r15 => ((a_refuse r15.1 r15.2).bind fun r17 => if r17.2 = 0 then ((p_writeTo (up r17.1 ((rd r17.1 41 9).toNatClampNeg) [0]) ((rd (up r17.1 ((rd r17.1 41 9).toNatClampNeg) [0]) 41 9).toNatClampNeg)).bind fun r20 => ((a_keep r20 p0).bind fun r22 => if r22.2 = 0 then some (r22.1, 0) else some (r22.1, r22.2))) else some (r17.1, r17.2))))) else some (r11.1, r11.2)) else ((a_refuse r5.1 1).bind fun r24 => if r24.2 = 0 then ((iget (r24.1 46) p1).bind fun b26 => ((iget (r24.1 46) p2).bind fun b27 => ((p_follow r24.1 b26.toNatClampNeg b27.toNatClampNeg 0).bind fun r28 => ((a_refuse r28.1 r28.2).bind fun r30 => if r30.2 = 0 then ((p_writeTo (up r30.1 ((rd r30.1 41 9).toNatClampNeg) [0]) ((rd (up r30.1 ((rd r30.1 41 9).toNatClampNeg) [0]) 41 9).toNatClampNeg)).bind fun r33 => ((a_keep r33 p0).bind fun r35 => if r35.2 = 0 then some (r35.1, 0) else some (r35.1, r35.2))) else some (r30.1, r30.2))))) else some (r24.1, r24.2))))) else some (r5.1, r5.2)) else some (r3.1, r3.2)) else some (r1.1, r1.2))
theorem s69 {S : SS} {p0 : Int32} {p1 : Int32} {p2 : Int32} {v : SS × Nat} (hs : cs h S) (hK : 1 ≤ q.1 ∧ 6 ≤ q.2) (hv : a_get S p0 p1 p2 = some v) : mW (d + 9) mm69 (0, [some (.ref 41), some (.int p0), some (.int p1), some (.int p2)], [], (h, q)) (mX q v.1 v.2 none) := by
  unfold a_get at hv
  refine mW.sn 1 (g' := (1, [some (.ref 41), some (.int p0), some (.int p1), some (.int p2)], [.int p0], (h, q))) rfl ?_
  cases hr1 : a_reg S p0 with
  | none => rw [hr1] at hv; cases hv
  | some r1 =>
    rw [hr1, o_bind] at hv
    by_cases ht1 : r1.2 = 0
    case neg =>
      rw [if_neg ht1] at hv
      cases hv
      exact sW.callXT rfl rfl rfl rfl rfl rfl (s33 hs hK hr1) ht1
    rw [if_pos ht1] at hv
    refine sW.callX0 rfl rfl rfl rfl rfl (s33 hs hK hr1) ht1 ?_
    intro h2 hs2
    refine mW.sn 1 (g' := (5, [some (.ref 41), some (.int p0), some (.int p1), some (.int p2)], [.int p1], (h2, q))) rfl ?_
    cases hr3 : a_reg r1.1 p1 with
    | none => rw [hr3] at hv; cases hv
    | some r3 =>
      rw [hr3, o_bind] at hv
      by_cases ht3 : r3.2 = 0
      case neg =>
        rw [if_neg ht3] at hv
        cases hv
        exact sW.callXT rfl rfl rfl rfl rfl rfl (s33 hs2 hK hr3) ht3
      rw [if_pos ht3] at hv
      refine sW.callX0 rfl rfl rfl rfl rfl (s33 hs2 hK hr3) ht3 ?_
      intro h4 hs4
      refine mW.sn 1 (g' := (9, [some (.ref 41), some (.int p0), some (.int p1), some (.int p2)], [.int p2], (h4, q))) rfl ?_
      cases hr5 : a_reg r3.1 p2 with
      | none => rw [hr5] at hv; cases hv
      | some r5 =>
        rw [hr5, o_bind] at hv
        by_cases ht5 : r5.2 = 0
        case neg =>
          rw [if_neg ht5] at hv
          cases hv
          exact sW.callXT rfl rfl rfl rfl rfl rfl (s33 hs4 hK hr5) ht5
        rw [if_pos ht5] at hv
        refine sW.callX0 rfl rfl rfl rfl rfl (s33 hs4 hK hr5) ht5 ?_
        intro h6 hs6
        refine mW.sn 2 (g' := (14, [some (.ref 41), some (.int p0), some (.int p1), some (.int p2)], [.ref 41, .ref 41], (h6, q))) rfl ?_
        refine sW.getR rfl hs6 o41 rfl rfl ?_
        refine mW.sn 1 (g' := (18, [some (.ref 41), some (.int p0), some (.int p1), some (.int p2)], [.int p2, .ref 46, .ref 41], (h6, q))) rfl ?_
        cases hr7 : iget (r5.1 46) p2 with
        | none => rw [hr7] at hv; cases hv
        | some b7 =>
          rw [hr7, o_bind] at hv
          refine sW.aald46 rfl hs6 hr7 ?_
          refine mW.sn 1 (g' := (20, [some (.ref 41), some (.int p0), some (.int p1), some (.int p2)], [.int 0, .ref b7.toNatClampNeg, .ref 41], (h6, q))) rfl ?_
          cases hr8 : t_kind (tT r5.1 b7.toNatClampNeg) 0 with
          | none => rw [hr8] at hv; cases hv
          | some r8 =>
            rw [hr8, o_bind] at hv
            refine sW.call rfl rfl rfl rfl (hs6.rcvT (hs6.ok46 hr7)) (sW.of hs6 (x70 (hs6.gtx (hs6.ok46 hr7)) hr8)) ?_
            intro h9 hs9
            refine mW.sn 1 (g' := (24, [some (.ref 41), some (.int p0), some (.int p1), some (.int p2)], [.int 5, .int r8, .ref 41], (h9, q))) rfl ?_
            refine mW.br (g1 := (27, [some (.ref 41), some (.int p0), some (.int p1), some (.int p2)], [.ref 41], (h9, q))) (g2 := (31, [some (.ref 41), some (.int p0), some (.int p1), some (.int p2)], [.ref 41], (h9, q))) (c := r8 = (5 : Int32)) rfl (fun hc10 => ?_) (fun hc10 => ?_)
            · rw [if_pos hc10] at hv
              refine mW.sn 2 (g' := (32, [some (.ref 41), some (.int p0), some (.int p1), some (.int p2)], [.int 0, .ref 41], (h9, q))) rfl ?_
              cases hr11 : a_refuse r5.1 0 with
              | none => rw [hr11] at hv; cases hv
              | some r11 =>
                rw [hr11, o_bind] at hv
                by_cases ht11 : r11.2 = 0
                case neg =>
                  rw [if_neg ht11] at hv
                  cases hv
                  exact sW.callXT rfl rfl rfl rfl (hs9.rcv o41) rfl (s71 hs9 hK hr11) ht11
                rw [if_pos ht11] at hv
                refine sW.callX0 rfl rfl rfl rfl (hs9.rcv o41) (s71 hs9 hK hr11) ht11 ?_
                intro h12 hs12
                refine mW.sn 2 (g' := (37, [some (.ref 41), some (.int p0), some (.int p1), some (.int p2)], [.ref 41, .ref 41], (h12, q))) rfl ?_
                refine sW.getR rfl hs12 o41 rfl rfl ?_
                refine mW.sn 1 (g' := (41, [some (.ref 41), some (.int p0), some (.int p1), some (.int p2)], [.ref 41, .ref 67, .ref 41], (h12, q))) rfl ?_
                refine sW.getR rfl hs12 o41 rfl rfl ?_
                refine mW.sn 1 (g' := (45, [some (.ref 41), some (.int p0), some (.int p1), some (.int p2)], [.int p1, .ref 46, .ref 67, .ref 41], (h12, q))) rfl ?_
                cases hr13 : iget (r11.1 46) p1 with
                | none => rw [hr13] at hv; cases hv
                | some b13 =>
                  rw [hr13, o_bind] at hv
                  refine sW.aald46 rfl hs12 hr13 ?_
                  refine mW.sn 1 (g' := (47, [some (.ref 41), some (.int p0), some (.int p1), some (.int p2)], [.ref 41, .ref b13.toNatClampNeg, .ref 67, .ref 41], (h12, q))) rfl ?_
                  refine sW.getR rfl hs12 o41 rfl rfl ?_
                  refine mW.sn 1 (g' := (51, [some (.ref 41), some (.int p0), some (.int p1), some (.int p2)], [.int p2, .ref 46, .ref b13.toNatClampNeg, .ref 67, .ref 41], (h12, q))) rfl ?_
                  cases hr14 : iget (r11.1 46) p2 with
                  | none => rw [hr14] at hv; cases hv
                  | some b14 =>
                    rw [hr14, o_bind] at hv
                    refine sW.aald46 rfl hs12 hr14 ?_
                    refine mW.sn 1 (g' := (53, [some (.ref 41), some (.int p0), some (.int p1), some (.int p2)], [.int 0, .ref b14.toNatClampNeg, .ref b13.toNatClampNeg, .ref 67, .ref 41], (h12, q))) rfl ?_
                    cases hr15 : p_follow r11.1 b13.toNatClampNeg b14.toNatClampNeg 0 with
                    | none => rw [hr15] at hv; cases hv
                    | some r15 =>
                      rw [hr15, o_bind] at hv
                      refine sW.call rfl rfl rfl rfl (hs12.rcv o67) (s72 (hs12.ok46 hr13) (hs12.ok46 hr14) hs12 hr15) ?_
                      intro h16 hs16
                      cases hr17 : a_refuse r15.1 r15.2 with
                      | none => rw [hr17] at hv; cases hv
                      | some r17 =>
                        rw [hr17, o_bind] at hv
                        by_cases ht17 : r17.2 = 0
                        case neg =>
                          rw [if_neg ht17] at hv
                          cases hv
                          exact sW.callXT rfl rfl rfl rfl (hs16.rcv o41) rfl (s71 hs16 hK hr17) ht17
                        rw [if_pos ht17] at hv
                        refine sW.callX0 rfl rfl rfl rfl (hs16.rcv o41) (s71 hs16 hK hr17) ht17 ?_
                        intro h18 hs18
                        refine mW.sn 1 (g' := (60, [some (.ref 41), some (.int p0), some (.int p1), some (.int p2)], [.ref 41], (h18, q))) rfl ?_
                        refine sW.getT rfl hs18 o41 rfl ?_
                        refine sW.call rfl rfl rfl rfl (hs18.rcvT (hs18.okT o41 rfl)) (s35 hs18 (hs18.okT o41 rfl)) ?_
                        intro h19 hs19
                        refine mW.sn 1 (g' := (67, [some (.ref 41), some (.int p0), some (.int p1), some (.int p2)], [.ref 41], (h19, q))) rfl ?_
                        refine sW.getR rfl hs19 o41 rfl rfl ?_
                        refine mW.sn 1 (g' := (71, [some (.ref 41), some (.int p0), some (.int p1), some (.int p2)], [.ref 41, .ref 67], (h19, q))) rfl ?_
                        refine sW.getT rfl hs19 o41 rfl ?_
                        cases hr20 : p_writeTo (up r17.1 ((rd r17.1 41 9).toNatClampNeg) [0]) ((rd (up r17.1 ((rd r17.1 41 9).toNatClampNeg) [0]) 41 9).toNatClampNeg) with
                        | none => rw [hr20] at hv; cases hv
                        | some r20 =>
                          rw [hr20, o_bind] at hv
                          refine sW.call rfl rfl rfl rfl (hs19.rcv o67) (s98 (hs19.okT o41 rfl) hs19 hr20) ?_
                          intro h21 hs21
                          refine mW.sn 2 (g' := (79, [some (.ref 41), some (.int p0), some (.int p1), some (.int p2)], [.int p0, .ref 41], (h21, q))) rfl ?_
                          cases hr22 : a_keep r20 p0 with
                          | none => rw [hr22] at hv; cases hv
                          | some r22 =>
                            rw [hr22, o_bind] at hv
                            by_cases ht22 : r22.2 = 0
                            case neg =>
                              rw [if_neg ht22] at hv
                              cases hv
                              exact sW.callXT rfl rfl rfl rfl (hs21.rcv o41) rfl (s62 hs21 hK hr22) ht22
                            rw [if_pos ht22] at hv
                            refine sW.callX0 rfl rfl rfl rfl (hs21.rcv o41) (s62 hs21 hK hr22) ht22 ?_
                            intro h23 hs23
                            cases hv
                            exact sW.finX hs23 rfl
            · rw [if_neg hc10] at hv
              refine mW.sn 1 (g' := (32, [some (.ref 41), some (.int p0), some (.int p1), some (.int p2)], [.int 1, .ref 41], (h9, q))) rfl ?_
              cases hr24 : a_refuse r5.1 1 with
              | none => rw [hr24] at hv; cases hv
              | some r24 =>
                rw [hr24, o_bind] at hv
                by_cases ht24 : r24.2 = 0
                case neg =>
                  rw [if_neg ht24] at hv
                  cases hv
                  exact sW.callXT rfl rfl rfl rfl (hs9.rcv o41) rfl (s71 hs9 hK hr24) ht24
                rw [if_pos ht24] at hv
                refine sW.callX0 rfl rfl rfl rfl (hs9.rcv o41) (s71 hs9 hK hr24) ht24 ?_
                intro h25 hs25
                refine mW.sn 2 (g' := (37, [some (.ref 41), some (.int p0), some (.int p1), some (.int p2)], [.ref 41, .ref 41], (h25, q))) rfl ?_
                refine sW.getR rfl hs25 o41 rfl rfl ?_
                refine mW.sn 1 (g' := (41, [some (.ref 41), some (.int p0), some (.int p1), some (.int p2)], [.ref 41, .ref 67, .ref 41], (h25, q))) rfl ?_
                refine sW.getR rfl hs25 o41 rfl rfl ?_
                refine mW.sn 1 (g' := (45, [some (.ref 41), some (.int p0), some (.int p1), some (.int p2)], [.int p1, .ref 46, .ref 67, .ref 41], (h25, q))) rfl ?_
                cases hr26 : iget (r24.1 46) p1 with
                | none => rw [hr26] at hv; cases hv
                | some b26 =>
                  rw [hr26, o_bind] at hv
                  refine sW.aald46 rfl hs25 hr26 ?_
                  refine mW.sn 1 (g' := (47, [some (.ref 41), some (.int p0), some (.int p1), some (.int p2)], [.ref 41, .ref b26.toNatClampNeg, .ref 67, .ref 41], (h25, q))) rfl ?_
                  refine sW.getR rfl hs25 o41 rfl rfl ?_
                  refine mW.sn 1 (g' := (51, [some (.ref 41), some (.int p0), some (.int p1), some (.int p2)], [.int p2, .ref 46, .ref b26.toNatClampNeg, .ref 67, .ref 41], (h25, q))) rfl ?_
                  cases hr27 : iget (r24.1 46) p2 with
                  | none => rw [hr27] at hv; cases hv
                  | some b27 =>
                    rw [hr27, o_bind] at hv
                    refine sW.aald46 rfl hs25 hr27 ?_
                    refine mW.sn 1 (g' := (53, [some (.ref 41), some (.int p0), some (.int p1), some (.int p2)], [.int 0, .ref b27.toNatClampNeg, .ref b26.toNatClampNeg, .ref 67, .ref 41], (h25, q))) rfl ?_
                    cases hr28 : p_follow r24.1 b26.toNatClampNeg b27.toNatClampNeg 0 with
                    | none => rw [hr28] at hv; cases hv
                    | some r28 =>
                      rw [hr28, o_bind] at hv
                      refine sW.call rfl rfl rfl rfl (hs25.rcv o67) (s72 (hs25.ok46 hr26) (hs25.ok46 hr27) hs25 hr28) ?_
                      intro h29 hs29
                      cases hr30 : a_refuse r28.1 r28.2 with
                      | none => rw [hr30] at hv; cases hv
                      | some r30 =>
                        rw [hr30, o_bind] at hv
                        by_cases ht30 : r30.2 = 0
                        case neg =>
                          rw [if_neg ht30] at hv
                          cases hv
                          exact sW.callXT rfl rfl rfl rfl (hs29.rcv o41) rfl (s71 hs29 hK hr30) ht30
                        rw [if_pos ht30] at hv
                        refine sW.callX0 rfl rfl rfl rfl (hs29.rcv o41) (s71 hs29 hK hr30) ht30 ?_
                        intro h31 hs31
                        refine mW.sn 1 (g' := (60, [some (.ref 41), some (.int p0), some (.int p1), some (.int p2)], [.ref 41], (h31, q))) rfl ?_
                        refine sW.getT rfl hs31 o41 rfl ?_
                        refine sW.call rfl rfl rfl rfl (hs31.rcvT (hs31.okT o41 rfl)) (s35 hs31 (hs31.okT o41 rfl)) ?_
                        intro h32 hs32
                        refine mW.sn 1 (g' := (67, [some (.ref 41), some (.int p0), some (.int p1), some (.int p2)], [.ref 41], (h32, q))) rfl ?_
                        refine sW.getR rfl hs32 o41 rfl rfl ?_
                        refine mW.sn 1 (g' := (71, [some (.ref 41), some (.int p0), some (.int p1), some (.int p2)], [.ref 41, .ref 67], (h32, q))) rfl ?_
                        refine sW.getT rfl hs32 o41 rfl ?_
                        cases hr33 : p_writeTo (up r30.1 ((rd r30.1 41 9).toNatClampNeg) [0]) ((rd (up r30.1 ((rd r30.1 41 9).toNatClampNeg) [0]) 41 9).toNatClampNeg) with
                        | none => rw [hr33] at hv; cases hv
                        | some r33 =>
                          rw [hr33, o_bind] at hv
                          refine sW.call rfl rfl rfl rfl (hs32.rcv o67) (s98 (hs32.okT o41 rfl) hs32 hr33) ?_
                          intro h34 hs34
                          refine mW.sn 2 (g' := (79, [some (.ref 41), some (.int p0), some (.int p1), some (.int p2)], [.int p0, .ref 41], (h34, q))) rfl ?_
                          cases hr35 : a_keep r33 p0 with
                          | none => rw [hr35] at hv; cases hv
                          | some r35 =>
                            rw [hr35, o_bind] at hv
                            by_cases ht35 : r35.2 = 0
                            case neg =>
                              rw [if_neg ht35] at hv
                              cases hv
                              exact sW.callXT rfl rfl rfl rfl (hs34.rcv o41) rfl (s62 hs34 hK hr35) ht35
                            rw [if_pos ht35] at hv
                            refine sW.callX0 rfl rfl rfl rfl (hs34.rcv o41) (s62 hs34 hK hr35) ht35 ?_
                            intro h36 hs36
                            cases hv
                            exact sW.finX hs36 rfl
def a_set (S : SS) (p0 : Int32) (p1 : Int32) (p2 : Int32) (p3 : Int32) : Option (SS × Nat) := ((a_reg S p0).bind fun r1 => if r1.2 = 0 then ((a_reg r1.1 p1).bind fun r3 => if r3.2 = 0 then ((a_reg r3.1 p2).bind fun r5 => if r5.2 = 0 then ((a_reg r5.1 p3).bind fun r7 => if r7.2 = 0 then ((iget (r7.1 46) p1).bind fun b9 => ((iget (r7.1 46) p2).bind fun b10 => ((iget (r7.1 46) p3).bind fun b11 => ((u_put r7.1 b9.toNatClampNeg b10.toNatClampNeg b11.toNatClampNeg ((rd r7.1 41 9).toNatClampNeg)).bind fun r12 => ((a_refuse r12.1 r12.2).bind fun r14 => if r14.2 = 0 then ((a_keep r14.1 p0).bind fun r16 => if r16.2 = 0 then some (r16.1, 0) else some (r16.1, r16.2)) else some (r14.1, r14.2)))))) else some (r7.1, r7.2)) else some (r5.1, r5.2)) else some (r3.1, r3.2)) else some (r1.1, r1.2))
theorem s102 {S : SS} {p0 : Int32} {p1 : Int32} {p2 : Int32} {p3 : Int32} {v : SS × Nat} (hs : cs h S) (hK : 1 ≤ q.1 ∧ 6 ≤ q.2) (hv : a_set S p0 p1 p2 p3 = some v) : mW (d + 10) mm102 (0, [some (.ref 41), some (.int p0), some (.int p1), some (.int p2), some (.int p3)], [], (h, q)) (mX q v.1 v.2 none) := by
  unfold a_set at hv
  refine mW.sn 1 (g' := (1, [some (.ref 41), some (.int p0), some (.int p1), some (.int p2), some (.int p3)], [.int p0], (h, q))) rfl ?_
  cases hr1 : a_reg S p0 with
  | none => rw [hr1] at hv; cases hv
  | some r1 =>
    rw [hr1, o_bind] at hv
    by_cases ht1 : r1.2 = 0
    case neg =>
      rw [if_neg ht1] at hv
      cases hv
      exact sW.callXT rfl rfl rfl rfl rfl rfl (s33 hs hK hr1) ht1
    rw [if_pos ht1] at hv
    refine sW.callX0 rfl rfl rfl rfl rfl (s33 hs hK hr1) ht1 ?_
    intro h2 hs2
    refine mW.sn 1 (g' := (5, [some (.ref 41), some (.int p0), some (.int p1), some (.int p2), some (.int p3)], [.int p1], (h2, q))) rfl ?_
    cases hr3 : a_reg r1.1 p1 with
    | none => rw [hr3] at hv; cases hv
    | some r3 =>
      rw [hr3, o_bind] at hv
      by_cases ht3 : r3.2 = 0
      case neg =>
        rw [if_neg ht3] at hv
        cases hv
        exact sW.callXT rfl rfl rfl rfl rfl rfl (s33 hs2 hK hr3) ht3
      rw [if_pos ht3] at hv
      refine sW.callX0 rfl rfl rfl rfl rfl (s33 hs2 hK hr3) ht3 ?_
      intro h4 hs4
      refine mW.sn 1 (g' := (9, [some (.ref 41), some (.int p0), some (.int p1), some (.int p2), some (.int p3)], [.int p2], (h4, q))) rfl ?_
      cases hr5 : a_reg r3.1 p2 with
      | none => rw [hr5] at hv; cases hv
      | some r5 =>
        rw [hr5, o_bind] at hv
        by_cases ht5 : r5.2 = 0
        case neg =>
          rw [if_neg ht5] at hv
          cases hv
          exact sW.callXT rfl rfl rfl rfl rfl rfl (s33 hs4 hK hr5) ht5
        rw [if_pos ht5] at hv
        refine sW.callX0 rfl rfl rfl rfl rfl (s33 hs4 hK hr5) ht5 ?_
        intro h6 hs6
        refine mW.sn 1 (g' := (14, [some (.ref 41), some (.int p0), some (.int p1), some (.int p2), some (.int p3)], [.int p3], (h6, q))) rfl ?_
        cases hr7 : a_reg r5.1 p3 with
        | none => rw [hr7] at hv; cases hv
        | some r7 =>
          rw [hr7, o_bind] at hv
          by_cases ht7 : r7.2 = 0
          case neg =>
            rw [if_neg ht7] at hv
            cases hv
            exact sW.callXT rfl rfl rfl rfl rfl rfl (s33 hs6 hK hr7) ht7
          rw [if_pos ht7] at hv
          refine sW.callX0 rfl rfl rfl rfl rfl (s33 hs6 hK hr7) ht7 ?_
          intro h8 hs8
          refine mW.sn 2 (g' := (19, [some (.ref 41), some (.int p0), some (.int p1), some (.int p2), some (.int p3)], [.ref 41, .ref 41], (h8, q))) rfl ?_
          refine sW.getR rfl hs8 o41 rfl rfl ?_
          refine mW.sn 1 (g' := (23, [some (.ref 41), some (.int p0), some (.int p1), some (.int p2), some (.int p3)], [.ref 41, .ref 69, .ref 41], (h8, q))) rfl ?_
          refine sW.getR rfl hs8 o41 rfl rfl ?_
          refine mW.sn 1 (g' := (27, [some (.ref 41), some (.int p0), some (.int p1), some (.int p2), some (.int p3)], [.int p1, .ref 46, .ref 69, .ref 41], (h8, q))) rfl ?_
          cases hr9 : iget (r7.1 46) p1 with
          | none => rw [hr9] at hv; cases hv
          | some b9 =>
            rw [hr9, o_bind] at hv
            refine sW.aald46 rfl hs8 hr9 ?_
            refine mW.sn 1 (g' := (29, [some (.ref 41), some (.int p0), some (.int p1), some (.int p2), some (.int p3)], [.ref 41, .ref b9.toNatClampNeg, .ref 69, .ref 41], (h8, q))) rfl ?_
            refine sW.getR rfl hs8 o41 rfl rfl ?_
            refine mW.sn 1 (g' := (33, [some (.ref 41), some (.int p0), some (.int p1), some (.int p2), some (.int p3)], [.int p2, .ref 46, .ref b9.toNatClampNeg, .ref 69, .ref 41], (h8, q))) rfl ?_
            cases hr10 : iget (r7.1 46) p2 with
            | none => rw [hr10] at hv; cases hv
            | some b10 =>
              rw [hr10, o_bind] at hv
              refine sW.aald46 rfl hs8 hr10 ?_
              refine mW.sn 1 (g' := (35, [some (.ref 41), some (.int p0), some (.int p1), some (.int p2), some (.int p3)], [.ref 41, .ref b10.toNatClampNeg, .ref b9.toNatClampNeg, .ref 69, .ref 41], (h8, q))) rfl ?_
              refine sW.getR rfl hs8 o41 rfl rfl ?_
              refine mW.sn 1 (g' := (40, [some (.ref 41), some (.int p0), some (.int p1), some (.int p2), some (.int p3)], [.int p3, .ref 46, .ref b10.toNatClampNeg, .ref b9.toNatClampNeg, .ref 69, .ref 41], (h8, q))) rfl ?_
              cases hr11 : iget (r7.1 46) p3 with
              | none => rw [hr11] at hv; cases hv
              | some b11 =>
                rw [hr11, o_bind] at hv
                refine sW.aald46 rfl hs8 hr11 ?_
                refine mW.sn 1 (g' := (42, [some (.ref 41), some (.int p0), some (.int p1), some (.int p2), some (.int p3)], [.ref 41, .ref b11.toNatClampNeg, .ref b10.toNatClampNeg, .ref b9.toNatClampNeg, .ref 69, .ref 41], (h8, q))) rfl ?_
                refine sW.getT rfl hs8 o41 rfl ?_
                cases hr12 : u_put r7.1 b9.toNatClampNeg b10.toNatClampNeg b11.toNatClampNeg ((rd r7.1 41 9).toNatClampNeg) with
                | none => rw [hr12] at hv; cases hv
                | some r12 =>
                  rw [hr12, o_bind] at hv
                  refine sW.call rfl rfl rfl rfl (hs8.rcv o69) (s103 (hs8.ok46 hr9) (hs8.ok46 hr10) (hs8.ok46 hr11) (hs8.okT o41 rfl) hs8 hr12) ?_
                  intro h13 hs13
                  cases hr14 : a_refuse r12.1 r12.2 with
                  | none => rw [hr14] at hv; cases hv
                  | some r14 =>
                    rw [hr14, o_bind] at hv
                    by_cases ht14 : r14.2 = 0
                    case neg =>
                      rw [if_neg ht14] at hv
                      cases hv
                      exact sW.callXT rfl rfl rfl rfl (hs13.rcv o41) rfl (s71 hs13 hK hr14) ht14
                    rw [if_pos ht14] at hv
                    refine sW.callX0 rfl rfl rfl rfl (hs13.rcv o41) (s71 hs13 hK hr14) ht14 ?_
                    intro h15 hs15
                    refine mW.sn 2 (g' := (53, [some (.ref 41), some (.int p0), some (.int p1), some (.int p2), some (.int p3)], [.int p0, .ref 41], (h15, q))) rfl ?_
                    cases hr16 : a_keep r14.1 p0 with
                    | none => rw [hr16] at hv; cases hv
                    | some r16 =>
                      rw [hr16, o_bind] at hv
                      by_cases ht16 : r16.2 = 0
                      case neg =>
                        rw [if_neg ht16] at hv
                        cases hv
                        exact sW.callXT rfl rfl rfl rfl (hs15.rcv o41) rfl (s62 hs15 hK hr16) ht16
                      rw [if_pos ht16] at hv
                      refine sW.callX0 rfl rfl rfl rfl (hs15.rcv o41) (s62 hs15 hK hr16) ht16 ?_
                      intro h17 hs17
                      cases hv
                      exact sW.finX hs17 rfl
def a_del_l84 : Nat → SS → Int32 → Int32 → Int32 → Option (SS × Nat)
  | 0, _, _, _, _ => none
  | n + 1, S, l1, l3, l4 => (if l4 < 0 then ((a_keep S l1).bind fun r24 => if r24.2 = 0 then some (r24.1, 0) else some (r24.1, r24.2)) else ((iget (S 46) l3).bind fun b26 => ((k_cut S ((rd S 41 9).toNatClampNeg) b26.toNatClampNeg l4).bind fun r27 => ((a_refuse r27.1 r27.2).bind fun r29 => if r29.2 = 0 then a_del_l84 n r29.1 l1 l3 (l4 + (-1)) else some (r29.1, r29.2)))))
theorem a_del_l84_ok (hK : 1 ≤ q.1 ∧ 6 ≤ q.2) : ∀ (n : Nat), ∀ (h : mH) (S : SS) (l1 : Int32) (l3 : Int32) (l4 : Int32) (y2 : Int32) (v : SS × Nat), cs h S → a_del_l84 n S l1 l3 l4 = some v → mW (d + 502) mm130 (84, [some (.ref 41), some (.int l1), some (.int y2), some (.int l3), some (.int l4)], [], (h, q)) (mX q v.1 v.2 none) := by
  intro n
  induction n with
  | zero => intro h S l1 l3 l4 y2 v hs hv; cases hv
  | succ n ih =>
    intro h S l1 l3 l4 y2 v hs hv
    unfold a_del_l84 at hv
    refine mW.sn 1 (g' := (86, [some (.ref 41), some (.int l1), some (.int y2), some (.int l3), some (.int l4)], [.int l4], (h, q))) rfl ?_
    refine mW.br (g1 := (118, [some (.ref 41), some (.int l1), some (.int y2), some (.int l3), some (.int l4)], [], (h, q))) (g2 := (89, [some (.ref 41), some (.int l1), some (.int y2), some (.int l3), some (.int l4)], [], (h, q))) (c := l4 < 0) rfl (fun hc23 => ?_) (fun hc23 => ?_)
    · rw [if_pos hc23] at hv
      refine mW.sn 2 (g' := (120, [some (.ref 41), some (.int l1), some (.int y2), some (.int l3), some (.int l4)], [.int l1, .ref 41], (h, q))) rfl ?_
      cases hr24 : a_keep S l1 with
      | none => rw [hr24] at hv; cases hv
      | some r24 =>
        rw [hr24, o_bind] at hv
        by_cases ht24 : r24.2 = 0
        case neg =>
          rw [if_neg ht24] at hv
          cases hv
          exact sW.callXT rfl rfl rfl rfl (hs.rcv o41) rfl (s62 hs hK hr24) ht24
        rw [if_pos ht24] at hv
        refine sW.callX0 rfl rfl rfl rfl (hs.rcv o41) (s62 hs hK hr24) ht24 ?_
        intro h25 hs25
        cases hv
        exact sW.finX hs25 rfl
    · rw [if_neg hc23] at hv
      refine mW.sn 2 (g' := (91, [some (.ref 41), some (.int l1), some (.int y2), some (.int l3), some (.int l4)], [.ref 41, .ref 41], (h, q))) rfl ?_
      refine sW.getR rfl hs o41 rfl rfl ?_
      refine mW.sn 1 (g' := (95, [some (.ref 41), some (.int l1), some (.int y2), some (.int l3), some (.int l4)], [.ref 41, .ref 72, .ref 41], (h, q))) rfl ?_
      refine sW.getT rfl hs o41 rfl ?_
      refine mW.sn 1 (g' := (99, [some (.ref 41), some (.int l1), some (.int y2), some (.int l3), some (.int l4)], [.ref 41, .ref ((rd S 41 9).toNatClampNeg), .ref 72, .ref 41], (h, q))) rfl ?_
      refine sW.getR rfl hs o41 rfl rfl ?_
      refine mW.sn 1 (g' := (103, [some (.ref 41), some (.int l1), some (.int y2), some (.int l3), some (.int l4)], [.int l3, .ref 46, .ref ((rd S 41 9).toNatClampNeg), .ref 72, .ref 41], (h, q))) rfl ?_
      cases hr26 : iget (S 46) l3 with
      | none => rw [hr26] at hv; cases hv
      | some b26 =>
        rw [hr26, o_bind] at hv
        refine sW.aald46 rfl hs hr26 ?_
        refine mW.sn 1 (g' := (106, [some (.ref 41), some (.int l1), some (.int y2), some (.int l3), some (.int l4)], [.int l4, .ref b26.toNatClampNeg, .ref ((rd S 41 9).toNatClampNeg), .ref 72, .ref 41], (h, q))) rfl ?_
        cases hr27 : k_cut S ((rd S 41 9).toNatClampNeg) b26.toNatClampNeg l4 with
        | none => rw [hr27] at hv; cases hv
        | some r27 =>
          rw [hr27, o_bind] at hv
          refine sW.call rfl rfl rfl rfl (hs.rcv o72) (s144 (hs.okT o41 rfl) (hs.ok46 hr26) hs hr27) ?_
          intro h28 hs28
          cases hr29 : a_refuse r27.1 r27.2 with
          | none => rw [hr29] at hv; cases hv
          | some r29 =>
            rw [hr29, o_bind] at hv
            by_cases ht29 : r29.2 = 0
            case neg =>
              rw [if_neg ht29] at hv
              cases hv
              exact sW.callXT rfl rfl rfl rfl (hs28.rcv o41) rfl (s71 hs28 hK hr29) ht29
            rw [if_pos ht29] at hv
            refine sW.callX0 rfl rfl rfl rfl (hs28.rcv o41) (s71 hs28 hK hr29) ht29 ?_
            intro h30 hs30
            refine mW.sn 2 (g' := (84, [some (.ref 41), some (.int l1), some (.int y2), some (.int l3), some (.int (l4 + (-1)))], [], (h30, q))) rfl ?_
            exact ih _ _ _ _ _ _ _  hs30 hv
def a_del (S : SS) (p0 : Int32) (p1 : Int32) (p2 : Int32) : Option (SS × Nat) := ((a_reg S p0).bind fun r1 => if r1.2 = 0 then ((a_reg r1.1 p1).bind fun r3 => if r3.2 = 0 then ((a_reg r3.1 p2).bind fun r5 => if r5.2 = 0 then ((iget (r5.1 46) p2).bind fun b7 => ((k_lookAt r5.1 b7.toNatClampNeg).bind fun r8 => ((a_refuse r8.1 r8.2).bind fun r10 => if r10.2 = 0 then ((k_many r10.1).bind fun r12 => (if r12 = 0 then ((iget (r10.1 46) p2).bind fun b15 => ((k_sort r10.1 b15.toNatClampNeg).bind fun r16 => ((iget (r16 46) p1).bind fun b18 => ((scopy r16 ((rd r16 41 9).toNatClampNeg) b18.toNatClampNeg).bind fun r19 => ((k_paths r19).bind fun r21 => a_del_l84 10000 r19 p0 p2 (r21 - 1)))))) else some (r10.1, 1))) else some (r10.1, r10.2)))) else some (r5.1, r5.2)) else some (r3.1, r3.2)) else some (r1.1, r1.2))
theorem s130 {S : SS} {p0 : Int32} {p1 : Int32} {p2 : Int32} {v : SS × Nat} (hs : cs h S) (hK : 1 ≤ q.1 ∧ 6 ≤ q.2) (hv : a_del S p0 p1 p2 = some v) : mW (d + 502) mm130 (0, [some (.ref 41), some (.int p0), some (.int p1), some (.int p2), none], [], (h, q)) (mX q v.1 v.2 none) := by
  unfold a_del at hv
  refine mW.sn 1 (g' := (1, [some (.ref 41), some (.int p0), some (.int p1), some (.int p2), none], [.int p0], (h, q))) rfl ?_
  cases hr1 : a_reg S p0 with
  | none => rw [hr1] at hv; cases hv
  | some r1 =>
    rw [hr1, o_bind] at hv
    by_cases ht1 : r1.2 = 0
    case neg =>
      rw [if_neg ht1] at hv
      cases hv
      exact sW.callXT rfl rfl rfl rfl rfl rfl (s33 hs hK hr1) ht1
    rw [if_pos ht1] at hv
    refine sW.callX0 rfl rfl rfl rfl rfl (s33 hs hK hr1) ht1 ?_
    intro h2 hs2
    refine mW.sn 1 (g' := (5, [some (.ref 41), some (.int p0), some (.int p1), some (.int p2), none], [.int p1], (h2, q))) rfl ?_
    cases hr3 : a_reg r1.1 p1 with
    | none => rw [hr3] at hv; cases hv
    | some r3 =>
      rw [hr3, o_bind] at hv
      by_cases ht3 : r3.2 = 0
      case neg =>
        rw [if_neg ht3] at hv
        cases hv
        exact sW.callXT rfl rfl rfl rfl rfl rfl (s33 hs2 hK hr3) ht3
      rw [if_pos ht3] at hv
      refine sW.callX0 rfl rfl rfl rfl rfl (s33 hs2 hK hr3) ht3 ?_
      intro h4 hs4
      refine mW.sn 1 (g' := (9, [some (.ref 41), some (.int p0), some (.int p1), some (.int p2), none], [.int p2], (h4, q))) rfl ?_
      cases hr5 : a_reg r3.1 p2 with
      | none => rw [hr5] at hv; cases hv
      | some r5 =>
        rw [hr5, o_bind] at hv
        by_cases ht5 : r5.2 = 0
        case neg =>
          rw [if_neg ht5] at hv
          cases hv
          exact sW.callXT rfl rfl rfl rfl rfl rfl (s33 hs4 hK hr5) ht5
        rw [if_pos ht5] at hv
        refine sW.callX0 rfl rfl rfl rfl rfl (s33 hs4 hK hr5) ht5 ?_
        intro h6 hs6
        refine mW.sn 2 (g' := (14, [some (.ref 41), some (.int p0), some (.int p1), some (.int p2), none], [.ref 41, .ref 41], (h6, q))) rfl ?_
        refine sW.getR rfl hs6 o41 rfl rfl ?_
        refine mW.sn 1 (g' := (18, [some (.ref 41), some (.int p0), some (.int p1), some (.int p2), none], [.ref 41, .ref 72, .ref 41], (h6, q))) rfl ?_
        refine sW.getR rfl hs6 o41 rfl rfl ?_
        refine mW.sn 1 (g' := (22, [some (.ref 41), some (.int p0), some (.int p1), some (.int p2), none], [.int p2, .ref 46, .ref 72, .ref 41], (h6, q))) rfl ?_
        cases hr7 : iget (r5.1 46) p2 with
        | none => rw [hr7] at hv; cases hv
        | some b7 =>
          rw [hr7, o_bind] at hv
          refine sW.aald46 rfl hs6 hr7 ?_
          cases hr8 : k_lookAt r5.1 b7.toNatClampNeg with
          | none => rw [hr8] at hv; cases hv
          | some r8 =>
            rw [hr8, o_bind] at hv
            refine sW.call rfl rfl rfl rfl (hs6.rcv o72) (s131 (hs6.ok46 hr7) hs6 hr8) ?_
            intro h9 hs9
            cases hr10 : a_refuse r8.1 r8.2 with
            | none => rw [hr10] at hv; cases hv
            | some r10 =>
              rw [hr10, o_bind] at hv
              by_cases ht10 : r10.2 = 0
              case neg =>
                rw [if_neg ht10] at hv
                cases hv
                exact sW.callXT rfl rfl rfl rfl (hs9.rcv o41) rfl (s71 hs9 hK hr10) ht10
              rw [if_pos ht10] at hv
              refine sW.callX0 rfl rfl rfl rfl (hs9.rcv o41) (s71 hs9 hK hr10) ht10 ?_
              intro h11 hs11
              refine mW.sn 1 (g' := (30, [some (.ref 41), some (.int p0), some (.int p1), some (.int p2), none], [.ref 41], (h11, q))) rfl ?_
              refine sW.getR rfl hs11 o41 rfl rfl ?_
              cases hr12 : k_many r10.1 with
              | none => rw [hr12] at hv; cases hv
              | some r12 =>
                rw [hr12, o_bind] at hv
                refine sW.call rfl rfl rfl rfl (hs11.rcv o72) (s132 hs11 hr12) ?_
                intro h13 hs13
                refine mW.br (g1 := (47, [some (.ref 41), some (.int p0), some (.int p1), some (.int p2), none], [], (h13, q))) (g2 := (39, [some (.ref 41), some (.int p0), some (.int p1), some (.int p2), none], [], (h13, q))) (c := r12 = 0) rfl (fun hc14 => ?_) (fun hc14 => ?_)
                · rw [if_pos hc14] at hv
                  refine mW.sn 1 (g' := (48, [some (.ref 41), some (.int p0), some (.int p1), some (.int p2), none], [.ref 41], (h13, q))) rfl ?_
                  refine sW.getR rfl hs13 o41 rfl rfl ?_
                  refine mW.sn 1 (g' := (52, [some (.ref 41), some (.int p0), some (.int p1), some (.int p2), none], [.ref 41, .ref 72], (h13, q))) rfl ?_
                  refine sW.getR rfl hs13 o41 rfl rfl ?_
                  refine mW.sn 1 (g' := (56, [some (.ref 41), some (.int p0), some (.int p1), some (.int p2), none], [.int p2, .ref 46, .ref 72], (h13, q))) rfl ?_
                  cases hr15 : iget (r10.1 46) p2 with
                  | none => rw [hr15] at hv; cases hv
                  | some b15 =>
                    rw [hr15, o_bind] at hv
                    refine sW.aald46 rfl hs13 hr15 ?_
                    cases hr16 : k_sort r10.1 b15.toNatClampNeg with
                    | none => rw [hr16] at hv; cases hv
                    | some r16 =>
                      rw [hr16, o_bind] at hv
                      refine sW.call rfl rfl rfl rfl (hs13.rcv o72) (s133 (hs13.ok46 hr15) hs13 hr16) ?_
                      intro h17 hs17
                      refine mW.sn 1 (g' := (61, [some (.ref 41), some (.int p0), some (.int p1), some (.int p2), none], [.ref 41], (h17, q))) rfl ?_
                      refine sW.getT rfl hs17 o41 rfl ?_
                      refine mW.sn 1 (g' := (65, [some (.ref 41), some (.int p0), some (.int p1), some (.int p2), none], [.ref 41, .ref ((rd r16 41 9).toNatClampNeg)], (h17, q))) rfl ?_
                      refine sW.getR rfl hs17 o41 rfl rfl ?_
                      refine mW.sn 1 (g' := (69, [some (.ref 41), some (.int p0), some (.int p1), some (.int p2), none], [.int p1, .ref 46, .ref ((rd r16 41 9).toNatClampNeg)], (h17, q))) rfl ?_
                      cases hr18 : iget (r16 46) p1 with
                      | none => rw [hr18] at hv; cases hv
                      | some b18 =>
                        rw [hr18, o_bind] at hv
                        refine sW.aald46 rfl hs17 hr18 ?_
                        cases hr19 : scopy r16 ((rd r16 41 9).toNatClampNeg) b18.toNatClampNeg with
                        | none => rw [hr19] at hv; cases hv
                        | some r19 =>
                          rw [hr19, o_bind] at hv
                          refine sW.call rfl rfl rfl rfl (hs17.rcvT (hs17.okT o41 rfl)) (s67 (hs17.okT o41 rfl) (hs17.ok46 hr18) hs17 hr19) ?_
                          intro h20 hs20
                          refine mW.sn 1 (g' := (74, [some (.ref 41), some (.int p0), some (.int p1), some (.int p2), none], [.ref 41], (h20, q))) rfl ?_
                          refine sW.getR rfl hs20 o41 rfl rfl ?_
                          cases hr21 : k_paths r19 with
                          | none => rw [hr21] at hv; cases hv
                          | some r21 =>
                            rw [hr21, o_bind] at hv
                            refine sW.call rfl rfl rfl rfl (hs20.rcv o72) (s134 hs20 hr21) ?_
                            intro h22 hs22
                            refine mW.sn 3 (g' := (84, [some (.ref 41), some (.int p0), some (.int p1), some (.int p2), some (.int (r21 - 1))], [], (h22, q))) rfl ?_
                            exact a_del_l84_ok hK _ _ _ _ _ _ _ _  hs22 hv
                · rw [if_neg hc14] at hv
                  cases hv
                  exact sW.thr rfl rfl hs13 hK (by omega) (by decide)
def a_all (S : SS) (p0 : Int32) (p1 : Int32) : Option (SS × Nat) := ((a_reg S p0).bind fun r1 => if r1.2 = 0 then ((a_reg r1.1 p1).bind fun r3 => if r3.2 = 0 then ((iget (r3.1 46) p1).bind fun b5 => ((l_list r3.1 b5.toNatClampNeg ((rd r3.1 41 9).toNatClampNeg)).bind fun r6 => ((a_keep r6 p0).bind fun r8 => if r8.2 = 0 then some (r8.1, 0) else some (r8.1, r8.2)))) else some (r3.1, r3.2)) else some (r1.1, r1.2))
theorem s147 {S : SS} {p0 : Int32} {p1 : Int32} {v : SS × Nat} (hs : cs h S) (hK : 1 ≤ q.1 ∧ 6 ≤ q.2) (hv : a_all S p0 p1 = some v) : mW (d + 402) mm147 (0, [some (.ref 41), some (.int p0), some (.int p1)], [], (h, q)) (mX q v.1 v.2 none) := by
  unfold a_all at hv
  refine mW.sn 1 (g' := (1, [some (.ref 41), some (.int p0), some (.int p1)], [.int p0], (h, q))) rfl ?_
  cases hr1 : a_reg S p0 with
  | none => rw [hr1] at hv; cases hv
  | some r1 =>
    rw [hr1, o_bind] at hv
    by_cases ht1 : r1.2 = 0
    case neg =>
      rw [if_neg ht1] at hv
      cases hv
      exact sW.callXT rfl rfl rfl rfl rfl rfl (s33 hs hK hr1) ht1
    rw [if_pos ht1] at hv
    refine sW.callX0 rfl rfl rfl rfl rfl (s33 hs hK hr1) ht1 ?_
    intro h2 hs2
    refine mW.sn 1 (g' := (5, [some (.ref 41), some (.int p0), some (.int p1)], [.int p1], (h2, q))) rfl ?_
    cases hr3 : a_reg r1.1 p1 with
    | none => rw [hr3] at hv; cases hv
    | some r3 =>
      rw [hr3, o_bind] at hv
      by_cases ht3 : r3.2 = 0
      case neg =>
        rw [if_neg ht3] at hv
        cases hv
        exact sW.callXT rfl rfl rfl rfl rfl rfl (s33 hs2 hK hr3) ht3
      rw [if_pos ht3] at hv
      refine sW.callX0 rfl rfl rfl rfl rfl (s33 hs2 hK hr3) ht3 ?_
      intro h4 hs4
      refine mW.sn 1 (g' := (9, [some (.ref 41), some (.int p0), some (.int p1)], [.ref 41], (h4, q))) rfl ?_
      refine sW.getR rfl hs4 o41 rfl rfl ?_
      refine mW.sn 1 (g' := (13, [some (.ref 41), some (.int p0), some (.int p1)], [.ref 41, .ref 75], (h4, q))) rfl ?_
      refine sW.getR rfl hs4 o41 rfl rfl ?_
      refine mW.sn 1 (g' := (17, [some (.ref 41), some (.int p0), some (.int p1)], [.int p1, .ref 46, .ref 75], (h4, q))) rfl ?_
      cases hr5 : iget (r3.1 46) p1 with
      | none => rw [hr5] at hv; cases hv
      | some b5 =>
        rw [hr5, o_bind] at hv
        refine sW.aald46 rfl hs4 hr5 ?_
        refine mW.sn 1 (g' := (19, [some (.ref 41), some (.int p0), some (.int p1)], [.ref 41, .ref b5.toNatClampNeg, .ref 75], (h4, q))) rfl ?_
        refine sW.getT rfl hs4 o41 rfl ?_
        cases hr6 : l_list r3.1 b5.toNatClampNeg ((rd r3.1 41 9).toNatClampNeg) with
        | none => rw [hr6] at hv; cases hv
        | some r6 =>
          rw [hr6, o_bind] at hv
          refine sW.call rfl rfl rfl rfl (hs4.rcv o75) (s148 (hs4.ok46 hr5) (hs4.okT o41 rfl) hs4 hr6) ?_
          intro h7 hs7
          refine mW.sn 2 (g' := (27, [some (.ref 41), some (.int p0), some (.int p1)], [.int p0, .ref 41], (h7, q))) rfl ?_
          cases hr8 : a_keep r6 p0 with
          | none => rw [hr8] at hv; cases hv
          | some r8 =>
            rw [hr8, o_bind] at hv
            by_cases ht8 : r8.2 = 0
            case neg =>
              rw [if_neg ht8] at hv
              cases hv
              exact sW.callXT rfl rfl rfl rfl (hs7.rcv o41) rfl (s62 hs7 hK hr8) ht8
            rw [if_pos ht8] at hv
            refine sW.callX0 rfl rfl rfl rfl (hs7.rcv o41) (s62 hs7 hK hr8) ht8 ?_
            intro h9 hs9
            cases hv
            exact sW.finX hs9 rfl
def a_same (S : SS) (p0 : Int32) (p1 : Int32) : Option (SS × Nat × Int32) := ((a_reg S p0).bind fun r1 => if r1.2 = 0 then ((a_reg r1.1 p1).bind fun r3 => if r3.2 = 0 then ((iget (r3.1 46) p0).bind fun b5 => ((iget (r3.1 46) p1).bind fun b6 => ((o_cmp 100 r3.1 b5.toNatClampNeg 0 b6.toNatClampNeg 0 0).bind fun r7 => (if r7.2 = 0 then some (r7.1, 0, 1) else some (r7.1, 0, 0))))) else some (r3.1, r3.2, 0)) else some (r1.1, r1.2, 0))
theorem s153 {S : SS} {p0 : Int32} {p1 : Int32} {v : SS × Nat × Int32} (hs : cs h S) (hK : 1 ≤ q.1 ∧ 6 ≤ q.2) (hv : a_same S p0 p1 = some v) : mW (d + 501) mm153 (0, [some (.ref 41), some (.int p0), some (.int p1)], [], (h, q)) (mX q v.1 v.2.1 (some (.int v.2.2))) := by
  unfold a_same at hv
  refine mW.sn 1 (g' := (1, [some (.ref 41), some (.int p0), some (.int p1)], [.int p0], (h, q))) rfl ?_
  cases hr1 : a_reg S p0 with
  | none => rw [hr1] at hv; cases hv
  | some r1 =>
    rw [hr1, o_bind] at hv
    by_cases ht1 : r1.2 = 0
    case neg =>
      rw [if_neg ht1] at hv
      cases hv
      exact sW.callXT rfl rfl rfl rfl rfl rfl (s33 hs hK hr1) ht1
    rw [if_pos ht1] at hv
    refine sW.callX0 rfl rfl rfl rfl rfl (s33 hs hK hr1) ht1 ?_
    intro h2 hs2
    refine mW.sn 1 (g' := (5, [some (.ref 41), some (.int p0), some (.int p1)], [.int p1], (h2, q))) rfl ?_
    cases hr3 : a_reg r1.1 p1 with
    | none => rw [hr3] at hv; cases hv
    | some r3 =>
      rw [hr3, o_bind] at hv
      by_cases ht3 : r3.2 = 0
      case neg =>
        rw [if_neg ht3] at hv
        cases hv
        exact sW.callXT rfl rfl rfl rfl rfl rfl (s33 hs2 hK hr3) ht3
      rw [if_pos ht3] at hv
      refine sW.callX0 rfl rfl rfl rfl rfl (s33 hs2 hK hr3) ht3 ?_
      intro h4 hs4
      refine mW.sn 1 (g' := (9, [some (.ref 41), some (.int p0), some (.int p1)], [.ref 41], (h4, q))) rfl ?_
      refine sW.getR rfl hs4 o41 rfl rfl ?_
      refine mW.sn 1 (g' := (13, [some (.ref 41), some (.int p0), some (.int p1)], [.ref 41, .ref 47], (h4, q))) rfl ?_
      refine sW.getR rfl hs4 o41 rfl rfl ?_
      refine mW.sn 1 (g' := (17, [some (.ref 41), some (.int p0), some (.int p1)], [.int p0, .ref 46, .ref 47], (h4, q))) rfl ?_
      cases hr5 : iget (r3.1 46) p0 with
      | none => rw [hr5] at hv; cases hv
      | some b5 =>
        rw [hr5, o_bind] at hv
        refine sW.aald46 rfl hs4 hr5 ?_
        refine mW.sn 2 (g' := (20, [some (.ref 41), some (.int p0), some (.int p1)], [.ref 41, .int 0, .ref b5.toNatClampNeg, .ref 47], (h4, q))) rfl ?_
        refine sW.getR rfl hs4 o41 rfl rfl ?_
        refine mW.sn 1 (g' := (24, [some (.ref 41), some (.int p0), some (.int p1)], [.int p1, .ref 46, .int 0, .ref b5.toNatClampNeg, .ref 47], (h4, q))) rfl ?_
        cases hr6 : iget (r3.1 46) p1 with
        | none => rw [hr6] at hv; cases hv
        | some b6 =>
          rw [hr6, o_bind] at hv
          refine sW.aald46 rfl hs4 hr6 ?_
          refine mW.sn 2 (g' := (27, [some (.ref 41), some (.int p0), some (.int p1)], [.int 0, .int 0, .ref b6.toNatClampNeg, .int 0, .ref b5.toNatClampNeg, .ref 47], (h4, q))) rfl ?_
          cases hr7 : o_cmp 100 r3.1 b5.toNatClampNeg 0 b6.toNatClampNeg 0 0 with
          | none => rw [hr7] at hv; cases hv
          | some r7 =>
            rw [hr7, o_bind] at hv
            refine sW.call rfl rfl rfl rfl (hs4.rcv o47) (o_cmp_ok 100 _ (by omega) _ _ _ _ _ _ _ _ (hs4.ok46 hr5) (hs4.ok46 hr6) hs4 hr7) ?_
            intro h8 hs8
            refine mW.br (g1 := (33, [some (.ref 41), some (.int p0), some (.int p1)], [], (h8, q))) (g2 := (37, [some (.ref 41), some (.int p0), some (.int p1)], [], (h8, q))) (c := r7.2 = 0) rfl (fun hc9 => ?_) (fun hc9 => ?_)
            · rw [if_pos hc9] at hv
              refine mW.sn 2 (g' := (38, [some (.ref 41), some (.int p0), some (.int p1)], [.int 1], (h8, q))) rfl ?_
              cases hv
              exact sW.finX hs8 rfl
            · rw [if_neg hc9] at hv
              refine mW.sn 1 (g' := (38, [some (.ref 41), some (.int p0), some (.int p1)], [.int 0], (h8, q))) rfl ?_
              cases hv
              exact sW.finX hs8 rfl
def a_word_l28 : Nat → SS → Int32 → Int64 → Int32 → Option (SS × Nat × Int64)
  | 0, _, _, _, _ => none
  | n + 1, S, l1, l2, l4 => (if (8 : Int32) ≤ l4 then some (S, 0, l2) else a_word_l28 n S l1 ((l2 <<< ((8 : Int32).toInt64 &&& 63)) ||| ((imax (tat (tT S 44) (l1 + l4)) 0).toInt64)) (l4 + 1))
theorem a_word_l28_ok (hK : 1 ≤ q.1 ∧ 6 ≤ q.2) : ∀ (n : Nat), ∀ (h : mH) (S : SS) (l1 : Int32) (l2 : Int64) (l4 : Int32) (v : SS × Nat × Int64), cs h S → a_word_l28 n S l1 l2 l4 = some v → mW (d + 8) mm155 (28, [some (.ref 41), some (.int l1), some (.long l2), none, some (.int l4)], [], (h, q)) (mX q v.1 v.2.1 (some (.long v.2.2))) := by
  intro n
  induction n with
  | zero => intro h S l1 l2 l4 v hs hv; cases hv
  | succ n ih =>
    intro h S l1 l2 l4 v hs hv
    unfold a_word_l28 at hv
    refine mW.sn 2 (g' := (32, [some (.ref 41), some (.int l1), some (.long l2), none, some (.int l4)], [.int 8, .int l4], (h, q))) rfl ?_
    refine mW.br (g1 := (63, [some (.ref 41), some (.int l1), some (.long l2), none, some (.int l4)], [], (h, q))) (g2 := (35, [some (.ref 41), some (.int l1), some (.long l2), none, some (.int l4)], [], (h, q))) (c := (8 : Int32) ≤ l4) rfl (fun hc4 => ?_) (fun hc4 => ?_)
    · rw [if_pos hc4] at hv
      refine mW.sn 1 (g' := (64, [some (.ref 41), some (.int l1), some (.long l2), none, some (.int l4)], [.long l2], (h, q))) rfl ?_
      cases hv
      exact sW.finX hs rfl
    · rw [if_neg hc4] at hv
      refine mW.sn 4 (g' := (40, [some (.ref 41), some (.int l1), some (.long l2), none, some (.int l4)], [.ref 41, .long (l2 <<< ((8 : Int32).toInt64 &&& 63))], (h, q))) rfl ?_
      refine sW.getR rfl hs o41 rfl rfl ?_
      refine mW.sn 3 (g' := (47, [some (.ref 41), some (.int l1), some (.long l2), none, some (.int l4)], [.int (l1 + l4), .ref 44, .long (l2 <<< ((8 : Int32).toInt64 &&& 63))], (h, q))) rfl ?_
      refine sW.call rfl rfl rfl rfl (hs.rcvT (by decide)) (sW.of hs (x37 (hs.gtx (by decide)) (l1 + l4))) ?_
      intro h5 hs5
      refine mW.sn 1 (g' := (51, [some (.ref 41), some (.int l1), some (.long l2), none, some (.int l4)], [.int 0, .int (tat (tT S 44) (l1 + l4)), .long (l2 <<< ((8 : Int32).toInt64 &&& 63))], (h5, q))) rfl ?_
      refine sW.call rfl rfl rfl rfl rfl (sW.of hs5 (x30 (tat (tT S 44) (l1 + l4)) 0)) ?_
      intro h6 hs6
      refine mW.sn 5 (g' := (28, [some (.ref 41), some (.int l1), some (.long ((l2 <<< ((8 : Int32).toInt64 &&& 63)) ||| ((imax (tat (tT S 44) (l1 + l4)) 0).toInt64))), none, some (.int (l4 + 1))], [], (h6, q))) rfl ?_
      exact ih _ _ _ _ _ _  hs6 hv
def a_word (S : SS) (p0 : Int32) : Option (SS × Nat × Int64) := (if p0 < 0 then some (S, 1, 0) else (if p0 < (Int32.ofNat (tT S 44).length) then a_word_l28 10000 S p0 0 0 else some (S, 1, 0)))
theorem s155 {S : SS} {p0 : Int32} {v : SS × Nat × Int64} (hs : cs h S) (hK : 1 ≤ q.1 ∧ 6 ≤ q.2) (hv : a_word S p0 = some v) : mW (d + 8) mm155 (0, [some (.ref 41), some (.int p0), none, none, none], [], (h, q)) (mX q v.1 v.2.1 (some (.long v.2.2))) := by
  unfold a_word at hv
  refine mW.sn 1 (g' := (1, [some (.ref 41), some (.int p0), none, none, none], [.int p0], (h, q))) rfl ?_
  refine mW.br (g1 := (15, [some (.ref 41), some (.int p0), none, none, none], [], (h, q))) (g2 := (4, [some (.ref 41), some (.int p0), none, none, none], [], (h, q))) (c := p0 < 0) rfl (fun hc1 => ?_) (fun hc1 => ?_)
  · rw [if_pos hc1] at hv
    cases hv
    exact sW.thr rfl rfl hs hK (by omega) (by decide)
  · rw [if_neg hc1] at hv
    refine mW.sn 2 (g' := (6, [some (.ref 41), some (.int p0), none, none, none], [.ref 41, .int p0], (h, q))) rfl ?_
    refine sW.getR rfl hs o41 rfl rfl ?_
    refine sW.call rfl rfl rfl rfl (hs.rcvT (by decide)) (sW.of hs (x24 (hs.gtx (by decide)))) ?_
    intro h2 hs2
    refine mW.br (g1 := (23, [some (.ref 41), some (.int p0), none, none, none], [], (h2, q))) (g2 := (15, [some (.ref 41), some (.int p0), none, none, none], [], (h2, q))) (c := p0 < (Int32.ofNat (tT S 44).length)) rfl (fun hc3 => ?_) (fun hc3 => ?_)
    · rw [if_pos hc3] at hv
      refine mW.sn 4 (g' := (28, [some (.ref 41), some (.int p0), some (.long 0), none, some (.int 0)], [], (h2, q))) rfl ?_
      exact a_word_l28_ok hK _ _ _ _ _ _ _  hs2 hv
    · rw [if_neg hc3] at hv
      cases hv
      exact sW.thr rfl rfl hs2 hK (by omega) (by decide)
def a_count (S : SS) (p0 : Int32) : Option (SS × Nat × Int32) := (if p0 = (0 : Int32) then some (S, 0, Int32.ofNat (tT S 42).length) else (if p0 = (1 : Int32) then some (S, 0, Int32.ofNat (tT S 44).length) else (if p0 = (2 : Int32) then some (S, 0, rd S 41 10) else (if p0 = (3 : Int32) then some (S, 0, rd S 41 11) else some (S, 2, 0)))))
theorem s157 {S : SS} {p0 : Int32} {v : SS × Nat × Int32} (hs : cs h S) (hK : 1 ≤ q.1 ∧ 6 ≤ q.2) (hv : a_count S p0 = some v) : mW (d + 8) mm157 (0, [some (.ref 41), some (.int p0)], [], (h, q)) (mX q v.1 v.2.1 (some (.int v.2.2))) := by
  unfold a_count at hv
  refine mW.sn 1 (g' := (1, [some (.ref 41), some (.int p0)], [.int p0], (h, q))) rfl ?_
  by_cases hc1 : p0 = (0 : Int32)
  · rw [if_pos hc1] at hv
    refine mW.sn 1 (g' := (32, [some (.ref 41), some (.int p0)], [], (h, q))) (by rw [hc1]; rfl) ?_
    refine mW.sn 1 (g' := (33, [some (.ref 41), some (.int p0)], [.ref 41], (h, q))) rfl ?_
    refine sW.getR rfl hs o41 rfl rfl ?_
    refine sW.call rfl rfl rfl rfl (hs.rcvT (by decide)) (sW.of hs (x24 (hs.gtx (by decide)))) ?_
    intro h2 hs2
    cases hv
    exact sW.finX hs2 rfl
  rw [if_neg hc1] at hv
  by_cases hc3 : p0 = (1 : Int32)
  · rw [if_pos hc3] at hv
    refine mW.sn 1 (g' := (40, [some (.ref 41), some (.int p0)], [], (h, q))) (by rw [hc3]; rfl) ?_
    refine mW.sn 1 (g' := (41, [some (.ref 41), some (.int p0)], [.ref 41], (h, q))) rfl ?_
    refine sW.getR rfl hs o41 rfl rfl ?_
    refine sW.call rfl rfl rfl rfl (hs.rcvT (by decide)) (sW.of hs (x24 (hs.gtx (by decide)))) ?_
    intro h4 hs4
    cases hv
    exact sW.finX hs4 rfl
  rw [if_neg hc3] at hv
  by_cases hc5 : p0 = (2 : Int32)
  · rw [if_pos hc5] at hv
    refine mW.sn 1 (g' := (48, [some (.ref 41), some (.int p0)], [], (h, q))) (by rw [hc5]; rfl) ?_
    refine mW.sn 1 (g' := (49, [some (.ref 41), some (.int p0)], [.ref 41], (h, q))) rfl ?_
    refine sW.getI rfl hs o41 rfl rfl ?_
    cases hv
    exact sW.finX hs rfl
  rw [if_neg hc5] at hv
  by_cases hc6 : p0 = (3 : Int32)
  · rw [if_pos hc6] at hv
    refine mW.sn 1 (g' := (53, [some (.ref 41), some (.int p0)], [], (h, q))) (by rw [hc6]; rfl) ?_
    refine mW.sn 1 (g' := (54, [some (.ref 41), some (.int p0)], [.ref 41], (h, q))) rfl ?_
    refine sW.getI rfl hs o41 rfl rfl ?_
    cases hv
    exact sW.finX hs rfl
  rw [if_neg hc6] at hv
  have hd6 : m_tsw 1 57 0 3 #[31, 39, 47, 52] p0 = 58 := by
    have n1 : ¬ (0 : Int) = p0.toInt := fun e => hc1 (Int32.toInt_inj.mp (e.symm.trans rfl))
    have n3 : ¬ (1 : Int) = p0.toInt := fun e => hc3 (Int32.toInt_inj.mp (e.symm.trans rfl))
    have n5 : ¬ (2 : Int) = p0.toInt := fun e => hc5 (Int32.toInt_inj.mp (e.symm.trans rfl))
    have n6 : ¬ (3 : Int) = p0.toInt := fun e => hc6 (Int32.toInt_inj.mp (e.symm.trans rfl))
    exact m_tsw_out _ _ _ _ _ _ (by omega)
  refine mW.sn 1 (g' := (58, [some (.ref 41), some (.int p0)], [], (h, q))) (by rw [← hd6]; rfl) ?_
  cases hv
  exact sW.thr rfl rfl hs hK (by omega) (by decide)
end
