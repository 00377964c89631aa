/-! PRINTED BY wip/whole (dec2): feed and end; the law's helpers. -/
section
set_option maxRecDepth 4000
variable {d : Nat} {h : mH} {q : Nat × Nat}
def c_putInt (S : SS) (o : Nat) (p0 : Int32) : Option (SS) := some (sput (sput (sput (sput S o (p0 >>> (24 &&& 31))) o (p0 >>> (16 &&& 31))) o (p0 >>> (8 &&& 31))) o p0)
theorem s25 {S : SS} {o : Nat} (ho : o ∈ shT) {p0 : Int32} {v : SS} (hs : cs h S) (hv : c_putInt S o p0 = some v) : mW (d + 1) mm25 (0, [some (.ref o), some (.int p0)], [], (h, q)) (mQ q v none) := by
  unfold c_putInt at hv
  refine mW.sn 4 (g' := (5, [some (.ref o), some (.int p0)], [.int (p0 >>> (24 &&& 31)), .ref o], (h, q))) rfl ?_
  refine sW.call rfl rfl rfl rfl (hs.rcvT ho) (s15 hs ho) ?_
  intro h1 hs1
  refine mW.sn 4 (g' := (13, [some (.ref o), some (.int p0)], [.int (p0 >>> (16 &&& 31)), .ref o], (h1, q))) rfl ?_
  refine sW.call rfl rfl rfl rfl (hs1.rcvT ho) (s15 hs1 ho) ?_
  intro h2 hs2
  refine mW.sn 4 (g' := (21, [some (.ref o), some (.int p0)], [.int (p0 >>> (8 &&& 31)), .ref o], (h2, q))) rfl ?_
  refine sW.call rfl rfl rfl rfl (hs2.rcvT ho) (s15 hs2 ho) ?_
  intro h3 hs3
  refine mW.sn 2 (g' := (26, [some (.ref o), some (.int p0)], [.int p0, .ref o], (h3, q))) rfl ?_
  refine sW.call rfl rfl rfl rfl (hs3.rcvT ho) (s15 hs3 ho) ?_
  intro h4 hs4
  cases hv
  exact sW.fin hs4 rfl
def a_feed (S : SS) (p0 : Int32) (p1 : Int32) (p2 : Int32) (p3 : Int32) (p4 : Int32) : Option (SS × Nat × Int32) := (if ((Int32.ofNat (tT S 42).length) + 20) ≤ (4096 : Int32) then ((c_putInt S 42 p0).bind fun r3 => ((c_putInt r3 42 p1).bind fun r5 => ((c_putInt r5 42 p2).bind fun r7 => ((c_putInt r7 42 p3).bind fun r9 => ((c_putInt r9 42 p4).bind fun r11 => some (r11, 0, Int32.ofNat (tT r11 42).length)))))) else some (S, 1, 0))
theorem s23 {S : SS} {p0 : Int32} {p1 : Int32} {p2 : Int32} {p3 : Int32} {p4 : Int32} {v : SS × Nat × Int32} (hs : cs h S) (hK : 1 ≤ q.1 ∧ 6 ≤ q.2) (hv : a_feed S p0 p1 p2 p3 p4 = some v) : mW (d + 8) mm23 (0, [some (.ref 41), some (.int p0), some (.int p1), some (.int p2), some (.int p3), some (.int p4)], [], (h, q)) (mX q v.1 v.2.1 (some (.int v.2.2))) := by
  unfold a_feed at hv
  refine mW.sn 1 (g' := (1, [some (.ref 41), some (.int p0), some (.int p1), some (.int p2), some (.int p3), some (.int p4)], [.ref 41], (h, q))) rfl ?_
  refine sW.getR rfl hs o41 rfl rfl ?_
  refine sW.call rfl rfl rfl rfl (hs.rcvT (by decide)) (sW.of hs (x24 (hs.gtx (by decide)))) ?_
  intro h1 hs1
  refine mW.sn 3 (g' := (13, [some (.ref 41), some (.int p0), some (.int p1), some (.int p2), some (.int p3), some (.int p4)], [.int 4096, .int ((Int32.ofNat (tT S 42).length) + 20)], (h1, q))) rfl ?_
  refine mW.br (g1 := (24, [some (.ref 41), some (.int p0), some (.int p1), some (.int p2), some (.int p3), some (.int p4)], [], (h1, q))) (g2 := (16, [some (.ref 41), some (.int p0), some (.int p1), some (.int p2), some (.int p3), some (.int p4)], [], (h1, q))) (c := ((Int32.ofNat (tT S 42).length) + 20) ≤ (4096 : Int32)) rfl (fun hc2 => ?_) (fun hc2 => ?_)
  · rw [if_pos hc2] at hv
    refine mW.sn 1 (g' := (25, [some (.ref 41), some (.int p0), some (.int p1), some (.int p2), some (.int p3), some (.int p4)], [.ref 41], (h1, q))) rfl ?_
    refine sW.getR rfl hs1 o41 rfl rfl ?_
    refine mW.sn 1 (g' := (29, [some (.ref 41), some (.int p0), some (.int p1), some (.int p2), some (.int p3), some (.int p4)], [.int p0, .ref 42], (h1, q))) rfl ?_
    cases hr3 : c_putInt S 42 p0 with
    | none => rw [hr3] at hv; cases hv
    | some r3 =>
      rw [hr3, o_bind] at hv
      refine sW.call rfl rfl rfl rfl (hs1.rcvT (by decide)) (s25 (by decide) hs1 hr3) ?_
      intro h4 hs4
      refine mW.sn 1 (g' := (33, [some (.ref 41), some (.int p0), some (.int p1), some (.int p2), some (.int p3), some (.int p4)], [.ref 41], (h4, q))) rfl ?_
      refine sW.getR rfl hs4 o41 rfl rfl ?_
      refine mW.sn 1 (g' := (37, [some (.ref 41), some (.int p0), some (.int p1), some (.int p2), some (.int p3), some (.int p4)], [.int p1, .ref 42], (h4, q))) rfl ?_
      cases hr5 : c_putInt r3 42 p1 with
      | none => rw [hr5] at hv; cases hv
      | some r5 =>
        rw [hr5, o_bind] at hv
        refine sW.call rfl rfl rfl rfl (hs4.rcvT (by decide)) (s25 (by decide) hs4 hr5) ?_
        intro h6 hs6
        refine mW.sn 1 (g' := (41, [some (.ref 41), some (.int p0), some (.int p1), some (.int p2), some (.int p3), some (.int p4)], [.ref 41], (h6, q))) rfl ?_
        refine sW.getR rfl hs6 o41 rfl rfl ?_
        refine mW.sn 1 (g' := (45, [some (.ref 41), some (.int p0), some (.int p1), some (.int p2), some (.int p3), some (.int p4)], [.int p2, .ref 42], (h6, q))) rfl ?_
        cases hr7 : c_putInt r5 42 p2 with
        | none => rw [hr7] at hv; cases hv
        | some r7 =>
          rw [hr7, o_bind] at hv
          refine sW.call rfl rfl rfl rfl (hs6.rcvT (by decide)) (s25 (by decide) hs6 hr7) ?_
          intro h8 hs8
          refine mW.sn 1 (g' := (49, [some (.ref 41), some (.int p0), some (.int p1), some (.int p2), some (.int p3), some (.int p4)], [.ref 41], (h8, q))) rfl ?_
          refine sW.getR rfl hs8 o41 rfl rfl ?_
          refine mW.sn 1 (g' := (54, [some (.ref 41), some (.int p0), some (.int p1), some (.int p2), some (.int p3), some (.int p4)], [.int p3, .ref 42], (h8, q))) rfl ?_
          cases hr9 : c_putInt r7 42 p3 with
          | none => rw [hr9] at hv; cases hv
          | some r9 =>
            rw [hr9, o_bind] at hv
            refine sW.call rfl rfl rfl rfl (hs8.rcvT (by decide)) (s25 (by decide) hs8 hr9) ?_
            intro h10 hs10
            refine mW.sn 1 (g' := (58, [some (.ref 41), some (.int p0), some (.int p1), some (.int p2), some (.int p3), some (.int p4)], [.ref 41], (h10, q))) rfl ?_
            refine sW.getR rfl hs10 o41 rfl rfl ?_
            refine mW.sn 1 (g' := (63, [some (.ref 41), some (.int p0), some (.int p1), some (.int p2), some (.int p3), some (.int p4)], [.int p4, .ref 42], (h10, q))) rfl ?_
            cases hr11 : c_putInt r9 42 p4 with
            | none => rw [hr11] at hv; cases hv
            | some r11 =>
              rw [hr11, o_bind] at hv
              refine sW.call rfl rfl rfl rfl (hs10.rcvT (by decide)) (s25 (by decide) hs10 hr11) ?_
              intro h12 hs12
              refine mW.sn 1 (g' := (67, [some (.ref 41), some (.int p0), some (.int p1), some (.int p2), some (.int p3), some (.int p4)], [.ref 41], (h12, q))) rfl ?_
              refine sW.getR rfl hs12 o41 rfl rfl ?_
              refine sW.call rfl rfl rfl rfl (hs12.rcvT (by decide)) (sW.of hs12 (x24 (hs12.gtx (by decide)))) ?_
              intro h13 hs13
              cases hv
              exact sW.finX hs13 rfl
  · rw [if_neg hc2] at hv
    cases hv
    exact sW.thr rfl rfl hs1 hK (by omega) (by decide)
def a_end (S : SS) (p0 : Int32) : Option (SS × Nat × Int32) := (if p0 < 0 then some (S, 2, 0) else (if p0 ≤ (Int32.ofNat (tT S 42).length) then some (skeep S 42 p0, 0, p0) else some (S, 2, 0)))
theorem s27 {S : SS} {p0 : Int32} {v : SS × Nat × Int32} (hs : cs h S) (hK : 1 ≤ q.1 ∧ 6 ≤ q.2) (hv : a_end S p0 = some v) : mW (d + 8) mm27 (0, [some (.ref 41), some (.int p0)], [], (h, q)) (mX q v.1 v.2.1 (some (.int v.2.2))) := by
  unfold a_end at hv
  refine mW.sn 1 (g' := (1, [some (.ref 41), some (.int p0)], [.int p0], (h, q))) rfl ?_
  refine mW.br (g1 := (15, [some (.ref 41), some (.int p0)], [], (h, q))) (g2 := (4, [some (.ref 41), some (.int p0)], [], (h, q))) (c := p0 < 0) rfl (fun hc1 => ?_) (fun hc1 => ?_)
  · rw [if_pos hc1] at hv
    cases hv
    exact sW.thr rfl rfl hs hK (by omega) (by decide)
  · rw [if_neg hc1] at hv
    refine mW.sn 2 (g' := (6, [some (.ref 41), some (.int p0)], [.ref 41, .int p0], (h, q))) rfl ?_
    refine sW.getR rfl hs o41 rfl rfl ?_
    refine sW.call rfl rfl rfl rfl (hs.rcvT (by decide)) (sW.of hs (x24 (hs.gtx (by decide)))) ?_
    intro h2 hs2
    refine mW.br (g1 := (23, [some (.ref 41), some (.int p0)], [], (h2, q))) (g2 := (15, [some (.ref 41), some (.int p0)], [], (h2, q))) (c := p0 ≤ (Int32.ofNat (tT S 42).length)) rfl (fun hc3 => ?_) (fun hc3 => ?_)
    · rw [if_pos hc3] at hv
      refine mW.sn 1 (g' := (24, [some (.ref 41), some (.int p0)], [.ref 41], (h2, q))) rfl ?_
      refine sW.getR rfl hs2 o41 rfl rfl ?_
      refine mW.sn 1 (g' := (28, [some (.ref 41), some (.int p0)], [.int p0, .ref 42], (h2, q))) rfl ?_
      refine sW.call rfl rfl rfl rfl (hs2.rcvT (by decide)) (s28 (by decide) hs2) ?_
      intro h4 hs4
      refine mW.sn 1 (g' := (32, [some (.ref 41), some (.int p0)], [.int p0], (h4, q))) rfl ?_
      cases hv
      exact sW.finX hs4 rfl
    · rw [if_neg hc3] at hv
      cases hv
      exact sW.thr rfl rfl hs2 hK (by omega) (by decide)
def b_four_l3 : Nat → SS → Int32 → Int32 → Option (SS)
  | 0, _, _, _ => none
  | n + 1, S, l1, l2 => (if l2 < 0 then some S else ((iset (S 79) (rd S 78 1) ((l1 >>> (l2 &&& 31)) &&& 255)).bind fun z2 => b_four_l3 n (wr (up S 79 z2) 78 1 ((rd (up S 79 z2) 78 1) + 1)) l1 (l2 + (-8))))
theorem b_four_l3_ok : ∀ (n : Nat), ∀ (h : mH) (S : SS) (l1 : Int32) (l2 : Int32) (v : SS), cs h S → b_four_l3 n S l1 l2 = some v → mW d mm161 (3, [some (.ref 78), some (.int l1), some (.int l2)], [], (h, q)) (mQ q v none) := by
  intro n
  induction n with
  | zero => intro h S l1 l2 v hs hv; cases hv
  | succ n ih =>
    intro h S l1 l2 v hs hv
    unfold b_four_l3 at hv
    refine mW.sn 1 (g' := (4, [some (.ref 78), some (.int l1), some (.int l2)], [.int l2], (h, q))) rfl ?_
    refine mW.br (g1 := (39, [some (.ref 78), some (.int l1), some (.int l2)], [], (h, q))) (g2 := (7, [some (.ref 78), some (.int l1), some (.int l2)], [], (h, q))) (c := l2 < 0) rfl (fun hc1 => ?_) (fun hc1 => ?_)
    · rw [if_pos hc1] at hv
      cases hv
      exact sW.fin hs rfl
    · rw [if_neg hc1] at hv
      refine mW.sn 1 (g' := (8, [some (.ref 78), some (.int l1), some (.int l2)], [.ref 78], (h, q))) rfl ?_
      refine sW.getR rfl hs o78 rfl rfl ?_
      refine mW.sn 1 (g' := (12, [some (.ref 78), some (.int l1), some (.int l2)], [.ref 78, .ref 79], (h, q))) rfl ?_
      refine sW.getI rfl hs o78 rfl rfl ?_
      refine mW.sn 5 (g' := (22, [some (.ref 78), some (.int l1), some (.int l2)], [.int ((l1 >>> (l2 &&& 31)) &&& 255), .int (rd S 78 1), .ref 79], (h, q))) rfl ?_
      cases hr2 : iset (S 79) (rd S 78 1) ((l1 >>> (l2 &&& 31)) &&& 255) with
      | none => rw [hr2] at hv; cases hv
      | some z2 =>
        rw [hr2, o_bind] at hv
        refine sW.iast rfl hs (by decide) hr2 ?_
        intro h3 hs3
        refine mW.sn 2 (g' := (25, [some (.ref 78), some (.int l1), some (.int l2)], [.ref 78, .ref 78], (h3, q))) rfl ?_
        refine sW.getI rfl hs3 o78 rfl rfl ?_
        refine mW.sn 2 (g' := (30, [some (.ref 78), some (.int l1), some (.int l2)], [.int ((rd (up S 79 z2) 78 1) + 1), .ref 78], (h3, q))) rfl ?_
        refine sW.putI rfl hs3 o78 rfl ?_
        intro h4 hs4
        refine mW.sn 2 (g' := (3, [some (.ref 78), some (.int l1), some (.int (l2 + (-8)))], [], (h4, q))) rfl ?_
        exact ih _ _ _ _ _  hs4 hv
def b_four (S : SS) (p0 : Int32) : Option (SS) := b_four_l3 10000 S p0 24
theorem s161 {S : SS} {p0 : Int32} {v : SS} (hs : cs h S) (hv : b_four S p0 = some v) : mW d mm161 (0, [some (.ref 78), some (.int p0), none], [], (h, q)) (mQ q v none) := by
  unfold b_four at hv
  refine mW.sn 2 (g' := (3, [some (.ref 78), some (.int p0), some (.int 24)], [], (h, q))) rfl ?_
  exact b_four_l3_ok _ _ _ _ _ _  hs hv
def b_feed (S : SS) (p0 : Int32) (p1 : Int32) (p2 : Int32) (p3 : Int32) (p4 : Int32) : Option (SS × Int32) := (if ((rd (wr S 78 0 0) 78 1) + 20) ≤ (4096 : Int32) then ((b_four (wr S 78 0 0) p0).bind fun r3 => ((b_four r3 p1).bind fun r5 => ((b_four r5 p2).bind fun r7 => ((b_four r7 p3).bind fun r9 => ((b_four r9 p4).bind fun r11 => some (r11, rd r11 78 1)))))) else ((b_fail (wr S 78 0 0) 1).bind fun r13 => some (r13.1, r13.2)))
theorem s159 {S : SS} {p0 : Int32} {p1 : Int32} {p2 : Int32} {p3 : Int32} {p4 : Int32} {v : SS × Int32} (hs : cs h S) (hv : b_feed S p0 p1 p2 p3 p4 = some v) : mW (d + 1) mm159 (0, [some (.ref 78), some (.int p0), some (.int p1), some (.int p2), some (.int p3), some (.int p4)], [], (h, q)) (mQ q v.1 (some (.int v.2))) := by
  unfold b_feed at hv
  refine mW.sn 2 (g' := (2, [some (.ref 78), some (.int p0), some (.int p1), some (.int p2), some (.int p3), some (.int p4)], [.int 0, .ref 78], (h, q))) rfl ?_
  refine sW.putI rfl hs o78 rfl ?_
  intro h1 hs1
  refine mW.sn 1 (g' := (6, [some (.ref 78), some (.int p0), some (.int p1), some (.int p2), some (.int p3), some (.int p4)], [.ref 78], (h1, q))) rfl ?_
  refine sW.getI rfl hs1 o78 rfl rfl ?_
  refine mW.sn 3 (g' := (15, [some (.ref 78), some (.int p0), some (.int p1), some (.int p2), some (.int p3), some (.int p4)], [.int 4096, .int ((rd (wr S 78 0 0) 78 1) + 20)], (h1, q))) rfl ?_
  refine mW.br (g1 := (24, [some (.ref 78), some (.int p0), some (.int p1), some (.int p2), some (.int p3), some (.int p4)], [], (h1, q))) (g2 := (18, [some (.ref 78), some (.int p0), some (.int p1), some (.int p2), some (.int p3), some (.int p4)], [], (h1, q))) (c := ((rd (wr S 78 0 0) 78 1) + 20) ≤ (4096 : Int32)) rfl (fun hc2 => ?_) (fun hc2 => ?_)
  · rw [if_pos hc2] at hv
    refine mW.sn 2 (g' := (26, [some (.ref 78), some (.int p0), some (.int p1), some (.int p2), some (.int p3), some (.int p4)], [.int p0, .ref 78], (h1, q))) rfl ?_
    cases hr3 : b_four (wr S 78 0 0) p0 with
    | none => rw [hr3] at hv; cases hv
    | some r3 =>
      rw [hr3, o_bind] at hv
      refine sW.call rfl rfl rfl rfl (hs1.rcv o78) (s161 hs1 hr3) ?_
      intro h4 hs4
      refine mW.sn 2 (g' := (31, [some (.ref 78), some (.int p0), some (.int p1), some (.int p2), some (.int p3), some (.int p4)], [.int p1, .ref 78], (h4, q))) rfl ?_
      cases hr5 : b_four r3 p1 with
      | none => rw [hr5] at hv; cases hv
      | some r5 =>
        rw [hr5, o_bind] at hv
        refine sW.call rfl rfl rfl rfl (hs4.rcv o78) (s161 hs4 hr5) ?_
        intro h6 hs6
        refine mW.sn 2 (g' := (36, [some (.ref 78), some (.int p0), some (.int p1), some (.int p2), some (.int p3), some (.int p4)], [.int p2, .ref 78], (h6, q))) rfl ?_
        cases hr7 : b_four r5 p2 with
        | none => rw [hr7] at hv; cases hv
        | some r7 =>
          rw [hr7, o_bind] at hv
          refine sW.call rfl rfl rfl rfl (hs6.rcv o78) (s161 hs6 hr7) ?_
          intro h8 hs8
          refine mW.sn 2 (g' := (42, [some (.ref 78), some (.int p0), some (.int p1), some (.int p2), some (.int p3), some (.int p4)], [.int p3, .ref 78], (h8, q))) rfl ?_
          cases hr9 : b_four r7 p3 with
          | none => rw [hr9] at hv; cases hv
          | some r9 =>
            rw [hr9, o_bind] at hv
            refine sW.call rfl rfl rfl rfl (hs8.rcv o78) (s161 hs8 hr9) ?_
            intro h10 hs10
            refine mW.sn 2 (g' := (48, [some (.ref 78), some (.int p0), some (.int p1), some (.int p2), some (.int p3), some (.int p4)], [.int p4, .ref 78], (h10, q))) rfl ?_
            cases hr11 : b_four r9 p4 with
            | none => rw [hr11] at hv; cases hv
            | some r11 =>
              rw [hr11, o_bind] at hv
              refine sW.call rfl rfl rfl rfl (hs10.rcv o78) (s161 hs10 hr11) ?_
              intro h12 hs12
              refine mW.sn 1 (g' := (52, [some (.ref 78), some (.int p0), some (.int p1), some (.int p2), some (.int p3), some (.int p4)], [.ref 78], (h12, q))) rfl ?_
              refine sW.getI rfl hs12 o78 rfl rfl ?_
              cases hv
              exact sW.fin hs12 rfl
  · rw [if_neg hc2] at hv
    refine mW.sn 2 (g' := (20, [some (.ref 78), some (.int p0), some (.int p1), some (.int p2), some (.int p3), some (.int p4)], [.int 1, .ref 78], (h1, q))) rfl ?_
    cases hr13 : b_fail (wr S 78 0 0) 1 with
    | none => rw [hr13] at hv; cases hv
    | some r13 =>
      rw [hr13, o_bind] at hv
      refine sW.call rfl rfl rfl rfl (hs1.rcv o78) (s160 hs1 hr13) ?_
      intro h14 hs14
      cases hv
      exact sW.fin hs14 rfl
def b_end (S : SS) (p0 : Int32) : Option (SS × Int32) := (if p0 < 0 then ((b_fail (wr S 78 0 0) 1).bind fun r3 => some (r3.1, r3.2)) else (if p0 ≤ (rd (wr S 78 0 0) 78 1) then some (wr (wr S 78 0 0) 78 1 p0, p0) else ((b_fail (wr S 78 0 0) 1).bind fun r7 => some (r7.1, r7.2))))
theorem s162 {S : SS} {p0 : Int32} {v : SS × Int32} (hs : cs h S) (hv : b_end S p0 = some v) : mW (d + 1) mm162 (0, [some (.ref 78), some (.int p0)], [], (h, q)) (mQ q v.1 (some (.int v.2))) := by
  unfold b_end at hv
  refine mW.sn 2 (g' := (2, [some (.ref 78), some (.int p0)], [.int 0, .ref 78], (h, q))) rfl ?_
  refine sW.putI rfl hs o78 rfl ?_
  intro h1 hs1
  refine mW.sn 1 (g' := (6, [some (.ref 78), some (.int p0)], [.int p0], (h1, q))) rfl ?_
  refine mW.br (g1 := (17, [some (.ref 78), some (.int p0)], [], (h1, q))) (g2 := (9, [some (.ref 78), some (.int p0)], [], (h1, q))) (c := p0 < 0) rfl (fun hc2 => ?_) (fun hc2 => ?_)
  · rw [if_pos hc2] at hv
    refine mW.sn 2 (g' := (19, [some (.ref 78), some (.int p0)], [.int 1, .ref 78], (h1, q))) rfl ?_
    cases hr3 : b_fail (wr S 78 0 0) 1 with
    | none => rw [hr3] at hv; cases hv
    | some r3 =>
      rw [hr3, o_bind] at hv
      refine sW.call rfl rfl rfl rfl (hs1.rcv o78) (s160 hs1 hr3) ?_
      intro h4 hs4
      cases hv
      exact sW.fin hs4 rfl
  · rw [if_neg hc2] at hv
    refine mW.sn 2 (g' := (11, [some (.ref 78), some (.int p0)], [.ref 78, .int p0], (h1, q))) rfl ?_
    refine sW.getI rfl hs1 o78 rfl rfl ?_
    refine mW.br (g1 := (23, [some (.ref 78), some (.int p0)], [], (h1, q))) (g2 := (17, [some (.ref 78), some (.int p0)], [], (h1, q))) (c := p0 ≤ (rd (wr S 78 0 0) 78 1)) rfl (fun hc5 => ?_) (fun hc5 => ?_)
    · rw [if_pos hc5] at hv
      refine mW.sn 2 (g' := (25, [some (.ref 78), some (.int p0)], [.int p0, .ref 78], (h1, q))) rfl ?_
      refine sW.putI rfl hs1 o78 rfl ?_
      intro h6 hs6
      refine mW.sn 1 (g' := (29, [some (.ref 78), some (.int p0)], [.int p0], (h6, q))) rfl ?_
      cases hv
      exact sW.fin hs6 rfl
    · rw [if_neg hc5] at hv
      refine mW.sn 2 (g' := (19, [some (.ref 78), some (.int p0)], [.int 1, .ref 78], (h1, q))) rfl ?_
      cases hr7 : b_fail (wr S 78 0 0) 1 with
      | none => rw [hr7] at hv; cases hv
      | some r7 =>
        rw [hr7, o_bind] at hv
        refine sW.call rfl rfl rfl rfl (hs1.rcv o78) (s160 hs1 hr7) ?_
        intro h8 hs8
        cases hv
        exact sW.fin hs8 rfl
def h_feed (S : SS) (p0 : Int32) (p1 : Int32) (p2 : Int32) (p3 : Int32) (p4 : Int32) : Option (SS × Int32) := ((a_feed S p0 p1 p2 p3 p4).bind fun r1 => if r1.2.1 = 0 then some (up r1.1 101 (lgE r1.2.2.toInt64), 0) else (if r1.2.1 = 1 then some (r1.1, 1) else none))
theorem s22 {S : SS} {p0 : Int32} {p1 : Int32} {p2 : Int32} {p3 : Int32} {p4 : Int32} {v : SS × Int32} (hs : cs h S) (hK : 1 ≤ q.1 ∧ 6 ≤ q.2) (hv : h_feed S p0 p1 p2 p3 p4 = some v) : mW (d + 9) mm22 (0, [some (.ref 41), some (.int p0), some (.int p1), some (.int p2), some (.int p3), some (.int p4), some (.ref 101), none], [], (h, q)) (mHp q v.1 v.2) := by
  unfold h_feed at hv
  refine mW.sn 8 (g' := (11, [some (.ref 41), some (.int p0), some (.int p1), some (.int p2), some (.int p3), some (.int p4), some (.ref 101), none], [.int p4, .int p3, .int p2, .int p1, .int p0, .ref 41, .int 0, .ref 101], (h, q))) rfl ?_
  cases hr1 : a_feed S p0 p1 p2 p3 p4 with
  | none => rw [hr1] at hv; cases hv
  | some r1 =>
    rw [hr1, o_bind] at hv
    by_cases ht1 : r1.2.1 = 0
    · rw [if_pos ht1] at hv
      refine sW.callX0 rfl rfl rfl rfl (hs.rcv o41) (s23 hs hK hr1) ht1 ?_
      intro h2 hs2
      refine mW.sn 1 (g' := (15, [some (.ref 41), some (.int p0), some (.int p1), some (.int p2), some (.int p3), some (.int p4), some (.ref 101), none], [.long r1.2.2.toInt64, .int 0, .ref 101], (h2, q))) rfl ?_
      refine sW.last101 rfl hs2 ?_
      intro h3 hs3
      refine mW.sn 2 (g' := (24, [some (.ref 41), some (.int p0), some (.int p1), some (.int p2), some (.int p3), some (.int p4), some (.ref 101), none], [.int 0], (h3, q))) rfl ?_
      cases hv
      exact sW.finC hs3 rfl (by omega) (by omega)
    rw [if_neg ht1] at hv
    by_cases hg4 : r1.2.1 = 1
    · rw [if_pos hg4] at hv
      refine sW.callXC rfl rfl rfl rfl (hs.rcv o41) (s23 hs hK hr1) (k' := 0) hg4 (by decide) rfl rfl ?_
      intro h5 x5 hs5
      refine mW.sn 2 (g' := (22, [some (.ref 41), some (.int p0), some (.int p1), some (.int p2), some (.int p3), some (.int p4), some (.ref 101), some (.ref x5)], [.int 1], (h5, (q.1 - 1, q.2 - 6)))) rfl ?_
      cases hv
      exact sW.finC hs5 rfl (by omega) (by omega)
    rw [if_neg hg4] at hv
    cases hv
def h_end (S : SS) (p0 : Int32) : Option (SS × Int32) := ((a_end S p0).bind fun r1 => if r1.2.1 = 0 then some (up r1.1 101 (lgE r1.2.2.toInt64), 0) else (if r1.2.1 = 2 then some (r1.1, 1) else none))
theorem s26 {S : SS} {p0 : Int32} {v : SS × Int32} (hs : cs h S) (hK : 1 ≤ q.1 ∧ 6 ≤ q.2) (hv : h_end S p0 = some v) : mW (d + 9) mm26 (0, [some (.ref 41), some (.int p0), some (.ref 101), none], [], (h, q)) (mHp q v.1 v.2) := by
  unfold h_end at hv
  refine mW.sn 4 (g' := (4, [some (.ref 41), some (.int p0), some (.ref 101), none], [.int p0, .ref 41, .int 0, .ref 101], (h, q))) rfl ?_
  cases hr1 : a_end S p0 with
  | none => rw [hr1] at hv; cases hv
  | some r1 =>
    rw [hr1, o_bind] at hv
    by_cases ht1 : r1.2.1 = 0
    · rw [if_pos ht1] at hv
      refine sW.callX0 rfl rfl rfl rfl (hs.rcv o41) (s27 hs hK hr1) ht1 ?_
      intro h2 hs2
      refine mW.sn 1 (g' := (8, [some (.ref 41), some (.int p0), some (.ref 101), none], [.long r1.2.2.toInt64, .int 0, .ref 101], (h2, q))) rfl ?_
      refine sW.last101 rfl hs2 ?_
      intro h3 hs3
      refine mW.sn 2 (g' := (16, [some (.ref 41), some (.int p0), some (.ref 101), none], [.int 0], (h3, q))) rfl ?_
      cases hv
      exact sW.finC hs3 rfl (by omega) (by omega)
    rw [if_neg ht1] at hv
    by_cases hg4 : r1.2.1 = 2
    · rw [if_pos hg4] at hv
      refine sW.callXC rfl rfl rfl rfl (hs.rcv o41) (s27 hs hK hr1) (k' := 1) hg4 (by decide) rfl rfl ?_
      intro h5 x5 hs5
      refine mW.sn 2 (g' := (14, [some (.ref 41), some (.int p0), some (.ref 101), some (.ref x5)], [.int 1], (h5, (q.1 - 1, q.2 - 6)))) rfl ?_
      cases hv
      exact sW.finC hs5 rfl (by omega) (by omega)
    rw [if_neg hg4] at hv
    cases hv
def h_read (S : SS) (p0 : Int32) : Option (SS × Int32) := ((a_read S p0).bind fun r1 => if r1.2.1 = 0 then some (up r1.1 101 (lgE r1.2.2.toInt64), 0) else (if r1.2.1 = 2 then some (r1.1, 1) else (if r1.2.1 = 3 then some (r1.1, 2) else (if r1.2.1 = 1 then some (r1.1, 3) else none))))
theorem s31 {S : SS} {p0 : Int32} {v : SS × Int32} (hs : cs h S) (hK : 1 ≤ q.1 ∧ 6 ≤ q.2) (hv : h_read S p0 = some v) : mW (d + 603) mm31 (0, [some (.ref 41), some (.int p0), some (.ref 101), none], [], (h, q)) (mHp q v.1 v.2) := by
  unfold h_read at hv
  refine mW.sn 4 (g' := (4, [some (.ref 41), some (.int p0), some (.ref 101), none], [.int p0, .ref 41, .int 0, .ref 101], (h, q))) rfl ?_
  cases hr1 : a_read S p0 with
  | none => rw [hr1] at hv; cases hv
  | some r1 =>
    rw [hr1, o_bind] at hv
    by_cases ht1 : r1.2.1 = 0
    · rw [if_pos ht1] at hv
      refine sW.callX0 rfl rfl rfl rfl (hs.rcv o41) (s32 hs hK hr1) ht1 ?_
      intro h2 hs2
      refine mW.sn 1 (g' := (8, [some (.ref 41), some (.int p0), some (.ref 101), none], [.long r1.2.2.toInt64, .int 0, .ref 101], (h2, q))) rfl ?_
      refine sW.last101 rfl hs2 ?_
      intro h3 hs3
      refine mW.sn 2 (g' := (22, [some (.ref 41), some (.int p0), some (.ref 101), none], [.int 0], (h3, q))) rfl ?_
      cases hv
      exact sW.finC hs3 rfl (by omega) (by omega)
    rw [if_neg ht1] at hv
    by_cases hg4 : r1.2.1 = 2
    · rw [if_pos hg4] at hv
      refine sW.callXC rfl rfl rfl rfl (hs.rcv o41) (s32 hs hK hr1) (k' := 1) hg4 (by decide) rfl rfl ?_
      intro h5 x5 hs5
      refine mW.sn 2 (g' := (14, [some (.ref 41), some (.int p0), some (.ref 101), some (.ref x5)], [.int 1], (h5, (q.1 - 1, q.2 - 6)))) rfl ?_
      cases hv
      exact sW.finC hs5 rfl (by omega) (by omega)
    rw [if_neg hg4] at hv
    by_cases hg6 : r1.2.1 = 3
    · rw [if_pos hg6] at hv
      refine sW.callXC rfl rfl rfl rfl (hs.rcv o41) (s32 hs hK hr1) (k' := 2) hg6 (by decide) rfl rfl ?_
      intro h7 x7 hs7
      refine mW.sn 2 (g' := (17, [some (.ref 41), some (.int p0), some (.ref 101), some (.ref x7)], [.int 2], (h7, (q.1 - 1, q.2 - 6)))) rfl ?_
      cases hv
      exact sW.finC hs7 rfl (by omega) (by omega)
    rw [if_neg hg6] at hv
    by_cases hg8 : r1.2.1 = 1
    · rw [if_pos hg8] at hv
      refine sW.callXC rfl rfl rfl rfl (hs.rcv o41) (s32 hs hK hr1) (k' := 0) hg8 (by decide) rfl rfl ?_
      intro h9 x9 hs9
      refine mW.sn 2 (g' := (20, [some (.ref 41), some (.int p0), some (.ref 101), some (.ref x9)], [.int 3], (h9, (q.1 - 1, q.2 - 6)))) rfl ?_
      cases hv
      exact sW.finC hs9 rfl (by omega) (by omega)
    rw [if_neg hg8] at hv
    cases hv
def h_print (S : SS) (p0 : Int32) : Option (SS × Int32) := ((a_print S p0).bind fun r1 => if r1.2.1 = 0 then some (up r1.1 101 (lgE r1.2.2.toInt64), 0) else (if r1.2.1 = 2 then some (r1.1, 1) else none))
theorem s65 {S : SS} {p0 : Int32} {v : SS × Int32} (hs : cs h S) (hK : 1 ≤ q.1 ∧ 6 ≤ q.2) (hv : h_print S p0 = some v) : mW (d + 10) mm65 (0, [some (.ref 41), some (.int p0), some (.ref 101), none], [], (h, q)) (mHp q v.1 v.2) := by
  unfold h_print at hv
  refine mW.sn 4 (g' := (4, [some (.ref 41), some (.int p0), some (.ref 101), none], [.int p0, .ref 41, .int 0, .ref 101], (h, q))) rfl ?_
  cases hr1 : a_print S p0 with
  | none => rw [hr1] at hv; cases hv
  | some r1 =>
    rw [hr1, o_bind] at hv
    by_cases ht1 : r1.2.1 = 0
    · rw [if_pos ht1] at hv
      refine sW.callX0 rfl rfl rfl rfl (hs.rcv o41) (s66 hs hK hr1) ht1 ?_
      intro h2 hs2
      refine mW.sn 1 (g' := (8, [some (.ref 41), some (.int p0), some (.ref 101), none], [.long r1.2.2.toInt64, .int 0, .ref 101], (h2, q))) rfl ?_
      refine sW.last101 rfl hs2 ?_
      intro h3 hs3
      refine mW.sn 2 (g' := (16, [some (.ref 41), some (.int p0), some (.ref 101), none], [.int 0], (h3, q))) rfl ?_
      cases hv
      exact sW.finC hs3 rfl (by omega) (by omega)
    rw [if_neg ht1] at hv
    by_cases hg4 : r1.2.1 = 2
    · rw [if_pos hg4] at hv
      refine sW.callXC rfl rfl rfl rfl (hs.rcv o41) (s66 hs hK hr1) (k' := 1) hg4 (by decide) rfl rfl ?_
      intro h5 x5 hs5
      refine mW.sn 2 (g' := (14, [some (.ref 41), some (.int p0), some (.ref 101), some (.ref x5)], [.int 1], (h5, (q.1 - 1, q.2 - 6)))) rfl ?_
      cases hv
      exact sW.finC hs5 rfl (by omega) (by omega)
    rw [if_neg hg4] at hv
    cases hv
def h_get (S : SS) (p0 : Int32) (p1 : Int32) (p2 : Int32) : Option (SS × Int32) := ((a_get S p0 p1 p2).bind fun r1 => if r1.2 = 0 then some (r1.1, 0) else (if r1.2 = 2 then some (r1.1, 1) else (if r1.2 = 4 then some (r1.1, 2) else (if r1.2 = 1 then some (r1.1, 3) else none))))
theorem s68 {S : SS} {p0 : Int32} {p1 : Int32} {p2 : Int32} {v : SS × Int32} (hs : cs h S) (hK : 1 ≤ q.1 ∧ 6 ≤ q.2) (hv : h_get S p0 p1 p2 = some v) : mW (d + 10) mm68 (0, [some (.ref 41), some (.int p0), some (.int p1), some (.int p2), none], [], (h, q)) (mHp q v.1 v.2) := by
  unfold h_get at hv
  refine mW.sn 4 (g' := (4, [some (.ref 41), some (.int p0), some (.int p1), some (.int p2), none], [.int p2, .int p1, .int p0, .ref 41], (h, q))) rfl ?_
  cases hr1 : a_get S p0 p1 p2 with
  | none => rw [hr1] at hv; cases hv
  | some r1 =>
    rw [hr1, o_bind] at hv
    by_cases ht1 : r1.2 = 0
    · rw [if_pos ht1] at hv
      refine sW.callX0 rfl rfl rfl rfl (hs.rcv o41) (s69 hs hK hr1) ht1 ?_
      intro h2 hs2
      refine mW.sn 2 (g' := (23, [some (.ref 41), some (.int p0), some (.int p1), some (.int p2), none], [.int 0], (h2, q))) rfl ?_
      cases hv
      exact sW.finC hs2 rfl (by omega) (by omega)
    rw [if_neg ht1] at hv
    by_cases hg3 : r1.2 = 2
    · rw [if_pos hg3] at hv
      refine sW.callXC rfl rfl rfl rfl (hs.rcv o41) (s69 hs hK hr1) (k' := 1) hg3 (by decide) rfl rfl ?_
      intro h4 x4 hs4
      refine mW.sn 2 (g' := (13, [some (.ref 41), some (.int p0), some (.int p1), some (.int p2), some (.ref x4)], [.int 1], (h4, (q.1 - 1, q.2 - 6)))) rfl ?_
      cases hv
      exact sW.finC hs4 rfl (by omega) (by omega)
    rw [if_neg hg3] at hv
    by_cases hg5 : r1.2 = 4
    · rw [if_pos hg5] at hv
      refine sW.callXC rfl rfl rfl rfl (hs.rcv o41) (s69 hs hK hr1) (k' := 3) hg5 (by decide) rfl rfl ?_
      intro h6 x6 hs6
      refine mW.sn 2 (g' := (17, [some (.ref 41), some (.int p0), some (.int p1), some (.int p2), some (.ref x6)], [.int 2], (h6, (q.1 - 1, q.2 - 6)))) rfl ?_
      cases hv
      exact sW.finC hs6 rfl (by omega) (by omega)
    rw [if_neg hg5] at hv
    by_cases hg7 : r1.2 = 1
    · rw [if_pos hg7] at hv
      refine sW.callXC rfl rfl rfl rfl (hs.rcv o41) (s69 hs hK hr1) (k' := 0) hg7 (by decide) rfl rfl ?_
      intro h8 x8 hs8
      refine mW.sn 2 (g' := (21, [some (.ref 41), some (.int p0), some (.int p1), some (.int p2), some (.ref x8)], [.int 3], (h8, (q.1 - 1, q.2 - 6)))) rfl ?_
      cases hv
      exact sW.finC hs8 rfl (by omega) (by omega)
    rw [if_neg hg7] at hv
    cases hv
def h_set (S : SS) (p0 : Int32) (p1 : Int32) (p2 : Int32) (p3 : Int32) : Option (SS × Int32) := ((a_set S p0 p1 p2 p3).bind fun r1 => if r1.2 = 0 then some (r1.1, 0) else (if r1.2 = 2 then some (r1.1, 1) else (if r1.2 = 4 then some (r1.1, 2) else (if r1.2 = 1 then some (r1.1, 3) else none))))
theorem s101 {S : SS} {p0 : Int32} {p1 : Int32} {p2 : Int32} {p3 : Int32} {v : SS × Int32} (hs : cs h S) (hK : 1 ≤ q.1 ∧ 6 ≤ q.2) (hv : h_set S p0 p1 p2 p3 = some v) : mW (d + 11) mm101 (0, [some (.ref 41), some (.int p0), some (.int p1), some (.int p2), some (.int p3), none], [], (h, q)) (mHp q v.1 v.2) := by
  unfold h_set at hv
  refine mW.sn 5 (g' := (6, [some (.ref 41), some (.int p0), some (.int p1), some (.int p2), some (.int p3), none], [.int p3, .int p2, .int p1, .int p0, .ref 41], (h, q))) rfl ?_
  cases hr1 : a_set S p0 p1 p2 p3 with
  | none => rw [hr1] at hv; cases hv
  | some r1 =>
    rw [hr1, o_bind] at hv
    by_cases ht1 : r1.2 = 0
    · rw [if_pos ht1] at hv
      refine sW.callX0 rfl rfl rfl rfl (hs.rcv o41) (s102 hs hK hr1) ht1 ?_
      intro h2 hs2
      refine mW.sn 2 (g' := (25, [some (.ref 41), some (.int p0), some (.int p1), some (.int p2), some (.int p3), none], [.int 0], (h2, q))) rfl ?_
      cases hv
      exact sW.finC hs2 rfl (by omega) (by omega)
    rw [if_neg ht1] at hv
    by_cases hg3 : r1.2 = 2
    · rw [if_pos hg3] at hv
      refine sW.callXC rfl rfl rfl rfl (hs.rcv o41) (s102 hs hK hr1) (k' := 1) hg3 (by decide) rfl rfl ?_
      intro h4 x4 hs4
      refine mW.sn 2 (g' := (15, [some (.ref 41), some (.int p0), some (.int p1), some (.int p2), some (.int p3), some (.ref x4)], [.int 1], (h4, (q.1 - 1, q.2 - 6)))) rfl ?_
      cases hv
      exact sW.finC hs4 rfl (by omega) (by omega)
    rw [if_neg hg3] at hv
    by_cases hg5 : r1.2 = 4
    · rw [if_pos hg5] at hv
      refine sW.callXC rfl rfl rfl rfl (hs.rcv o41) (s102 hs hK hr1) (k' := 3) hg5 (by decide) rfl rfl ?_
      intro h6 x6 hs6
      refine mW.sn 2 (g' := (19, [some (.ref 41), some (.int p0), some (.int p1), some (.int p2), some (.int p3), some (.ref x6)], [.int 2], (h6, (q.1 - 1, q.2 - 6)))) rfl ?_
      cases hv
      exact sW.finC hs6 rfl (by omega) (by omega)
    rw [if_neg hg5] at hv
    by_cases hg7 : r1.2 = 1
    · rw [if_pos hg7] at hv
      refine sW.callXC rfl rfl rfl rfl (hs.rcv o41) (s102 hs hK hr1) (k' := 0) hg7 (by decide) rfl rfl ?_
      intro h8 x8 hs8
      refine mW.sn 2 (g' := (23, [some (.ref 41), some (.int p0), some (.int p1), some (.int p2), some (.int p3), some (.ref x8)], [.int 3], (h8, (q.1 - 1, q.2 - 6)))) rfl ?_
      cases hv
      exact sW.finC hs8 rfl (by omega) (by omega)
    rw [if_neg hg7] at hv
    cases hv
def h_del (S : SS) (p0 : Int32) (p1 : Int32) (p2 : Int32) : Option (SS × Int32) := ((a_del S p0 p1 p2).bind fun r1 => if r1.2 = 0 then some (r1.1, 0) else (if r1.2 = 2 then some (r1.1, 1) else (if r1.2 = 4 then some (r1.1, 2) else (if r1.2 = 1 then some (r1.1, 3) else none))))
theorem s129 {S : SS} {p0 : Int32} {p1 : Int32} {p2 : Int32} {v : SS × Int32} (hs : cs h S) (hK : 1 ≤ q.1 ∧ 6 ≤ q.2) (hv : h_del S p0 p1 p2 = some v) : mW (d + 503) mm129 (0, [some (.ref 41), some (.int p0), some (.int p1), some (.int p2), none], [], (h, q)) (mHp q v.1 v.2) := by
  unfold h_del at hv
  refine mW.sn 4 (g' := (4, [some (.ref 41), some (.int p0), some (.int p1), some (.int p2), none], [.int p2, .int p1, .int p0, .ref 41], (h, q))) rfl ?_
  cases hr1 : a_del S p0 p1 p2 with
  | none => rw [hr1] at hv; cases hv
  | some r1 =>
    rw [hr1, o_bind] at hv
    by_cases ht1 : r1.2 = 0
    · rw [if_pos ht1] at hv
      refine sW.callX0 rfl rfl rfl rfl (hs.rcv o41) (s130 hs hK hr1) ht1 ?_
      intro h2 hs2
      refine mW.sn 2 (g' := (23, [some (.ref 41), some (.int p0), some (.int p1), some (.int p2), none], [.int 0], (h2, q))) rfl ?_
      cases hv
      exact sW.finC hs2 rfl (by omega) (by omega)
    rw [if_neg ht1] at hv
    by_cases hg3 : r1.2 = 2
    · rw [if_pos hg3] at hv
      refine sW.callXC rfl rfl rfl rfl (hs.rcv o41) (s130 hs hK hr1) (k' := 1) hg3 (by decide) rfl rfl ?_
      intro h4 x4 hs4
      refine mW.sn 2 (g' := (13, [some (.ref 41), some (.int p0), some (.int p1), some (.int p2), some (.ref x4)], [.int 1], (h4, (q.1 - 1, q.2 - 6)))) rfl ?_
      cases hv
      exact sW.finC hs4 rfl (by omega) (by omega)
    rw [if_neg hg3] at hv
    by_cases hg5 : r1.2 = 4
    · rw [if_pos hg5] at hv
      refine sW.callXC rfl rfl rfl rfl (hs.rcv o41) (s130 hs hK hr1) (k' := 3) hg5 (by decide) rfl rfl ?_
      intro h6 x6 hs6
      refine mW.sn 2 (g' := (17, [some (.ref 41), some (.int p0), some (.int p1), some (.int p2), some (.ref x6)], [.int 2], (h6, (q.1 - 1, q.2 - 6)))) rfl ?_
      cases hv
      exact sW.finC hs6 rfl (by omega) (by omega)
    rw [if_neg hg5] at hv
    by_cases hg7 : r1.2 = 1
    · rw [if_pos hg7] at hv
      refine sW.callXC rfl rfl rfl rfl (hs.rcv o41) (s130 hs hK hr1) (k' := 0) hg7 (by decide) rfl rfl ?_
      intro h8 x8 hs8
      refine mW.sn 2 (g' := (21, [some (.ref 41), some (.int p0), some (.int p1), some (.int p2), some (.ref x8)], [.int 3], (h8, (q.1 - 1, q.2 - 6)))) rfl ?_
      cases hv
      exact sW.finC hs8 rfl (by omega) (by omega)
    rw [if_neg hg7] at hv
    cases hv
def h_all (S : SS) (p0 : Int32) (p1 : Int32) : Option (SS × Int32) := ((a_all S p0 p1).bind fun r1 => if r1.2 = 0 then some (r1.1, 0) else (if r1.2 = 2 then some (r1.1, 1) else (if r1.2 = 1 then some (r1.1, 2) else none)))
theorem s146 {S : SS} {p0 : Int32} {p1 : Int32} {v : SS × Int32} (hs : cs h S) (hK : 1 ≤ q.1 ∧ 6 ≤ q.2) (hv : h_all S p0 p1 = some v) : mW (d + 403) mm146 (0, [some (.ref 41), some (.int p0), some (.int p1), none], [], (h, q)) (mHp q v.1 v.2) := by
  unfold h_all at hv
  refine mW.sn 3 (g' := (3, [some (.ref 41), some (.int p0), some (.int p1), none], [.int p1, .int p0, .ref 41], (h, q))) rfl ?_
  cases hr1 : a_all S p0 p1 with
  | none => rw [hr1] at hv; cases hv
  | some r1 =>
    rw [hr1, o_bind] at hv
    by_cases ht1 : r1.2 = 0
    · rw [if_pos ht1] at hv
      refine sW.callX0 rfl rfl rfl rfl (hs.rcv o41) (s147 hs hK hr1) ht1 ?_
      intro h2 hs2
      refine mW.sn 2 (g' := (16, [some (.ref 41), some (.int p0), some (.int p1), none], [.int 0], (h2, q))) rfl ?_
      cases hv
      exact sW.finC hs2 rfl (by omega) (by omega)
    rw [if_neg ht1] at hv
    by_cases hg3 : r1.2 = 2
    · rw [if_pos hg3] at hv
      refine sW.callXC rfl rfl rfl rfl (hs.rcv o41) (s147 hs hK hr1) (k' := 1) hg3 (by decide) rfl rfl ?_
      intro h4 x4 hs4
      refine mW.sn 2 (g' := (11, [some (.ref 41), some (.int p0), some (.int p1), some (.ref x4)], [.int 1], (h4, (q.1 - 1, q.2 - 6)))) rfl ?_
      cases hv
      exact sW.finC hs4 rfl (by omega) (by omega)
    rw [if_neg hg3] at hv
    by_cases hg5 : r1.2 = 1
    · rw [if_pos hg5] at hv
      refine sW.callXC rfl rfl rfl rfl (hs.rcv o41) (s147 hs hK hr1) (k' := 0) hg5 (by decide) rfl rfl ?_
      intro h6 x6 hs6
      refine mW.sn 2 (g' := (14, [some (.ref 41), some (.int p0), some (.int p1), some (.ref x6)], [.int 2], (h6, (q.1 - 1, q.2 - 6)))) rfl ?_
      cases hv
      exact sW.finC hs6 rfl (by omega) (by omega)
    rw [if_neg hg5] at hv
    cases hv
def h_same (S : SS) (p0 : Int32) (p1 : Int32) : Option (SS × Int32) := ((a_same S p0 p1).bind fun r1 => if r1.2.1 = 0 then (if r1.2.2 = 0 then some (up r1.1 101 (lgE (0 : Int64)), 0) else some (up r1.1 101 (lgE (1 : Int64)), 0)) else (if r1.2.1 = 2 then some (r1.1, 1) else none))
theorem s152 {S : SS} {p0 : Int32} {p1 : Int32} {v : SS × Int32} (hs : cs h S) (hK : 1 ≤ q.1 ∧ 6 ≤ q.2) (hv : h_same S p0 p1 = some v) : mW (d + 502) mm152 (0, [some (.ref 41), some (.int p0), some (.int p1), some (.ref 101), none], [], (h, q)) (mHp q v.1 v.2) := by
  unfold h_same at hv
  refine mW.sn 5 (g' := (5, [some (.ref 41), some (.int p0), some (.int p1), some (.ref 101), none], [.int p1, .int p0, .ref 41, .int 0, .ref 101], (h, q))) rfl ?_
  cases hr1 : a_same S p0 p1 with
  | none => rw [hr1] at hv; cases hv
  | some r1 =>
    rw [hr1, o_bind] at hv
    by_cases ht1 : r1.2.1 = 0
    · rw [if_pos ht1] at hv
      refine sW.callX0 rfl rfl rfl rfl (hs.rcv o41) (s153 hs hK hr1) ht1 ?_
      intro h2 hs2
      refine mW.br (g1 := (15, [some (.ref 41), some (.int p0), some (.int p1), some (.ref 101), none], [.int 0, .ref 101], (h2, q))) (g2 := (11, [some (.ref 41), some (.int p0), some (.int p1), some (.ref 101), none], [.int 0, .ref 101], (h2, q))) (c := r1.2.2 = 0) rfl (fun hc3 => ?_) (fun hc3 => ?_)
      · rw [if_pos hc3] at hv
        refine mW.sn 1 (g' := (16, [some (.ref 41), some (.int p0), some (.int p1), some (.ref 101), none], [.long 0, .int 0, .ref 101], (h2, q))) rfl ?_
        refine sW.last101 rfl hs2 ?_
        intro h4 hs4
        refine mW.sn 2 (g' := (25, [some (.ref 41), some (.int p0), some (.int p1), some (.ref 101), none], [.int 0], (h4, q))) rfl ?_
        cases hv
        exact sW.finC hs4 rfl (by omega) (by omega)
      · rw [if_neg hc3] at hv
        refine mW.sn 2 (g' := (16, [some (.ref 41), some (.int p0), some (.int p1), some (.ref 101), none], [.long 1, .int 0, .ref 101], (h2, q))) rfl ?_
        refine sW.last101 rfl hs2 ?_
        intro h5 hs5
        refine mW.sn 2 (g' := (25, [some (.ref 41), some (.int p0), some (.int p1), some (.ref 101), none], [.int 0], (h5, q))) rfl ?_
        cases hv
        exact sW.finC hs5 rfl (by omega) (by omega)
    rw [if_neg ht1] at hv
    by_cases hg6 : r1.2.1 = 2
    · rw [if_pos hg6] at hv
      refine sW.callXC rfl rfl rfl rfl (hs.rcv o41) (s153 hs hK hr1) (k' := 1) hg6 (by decide) rfl rfl ?_
      intro h7 x7 hs7
      refine mW.sn 2 (g' := (23, [some (.ref 41), some (.int p0), some (.int p1), some (.ref 101), some (.ref x7)], [.int 1], (h7, (q.1 - 1, q.2 - 6)))) rfl ?_
      cases hv
      exact sW.finC hs7 rfl (by omega) (by omega)
    rw [if_neg hg6] at hv
    cases hv
def h_word (S : SS) (p0 : Int32) : Option (SS × Int32) := ((a_word S p0).bind fun r1 => if r1.2.1 = 0 then some (up r1.1 101 (lgE r1.2.2), 0) else (if r1.2.1 = 1 then some (r1.1, 1) else none))
theorem s154 {S : SS} {p0 : Int32} {v : SS × Int32} (hs : cs h S) (hK : 1 ≤ q.1 ∧ 6 ≤ q.2) (hv : h_word S p0 = some v) : mW (d + 9) mm154 (0, [some (.ref 41), some (.int p0), some (.ref 101), none], [], (h, q)) (mHp q v.1 v.2) := by
  unfold h_word at hv
  refine mW.sn 4 (g' := (4, [some (.ref 41), some (.int p0), some (.ref 101), none], [.int p0, .ref 41, .int 0, .ref 101], (h, q))) rfl ?_
  cases hr1 : a_word S p0 with
  | none => rw [hr1] at hv; cases hv
  | some r1 =>
    rw [hr1, o_bind] at hv
    by_cases ht1 : r1.2.1 = 0
    · rw [if_pos ht1] at hv
      refine sW.callX0 rfl rfl rfl rfl (hs.rcv o41) (s155 hs hK hr1) ht1 ?_
      intro h2 hs2
      refine sW.last101 rfl hs2 ?_
      intro h3 hs3
      refine mW.sn 2 (g' := (15, [some (.ref 41), some (.int p0), some (.ref 101), none], [.int 0], (h3, q))) rfl ?_
      cases hv
      exact sW.finC hs3 rfl (by omega) (by omega)
    rw [if_neg ht1] at hv
    by_cases hg4 : r1.2.1 = 1
    · rw [if_pos hg4] at hv
      refine sW.callXC rfl rfl rfl rfl (hs.rcv o41) (s155 hs hK hr1) (k' := 0) hg4 (by decide) rfl rfl ?_
      intro h5 x5 hs5
      refine mW.sn 2 (g' := (13, [some (.ref 41), some (.int p0), some (.ref 101), some (.ref x5)], [.int 1], (h5, (q.1 - 1, q.2 - 6)))) rfl ?_
      cases hv
      exact sW.finC hs5 rfl (by omega) (by omega)
    rw [if_neg hg4] at hv
    cases hv
def h_count (S : SS) (p0 : Int32) : Option (SS × Int32) := ((a_count S p0).bind fun r1 => if r1.2.1 = 0 then some (up r1.1 101 (lgE r1.2.2.toInt64), 0) else (if r1.2.1 = 2 then some (r1.1, 1) else none))
theorem s156 {S : SS} {p0 : Int32} {v : SS × Int32} (hs : cs h S) (hK : 1 ≤ q.1 ∧ 6 ≤ q.2) (hv : h_count S p0 = some v) : mW (d + 9) mm156 (0, [some (.ref 41), some (.int p0), some (.ref 101), none], [], (h, q)) (mHp q v.1 v.2) := by
  unfold h_count at hv
  refine mW.sn 4 (g' := (4, [some (.ref 41), some (.int p0), some (.ref 101), none], [.int p0, .ref 41, .int 0, .ref 101], (h, q))) rfl ?_
  cases hr1 : a_count S p0 with
  | none => rw [hr1] at hv; cases hv
  | some r1 =>
    rw [hr1, o_bind] at hv
    by_cases ht1 : r1.2.1 = 0
    · rw [if_pos ht1] at hv
      refine sW.callX0 rfl rfl rfl rfl (hs.rcv o41) (s157 hs hK hr1) ht1 ?_
      intro h2 hs2
      refine mW.sn 1 (g' := (8, [some (.ref 41), some (.int p0), some (.ref 101), none], [.long r1.2.2.toInt64, .int 0, .ref 101], (h2, q))) rfl ?_
      refine sW.last101 rfl hs2 ?_
      intro h3 hs3
      refine mW.sn 2 (g' := (16, [some (.ref 41), some (.int p0), some (.ref 101), none], [.int 0], (h3, q))) rfl ?_
      cases hv
      exact sW.finC hs3 rfl (by omega) (by omega)
    rw [if_neg ht1] at hv
    by_cases hg4 : r1.2.1 = 2
    · rw [if_pos hg4] at hv
      refine sW.callXC rfl rfl rfl rfl (hs.rcv o41) (s157 hs hK hr1) (k' := 1) hg4 (by decide) rfl rfl ?_
      intro h5 x5 hs5
      refine mW.sn 2 (g' := (14, [some (.ref 41), some (.int p0), some (.ref 101), some (.ref x5)], [.int 1], (h5, (q.1 - 1, q.2 - 6)))) rfl ?_
      cases hv
      exact sW.finC hs5 rfl (by omega) (by omega)
    rw [if_neg hg4] at hv
    cases hv
end
