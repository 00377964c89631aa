/-! PRINTED BY wip/whole (dec2): the reference's Out and Paper. -/
section
set_option maxRecDepth 4000
variable {d : Nat} {h : mH} {q : Nat × Nat}
def j_can (S : SS) (p0 : Int32) : Option (Int32) := (if p0 < 0 then some 0 else (if (255 : Int32) < p0 then some 0 else some 1))
theorem s183 {S : SS} {p0 : Int32} {v : Int32} (hs : cs h S) (hv : j_can S p0 = some v) : mW d mm183 (0, [some (.int p0)], [], (h, q)) (mQ q S (some (.int v))) := by
  unfold j_can at hv
  refine mW.sn 1 (g' := (1, [some (.int p0)], [.int p0], (h, q))) rfl ?_
  refine mW.br (g1 := (15, [some (.int p0)], [], (h, q))) (g2 := (4, [some (.int p0)], [], (h, q))) (c := p0 < 0) rfl (fun hc1 => ?_) (fun hc1 => ?_)
  · rw [if_pos hc1] at hv
    refine mW.sn 1 (g' := (16, [some (.int p0)], [.int 0], (h, q))) rfl ?_
    cases hv
    exact sW.fin hs rfl
  · rw [if_neg hc1] at hv
    refine mW.sn 2 (g' := (8, [some (.int p0)], [.int 255, .int p0], (h, q))) rfl ?_
    refine mW.br (g1 := (15, [some (.int p0)], [], (h, q))) (g2 := (11, [some (.int p0)], [], (h, q))) (c := (255 : Int32) < p0) rfl (fun hc2 => ?_) (fun hc2 => ?_)
    · rw [if_pos hc2] at hv
      refine mW.sn 1 (g' := (16, [some (.int p0)], [.int 0], (h, q))) rfl ?_
      cases hv
      exact sW.fin hs rfl
    · rw [if_neg hc2] at hv
      refine mW.sn 2 (g' := (16, [some (.int p0)], [.int 1], (h, q))) rfl ?_
      cases hv
      exact sW.fin hs rfl
def j_idx_l7 (S : SS) (bs : List Int32) : Nat → Int32 → Int32 → Int32 → Option (Int32)
  | 0, _, _, _ => none
  | n + 1, l3, l4, l5 => (if l3 ≤ l5 then some (-1) else ((iget bs l5).bind fun b2 => (if b2 = l4 then some l5 else j_idx_l7 S bs n l3 l4 (l5 + 1))))
theorem j_idx_l7_ok {S : SS} {w0 w : Nat} {bs : List Int32} (hq : (w0, w, bs) ∈ shS) : ∀ (n : Nat), ∀ (h : mH) (l3 : Int32) (l4 : Int32) (l5 : Int32) (y1 : Int32) (y2 : Int32) (v : Int32), cs h S → j_idx_l7 S bs n l3 l4 l5 = some v → mW d mm184 (7, [some (.ref w), some (.int y1), some (.int y2), some (.int l3), some (.int l4), some (.int l5)], [], (h, q)) (mQ q S (some (.int v))) := by
  intro n
  induction n with
  | zero => intro h l3 l4 l5 y1 y2 v hs hv; cases hv
  | succ n ih =>
    intro h l3 l4 l5 y1 y2 v hs hv
    unfold j_idx_l7 at hv
    refine mW.sn 2 (g' := (10, [some (.ref w), some (.int y1), some (.int y2), some (.int l3), some (.int l4), some (.int l5)], [.int l3, .int l5], (h, q))) rfl ?_
    refine mW.br (g1 := (31, [some (.ref w), some (.int y1), some (.int y2), some (.int l3), some (.int l4), some (.int l5)], [], (h, q))) (g2 := (13, [some (.ref w), some (.int y1), some (.int y2), some (.int l3), some (.int l4), some (.int l5)], [], (h, q))) (c := l3 ≤ l5) rfl (fun hc1 => ?_) (fun hc1 => ?_)
    · rw [if_pos hc1] at hv
      refine mW.sn 1 (g' := (32, [some (.ref w), some (.int y1), some (.int y2), some (.int l3), some (.int l4), some (.int l5)], [.int (-1)], (h, q))) rfl ?_
      cases hv
      exact sW.fin hs rfl
    · rw [if_neg hc1] at hv
      refine mW.sn 2 (g' := (16, [some (.ref w), some (.int y1), some (.int y2), some (.int l3), some (.int l4), some (.int l5)], [.int l5, .ref w], (h, q))) rfl ?_
      cases hr2 : iget bs l5 with
      | none => rw [hr2] at hv; cases hv
      | some b2 =>
        rw [hr2, o_bind] at hv
        refine sW.baldQ rfl hs hq hr2 ?_
        refine mW.sn 1 (g' := (19, [some (.ref w), some (.int y1), some (.int y2), some (.int l3), some (.int l4), some (.int l5)], [.int l4, .int b2], (h, q))) rfl ?_
        refine mW.br (g1 := (22, [some (.ref w), some (.int y1), some (.int y2), some (.int l3), some (.int l4), some (.int l5)], [], (h, q))) (g2 := (25, [some (.ref w), some (.int y1), some (.int y2), some (.int l3), some (.int l4), some (.int l5)], [], (h, q))) (c := b2 = l4) rfl (fun hc3 => ?_) (fun hc3 => ?_)
        · rw [if_pos hc3] at hv
          refine mW.sn 1 (g' := (24, [some (.ref w), some (.int y1), some (.int y2), some (.int l3), some (.int l4), some (.int l5)], [.int l5], (h, q))) rfl ?_
          cases hv
          exact sW.fin hs rfl
        · rw [if_neg hc3] at hv
          refine mW.sn 2 (g' := (7, [some (.ref w), some (.int y1), some (.int y2), some (.int l3), some (.int l4), some (.int (l5 + 1))], [], (h, q))) rfl ?_
          exact ih _ _ _ _ _ _ _  hs hv
def j_idx (S : SS) (bs : List Int32) (p0 : Int32) (p1 : Int32) (p2 : Int32) : Option (Int32) := j_idx_l7 S bs 10000 p2 p0.toInt8.toInt32 p1
theorem s184 {S : SS} {w0 w : Nat} {bs : List Int32} (hq : (w0, w, bs) ∈ shS) {p0 : Int32} {p1 : Int32} {p2 : Int32} {v : Int32} (hs : cs h S) (hv : j_idx S bs p0 p1 p2 = some v) : mW d mm184 (0, [some (.ref w), some (.int p0), some (.int p1), some (.int p2), none, none], [], (h, q)) (mQ q S (some (.int v))) := by
  unfold j_idx at hv
  refine mW.sn 5 (g' := (7, [some (.ref w), some (.int p0), some (.int p1), some (.int p2), some (.int p0.toInt8.toInt32), some (.int p1)], [], (h, q))) rfl ?_
  exact j_idx_l7_ok hq _ _ _ _ _ _ _ _  hs hv
def j_idx2 (S : SS) (bs : List Int32) (p0 : Int32) (p1 : Int32) (p2 : Int32) : Option (Int32) := ((j_can S p0).bind fun r1 => (if r1 = 0 then some (-1) else (if (imax p1 0) < (imin p2 (Int32.ofNat bs.length)) then ((j_idx S bs p0 (imax p1 0) (imin p2 (Int32.ofNat bs.length))).bind fun r7 => some r7) else some (-1))))
theorem s182 {S : SS} {w0 w : Nat} {bs : List Int32} (hq : (w0, w, bs) ∈ shS) {p0 : Int32} {p1 : Int32} {p2 : Int32} {v : Int32} (hs : cs h S) (hv : j_idx2 S bs p0 p1 p2 = some v) : mW (d + 1) mm182 (0, [some (.ref w), some (.int p0), some (.int p1), some (.int p2)], [], (h, q)) (mQ q S (some (.int v))) := by
  unfold j_idx2 at hv
  refine mW.sn 1 (g' := (1, [some (.ref w), some (.int p0), some (.int p1), some (.int p2)], [.int p0], (h, q))) rfl ?_
  cases hr1 : j_can S p0 with
  | none => rw [hr1] at hv; cases hv
  | some r1 =>
    rw [hr1, o_bind] at hv
    refine sW.call rfl rfl rfl rfl rfl (s183 hs hr1) ?_
    intro h2 hs2
    refine mW.br (g1 := (7, [some (.ref w), some (.int p0), some (.int p1), some (.int p2)], [], (h2, q))) (g2 := (9, [some (.ref w), some (.int p0), some (.int p1), some (.int p2)], [], (h2, q))) (c := r1 = 0) rfl (fun hc3 => ?_) (fun hc3 => ?_)
    · rw [if_pos hc3] at hv
      refine mW.sn 1 (g' := (8, [some (.ref w), some (.int p0), some (.int p1), some (.int p2)], [.int (-1)], (h2, q))) rfl ?_
      cases hv
      exact sW.fin hs2 rfl
    · rw [if_neg hc3] at hv
      refine mW.sn 2 (g' := (11, [some (.ref w), some (.int p0), some (.int p1), some (.int p2)], [.int 0, .int p1], (h2, q))) rfl ?_
      refine sW.call rfl rfl rfl rfl rfl (sW.of hs2 (x30 p1 0)) ?_
      intro h4 hs4
      refine mW.sn 3 (g' := (17, [some (.ref w), some (.int p0), some (.int (imax p1 0)), some (.int p2)], [.ref w, .int p2], (h4, q))) rfl ?_
      refine sW.alnQ rfl hs4 hq ?_
      refine sW.call rfl rfl rfl rfl rfl (sW.of hs4 (x29 p2 (Int32.ofNat bs.length))) ?_
      intro h5 hs5
      refine mW.sn 3 (g' := (24, [some (.ref w), some (.int p0), some (.int (imax p1 0)), some (.int (imin p2 (Int32.ofNat bs.length)))], [.int (imin p2 (Int32.ofNat bs.length)), .int (imax p1 0)], (h5, q))) rfl ?_
      refine mW.br (g1 := (29, [some (.ref w), some (.int p0), some (.int (imax p1 0)), some (.int (imin p2 (Int32.ofNat bs.length)))], [], (h5, q))) (g2 := (27, [some (.ref w), some (.int p0), some (.int (imax p1 0)), some (.int (imin p2 (Int32.ofNat bs.length)))], [], (h5, q))) (c := (imax p1 0) < (imin p2 (Int32.ofNat bs.length))) rfl (fun hc6 => ?_) (fun hc6 => ?_)
      · rw [if_pos hc6] at hv
        refine mW.sn 4 (g' := (33, [some (.ref w), some (.int p0), some (.int (imax p1 0)), some (.int (imin p2 (Int32.ofNat bs.length)))], [.int (imin p2 (Int32.ofNat bs.length)), .int (imax p1 0), .int p0, .ref w], (h5, q))) rfl ?_
        cases hr7 : j_idx S bs p0 (imax p1 0) (imin p2 (Int32.ofNat bs.length)) with
        | none => rw [hr7] at hv; cases hv
        | some r7 =>
          rw [hr7, o_bind] at hv
          refine sW.call rfl rfl rfl rfl rfl (s184 hq hs5 hr7) ?_
          intro h8 hs8
          cases hv
          exact sW.fin hs8 rfl
      · rw [if_neg hc6] at hv
        refine mW.sn 1 (g' := (28, [some (.ref w), some (.int p0), some (.int (imax p1 0)), some (.int (imin p2 (Int32.ofNat bs.length)))], [.int (-1)], (h5, q))) rfl ?_
        cases hv
        exact sW.fin hs5 rfl
def j_idx3 (S : SS) (bs : List Int32) (p0 : Int32) (p1 : Int32) : Option (Int32) := ((j_idx2 S bs p0 p1 (Int32.ofNat bs.length)).bind fun r3 => some r3)
theorem s181 {S : SS} {c c' : Nat} {bs : List Int32} (hc : (c, c', bs) ∈ shS) {p0 : Int32} {p1 : Int32} {v : Int32} (hs : cs h S) (hv : j_idx3 S bs p0 p1 = some v) : mW (d + 2) mm181 (0, [some (.ref c), some (.int p0), some (.int p1)], [], (h, q)) (mQ q S (some (.int v))) := by
  unfold j_idx3 at hv
  refine mW.sn 1 (g' := (1, [some (.ref c), some (.int p0), some (.int p1)], [.ref c], (h, q))) rfl ?_
  refine sW.call rfl rfl rfl rfl (hs.rcvS hc) (sW.of hs (x7 (hs.gsx hc))) ?_
  intro h1 hs1
  refine mW.no (g1 := (23, [some (.ref c), some (.int p0), some (.int p1)], [], (h1, q))) (g2 := (7, [some (.ref c), some (.int p0), some (.int p1)], [], (h1, q))) (c := (1 : Int32) = 0) rfl (by decide) ?_
  refine mW.sn 1 (g' := (8, [some (.ref c), some (.int p0), some (.int p1)], [.ref c], (h1, q))) rfl ?_
  refine sW.getQ rfl hs1 hc ?_
  refine mW.sn 3 (g' := (14, [some (.ref c), some (.int p0), some (.int p1)], [.ref c, .int p1, .int p0, .ref c'], (h1, q))) rfl ?_
  refine sW.call rfl rfl rfl rfl (hs1.rcvS hc) (sW.of hs1 (x4 (hs1.gsx hc))) ?_
  intro h2 hs2
  cases hr3 : j_idx2 S bs p0 p1 (Int32.ofNat bs.length) with
  | none => rw [hr3] at hv; cases hv
  | some r3 =>
    rw [hr3, o_bind] at hv
    refine sW.call rfl rfl rfl rfl rfl (s182 hc hs2 hr3) ?_
    intro h4 hs4
    refine mW.sn 1 (g' := (36, [some (.ref c), some (.int p0), some (.int p1)], [.int r3], (h4, q))) rfl ?_
    cases hv
    exact sW.fin hs4 rfl
def j_indexOf (S : SS) (bs : List Int32) (p0 : Int32) : Option (Int32) := ((j_idx3 S bs p0 0).bind fun r1 => some r1)
theorem s180 {S : SS} {c c' : Nat} {bs : List Int32} (hc : (c, c', bs) ∈ shS) {p0 : Int32} {v : Int32} (hs : cs h S) (hv : j_indexOf S bs p0 = some v) : mW (d + 3) mm180 (0, [some (.ref c), some (.int p0)], [], (h, q)) (mQ q S (some (.int v))) := by
  unfold j_indexOf at hv
  refine mW.sn 3 (g' := (3, [some (.ref c), some (.int p0)], [.int 0, .int p0, .ref c], (h, q))) rfl ?_
  cases hr1 : j_idx3 S bs p0 0 with
  | none => rw [hr1] at hv; cases hv
  | some r1 =>
    rw [hr1, o_bind] at hv
    refine sW.call rfl rfl rfl rfl (hs.rcvS hc) (s181 hc hs hr1) ?_
    intro h2 hs2
    cases hv
    exact sW.fin hs2 rfl
def q_clear (S : SS) : Option (SS) := some (wr (wr S 90 1 0) 90 2 0)
theorem s165 {S : SS} {v : SS} (hs : cs h S) (hv : q_clear S = some v) : mW d mm165 (0, [some (.ref 90)], [], (h, q)) (mQ q v none) := by
  unfold q_clear at hv
  refine mW.sn 2 (g' := (2, [some (.ref 90)], [.int 0, .ref 90], (h, q))) rfl ?_
  refine sW.putI rfl hs o90 rfl ?_
  intro h1 hs1
  refine mW.sn 2 (g' := (7, [some (.ref 90)], [.int 0, .ref 90], (h1, q))) rfl ?_
  refine sW.putZ rfl hs1 o90 rfl (by decide) ?_
  intro h2 hs2
  cases hv
  exact sW.fin hs2 rfl
def q_put (S : SS) (p0 : Int32) : Option (SS) := (if (rd S 90 1) = (Int32.ofNat (S 91).length) then (if (rd (wr S 90 2 1) 90 2) = 0 then ((iset ((wr S 90 2 1) 91) (rd (wr S 90 2 1) 90 1) p0).bind fun z4 => some (wr (up (wr S 90 2 1) 91 z4) 90 1 ((rd (up (wr S 90 2 1) 91 z4) 90 1) + 1))) else some (wr S 90 2 1)) else (if (rd S 90 2) = 0 then ((iset (S 91) (rd S 90 1) p0).bind fun z8 => some (wr (up S 91 z8) 90 1 ((rd (up S 91 z8) 90 1) + 1))) else some S))
theorem s175 {S : SS} {p0 : Int32} {v : SS} (hs : cs h S) (hv : q_put S p0 = some v) : mW d mm175 (0, [some (.ref 90), some (.int p0)], [], (h, q)) (mQ q v none) := by
  unfold q_put at hv
  refine mW.sn 1 (g' := (1, [some (.ref 90), some (.int p0)], [.ref 90], (h, q))) rfl ?_
  refine sW.getI rfl hs o90 rfl rfl ?_
  refine mW.sn 1 (g' := (5, [some (.ref 90), some (.int p0)], [.ref 90, .int (rd S 90 1)], (h, q))) rfl ?_
  refine sW.getR rfl hs o90 rfl rfl ?_
  refine sW.aln rfl hs (by decide) ?_
  refine mW.br (g1 := (12, [some (.ref 90), some (.int p0)], [], (h, q))) (g2 := (17, [some (.ref 90), some (.int p0)], [], (h, q))) (c := (rd S 90 1) = (Int32.ofNat (S 91).length)) rfl (fun hc1 => ?_) (fun hc1 => ?_)
  · rw [if_pos hc1] at hv
    refine mW.sn 2 (g' := (14, [some (.ref 90), some (.int p0)], [.int 1, .ref 90], (h, q))) rfl ?_
    refine sW.putZ rfl hs o90 rfl (by decide) ?_
    intro h2 hs2
    refine mW.sn 1 (g' := (18, [some (.ref 90), some (.int p0)], [.ref 90], (h2, q))) rfl ?_
    refine sW.getI rfl hs2 o90 rfl rfl ?_
    refine mW.br (g1 := (25, [some (.ref 90), some (.int p0)], [], (h2, q))) (g2 := (24, [some (.ref 90), some (.int p0)], [], (h2, q))) (c := (rd (wr S 90 2 1) 90 2) = 0) rfl (fun hc3 => ?_) (fun hc3 => ?_)
    · rw [if_pos hc3] at hv
      refine mW.sn 1 (g' := (26, [some (.ref 90), some (.int p0)], [.ref 90], (h2, q))) rfl ?_
      refine sW.getR rfl hs2 o90 rfl rfl ?_
      refine mW.sn 1 (g' := (30, [some (.ref 90), some (.int p0)], [.ref 90, .ref 91], (h2, q))) rfl ?_
      refine sW.getI rfl hs2 o90 rfl rfl ?_
      refine mW.sn 1 (g' := (34, [some (.ref 90), some (.int p0)], [.int p0, .int (rd (wr S 90 2 1) 90 1), .ref 91], (h2, q))) rfl ?_
      cases hr4 : iset ((wr S 90 2 1) 91) (rd (wr S 90 2 1) 90 1) p0 with
      | none => rw [hr4] at hv; cases hv
      | some z4 =>
        rw [hr4, o_bind] at hv
        refine sW.iast rfl hs2 (by decide) hr4 ?_
        intro h5 hs5
        refine mW.sn 2 (g' := (37, [some (.ref 90), some (.int p0)], [.ref 90, .ref 90], (h5, q))) rfl ?_
        refine sW.getI rfl hs5 o90 rfl rfl ?_
        refine mW.sn 2 (g' := (42, [some (.ref 90), some (.int p0)], [.int ((rd (up (wr S 90 2 1) 91 z4) 90 1) + 1), .ref 90], (h5, q))) rfl ?_
        refine sW.putI rfl hs5 o90 rfl ?_
        intro h6 hs6
        cases hv
        exact sW.fin hs6 rfl
    · rw [if_neg hc3] at hv
      cases hv
      exact sW.fin hs2 rfl
  · rw [if_neg hc1] at hv
    refine mW.sn 1 (g' := (18, [some (.ref 90), some (.int p0)], [.ref 90], (h, q))) rfl ?_
    refine sW.getI rfl hs o90 rfl rfl ?_
    refine mW.br (g1 := (25, [some (.ref 90), some (.int p0)], [], (h, q))) (g2 := (24, [some (.ref 90), some (.int p0)], [], (h, q))) (c := (rd S 90 2) = 0) rfl (fun hc7 => ?_) (fun hc7 => ?_)
    · rw [if_pos hc7] at hv
      refine mW.sn 1 (g' := (26, [some (.ref 90), some (.int p0)], [.ref 90], (h, q))) rfl ?_
      refine sW.getR rfl hs o90 rfl rfl ?_
      refine mW.sn 1 (g' := (30, [some (.ref 90), some (.int p0)], [.ref 90, .ref 91], (h, q))) rfl ?_
      refine sW.getI rfl hs o90 rfl rfl ?_
      refine mW.sn 1 (g' := (34, [some (.ref 90), some (.int p0)], [.int p0, .int (rd S 90 1), .ref 91], (h, q))) rfl ?_
      cases hr8 : iset (S 91) (rd S 90 1) p0 with
      | none => rw [hr8] at hv; cases hv
      | some z8 =>
        rw [hr8, o_bind] at hv
        refine sW.iast rfl hs (by decide) hr8 ?_
        intro h9 hs9
        refine mW.sn 2 (g' := (37, [some (.ref 90), some (.int p0)], [.ref 90, .ref 90], (h9, q))) rfl ?_
        refine sW.getI rfl hs9 o90 rfl rfl ?_
        refine mW.sn 2 (g' := (42, [some (.ref 90), some (.int p0)], [.int ((rd (up S 91 z8) 90 1) + 1), .ref 90], (h9, q))) rfl ?_
        refine sW.putI rfl hs9 o90 rfl ?_
        intro h10 hs10
        cases hv
        exact sW.fin hs10 rfl
    · rw [if_neg hc7] at hv
      cases hv
      exact sW.fin hs rfl
def q_open (S : SS) (p0 : Int32) : Option (SS × Int32) := ((q_put S p0).bind fun r1 => ((q_put r1 0).bind fun r3 => some (r3, rd S 90 1)))
theorem s174 {S : SS} {p0 : Int32} {v : SS × Int32} (hs : cs h S) (hv : q_open S p0 = some v) : mW (d + 1) mm174 (0, [some (.ref 90), some (.int p0), none], [], (h, q)) (mQ q v.1 (some (.int v.2))) := by
  unfold q_open at hv
  refine mW.sn 1 (g' := (1, [some (.ref 90), some (.int p0), none], [.ref 90], (h, q))) rfl ?_
  refine sW.getI rfl hs o90 rfl rfl ?_
  refine mW.sn 3 (g' := (7, [some (.ref 90), some (.int p0), some (.int (rd S 90 1))], [.int p0, .ref 90], (h, q))) rfl ?_
  cases hr1 : q_put S p0 with
  | none => rw [hr1] at hv; cases hv
  | some r1 =>
    rw [hr1, o_bind] at hv
    refine sW.call rfl rfl rfl rfl (hs.rcv o90) (s175 hs hr1) ?_
    intro h2 hs2
    refine mW.sn 2 (g' := (12, [some (.ref 90), some (.int p0), some (.int (rd S 90 1))], [.int 0, .ref 90], (h2, q))) rfl ?_
    cases hr3 : q_put r1 0 with
    | none => rw [hr3] at hv; cases hv
    | some r3 =>
      rw [hr3, o_bind] at hv
      refine sW.call rfl rfl rfl rfl (hs2.rcv o90) (s175 hs2 hr3) ?_
      intro h4 hs4
      refine mW.sn 1 (g' := (16, [some (.ref 90), some (.int p0), some (.int (rd S 90 1))], [.int (rd S 90 1)], (h4, q))) rfl ?_
      cases hv
      exact sW.fin hs4 rfl
def q_close (S : SS) (p0 : Int32) : Option (SS) := (if (rd S 90 2) = 0 then ((iset (S 91) (p0 + 1) ((rd S 90 1) - p0)).bind fun z2 => some (up S 91 z2)) else some S)
theorem s176 {S : SS} {p0 : Int32} {v : SS} (hs : cs h S) (hv : q_close S p0 = some v) : mW d mm176 (0, [some (.ref 90), some (.int p0)], [], (h, q)) (mQ q v none) := by
  unfold q_close at hv
  refine mW.sn 1 (g' := (1, [some (.ref 90), some (.int p0)], [.ref 90], (h, q))) rfl ?_
  refine sW.getI rfl hs o90 rfl rfl ?_
  refine mW.br (g1 := (7, [some (.ref 90), some (.int p0)], [], (h, q))) (g2 := (21, [some (.ref 90), some (.int p0)], [], (h, q))) (c := (rd S 90 2) = 0) rfl (fun hc1 => ?_) (fun hc1 => ?_)
  · rw [if_pos hc1] at hv
    refine mW.sn 1 (g' := (8, [some (.ref 90), some (.int p0)], [.ref 90], (h, q))) rfl ?_
    refine sW.getR rfl hs o90 rfl rfl ?_
    refine mW.sn 4 (g' := (15, [some (.ref 90), some (.int p0)], [.ref 90, .int (p0 + 1), .ref 91], (h, q))) rfl ?_
    refine sW.getI rfl hs o90 rfl rfl ?_
    refine mW.sn 2 (g' := (20, [some (.ref 90), some (.int p0)], [.int ((rd S 90 1) - p0), .int (p0 + 1), .ref 91], (h, q))) rfl ?_
    cases hr2 : iset (S 91) (p0 + 1) ((rd S 90 1) - p0) with
    | none => rw [hr2] at hv; cases hv
    | some z2 =>
      rw [hr2, o_bind] at hv
      refine sW.iast rfl hs (by decide) hr2 ?_
      intro h3 hs3
      cases hv
      exact sW.fin hs3 rfl
  · rw [if_neg hc1] at hv
    cases hv
    exact sW.fin hs rfl
def q_simple (S : SS) (p0 : Int32) : Option (SS) := ((q_open S p0).bind fun r1 => ((q_close r1.1 r1.2).bind fun r3 => some r3))
theorem s173 {S : SS} {p0 : Int32} {v : SS} (hs : cs h S) (hv : q_simple S p0 = some v) : mW (d + 2) mm173 (0, [some (.ref 90), some (.int p0)], [], (h, q)) (mQ q v none) := by
  unfold q_simple at hv
  refine mW.sn 3 (g' := (3, [some (.ref 90), some (.int p0)], [.int p0, .ref 90, .ref 90], (h, q))) rfl ?_
  cases hr1 : q_open S p0 with
  | none => rw [hr1] at hv; cases hv
  | some r1 =>
    rw [hr1, o_bind] at hv
    refine sW.call rfl rfl rfl rfl (hs.rcv o90) (s174 hs hr1) ?_
    intro h2 hs2
    cases hr3 : q_close r1.1 r1.2 with
    | none => rw [hr3] at hv; cases hv
    | some r3 =>
      rw [hr3, o_bind] at hv
      refine sW.call rfl rfl rfl rfl (hs2.rcv o90) (s176 hs2 hr3) ?_
      intro h4 hs4
      cases hv
      exact sW.fin hs4 rfl
def q_num (S : SS) (p0 : Int64) : Option (SS) := ((q_open S 3).bind fun r1 => ((q_put r1.1 ((p0 >>> ((32 : Int32).toInt64 &&& 63)).toInt32)).bind fun r3 => ((q_put r3 p0.toInt32).bind fun r5 => ((q_close r5 r1.2).bind fun r7 => some r7))))
theorem s202 {S : SS} {p0 : Int64} {v : SS} (hs : cs h S) (hv : q_num S p0 = some v) : mW (d + 2) mm202 (0, [some (.ref 90), some (.long p0), none, none], [], (h, q)) (mQ q v none) := by
  unfold q_num at hv
  refine mW.sn 2 (g' := (2, [some (.ref 90), some (.long p0), none, none], [.int 3, .ref 90], (h, q))) rfl ?_
  cases hr1 : q_open S 3 with
  | none => rw [hr1] at hv; cases hv
  | some r1 =>
    rw [hr1, o_bind] at hv
    refine sW.call rfl rfl rfl rfl (hs.rcv o90) (s174 hs hr1) ?_
    intro h2 hs2
    refine mW.sn 6 (g' := (12, [some (.ref 90), some (.long p0), none, some (.int r1.2)], [.int ((p0 >>> ((32 : Int32).toInt64 &&& 63)).toInt32), .ref 90], (h2, q))) rfl ?_
    cases hr3 : q_put r1.1 ((p0 >>> ((32 : Int32).toInt64 &&& 63)).toInt32) with
    | none => rw [hr3] at hv; cases hv
    | some r3 =>
      rw [hr3, o_bind] at hv
      refine sW.call rfl rfl rfl rfl (hs2.rcv o90) (s175 hs2 hr3) ?_
      intro h4 hs4
      refine mW.sn 3 (g' := (18, [some (.ref 90), some (.long p0), none, some (.int r1.2)], [.int p0.toInt32, .ref 90], (h4, q))) rfl ?_
      cases hr5 : q_put r3 p0.toInt32 with
      | none => rw [hr5] at hv; cases hv
      | some r5 =>
        rw [hr5, o_bind] at hv
        refine sW.call rfl rfl rfl rfl (hs4.rcv o90) (s175 hs4 hr5) ?_
        intro h6 hs6
        refine mW.sn 2 (g' := (23, [some (.ref 90), some (.long p0), none, some (.int r1.2)], [.int r1.2, .ref 90], (h6, q))) rfl ?_
        cases hr7 : q_close r5 r1.2 with
        | none => rw [hr7] at hv; cases hv
        | some r7 =>
          rw [hr7, o_bind] at hv
          refine sW.call rfl rfl rfl rfl (hs6.rcv o90) (s176 hs6 hr7) ?_
          intro h8 hs8
          cases hv
          exact sW.fin hs8 rfl
def q_copy_l2 (aa : Nat) : Nat → SS → Int32 → Int32 → Option (SS)
  | 0, _, _, _ => none
  | n + 1, S, l2, l3 => ((iget (S aa) (l2 + 1)).bind fun b1 => (if b1 ≤ l3 then some S else ((iget (S aa) (l2 + l3)).bind fun b3 => ((q_put S b3).bind fun r4 => q_copy_l2 aa n r4 l2 (l3 + 1)))))
theorem q_copy_l2_ok {aa : Nat} (haa : aa ∈ shA) : ∀ (n : Nat), ∀ (h : mH) (S : SS) (l2 : Int32) (l3 : Int32) (v : SS), cs h S → q_copy_l2 aa n S l2 l3 = some v → mW (d + 1) mm243 (2, [some (.ref 90), some (.ref aa), some (.int l2), some (.int l3)], [], (h, q)) (mQ q v none) := by
  intro n
  induction n with
  | zero => intro h S l2 l3 v hs hv; cases hv
  | succ n ih =>
    intro h S l2 l3 v hs hv
    unfold q_copy_l2 at hv
    refine mW.sn 5 (g' := (7, [some (.ref 90), some (.ref aa), some (.int l2), some (.int l3)], [.int (l2 + 1), .ref aa, .int l3], (h, q))) rfl ?_
    cases hr1 : iget (S aa) (l2 + 1) with
    | none => rw [hr1] at hv; cases hv
    | some b1 =>
      rw [hr1, o_bind] at hv
      refine sW.iald rfl hs haa hr1 ?_
      refine mW.br (g1 := (26, [some (.ref 90), some (.ref aa), some (.int l2), some (.int l3)], [], (h, q))) (g2 := (11, [some (.ref 90), some (.ref aa), some (.int l2), some (.int l3)], [], (h, q))) (c := b1 ≤ l3) rfl (fun hc2 => ?_) (fun hc2 => ?_)
      · rw [if_pos hc2] at hv
        cases hv
        exact sW.fin hs rfl
      · rw [if_neg hc2] at hv
        refine mW.sn 5 (g' := (16, [some (.ref 90), some (.ref aa), some (.int l2), some (.int l3)], [.int (l2 + l3), .ref aa, .ref 90], (h, q))) rfl ?_
        cases hr3 : iget (S aa) (l2 + l3) with
        | none => rw [hr3] at hv; cases hv
        | some b3 =>
          rw [hr3, o_bind] at hv
          refine sW.iald rfl hs haa hr3 ?_
          cases hr4 : q_put S b3 with
          | none => rw [hr4] at hv; cases hv
          | some r4 =>
            rw [hr4, o_bind] at hv
            refine sW.call rfl rfl rfl rfl (hs.rcv o90) (s175 hs hr4) ?_
            intro h5 hs5
            refine mW.sn 2 (g' := (2, [some (.ref 90), some (.ref aa), some (.int l2), some (.int (l3 + 1))], [], (h5, q))) rfl ?_
            exact ih _ _ _ _ _  hs5 hv
def q_copy (S : SS) (aa : Nat) (p0 : Int32) : Option (SS) := q_copy_l2 aa 10000 S p0 0
theorem s243 {S : SS} {aa : Nat} (haa : aa ∈ shA) {p0 : Int32} {v : SS} (hs : cs h S) (hv : q_copy S aa p0 = some v) : mW (d + 1) mm243 (0, [some (.ref 90), some (.ref aa), some (.int p0), none], [], (h, q)) (mQ q v none) := by
  unfold q_copy at hv
  refine mW.sn 2 (g' := (2, [some (.ref 90), some (.ref aa), some (.int p0), some (.int 0)], [], (h, q))) rfl ?_
  exact q_copy_l2_ok haa _ _ _ _ _ _  hs hv
def w_words_l2 (o : Nat) (bs : List Int32) : Nat → SS → Int32 → Option (SS)
  | 0, _, _ => none
  | n + 1, S, l2 => (if (Int32.ofNat bs.length) ≤ l2 then some S else ((sch bs l2).bind fun r3 => w_words_l2 o bs n (sppu S o r3) (l2 + 1)))
theorem w_words_l2_ok {o : Nat} (ho : o ∈ shP) {c c' : Nat} {bs : List Int32} (hc : (c, c', bs) ∈ shS) : ∀ (n : Nat), ∀ (h : mH) (S : SS) (l2 : Int32) (v : SS), cs h S → w_words_l2 o bs n S l2 = some v → mW (d + 4) mm206 (2, [some (.ref o), some (.ref c), some (.int l2)], [], (h, q)) (mQ q v none) := by
  intro n
  induction n with
  | zero => intro h S l2 v hs hv; cases hv
  | succ n ih =>
    intro h S l2 v hs hv
    unfold w_words_l2 at hv
    refine mW.sn 2 (g' := (4, [some (.ref o), some (.ref c), some (.int l2)], [.ref c, .int l2], (h, q))) rfl ?_
    refine sW.call rfl rfl rfl rfl (hs.rcvS hc) (sW.of hs (x4 (hs.gsx hc))) ?_
    intro h1 hs1
    refine mW.br (g1 := (25, [some (.ref o), some (.ref c), some (.int l2)], [], (h1, q))) (g2 := (10, [some (.ref o), some (.ref c), some (.int l2)], [], (h1, q))) (c := (Int32.ofNat bs.length) ≤ l2) rfl (fun hc2 => ?_) (fun hc2 => ?_)
    · rw [if_pos hc2] at hv
      cases hv
      exact sW.fin hs1 rfl
    · rw [if_neg hc2] at hv
      refine mW.sn 3 (g' := (13, [some (.ref o), some (.ref c), some (.int l2)], [.int l2, .ref c, .ref o], (h1, q))) rfl ?_
      cases hr3 : sch bs l2 with
      | none => rw [hr3] at hv; cases hv
      | some r3 =>
        rw [hr3, o_bind] at hv
        refine sW.call rfl rfl rfl rfl (hs1.rcvS hc) (sW.of hs1 (x6o (hs1.gsx hc) hr3)) ?_
        intro h4 hs4
        refine sW.call rfl rfl rfl rfl (hs4.rcvP ho) (s207 ho hs4) ?_
        intro h5 hs5
        refine mW.sn 2 (g' := (2, [some (.ref o), some (.ref c), some (.int (l2 + 1))], [], (h5, q))) rfl ?_
        exact ih _ _ _ _  hs5 hv
def w_words (S : SS) (o : Nat) (bs : List Int32) : Option (SS) := w_words_l2 o bs 10000 S 0
theorem s206 {S : SS} {o : Nat} (ho : o ∈ shP) {c c' : Nat} {bs : List Int32} (hc : (c, c', bs) ∈ shS) {v : SS} (hs : cs h S) (hv : w_words S o bs = some v) : mW (d + 4) mm206 (0, [some (.ref o), some (.ref c), none], [], (h, q)) (mQ q v none) := by
  unfold w_words at hv
  refine mW.sn 2 (g' := (2, [some (.ref o), some (.ref c), some (.int 0)], [], (h, q))) rfl ?_
  exact w_words_l2_ok ho hc _ _ _ _ _  hs hv
def w_char_l52 (o : Nat) (S : SS) (l1 : Int32) (l2 : Int32) : Option (SS) := (if l1 = (34 : Int32) then some (sppu (sppu S o 92) o l1) else (if l1 = (92 : Int32) then some (sppu (sppu S o 92) o l1) else (if l2 < 0 then (if l1 < (32 : Int32) then ((w_words (sppu S o 92) o k35).bind fun r11 => ((sch k37 (l1 / 16)).bind fun r13 => ((sch k37 (l1 - l1 / 16 * 16)).bind fun r16 => some (sppu (sppu r11 o r13) o r16)))) else (if l1 = (127 : Int32) then ((w_words (sppu S o 92) o k35).bind fun r21 => ((sch k37 (l1 / 16)).bind fun r23 => ((sch k37 (l1 - l1 / 16 * 16)).bind fun r26 => some (sppu (sppu r21 o r23) o r26)))) else some (sppu S o l1))) else ((sch k33 l2).bind fun r31 => some (sppu (sppu S o 92) o r31)))))
theorem w_char_l52_ok {o : Nat} (ho : o ∈ shP) : ∀ (h : mH) (S : SS) (l1 : Int32) (l2 : Int32) (v : SS), cs h S → w_char_l52 o S l1 l2 = some v → mW (d + 5) mm210 (52, [some (.ref o), some (.int l1), some (.int l2)], [], (h, q)) (mQ q v none) := by
  intro h S l1 l2 v hs hv
  unfold w_char_l52 at hv
  refine mW.sn 2 (g' := (55, [some (.ref o), some (.int l1), some (.int l2)], [.int 34, .int l1], (h, q))) rfl ?_
  refine mW.br (g1 := (64, [some (.ref o), some (.int l1), some (.int l2)], [], (h, q))) (g2 := (58, [some (.ref o), some (.int l1), some (.int l2)], [], (h, q))) (c := l1 = (34 : Int32)) rfl (fun hc2 => ?_) (fun hc2 => ?_)
  · rw [if_pos hc2] at hv
    refine mW.sn 2 (g' := (67, [some (.ref o), some (.int l1), some (.int l2)], [.int 92, .ref o], (h, q))) rfl ?_
    refine sW.call rfl rfl rfl rfl (hs.rcvP ho) (s207 ho hs) ?_
    intro h3 hs3
    refine mW.sn 2 (g' := (72, [some (.ref o), some (.int l1), some (.int l2)], [.int l1, .ref o], (h3, q))) rfl ?_
    refine sW.call rfl rfl rfl rfl (hs3.rcvP ho) (s207 ho hs3) ?_
    intro h4 hs4
    refine mW.sn 1 (g' := (159, [some (.ref o), some (.int l1), some (.int l2)], [], (h4, q))) rfl ?_
    cases hv
    exact sW.fin hs4 rfl
  · rw [if_neg hc2] at hv
    refine mW.sn 2 (g' := (61, [some (.ref o), some (.int l1), some (.int l2)], [.int 92, .int l1], (h, q))) rfl ?_
    refine mW.br (g1 := (64, [some (.ref o), some (.int l1), some (.int l2)], [], (h, q))) (g2 := (78, [some (.ref o), some (.int l1), some (.int l2)], [], (h, q))) (c := l1 = (92 : Int32)) rfl (fun hc5 => ?_) (fun hc5 => ?_)
    · rw [if_pos hc5] at hv
      refine mW.sn 2 (g' := (67, [some (.ref o), some (.int l1), some (.int l2)], [.int 92, .ref o], (h, q))) rfl ?_
      refine sW.call rfl rfl rfl rfl (hs.rcvP ho) (s207 ho hs) ?_
      intro h6 hs6
      refine mW.sn 2 (g' := (72, [some (.ref o), some (.int l1), some (.int l2)], [.int l1, .ref o], (h6, q))) rfl ?_
      refine sW.call rfl rfl rfl rfl (hs6.rcvP ho) (s207 ho hs6) ?_
      intro h7 hs7
      refine mW.sn 1 (g' := (159, [some (.ref o), some (.int l1), some (.int l2)], [], (h7, q))) rfl ?_
      cases hv
      exact sW.fin hs7 rfl
    · rw [if_neg hc5] at hv
      refine mW.sn 1 (g' := (79, [some (.ref o), some (.int l1), some (.int l2)], [.int l2], (h, q))) rfl ?_
      refine mW.br (g1 := (101, [some (.ref o), some (.int l1), some (.int l2)], [], (h, q))) (g2 := (82, [some (.ref o), some (.int l1), some (.int l2)], [], (h, q))) (c := l2 < 0) rfl (fun hc8 => ?_) (fun hc8 => ?_)
      · rw [if_pos hc8] at hv
        refine mW.sn 2 (g' := (104, [some (.ref o), some (.int l1), some (.int l2)], [.int 32, .int l1], (h, q))) rfl ?_
        refine mW.br (g1 := (113, [some (.ref o), some (.int l1), some (.int l2)], [], (h, q))) (g2 := (107, [some (.ref o), some (.int l1), some (.int l2)], [], (h, q))) (c := l1 < (32 : Int32)) rfl (fun hc9 => ?_) (fun hc9 => ?_)
        · rw [if_pos hc9] at hv
          refine mW.sn 2 (g' := (116, [some (.ref o), some (.int l1), some (.int l2)], [.int 92, .ref o], (h, q))) rfl ?_
          refine sW.call rfl rfl rfl rfl (hs.rcvP ho) (s207 ho hs) ?_
          intro h10 hs10
          refine mW.sn 2 (g' := (122, [some (.ref o), some (.int l1), some (.int l2)], [.ref 35, .ref o], (h10, q))) rfl ?_
          cases hr11 : w_words (sppu S o 92) o k35 with
          | none => rw [hr11] at hv; cases hv
          | some r11 =>
            rw [hr11, o_bind] at hv
            refine sW.call rfl rfl rfl rfl (hs10.rcvP ho) (s206 ho m35 hs10 hr11) ?_
            intro h12 hs12
            refine mW.sn 5 (g' := (132, [some (.ref o), some (.int l1), some (.int l2)], [.int (l1 / 16), .ref 37, .ref o], (h12, q))) rfl ?_
            cases hr13 : sch k37 (l1 / 16) with
            | none => rw [hr13] at hv; cases hv
            | some r13 =>
              rw [hr13, o_bind] at hv
              refine sW.call rfl rfl rfl rfl (hs12.rcvS m37) (sW.of hs12 (x6o (hs12.gsx m37) hr13)) ?_
              intro h14 hs14
              refine sW.call rfl rfl rfl rfl (hs14.rcvP ho) (s207 ho hs14) ?_
              intro h15 hs15
              refine mW.sn 5 (g' := (145, [some (.ref o), some (.int l1), some (.int l2)], [.int (l1 - l1 / 16 * 16), .ref 37, .ref o], (h15, q))) rfl ?_
              cases hr16 : sch k37 (l1 - l1 / 16 * 16) with
              | none => rw [hr16] at hv; cases hv
              | some r16 =>
                rw [hr16, o_bind] at hv
                refine sW.call rfl rfl rfl rfl (hs15.rcvS m37) (sW.of hs15 (x6o (hs15.gsx m37) hr16)) ?_
                intro h17 hs17
                refine sW.call rfl rfl rfl rfl (hs17.rcvP ho) (s207 ho hs17) ?_
                intro h18 hs18
                refine mW.sn 1 (g' := (159, [some (.ref o), some (.int l1), some (.int l2)], [], (h18, q))) rfl ?_
                cases hv
                exact sW.fin hs18 rfl
        · rw [if_neg hc9] at hv
          refine mW.sn 2 (g' := (110, [some (.ref o), some (.int l1), some (.int l2)], [.int 127, .int l1], (h, q))) rfl ?_
          refine mW.br (g1 := (113, [some (.ref o), some (.int l1), some (.int l2)], [], (h, q))) (g2 := (154, [some (.ref o), some (.int l1), some (.int l2)], [], (h, q))) (c := l1 = (127 : Int32)) rfl (fun hc19 => ?_) (fun hc19 => ?_)
          · rw [if_pos hc19] at hv
            refine mW.sn 2 (g' := (116, [some (.ref o), some (.int l1), some (.int l2)], [.int 92, .ref o], (h, q))) rfl ?_
            refine sW.call rfl rfl rfl rfl (hs.rcvP ho) (s207 ho hs) ?_
            intro h20 hs20
            refine mW.sn 2 (g' := (122, [some (.ref o), some (.int l1), some (.int l2)], [.ref 35, .ref o], (h20, q))) rfl ?_
            cases hr21 : w_words (sppu S o 92) o k35 with
            | none => rw [hr21] at hv; cases hv
            | some r21 =>
              rw [hr21, o_bind] at hv
              refine sW.call rfl rfl rfl rfl (hs20.rcvP ho) (s206 ho m35 hs20 hr21) ?_
              intro h22 hs22
              refine mW.sn 5 (g' := (132, [some (.ref o), some (.int l1), some (.int l2)], [.int (l1 / 16), .ref 37, .ref o], (h22, q))) rfl ?_
              cases hr23 : sch k37 (l1 / 16) with
              | none => rw [hr23] at hv; cases hv
              | some r23 =>
                rw [hr23, o_bind] at hv
                refine sW.call rfl rfl rfl rfl (hs22.rcvS m37) (sW.of hs22 (x6o (hs22.gsx m37) hr23)) ?_
                intro h24 hs24
                refine sW.call rfl rfl rfl rfl (hs24.rcvP ho) (s207 ho hs24) ?_
                intro h25 hs25
                refine mW.sn 5 (g' := (145, [some (.ref o), some (.int l1), some (.int l2)], [.int (l1 - l1 / 16 * 16), .ref 37, .ref o], (h25, q))) rfl ?_
                cases hr26 : sch k37 (l1 - l1 / 16 * 16) with
                | none => rw [hr26] at hv; cases hv
                | some r26 =>
                  rw [hr26, o_bind] at hv
                  refine sW.call rfl rfl rfl rfl (hs25.rcvS m37) (sW.of hs25 (x6o (hs25.gsx m37) hr26)) ?_
                  intro h27 hs27
                  refine sW.call rfl rfl rfl rfl (hs27.rcvP ho) (s207 ho hs27) ?_
                  intro h28 hs28
                  refine mW.sn 1 (g' := (159, [some (.ref o), some (.int l1), some (.int l2)], [], (h28, q))) rfl ?_
                  cases hv
                  exact sW.fin hs28 rfl
          · rw [if_neg hc19] at hv
            refine mW.sn 2 (g' := (156, [some (.ref o), some (.int l1), some (.int l2)], [.int l1, .ref o], (h, q))) rfl ?_
            refine sW.call rfl rfl rfl rfl (hs.rcvP ho) (s207 ho hs) ?_
            intro h29 hs29
            cases hv
            exact sW.fin hs29 rfl
      · rw [if_neg hc8] at hv
        refine mW.sn 2 (g' := (85, [some (.ref o), some (.int l1), some (.int l2)], [.int 92, .ref o], (h, q))) rfl ?_
        refine sW.call rfl rfl rfl rfl (hs.rcvP ho) (s207 ho hs) ?_
        intro h30 hs30
        refine mW.sn 3 (g' := (92, [some (.ref o), some (.int l1), some (.int l2)], [.int l2, .ref 33, .ref o], (h30, q))) rfl ?_
        cases hr31 : sch k33 l2 with
        | none => rw [hr31] at hv; cases hv
        | some r31 =>
          rw [hr31, o_bind] at hv
          refine sW.call rfl rfl rfl rfl (hs30.rcvS m33) (sW.of hs30 (x6o (hs30.gsx m33) hr31)) ?_
          intro h32 hs32
          refine sW.call rfl rfl rfl rfl (hs32.rcvP ho) (s207 ho hs32) ?_
          intro h33 hs33
          refine mW.sn 1 (g' := (159, [some (.ref o), some (.int l1), some (.int l2)], [], (h33, q))) rfl ?_
          cases hv
          exact sW.fin hs33 rfl
def w_char (S : SS) (o : Nat) (p0 : Int32) : Option (SS) := (if p0 = (8 : Int32) then w_char_l52 o S p0 0 else (if p0 = (9 : Int32) then w_char_l52 o S p0 1 else (if p0 = (10 : Int32) then w_char_l52 o S p0 2 else (if p0 = (12 : Int32) then w_char_l52 o S p0 3 else (if p0 = (13 : Int32) then w_char_l52 o S p0 4 else w_char_l52 o S p0 (-1))))))
theorem s210 {S : SS} {o : Nat} (ho : o ∈ shP) {p0 : Int32} {v : SS} (hs : cs h S) (hv : w_char S o p0 = some v) : mW (d + 5) mm210 (0, [some (.ref o), some (.int p0), none], [], (h, q)) (mQ q v none) := by
  unfold w_char at hv
  refine mW.sn 2 (g' := (3, [some (.ref o), some (.int p0), none], [.int 8, .int p0], (h, q))) rfl ?_
  refine mW.br (g1 := (6, [some (.ref o), some (.int p0), none], [], (h, q))) (g2 := (10, [some (.ref o), some (.int p0), none], [], (h, q))) (c := p0 = (8 : Int32)) rfl (fun hc1 => ?_) (fun hc1 => ?_)
  · rw [if_pos hc1] at hv
    refine mW.sn 3 (g' := (52, [some (.ref o), some (.int p0), some (.int 0)], [], (h, q))) rfl ?_
    exact w_char_l52_ok ho _ _ _ _ _  hs hv
  · rw [if_neg hc1] at hv
    refine mW.sn 2 (g' := (13, [some (.ref o), some (.int p0), none], [.int 9, .int p0], (h, q))) rfl ?_
    refine mW.br (g1 := (16, [some (.ref o), some (.int p0), none], [], (h, q))) (g2 := (20, [some (.ref o), some (.int p0), none], [], (h, q))) (c := p0 = (9 : Int32)) rfl (fun hc34 => ?_) (fun hc34 => ?_)
    · rw [if_pos hc34] at hv
      refine mW.sn 3 (g' := (52, [some (.ref o), some (.int p0), some (.int 1)], [], (h, q))) rfl ?_
      exact w_char_l52_ok ho _ _ _ _ _  hs hv
    · rw [if_neg hc34] at hv
      refine mW.sn 2 (g' := (23, [some (.ref o), some (.int p0), none], [.int 10, .int p0], (h, q))) rfl ?_
      refine mW.br (g1 := (26, [some (.ref o), some (.int p0), none], [], (h, q))) (g2 := (30, [some (.ref o), some (.int p0), none], [], (h, q))) (c := p0 = (10 : Int32)) rfl (fun hc35 => ?_) (fun hc35 => ?_)
      · rw [if_pos hc35] at hv
        refine mW.sn 3 (g' := (52, [some (.ref o), some (.int p0), some (.int 2)], [], (h, q))) rfl ?_
        exact w_char_l52_ok ho _ _ _ _ _  hs hv
      · rw [if_neg hc35] at hv
        refine mW.sn 2 (g' := (33, [some (.ref o), some (.int p0), none], [.int 12, .int p0], (h, q))) rfl ?_
        refine mW.br (g1 := (36, [some (.ref o), some (.int p0), none], [], (h, q))) (g2 := (40, [some (.ref o), some (.int p0), none], [], (h, q))) (c := p0 = (12 : Int32)) rfl (fun hc36 => ?_) (fun hc36 => ?_)
        · rw [if_pos hc36] at hv
          refine mW.sn 3 (g' := (52, [some (.ref o), some (.int p0), some (.int 3)], [], (h, q))) rfl ?_
          exact w_char_l52_ok ho _ _ _ _ _  hs hv
        · rw [if_neg hc36] at hv
          refine mW.sn 2 (g' := (43, [some (.ref o), some (.int p0), none], [.int 13, .int p0], (h, q))) rfl ?_
          refine mW.br (g1 := (46, [some (.ref o), some (.int p0), none], [], (h, q))) (g2 := (50, [some (.ref o), some (.int p0), none], [], (h, q))) (c := p0 = (13 : Int32)) rfl (fun hc37 => ?_) (fun hc37 => ?_)
          · rw [if_pos hc37] at hv
            refine mW.sn 3 (g' := (52, [some (.ref o), some (.int p0), some (.int 4)], [], (h, q))) rfl ?_
            exact w_char_l52_ok ho _ _ _ _ _  hs hv
          · rw [if_neg hc37] at hv
            refine mW.sn 2 (g' := (52, [some (.ref o), some (.int p0), some (.int (-1))], [], (h, q))) rfl ?_
            exact w_char_l52_ok ho _ _ _ _ _  hs hv
def w_digitsB (S : SS) (o : Nat) (rec : SS → Nat → Int64 → Option (SS)) (p0 : Int64) : Option (SS) := (if (lg_cmp p0 9) ≤ 0 then some (sppu S o ((48 + (p0 - p0 / 10 * 10)).toInt32)) else ((rec S o (p0 / 10)).bind fun r3 => some (sppu r3 o ((48 + (p0 - p0 / 10 * 10)).toInt32))))
theorem s209 {S : SS} {o : Nat} (ho : o ∈ shP) {rec : SS → Nat → Int64 → Option (SS)} (hrec : ∀ (e : Nat), d ≤ e → ∀ (h : mH) (S : SS) (o : Nat) (p0 : Int64) (v : SS), o ∈ shP → cs h S → rec S o p0 = some v → mW e mm209 (0, [some (.ref o), some (.long p0), none], [], (h, q)) (mQ q v none)) {p0 : Int64} {v : SS} (hs : cs h S) (hv : w_digitsB S o rec p0 = some v) : mW (d + 1) mm209 (0, [some (.ref o), some (.long p0), none], [], (h, q)) (mQ q v none) := by
  unfold w_digitsB at hv
  refine mW.sn 3 (g' := (5, [some (.ref o), some (.long p0), none], [.int (lg_cmp p0 9)], (h, q))) rfl ?_
  refine mW.br (g1 := (17, [some (.ref o), some (.long p0), none], [], (h, q))) (g2 := (8, [some (.ref o), some (.long p0), none], [], (h, q))) (c := (lg_cmp p0 9) ≤ 0) rfl (fun hc1 => ?_) (fun hc1 => ?_)
  · rw [if_pos hc1] at hv
    refine mW.sn 7 (g' := (28, [some (.ref o), some (.long p0), none], [.int ((48 + (p0 - p0 / 10 * 10)).toInt32), .ref o], (h, q))) rfl ?_
    refine sW.call rfl rfl rfl rfl (hs.rcvP ho) (s207 ho hs) ?_
    intro h2 hs2
    cases hv
    exact sW.fin hs2 rfl
  · rw [if_neg hc1] at hv
    refine mW.sn 4 (g' := (14, [some (.ref o), some (.long p0), none], [.long (p0 / 10), .ref o], (h, q))) rfl ?_
    cases hr3 : rec S o (p0 / 10) with
    | none => rw [hr3] at hv; cases hv
    | some r3 =>
      rw [hr3, o_bind] at hv
      refine sW.call rfl rfl rfl rfl (hs.rcvP ho) (hrec _ (by omega) _ _ _ _ _ ho hs hr3) ?_
      intro h4 hs4
      refine mW.sn 7 (g' := (28, [some (.ref o), some (.long p0), none], [.int ((48 + (p0 - p0 / 10 * 10)).toInt32), .ref o], (h4, q))) rfl ?_
      refine sW.call rfl rfl rfl rfl (hs4.rcvP ho) (s207 ho hs4) ?_
      intro h5 hs5
      cases hv
      exact sW.fin hs5 rfl
def w_digits : Nat → SS → Nat → Int64 → Option (SS)
  | 0, _, _, _ => none
  | n + 1, S, o, p0 => w_digitsB S o (w_digits n) p0
theorem w_digits_ok : ∀ (n e : Nat), 1 * n ≤ e → ∀ (h : mH) (S : SS) (o : Nat) (p0 : Int64) (v : SS), o ∈ shP → cs h S → w_digits n S o p0 = some v → mW e mm209 (0, [some (.ref o), some (.long p0), none], [], (h, q)) (mQ q v none) := by
  intro n
  induction n with
  | zero => intro e he h S o p0 v g0 hs hv; cases hv
  | succ n ih =>
    intro e he h S o p0 v g0 hs hv
    have := s209 (d := e - 1) (q := q) g0 (rec := w_digits n) (fun e' he' => ih e' (by omega)) hs hv
    rw [show e = e - 1 + 1 by omega]
    exact this
def w_valueB_l127 (o : Nat) (aa : Nat) (rec : SS → Nat → Nat → Int32 → Option (SS)) : Nat → SS → Int32 → Int32 → Option (SS)
  | 0, _, _, _ => none
  | n + 1, S, l3, l4 => (if l3 ≤ l4 then some (sppu S o 34) else ((iget (S aa) l4).bind fun b26 => ((w_char S o b26).bind fun r27 => w_valueB_l127 o aa rec n r27 l3 (l4 + 1))))
theorem w_valueB_l127_ok {o : Nat} (ho : o ∈ shP) {aa : Nat} (haa : aa ∈ shA) {rec : SS → Nat → Nat → Int32 → Option (SS)} (hrec : ∀ (e : Nat), d ≤ e → ∀ (h : mH) (S : SS) (o : Nat) (aa : Nat) (p0 : Int32) (v : SS), o ∈ shP → aa ∈ shA → cs h S → rec S o aa p0 = some v → mW e mm205 (0, [some (.ref o), some (.ref aa), some (.int p0), none, none, none, none], [], (h, q)) (mQ q v none)) : ∀ (n : Nat), ∀ (h : mH) (S : SS) (l3 : Int32) (l4 : Int32) (y2 : Int32) (x5 : Option Value) (x6 : Option Value) (v : SS), cs h S → w_valueB_l127 o aa rec n S l3 l4 = some v → mW (d + 21) mm205 (127, [some (.ref o), some (.ref aa), some (.int y2), some (.int l3), some (.int l4), x5, x6], [], (h, q)) (mQ q v none) := by
  intro n
  induction n with
  | zero => intro h S l3 l4 y2 x5 x6 v hs hv; cases hv
  | succ n ih =>
    intro h S l3 l4 y2 x5 x6 v hs hv
    unfold w_valueB_l127 at hv
    refine mW.sn 2 (g' := (130, [some (.ref o), some (.ref aa), some (.int y2), some (.int l3), some (.int l4), x5, x6], [.int l3, .int l4], (h, q))) rfl ?_
    refine mW.br (g1 := (147, [some (.ref o), some (.ref aa), some (.int y2), some (.int l3), some (.int l4), x5, x6], [], (h, q))) (g2 := (133, [some (.ref o), some (.ref aa), some (.int y2), some (.int l3), some (.int l4), x5, x6], [], (h, q))) (c := l3 ≤ l4) rfl (fun hc24 => ?_) (fun hc24 => ?_)
    · rw [if_pos hc24] at hv
      refine mW.sn 2 (g' := (150, [some (.ref o), some (.ref aa), some (.int y2), some (.int l3), some (.int l4), x5, x6], [.int 34, .ref o], (h, q))) rfl ?_
      refine sW.call rfl rfl rfl rfl (hs.rcvP ho) (s207 ho hs) ?_
      intro h25 hs25
      refine mW.sn 1 (g' := (280, [some (.ref o), some (.ref aa), some (.int y2), some (.int l3), some (.int l4), x5, x6], [], (h25, q))) rfl ?_
      cases hv
      exact sW.fin hs25 rfl
    · rw [if_neg hc24] at hv
      refine mW.sn 3 (g' := (137, [some (.ref o), some (.ref aa), some (.int y2), some (.int l3), some (.int l4), x5, x6], [.int l4, .ref aa, .ref o], (h, q))) rfl ?_
      cases hr26 : iget (S aa) l4 with
      | none => rw [hr26] at hv; cases hv
      | some b26 =>
        rw [hr26, o_bind] at hv
        refine sW.iald rfl hs haa hr26 ?_
        cases hr27 : w_char S o b26 with
        | none => rw [hr27] at hv; cases hv
        | some r27 =>
          rw [hr27, o_bind] at hv
          refine sW.call rfl rfl rfl rfl (hs.rcvP ho) (s210 ho hs hr27) ?_
          intro h28 hs28
          refine mW.sn 2 (g' := (127, [some (.ref o), some (.ref aa), some (.int y2), some (.int l3), some (.int (l4 + 1)), x5, x6], [], (h28, q))) rfl ?_
          exact ih _ _ _ _ _ _ _ _  hs28 hv
def w_valueB_l162 (o : Nat) (aa : Nat) (rec : SS → Nat → Nat → Int32 → Option (SS)) : Nat → SS → Int32 → Int32 → Int32 → Option (SS)
  | 0, _, _, _, _ => none
  | n + 1, S, l2, l3, l4 => (if l3 ≤ l4 then some (sppu S o 93) else (if l4 ≤ (l2 + 2) then ((rec S o aa l4).bind fun r34 => ((r_next (r34 aa) l4).bind fun r36 => w_valueB_l162 o aa rec n r34 l2 l3 r36)) else ((rec (sppu S o 44) o aa l4).bind fun r39 => ((r_next (r39 aa) l4).bind fun r41 => w_valueB_l162 o aa rec n r39 l2 l3 r41))))
theorem w_valueB_l162_ok {o : Nat} (ho : o ∈ shP) {aa : Nat} (haa : aa ∈ shA) {rec : SS → Nat → Nat → Int32 → Option (SS)} (hrec : ∀ (e : Nat), d ≤ e → ∀ (h : mH) (S : SS) (o : Nat) (aa : Nat) (p0 : Int32) (v : SS), o ∈ shP → aa ∈ shA → cs h S → rec S o aa p0 = some v → mW e mm205 (0, [some (.ref o), some (.ref aa), some (.int p0), none, none, none, none], [], (h, q)) (mQ q v none)) : ∀ (n : Nat), ∀ (h : mH) (S : SS) (l2 : Int32) (l3 : Int32) (l4 : Int32) (x5 : Option Value) (x6 : Option Value) (v : SS), cs h S → w_valueB_l162 o aa rec n S l2 l3 l4 = some v → mW (d + 21) mm205 (162, [some (.ref o), some (.ref aa), some (.int l2), some (.int l3), some (.int l4), x5, x6], [], (h, q)) (mQ q v none) := by
  intro n
  induction n with
  | zero => intro h S l2 l3 l4 x5 x6 v hs hv; cases hv
  | succ n ih =>
    intro h S l2 l3 l4 x5 x6 v hs hv
    unfold w_valueB_l162 at hv
    refine mW.sn 2 (g' := (165, [some (.ref o), some (.ref aa), some (.int l2), some (.int l3), some (.int l4), x5, x6], [.int l3, .int l4], (h, q))) rfl ?_
    refine mW.br (g1 := (200, [some (.ref o), some (.ref aa), some (.int l2), some (.int l3), some (.int l4), x5, x6], [], (h, q))) (g2 := (168, [some (.ref o), some (.ref aa), some (.int l2), some (.int l3), some (.int l4), x5, x6], [], (h, q))) (c := l3 ≤ l4) rfl (fun hc31 => ?_) (fun hc31 => ?_)
    · rw [if_pos hc31] at hv
      refine mW.sn 2 (g' := (203, [some (.ref o), some (.ref aa), some (.int l2), some (.int l3), some (.int l4), x5, x6], [.int 93, .ref o], (h, q))) rfl ?_
      refine sW.call rfl rfl rfl rfl (hs.rcvP ho) (s207 ho hs) ?_
      intro h32 hs32
      refine mW.sn 1 (g' := (280, [some (.ref o), some (.ref aa), some (.int l2), some (.int l3), some (.int l4), x5, x6], [], (h32, q))) rfl ?_
      cases hv
      exact sW.fin hs32 rfl
    · rw [if_neg hc31] at hv
      refine mW.sn 4 (g' := (173, [some (.ref o), some (.ref aa), some (.int l2), some (.int l3), some (.int l4), x5, x6], [.int (l2 + 2), .int l4], (h, q))) rfl ?_
      refine mW.br (g1 := (182, [some (.ref o), some (.ref aa), some (.int l2), some (.int l3), some (.int l4), x5, x6], [], (h, q))) (g2 := (176, [some (.ref o), some (.ref aa), some (.int l2), some (.int l3), some (.int l4), x5, x6], [], (h, q))) (c := l4 ≤ (l2 + 2)) rfl (fun hc33 => ?_) (fun hc33 => ?_)
      · rw [if_pos hc33] at hv
        refine mW.sn 3 (g' := (186, [some (.ref o), some (.ref aa), some (.int l2), some (.int l3), some (.int l4), x5, x6], [.int l4, .ref aa, .ref o], (h, q))) rfl ?_
        cases hr34 : rec S o aa l4 with
        | none => rw [hr34] at hv; cases hv
        | some r34 =>
          rw [hr34, o_bind] at hv
          refine sW.call rfl rfl rfl rfl (hs.rcvP ho) (hrec _ (by omega) _ _ _ _ _ _ ho haa hs hr34) ?_
          intro h35 hs35
          refine mW.sn 2 (g' := (192, [some (.ref o), some (.ref aa), some (.int l2), some (.int l3), some (.int l4), x5, x6], [.int l4, .ref aa], (h35, q))) rfl ?_
          cases hr36 : r_next (r34 aa) l4 with
          | none => rw [hr36] at hv; cases hv
          | some r36 =>
            rw [hr36, o_bind] at hv
            refine sW.call rfl rfl rfl rfl rfl (sW.of hs35 (x199 (hs35.ar haa) hr36)) ?_
            intro h37 hs37
            refine mW.sn 2 (g' := (162, [some (.ref o), some (.ref aa), some (.int l2), some (.int l3), some (.int r36), x5, x6], [], (h37, q))) rfl ?_
            exact ih _ _ _ _ _ _ _ _  hs37 hv
      · rw [if_neg hc33] at hv
        refine mW.sn 2 (g' := (179, [some (.ref o), some (.ref aa), some (.int l2), some (.int l3), some (.int l4), x5, x6], [.int 44, .ref o], (h, q))) rfl ?_
        refine sW.call rfl rfl rfl rfl (hs.rcvP ho) (s207 ho hs) ?_
        intro h38 hs38
        refine mW.sn 3 (g' := (186, [some (.ref o), some (.ref aa), some (.int l2), some (.int l3), some (.int l4), x5, x6], [.int l4, .ref aa, .ref o], (h38, q))) rfl ?_
        cases hr39 : rec (sppu S o 44) o aa l4 with
        | none => rw [hr39] at hv; cases hv
        | some r39 =>
          rw [hr39, o_bind] at hv
          refine sW.call rfl rfl rfl rfl (hs38.rcvP ho) (hrec _ (by omega) _ _ _ _ _ _ ho haa hs38 hr39) ?_
          intro h40 hs40
          refine mW.sn 2 (g' := (192, [some (.ref o), some (.ref aa), some (.int l2), some (.int l3), some (.int l4), x5, x6], [.int l4, .ref aa], (h40, q))) rfl ?_
          cases hr41 : r_next (r39 aa) l4 with
          | none => rw [hr41] at hv; cases hv
          | some r41 =>
            rw [hr41, o_bind] at hv
            refine sW.call rfl rfl rfl rfl rfl (sW.of hs40 (x199 (hs40.ar haa) hr41)) ?_
            intro h42 hs42
            refine mW.sn 2 (g' := (162, [some (.ref o), some (.ref aa), some (.int l2), some (.int l3), some (.int r41), x5, x6], [], (h42, q))) rfl ?_
            exact ih _ _ _ _ _ _ _ _  hs42 hv
def w_valueB_l215 (o : Nat) (aa : Nat) (rec : SS → Nat → Nat → Int32 → Option (SS)) : Nat → SS → Int32 → Int32 → Int32 → Option (SS)
  | 0, _, _, _, _ => none
  | n + 1, S, l2, l3, l4 => (if l3 ≤ l4 then some (sppu S o 125) else (if l4 ≤ (l2 + 2) then ((rec S o aa l4).bind fun r47 => ((r_next ((sppu r47 o 58) aa) l4).bind fun r50 => ((rec (sppu r47 o 58) o aa r50).bind fun r52 => ((r_next (r52 aa) l4).bind fun r54 => ((r_next (r52 aa) r54).bind fun r56 => w_valueB_l215 o aa rec n r52 l2 l3 r56))))) else ((rec (sppu S o 44) o aa l4).bind fun r59 => ((r_next ((sppu r59 o 58) aa) l4).bind fun r62 => ((rec (sppu r59 o 58) o aa r62).bind fun r64 => ((r_next (r64 aa) l4).bind fun r66 => ((r_next (r64 aa) r66).bind fun r68 => w_valueB_l215 o aa rec n r64 l2 l3 r68)))))))
theorem w_valueB_l215_ok {o : Nat} (ho : o ∈ shP) {aa : Nat} (haa : aa ∈ shA) {rec : SS → Nat → Nat → Int32 → Option (SS)} (hrec : ∀ (e : Nat), d ≤ e → ∀ (h : mH) (S : SS) (o : Nat) (aa : Nat) (p0 : Int32) (v : SS), o ∈ shP → aa ∈ shA → cs h S → rec S o aa p0 = some v → mW e mm205 (0, [some (.ref o), some (.ref aa), some (.int p0), none, none, none, none], [], (h, q)) (mQ q v none)) : ∀ (n : Nat), ∀ (h : mH) (S : SS) (l2 : Int32) (l3 : Int32) (l4 : Int32) (x5 : Option Value) (x6 : Option Value) (v : SS), cs h S → w_valueB_l215 o aa rec n S l2 l3 l4 = some v → mW (d + 21) mm205 (215, [some (.ref o), some (.ref aa), some (.int l2), some (.int l3), some (.int l4), x5, x6], [], (h, q)) (mQ q v none) := by
  intro n
  induction n with
  | zero => intro h S l2 l3 l4 x5 x6 v hs hv; cases hv
  | succ n ih =>
    intro h S l2 l3 l4 x5 x6 v hs hv
    unfold w_valueB_l215 at hv
    refine mW.sn 2 (g' := (218, [some (.ref o), some (.ref aa), some (.int l2), some (.int l3), some (.int l4), x5, x6], [.int l3, .int l4], (h, q))) rfl ?_
    refine mW.br (g1 := (274, [some (.ref o), some (.ref aa), some (.int l2), some (.int l3), some (.int l4), x5, x6], [], (h, q))) (g2 := (221, [some (.ref o), some (.ref aa), some (.int l2), some (.int l3), some (.int l4), x5, x6], [], (h, q))) (c := l3 ≤ l4) rfl (fun hc44 => ?_) (fun hc44 => ?_)
    · rw [if_pos hc44] at hv
      refine mW.sn 2 (g' := (277, [some (.ref o), some (.ref aa), some (.int l2), some (.int l3), some (.int l4), x5, x6], [.int 125, .ref o], (h, q))) rfl ?_
      refine sW.call rfl rfl rfl rfl (hs.rcvP ho) (s207 ho hs) ?_
      intro h45 hs45
      cases hv
      exact sW.fin hs45 rfl
    · rw [if_neg hc44] at hv
      refine mW.sn 4 (g' := (226, [some (.ref o), some (.ref aa), some (.int l2), some (.int l3), some (.int l4), x5, x6], [.int (l2 + 2), .int l4], (h, q))) rfl ?_
      refine mW.br (g1 := (235, [some (.ref o), some (.ref aa), some (.int l2), some (.int l3), some (.int l4), x5, x6], [], (h, q))) (g2 := (229, [some (.ref o), some (.ref aa), some (.int l2), some (.int l3), some (.int l4), x5, x6], [], (h, q))) (c := l4 ≤ (l2 + 2)) rfl (fun hc46 => ?_) (fun hc46 => ?_)
      · rw [if_pos hc46] at hv
        refine mW.sn 3 (g' := (239, [some (.ref o), some (.ref aa), some (.int l2), some (.int l3), some (.int l4), x5, x6], [.int l4, .ref aa, .ref o], (h, q))) rfl ?_
        cases hr47 : rec S o aa l4 with
        | none => rw [hr47] at hv; cases hv
        | some r47 =>
          rw [hr47, o_bind] at hv
          refine sW.call rfl rfl rfl rfl (hs.rcvP ho) (hrec _ (by omega) _ _ _ _ _ _ ho haa hs hr47) ?_
          intro h48 hs48
          refine mW.sn 2 (g' := (245, [some (.ref o), some (.ref aa), some (.int l2), some (.int l3), some (.int l4), x5, x6], [.int 58, .ref o], (h48, q))) rfl ?_
          refine sW.call rfl rfl rfl rfl (hs48.rcvP ho) (s207 ho hs48) ?_
          intro h49 hs49
          refine mW.sn 4 (g' := (253, [some (.ref o), some (.ref aa), some (.int l2), some (.int l3), some (.int l4), x5, x6], [.int l4, .ref aa, .ref aa, .ref o], (h49, q))) rfl ?_
          cases hr50 : r_next ((sppu r47 o 58) aa) l4 with
          | none => rw [hr50] at hv; cases hv
          | some r50 =>
            rw [hr50, o_bind] at hv
            refine sW.call rfl rfl rfl rfl rfl (sW.of hs49 (x199 (hs49.ar haa) hr50)) ?_
            intro h51 hs51
            cases hr52 : rec (sppu r47 o 58) o aa r50 with
            | none => rw [hr52] at hv; cases hv
            | some r52 =>
              rw [hr52, o_bind] at hv
              refine sW.call rfl rfl rfl rfl (hs51.rcvP ho) (hrec _ (by omega) _ _ _ _ _ _ ho haa hs51 hr52) ?_
              intro h53 hs53
              refine mW.sn 3 (g' := (263, [some (.ref o), some (.ref aa), some (.int l2), some (.int l3), some (.int l4), x5, x6], [.int l4, .ref aa, .ref aa], (h53, q))) rfl ?_
              cases hr54 : r_next (r52 aa) l4 with
              | none => rw [hr54] at hv; cases hv
              | some r54 =>
                rw [hr54, o_bind] at hv
                refine sW.call rfl rfl rfl rfl rfl (sW.of hs53 (x199 (hs53.ar haa) hr54)) ?_
                intro h55 hs55
                cases hr56 : r_next (r52 aa) r54 with
                | none => rw [hr56] at hv; cases hv
                | some r56 =>
                  rw [hr56, o_bind] at hv
                  refine sW.call rfl rfl rfl rfl rfl (sW.of hs55 (x199 (hs55.ar haa) hr56)) ?_
                  intro h57 hs57
                  refine mW.sn 2 (g' := (215, [some (.ref o), some (.ref aa), some (.int l2), some (.int l3), some (.int r56), x5, x6], [], (h57, q))) rfl ?_
                  exact ih _ _ _ _ _ _ _ _  hs57 hv
      · rw [if_neg hc46] at hv
        refine mW.sn 2 (g' := (232, [some (.ref o), some (.ref aa), some (.int l2), some (.int l3), some (.int l4), x5, x6], [.int 44, .ref o], (h, q))) rfl ?_
        refine sW.call rfl rfl rfl rfl (hs.rcvP ho) (s207 ho hs) ?_
        intro h58 hs58
        refine mW.sn 3 (g' := (239, [some (.ref o), some (.ref aa), some (.int l2), some (.int l3), some (.int l4), x5, x6], [.int l4, .ref aa, .ref o], (h58, q))) rfl ?_
        cases hr59 : rec (sppu S o 44) o aa l4 with
        | none => rw [hr59] at hv; cases hv
        | some r59 =>
          rw [hr59, o_bind] at hv
          refine sW.call rfl rfl rfl rfl (hs58.rcvP ho) (hrec _ (by omega) _ _ _ _ _ _ ho haa hs58 hr59) ?_
          intro h60 hs60
          refine mW.sn 2 (g' := (245, [some (.ref o), some (.ref aa), some (.int l2), some (.int l3), some (.int l4), x5, x6], [.int 58, .ref o], (h60, q))) rfl ?_
          refine sW.call rfl rfl rfl rfl (hs60.rcvP ho) (s207 ho hs60) ?_
          intro h61 hs61
          refine mW.sn 4 (g' := (253, [some (.ref o), some (.ref aa), some (.int l2), some (.int l3), some (.int l4), x5, x6], [.int l4, .ref aa, .ref aa, .ref o], (h61, q))) rfl ?_
          cases hr62 : r_next ((sppu r59 o 58) aa) l4 with
          | none => rw [hr62] at hv; cases hv
          | some r62 =>
            rw [hr62, o_bind] at hv
            refine sW.call rfl rfl rfl rfl rfl (sW.of hs61 (x199 (hs61.ar haa) hr62)) ?_
            intro h63 hs63
            cases hr64 : rec (sppu r59 o 58) o aa r62 with
            | none => rw [hr64] at hv; cases hv
            | some r64 =>
              rw [hr64, o_bind] at hv
              refine sW.call rfl rfl rfl rfl (hs63.rcvP ho) (hrec _ (by omega) _ _ _ _ _ _ ho haa hs63 hr64) ?_
              intro h65 hs65
              refine mW.sn 3 (g' := (263, [some (.ref o), some (.ref aa), some (.int l2), some (.int l3), some (.int l4), x5, x6], [.int l4, .ref aa, .ref aa], (h65, q))) rfl ?_
              cases hr66 : r_next (r64 aa) l4 with
              | none => rw [hr66] at hv; cases hv
              | some r66 =>
                rw [hr66, o_bind] at hv
                refine sW.call rfl rfl rfl rfl rfl (sW.of hs65 (x199 (hs65.ar haa) hr66)) ?_
                intro h67 hs67
                cases hr68 : r_next (r64 aa) r66 with
                | none => rw [hr68] at hv; cases hv
                | some r68 =>
                  rw [hr68, o_bind] at hv
                  refine sW.call rfl rfl rfl rfl rfl (sW.of hs67 (x199 (hs67.ar haa) hr68)) ?_
                  intro h69 hs69
                  refine mW.sn 2 (g' := (215, [some (.ref o), some (.ref aa), some (.int l2), some (.int l3), some (.int r68), x5, x6], [], (h69, q))) rfl ?_
                  exact ih _ _ _ _ _ _ _ _  hs69 hv
def w_valueB (S : SS) (o : Nat) (aa : Nat) (rec : SS → Nat → Nat → Int32 → Option (SS)) (p0 : Int32) : Option (SS) := ((r_next (S aa) p0).bind fun r1 => ((iget (S aa) p0).bind fun b3 => (if b3 = (0 : Int32) then ((w_words S o k27).bind fun r5 => some r5) else (if b3 = (1 : Int32) then ((w_words S o k29).bind fun r8 => some r8) else (if b3 = (2 : Int32) then ((w_words S o k31).bind fun r11 => some r11) else (if b3 = (3 : Int32) then ((r_number (S aa) p0).bind fun r14 => (if 0 ≤ (lg_cmp r14 0) then ((w_digits 20 S o r14).bind fun r17 => some r17) else ((w_digits 20 (sppu S o 45) o (-r14)).bind fun r20 => some r20))) else (if b3 = (4 : Int32) then w_valueB_l127 o aa rec 10000 (sppu S o 34) r1 (p0 + 2) else (if b3 = (5 : Int32) then w_valueB_l162 o aa rec 10000 (sppu S o 91) p0 r1 (p0 + 2) else w_valueB_l215 o aa rec 10000 (sppu S o 123) p0 r1 (p0 + 2)))))))))
theorem s205 {S : SS} {o : Nat} (ho : o ∈ shP) {aa : Nat} (haa : aa ∈ shA) {rec : SS → Nat → Nat → Int32 → Option (SS)} (hrec : ∀ (e : Nat), d ≤ e → ∀ (h : mH) (S : SS) (o : Nat) (aa : Nat) (p0 : Int32) (v : SS), o ∈ shP → aa ∈ shA → cs h S → rec S o aa p0 = some v → mW e mm205 (0, [some (.ref o), some (.ref aa), some (.int p0), none, none, none, none], [], (h, q)) (mQ q v none)) {p0 : Int32} {v : SS} (hs : cs h S) (hv : w_valueB S o aa rec p0 = some v) : mW (d + 21) mm205 (0, [some (.ref o), some (.ref aa), some (.int p0), none, none, none, none], [], (h, q)) (mQ q v none) := by
  unfold w_valueB at hv
  refine mW.sn 2 (g' := (2, [some (.ref o), some (.ref aa), some (.int p0), none, none, none, none], [.int p0, .ref aa], (h, q))) rfl ?_
  cases hr1 : r_next (S aa) p0 with
  | none => rw [hr1] at hv; cases hv
  | some r1 =>
    rw [hr1, o_bind] at hv
    refine sW.call rfl rfl rfl rfl rfl (sW.of hs (x199 (hs.ar haa) hr1)) ?_
    intro h2 hs2
    refine mW.sn 7 (g' := (13, [some (.ref o), some (.ref aa), some (.int p0), some (.int r1), some (.int (p0 + 2)), none, none], [.int p0, .ref aa], (h2, q))) rfl ?_
    cases hr3 : iget (S aa) p0 with
    | none => rw [hr3] at hv; cases hv
    | some b3 =>
      rw [hr3, o_bind] at hv
      refine sW.iald rfl hs2 haa hr3 ?_
      by_cases hc4 : b3 = (0 : Int32)
      · rw [if_pos hc4] at hv
        refine mW.sn 1 (g' := (52, [some (.ref o), some (.ref aa), some (.int p0), some (.int r1), some (.int (p0 + 2)), none, none], [], (h2, q))) (by rw [hc4]; rfl) ?_
        refine mW.sn 2 (g' := (55, [some (.ref o), some (.ref aa), some (.int p0), some (.int r1), some (.int (p0 + 2)), none, none], [.ref 27, .ref o], (h2, q))) rfl ?_
        cases hr5 : w_words S o k27 with
        | none => rw [hr5] at hv; cases hv
        | some r5 =>
          rw [hr5, o_bind] at hv
          refine sW.call rfl rfl rfl rfl (hs2.rcvP ho) (s206 ho m27 hs2 hr5) ?_
          intro h6 hs6
          refine mW.sn 1 (g' := (280, [some (.ref o), some (.ref aa), some (.int p0), some (.int r1), some (.int (p0 + 2)), none, none], [], (h6, q))) rfl ?_
          cases hv
          exact sW.fin hs6 rfl
      rw [if_neg hc4] at hv
      by_cases hc7 : b3 = (1 : Int32)
      · rw [if_pos hc7] at hv
        refine mW.sn 1 (g' := (61, [some (.ref o), some (.ref aa), some (.int p0), some (.int r1), some (.int (p0 + 2)), none, none], [], (h2, q))) (by rw [hc7]; rfl) ?_
        refine mW.sn 2 (g' := (64, [some (.ref o), some (.ref aa), some (.int p0), some (.int r1), some (.int (p0 + 2)), none, none], [.ref 29, .ref o], (h2, q))) rfl ?_
        cases hr8 : w_words S o k29 with
        | none => rw [hr8] at hv; cases hv
        | some r8 =>
          rw [hr8, o_bind] at hv
          refine sW.call rfl rfl rfl rfl (hs2.rcvP ho) (s206 ho m29 hs2 hr8) ?_
          intro h9 hs9
          refine mW.sn 1 (g' := (280, [some (.ref o), some (.ref aa), some (.int p0), some (.int r1), some (.int (p0 + 2)), none, none], [], (h9, q))) rfl ?_
          cases hv
          exact sW.fin hs9 rfl
      rw [if_neg hc7] at hv
      by_cases hc10 : b3 = (2 : Int32)
      · rw [if_pos hc10] at hv
        refine mW.sn 1 (g' := (70, [some (.ref o), some (.ref aa), some (.int p0), some (.int r1), some (.int (p0 + 2)), none, none], [], (h2, q))) (by rw [hc10]; rfl) ?_
        refine mW.sn 2 (g' := (73, [some (.ref o), some (.ref aa), some (.int p0), some (.int r1), some (.int (p0 + 2)), none, none], [.ref 31, .ref o], (h2, q))) rfl ?_
        cases hr11 : w_words S o k31 with
        | none => rw [hr11] at hv; cases hv
        | some r11 =>
          rw [hr11, o_bind] at hv
          refine sW.call rfl rfl rfl rfl (hs2.rcvP ho) (s206 ho m31 hs2 hr11) ?_
          intro h12 hs12
          refine mW.sn 1 (g' := (280, [some (.ref o), some (.ref aa), some (.int p0), some (.int r1), some (.int (p0 + 2)), none, none], [], (h12, q))) rfl ?_
          cases hv
          exact sW.fin hs12 rfl
      rw [if_neg hc10] at hv
      by_cases hc13 : b3 = (3 : Int32)
      · rw [if_pos hc13] at hv
        refine mW.sn 1 (g' := (79, [some (.ref o), some (.ref aa), some (.int p0), some (.int r1), some (.int (p0 + 2)), none, none], [], (h2, q))) (by rw [hc13]; rfl) ?_
        refine mW.sn 2 (g' := (81, [some (.ref o), some (.ref aa), some (.int p0), some (.int r1), some (.int (p0 + 2)), none, none], [.int p0, .ref aa], (h2, q))) rfl ?_
        cases hr14 : r_number (S aa) p0 with
        | none => rw [hr14] at hv; cases hv
        | some r14 =>
          rw [hr14, o_bind] at hv
          refine sW.call rfl rfl rfl rfl rfl (sW.of hs2 (x208 (hs2.ar haa) hr14)) ?_
          intro h15 hs15
          refine mW.sn 4 (g' := (90, [some (.ref o), some (.ref aa), some (.int p0), some (.int r1), some (.int (p0 + 2)), some (.long r14), none], [.int (lg_cmp r14 0)], (h15, q))) rfl ?_
          refine mW.br (g1 := (99, [some (.ref o), some (.ref aa), some (.int p0), some (.int r1), some (.int (p0 + 2)), some (.long r14), none], [], (h15, q))) (g2 := (93, [some (.ref o), some (.ref aa), some (.int p0), some (.int r1), some (.int (p0 + 2)), some (.long r14), none], [], (h15, q))) (c := 0 ≤ (lg_cmp r14 0)) rfl (fun hc16 => ?_) (fun hc16 => ?_)
          · rw [if_pos hc16] at hv
            refine mW.sn 4 (g' := (104, [some (.ref o), some (.ref aa), some (.int p0), some (.int r1), some (.int (p0 + 2)), some (.long r14), none], [.int (lg_cmp r14 0), .ref o], (h15, q))) rfl ?_
            refine mW.yes (g1 := (113, [some (.ref o), some (.ref aa), some (.int p0), some (.int r1), some (.int (p0 + 2)), some (.long r14), none], [.ref o], (h15, q))) (g2 := (107, [some (.ref o), some (.ref aa), some (.int p0), some (.int r1), some (.int (p0 + 2)), some (.long r14), none], [.ref o], (h15, q))) (c := 0 ≤ (lg_cmp r14 0)) rfl hc16 ?_
            refine mW.sn 1 (g' := (115, [some (.ref o), some (.ref aa), some (.int p0), some (.int r1), some (.int (p0 + 2)), some (.long r14), none], [.long r14, .ref o], (h15, q))) rfl ?_
            cases hr17 : w_digits 20 S o r14 with
            | none => rw [hr17] at hv; cases hv
            | some r17 =>
              rw [hr17, o_bind] at hv
              refine sW.call rfl rfl rfl rfl (hs15.rcvP ho) (w_digits_ok 20 _ (by omega) _ _ _ _ _ ho hs15 hr17) ?_
              intro h18 hs18
              refine mW.sn 1 (g' := (280, [some (.ref o), some (.ref aa), some (.int p0), some (.int r1), some (.int (p0 + 2)), some (.long r14), none], [], (h18, q))) rfl ?_
              cases hv
              exact sW.fin hs18 rfl
          · rw [if_neg hc16] at hv
            refine mW.sn 2 (g' := (96, [some (.ref o), some (.ref aa), some (.int p0), some (.int r1), some (.int (p0 + 2)), some (.long r14), none], [.int 45, .ref o], (h15, q))) rfl ?_
            refine sW.call rfl rfl rfl rfl (hs15.rcvP ho) (s207 ho hs15) ?_
            intro h19 hs19
            refine mW.sn 4 (g' := (104, [some (.ref o), some (.ref aa), some (.int p0), some (.int r1), some (.int (p0 + 2)), some (.long r14), none], [.int (lg_cmp r14 0), .ref o], (h19, q))) rfl ?_
            refine mW.no (g1 := (113, [some (.ref o), some (.ref aa), some (.int p0), some (.int r1), some (.int (p0 + 2)), some (.long r14), none], [.ref o], (h19, q))) (g2 := (107, [some (.ref o), some (.ref aa), some (.int p0), some (.int r1), some (.int (p0 + 2)), some (.long r14), none], [.ref o], (h19, q))) (c := 0 ≤ (lg_cmp r14 0)) rfl hc16 ?_
            refine mW.sn 3 (g' := (115, [some (.ref o), some (.ref aa), some (.int p0), some (.int r1), some (.int (p0 + 2)), some (.long r14), none], [.long (-r14), .ref o], (h19, q))) rfl ?_
            cases hr20 : w_digits 20 (sppu S o 45) o (-r14) with
            | none => rw [hr20] at hv; cases hv
            | some r20 =>
              rw [hr20, o_bind] at hv
              refine sW.call rfl rfl rfl rfl (hs19.rcvP ho) (w_digits_ok 20 _ (by omega) _ _ _ _ _ ho hs19 hr20) ?_
              intro h21 hs21
              refine mW.sn 1 (g' := (280, [some (.ref o), some (.ref aa), some (.int p0), some (.int r1), some (.int (p0 + 2)), some (.long r14), none], [], (h21, q))) rfl ?_
              cases hv
              exact sW.fin hs21 rfl
      rw [if_neg hc13] at hv
      by_cases hc22 : b3 = (4 : Int32)
      · rw [if_pos hc22] at hv
        refine mW.sn 1 (g' := (121, [some (.ref o), some (.ref aa), some (.int p0), some (.int r1), some (.int (p0 + 2)), none, none], [], (h2, q))) (by rw [hc22]; rfl) ?_
        refine mW.sn 2 (g' := (124, [some (.ref o), some (.ref aa), some (.int p0), some (.int r1), some (.int (p0 + 2)), none, none], [.int 34, .ref o], (h2, q))) rfl ?_
        refine sW.call rfl rfl rfl rfl (hs2.rcvP ho) (s207 ho hs2) ?_
        intro h23 hs23
        exact w_valueB_l127_ok ho haa hrec _ _ _ _ _ _ _ _ _  hs23 hv
      rw [if_neg hc22] at hv
      by_cases hc29 : b3 = (5 : Int32)
      · rw [if_pos hc29] at hv
        refine mW.sn 1 (g' := (156, [some (.ref o), some (.ref aa), some (.int p0), some (.int r1), some (.int (p0 + 2)), none, none], [], (h2, q))) (by rw [hc29]; rfl) ?_
        refine mW.sn 2 (g' := (159, [some (.ref o), some (.ref aa), some (.int p0), some (.int r1), some (.int (p0 + 2)), none, none], [.int 91, .ref o], (h2, q))) rfl ?_
        refine sW.call rfl rfl rfl rfl (hs2.rcvP ho) (s207 ho hs2) ?_
        intro h30 hs30
        exact w_valueB_l162_ok ho haa hrec _ _ _ _ _ _ _ _ _  hs30 hv
      rw [if_neg hc29] at hv
      have hd42 : m_tsw 14 195 0 5 #[38, 47, 56, 65, 107, 142] b3 = 209 := by
        have n4 : ¬ (0 : Int) = b3.toInt := fun e => hc4 (Int32.toInt_inj.mp (e.symm.trans rfl))
        have n7 : ¬ (1 : Int) = b3.toInt := fun e => hc7 (Int32.toInt_inj.mp (e.symm.trans rfl))
        have n10 : ¬ (2 : Int) = b3.toInt := fun e => hc10 (Int32.toInt_inj.mp (e.symm.trans rfl))
        have n13 : ¬ (3 : Int) = b3.toInt := fun e => hc13 (Int32.toInt_inj.mp (e.symm.trans rfl))
        have n22 : ¬ (4 : Int) = b3.toInt := fun e => hc22 (Int32.toInt_inj.mp (e.symm.trans rfl))
        have n29 : ¬ (5 : Int) = b3.toInt := fun e => hc29 (Int32.toInt_inj.mp (e.symm.trans rfl))
        exact m_tsw_out _ _ _ _ _ _ (by omega)
      refine mW.sn 1 (g' := (209, [some (.ref o), some (.ref aa), some (.int p0), some (.int r1), some (.int (p0 + 2)), none, none], [], (h2, q))) (by rw [← hd42]; rfl) ?_
      refine mW.sn 2 (g' := (212, [some (.ref o), some (.ref aa), some (.int p0), some (.int r1), some (.int (p0 + 2)), none, none], [.int 123, .ref o], (h2, q))) rfl ?_
      refine sW.call rfl rfl rfl rfl (hs2.rcvP ho) (s207 ho hs2) ?_
      intro h43 hs43
      exact w_valueB_l215_ok ho haa hrec _ _ _ _ _ _ _ _ _  hs43 hv
def w_value : Nat → SS → Nat → Nat → Int32 → Option (SS)
  | 0, _, _, _, _ => none
  | n + 1, S, o, aa, p0 => w_valueB S o aa (w_value n) p0
theorem w_value_ok : ∀ (n e : Nat), 21 * n ≤ e → ∀ (h : mH) (S : SS) (o : Nat) (aa : Nat) (p0 : Int32) (v : SS), o ∈ shP → aa ∈ shA → cs h S → w_value n S o aa p0 = some v → mW e mm205 (0, [some (.ref o), some (.ref aa), some (.int p0), none, none, none, none], [], (h, q)) (mQ q v none) := by
  intro n
  induction n with
  | zero => intro e he h S o aa p0 v g0 g1 hs hv; cases hv
  | succ n ih =>
    intro e he h S o aa p0 v g0 g1 hs hv
    have := s205 (d := e - 21) (q := q) g0 g1 (rec := w_value n) (fun e' he' => ih e' (by omega)) hs hv
    rw [show e = e - 21 + 21 by omega]
    exact this
end
