/-! PRINTED BY wip/whole (dec2): the reference's Model, second half. -/
section
set_option maxRecDepth 4000
variable {d : Nat} {h : mH} {q : Nat × Nat}
def b_rest_l216 (k11 : SS → Int32 → Int32 → Int32 → Int32 → Option (SS)) (S : SS) : Option (SS) := ((b_refuse S 1).bind fun r9 => some r9)
theorem b_rest_l216_ok {k11 : SS → Int32 → Int32 → Int32 → Int32 → Option (SS)} (hk11 : ∀ (h : mH) (S : SS) (l3 : Int32) (l4 : Int32) (l5 : Int32) (l6 : Int32) (y1 : Int32) (y2 : Int32) (x7 : Option Value) (v : SS), cs h S → k11 S l3 l4 l5 l6 = some v → mW (d + 4) mm241 (11, [some (.ref 78), some (.int y1), some (.int y2), some (.int l3), some (.int l4), some (.int l5), some (.int l6), x7], [], (h, q)) (mQ q v none)) : ∀ (h : mH) (S : SS) (y1 : Int32) (y2 : Int32) (y3 : Int32) (y4 : Int32) (y5 : Int32) (y6 : Int32) (x7 : Option Value) (v : SS), cs h S → b_rest_l216 k11 S = some v → mW (d + 4) mm241 (216, [some (.ref 78), some (.int y1), some (.int y2), some (.int y3), some (.int y4), some (.int y5), some (.int y6), x7], [], (h, q)) (mQ q v none) := by
  intro h S y1 y2 y3 y4 y5 y6 x7 v hs hv
  unfold b_rest_l216 at hv
  refine mW.sn 2 (g' := (218, [some (.ref 78), some (.int y1), some (.int y2), some (.int y3), some (.int y4), some (.int y5), some (.int y6), x7], [.int 1, .ref 78], (h, q))) rfl ?_
  cases hr9 : b_refuse S 1 with
  | none => rw [hr9] at hv; cases hv
  | some r9 =>
    rw [hr9, o_bind] at hv
    refine sW.call rfl rfl rfl rfl (hs.rcv o78) (s227 hs hr9) ?_
    intro h10 hs10
    cases hv
    exact sW.fin hs10 rfl
def b_rest_l137 (k11 : SS → Int32 → Int32 → Int32 → Int32 → Option (SS)) (S : SS) (l3 : Int32) (l4 : Int32) (l5 : Int32) (l6 : Int32) : Option (SS) := (if l4 = 0 then (if rd S 78 19 = 0 then none else ((iget (S ((rd S 78 19).toNatClampNeg)) l6).bind fun b24 => (if b24 = (6 : Int32) then ((r_next (S ((rd S 78 19).toNatClampNeg)) l6).bind fun r26 => k11 S l3 1 (l5 ||| 0) r26) else ((r_next (S ((rd S 78 19).toNatClampNeg)) l6).bind fun r28 => k11 S l3 0 (l5 ||| 0) r28)))) else (if rd S 78 19 = 0 then none else ((iget (S ((rd S 78 19).toNatClampNeg)) l6).bind fun b31 => (if b31 = (4 : Int32) then (if b31 = (6 : Int32) then ((r_next (S ((rd S 78 19).toNatClampNeg)) l6).bind fun r34 => k11 S l3 1 (l5 ||| 1) r34) else ((r_next (S ((rd S 78 19).toNatClampNeg)) l6).bind fun r36 => k11 S l3 0 (l5 ||| 1) r36)) else (if b31 = (6 : Int32) then ((r_next (S ((rd S 78 19).toNatClampNeg)) l6).bind fun r39 => k11 S l3 1 (l5 ||| 0) r39) else ((r_next (S ((rd S 78 19).toNatClampNeg)) l6).bind fun r41 => k11 S l3 0 (l5 ||| 0) r41))))))
theorem b_rest_l137_ok {k11 : SS → Int32 → Int32 → Int32 → Int32 → Option (SS)} (hk11 : ∀ (h : mH) (S : SS) (l3 : Int32) (l4 : Int32) (l5 : Int32) (l6 : Int32) (y1 : Int32) (y2 : Int32) (x7 : Option Value) (v : SS), cs h S → k11 S l3 l4 l5 l6 = some v → mW (d + 4) mm241 (11, [some (.ref 78), some (.int y1), some (.int y2), some (.int l3), some (.int l4), some (.int l5), some (.int l6), x7], [], (h, q)) (mQ q v none)) : ∀ (h : mH) (S : SS) (l3 : Int32) (l4 : Int32) (l5 : Int32) (l6 : Int32) (y1 : Int32) (y2 : Int32) (y7 : Int32) (v : SS), cs h S → b_rest_l137 k11 S l3 l4 l5 l6 = some v → mW (d + 4) mm241 (137, [some (.ref 78), some (.int y1), some (.int y2), some (.int l3), some (.int l4), some (.int l5), some (.int l6), some (.int y7)], [], (h, q)) (mQ q v none) := by
  intro h S l3 l4 l5 l6 y1 y2 y7 v hs hv
  unfold b_rest_l137 at hv
  refine mW.sn 2 (g' := (141, [some (.ref 78), some (.int y1), some (.int y2), some (.int l3), some (.int l4), some (.int l5), some (.int l6), some (.int y7)], [.int l4, .int l5], (h, q))) rfl ?_
  refine mW.br (g1 := (159, [some (.ref 78), some (.int y1), some (.int y2), some (.int l3), some (.int l4), some (.int l5), some (.int l6), some (.int y7)], [.int l5], (h, q))) (g2 := (144, [some (.ref 78), some (.int y1), some (.int y2), some (.int l3), some (.int l4), some (.int l5), some (.int l6), some (.int y7)], [.int l5], (h, q))) (c := l4 = 0) rfl (fun hc22 => ?_) (fun hc22 => ?_)
  · rw [if_pos hc22] at hv
    refine mW.sn 4 (g' := (164, [some (.ref 78), some (.int y1), some (.int y2), some (.int l3), some (.int l4), some (.int (l5 ||| 0)), some (.int l6), some (.int y7)], [.ref 78], (h, q))) rfl ?_
    by_cases hz23 : rd S 78 19 = 0
    · rw [if_pos hz23] at hv; cases hv
    rw [if_neg hz23] at hv
    refine sW.getN rfl hs o78 rfl rfl hz23 ?_
    refine mW.sn 1 (g' := (169, [some (.ref 78), some (.int y1), some (.int y2), some (.int l3), some (.int l4), some (.int (l5 ||| 0)), some (.int l6), some (.int y7)], [.int l6, .ref ((rd S 78 19).toNatClampNeg)], (h, q))) rfl ?_
    cases hr24 : iget (S ((rd S 78 19).toNatClampNeg)) l6 with
    | none => rw [hr24] at hv; cases hv
    | some b24 =>
      rw [hr24, o_bind] at hv
      refine sW.iald rfl hs (hs.okA o78 rfl hz23) hr24 ?_
      refine mW.sn 1 (g' := (172, [some (.ref 78), some (.int y1), some (.int y2), some (.int l3), some (.int l4), some (.int (l5 ||| 0)), some (.int l6), some (.int y7)], [.int 6, .int b24], (h, q))) rfl ?_
      refine mW.br (g1 := (175, [some (.ref 78), some (.int y1), some (.int y2), some (.int l3), some (.int l4), some (.int (l5 ||| 0)), some (.int l6), some (.int y7)], [], (h, q))) (g2 := (179, [some (.ref 78), some (.int y1), some (.int y2), some (.int l3), some (.int l4), some (.int (l5 ||| 0)), some (.int l6), some (.int y7)], [], (h, q))) (c := b24 = (6 : Int32)) rfl (fun hc25 => ?_) (fun hc25 => ?_)
      · rw [if_pos hc25] at hv
        refine mW.sn 4 (g' := (183, [some (.ref 78), some (.int y1), some (.int y2), some (.int l3), some (.int 1), some (.int (l5 ||| 0)), some (.int l6), some (.int y7)], [.ref 78], (h, q))) rfl ?_
        refine sW.getN rfl hs o78 rfl rfl hz23 ?_
        refine mW.sn 1 (g' := (188, [some (.ref 78), some (.int y1), some (.int y2), some (.int l3), some (.int 1), some (.int (l5 ||| 0)), some (.int l6), some (.int y7)], [.int l6, .ref ((rd S 78 19).toNatClampNeg)], (h, q))) rfl ?_
        cases hr26 : r_next (S ((rd S 78 19).toNatClampNeg)) l6 with
        | none => rw [hr26] at hv; cases hv
        | some r26 =>
          rw [hr26, o_bind] at hv
          refine sW.call rfl rfl rfl rfl rfl (sW.of hs (x199 (hs.ar (hs.okA o78 rfl hz23)) hr26)) ?_
          intro h27 hs27
          refine mW.sn 2 (g' := (11, [some (.ref 78), some (.int y1), some (.int y2), some (.int l3), some (.int 1), some (.int (l5 ||| 0)), some (.int r26), some (.int y7)], [], (h27, q))) rfl ?_
          exact hk11 _ _ _ _ _ _ _ _ _ _  hs27 hv
      · rw [if_neg hc25] at hv
        refine mW.sn 3 (g' := (183, [some (.ref 78), some (.int y1), some (.int y2), some (.int l3), some (.int 0), some (.int (l5 ||| 0)), some (.int l6), some (.int y7)], [.ref 78], (h, q))) rfl ?_
        refine sW.getN rfl hs o78 rfl rfl hz23 ?_
        refine mW.sn 1 (g' := (188, [some (.ref 78), some (.int y1), some (.int y2), some (.int l3), some (.int 0), some (.int (l5 ||| 0)), some (.int l6), some (.int y7)], [.int l6, .ref ((rd S 78 19).toNatClampNeg)], (h, q))) rfl ?_
        cases hr28 : r_next (S ((rd S 78 19).toNatClampNeg)) l6 with
        | none => rw [hr28] at hv; cases hv
        | some r28 =>
          rw [hr28, o_bind] at hv
          refine sW.call rfl rfl rfl rfl rfl (sW.of hs (x199 (hs.ar (hs.okA o78 rfl hz23)) hr28)) ?_
          intro h29 hs29
          refine mW.sn 2 (g' := (11, [some (.ref 78), some (.int y1), some (.int y2), some (.int l3), some (.int 0), some (.int (l5 ||| 0)), some (.int r28), some (.int y7)], [], (h29, q))) rfl ?_
          exact hk11 _ _ _ _ _ _ _ _ _ _  hs29 hv
  · rw [if_neg hc22] at hv
    refine mW.sn 1 (g' := (145, [some (.ref 78), some (.int y1), some (.int y2), some (.int l3), some (.int l4), some (.int l5), some (.int l6), some (.int y7)], [.ref 78, .int l5], (h, q))) rfl ?_
    by_cases hz30 : rd S 78 19 = 0
    · rw [if_pos hz30] at hv; cases hv
    rw [if_neg hz30] at hv
    refine sW.getN rfl hs o78 rfl rfl hz30 ?_
    refine mW.sn 1 (g' := (150, [some (.ref 78), some (.int y1), some (.int y2), some (.int l3), some (.int l4), some (.int l5), some (.int l6), some (.int y7)], [.int l6, .ref ((rd S 78 19).toNatClampNeg), .int l5], (h, q))) rfl ?_
    cases hr31 : iget (S ((rd S 78 19).toNatClampNeg)) l6 with
    | none => rw [hr31] at hv; cases hv
    | some b31 =>
      rw [hr31, o_bind] at hv
      refine sW.iald rfl hs (hs.okA o78 rfl hz30) hr31 ?_
      refine mW.sn 1 (g' := (152, [some (.ref 78), some (.int y1), some (.int y2), some (.int l3), some (.int l4), some (.int l5), some (.int l6), some (.int y7)], [.int 4, .int b31, .int l5], (h, q))) rfl ?_
      refine mW.br (g1 := (155, [some (.ref 78), some (.int y1), some (.int y2), some (.int l3), some (.int l4), some (.int l5), some (.int l6), some (.int y7)], [.int l5], (h, q))) (g2 := (159, [some (.ref 78), some (.int y1), some (.int y2), some (.int l3), some (.int l4), some (.int l5), some (.int l6), some (.int y7)], [.int l5], (h, q))) (c := b31 = (4 : Int32)) rfl (fun hc32 => ?_) (fun hc32 => ?_)
      · rw [if_pos hc32] at hv
        refine mW.sn 5 (g' := (164, [some (.ref 78), some (.int y1), some (.int y2), some (.int l3), some (.int l4), some (.int (l5 ||| 1)), some (.int l6), some (.int y7)], [.ref 78], (h, q))) rfl ?_
        refine sW.getN rfl hs o78 rfl rfl hz30 ?_
        refine mW.sn 1 (g' := (169, [some (.ref 78), some (.int y1), some (.int y2), some (.int l3), some (.int l4), some (.int (l5 ||| 1)), some (.int l6), some (.int y7)], [.int l6, .ref ((rd S 78 19).toNatClampNeg)], (h, q))) rfl ?_
        refine sW.iald rfl hs (hs.okA o78 rfl hz30) hr31 ?_
        refine mW.sn 1 (g' := (172, [some (.ref 78), some (.int y1), some (.int y2), some (.int l3), some (.int l4), some (.int (l5 ||| 1)), some (.int l6), some (.int y7)], [.int 6, .int b31], (h, q))) rfl ?_
        refine mW.br (g1 := (175, [some (.ref 78), some (.int y1), some (.int y2), some (.int l3), some (.int l4), some (.int (l5 ||| 1)), some (.int l6), some (.int y7)], [], (h, q))) (g2 := (179, [some (.ref 78), some (.int y1), some (.int y2), some (.int l3), some (.int l4), some (.int (l5 ||| 1)), some (.int l6), some (.int y7)], [], (h, q))) (c := b31 = (6 : Int32)) rfl (fun hc33 => ?_) (fun hc33 => ?_)
        · rw [if_pos hc33] at hv
          refine mW.sn 4 (g' := (183, [some (.ref 78), some (.int y1), some (.int y2), some (.int l3), some (.int 1), some (.int (l5 ||| 1)), some (.int l6), some (.int y7)], [.ref 78], (h, q))) rfl ?_
          refine sW.getN rfl hs o78 rfl rfl hz30 ?_
          refine mW.sn 1 (g' := (188, [some (.ref 78), some (.int y1), some (.int y2), some (.int l3), some (.int 1), some (.int (l5 ||| 1)), some (.int l6), some (.int y7)], [.int l6, .ref ((rd S 78 19).toNatClampNeg)], (h, q))) rfl ?_
          cases hr34 : r_next (S ((rd S 78 19).toNatClampNeg)) l6 with
          | none => rw [hr34] at hv; cases hv
          | some r34 =>
            rw [hr34, o_bind] at hv
            refine sW.call rfl rfl rfl rfl rfl (sW.of hs (x199 (hs.ar (hs.okA o78 rfl hz30)) hr34)) ?_
            intro h35 hs35
            refine mW.sn 2 (g' := (11, [some (.ref 78), some (.int y1), some (.int y2), some (.int l3), some (.int 1), some (.int (l5 ||| 1)), some (.int r34), some (.int y7)], [], (h35, q))) rfl ?_
            exact hk11 _ _ _ _ _ _ _ _ _ _  hs35 hv
        · rw [if_neg hc33] at hv
          refine mW.sn 3 (g' := (183, [some (.ref 78), some (.int y1), some (.int y2), some (.int l3), some (.int 0), some (.int (l5 ||| 1)), some (.int l6), some (.int y7)], [.ref 78], (h, q))) rfl ?_
          refine sW.getN rfl hs o78 rfl rfl hz30 ?_
          refine mW.sn 1 (g' := (188, [some (.ref 78), some (.int y1), some (.int y2), some (.int l3), some (.int 0), some (.int (l5 ||| 1)), some (.int l6), some (.int y7)], [.int l6, .ref ((rd S 78 19).toNatClampNeg)], (h, q))) rfl ?_
          cases hr36 : r_next (S ((rd S 78 19).toNatClampNeg)) l6 with
          | none => rw [hr36] at hv; cases hv
          | some r36 =>
            rw [hr36, o_bind] at hv
            refine sW.call rfl rfl rfl rfl rfl (sW.of hs (x199 (hs.ar (hs.okA o78 rfl hz30)) hr36)) ?_
            intro h37 hs37
            refine mW.sn 2 (g' := (11, [some (.ref 78), some (.int y1), some (.int y2), some (.int l3), some (.int 0), some (.int (l5 ||| 1)), some (.int r36), some (.int y7)], [], (h37, q))) rfl ?_
            exact hk11 _ _ _ _ _ _ _ _ _ _  hs37 hv
      · rw [if_neg hc32] at hv
        refine mW.sn 4 (g' := (164, [some (.ref 78), some (.int y1), some (.int y2), some (.int l3), some (.int l4), some (.int (l5 ||| 0)), some (.int l6), some (.int y7)], [.ref 78], (h, q))) rfl ?_
        refine sW.getN rfl hs o78 rfl rfl hz30 ?_
        refine mW.sn 1 (g' := (169, [some (.ref 78), some (.int y1), some (.int y2), some (.int l3), some (.int l4), some (.int (l5 ||| 0)), some (.int l6), some (.int y7)], [.int l6, .ref ((rd S 78 19).toNatClampNeg)], (h, q))) rfl ?_
        refine sW.iald rfl hs (hs.okA o78 rfl hz30) hr31 ?_
        refine mW.sn 1 (g' := (172, [some (.ref 78), some (.int y1), some (.int y2), some (.int l3), some (.int l4), some (.int (l5 ||| 0)), some (.int l6), some (.int y7)], [.int 6, .int b31], (h, q))) rfl ?_
        refine mW.br (g1 := (175, [some (.ref 78), some (.int y1), some (.int y2), some (.int l3), some (.int l4), some (.int (l5 ||| 0)), some (.int l6), some (.int y7)], [], (h, q))) (g2 := (179, [some (.ref 78), some (.int y1), some (.int y2), some (.int l3), some (.int l4), some (.int (l5 ||| 0)), some (.int l6), some (.int y7)], [], (h, q))) (c := b31 = (6 : Int32)) rfl (fun hc38 => ?_) (fun hc38 => ?_)
        · rw [if_pos hc38] at hv
          refine mW.sn 4 (g' := (183, [some (.ref 78), some (.int y1), some (.int y2), some (.int l3), some (.int 1), some (.int (l5 ||| 0)), some (.int l6), some (.int y7)], [.ref 78], (h, q))) rfl ?_
          refine sW.getN rfl hs o78 rfl rfl hz30 ?_
          refine mW.sn 1 (g' := (188, [some (.ref 78), some (.int y1), some (.int y2), some (.int l3), some (.int 1), some (.int (l5 ||| 0)), some (.int l6), some (.int y7)], [.int l6, .ref ((rd S 78 19).toNatClampNeg)], (h, q))) rfl ?_
          cases hr39 : r_next (S ((rd S 78 19).toNatClampNeg)) l6 with
          | none => rw [hr39] at hv; cases hv
          | some r39 =>
            rw [hr39, o_bind] at hv
            refine sW.call rfl rfl rfl rfl rfl (sW.of hs (x199 (hs.ar (hs.okA o78 rfl hz30)) hr39)) ?_
            intro h40 hs40
            refine mW.sn 2 (g' := (11, [some (.ref 78), some (.int y1), some (.int y2), some (.int l3), some (.int 1), some (.int (l5 ||| 0)), some (.int r39), some (.int y7)], [], (h40, q))) rfl ?_
            exact hk11 _ _ _ _ _ _ _ _ _ _  hs40 hv
        · rw [if_neg hc38] at hv
          refine mW.sn 3 (g' := (183, [some (.ref 78), some (.int y1), some (.int y2), some (.int l3), some (.int 0), some (.int (l5 ||| 0)), some (.int l6), some (.int y7)], [.ref 78], (h, q))) rfl ?_
          refine sW.getN rfl hs o78 rfl rfl hz30 ?_
          refine mW.sn 1 (g' := (188, [some (.ref 78), some (.int y1), some (.int y2), some (.int l3), some (.int 0), some (.int (l5 ||| 0)), some (.int l6), some (.int y7)], [.int l6, .ref ((rd S 78 19).toNatClampNeg)], (h, q))) rfl ?_
          cases hr41 : r_next (S ((rd S 78 19).toNatClampNeg)) l6 with
          | none => rw [hr41] at hv; cases hv
          | some r41 =>
            rw [hr41, o_bind] at hv
            refine sW.call rfl rfl rfl rfl rfl (sW.of hs (x199 (hs.ar (hs.okA o78 rfl hz30)) hr41)) ?_
            intro h42 hs42
            refine mW.sn 2 (g' := (11, [some (.ref 78), some (.int y1), some (.int y2), some (.int l3), some (.int 0), some (.int (l5 ||| 0)), some (.int r41), some (.int y7)], [], (h42, q))) rfl ?_
            exact hk11 _ _ _ _ _ _ _ _ _ _  hs42 hv
def b_rest_l84 (k11 : SS → Int32 → Int32 → Int32 → Int32 → Option (SS)) (S : SS) : Option (SS) := ((b_refuse S 1).bind fun r45 => some r45)
theorem b_rest_l84_ok {k11 : SS → Int32 → Int32 → Int32 → Int32 → Option (SS)} (hk11 : ∀ (h : mH) (S : SS) (l3 : Int32) (l4 : Int32) (l5 : Int32) (l6 : Int32) (y1 : Int32) (y2 : Int32) (x7 : Option Value) (v : SS), cs h S → k11 S l3 l4 l5 l6 = some v → mW (d + 4) mm241 (11, [some (.ref 78), some (.int y1), some (.int y2), some (.int l3), some (.int l4), some (.int l5), some (.int l6), x7], [], (h, q)) (mQ q v none)) : ∀ (h : mH) (S : SS) (y1 : Int32) (y2 : Int32) (y3 : Int32) (y4 : Int32) (y5 : Int32) (y6 : Int32) (y7 : Int32) (v : SS), cs h S → b_rest_l84 k11 S = some v → mW (d + 4) mm241 (84, [some (.ref 78), some (.int y1), some (.int y2), some (.int y3), some (.int y4), some (.int y5), some (.int y6), some (.int y7)], [], (h, q)) (mQ q v none) := by
  intro h S y1 y2 y3 y4 y5 y6 y7 v hs hv
  unfold b_rest_l84 at hv
  refine mW.sn 2 (g' := (86, [some (.ref 78), some (.int y1), some (.int y2), some (.int y3), some (.int y4), some (.int y5), some (.int y6), some (.int y7)], [.int 1, .ref 78], (h, q))) rfl ?_
  cases hr45 : b_refuse S 1 with
  | none => rw [hr45] at hv; cases hv
  | some r45 =>
    rw [hr45, o_bind] at hv
    refine sW.call rfl rfl rfl rfl (hs.rcv o78) (s227 hs hr45) ?_
    intro h46 hs46
    cases hv
    exact sW.fin hs46 rfl
def b_rest_l11 : Nat → SS → Int32 → Int32 → Int32 → Int32 → Option (SS)
  | 0, _, _, _, _, _ => none
  | n + 1, S, l3, l4, l5, l6 => (if rd S 78 19 = 0 then none else ((iget (S ((rd S 78 19).toNatClampNeg)) 1).bind fun b2 => (if b2 ≤ l6 then (if l5 = 0 then (if l4 = 0 then some S else (if rd S 78 20 = 0 then none else ((iget (S ((rd S 78 20).toNatClampNeg)) 0).bind fun b7 => (if b7 = (5 : Int32) then some S else b_rest_l216 (b_rest_l11 n) S)))) else b_rest_l216 (b_rest_l11 n) S) else ((iget (S ((rd S 78 19).toNatClampNeg)) l6).bind fun b11 => (if b11 = (4 : Int32) then (if l3 = 0 then (if b11 = (3 : Int32) then ((r_number (S ((rd S 78 19).toNatClampNeg)) l6).bind fun r15 => (if (lg_cmp r15 0) < 0 then ((b_refuse S 2).bind fun r18 => some r18) else (if (lg_cmp r15 1000) ≤ 0 then b_rest_l137 (b_rest_l11 n) S l3 l4 l5 l6 else ((b_refuse S 2).bind fun r43 => some r43)))) else b_rest_l137 (b_rest_l11 n) S l3 l4 l5 l6) else b_rest_l84 (b_rest_l11 n) S) else (if b11 = (3 : Int32) then (if l3 = 0 then ((r_number (S ((rd S 78 19).toNatClampNeg)) l6).bind fun r49 => (if (lg_cmp r49 0) < 0 then ((b_refuse S 2).bind fun r52 => some r52) else (if (lg_cmp r49 1000) ≤ 0 then b_rest_l137 (b_rest_l11 n) S l3 l4 l5 l6 else ((b_refuse S 2).bind fun r56 => some r56)))) else b_rest_l84 (b_rest_l11 n) S) else (if b11 = (6 : Int32) then ((b_part S ((rd S 78 19).toNatClampNeg) l6).bind fun r59 => (if r59 = 0 then b_rest_l84 (b_rest_l11 n) S else (if l3 = 0 then b_rest_l137 (b_rest_l11 n) S l3 l4 l5 l6 else b_rest_l84 (b_rest_l11 n) S))) else b_rest_l84 (b_rest_l11 n) S)))))))
theorem b_rest_l11_ok : ∀ (n : Nat), ∀ (h : mH) (S : SS) (l3 : Int32) (l4 : Int32) (l5 : Int32) (l6 : Int32) (y1 : Int32) (y2 : Int32) (x7 : Option Value) (v : SS), cs h S → b_rest_l11 n S l3 l4 l5 l6 = some v → mW (d + 4) mm241 (11, [some (.ref 78), some (.int y1), some (.int y2), some (.int l3), some (.int l4), some (.int l5), some (.int l6), x7], [], (h, q)) (mQ q v none) := by
  intro n
  induction n with
  | zero => intro h S l3 l4 l5 l6 y1 y2 x7 v hs hv; cases hv
  | succ n ih =>
    intro h S l3 l4 l5 l6 y1 y2 x7 v hs hv
    unfold b_rest_l11 at hv
    refine mW.sn 2 (g' := (14, [some (.ref 78), some (.int y1), some (.int y2), some (.int l3), some (.int l4), some (.int l5), some (.int l6), x7], [.ref 78, .int l6], (h, q))) rfl ?_
    by_cases hz1 : rd S 78 19 = 0
    · rw [if_pos hz1] at hv; cases hv
    rw [if_neg hz1] at hv
    refine sW.getN rfl hs o78 rfl rfl hz1 ?_
    refine mW.sn 1 (g' := (18, [some (.ref 78), some (.int y1), some (.int y2), some (.int l3), some (.int l4), some (.int l5), some (.int l6), x7], [.int 1, .ref ((rd S 78 19).toNatClampNeg), .int l6], (h, q))) rfl ?_
    cases hr2 : iget (S ((rd S 78 19).toNatClampNeg)) 1 with
    | none => rw [hr2] at hv; cases hv
    | some b2 =>
      rw [hr2, o_bind] at hv
      refine sW.iald rfl hs (hs.okA o78 rfl hz1) hr2 ?_
      refine mW.br (g1 := (196, [some (.ref 78), some (.int y1), some (.int y2), some (.int l3), some (.int l4), some (.int l5), some (.int l6), x7], [], (h, q))) (g2 := (22, [some (.ref 78), some (.int y1), some (.int y2), some (.int l3), some (.int l4), some (.int l5), some (.int l6), x7], [], (h, q))) (c := b2 ≤ l6) rfl (fun hc3 => ?_) (fun hc3 => ?_)
      · rw [if_pos hc3] at hv
        refine mW.sn 1 (g' := (198, [some (.ref 78), some (.int y1), some (.int y2), some (.int l3), some (.int l4), some (.int l5), some (.int l6), x7], [.int l5], (h, q))) rfl ?_
        refine mW.br (g1 := (201, [some (.ref 78), some (.int y1), some (.int y2), some (.int l3), some (.int l4), some (.int l5), some (.int l6), x7], [], (h, q))) (g2 := (216, [some (.ref 78), some (.int y1), some (.int y2), some (.int l3), some (.int l4), some (.int l5), some (.int l6), x7], [], (h, q))) (c := l5 = 0) rfl (fun hc4 => ?_) (fun hc4 => ?_)
        · rw [if_pos hc4] at hv
          refine mW.sn 1 (g' := (203, [some (.ref 78), some (.int y1), some (.int y2), some (.int l3), some (.int l4), some (.int l5), some (.int l6), x7], [.int l4], (h, q))) rfl ?_
          refine mW.br (g1 := (221, [some (.ref 78), some (.int y1), some (.int y2), some (.int l3), some (.int l4), some (.int l5), some (.int l6), x7], [], (h, q))) (g2 := (206, [some (.ref 78), some (.int y1), some (.int y2), some (.int l3), some (.int l4), some (.int l5), some (.int l6), x7], [], (h, q))) (c := l4 = 0) rfl (fun hc5 => ?_) (fun hc5 => ?_)
          · rw [if_pos hc5] at hv
            cases hv
            exact sW.fin hs rfl
          · rw [if_neg hc5] at hv
            refine mW.sn 1 (g' := (207, [some (.ref 78), some (.int y1), some (.int y2), some (.int l3), some (.int l4), some (.int l5), some (.int l6), x7], [.ref 78], (h, q))) rfl ?_
            by_cases hz6 : rd S 78 20 = 0
            · rw [if_pos hz6] at hv; cases hv
            rw [if_neg hz6] at hv
            refine sW.getN rfl hs o78 rfl rfl hz6 ?_
            refine mW.sn 1 (g' := (211, [some (.ref 78), some (.int y1), some (.int y2), some (.int l3), some (.int l4), some (.int l5), some (.int l6), x7], [.int 0, .ref ((rd S 78 20).toNatClampNeg)], (h, q))) rfl ?_
            cases hr7 : iget (S ((rd S 78 20).toNatClampNeg)) 0 with
            | none => rw [hr7] at hv; cases hv
            | some b7 =>
              rw [hr7, o_bind] at hv
              refine sW.iald rfl hs (hs.okA o78 rfl hz6) hr7 ?_
              refine mW.sn 1 (g' := (213, [some (.ref 78), some (.int y1), some (.int y2), some (.int l3), some (.int l4), some (.int l5), some (.int l6), x7], [.int 5, .int b7], (h, q))) rfl ?_
              refine mW.br (g1 := (221, [some (.ref 78), some (.int y1), some (.int y2), some (.int l3), some (.int l4), some (.int l5), some (.int l6), x7], [], (h, q))) (g2 := (216, [some (.ref 78), some (.int y1), some (.int y2), some (.int l3), some (.int l4), some (.int l5), some (.int l6), x7], [], (h, q))) (c := b7 = (5 : Int32)) rfl (fun hc8 => ?_) (fun hc8 => ?_)
              · rw [if_pos hc8] at hv
                cases hv
                exact sW.fin hs rfl
              · rw [if_neg hc8] at hv
                exact b_rest_l216_ok ih _ _ _ _ _ _ _ _ _ _  hs hv
        · rw [if_neg hc4] at hv
          exact b_rest_l216_ok ih _ _ _ _ _ _ _ _ _ _  hs hv
      · rw [if_neg hc3] at hv
        refine mW.sn 1 (g' := (23, [some (.ref 78), some (.int y1), some (.int y2), some (.int l3), some (.int l4), some (.int l5), some (.int l6), x7], [.ref 78], (h, q))) rfl ?_
        refine sW.getN rfl hs o78 rfl rfl hz1 ?_
        refine mW.sn 1 (g' := (28, [some (.ref 78), some (.int y1), some (.int y2), some (.int l3), some (.int l4), some (.int l5), some (.int l6), x7], [.int l6, .ref ((rd S 78 19).toNatClampNeg)], (h, q))) rfl ?_
        cases hr11 : iget (S ((rd S 78 19).toNatClampNeg)) l6 with
        | none => rw [hr11] at hv; cases hv
        | some b11 =>
          rw [hr11, o_bind] at hv
          refine sW.iald rfl hs (hs.okA o78 rfl hz1) hr11 ?_
          refine mW.sn 1 (g' := (30, [some (.ref 78), some (.int y1), some (.int y2), some (.int l3), some (.int l4), some (.int l5), some (.int l6), x7], [.int 4, .int b11], (h, q))) rfl ?_
          refine mW.br (g1 := (68, [some (.ref 78), some (.int y1), some (.int y2), some (.int l3), some (.int l4), some (.int l5), some (.int l6), x7], [], (h, q))) (g2 := (33, [some (.ref 78), some (.int y1), some (.int y2), some (.int l3), some (.int l4), some (.int l5), some (.int l6), x7], [], (h, q))) (c := b11 = (4 : Int32)) rfl (fun hc12 => ?_) (fun hc12 => ?_)
          · rw [if_pos hc12] at hv
            refine mW.sn 4 (g' := (77, [some (.ref 78), some (.int y1), some (.int y2), some (.int l3), some (.int l4), some (.int l5), some (.int l6), some (.int 1)], [.int 1], (h, q))) rfl ?_
            refine mW.no (g1 := (84, [some (.ref 78), some (.int y1), some (.int y2), some (.int l3), some (.int l4), some (.int l5), some (.int l6), some (.int 1)], [], (h, q))) (g2 := (80, [some (.ref 78), some (.int y1), some (.int y2), some (.int l3), some (.int l4), some (.int l5), some (.int l6), some (.int 1)], [], (h, q))) (c := (1 : Int32) = 0) rfl (by decide) ?_
            refine mW.sn 1 (g' := (81, [some (.ref 78), some (.int y1), some (.int y2), some (.int l3), some (.int l4), some (.int l5), some (.int l6), some (.int 1)], [.int l3], (h, q))) rfl ?_
            refine mW.br (g1 := (90, [some (.ref 78), some (.int y1), some (.int y2), some (.int l3), some (.int l4), some (.int l5), some (.int l6), some (.int 1)], [], (h, q))) (g2 := (84, [some (.ref 78), some (.int y1), some (.int y2), some (.int l3), some (.int l4), some (.int l5), some (.int l6), some (.int 1)], [], (h, q))) (c := l3 = 0) rfl (fun hc13 => ?_) (fun hc13 => ?_)
            · rw [if_pos hc13] at hv
              refine mW.sn 1 (g' := (91, [some (.ref 78), some (.int y1), some (.int y2), some (.int l3), some (.int l4), some (.int l5), some (.int l6), some (.int 1)], [.ref 78], (h, q))) rfl ?_
              refine sW.getN rfl hs o78 rfl rfl hz1 ?_
              refine mW.sn 1 (g' := (96, [some (.ref 78), some (.int y1), some (.int y2), some (.int l3), some (.int l4), some (.int l5), some (.int l6), some (.int 1)], [.int l6, .ref ((rd S 78 19).toNatClampNeg)], (h, q))) rfl ?_
              refine sW.iald rfl hs (hs.okA o78 rfl hz1) hr11 ?_
              refine mW.sn 1 (g' := (98, [some (.ref 78), some (.int y1), some (.int y2), some (.int l3), some (.int l4), some (.int l5), some (.int l6), some (.int 1)], [.int 3, .int b11], (h, q))) rfl ?_
              refine mW.br (g1 := (101, [some (.ref 78), some (.int y1), some (.int y2), some (.int l3), some (.int l4), some (.int l5), some (.int l6), some (.int 1)], [], (h, q))) (g2 := (137, [some (.ref 78), some (.int y1), some (.int y2), some (.int l3), some (.int l4), some (.int l5), some (.int l6), some (.int 1)], [], (h, q))) (c := b11 = (3 : Int32)) rfl (fun hc14 => ?_) (fun hc14 => ?_)
              · rw [if_pos hc14] at hv
                refine mW.sn 1 (g' := (102, [some (.ref 78), some (.int y1), some (.int y2), some (.int l3), some (.int l4), some (.int l5), some (.int l6), some (.int 1)], [.ref 78], (h, q))) rfl ?_
                refine sW.getN rfl hs o78 rfl rfl hz1 ?_
                refine mW.sn 1 (g' := (107, [some (.ref 78), some (.int y1), some (.int y2), some (.int l3), some (.int l4), some (.int l5), some (.int l6), some (.int 1)], [.int l6, .ref ((rd S 78 19).toNatClampNeg)], (h, q))) rfl ?_
                cases hr15 : r_number (S ((rd S 78 19).toNatClampNeg)) l6 with
                | none => rw [hr15] at hv; cases hv
                | some r15 =>
                  rw [hr15, o_bind] at hv
                  refine sW.call rfl rfl rfl rfl rfl (sW.of hs (x208 (hs.ar (hs.okA o78 rfl hz1)) hr15)) ?_
                  intro h16 hs16
                  refine mW.sn 2 (g' := (112, [some (.ref 78), some (.int y1), some (.int y2), some (.int l3), some (.int l4), some (.int l5), some (.int l6), some (.int 1)], [.int (lg_cmp r15 0)], (h16, q))) rfl ?_
                  refine mW.br (g1 := (131, [some (.ref 78), some (.int y1), some (.int y2), some (.int l3), some (.int l4), some (.int l5), some (.int l6), some (.int 1)], [], (h16, q))) (g2 := (115, [some (.ref 78), some (.int y1), some (.int y2), some (.int l3), some (.int l4), some (.int l5), some (.int l6), some (.int 1)], [], (h16, q))) (c := (lg_cmp r15 0) < 0) rfl (fun hc17 => ?_) (fun hc17 => ?_)
                  · rw [if_pos hc17] at hv
                    refine mW.sn 2 (g' := (133, [some (.ref 78), some (.int y1), some (.int y2), some (.int l3), some (.int l4), some (.int l5), some (.int l6), some (.int 1)], [.int 2, .ref 78], (h16, q))) rfl ?_
                    cases hr18 : b_refuse S 2 with
                    | none => rw [hr18] at hv; cases hv
                    | some r18 =>
                      rw [hr18, o_bind] at hv
                      refine sW.call rfl rfl rfl rfl (hs16.rcv o78) (s227 hs16 hr18) ?_
                      intro h19 hs19
                      cases hv
                      exact sW.fin hs19 rfl
                  · rw [if_neg hc17] at hv
                    refine mW.sn 1 (g' := (116, [some (.ref 78), some (.int y1), some (.int y2), some (.int l3), some (.int l4), some (.int l5), some (.int l6), some (.int 1)], [.ref 78], (h16, q))) rfl ?_
                    refine sW.getN rfl hs16 o78 rfl rfl hz1 ?_
                    refine mW.sn 1 (g' := (121, [some (.ref 78), some (.int y1), some (.int y2), some (.int l3), some (.int l4), some (.int l5), some (.int l6), some (.int 1)], [.int l6, .ref ((rd S 78 19).toNatClampNeg)], (h16, q))) rfl ?_
                    refine sW.call rfl rfl rfl rfl rfl (sW.of hs16 (x208 (hs16.ar (hs16.okA o78 rfl hz1)) hr15)) ?_
                    intro h20 hs20
                    refine mW.sn 2 (g' := (128, [some (.ref 78), some (.int y1), some (.int y2), some (.int l3), some (.int l4), some (.int l5), some (.int l6), some (.int 1)], [.int (lg_cmp r15 1000)], (h20, q))) rfl ?_
                    refine mW.br (g1 := (137, [some (.ref 78), some (.int y1), some (.int y2), some (.int l3), some (.int l4), some (.int l5), some (.int l6), some (.int 1)], [], (h20, q))) (g2 := (131, [some (.ref 78), some (.int y1), some (.int y2), some (.int l3), some (.int l4), some (.int l5), some (.int l6), some (.int 1)], [], (h20, q))) (c := (lg_cmp r15 1000) ≤ 0) rfl (fun hc21 => ?_) (fun hc21 => ?_)
                    · rw [if_pos hc21] at hv
                      exact b_rest_l137_ok ih _ _ _ _ _ _ _ _ _ _  hs20 hv
                    · rw [if_neg hc21] at hv
                      refine mW.sn 2 (g' := (133, [some (.ref 78), some (.int y1), some (.int y2), some (.int l3), some (.int l4), some (.int l5), some (.int l6), some (.int 1)], [.int 2, .ref 78], (h20, q))) rfl ?_
                      cases hr43 : b_refuse S 2 with
                      | none => rw [hr43] at hv; cases hv
                      | some r43 =>
                        rw [hr43, o_bind] at hv
                        refine sW.call rfl rfl rfl rfl (hs20.rcv o78) (s227 hs20 hr43) ?_
                        intro h44 hs44
                        cases hv
                        exact sW.fin hs44 rfl
              · rw [if_neg hc14] at hv
                exact b_rest_l137_ok ih _ _ _ _ _ _ _ _ _ _  hs hv
            · rw [if_neg hc13] at hv
              exact b_rest_l84_ok ih _ _ _ _ _ _ _ _ _ _  hs hv
          · rw [if_neg hc12] at hv
            refine mW.sn 1 (g' := (34, [some (.ref 78), some (.int y1), some (.int y2), some (.int l3), some (.int l4), some (.int l5), some (.int l6), x7], [.ref 78], (h, q))) rfl ?_
            refine sW.getN rfl hs o78 rfl rfl hz1 ?_
            refine mW.sn 1 (g' := (39, [some (.ref 78), some (.int y1), some (.int y2), some (.int l3), some (.int l4), some (.int l5), some (.int l6), x7], [.int l6, .ref ((rd S 78 19).toNatClampNeg)], (h, q))) rfl ?_
            refine sW.iald rfl hs (hs.okA o78 rfl hz1) hr11 ?_
            refine mW.sn 1 (g' := (41, [some (.ref 78), some (.int y1), some (.int y2), some (.int l3), some (.int l4), some (.int l5), some (.int l6), x7], [.int 3, .int b11], (h, q))) rfl ?_
            refine mW.br (g1 := (68, [some (.ref 78), some (.int y1), some (.int y2), some (.int l3), some (.int l4), some (.int l5), some (.int l6), x7], [], (h, q))) (g2 := (44, [some (.ref 78), some (.int y1), some (.int y2), some (.int l3), some (.int l4), some (.int l5), some (.int l6), x7], [], (h, q))) (c := b11 = (3 : Int32)) rfl (fun hc47 => ?_) (fun hc47 => ?_)
            · rw [if_pos hc47] at hv
              refine mW.sn 4 (g' := (77, [some (.ref 78), some (.int y1), some (.int y2), some (.int l3), some (.int l4), some (.int l5), some (.int l6), some (.int 1)], [.int 1], (h, q))) rfl ?_
              refine mW.no (g1 := (84, [some (.ref 78), some (.int y1), some (.int y2), some (.int l3), some (.int l4), some (.int l5), some (.int l6), some (.int 1)], [], (h, q))) (g2 := (80, [some (.ref 78), some (.int y1), some (.int y2), some (.int l3), some (.int l4), some (.int l5), some (.int l6), some (.int 1)], [], (h, q))) (c := (1 : Int32) = 0) rfl (by decide) ?_
              refine mW.sn 1 (g' := (81, [some (.ref 78), some (.int y1), some (.int y2), some (.int l3), some (.int l4), some (.int l5), some (.int l6), some (.int 1)], [.int l3], (h, q))) rfl ?_
              refine mW.br (g1 := (90, [some (.ref 78), some (.int y1), some (.int y2), some (.int l3), some (.int l4), some (.int l5), some (.int l6), some (.int 1)], [], (h, q))) (g2 := (84, [some (.ref 78), some (.int y1), some (.int y2), some (.int l3), some (.int l4), some (.int l5), some (.int l6), some (.int 1)], [], (h, q))) (c := l3 = 0) rfl (fun hc48 => ?_) (fun hc48 => ?_)
              · rw [if_pos hc48] at hv
                refine mW.sn 1 (g' := (91, [some (.ref 78), some (.int y1), some (.int y2), some (.int l3), some (.int l4), some (.int l5), some (.int l6), some (.int 1)], [.ref 78], (h, q))) rfl ?_
                refine sW.getN rfl hs o78 rfl rfl hz1 ?_
                refine mW.sn 1 (g' := (96, [some (.ref 78), some (.int y1), some (.int y2), some (.int l3), some (.int l4), some (.int l5), some (.int l6), some (.int 1)], [.int l6, .ref ((rd S 78 19).toNatClampNeg)], (h, q))) rfl ?_
                refine sW.iald rfl hs (hs.okA o78 rfl hz1) hr11 ?_
                refine mW.sn 1 (g' := (98, [some (.ref 78), some (.int y1), some (.int y2), some (.int l3), some (.int l4), some (.int l5), some (.int l6), some (.int 1)], [.int 3, .int b11], (h, q))) rfl ?_
                refine mW.yes (g1 := (101, [some (.ref 78), some (.int y1), some (.int y2), some (.int l3), some (.int l4), some (.int l5), some (.int l6), some (.int 1)], [], (h, q))) (g2 := (137, [some (.ref 78), some (.int y1), some (.int y2), some (.int l3), some (.int l4), some (.int l5), some (.int l6), some (.int 1)], [], (h, q))) (c := b11 = (3 : Int32)) rfl hc47 ?_
                refine mW.sn 1 (g' := (102, [some (.ref 78), some (.int y1), some (.int y2), some (.int l3), some (.int l4), some (.int l5), some (.int l6), some (.int 1)], [.ref 78], (h, q))) rfl ?_
                refine sW.getN rfl hs o78 rfl rfl hz1 ?_
                refine mW.sn 1 (g' := (107, [some (.ref 78), some (.int y1), some (.int y2), some (.int l3), some (.int l4), some (.int l5), some (.int l6), some (.int 1)], [.int l6, .ref ((rd S 78 19).toNatClampNeg)], (h, q))) rfl ?_
                cases hr49 : r_number (S ((rd S 78 19).toNatClampNeg)) l6 with
                | none => rw [hr49] at hv; cases hv
                | some r49 =>
                  rw [hr49, o_bind] at hv
                  refine sW.call rfl rfl rfl rfl rfl (sW.of hs (x208 (hs.ar (hs.okA o78 rfl hz1)) hr49)) ?_
                  intro h50 hs50
                  refine mW.sn 2 (g' := (112, [some (.ref 78), some (.int y1), some (.int y2), some (.int l3), some (.int l4), some (.int l5), some (.int l6), some (.int 1)], [.int (lg_cmp r49 0)], (h50, q))) rfl ?_
                  refine mW.br (g1 := (131, [some (.ref 78), some (.int y1), some (.int y2), some (.int l3), some (.int l4), some (.int l5), some (.int l6), some (.int 1)], [], (h50, q))) (g2 := (115, [some (.ref 78), some (.int y1), some (.int y2), some (.int l3), some (.int l4), some (.int l5), some (.int l6), some (.int 1)], [], (h50, q))) (c := (lg_cmp r49 0) < 0) rfl (fun hc51 => ?_) (fun hc51 => ?_)
                  · rw [if_pos hc51] at hv
                    refine mW.sn 2 (g' := (133, [some (.ref 78), some (.int y1), some (.int y2), some (.int l3), some (.int l4), some (.int l5), some (.int l6), some (.int 1)], [.int 2, .ref 78], (h50, q))) rfl ?_
                    cases hr52 : b_refuse S 2 with
                    | none => rw [hr52] at hv; cases hv
                    | some r52 =>
                      rw [hr52, o_bind] at hv
                      refine sW.call rfl rfl rfl rfl (hs50.rcv o78) (s227 hs50 hr52) ?_
                      intro h53 hs53
                      cases hv
                      exact sW.fin hs53 rfl
                  · rw [if_neg hc51] at hv
                    refine mW.sn 1 (g' := (116, [some (.ref 78), some (.int y1), some (.int y2), some (.int l3), some (.int l4), some (.int l5), some (.int l6), some (.int 1)], [.ref 78], (h50, q))) rfl ?_
                    refine sW.getN rfl hs50 o78 rfl rfl hz1 ?_
                    refine mW.sn 1 (g' := (121, [some (.ref 78), some (.int y1), some (.int y2), some (.int l3), some (.int l4), some (.int l5), some (.int l6), some (.int 1)], [.int l6, .ref ((rd S 78 19).toNatClampNeg)], (h50, q))) rfl ?_
                    refine sW.call rfl rfl rfl rfl rfl (sW.of hs50 (x208 (hs50.ar (hs50.okA o78 rfl hz1)) hr49)) ?_
                    intro h54 hs54
                    refine mW.sn 2 (g' := (128, [some (.ref 78), some (.int y1), some (.int y2), some (.int l3), some (.int l4), some (.int l5), some (.int l6), some (.int 1)], [.int (lg_cmp r49 1000)], (h54, q))) rfl ?_
                    refine mW.br (g1 := (137, [some (.ref 78), some (.int y1), some (.int y2), some (.int l3), some (.int l4), some (.int l5), some (.int l6), some (.int 1)], [], (h54, q))) (g2 := (131, [some (.ref 78), some (.int y1), some (.int y2), some (.int l3), some (.int l4), some (.int l5), some (.int l6), some (.int 1)], [], (h54, q))) (c := (lg_cmp r49 1000) ≤ 0) rfl (fun hc55 => ?_) (fun hc55 => ?_)
                    · rw [if_pos hc55] at hv
                      exact b_rest_l137_ok ih _ _ _ _ _ _ _ _ _ _  hs54 hv
                    · rw [if_neg hc55] at hv
                      refine mW.sn 2 (g' := (133, [some (.ref 78), some (.int y1), some (.int y2), some (.int l3), some (.int l4), some (.int l5), some (.int l6), some (.int 1)], [.int 2, .ref 78], (h54, q))) rfl ?_
                      cases hr56 : b_refuse S 2 with
                      | none => rw [hr56] at hv; cases hv
                      | some r56 =>
                        rw [hr56, o_bind] at hv
                        refine sW.call rfl rfl rfl rfl (hs54.rcv o78) (s227 hs54 hr56) ?_
                        intro h57 hs57
                        cases hv
                        exact sW.fin hs57 rfl
              · rw [if_neg hc48] at hv
                exact b_rest_l84_ok ih _ _ _ _ _ _ _ _ _ _  hs hv
            · rw [if_neg hc47] at hv
              refine mW.sn 1 (g' := (45, [some (.ref 78), some (.int y1), some (.int y2), some (.int l3), some (.int l4), some (.int l5), some (.int l6), x7], [.ref 78], (h, q))) rfl ?_
              refine sW.getN rfl hs o78 rfl rfl hz1 ?_
              refine mW.sn 1 (g' := (50, [some (.ref 78), some (.int y1), some (.int y2), some (.int l3), some (.int l4), some (.int l5), some (.int l6), x7], [.int l6, .ref ((rd S 78 19).toNatClampNeg)], (h, q))) rfl ?_
              refine sW.iald rfl hs (hs.okA o78 rfl hz1) hr11 ?_
              refine mW.sn 1 (g' := (53, [some (.ref 78), some (.int y1), some (.int y2), some (.int l3), some (.int l4), some (.int l5), some (.int l6), x7], [.int 6, .int b11], (h, q))) rfl ?_
              refine mW.br (g1 := (56, [some (.ref 78), some (.int y1), some (.int y2), some (.int l3), some (.int l4), some (.int l5), some (.int l6), x7], [], (h, q))) (g2 := (72, [some (.ref 78), some (.int y1), some (.int y2), some (.int l3), some (.int l4), some (.int l5), some (.int l6), x7], [], (h, q))) (c := b11 = (6 : Int32)) rfl (fun hc58 => ?_) (fun hc58 => ?_)
              · rw [if_pos hc58] at hv
                refine mW.sn 1 (g' := (57, [some (.ref 78), some (.int y1), some (.int y2), some (.int l3), some (.int l4), some (.int l5), some (.int l6), x7], [.ref 78], (h, q))) rfl ?_
                refine sW.getN rfl hs o78 rfl rfl hz1 ?_
                refine mW.sn 1 (g' := (62, [some (.ref 78), some (.int y1), some (.int y2), some (.int l3), some (.int l4), some (.int l5), some (.int l6), x7], [.int l6, .ref ((rd S 78 19).toNatClampNeg)], (h, q))) rfl ?_
                cases hr59 : b_part S ((rd S 78 19).toNatClampNeg) l6 with
                | none => rw [hr59] at hv; cases hv
                | some r59 =>
                  rw [hr59, o_bind] at hv
                  refine sW.call rfl rfl rfl rfl rfl (s229 (hs.okA o78 rfl hz1) hs hr59) ?_
                  intro h60 hs60
                  refine mW.br (g1 := (72, [some (.ref 78), some (.int y1), some (.int y2), some (.int l3), some (.int l4), some (.int l5), some (.int l6), x7], [], (h60, q))) (g2 := (68, [some (.ref 78), some (.int y1), some (.int y2), some (.int l3), some (.int l4), some (.int l5), some (.int l6), x7], [], (h60, q))) (c := r59 = 0) rfl (fun hc61 => ?_) (fun hc61 => ?_)
                  · rw [if_pos hc61] at hv
                    refine mW.sn 3 (g' := (77, [some (.ref 78), some (.int y1), some (.int y2), some (.int l3), some (.int l4), some (.int l5), some (.int l6), some (.int 0)], [.int 0], (h60, q))) rfl ?_
                    refine mW.yes (g1 := (84, [some (.ref 78), some (.int y1), some (.int y2), some (.int l3), some (.int l4), some (.int l5), some (.int l6), some (.int 0)], [], (h60, q))) (g2 := (80, [some (.ref 78), some (.int y1), some (.int y2), some (.int l3), some (.int l4), some (.int l5), some (.int l6), some (.int 0)], [], (h60, q))) (c := (0 : Int32) = 0) rfl (by decide) ?_
                    exact b_rest_l84_ok ih _ _ _ _ _ _ _ _ _ _  hs60 hv
                  · rw [if_neg hc61] at hv
                    refine mW.sn 4 (g' := (77, [some (.ref 78), some (.int y1), some (.int y2), some (.int l3), some (.int l4), some (.int l5), some (.int l6), some (.int 1)], [.int 1], (h60, q))) rfl ?_
                    refine mW.no (g1 := (84, [some (.ref 78), some (.int y1), some (.int y2), some (.int l3), some (.int l4), some (.int l5), some (.int l6), some (.int 1)], [], (h60, q))) (g2 := (80, [some (.ref 78), some (.int y1), some (.int y2), some (.int l3), some (.int l4), some (.int l5), some (.int l6), some (.int 1)], [], (h60, q))) (c := (1 : Int32) = 0) rfl (by decide) ?_
                    refine mW.sn 1 (g' := (81, [some (.ref 78), some (.int y1), some (.int y2), some (.int l3), some (.int l4), some (.int l5), some (.int l6), some (.int 1)], [.int l3], (h60, q))) rfl ?_
                    refine mW.br (g1 := (90, [some (.ref 78), some (.int y1), some (.int y2), some (.int l3), some (.int l4), some (.int l5), some (.int l6), some (.int 1)], [], (h60, q))) (g2 := (84, [some (.ref 78), some (.int y1), some (.int y2), some (.int l3), some (.int l4), some (.int l5), some (.int l6), some (.int 1)], [], (h60, q))) (c := l3 = 0) rfl (fun hc62 => ?_) (fun hc62 => ?_)
                    · rw [if_pos hc62] at hv
                      refine mW.sn 1 (g' := (91, [some (.ref 78), some (.int y1), some (.int y2), some (.int l3), some (.int l4), some (.int l5), some (.int l6), some (.int 1)], [.ref 78], (h60, q))) rfl ?_
                      refine sW.getN rfl hs60 o78 rfl rfl hz1 ?_
                      refine mW.sn 1 (g' := (96, [some (.ref 78), some (.int y1), some (.int y2), some (.int l3), some (.int l4), some (.int l5), some (.int l6), some (.int 1)], [.int l6, .ref ((rd S 78 19).toNatClampNeg)], (h60, q))) rfl ?_
                      refine sW.iald rfl hs60 (hs60.okA o78 rfl hz1) hr11 ?_
                      refine mW.sn 1 (g' := (98, [some (.ref 78), some (.int y1), some (.int y2), some (.int l3), some (.int l4), some (.int l5), some (.int l6), some (.int 1)], [.int 3, .int b11], (h60, q))) rfl ?_
                      refine mW.no (g1 := (101, [some (.ref 78), some (.int y1), some (.int y2), some (.int l3), some (.int l4), some (.int l5), some (.int l6), some (.int 1)], [], (h60, q))) (g2 := (137, [some (.ref 78), some (.int y1), some (.int y2), some (.int l3), some (.int l4), some (.int l5), some (.int l6), some (.int 1)], [], (h60, q))) (c := b11 = (3 : Int32)) rfl hc47 ?_
                      exact b_rest_l137_ok ih _ _ _ _ _ _ _ _ _ _  hs60 hv
                    · rw [if_neg hc62] at hv
                      exact b_rest_l84_ok ih _ _ _ _ _ _ _ _ _ _  hs60 hv
              · rw [if_neg hc58] at hv
                refine mW.sn 3 (g' := (77, [some (.ref 78), some (.int y1), some (.int y2), some (.int l3), some (.int l4), some (.int l5), some (.int l6), some (.int 0)], [.int 0], (h, q))) rfl ?_
                refine mW.yes (g1 := (84, [some (.ref 78), some (.int y1), some (.int y2), some (.int l3), some (.int l4), some (.int l5), some (.int l6), some (.int 0)], [], (h, q))) (g2 := (80, [some (.ref 78), some (.int y1), some (.int y2), some (.int l3), some (.int l4), some (.int l5), some (.int l6), some (.int 0)], [], (h, q))) (c := (0 : Int32) = 0) rfl (by decide) ?_
                exact b_rest_l84_ok ih _ _ _ _ _ _ _ _ _ _  hs hv
def b_rest (S : SS) (p0 : Int32) (p1 : Int32) : Option (SS) := b_rest_l11 10000 S p0 0 0 p1
theorem s241 {S : SS} {p0 : Int32} {p1 : Int32} {v : SS} (hs : cs h S) (hv : b_rest S p0 p1 = some v) : mW (d + 4) mm241 (0, [some (.ref 78), some (.int p0), some (.int p1), none, none, none, none, none], [], (h, q)) (mQ q v none) := by
  unfold b_rest at hv
  refine mW.sn 8 (g' := (11, [some (.ref 78), some (.int p0), some (.int p1), some (.int p0), some (.int 0), some (.int 0), some (.int p1), none], [], (h, q))) rfl ?_
  exact b_rest_l11_ok _ _ _ _ _ _ _ _ _ _ _  hs hv
def b_last (S : SS) (aa : Nat) (p0 : Int32) (p1 : Int32) (p2 : Int32) : Option (SS) := (if p2 = 0 then (if rd S 78 20 = 0 then none else ((q_copy S ((rd S 78 20).toNatClampNeg) 0).bind fun r3 => some r3)) else (if rd S 78 20 = 0 then none else ((iget (S ((rd S 78 20).toNatClampNeg)) 0).bind fun b6 => (if b6 = (5 : Int32) then (if p1 = 0 then ((q_copy S ((rd S 78 20).toNatClampNeg) 0).bind fun r9 => some r9) else ((q_open S 5).bind fun r11 => ((b_cells r11.1 aa (p0 + 2) (rd r11.1 78 17)).bind fun r13 => (if rd r13 78 20 = 0 then none else ((iget (r13 ((rd r13 78 20).toNatClampNeg)) 1).bind fun b16 => ((b_cells r13 ((rd r13 78 20).toNatClampNeg) 2 b16).bind fun r17 => ((r_next (r17 aa) p0).bind fun r19 => ((b_cells r17 aa (rd r17 78 18) r19).bind fun r21 => ((q_close r21 r11.2).bind fun r23 => some r23))))))))) else ((b_refuse S 1).bind fun r25 => some r25)))))
theorem s242 {S : SS} {aa : Nat} (haa : aa ∈ shA) {p0 : Int32} {p1 : Int32} {p2 : Int32} {v : SS} (hs : cs h S) (hv : b_last S aa p0 p1 p2 = some v) : mW (d + 2) mm242 (0, [some (.ref 78), some (.ref aa), some (.int p0), some (.int p1), some (.int p2), none], [], (h, q)) (mQ q v none) := by
  unfold b_last at hv
  refine mW.sn 1 (g' := (2, [some (.ref 78), some (.ref aa), some (.int p0), some (.int p1), some (.int p2), none], [.int p2], (h, q))) rfl ?_
  refine mW.br (g1 := (23, [some (.ref 78), some (.ref aa), some (.int p0), some (.int p1), some (.int p2), none], [], (h, q))) (g2 := (5, [some (.ref 78), some (.ref aa), some (.int p0), some (.int p1), some (.int p2), none], [], (h, q))) (c := p2 = 0) rfl (fun hc1 => ?_) (fun hc1 => ?_)
  · rw [if_pos hc1] at hv
    refine mW.sn 1 (g' := (25, [some (.ref 78), some (.ref aa), some (.int p0), some (.int p1), some (.int p2), none], [.int p2], (h, q))) rfl ?_
    refine mW.yes (g1 := (32, [some (.ref 78), some (.ref aa), some (.int p0), some (.int p1), some (.int p2), none], [], (h, q))) (g2 := (28, [some (.ref 78), some (.ref aa), some (.int p0), some (.int p1), some (.int p2), none], [], (h, q))) (c := p2 = 0) rfl hc1 ?_
    refine mW.sn 1 (g' := (33, [some (.ref 78), some (.ref aa), some (.int p0), some (.int p1), some (.int p2), none], [.ref 78], (h, q))) rfl ?_
    refine sW.getR rfl hs o78 rfl rfl ?_
    refine mW.sn 1 (g' := (37, [some (.ref 78), some (.ref aa), some (.int p0), some (.int p1), some (.int p2), none], [.ref 78, .ref 90], (h, q))) rfl ?_
    by_cases hz2 : rd S 78 20 = 0
    · rw [if_pos hz2] at hv; cases hv
    rw [if_neg hz2] at hv
    refine sW.getN rfl hs o78 rfl rfl hz2 ?_
    refine mW.sn 1 (g' := (41, [some (.ref 78), some (.ref aa), some (.int p0), some (.int p1), some (.int p2), none], [.int 0, .ref ((rd S 78 20).toNatClampNeg), .ref 90], (h, q))) rfl ?_
    cases hr3 : q_copy S ((rd S 78 20).toNatClampNeg) 0 with
    | none => rw [hr3] at hv; cases hv
    | some r3 =>
      rw [hr3, o_bind] at hv
      refine sW.call rfl rfl rfl rfl (hs.rcv o90) (s243 (hs.okA o78 rfl hz2) hs hr3) ?_
      intro h4 hs4
      refine mW.sn 1 (g' := (107, [some (.ref 78), some (.ref aa), some (.int p0), some (.int p1), some (.int p2), none], [], (h4, q))) rfl ?_
      cases hv
      exact sW.fin hs4 rfl
  · rw [if_neg hc1] at hv
    refine mW.sn 1 (g' := (6, [some (.ref 78), some (.ref aa), some (.int p0), some (.int p1), some (.int p2), none], [.ref 78], (h, q))) rfl ?_
    by_cases hz5 : rd S 78 20 = 0
    · rw [if_pos hz5] at hv; cases hv
    rw [if_neg hz5] at hv
    refine sW.getN rfl hs o78 rfl rfl hz5 ?_
    refine mW.sn 1 (g' := (10, [some (.ref 78), some (.ref aa), some (.int p0), some (.int p1), some (.int p2), none], [.int 0, .ref ((rd S 78 20).toNatClampNeg)], (h, q))) rfl ?_
    cases hr6 : iget (S ((rd S 78 20).toNatClampNeg)) 0 with
    | none => rw [hr6] at hv; cases hv
    | some b6 =>
      rw [hr6, o_bind] at hv
      refine sW.iald rfl hs (hs.okA o78 rfl hz5) hr6 ?_
      refine mW.sn 1 (g' := (12, [some (.ref 78), some (.ref aa), some (.int p0), some (.int p1), some (.int p2), none], [.int 5, .int b6], (h, q))) rfl ?_
      refine mW.br (g1 := (23, [some (.ref 78), some (.ref aa), some (.int p0), some (.int p1), some (.int p2), none], [], (h, q))) (g2 := (15, [some (.ref 78), some (.ref aa), some (.int p0), some (.int p1), some (.int p2), none], [], (h, q))) (c := b6 = (5 : Int32)) rfl (fun hc7 => ?_) (fun hc7 => ?_)
      · rw [if_pos hc7] at hv
        refine mW.sn 1 (g' := (25, [some (.ref 78), some (.ref aa), some (.int p0), some (.int p1), some (.int p2), none], [.int p2], (h, q))) rfl ?_
        refine mW.no (g1 := (32, [some (.ref 78), some (.ref aa), some (.int p0), some (.int p1), some (.int p2), none], [], (h, q))) (g2 := (28, [some (.ref 78), some (.ref aa), some (.int p0), some (.int p1), some (.int p2), none], [], (h, q))) (c := p2 = 0) rfl hc1 ?_
        refine mW.sn 1 (g' := (29, [some (.ref 78), some (.ref aa), some (.int p0), some (.int p1), some (.int p2), none], [.int p1], (h, q))) rfl ?_
        refine mW.br (g1 := (32, [some (.ref 78), some (.ref aa), some (.int p0), some (.int p1), some (.int p2), none], [], (h, q))) (g2 := (47, [some (.ref 78), some (.ref aa), some (.int p0), some (.int p1), some (.int p2), none], [], (h, q))) (c := p1 = 0) rfl (fun hc8 => ?_) (fun hc8 => ?_)
        · rw [if_pos hc8] at hv
          refine mW.sn 1 (g' := (33, [some (.ref 78), some (.ref aa), some (.int p0), some (.int p1), some (.int p2), none], [.ref 78], (h, q))) rfl ?_
          refine sW.getR rfl hs o78 rfl rfl ?_
          refine mW.sn 1 (g' := (37, [some (.ref 78), some (.ref aa), some (.int p0), some (.int p1), some (.int p2), none], [.ref 78, .ref 90], (h, q))) rfl ?_
          refine sW.getN rfl hs o78 rfl rfl hz5 ?_
          refine mW.sn 1 (g' := (41, [some (.ref 78), some (.ref aa), some (.int p0), some (.int p1), some (.int p2), none], [.int 0, .ref ((rd S 78 20).toNatClampNeg), .ref 90], (h, q))) rfl ?_
          cases hr9 : q_copy S ((rd S 78 20).toNatClampNeg) 0 with
          | none => rw [hr9] at hv; cases hv
          | some r9 =>
            rw [hr9, o_bind] at hv
            refine sW.call rfl rfl rfl rfl (hs.rcv o90) (s243 (hs.okA o78 rfl hz5) hs hr9) ?_
            intro h10 hs10
            refine mW.sn 1 (g' := (107, [some (.ref 78), some (.ref aa), some (.int p0), some (.int p1), some (.int p2), none], [], (h10, q))) rfl ?_
            cases hv
            exact sW.fin hs10 rfl
        · rw [if_neg hc8] at hv
          refine mW.sn 1 (g' := (48, [some (.ref 78), some (.ref aa), some (.int p0), some (.int p1), some (.int p2), none], [.ref 78], (h, q))) rfl ?_
          refine sW.getR rfl hs o78 rfl rfl ?_
          refine mW.sn 1 (g' := (52, [some (.ref 78), some (.ref aa), some (.int p0), some (.int p1), some (.int p2), none], [.int 5, .ref 90], (h, q))) rfl ?_
          cases hr11 : q_open S 5 with
          | none => rw [hr11] at hv; cases hv
          | some r11 =>
            rw [hr11, o_bind] at hv
            refine sW.call rfl rfl rfl rfl (hs.rcv o90) (s174 hs hr11) ?_
            intro h12 hs12
            refine mW.sn 7 (g' := (63, [some (.ref 78), some (.ref aa), some (.int p0), some (.int p1), some (.int p2), some (.int r11.2)], [.ref 78, .int (p0 + 2), .ref aa, .ref 78], (h12, q))) rfl ?_
            refine sW.getI rfl hs12 o78 rfl rfl ?_
            cases hr13 : b_cells r11.1 aa (p0 + 2) (rd r11.1 78 17) with
            | none => rw [hr13] at hv; cases hv
            | some r13 =>
              rw [hr13, o_bind] at hv
              refine sW.call rfl rfl rfl rfl (hs12.rcv o78) (s236 haa hs12 hr13) ?_
              intro h14 hs14
              refine mW.sn 2 (g' := (71, [some (.ref 78), some (.ref aa), some (.int p0), some (.int p1), some (.int p2), some (.int r11.2)], [.ref 78, .ref 78], (h14, q))) rfl ?_
              by_cases hz15 : rd r13 78 20 = 0
              · rw [if_pos hz15] at hv; cases hv
              rw [if_neg hz15] at hv
              refine sW.getN rfl hs14 o78 rfl rfl hz15 ?_
              refine mW.sn 2 (g' := (76, [some (.ref 78), some (.ref aa), some (.int p0), some (.int p1), some (.int p2), some (.int r11.2)], [.ref 78, .int 2, .ref ((rd r13 78 20).toNatClampNeg), .ref 78], (h14, q))) rfl ?_
              refine sW.getN rfl hs14 o78 rfl rfl hz15 ?_
              refine mW.sn 1 (g' := (80, [some (.ref 78), some (.ref aa), some (.int p0), some (.int p1), some (.int p2), some (.int r11.2)], [.int 1, .ref ((rd r13 78 20).toNatClampNeg), .int 2, .ref ((rd r13 78 20).toNatClampNeg), .ref 78], (h14, q))) rfl ?_
              cases hr16 : iget (r13 ((rd r13 78 20).toNatClampNeg)) 1 with
              | none => rw [hr16] at hv; cases hv
              | some b16 =>
                rw [hr16, o_bind] at hv
                refine sW.iald rfl hs14 (hs14.okA o78 rfl hz15) hr16 ?_
                cases hr17 : b_cells r13 ((rd r13 78 20).toNatClampNeg) 2 b16 with
                | none => rw [hr17] at hv; cases hv
                | some r17 =>
                  rw [hr17, o_bind] at hv
                  refine sW.call rfl rfl rfl rfl (hs14.rcv o78) (s236 (hs14.okA o78 rfl hz15) hs14 hr17) ?_
                  intro h18 hs18
                  refine mW.sn 3 (g' := (87, [some (.ref 78), some (.ref aa), some (.int p0), some (.int p1), some (.int p2), some (.int r11.2)], [.ref 78, .ref aa, .ref 78], (h18, q))) rfl ?_
                  refine sW.getI rfl hs18 o78 rfl rfl ?_
                  refine mW.sn 2 (g' := (92, [some (.ref 78), some (.ref aa), some (.int p0), some (.int p1), some (.int p2), some (.int r11.2)], [.int p0, .ref aa, .int (rd r17 78 18), .ref aa, .ref 78], (h18, q))) rfl ?_
                  cases hr19 : r_next (r17 aa) p0 with
                  | none => rw [hr19] at hv; cases hv
                  | some r19 =>
                    rw [hr19, o_bind] at hv
                    refine sW.call rfl rfl rfl rfl rfl (sW.of hs18 (x199 (hs18.ar haa) hr19)) ?_
                    intro h20 hs20
                    cases hr21 : b_cells r17 aa (rd r17 78 18) r19 with
                    | none => rw [hr21] at hv; cases hv
                    | some r21 =>
                      rw [hr21, o_bind] at hv
                      refine sW.call rfl rfl rfl rfl (hs20.rcv o78) (s236 haa hs20 hr21) ?_
                      intro h22 hs22
                      refine mW.sn 1 (g' := (99, [some (.ref 78), some (.ref aa), some (.int p0), some (.int p1), some (.int p2), some (.int r11.2)], [.ref 78], (h22, q))) rfl ?_
                      refine sW.getR rfl hs22 o78 rfl rfl ?_
                      refine mW.sn 1 (g' := (104, [some (.ref 78), some (.ref aa), some (.int p0), some (.int p1), some (.int p2), some (.int r11.2)], [.int r11.2, .ref 90], (h22, q))) rfl ?_
                      cases hr23 : q_close r21 r11.2 with
                      | none => rw [hr23] at hv; cases hv
                      | some r23 =>
                        rw [hr23, o_bind] at hv
                        refine sW.call rfl rfl rfl rfl (hs22.rcv o90) (s176 hs22 hr23) ?_
                        intro h24 hs24
                        cases hv
                        exact sW.fin hs24 rfl
      · rw [if_neg hc7] at hv
        refine mW.sn 2 (g' := (17, [some (.ref 78), some (.ref aa), some (.int p0), some (.int p1), some (.int p2), none], [.int 1, .ref 78], (h, q))) rfl ?_
        cases hr25 : b_refuse S 1 with
        | none => rw [hr25] at hv; cases hv
        | some r25 =>
          rw [hr25, o_bind] at hv
          refine sW.call rfl rfl rfl rfl (hs.rcv o78) (s227 hs hr25) ?_
          intro h26 hs26
          refine mW.sn 1 (g' := (107, [some (.ref 78), some (.ref aa), some (.int p0), some (.int p1), some (.int p2), none], [], (h26, q))) rfl ?_
          cases hv
          exact sW.fin hs26 rfl
def b_putName_l19 (aa : Nat) (rec : SS → Nat → Int32 → Int32 → Int32 → Option (SS)) : Nat → SS → Int32 → Int32 → Int32 → Int32 → Int32 → Int32 → Int32 → Option (SS)
  | 0, _, _, _, _, _, _, _, _ => none
  | n + 1, S, l2, l3, l4, l5, l6, l7, l8 => (if l3 = (6 : Int32) then ((r_next (S aa) l2).bind fun r4 => (if r4 ≤ l8 then (if l7 = 0 then (if rd S 78 19 = 0 then none else ((q_copy S ((rd S 78 19).toNatClampNeg) l4).bind fun r9 => (if rd r9 78 19 = 0 then none else ((r_next (r9 ((rd r9 78 19).toNatClampNeg)) l4).bind fun r12 => ((rec r9 aa (-1) r12 (l5 + 1)).bind fun r14 => ((q_close r14 l6).bind fun r16 => some r16)))))) else ((q_close S l6).bind fun r18 => some r18)) else ((q_copy S aa l8).bind fun r20 => (if rd r20 78 19 = 0 then none else ((r_strings (r20 aa) (r20 ((rd r20 78 19).toNatClampNeg)) l8 l4).bind fun r23 => (if r23 = 0 then ((r_next (r20 aa) l8).bind fun r26 => ((r_next (r20 ((rd r20 78 19).toNatClampNeg)) l4).bind fun r28 => ((rec r20 aa r26 r28 (l5 + 1)).bind fun r30 => ((r_next (r30 aa) l8).bind fun r32 => ((r_next (r30 aa) r32).bind fun r34 => b_putName_l19 aa rec n r30 l2 l3 l4 l5 l6 1 r34))))) else ((r_next (r20 aa) l8).bind fun r36 => ((q_copy r20 aa r36).bind fun r38 => ((r_next (r38 aa) l8).bind fun r40 => ((r_next (r38 aa) r40).bind fun r42 => b_putName_l19 aa rec n r38 l2 l3 l4 l5 l6 l7 r42)))))))))) else (if l7 = 0 then (if rd S 78 19 = 0 then none else ((q_copy S ((rd S 78 19).toNatClampNeg) l4).bind fun r46 => (if rd r46 78 19 = 0 then none else ((r_next (r46 ((rd r46 78 19).toNatClampNeg)) l4).bind fun r49 => ((rec r46 aa (-1) r49 (l5 + 1)).bind fun r51 => ((q_close r51 l6).bind fun r53 => some r53)))))) else ((q_close S l6).bind fun r55 => some r55)))
theorem b_putName_l19_ok {aa : Nat} (haa : aa ∈ shA) {rec : SS → Nat → Int32 → Int32 → Int32 → Option (SS)} (hrec : ∀ (e : Nat), d ≤ e → ∀ (h : mH) (S : SS) (aa : Nat) (p0 : Int32) (p1 : Int32) (p2 : Int32) (v : SS), aa ∈ shA → cs h S → rec S aa p0 p1 p2 = some v → mW e mm240 (0, [some (.ref 78), some (.ref aa), some (.int p0), some (.int p1), some (.int p2), none, none, none], [], (h, q)) (mQ q v none)) : ∀ (n : Nat), ∀ (h : mH) (S : SS) (l2 : Int32) (l3 : Int32) (l4 : Int32) (l5 : Int32) (l6 : Int32) (l7 : Int32) (l8 : Int32) (v : SS), cs h S → b_putName_l19 aa rec n S l2 l3 l4 l5 l6 l7 l8 = some v → mW (d + 2) mm244 (19, [some (.ref 78), some (.ref aa), some (.int l2), some (.int l3), some (.int l4), some (.int l5), some (.int l6), some (.int l7), some (.int l8)], [], (h, q)) (mQ q v none) := by
  intro n
  induction n with
  | zero => intro h S l2 l3 l4 l5 l6 l7 l8 v hs hv; cases hv
  | succ n ih =>
    intro h S l2 l3 l4 l5 l6 l7 l8 v hs hv
    unfold b_putName_l19 at hv
    refine mW.sn 2 (g' := (22, [some (.ref 78), some (.ref aa), some (.int l2), some (.int l3), some (.int l4), some (.int l5), some (.int l6), some (.int l7), some (.int l8)], [.int 6, .int l3], (h, q))) rfl ?_
    refine mW.br (g1 := (25, [some (.ref 78), some (.ref aa), some (.int l2), some (.int l3), some (.int l4), some (.int l5), some (.int l6), some (.int l7), some (.int l8)], [], (h, q))) (g2 := (119, [some (.ref 78), some (.ref aa), some (.int l2), some (.int l3), some (.int l4), some (.int l5), some (.int l6), some (.int l7), some (.int l8)], [], (h, q))) (c := l3 = (6 : Int32)) rfl (fun hc3 => ?_) (fun hc3 => ?_)
    · rw [if_pos hc3] at hv
      refine mW.sn 3 (g' := (29, [some (.ref 78), some (.ref aa), some (.int l2), some (.int l3), some (.int l4), some (.int l5), some (.int l6), some (.int l7), some (.int l8)], [.int l2, .ref aa, .int l8], (h, q))) rfl ?_
      cases hr4 : r_next (S aa) l2 with
      | none => rw [hr4] at hv; cases hv
      | some r4 =>
        rw [hr4, o_bind] at hv
        refine sW.call rfl rfl rfl rfl rfl (sW.of hs (x199 (hs.ar haa) hr4)) ?_
        intro h5 hs5
        refine mW.br (g1 := (119, [some (.ref 78), some (.ref aa), some (.int l2), some (.int l3), some (.int l4), some (.int l5), some (.int l6), some (.int l7), some (.int l8)], [], (h5, q))) (g2 := (35, [some (.ref 78), some (.ref aa), some (.int l2), some (.int l3), some (.int l4), some (.int l5), some (.int l6), some (.int l7), some (.int l8)], [], (h5, q))) (c := r4 ≤ l8) rfl (fun hc6 => ?_) (fun hc6 => ?_)
        · rw [if_pos hc6] at hv
          refine mW.sn 1 (g' := (121, [some (.ref 78), some (.ref aa), some (.int l2), some (.int l3), some (.int l4), some (.int l5), some (.int l6), some (.int l7), some (.int l8)], [.int l7], (h5, q))) rfl ?_
          refine mW.br (g1 := (124, [some (.ref 78), some (.ref aa), some (.int l2), some (.int l3), some (.int l4), some (.int l5), some (.int l6), some (.int l7), some (.int l8)], [], (h5, q))) (g2 := (156, [some (.ref 78), some (.ref aa), some (.int l2), some (.int l3), some (.int l4), some (.int l5), some (.int l6), some (.int l7), some (.int l8)], [], (h5, q))) (c := l7 = 0) rfl (fun hc7 => ?_) (fun hc7 => ?_)
          · rw [if_pos hc7] at hv
            refine mW.sn 1 (g' := (125, [some (.ref 78), some (.ref aa), some (.int l2), some (.int l3), some (.int l4), some (.int l5), some (.int l6), some (.int l7), some (.int l8)], [.ref 78], (h5, q))) rfl ?_
            refine sW.getR rfl hs5 o78 rfl rfl ?_
            refine mW.sn 1 (g' := (129, [some (.ref 78), some (.ref aa), some (.int l2), some (.int l3), some (.int l4), some (.int l5), some (.int l6), some (.int l7), some (.int l8)], [.ref 78, .ref 90], (h5, q))) rfl ?_
            by_cases hz8 : rd S 78 19 = 0
            · rw [if_pos hz8] at hv; cases hv
            rw [if_neg hz8] at hv
            refine sW.getN rfl hs5 o78 rfl rfl hz8 ?_
            refine mW.sn 1 (g' := (134, [some (.ref 78), some (.ref aa), some (.int l2), some (.int l3), some (.int l4), some (.int l5), some (.int l6), some (.int l7), some (.int l8)], [.int l4, .ref ((rd S 78 19).toNatClampNeg), .ref 90], (h5, q))) rfl ?_
            cases hr9 : q_copy S ((rd S 78 19).toNatClampNeg) l4 with
            | none => rw [hr9] at hv; cases hv
            | some r9 =>
              rw [hr9, o_bind] at hv
              refine sW.call rfl rfl rfl rfl (hs5.rcv o90) (s243 (hs5.okA o78 rfl hz8) hs5 hr9) ?_
              intro h10 hs10
              refine mW.sn 4 (g' := (141, [some (.ref 78), some (.ref aa), some (.int l2), some (.int l3), some (.int l4), some (.int l5), some (.int l6), some (.int l7), some (.int l8)], [.ref 78, .int (-1), .ref aa, .ref 78], (h10, q))) rfl ?_
              by_cases hz11 : rd r9 78 19 = 0
              · rw [if_pos hz11] at hv; cases hv
              rw [if_neg hz11] at hv
              refine sW.getN rfl hs10 o78 rfl rfl hz11 ?_
              refine mW.sn 1 (g' := (146, [some (.ref 78), some (.ref aa), some (.int l2), some (.int l3), some (.int l4), some (.int l5), some (.int l6), some (.int l7), some (.int l8)], [.int l4, .ref ((rd r9 78 19).toNatClampNeg), .int (-1), .ref aa, .ref 78], (h10, q))) rfl ?_
              cases hr12 : r_next (r9 ((rd r9 78 19).toNatClampNeg)) l4 with
              | none => rw [hr12] at hv; cases hv
              | some r12 =>
                rw [hr12, o_bind] at hv
                refine sW.call rfl rfl rfl rfl rfl (sW.of hs10 (x199 (hs10.ar (hs10.okA o78 rfl hz11)) hr12)) ?_
                intro h13 hs13
                refine mW.sn 3 (g' := (153, [some (.ref 78), some (.ref aa), some (.int l2), some (.int l3), some (.int l4), some (.int l5), some (.int l6), some (.int l7), some (.int l8)], [.int (l5 + 1), .int r12, .int (-1), .ref aa, .ref 78], (h13, q))) rfl ?_
                cases hr14 : rec r9 aa (-1) r12 (l5 + 1) with
                | none => rw [hr14] at hv; cases hv
                | some r14 =>
                  rw [hr14, o_bind] at hv
                  refine sW.call rfl rfl rfl rfl (hs13.rcv o78) (hrec _ (by omega) _ _ _ _ _ _ _ haa hs13 hr14) ?_
                  intro h15 hs15
                  refine mW.sn 1 (g' := (157, [some (.ref 78), some (.ref aa), some (.int l2), some (.int l3), some (.int l4), some (.int l5), some (.int l6), some (.int l7), some (.int l8)], [.ref 78], (h15, q))) rfl ?_
                  refine sW.getR rfl hs15 o78 rfl rfl ?_
                  refine mW.sn 1 (g' := (162, [some (.ref 78), some (.ref aa), some (.int l2), some (.int l3), some (.int l4), some (.int l5), some (.int l6), some (.int l7), some (.int l8)], [.int l6, .ref 90], (h15, q))) rfl ?_
                  cases hr16 : q_close r14 l6 with
                  | none => rw [hr16] at hv; cases hv
                  | some r16 =>
                    rw [hr16, o_bind] at hv
                    refine sW.call rfl rfl rfl rfl (hs15.rcv o90) (s176 hs15 hr16) ?_
                    intro h17 hs17
                    cases hv
                    exact sW.fin hs17 rfl
          · rw [if_neg hc7] at hv
            refine mW.sn 1 (g' := (157, [some (.ref 78), some (.ref aa), some (.int l2), some (.int l3), some (.int l4), some (.int l5), some (.int l6), some (.int l7), some (.int l8)], [.ref 78], (h5, q))) rfl ?_
            refine sW.getR rfl hs5 o78 rfl rfl ?_
            refine mW.sn 1 (g' := (162, [some (.ref 78), some (.ref aa), some (.int l2), some (.int l3), some (.int l4), some (.int l5), some (.int l6), some (.int l7), some (.int l8)], [.int l6, .ref 90], (h5, q))) rfl ?_
            cases hr18 : q_close S l6 with
            | none => rw [hr18] at hv; cases hv
            | some r18 =>
              rw [hr18, o_bind] at hv
              refine sW.call rfl rfl rfl rfl (hs5.rcv o90) (s176 hs5 hr18) ?_
              intro h19 hs19
              cases hv
              exact sW.fin hs19 rfl
        · rw [if_neg hc6] at hv
          refine mW.sn 1 (g' := (36, [some (.ref 78), some (.ref aa), some (.int l2), some (.int l3), some (.int l4), some (.int l5), some (.int l6), some (.int l7), some (.int l8)], [.ref 78], (h5, q))) rfl ?_
          refine sW.getR rfl hs5 o78 rfl rfl ?_
          refine mW.sn 2 (g' := (42, [some (.ref 78), some (.ref aa), some (.int l2), some (.int l3), some (.int l4), some (.int l5), some (.int l6), some (.int l7), some (.int l8)], [.int l8, .ref aa, .ref 90], (h5, q))) rfl ?_
          cases hr20 : q_copy S aa l8 with
          | none => rw [hr20] at hv; cases hv
          | some r20 =>
            rw [hr20, o_bind] at hv
            refine sW.call rfl rfl rfl rfl (hs5.rcv o90) (s243 haa hs5 hr20) ?_
            intro h21 hs21
            refine mW.sn 3 (g' := (49, [some (.ref 78), some (.ref aa), some (.int l2), some (.int l3), some (.int l4), some (.int l5), some (.int l6), some (.int l7), some (.int l8)], [.ref 78, .int l8, .ref aa], (h21, q))) rfl ?_
            by_cases hz22 : rd r20 78 19 = 0
            · rw [if_pos hz22] at hv; cases hv
            rw [if_neg hz22] at hv
            refine sW.getN rfl hs21 o78 rfl rfl hz22 ?_
            refine mW.sn 1 (g' := (54, [some (.ref 78), some (.ref aa), some (.int l2), some (.int l3), some (.int l4), some (.int l5), some (.int l6), some (.int l7), some (.int l8)], [.int l4, .ref ((rd r20 78 19).toNatClampNeg), .int l8, .ref aa], (h21, q))) rfl ?_
            cases hr23 : r_strings (r20 aa) (r20 ((rd r20 78 19).toNatClampNeg)) l8 l4 with
            | none => rw [hr23] at hv; cases hv
            | some r23 =>
              rw [hr23, o_bind] at hv
              refine sW.call rfl rfl rfl rfl rfl (sW.of hs21 (x198 (hs21.ar haa) (hs21.ar (hs21.okA o78 rfl hz22)) hr23)) ?_
              intro h24 hs24
              refine mW.br (g1 := (60, [some (.ref 78), some (.ref aa), some (.int l2), some (.int l3), some (.int l4), some (.int l5), some (.int l6), some (.int l7), some (.int l8)], [], (h24, q))) (g2 := (90, [some (.ref 78), some (.ref aa), some (.int l2), some (.int l3), some (.int l4), some (.int l5), some (.int l6), some (.int l7), some (.int l8)], [], (h24, q))) (c := r23 = 0) rfl (fun hc25 => ?_) (fun hc25 => ?_)
              · rw [if_pos hc25] at hv
                refine mW.sn 6 (g' := (68, [some (.ref 78), some (.ref aa), some (.int l2), some (.int l3), some (.int l4), some (.int l5), some (.int l6), some (.int 1), some (.int l8)], [.int l8, .ref aa, .ref aa, .ref 78], (h24, q))) rfl ?_
                cases hr26 : r_next (r20 aa) l8 with
                | none => rw [hr26] at hv; cases hv
                | some r26 =>
                  rw [hr26, o_bind] at hv
                  refine sW.call rfl rfl rfl rfl rfl (sW.of hs24 (x199 (hs24.ar haa) hr26)) ?_
                  intro h27 hs27
                  refine mW.sn 1 (g' := (72, [some (.ref 78), some (.ref aa), some (.int l2), some (.int l3), some (.int l4), some (.int l5), some (.int l6), some (.int 1), some (.int l8)], [.ref 78, .int r26, .ref aa, .ref 78], (h27, q))) rfl ?_
                  refine sW.getN rfl hs27 o78 rfl rfl hz22 ?_
                  refine mW.sn 1 (g' := (77, [some (.ref 78), some (.ref aa), some (.int l2), some (.int l3), some (.int l4), some (.int l5), some (.int l6), some (.int 1), some (.int l8)], [.int l4, .ref ((rd r20 78 19).toNatClampNeg), .int r26, .ref aa, .ref 78], (h27, q))) rfl ?_
                  cases hr28 : r_next (r20 ((rd r20 78 19).toNatClampNeg)) l4 with
                  | none => rw [hr28] at hv; cases hv
                  | some r28 =>
                    rw [hr28, o_bind] at hv
                    refine sW.call rfl rfl rfl rfl rfl (sW.of hs27 (x199 (hs27.ar (hs27.okA o78 rfl hz22)) hr28)) ?_
                    intro h29 hs29
                    refine mW.sn 3 (g' := (84, [some (.ref 78), some (.ref aa), some (.int l2), some (.int l3), some (.int l4), some (.int l5), some (.int l6), some (.int 1), some (.int l8)], [.int (l5 + 1), .int r28, .int r26, .ref aa, .ref 78], (h29, q))) rfl ?_
                    cases hr30 : rec r20 aa r26 r28 (l5 + 1) with
                    | none => rw [hr30] at hv; cases hv
                    | some r30 =>
                      rw [hr30, o_bind] at hv
                      refine sW.call rfl rfl rfl rfl (hs29.rcv o78) (hrec _ (by omega) _ _ _ _ _ _ _ haa hs29 hr30) ?_
                      intro h31 hs31
                      refine mW.sn 4 (g' := (108, [some (.ref 78), some (.ref aa), some (.int l2), some (.int l3), some (.int l4), some (.int l5), some (.int l6), some (.int 1), some (.int l8)], [.int l8, .ref aa, .ref aa], (h31, q))) rfl ?_
                      cases hr32 : r_next (r30 aa) l8 with
                      | none => rw [hr32] at hv; cases hv
                      | some r32 =>
                        rw [hr32, o_bind] at hv
                        refine sW.call rfl rfl rfl rfl rfl (sW.of hs31 (x199 (hs31.ar haa) hr32)) ?_
                        intro h33 hs33
                        cases hr34 : r_next (r30 aa) r32 with
                        | none => rw [hr34] at hv; cases hv
                        | some r34 =>
                          rw [hr34, o_bind] at hv
                          refine sW.call rfl rfl rfl rfl rfl (sW.of hs33 (x199 (hs33.ar haa) hr34)) ?_
                          intro h35 hs35
                          refine mW.sn 2 (g' := (19, [some (.ref 78), some (.ref aa), some (.int l2), some (.int l3), some (.int l4), some (.int l5), some (.int l6), some (.int 1), some (.int r34)], [], (h35, q))) rfl ?_
                          exact ih _ _ _ _ _ _ _ _ _ _  hs35 hv
              · rw [if_neg hc25] at hv
                refine mW.sn 1 (g' := (91, [some (.ref 78), some (.ref aa), some (.int l2), some (.int l3), some (.int l4), some (.int l5), some (.int l6), some (.int l7), some (.int l8)], [.ref 78], (h24, q))) rfl ?_
                refine sW.getR rfl hs24 o78 rfl rfl ?_
                refine mW.sn 3 (g' := (98, [some (.ref 78), some (.ref aa), some (.int l2), some (.int l3), some (.int l4), some (.int l5), some (.int l6), some (.int l7), some (.int l8)], [.int l8, .ref aa, .ref aa, .ref 90], (h24, q))) rfl ?_
                cases hr36 : r_next (r20 aa) l8 with
                | none => rw [hr36] at hv; cases hv
                | some r36 =>
                  rw [hr36, o_bind] at hv
                  refine sW.call rfl rfl rfl rfl rfl (sW.of hs24 (x199 (hs24.ar haa) hr36)) ?_
                  intro h37 hs37
                  cases hr38 : q_copy r20 aa r36 with
                  | none => rw [hr38] at hv; cases hv
                  | some r38 =>
                    rw [hr38, o_bind] at hv
                    refine sW.call rfl rfl rfl rfl (hs37.rcv o90) (s243 haa hs37 hr38) ?_
                    intro h39 hs39
                    refine mW.sn 3 (g' := (108, [some (.ref 78), some (.ref aa), some (.int l2), some (.int l3), some (.int l4), some (.int l5), some (.int l6), some (.int l7), some (.int l8)], [.int l8, .ref aa, .ref aa], (h39, q))) rfl ?_
                    cases hr40 : r_next (r38 aa) l8 with
                    | none => rw [hr40] at hv; cases hv
                    | some r40 =>
                      rw [hr40, o_bind] at hv
                      refine sW.call rfl rfl rfl rfl rfl (sW.of hs39 (x199 (hs39.ar haa) hr40)) ?_
                      intro h41 hs41
                      cases hr42 : r_next (r38 aa) r40 with
                      | none => rw [hr42] at hv; cases hv
                      | some r42 =>
                        rw [hr42, o_bind] at hv
                        refine sW.call rfl rfl rfl rfl rfl (sW.of hs41 (x199 (hs41.ar haa) hr42)) ?_
                        intro h43 hs43
                        refine mW.sn 2 (g' := (19, [some (.ref 78), some (.ref aa), some (.int l2), some (.int l3), some (.int l4), some (.int l5), some (.int l6), some (.int l7), some (.int r42)], [], (h43, q))) rfl ?_
                        exact ih _ _ _ _ _ _ _ _ _ _  hs43 hv
    · rw [if_neg hc3] at hv
      refine mW.sn 1 (g' := (121, [some (.ref 78), some (.ref aa), some (.int l2), some (.int l3), some (.int l4), some (.int l5), some (.int l6), some (.int l7), some (.int l8)], [.int l7], (h, q))) rfl ?_
      refine mW.br (g1 := (124, [some (.ref 78), some (.ref aa), some (.int l2), some (.int l3), some (.int l4), some (.int l5), some (.int l6), some (.int l7), some (.int l8)], [], (h, q))) (g2 := (156, [some (.ref 78), some (.ref aa), some (.int l2), some (.int l3), some (.int l4), some (.int l5), some (.int l6), some (.int l7), some (.int l8)], [], (h, q))) (c := l7 = 0) rfl (fun hc44 => ?_) (fun hc44 => ?_)
      · rw [if_pos hc44] at hv
        refine mW.sn 1 (g' := (125, [some (.ref 78), some (.ref aa), some (.int l2), some (.int l3), some (.int l4), some (.int l5), some (.int l6), some (.int l7), some (.int l8)], [.ref 78], (h, q))) rfl ?_
        refine sW.getR rfl hs o78 rfl rfl ?_
        refine mW.sn 1 (g' := (129, [some (.ref 78), some (.ref aa), some (.int l2), some (.int l3), some (.int l4), some (.int l5), some (.int l6), some (.int l7), some (.int l8)], [.ref 78, .ref 90], (h, q))) rfl ?_
        by_cases hz45 : rd S 78 19 = 0
        · rw [if_pos hz45] at hv; cases hv
        rw [if_neg hz45] at hv
        refine sW.getN rfl hs o78 rfl rfl hz45 ?_
        refine mW.sn 1 (g' := (134, [some (.ref 78), some (.ref aa), some (.int l2), some (.int l3), some (.int l4), some (.int l5), some (.int l6), some (.int l7), some (.int l8)], [.int l4, .ref ((rd S 78 19).toNatClampNeg), .ref 90], (h, q))) rfl ?_
        cases hr46 : q_copy S ((rd S 78 19).toNatClampNeg) l4 with
        | none => rw [hr46] at hv; cases hv
        | some r46 =>
          rw [hr46, o_bind] at hv
          refine sW.call rfl rfl rfl rfl (hs.rcv o90) (s243 (hs.okA o78 rfl hz45) hs hr46) ?_
          intro h47 hs47
          refine mW.sn 4 (g' := (141, [some (.ref 78), some (.ref aa), some (.int l2), some (.int l3), some (.int l4), some (.int l5), some (.int l6), some (.int l7), some (.int l8)], [.ref 78, .int (-1), .ref aa, .ref 78], (h47, q))) rfl ?_
          by_cases hz48 : rd r46 78 19 = 0
          · rw [if_pos hz48] at hv; cases hv
          rw [if_neg hz48] at hv
          refine sW.getN rfl hs47 o78 rfl rfl hz48 ?_
          refine mW.sn 1 (g' := (146, [some (.ref 78), some (.ref aa), some (.int l2), some (.int l3), some (.int l4), some (.int l5), some (.int l6), some (.int l7), some (.int l8)], [.int l4, .ref ((rd r46 78 19).toNatClampNeg), .int (-1), .ref aa, .ref 78], (h47, q))) rfl ?_
          cases hr49 : r_next (r46 ((rd r46 78 19).toNatClampNeg)) l4 with
          | none => rw [hr49] at hv; cases hv
          | some r49 =>
            rw [hr49, o_bind] at hv
            refine sW.call rfl rfl rfl rfl rfl (sW.of hs47 (x199 (hs47.ar (hs47.okA o78 rfl hz48)) hr49)) ?_
            intro h50 hs50
            refine mW.sn 3 (g' := (153, [some (.ref 78), some (.ref aa), some (.int l2), some (.int l3), some (.int l4), some (.int l5), some (.int l6), some (.int l7), some (.int l8)], [.int (l5 + 1), .int r49, .int (-1), .ref aa, .ref 78], (h50, q))) rfl ?_
            cases hr51 : rec r46 aa (-1) r49 (l5 + 1) with
            | none => rw [hr51] at hv; cases hv
            | some r51 =>
              rw [hr51, o_bind] at hv
              refine sW.call rfl rfl rfl rfl (hs50.rcv o78) (hrec _ (by omega) _ _ _ _ _ _ _ haa hs50 hr51) ?_
              intro h52 hs52
              refine mW.sn 1 (g' := (157, [some (.ref 78), some (.ref aa), some (.int l2), some (.int l3), some (.int l4), some (.int l5), some (.int l6), some (.int l7), some (.int l8)], [.ref 78], (h52, q))) rfl ?_
              refine sW.getR rfl hs52 o78 rfl rfl ?_
              refine mW.sn 1 (g' := (162, [some (.ref 78), some (.ref aa), some (.int l2), some (.int l3), some (.int l4), some (.int l5), some (.int l6), some (.int l7), some (.int l8)], [.int l6, .ref 90], (h52, q))) rfl ?_
              cases hr53 : q_close r51 l6 with
              | none => rw [hr53] at hv; cases hv
              | some r53 =>
                rw [hr53, o_bind] at hv
                refine sW.call rfl rfl rfl rfl (hs52.rcv o90) (s176 hs52 hr53) ?_
                intro h54 hs54
                cases hv
                exact sW.fin hs54 rfl
      · rw [if_neg hc44] at hv
        refine mW.sn 1 (g' := (157, [some (.ref 78), some (.ref aa), some (.int l2), some (.int l3), some (.int l4), some (.int l5), some (.int l6), some (.int l7), some (.int l8)], [.ref 78], (h, q))) rfl ?_
        refine sW.getR rfl hs o78 rfl rfl ?_
        refine mW.sn 1 (g' := (162, [some (.ref 78), some (.ref aa), some (.int l2), some (.int l3), some (.int l4), some (.int l5), some (.int l6), some (.int l7), some (.int l8)], [.int l6, .ref 90], (h, q))) rfl ?_
        cases hr55 : q_close S l6 with
        | none => rw [hr55] at hv; cases hv
        | some r55 =>
          rw [hr55, o_bind] at hv
          refine sW.call rfl rfl rfl rfl (hs.rcv o90) (s176 hs hr55) ?_
          intro h56 hs56
          cases hv
          exact sW.fin hs56 rfl
def b_putName (S : SS) (aa : Nat) (rec : SS → Nat → Int32 → Int32 → Int32 → Option (SS)) (p0 : Int32) (p1 : Int32) (p2 : Int32) (p3 : Int32) : Option (SS) := ((q_open S 6).bind fun r1 => b_putName_l19 aa rec 10000 r1.1 p0 p1 p2 p3 r1.2 0 (p0 + 2))
theorem s244 {S : SS} {aa : Nat} (haa : aa ∈ shA) {rec : SS → Nat → Int32 → Int32 → Int32 → Option (SS)} (hrec : ∀ (e : Nat), d ≤ e → ∀ (h : mH) (S : SS) (aa : Nat) (p0 : Int32) (p1 : Int32) (p2 : Int32) (v : SS), aa ∈ shA → cs h S → rec S aa p0 p1 p2 = some v → mW e mm240 (0, [some (.ref 78), some (.ref aa), some (.int p0), some (.int p1), some (.int p2), none, none, none], [], (h, q)) (mQ q v none)) {p0 : Int32} {p1 : Int32} {p2 : Int32} {p3 : Int32} {v : SS} (hs : cs h S) (hv : b_putName S aa rec p0 p1 p2 p3 = some v) : mW (d + 2) mm244 (0, [some (.ref 78), some (.ref aa), some (.int p0), some (.int p1), some (.int p2), some (.int p3), none, none, none], [], (h, q)) (mQ q v none) := by
  unfold b_putName at hv
  refine mW.sn 1 (g' := (1, [some (.ref 78), some (.ref aa), some (.int p0), some (.int p1), some (.int p2), some (.int p3), none, none, none], [.ref 78], (h, q))) rfl ?_
  refine sW.getR rfl hs o78 rfl rfl ?_
  refine mW.sn 1 (g' := (6, [some (.ref 78), some (.ref aa), some (.int p0), some (.int p1), some (.int p2), some (.int p3), none, none, none], [.int 6, .ref 90], (h, q))) rfl ?_
  cases hr1 : q_open S 6 with
  | none => rw [hr1] at hv; cases hv
  | some r1 =>
    rw [hr1, o_bind] at hv
    refine sW.call rfl rfl rfl rfl (hs.rcv o90) (s174 hs hr1) ?_
    intro h2 hs2
    refine mW.sn 7 (g' := (19, [some (.ref 78), some (.ref aa), some (.int p0), some (.int p1), some (.int p2), some (.int p3), some (.int r1.2), some (.int 0), some (.int (p0 + 2))], [], (h2, q))) rfl ?_
    exact b_putName_l19_ok haa hrec _ _ _ _ _ _ _ _ _ _ _  hs2 hv
def b_putPlace_l85 (aa : Nat) (rec : SS → Nat → Int32 → Int32 → Int32 → Option (SS)) (S : SS) : Option (SS) := ((b_refuse S 2).bind fun r7 => some r7)
theorem b_putPlace_l85_ok {aa : Nat} (haa : aa ∈ shA) {rec : SS → Nat → Int32 → Int32 → Int32 → Option (SS)} (hrec : ∀ (e : Nat), d ≤ e → ∀ (h : mH) (S : SS) (aa : Nat) (p0 : Int32) (p1 : Int32) (p2 : Int32) (v : SS), aa ∈ shA → cs h S → rec S aa p0 p1 p2 = some v → mW e mm240 (0, [some (.ref 78), some (.ref aa), some (.int p0), some (.int p1), some (.int p2), none, none, none], [], (h, q)) (mQ q v none)) : ∀ (h : mH) (S : SS) (y1 : Nat) (y2 : Int32) (y3 : Int32) (y4 : Int32) (y5 : Int32) (y6 : Int32) (y7 : Int32) (y8 : Int32) (y9 : Int64) (x10 : Option Value) (x11 : Option Value) (x12 : Option Value) (x13 : Option Value) (v : SS), cs h S → b_putPlace_l85 aa rec S = some v → mW (d + 3) mm245 (85, [some (.ref 78), some (.ref y1), some (.int y2), some (.int y3), some (.int y4), some (.int y5), some (.int y6), some (.int y7), some (.int y8), some (.long y9), x10, x11, x12, x13], [], (h, q)) (mQ q v none) := by
  intro h S y1 y2 y3 y4 y5 y6 y7 y8 y9 x10 x11 x12 x13 v hs hv
  unfold b_putPlace_l85 at hv
  refine mW.sn 2 (g' := (87, [some (.ref 78), some (.ref y1), some (.int y2), some (.int y3), some (.int y4), some (.int y5), some (.int y6), some (.int y7), some (.int y8), some (.long y9), x10, x11, x12, x13], [.int 2, .ref 78], (h, q))) rfl ?_
  cases hr7 : b_refuse S 2 with
  | none => rw [hr7] at hv; cases hv
  | some r7 =>
    rw [hr7, o_bind] at hv
    refine sW.call rfl rfl rfl rfl (hs.rcv o78) (s227 hs hr7) ?_
    intro h8 hs8
    cases hv
    exact sW.fin hs8 rfl
def b_putPlace_l229 (aa : Nat) (rec : SS → Nat → Int32 → Int32 → Int32 → Option (SS)) (k123 : SS → Int32 → Int32 → Int32 → Int32 → Int32 → Int32 → Int64 → Int32 → Int32 → Int32 → Option (SS)) (S : SS) (l2 : Int32) (l3 : Int32) (l7 : Int32) (l11 : Int32) : Option (SS) := (if l3 = (5 : Int32) then ((r_next (S aa) l2).bind fun r23 => ((b_cells S aa l7 r23).bind fun r25 => ((q_close r25 l11).bind fun r27 => some r27))) else ((q_close S l11).bind fun r29 => some r29))
theorem b_putPlace_l229_ok {aa : Nat} (haa : aa ∈ shA) {rec : SS → Nat → Int32 → Int32 → Int32 → Option (SS)} (hrec : ∀ (e : Nat), d ≤ e → ∀ (h : mH) (S : SS) (aa : Nat) (p0 : Int32) (p1 : Int32) (p2 : Int32) (v : SS), aa ∈ shA → cs h S → rec S aa p0 p1 p2 = some v → mW e mm240 (0, [some (.ref 78), some (.ref aa), some (.int p0), some (.int p1), some (.int p2), none, none, none], [], (h, q)) (mQ q v none)) {k123 : SS → Int32 → Int32 → Int32 → Int32 → Int32 → Int32 → Int64 → Int32 → Int32 → Int32 → Option (SS)} (hk123 : ∀ (h : mH) (S : SS) (l2 : Int32) (l3 : Int32) (l4 : Int32) (l5 : Int32) (l7 : Int32) (l8 : Int32) (l9 : Int64) (l11 : Int32) (l12 : Int32) (l13 : Int32) (y6 : Int32) (v : SS), cs h S → k123 S l2 l3 l4 l5 l7 l8 l9 l11 l12 l13 = some v → mW (d + 3) mm245 (123, [some (.ref 78), some (.ref aa), some (.int l2), some (.int l3), some (.int l4), some (.int l5), some (.int y6), some (.int l7), some (.int l8), some (.long l9), none, some (.int l11), some (.int l12), some (.int l13)], [], (h, q)) (mQ q v none)) : ∀ (h : mH) (S : SS) (l2 : Int32) (l3 : Int32) (l7 : Int32) (l11 : Int32) (y4 : Int32) (y5 : Int32) (y6 : Int32) (y8 : Int32) (y9 : Int64) (x10 : Option Value) (y12 : Int32) (y13 : Int32) (v : SS), cs h S → b_putPlace_l229 aa rec k123 S l2 l3 l7 l11 = some v → mW (d + 3) mm245 (229, [some (.ref 78), some (.ref aa), some (.int l2), some (.int l3), some (.int y4), some (.int y5), some (.int y6), some (.int l7), some (.int y8), some (.long y9), x10, some (.int l11), some (.int y12), some (.int y13)], [], (h, q)) (mQ q v none) := by
  intro h S l2 l3 l7 l11 y4 y5 y6 y8 y9 x10 y12 y13 v hs hv
  unfold b_putPlace_l229 at hv
  refine mW.sn 2 (g' := (231, [some (.ref 78), some (.ref aa), some (.int l2), some (.int l3), some (.int y4), some (.int y5), some (.int y6), some (.int l7), some (.int y8), some (.long y9), x10, some (.int l11), some (.int y12), some (.int y13)], [.int 5, .int l3], (h, q))) rfl ?_
  refine mW.br (g1 := (234, [some (.ref 78), some (.ref aa), some (.int l2), some (.int l3), some (.int y4), some (.int y5), some (.int y6), some (.int l7), some (.int y8), some (.long y9), x10, some (.int l11), some (.int y12), some (.int y13)], [], (h, q))) (g2 := (246, [some (.ref 78), some (.ref aa), some (.int l2), some (.int l3), some (.int y4), some (.int y5), some (.int y6), some (.int l7), some (.int y8), some (.long y9), x10, some (.int l11), some (.int y12), some (.int y13)], [], (h, q))) (c := l3 = (5 : Int32)) rfl (fun hc22 => ?_) (fun hc22 => ?_)
  · rw [if_pos hc22] at hv
    refine mW.sn 5 (g' := (240, [some (.ref 78), some (.ref aa), some (.int l2), some (.int l3), some (.int y4), some (.int y5), some (.int y6), some (.int l7), some (.int y8), some (.long y9), x10, some (.int l11), some (.int y12), some (.int y13)], [.int l2, .ref aa, .int l7, .ref aa, .ref 78], (h, q))) rfl ?_
    cases hr23 : r_next (S aa) l2 with
    | none => rw [hr23] at hv; cases hv
    | some r23 =>
      rw [hr23, o_bind] at hv
      refine sW.call rfl rfl rfl rfl rfl (sW.of hs (x199 (hs.ar haa) hr23)) ?_
      intro h24 hs24
      cases hr25 : b_cells S aa l7 r23 with
      | none => rw [hr25] at hv; cases hv
      | some r25 =>
        rw [hr25, o_bind] at hv
        refine sW.call rfl rfl rfl rfl (hs24.rcv o78) (s236 haa hs24 hr25) ?_
        intro h26 hs26
        refine mW.sn 1 (g' := (247, [some (.ref 78), some (.ref aa), some (.int l2), some (.int l3), some (.int y4), some (.int y5), some (.int y6), some (.int l7), some (.int y8), some (.long y9), x10, some (.int l11), some (.int y12), some (.int y13)], [.ref 78], (h26, q))) rfl ?_
        refine sW.getR rfl hs26 o78 rfl rfl ?_
        refine mW.sn 1 (g' := (252, [some (.ref 78), some (.ref aa), some (.int l2), some (.int l3), some (.int y4), some (.int y5), some (.int y6), some (.int l7), some (.int y8), some (.long y9), x10, some (.int l11), some (.int y12), some (.int y13)], [.int l11, .ref 90], (h26, q))) rfl ?_
        cases hr27 : q_close r25 l11 with
        | none => rw [hr27] at hv; cases hv
        | some r27 =>
          rw [hr27, o_bind] at hv
          refine sW.call rfl rfl rfl rfl (hs26.rcv o90) (s176 hs26 hr27) ?_
          intro h28 hs28
          cases hv
          exact sW.fin hs28 rfl
  · rw [if_neg hc22] at hv
    refine mW.sn 1 (g' := (247, [some (.ref 78), some (.ref aa), some (.int l2), some (.int l3), some (.int y4), some (.int y5), some (.int y6), some (.int l7), some (.int y8), some (.long y9), x10, some (.int l11), some (.int y12), some (.int y13)], [.ref 78], (h, q))) rfl ?_
    refine sW.getR rfl hs o78 rfl rfl ?_
    refine mW.sn 1 (g' := (252, [some (.ref 78), some (.ref aa), some (.int l2), some (.int l3), some (.int y4), some (.int y5), some (.int y6), some (.int l7), some (.int y8), some (.long y9), x10, some (.int l11), some (.int y12), some (.int y13)], [.int l11, .ref 90], (h, q))) rfl ?_
    cases hr29 : q_close S l11 with
    | none => rw [hr29] at hv; cases hv
    | some r29 =>
      rw [hr29, o_bind] at hv
      refine sW.call rfl rfl rfl rfl (hs.rcv o90) (s176 hs hr29) ?_
      intro h30 hs30
      cases hv
      exact sW.fin hs30 rfl
def b_putPlace_l123 (aa : Nat) (rec : SS → Nat → Int32 → Int32 → Int32 → Option (SS)) : Nat → SS → Int32 → Int32 → Int32 → Int32 → Int32 → Int32 → Int64 → Int32 → Int32 → Int32 → Option (SS)
  | 0, _, _, _, _, _, _, _, _, _, _, _ => none
  | n + 1, S, l2, l3, l4, l5, l7, l8, l9, l11, l12, l13 => (if 0 ≤ (lg_cmp l13.toInt64 l9) then (if 0 ≤ (lg_cmp l9 l8.toInt64) then (if rd S 78 19 = 0 then none else ((r_next (S ((rd S 78 19).toNatClampNeg)) l4).bind fun r18 => ((rec S aa (-1) r18 (l5 + 1)).bind fun r20 => b_putPlace_l229 aa rec (b_putPlace_l123 aa rec n) r20 l2 l3 l7 l11))) else (if rd S 78 19 = 0 then none else ((r_next (S ((rd S 78 19).toNatClampNeg)) l4).bind fun r32 => ((rec S aa l12 r32 (l5 + 1)).bind fun r34 => ((r_next (r34 aa) l12).bind fun r36 => ((b_cells r34 aa r36 l7).bind fun r38 => b_putPlace_l229 aa rec (b_putPlace_l123 aa rec n) r38 l2 l3 l7 l11)))))) else (if l8 ≤ l13 then ((q_simple S 0).bind fun r41 => b_putPlace_l123 aa rec n r41 l2 l3 l4 l5 l7 l8 l9 l11 l12 (l13 + 1)) else ((q_copy S aa l12).bind fun r43 => ((r_next (r43 aa) l12).bind fun r45 => b_putPlace_l123 aa rec n r43 l2 l3 l4 l5 l7 l8 l9 l11 r45 (l13 + 1)))))
theorem b_putPlace_l123_ok {aa : Nat} (haa : aa ∈ shA) {rec : SS → Nat → Int32 → Int32 → Int32 → Option (SS)} (hrec : ∀ (e : Nat), d ≤ e → ∀ (h : mH) (S : SS) (aa : Nat) (p0 : Int32) (p1 : Int32) (p2 : Int32) (v : SS), aa ∈ shA → cs h S → rec S aa p0 p1 p2 = some v → mW e mm240 (0, [some (.ref 78), some (.ref aa), some (.int p0), some (.int p1), some (.int p2), none, none, none], [], (h, q)) (mQ q v none)) : ∀ (n : Nat), ∀ (h : mH) (S : SS) (l2 : Int32) (l3 : Int32) (l4 : Int32) (l5 : Int32) (l7 : Int32) (l8 : Int32) (l9 : Int64) (l11 : Int32) (l12 : Int32) (l13 : Int32) (y6 : Int32) (v : SS), cs h S → b_putPlace_l123 aa rec n S l2 l3 l4 l5 l7 l8 l9 l11 l12 l13 = some v → mW (d + 3) mm245 (123, [some (.ref 78), some (.ref aa), some (.int l2), some (.int l3), some (.int l4), some (.int l5), some (.int y6), some (.int l7), some (.int l8), some (.long l9), none, some (.int l11), some (.int l12), some (.int l13)], [], (h, q)) (mQ q v none) := by
  intro n
  induction n with
  | zero => intro h S l2 l3 l4 l5 l7 l8 l9 l11 l12 l13 y6 v hs hv; cases hv
  | succ n ih =>
    intro h S l2 l3 l4 l5 l7 l8 l9 l11 l12 l13 y6 v hs hv
    unfold b_putPlace_l123 at hv
    refine mW.sn 4 (g' := (129, [some (.ref 78), some (.ref aa), some (.int l2), some (.int l3), some (.int l4), some (.int l5), some (.int y6), some (.int l7), some (.int l8), some (.long l9), none, some (.int l11), some (.int l12), some (.int l13)], [.int (lg_cmp l13.toInt64 l9)], (h, q))) rfl ?_
    refine mW.br (g1 := (174, [some (.ref 78), some (.ref aa), some (.int l2), some (.int l3), some (.int l4), some (.int l5), some (.int y6), some (.int l7), some (.int l8), some (.long l9), none, some (.int l11), some (.int l12), some (.int l13)], [], (h, q))) (g2 := (132, [some (.ref 78), some (.ref aa), some (.int l2), some (.int l3), some (.int l4), some (.int l5), some (.int y6), some (.int l7), some (.int l8), some (.long l9), none, some (.int l11), some (.int l12), some (.int l13)], [], (h, q))) (c := 0 ≤ (lg_cmp l13.toInt64 l9)) rfl (fun hc15 => ?_) (fun hc15 => ?_)
    · rw [if_pos hc15] at hv
      refine mW.sn 6 (g' := (182, [some (.ref 78), some (.ref aa), some (.int l2), some (.int l3), some (.int l4), some (.int l5), some (.int y6), some (.int l7), some (.int l8), some (.long l9), none, some (.int l11), some (.int l12), some (.int l13)], [.int (lg_cmp l9 l8.toInt64), .ref aa, .ref 78], (h, q))) rfl ?_
      refine mW.br (g1 := (190, [some (.ref 78), some (.ref aa), some (.int l2), some (.int l3), some (.int l4), some (.int l5), some (.int y6), some (.int l7), some (.int l8), some (.long l9), none, some (.int l11), some (.int l12), some (.int l13)], [.ref aa, .ref 78], (h, q))) (g2 := (185, [some (.ref 78), some (.ref aa), some (.int l2), some (.int l3), some (.int l4), some (.int l5), some (.int y6), some (.int l7), some (.int l8), some (.long l9), none, some (.int l11), some (.int l12), some (.int l13)], [.ref aa, .ref 78], (h, q))) (c := 0 ≤ (lg_cmp l9 l8.toInt64)) rfl (fun hc16 => ?_) (fun hc16 => ?_)
      · rw [if_pos hc16] at hv
        refine mW.sn 2 (g' := (192, [some (.ref 78), some (.ref aa), some (.int l2), some (.int l3), some (.int l4), some (.int l5), some (.int y6), some (.int l7), some (.int l8), some (.long l9), none, some (.int l11), some (.int l12), some (.int l13)], [.ref 78, .int (-1), .ref aa, .ref 78], (h, q))) rfl ?_
        by_cases hz17 : rd S 78 19 = 0
        · rw [if_pos hz17] at hv; cases hv
        rw [if_neg hz17] at hv
        refine sW.getN rfl hs o78 rfl rfl hz17 ?_
        refine mW.sn 1 (g' := (197, [some (.ref 78), some (.ref aa), some (.int l2), some (.int l3), some (.int l4), some (.int l5), some (.int y6), some (.int l7), some (.int l8), some (.long l9), none, some (.int l11), some (.int l12), some (.int l13)], [.int l4, .ref ((rd S 78 19).toNatClampNeg), .int (-1), .ref aa, .ref 78], (h, q))) rfl ?_
        cases hr18 : r_next (S ((rd S 78 19).toNatClampNeg)) l4 with
        | none => rw [hr18] at hv; cases hv
        | some r18 =>
          rw [hr18, o_bind] at hv
          refine sW.call rfl rfl rfl rfl rfl (sW.of hs (x199 (hs.ar (hs.okA o78 rfl hz17)) hr18)) ?_
          intro h19 hs19
          refine mW.sn 3 (g' := (204, [some (.ref 78), some (.ref aa), some (.int l2), some (.int l3), some (.int l4), some (.int l5), some (.int y6), some (.int l7), some (.int l8), some (.long l9), none, some (.int l11), some (.int l12), some (.int l13)], [.int (l5 + 1), .int r18, .int (-1), .ref aa, .ref 78], (h19, q))) rfl ?_
          cases hr20 : rec S aa (-1) r18 (l5 + 1) with
          | none => rw [hr20] at hv; cases hv
          | some r20 =>
            rw [hr20, o_bind] at hv
            refine sW.call rfl rfl rfl rfl (hs19.rcv o78) (hrec _ (by omega) _ _ _ _ _ _ _ haa hs19 hr20) ?_
            intro h21 hs21
            refine mW.sn 4 (g' := (213, [some (.ref 78), some (.ref aa), some (.int l2), some (.int l3), some (.int l4), some (.int l5), some (.int y6), some (.int l7), some (.int l8), some (.long l9), none, some (.int l11), some (.int l12), some (.int l13)], [.int (lg_cmp l9 l8.toInt64)], (h21, q))) rfl ?_
            refine mW.yes (g1 := (229, [some (.ref 78), some (.ref aa), some (.int l2), some (.int l3), some (.int l4), some (.int l5), some (.int y6), some (.int l7), some (.int l8), some (.long l9), none, some (.int l11), some (.int l12), some (.int l13)], [], (h21, q))) (g2 := (216, [some (.ref 78), some (.ref aa), some (.int l2), some (.int l3), some (.int l4), some (.int l5), some (.int y6), some (.int l7), some (.int l8), some (.long l9), none, some (.int l11), some (.int l12), some (.int l13)], [], (h21, q))) (c := 0 ≤ (lg_cmp l9 l8.toInt64)) rfl hc16 ?_
            exact b_putPlace_l229_ok haa hrec ih _ _ _ _ _ _ _ _ _ _ _ _ _ _ _  hs21 hv
      · rw [if_neg hc16] at hv
        refine mW.sn 3 (g' := (192, [some (.ref 78), some (.ref aa), some (.int l2), some (.int l3), some (.int l4), some (.int l5), some (.int y6), some (.int l7), some (.int l8), some (.long l9), none, some (.int l11), some (.int l12), some (.int l13)], [.ref 78, .int l12, .ref aa, .ref 78], (h, q))) rfl ?_
        by_cases hz31 : rd S 78 19 = 0
        · rw [if_pos hz31] at hv; cases hv
        rw [if_neg hz31] at hv
        refine sW.getN rfl hs o78 rfl rfl hz31 ?_
        refine mW.sn 1 (g' := (197, [some (.ref 78), some (.ref aa), some (.int l2), some (.int l3), some (.int l4), some (.int l5), some (.int y6), some (.int l7), some (.int l8), some (.long l9), none, some (.int l11), some (.int l12), some (.int l13)], [.int l4, .ref ((rd S 78 19).toNatClampNeg), .int l12, .ref aa, .ref 78], (h, q))) rfl ?_
        cases hr32 : r_next (S ((rd S 78 19).toNatClampNeg)) l4 with
        | none => rw [hr32] at hv; cases hv
        | some r32 =>
          rw [hr32, o_bind] at hv
          refine sW.call rfl rfl rfl rfl rfl (sW.of hs (x199 (hs.ar (hs.okA o78 rfl hz31)) hr32)) ?_
          intro h33 hs33
          refine mW.sn 3 (g' := (204, [some (.ref 78), some (.ref aa), some (.int l2), some (.int l3), some (.int l4), some (.int l5), some (.int y6), some (.int l7), some (.int l8), some (.long l9), none, some (.int l11), some (.int l12), some (.int l13)], [.int (l5 + 1), .int r32, .int l12, .ref aa, .ref 78], (h33, q))) rfl ?_
          cases hr34 : rec S aa l12 r32 (l5 + 1) with
          | none => rw [hr34] at hv; cases hv
          | some r34 =>
            rw [hr34, o_bind] at hv
            refine sW.call rfl rfl rfl rfl (hs33.rcv o78) (hrec _ (by omega) _ _ _ _ _ _ _ haa hs33 hr34) ?_
            intro h35 hs35
            refine mW.sn 4 (g' := (213, [some (.ref 78), some (.ref aa), some (.int l2), some (.int l3), some (.int l4), some (.int l5), some (.int y6), some (.int l7), some (.int l8), some (.long l9), none, some (.int l11), some (.int l12), some (.int l13)], [.int (lg_cmp l9 l8.toInt64)], (h35, q))) rfl ?_
            refine mW.no (g1 := (229, [some (.ref 78), some (.ref aa), some (.int l2), some (.int l3), some (.int l4), some (.int l5), some (.int y6), some (.int l7), some (.int l8), some (.long l9), none, some (.int l11), some (.int l12), some (.int l13)], [], (h35, q))) (g2 := (216, [some (.ref 78), some (.ref aa), some (.int l2), some (.int l3), some (.int l4), some (.int l5), some (.int y6), some (.int l7), some (.int l8), some (.long l9), none, some (.int l11), some (.int l12), some (.int l13)], [], (h35, q))) (c := 0 ≤ (lg_cmp l9 l8.toInt64)) rfl hc16 ?_
            refine mW.sn 4 (g' := (221, [some (.ref 78), some (.ref aa), some (.int l2), some (.int l3), some (.int l4), some (.int l5), some (.int y6), some (.int l7), some (.int l8), some (.long l9), none, some (.int l11), some (.int l12), some (.int l13)], [.int l12, .ref aa, .ref aa, .ref 78], (h35, q))) rfl ?_
            cases hr36 : r_next (r34 aa) l12 with
            | none => rw [hr36] at hv; cases hv
            | some r36 =>
              rw [hr36, o_bind] at hv
              refine sW.call rfl rfl rfl rfl rfl (sW.of hs35 (x199 (hs35.ar haa) hr36)) ?_
              intro h37 hs37
              refine mW.sn 1 (g' := (226, [some (.ref 78), some (.ref aa), some (.int l2), some (.int l3), some (.int l4), some (.int l5), some (.int y6), some (.int l7), some (.int l8), some (.long l9), none, some (.int l11), some (.int l12), some (.int l13)], [.int l7, .int r36, .ref aa, .ref 78], (h37, q))) rfl ?_
              cases hr38 : b_cells r34 aa r36 l7 with
              | none => rw [hr38] at hv; cases hv
              | some r38 =>
                rw [hr38, o_bind] at hv
                refine sW.call rfl rfl rfl rfl (hs37.rcv o78) (s236 haa hs37 hr38) ?_
                intro h39 hs39
                exact b_putPlace_l229_ok haa hrec ih _ _ _ _ _ _ _ _ _ _ _ _ _ _ _  hs39 hv
    · rw [if_neg hc15] at hv
      refine mW.sn 2 (g' := (136, [some (.ref 78), some (.ref aa), some (.int l2), some (.int l3), some (.int l4), some (.int l5), some (.int y6), some (.int l7), some (.int l8), some (.long l9), none, some (.int l11), some (.int l12), some (.int l13)], [.int l8, .int l13], (h, q))) rfl ?_
      refine mW.br (g1 := (160, [some (.ref 78), some (.ref aa), some (.int l2), some (.int l3), some (.int l4), some (.int l5), some (.int y6), some (.int l7), some (.int l8), some (.long l9), none, some (.int l11), some (.int l12), some (.int l13)], [], (h, q))) (g2 := (139, [some (.ref 78), some (.ref aa), some (.int l2), some (.int l3), some (.int l4), some (.int l5), some (.int y6), some (.int l7), some (.int l8), some (.long l9), none, some (.int l11), some (.int l12), some (.int l13)], [], (h, q))) (c := l8 ≤ l13) rfl (fun hc40 => ?_) (fun hc40 => ?_)
      · rw [if_pos hc40] at hv
        refine mW.sn 1 (g' := (161, [some (.ref 78), some (.ref aa), some (.int l2), some (.int l3), some (.int l4), some (.int l5), some (.int y6), some (.int l7), some (.int l8), some (.long l9), none, some (.int l11), some (.int l12), some (.int l13)], [.ref 78], (h, q))) rfl ?_
        refine sW.getR rfl hs o78 rfl rfl ?_
        refine mW.sn 1 (g' := (165, [some (.ref 78), some (.ref aa), some (.int l2), some (.int l3), some (.int l4), some (.int l5), some (.int y6), some (.int l7), some (.int l8), some (.long l9), none, some (.int l11), some (.int l12), some (.int l13)], [.int 0, .ref 90], (h, q))) rfl ?_
        cases hr41 : q_simple S 0 with
        | none => rw [hr41] at hv; cases hv
        | some r41 =>
          rw [hr41, o_bind] at hv
          refine sW.call rfl rfl rfl rfl (hs.rcv o90) (s173 hs hr41) ?_
          intro h42 hs42
          refine mW.sn 2 (g' := (123, [some (.ref 78), some (.ref aa), some (.int l2), some (.int l3), some (.int l4), some (.int l5), some (.int y6), some (.int l7), some (.int l8), some (.long l9), none, some (.int l11), some (.int l12), some (.int (l13 + 1))], [], (h42, q))) rfl ?_
          exact ih _ _ _ _ _ _ _ _ _ _ _ _ _ _  hs42 hv
      · rw [if_neg hc40] at hv
        refine mW.sn 1 (g' := (140, [some (.ref 78), some (.ref aa), some (.int l2), some (.int l3), some (.int l4), some (.int l5), some (.int y6), some (.int l7), some (.int l8), some (.long l9), none, some (.int l11), some (.int l12), some (.int l13)], [.ref 78], (h, q))) rfl ?_
        refine sW.getR rfl hs o78 rfl rfl ?_
        refine mW.sn 2 (g' := (146, [some (.ref 78), some (.ref aa), some (.int l2), some (.int l3), some (.int l4), some (.int l5), some (.int y6), some (.int l7), some (.int l8), some (.long l9), none, some (.int l11), some (.int l12), some (.int l13)], [.int l12, .ref aa, .ref 90], (h, q))) rfl ?_
        cases hr43 : q_copy S aa l12 with
        | none => rw [hr43] at hv; cases hv
        | some r43 =>
          rw [hr43, o_bind] at hv
          refine sW.call rfl rfl rfl rfl (hs.rcv o90) (s243 haa hs hr43) ?_
          intro h44 hs44
          refine mW.sn 2 (g' := (152, [some (.ref 78), some (.ref aa), some (.int l2), some (.int l3), some (.int l4), some (.int l5), some (.int y6), some (.int l7), some (.int l8), some (.long l9), none, some (.int l11), some (.int l12), some (.int l13)], [.int l12, .ref aa], (h44, q))) rfl ?_
          cases hr45 : r_next (r43 aa) l12 with
          | none => rw [hr45] at hv; cases hv
          | some r45 =>
            rw [hr45, o_bind] at hv
            refine sW.call rfl rfl rfl rfl rfl (sW.of hs44 (x199 (hs44.ar haa) hr45)) ?_
            intro h46 hs46
            refine mW.sn 4 (g' := (123, [some (.ref 78), some (.ref aa), some (.int l2), some (.int l3), some (.int l4), some (.int l5), some (.int y6), some (.int l7), some (.int l8), some (.long l9), none, some (.int l11), some (.int r45), some (.int (l13 + 1))], [], (h46, q))) rfl ?_
            exact ih _ _ _ _ _ _ _ _ _ _ _ _ _ _  hs46 hv
def b_putPlace (S : SS) (aa : Nat) (rec : SS → Nat → Int32 → Int32 → Int32 → Option (SS)) (p0 : Int32) (p1 : Int32) (p2 : Int32) (p3 : Int32) : Option (SS) := (if p1 = 0 then (if rd S 78 19 = 0 then none else ((r_number (S ((rd S 78 19).toNatClampNeg)) p2).bind fun r3 => (if 0 ≤ (lg_cmp r3 0) then (if (lg_cmp r3 0) < 0 then b_putPlace_l85 aa rec S else (if (lg_cmp r3 1000) ≤ 0 then ((q_open S 5).bind fun r10 => (if p1 = (5 : Int32) then ((b_cells r10.1 aa (p0 + 2) 0).bind fun r13 => b_putPlace_l123 aa rec 10000 r13 p0 p1 p2 p3 0 0 r3 r10.2 0 0) else b_putPlace_l123 aa rec 10000 r10.1 p0 p1 p2 p3 0 0 r3 r10.2 0 0)) else b_putPlace_l85 aa rec S)) else (if (lg_cmp (r3 + ((0 : Int32).toInt64)) 0) < 0 then b_putPlace_l85 aa rec S else (if (lg_cmp (r3 + ((0 : Int32).toInt64)) 1000) ≤ 0 then ((q_open S 5).bind fun r49 => (if p1 = (5 : Int32) then ((b_cells r49.1 aa (p0 + 2) 0).bind fun r52 => b_putPlace_l123 aa rec 10000 r52 p0 p1 p2 p3 0 0 (r3 + ((0 : Int32).toInt64)) r49.2 0 0) else b_putPlace_l123 aa rec 10000 r49.1 p0 p1 p2 p3 0 0 (r3 + ((0 : Int32).toInt64)) r49.2 0 0)) else b_putPlace_l85 aa rec S))))) else ((b_between S aa).bind fun r54 => (if rd S 78 19 = 0 then none else ((r_number (S ((rd S 78 19).toNatClampNeg)) p2).bind fun r57 => (if 0 ≤ (lg_cmp r57 0) then (if (lg_cmp r57 0) < 0 then b_putPlace_l85 aa rec S else (if (lg_cmp r57 1000) ≤ 0 then ((q_open S 5).bind fun r62 => (if p1 = (5 : Int32) then ((b_cells r62.1 aa (p0 + 2) (rd S 78 17)).bind fun r65 => b_putPlace_l123 aa rec 10000 r65 p0 p1 p2 p3 (rd S 78 18) r54 r57 r62.2 (rd S 78 17) 0) else b_putPlace_l123 aa rec 10000 r62.1 p0 p1 p2 p3 (rd S 78 18) r54 r57 r62.2 (rd S 78 17) 0)) else b_putPlace_l85 aa rec S)) else (if (lg_cmp (r57 + r54.toInt64) 0) < 0 then b_putPlace_l85 aa rec S else (if (lg_cmp (r57 + r54.toInt64) 1000) ≤ 0 then ((q_open S 5).bind fun r69 => (if p1 = (5 : Int32) then ((b_cells r69.1 aa (p0 + 2) (rd S 78 17)).bind fun r72 => b_putPlace_l123 aa rec 10000 r72 p0 p1 p2 p3 (rd S 78 18) r54 (r57 + r54.toInt64) r69.2 (rd S 78 17) 0) else b_putPlace_l123 aa rec 10000 r69.1 p0 p1 p2 p3 (rd S 78 18) r54 (r57 + r54.toInt64) r69.2 (rd S 78 17) 0)) else b_putPlace_l85 aa rec S)))))))
theorem s245 {S : SS} {aa : Nat} (haa : aa ∈ shA) {rec : SS → Nat → Int32 → Int32 → Int32 → Option (SS)} (hrec : ∀ (e : Nat), d ≤ e → ∀ (h : mH) (S : SS) (aa : Nat) (p0 : Int32) (p1 : Int32) (p2 : Int32) (v : SS), aa ∈ shA → cs h S → rec S aa p0 p1 p2 = some v → mW e mm240 (0, [some (.ref 78), some (.ref aa), some (.int p0), some (.int p1), some (.int p2), none, none, none], [], (h, q)) (mQ q v none)) {p0 : Int32} {p1 : Int32} {p2 : Int32} {p3 : Int32} {v : SS} (hs : cs h S) (hv : b_putPlace S aa rec p0 p1 p2 p3 = some v) : mW (d + 3) mm245 (0, [some (.ref 78), some (.ref aa), some (.int p0), some (.int p1), some (.int p2), some (.int p3), none, none, none, none, none, none, none, none], [], (h, q)) (mQ q v none) := by
  unfold b_putPlace at hv
  refine mW.sn 1 (g' := (1, [some (.ref 78), some (.ref aa), some (.int p0), some (.int p1), some (.int p2), some (.int p3), none, none, none, none, none, none, none, none], [.int p1], (h, q))) rfl ?_
  refine mW.br (g1 := (4, [some (.ref 78), some (.ref aa), some (.int p0), some (.int p1), some (.int p2), some (.int p3), none, none, none, none, none, none, none, none], [], (h, q))) (g2 := (8, [some (.ref 78), some (.ref aa), some (.int p0), some (.int p1), some (.int p2), some (.int p3), none, none, none, none, none, none, none, none], [], (h, q))) (c := p1 = 0) rfl (fun hc1 => ?_) (fun hc1 => ?_)
  · rw [if_pos hc1] at hv
    refine mW.sn 4 (g' := (15, [some (.ref 78), some (.ref aa), some (.int p0), some (.int p1), some (.int p2), some (.int p3), some (.int 0), none, none, none, none, none, none, none], [.int p1], (h, q))) rfl ?_
    refine mW.yes (g1 := (18, [some (.ref 78), some (.ref aa), some (.int p0), some (.int p1), some (.int p2), some (.int p3), some (.int 0), none, none, none, none, none, none, none], [], (h, q))) (g2 := (22, [some (.ref 78), some (.ref aa), some (.int p0), some (.int p1), some (.int p2), some (.int p3), some (.int 0), none, none, none, none, none, none, none], [], (h, q))) (c := p1 = 0) rfl hc1 ?_
    refine mW.sn 4 (g' := (29, [some (.ref 78), some (.ref aa), some (.int p0), some (.int p1), some (.int p2), some (.int p3), some (.int 0), some (.int 0), none, none, none, none, none, none], [.int p1], (h, q))) rfl ?_
    refine mW.yes (g1 := (32, [some (.ref 78), some (.ref aa), some (.int p0), some (.int p1), some (.int p2), some (.int p3), some (.int 0), some (.int 0), none, none, none, none, none, none], [], (h, q))) (g2 := (36, [some (.ref 78), some (.ref aa), some (.int p0), some (.int p1), some (.int p2), some (.int p3), some (.int 0), some (.int 0), none, none, none, none, none, none], [], (h, q))) (c := p1 = 0) rfl hc1 ?_
    refine mW.sn 4 (g' := (44, [some (.ref 78), some (.ref aa), some (.int p0), some (.int p1), some (.int p2), some (.int p3), some (.int 0), some (.int 0), some (.int 0), none, none, none, none, none], [.ref 78], (h, q))) rfl ?_
    by_cases hz2 : rd S 78 19 = 0
    · rw [if_pos hz2] at hv; cases hv
    rw [if_neg hz2] at hv
    refine sW.getN rfl hs o78 rfl rfl hz2 ?_
    refine mW.sn 1 (g' := (49, [some (.ref 78), some (.ref aa), some (.int p0), some (.int p1), some (.int p2), some (.int p3), some (.int 0), some (.int 0), some (.int 0), none, none, none, none, none], [.int p2, .ref ((rd S 78 19).toNatClampNeg)], (h, q))) rfl ?_
    cases hr3 : r_number (S ((rd S 78 19).toNatClampNeg)) p2 with
    | none => rw [hr3] at hv; cases hv
    | some r3 =>
      rw [hr3, o_bind] at hv
      refine sW.call rfl rfl rfl rfl rfl (sW.of hs (x208 (hs.ar (hs.okA o78 rfl hz2)) hr3)) ?_
      intro h4 hs4
      refine mW.sn 4 (g' := (58, [some (.ref 78), some (.ref aa), some (.int p0), some (.int p1), some (.int p2), some (.int p3), some (.int 0), some (.int 0), some (.int 0), some (.long r3), none, none, none, none], [.int (lg_cmp r3 0)], (h4, q))) rfl ?_
      refine mW.br (g1 := (69, [some (.ref 78), some (.ref aa), some (.int p0), some (.int p1), some (.int p2), some (.int p3), some (.int 0), some (.int 0), some (.int 0), some (.long r3), none, none, none, none], [], (h4, q))) (g2 := (61, [some (.ref 78), some (.ref aa), some (.int p0), some (.int p1), some (.int p2), some (.int p3), some (.int 0), some (.int 0), some (.int 0), some (.long r3), none, none, none, none], [], (h4, q))) (c := 0 ≤ (lg_cmp r3 0)) rfl (fun hc5 => ?_) (fun hc5 => ?_)
      · rw [if_pos hc5] at hv
        refine mW.sn 3 (g' := (73, [some (.ref 78), some (.ref aa), some (.int p0), some (.int p1), some (.int p2), some (.int p3), some (.int 0), some (.int 0), some (.int 0), some (.long r3), none, none, none, none], [.int (lg_cmp r3 0)], (h4, q))) rfl ?_
        refine mW.br (g1 := (85, [some (.ref 78), some (.ref aa), some (.int p0), some (.int p1), some (.int p2), some (.int p3), some (.int 0), some (.int 0), some (.int 0), some (.long r3), none, none, none, none], [], (h4, q))) (g2 := (76, [some (.ref 78), some (.ref aa), some (.int p0), some (.int p1), some (.int p2), some (.int p3), some (.int 0), some (.int 0), some (.int 0), some (.long r3), none, none, none, none], [], (h4, q))) (c := (lg_cmp r3 0) < 0) rfl (fun hc6 => ?_) (fun hc6 => ?_)
        · rw [if_pos hc6] at hv
          exact b_putPlace_l85_ok haa hrec _ _ _ _ _ _ _ _ _ _ _ _ _ _ _ _  hs4 hv
        · rw [if_neg hc6] at hv
          refine mW.sn 3 (g' := (82, [some (.ref 78), some (.ref aa), some (.int p0), some (.int p1), some (.int p2), some (.int p3), some (.int 0), some (.int 0), some (.int 0), some (.long r3), none, none, none, none], [.int (lg_cmp r3 1000)], (h4, q))) rfl ?_
          refine mW.br (g1 := (91, [some (.ref 78), some (.ref aa), some (.int p0), some (.int p1), some (.int p2), some (.int p3), some (.int 0), some (.int 0), some (.int 0), some (.long r3), none, none, none, none], [], (h4, q))) (g2 := (85, [some (.ref 78), some (.ref aa), some (.int p0), some (.int p1), some (.int p2), some (.int p3), some (.int 0), some (.int 0), some (.int 0), some (.long r3), none, none, none, none], [], (h4, q))) (c := (lg_cmp r3 1000) ≤ 0) rfl (fun hc9 => ?_) (fun hc9 => ?_)
          · rw [if_pos hc9] at hv
            refine mW.sn 1 (g' := (92, [some (.ref 78), some (.ref aa), some (.int p0), some (.int p1), some (.int p2), some (.int p3), some (.int 0), some (.int 0), some (.int 0), some (.long r3), none, none, none, none], [.ref 78], (h4, q))) rfl ?_
            refine sW.getR rfl hs4 o78 rfl rfl ?_
            refine mW.sn 1 (g' := (96, [some (.ref 78), some (.ref aa), some (.int p0), some (.int p1), some (.int p2), some (.int p3), some (.int 0), some (.int 0), some (.int 0), some (.long r3), none, none, none, none], [.int 5, .ref 90], (h4, q))) rfl ?_
            cases hr10 : q_open S 5 with
            | none => rw [hr10] at hv; cases hv
            | some r10 =>
              rw [hr10, o_bind] at hv
              refine sW.call rfl rfl rfl rfl (hs4.rcv o90) (s174 hs4 hr10) ?_
              intro h11 hs11
              refine mW.sn 3 (g' := (103, [some (.ref 78), some (.ref aa), some (.int p0), some (.int p1), some (.int p2), some (.int p3), some (.int 0), some (.int 0), some (.int 0), some (.long r3), none, some (.int r10.2), none, none], [.int 5, .int p1], (h11, q))) rfl ?_
              refine mW.br (g1 := (106, [some (.ref 78), some (.ref aa), some (.int p0), some (.int p1), some (.int p2), some (.int p3), some (.int 0), some (.int 0), some (.int 0), some (.long r3), none, some (.int r10.2), none, none], [], (h11, q))) (g2 := (116, [some (.ref 78), some (.ref aa), some (.int p0), some (.int p1), some (.int p2), some (.int p3), some (.int 0), some (.int 0), some (.int 0), some (.long r3), none, some (.int r10.2), none, none], [], (h11, q))) (c := p1 = (5 : Int32)) rfl (fun hc12 => ?_) (fun hc12 => ?_)
              · rw [if_pos hc12] at hv
                refine mW.sn 6 (g' := (113, [some (.ref 78), some (.ref aa), some (.int p0), some (.int p1), some (.int p2), some (.int p3), some (.int 0), some (.int 0), some (.int 0), some (.long r3), none, some (.int r10.2), none, none], [.int 0, .int (p0 + 2), .ref aa, .ref 78], (h11, q))) rfl ?_
                cases hr13 : b_cells r10.1 aa (p0 + 2) 0 with
                | none => rw [hr13] at hv; cases hv
                | some r13 =>
                  rw [hr13, o_bind] at hv
                  refine sW.call rfl rfl rfl rfl (hs11.rcv o78) (s236 haa hs11 hr13) ?_
                  intro h14 hs14
                  refine mW.sn 4 (g' := (123, [some (.ref 78), some (.ref aa), some (.int p0), some (.int p1), some (.int p2), some (.int p3), some (.int 0), some (.int 0), some (.int 0), some (.long r3), none, some (.int r10.2), some (.int 0), some (.int 0)], [], (h14, q))) rfl ?_
                  exact b_putPlace_l123_ok haa hrec _ _ _ _ _ _ _ _ _ _ _ _ _ _ _  hs14 hv
              · rw [if_neg hc12] at hv
                refine mW.sn 4 (g' := (123, [some (.ref 78), some (.ref aa), some (.int p0), some (.int p1), some (.int p2), some (.int p3), some (.int 0), some (.int 0), some (.int 0), some (.long r3), none, some (.int r10.2), some (.int 0), some (.int 0)], [], (h11, q))) rfl ?_
                exact b_putPlace_l123_ok haa hrec _ _ _ _ _ _ _ _ _ _ _ _ _ _ _  hs11 hv
          · rw [if_neg hc9] at hv
            exact b_putPlace_l85_ok haa hrec _ _ _ _ _ _ _ _ _ _ _ _ _ _ _ _  hs4 hv
      · rw [if_neg hc5] at hv
        refine mW.sn 8 (g' := (73, [some (.ref 78), some (.ref aa), some (.int p0), some (.int p1), some (.int p2), some (.int p3), some (.int 0), some (.int 0), some (.int 0), some (.long (r3 + ((0 : Int32).toInt64))), none, none, none, none], [.int (lg_cmp (r3 + ((0 : Int32).toInt64)) 0)], (h4, q))) rfl ?_
        refine mW.br (g1 := (85, [some (.ref 78), some (.ref aa), some (.int p0), some (.int p1), some (.int p2), some (.int p3), some (.int 0), some (.int 0), some (.int 0), some (.long (r3 + ((0 : Int32).toInt64))), none, none, none, none], [], (h4, q))) (g2 := (76, [some (.ref 78), some (.ref aa), some (.int p0), some (.int p1), some (.int p2), some (.int p3), some (.int 0), some (.int 0), some (.int 0), some (.long (r3 + ((0 : Int32).toInt64))), none, none, none, none], [], (h4, q))) (c := (lg_cmp (r3 + ((0 : Int32).toInt64)) 0) < 0) rfl (fun hc47 => ?_) (fun hc47 => ?_)
        · rw [if_pos hc47] at hv
          exact b_putPlace_l85_ok haa hrec _ _ _ _ _ _ _ _ _ _ _ _ _ _ _ _  hs4 hv
        · rw [if_neg hc47] at hv
          refine mW.sn 3 (g' := (82, [some (.ref 78), some (.ref aa), some (.int p0), some (.int p1), some (.int p2), some (.int p3), some (.int 0), some (.int 0), some (.int 0), some (.long (r3 + ((0 : Int32).toInt64))), none, none, none, none], [.int (lg_cmp (r3 + ((0 : Int32).toInt64)) 1000)], (h4, q))) rfl ?_
          refine mW.br (g1 := (91, [some (.ref 78), some (.ref aa), some (.int p0), some (.int p1), some (.int p2), some (.int p3), some (.int 0), some (.int 0), some (.int 0), some (.long (r3 + ((0 : Int32).toInt64))), none, none, none, none], [], (h4, q))) (g2 := (85, [some (.ref 78), some (.ref aa), some (.int p0), some (.int p1), some (.int p2), some (.int p3), some (.int 0), some (.int 0), some (.int 0), some (.long (r3 + ((0 : Int32).toInt64))), none, none, none, none], [], (h4, q))) (c := (lg_cmp (r3 + ((0 : Int32).toInt64)) 1000) ≤ 0) rfl (fun hc48 => ?_) (fun hc48 => ?_)
          · rw [if_pos hc48] at hv
            refine mW.sn 1 (g' := (92, [some (.ref 78), some (.ref aa), some (.int p0), some (.int p1), some (.int p2), some (.int p3), some (.int 0), some (.int 0), some (.int 0), some (.long (r3 + ((0 : Int32).toInt64))), none, none, none, none], [.ref 78], (h4, q))) rfl ?_
            refine sW.getR rfl hs4 o78 rfl rfl ?_
            refine mW.sn 1 (g' := (96, [some (.ref 78), some (.ref aa), some (.int p0), some (.int p1), some (.int p2), some (.int p3), some (.int 0), some (.int 0), some (.int 0), some (.long (r3 + ((0 : Int32).toInt64))), none, none, none, none], [.int 5, .ref 90], (h4, q))) rfl ?_
            cases hr49 : q_open S 5 with
            | none => rw [hr49] at hv; cases hv
            | some r49 =>
              rw [hr49, o_bind] at hv
              refine sW.call rfl rfl rfl rfl (hs4.rcv o90) (s174 hs4 hr49) ?_
              intro h50 hs50
              refine mW.sn 3 (g' := (103, [some (.ref 78), some (.ref aa), some (.int p0), some (.int p1), some (.int p2), some (.int p3), some (.int 0), some (.int 0), some (.int 0), some (.long (r3 + ((0 : Int32).toInt64))), none, some (.int r49.2), none, none], [.int 5, .int p1], (h50, q))) rfl ?_
              refine mW.br (g1 := (106, [some (.ref 78), some (.ref aa), some (.int p0), some (.int p1), some (.int p2), some (.int p3), some (.int 0), some (.int 0), some (.int 0), some (.long (r3 + ((0 : Int32).toInt64))), none, some (.int r49.2), none, none], [], (h50, q))) (g2 := (116, [some (.ref 78), some (.ref aa), some (.int p0), some (.int p1), some (.int p2), some (.int p3), some (.int 0), some (.int 0), some (.int 0), some (.long (r3 + ((0 : Int32).toInt64))), none, some (.int r49.2), none, none], [], (h50, q))) (c := p1 = (5 : Int32)) rfl (fun hc51 => ?_) (fun hc51 => ?_)
              · rw [if_pos hc51] at hv
                refine mW.sn 6 (g' := (113, [some (.ref 78), some (.ref aa), some (.int p0), some (.int p1), some (.int p2), some (.int p3), some (.int 0), some (.int 0), some (.int 0), some (.long (r3 + ((0 : Int32).toInt64))), none, some (.int r49.2), none, none], [.int 0, .int (p0 + 2), .ref aa, .ref 78], (h50, q))) rfl ?_
                cases hr52 : b_cells r49.1 aa (p0 + 2) 0 with
                | none => rw [hr52] at hv; cases hv
                | some r52 =>
                  rw [hr52, o_bind] at hv
                  refine sW.call rfl rfl rfl rfl (hs50.rcv o78) (s236 haa hs50 hr52) ?_
                  intro h53 hs53
                  refine mW.sn 4 (g' := (123, [some (.ref 78), some (.ref aa), some (.int p0), some (.int p1), some (.int p2), some (.int p3), some (.int 0), some (.int 0), some (.int 0), some (.long (r3 + ((0 : Int32).toInt64))), none, some (.int r49.2), some (.int 0), some (.int 0)], [], (h53, q))) rfl ?_
                  exact b_putPlace_l123_ok haa hrec _ _ _ _ _ _ _ _ _ _ _ _ _ _ _  hs53 hv
              · rw [if_neg hc51] at hv
                refine mW.sn 4 (g' := (123, [some (.ref 78), some (.ref aa), some (.int p0), some (.int p1), some (.int p2), some (.int p3), some (.int 0), some (.int 0), some (.int 0), some (.long (r3 + ((0 : Int32).toInt64))), none, some (.int r49.2), some (.int 0), some (.int 0)], [], (h50, q))) rfl ?_
                exact b_putPlace_l123_ok haa hrec _ _ _ _ _ _ _ _ _ _ _ _ _ _ _  hs50 hv
          · rw [if_neg hc48] at hv
            exact b_putPlace_l85_ok haa hrec _ _ _ _ _ _ _ _ _ _ _ _ _ _ _ _  hs4 hv
  · rw [if_neg hc1] at hv
    refine mW.sn 1 (g' := (9, [some (.ref 78), some (.ref aa), some (.int p0), some (.int p1), some (.int p2), some (.int p3), none, none, none, none, none, none, none, none], [.ref 78], (h, q))) rfl ?_
    refine sW.getI rfl hs o78 rfl rfl ?_
    refine mW.sn 2 (g' := (15, [some (.ref 78), some (.ref aa), some (.int p0), some (.int p1), some (.int p2), some (.int p3), some (.int (rd S 78 17)), none, none, none, none, none, none, none], [.int p1], (h, q))) rfl ?_
    refine mW.no (g1 := (18, [some (.ref 78), some (.ref aa), some (.int p0), some (.int p1), some (.int p2), some (.int p3), some (.int (rd S 78 17)), none, none, none, none, none, none, none], [], (h, q))) (g2 := (22, [some (.ref 78), some (.ref aa), some (.int p0), some (.int p1), some (.int p2), some (.int p3), some (.int (rd S 78 17)), none, none, none, none, none, none, none], [], (h, q))) (c := p1 = 0) rfl hc1 ?_
    refine mW.sn 1 (g' := (23, [some (.ref 78), some (.ref aa), some (.int p0), some (.int p1), some (.int p2), some (.int p3), some (.int (rd S 78 17)), none, none, none, none, none, none, none], [.ref 78], (h, q))) rfl ?_
    refine sW.getI rfl hs o78 rfl rfl ?_
    refine mW.sn 2 (g' := (29, [some (.ref 78), some (.ref aa), some (.int p0), some (.int p1), some (.int p2), some (.int p3), some (.int (rd S 78 17)), some (.int (rd S 78 18)), none, none, none, none, none, none], [.int p1], (h, q))) rfl ?_
    refine mW.no (g1 := (32, [some (.ref 78), some (.ref aa), some (.int p0), some (.int p1), some (.int p2), some (.int p3), some (.int (rd S 78 17)), some (.int (rd S 78 18)), none, none, none, none, none, none], [], (h, q))) (g2 := (36, [some (.ref 78), some (.ref aa), some (.int p0), some (.int p1), some (.int p2), some (.int p3), some (.int (rd S 78 17)), some (.int (rd S 78 18)), none, none, none, none, none, none], [], (h, q))) (c := p1 = 0) rfl hc1 ?_
    refine mW.sn 2 (g' := (38, [some (.ref 78), some (.ref aa), some (.int p0), some (.int p1), some (.int p2), some (.int p3), some (.int (rd S 78 17)), some (.int (rd S 78 18)), none, none, none, none, none, none], [.ref aa, .ref 78], (h, q))) rfl ?_
    cases hr54 : b_between S aa with
    | none => rw [hr54] at hv; cases hv
    | some r54 =>
      rw [hr54, o_bind] at hv
      refine sW.call rfl rfl rfl rfl (hs.rcv o78) (s232 haa hs hr54) ?_
      intro h55 hs55
      refine mW.sn 2 (g' := (44, [some (.ref 78), some (.ref aa), some (.int p0), some (.int p1), some (.int p2), some (.int p3), some (.int (rd S 78 17)), some (.int (rd S 78 18)), some (.int r54), none, none, none, none, none], [.ref 78], (h55, q))) rfl ?_
      by_cases hz56 : rd S 78 19 = 0
      · rw [if_pos hz56] at hv; cases hv
      rw [if_neg hz56] at hv
      refine sW.getN rfl hs55 o78 rfl rfl hz56 ?_
      refine mW.sn 1 (g' := (49, [some (.ref 78), some (.ref aa), some (.int p0), some (.int p1), some (.int p2), some (.int p3), some (.int (rd S 78 17)), some (.int (rd S 78 18)), some (.int r54), none, none, none, none, none], [.int p2, .ref ((rd S 78 19).toNatClampNeg)], (h55, q))) rfl ?_
      cases hr57 : r_number (S ((rd S 78 19).toNatClampNeg)) p2 with
      | none => rw [hr57] at hv; cases hv
      | some r57 =>
        rw [hr57, o_bind] at hv
        refine sW.call rfl rfl rfl rfl rfl (sW.of hs55 (x208 (hs55.ar (hs55.okA o78 rfl hz56)) hr57)) ?_
        intro h58 hs58
        refine mW.sn 4 (g' := (58, [some (.ref 78), some (.ref aa), some (.int p0), some (.int p1), some (.int p2), some (.int p3), some (.int (rd S 78 17)), some (.int (rd S 78 18)), some (.int r54), some (.long r57), none, none, none, none], [.int (lg_cmp r57 0)], (h58, q))) rfl ?_
        refine mW.br (g1 := (69, [some (.ref 78), some (.ref aa), some (.int p0), some (.int p1), some (.int p2), some (.int p3), some (.int (rd S 78 17)), some (.int (rd S 78 18)), some (.int r54), some (.long r57), none, none, none, none], [], (h58, q))) (g2 := (61, [some (.ref 78), some (.ref aa), some (.int p0), some (.int p1), some (.int p2), some (.int p3), some (.int (rd S 78 17)), some (.int (rd S 78 18)), some (.int r54), some (.long r57), none, none, none, none], [], (h58, q))) (c := 0 ≤ (lg_cmp r57 0)) rfl (fun hc59 => ?_) (fun hc59 => ?_)
        · rw [if_pos hc59] at hv
          refine mW.sn 3 (g' := (73, [some (.ref 78), some (.ref aa), some (.int p0), some (.int p1), some (.int p2), some (.int p3), some (.int (rd S 78 17)), some (.int (rd S 78 18)), some (.int r54), some (.long r57), none, none, none, none], [.int (lg_cmp r57 0)], (h58, q))) rfl ?_
          refine mW.br (g1 := (85, [some (.ref 78), some (.ref aa), some (.int p0), some (.int p1), some (.int p2), some (.int p3), some (.int (rd S 78 17)), some (.int (rd S 78 18)), some (.int r54), some (.long r57), none, none, none, none], [], (h58, q))) (g2 := (76, [some (.ref 78), some (.ref aa), some (.int p0), some (.int p1), some (.int p2), some (.int p3), some (.int (rd S 78 17)), some (.int (rd S 78 18)), some (.int r54), some (.long r57), none, none, none, none], [], (h58, q))) (c := (lg_cmp r57 0) < 0) rfl (fun hc60 => ?_) (fun hc60 => ?_)
          · rw [if_pos hc60] at hv
            exact b_putPlace_l85_ok haa hrec _ _ _ _ _ _ _ _ _ _ _ _ _ _ _ _  hs58 hv
          · rw [if_neg hc60] at hv
            refine mW.sn 3 (g' := (82, [some (.ref 78), some (.ref aa), some (.int p0), some (.int p1), some (.int p2), some (.int p3), some (.int (rd S 78 17)), some (.int (rd S 78 18)), some (.int r54), some (.long r57), none, none, none, none], [.int (lg_cmp r57 1000)], (h58, q))) rfl ?_
            refine mW.br (g1 := (91, [some (.ref 78), some (.ref aa), some (.int p0), some (.int p1), some (.int p2), some (.int p3), some (.int (rd S 78 17)), some (.int (rd S 78 18)), some (.int r54), some (.long r57), none, none, none, none], [], (h58, q))) (g2 := (85, [some (.ref 78), some (.ref aa), some (.int p0), some (.int p1), some (.int p2), some (.int p3), some (.int (rd S 78 17)), some (.int (rd S 78 18)), some (.int r54), some (.long r57), none, none, none, none], [], (h58, q))) (c := (lg_cmp r57 1000) ≤ 0) rfl (fun hc61 => ?_) (fun hc61 => ?_)
            · rw [if_pos hc61] at hv
              refine mW.sn 1 (g' := (92, [some (.ref 78), some (.ref aa), some (.int p0), some (.int p1), some (.int p2), some (.int p3), some (.int (rd S 78 17)), some (.int (rd S 78 18)), some (.int r54), some (.long r57), none, none, none, none], [.ref 78], (h58, q))) rfl ?_
              refine sW.getR rfl hs58 o78 rfl rfl ?_
              refine mW.sn 1 (g' := (96, [some (.ref 78), some (.ref aa), some (.int p0), some (.int p1), some (.int p2), some (.int p3), some (.int (rd S 78 17)), some (.int (rd S 78 18)), some (.int r54), some (.long r57), none, none, none, none], [.int 5, .ref 90], (h58, q))) rfl ?_
              cases hr62 : q_open S 5 with
              | none => rw [hr62] at hv; cases hv
              | some r62 =>
                rw [hr62, o_bind] at hv
                refine sW.call rfl rfl rfl rfl (hs58.rcv o90) (s174 hs58 hr62) ?_
                intro h63 hs63
                refine mW.sn 3 (g' := (103, [some (.ref 78), some (.ref aa), some (.int p0), some (.int p1), some (.int p2), some (.int p3), some (.int (rd S 78 17)), some (.int (rd S 78 18)), some (.int r54), some (.long r57), none, some (.int r62.2), none, none], [.int 5, .int p1], (h63, q))) rfl ?_
                refine mW.br (g1 := (106, [some (.ref 78), some (.ref aa), some (.int p0), some (.int p1), some (.int p2), some (.int p3), some (.int (rd S 78 17)), some (.int (rd S 78 18)), some (.int r54), some (.long r57), none, some (.int r62.2), none, none], [], (h63, q))) (g2 := (116, [some (.ref 78), some (.ref aa), some (.int p0), some (.int p1), some (.int p2), some (.int p3), some (.int (rd S 78 17)), some (.int (rd S 78 18)), some (.int r54), some (.long r57), none, some (.int r62.2), none, none], [], (h63, q))) (c := p1 = (5 : Int32)) rfl (fun hc64 => ?_) (fun hc64 => ?_)
                · rw [if_pos hc64] at hv
                  refine mW.sn 6 (g' := (113, [some (.ref 78), some (.ref aa), some (.int p0), some (.int p1), some (.int p2), some (.int p3), some (.int (rd S 78 17)), some (.int (rd S 78 18)), some (.int r54), some (.long r57), none, some (.int r62.2), none, none], [.int (rd S 78 17), .int (p0 + 2), .ref aa, .ref 78], (h63, q))) rfl ?_
                  cases hr65 : b_cells r62.1 aa (p0 + 2) (rd S 78 17) with
                  | none => rw [hr65] at hv; cases hv
                  | some r65 =>
                    rw [hr65, o_bind] at hv
                    refine sW.call rfl rfl rfl rfl (hs63.rcv o78) (s236 haa hs63 hr65) ?_
                    intro h66 hs66
                    refine mW.sn 4 (g' := (123, [some (.ref 78), some (.ref aa), some (.int p0), some (.int p1), some (.int p2), some (.int p3), some (.int (rd S 78 17)), some (.int (rd S 78 18)), some (.int r54), some (.long r57), none, some (.int r62.2), some (.int (rd S 78 17)), some (.int 0)], [], (h66, q))) rfl ?_
                    exact b_putPlace_l123_ok haa hrec _ _ _ _ _ _ _ _ _ _ _ _ _ _ _  hs66 hv
                · rw [if_neg hc64] at hv
                  refine mW.sn 4 (g' := (123, [some (.ref 78), some (.ref aa), some (.int p0), some (.int p1), some (.int p2), some (.int p3), some (.int (rd S 78 17)), some (.int (rd S 78 18)), some (.int r54), some (.long r57), none, some (.int r62.2), some (.int (rd S 78 17)), some (.int 0)], [], (h63, q))) rfl ?_
                  exact b_putPlace_l123_ok haa hrec _ _ _ _ _ _ _ _ _ _ _ _ _ _ _  hs63 hv
            · rw [if_neg hc61] at hv
              exact b_putPlace_l85_ok haa hrec _ _ _ _ _ _ _ _ _ _ _ _ _ _ _ _  hs58 hv
        · rw [if_neg hc59] at hv
          refine mW.sn 8 (g' := (73, [some (.ref 78), some (.ref aa), some (.int p0), some (.int p1), some (.int p2), some (.int p3), some (.int (rd S 78 17)), some (.int (rd S 78 18)), some (.int r54), some (.long (r57 + r54.toInt64)), none, none, none, none], [.int (lg_cmp (r57 + r54.toInt64) 0)], (h58, q))) rfl ?_
          refine mW.br (g1 := (85, [some (.ref 78), some (.ref aa), some (.int p0), some (.int p1), some (.int p2), some (.int p3), some (.int (rd S 78 17)), some (.int (rd S 78 18)), some (.int r54), some (.long (r57 + r54.toInt64)), none, none, none, none], [], (h58, q))) (g2 := (76, [some (.ref 78), some (.ref aa), some (.int p0), some (.int p1), some (.int p2), some (.int p3), some (.int (rd S 78 17)), some (.int (rd S 78 18)), some (.int r54), some (.long (r57 + r54.toInt64)), none, none, none, none], [], (h58, q))) (c := (lg_cmp (r57 + r54.toInt64) 0) < 0) rfl (fun hc67 => ?_) (fun hc67 => ?_)
          · rw [if_pos hc67] at hv
            exact b_putPlace_l85_ok haa hrec _ _ _ _ _ _ _ _ _ _ _ _ _ _ _ _  hs58 hv
          · rw [if_neg hc67] at hv
            refine mW.sn 3 (g' := (82, [some (.ref 78), some (.ref aa), some (.int p0), some (.int p1), some (.int p2), some (.int p3), some (.int (rd S 78 17)), some (.int (rd S 78 18)), some (.int r54), some (.long (r57 + r54.toInt64)), none, none, none, none], [.int (lg_cmp (r57 + r54.toInt64) 1000)], (h58, q))) rfl ?_
            refine mW.br (g1 := (91, [some (.ref 78), some (.ref aa), some (.int p0), some (.int p1), some (.int p2), some (.int p3), some (.int (rd S 78 17)), some (.int (rd S 78 18)), some (.int r54), some (.long (r57 + r54.toInt64)), none, none, none, none], [], (h58, q))) (g2 := (85, [some (.ref 78), some (.ref aa), some (.int p0), some (.int p1), some (.int p2), some (.int p3), some (.int (rd S 78 17)), some (.int (rd S 78 18)), some (.int r54), some (.long (r57 + r54.toInt64)), none, none, none, none], [], (h58, q))) (c := (lg_cmp (r57 + r54.toInt64) 1000) ≤ 0) rfl (fun hc68 => ?_) (fun hc68 => ?_)
            · rw [if_pos hc68] at hv
              refine mW.sn 1 (g' := (92, [some (.ref 78), some (.ref aa), some (.int p0), some (.int p1), some (.int p2), some (.int p3), some (.int (rd S 78 17)), some (.int (rd S 78 18)), some (.int r54), some (.long (r57 + r54.toInt64)), none, none, none, none], [.ref 78], (h58, q))) rfl ?_
              refine sW.getR rfl hs58 o78 rfl rfl ?_
              refine mW.sn 1 (g' := (96, [some (.ref 78), some (.ref aa), some (.int p0), some (.int p1), some (.int p2), some (.int p3), some (.int (rd S 78 17)), some (.int (rd S 78 18)), some (.int r54), some (.long (r57 + r54.toInt64)), none, none, none, none], [.int 5, .ref 90], (h58, q))) rfl ?_
              cases hr69 : q_open S 5 with
              | none => rw [hr69] at hv; cases hv
              | some r69 =>
                rw [hr69, o_bind] at hv
                refine sW.call rfl rfl rfl rfl (hs58.rcv o90) (s174 hs58 hr69) ?_
                intro h70 hs70
                refine mW.sn 3 (g' := (103, [some (.ref 78), some (.ref aa), some (.int p0), some (.int p1), some (.int p2), some (.int p3), some (.int (rd S 78 17)), some (.int (rd S 78 18)), some (.int r54), some (.long (r57 + r54.toInt64)), none, some (.int r69.2), none, none], [.int 5, .int p1], (h70, q))) rfl ?_
                refine mW.br (g1 := (106, [some (.ref 78), some (.ref aa), some (.int p0), some (.int p1), some (.int p2), some (.int p3), some (.int (rd S 78 17)), some (.int (rd S 78 18)), some (.int r54), some (.long (r57 + r54.toInt64)), none, some (.int r69.2), none, none], [], (h70, q))) (g2 := (116, [some (.ref 78), some (.ref aa), some (.int p0), some (.int p1), some (.int p2), some (.int p3), some (.int (rd S 78 17)), some (.int (rd S 78 18)), some (.int r54), some (.long (r57 + r54.toInt64)), none, some (.int r69.2), none, none], [], (h70, q))) (c := p1 = (5 : Int32)) rfl (fun hc71 => ?_) (fun hc71 => ?_)
                · rw [if_pos hc71] at hv
                  refine mW.sn 6 (g' := (113, [some (.ref 78), some (.ref aa), some (.int p0), some (.int p1), some (.int p2), some (.int p3), some (.int (rd S 78 17)), some (.int (rd S 78 18)), some (.int r54), some (.long (r57 + r54.toInt64)), none, some (.int r69.2), none, none], [.int (rd S 78 17), .int (p0 + 2), .ref aa, .ref 78], (h70, q))) rfl ?_
                  cases hr72 : b_cells r69.1 aa (p0 + 2) (rd S 78 17) with
                  | none => rw [hr72] at hv; cases hv
                  | some r72 =>
                    rw [hr72, o_bind] at hv
                    refine sW.call rfl rfl rfl rfl (hs70.rcv o78) (s236 haa hs70 hr72) ?_
                    intro h73 hs73
                    refine mW.sn 4 (g' := (123, [some (.ref 78), some (.ref aa), some (.int p0), some (.int p1), some (.int p2), some (.int p3), some (.int (rd S 78 17)), some (.int (rd S 78 18)), some (.int r54), some (.long (r57 + r54.toInt64)), none, some (.int r69.2), some (.int (rd S 78 17)), some (.int 0)], [], (h73, q))) rfl ?_
                    exact b_putPlace_l123_ok haa hrec _ _ _ _ _ _ _ _ _ _ _ _ _ _ _  hs73 hv
                · rw [if_neg hc71] at hv
                  refine mW.sn 4 (g' := (123, [some (.ref 78), some (.ref aa), some (.int p0), some (.int p1), some (.int p2), some (.int p3), some (.int (rd S 78 17)), some (.int (rd S 78 18)), some (.int r54), some (.long (r57 + r54.toInt64)), none, some (.int r69.2), some (.int (rd S 78 17)), some (.int 0)], [], (h70, q))) rfl ?_
                  exact b_putPlace_l123_ok haa hrec _ _ _ _ _ _ _ _ _ _ _ _ _ _ _  hs70 hv
            · rw [if_neg hc68] at hv
              exact b_putPlace_l85_ok haa hrec _ _ _ _ _ _ _ _ _ _ _ _ _ _ _ _  hs58 hv
def b_putB_l118 (aa : Nat) (rec : SS → Nat → Int32 → Int32 → Int32 → Option (SS)) (k66 : SS → Int32 → Int32 → Int32 → Int32 → Int32 → Option (SS)) (S : SS) (l2 : Int32) (l4 : Int32) (l5 : Int32) (l6 : Int32) : Option (SS) := (if l5 = (5 : Int32) then (if rd S 78 19 = 0 then none else ((b_narrow S aa ((rd S 78 19).toNatClampNeg) 0 l6).bind fun r52 => (if rd r52 78 19 = 0 then none else ((r_next (r52 ((rd r52 78 19).toNatClampNeg)) l6).bind fun r55 => k66 r52 l2 l4 l5 r55 1)))) else (if rd S 78 19 = 0 then none else ((r_next (S ((rd S 78 19).toNatClampNeg)) l6).bind fun r58 => k66 S l2 l4 l5 r58 1)))
theorem b_putB_l118_ok {aa : Nat} (haa : aa ∈ shA) {rec : SS → Nat → Int32 → Int32 → Int32 → Option (SS)} (hrec : ∀ (e : Nat), d ≤ e → ∀ (h : mH) (S : SS) (aa : Nat) (p0 : Int32) (p1 : Int32) (p2 : Int32) (v : SS), aa ∈ shA → cs h S → rec S aa p0 p1 p2 = some v → mW e mm240 (0, [some (.ref 78), some (.ref aa), some (.int p0), some (.int p1), some (.int p2), none, none, none], [], (h, q)) (mQ q v none)) {k66 : SS → Int32 → Int32 → Int32 → Int32 → Int32 → Option (SS)} (hk66 : ∀ (h : mH) (S : SS) (l2 : Int32) (l4 : Int32) (l5 : Int32) (l6 : Int32) (l7 : Int32) (y3 : Int32) (v : SS), cs h S → k66 S l2 l4 l5 l6 l7 = some v → mW (d + 5) mm240 (66, [some (.ref 78), some (.ref aa), some (.int l2), some (.int y3), some (.int l4), some (.int l5), some (.int l6), some (.int l7)], [], (h, q)) (mQ q v none)) : ∀ (h : mH) (S : SS) (l2 : Int32) (l4 : Int32) (l5 : Int32) (l6 : Int32) (y3 : Int32) (y7 : Int32) (v : SS), cs h S → b_putB_l118 aa rec k66 S l2 l4 l5 l6 = some v → mW (d + 5) mm240 (118, [some (.ref 78), some (.ref aa), some (.int l2), some (.int y3), some (.int l4), some (.int l5), some (.int l6), some (.int y7)], [], (h, q)) (mQ q v none) := by
  intro h S l2 l4 l5 l6 y3 y7 v hs hv
  unfold b_putB_l118 at hv
  refine mW.sn 2 (g' := (121, [some (.ref 78), some (.ref aa), some (.int l2), some (.int y3), some (.int l4), some (.int l5), some (.int l6), some (.int y7)], [.int 5, .int l5], (h, q))) rfl ?_
  refine mW.br (g1 := (124, [some (.ref 78), some (.ref aa), some (.int l2), some (.int y3), some (.int l4), some (.int l5), some (.int l6), some (.int y7)], [], (h, q))) (g2 := (136, [some (.ref 78), some (.ref aa), some (.int l2), some (.int y3), some (.int l4), some (.int l5), some (.int l6), some (.int y7)], [], (h, q))) (c := l5 = (5 : Int32)) rfl (fun hc50 => ?_) (fun hc50 => ?_)
  · rw [if_pos hc50] at hv
    refine mW.sn 4 (g' := (128, [some (.ref 78), some (.ref aa), some (.int l2), some (.int y3), some (.int l4), some (.int l5), some (.int l6), some (.int y7)], [.ref 78, .int 0, .ref aa, .ref 78], (h, q))) rfl ?_
    by_cases hz51 : rd S 78 19 = 0
    · rw [if_pos hz51] at hv; cases hv
    rw [if_neg hz51] at hv
    refine sW.getN rfl hs o78 rfl rfl hz51 ?_
    refine mW.sn 1 (g' := (133, [some (.ref 78), some (.ref aa), some (.int l2), some (.int y3), some (.int l4), some (.int l5), some (.int l6), some (.int y7)], [.int l6, .ref ((rd S 78 19).toNatClampNeg), .int 0, .ref aa, .ref 78], (h, q))) rfl ?_
    cases hr52 : b_narrow S aa ((rd S 78 19).toNatClampNeg) 0 l6 with
    | none => rw [hr52] at hv; cases hv
    | some r52 =>
      rw [hr52, o_bind] at hv
      refine sW.call rfl rfl rfl rfl (hs.rcv o78) (s231 haa (hs.okA o78 rfl hz51) hs hr52) ?_
      intro h53 hs53
      refine mW.sn 3 (g' := (140, [some (.ref 78), some (.ref aa), some (.int l2), some (.int y3), some (.int l4), some (.int l5), some (.int l6), some (.int 1)], [.ref 78], (h53, q))) rfl ?_
      by_cases hz54 : rd r52 78 19 = 0
      · rw [if_pos hz54] at hv; cases hv
      rw [if_neg hz54] at hv
      refine sW.getN rfl hs53 o78 rfl rfl hz54 ?_
      refine mW.sn 1 (g' := (145, [some (.ref 78), some (.ref aa), some (.int l2), some (.int y3), some (.int l4), some (.int l5), some (.int l6), some (.int 1)], [.int l6, .ref ((rd r52 78 19).toNatClampNeg)], (h53, q))) rfl ?_
      cases hr55 : r_next (r52 ((rd r52 78 19).toNatClampNeg)) l6 with
      | none => rw [hr55] at hv; cases hv
      | some r55 =>
        rw [hr55, o_bind] at hv
        refine sW.call rfl rfl rfl rfl rfl (sW.of hs53 (x199 (hs53.ar (hs53.okA o78 rfl hz54)) hr55)) ?_
        intro h56 hs56
        refine mW.sn 2 (g' := (66, [some (.ref 78), some (.ref aa), some (.int l2), some (.int y3), some (.int l4), some (.int l5), some (.int r55), some (.int 1)], [], (h56, q))) rfl ?_
        exact hk66 _ _ _ _ _ _ _ _ _  hs56 hv
  · rw [if_neg hc50] at hv
    refine mW.sn 3 (g' := (140, [some (.ref 78), some (.ref aa), some (.int l2), some (.int y3), some (.int l4), some (.int l5), some (.int l6), some (.int 1)], [.ref 78], (h, q))) rfl ?_
    by_cases hz57 : rd S 78 19 = 0
    · rw [if_pos hz57] at hv; cases hv
    rw [if_neg hz57] at hv
    refine sW.getN rfl hs o78 rfl rfl hz57 ?_
    refine mW.sn 1 (g' := (145, [some (.ref 78), some (.ref aa), some (.int l2), some (.int y3), some (.int l4), some (.int l5), some (.int l6), some (.int 1)], [.int l6, .ref ((rd S 78 19).toNatClampNeg)], (h, q))) rfl ?_
    cases hr58 : r_next (S ((rd S 78 19).toNatClampNeg)) l6 with
    | none => rw [hr58] at hv; cases hv
    | some r58 =>
      rw [hr58, o_bind] at hv
      refine sW.call rfl rfl rfl rfl rfl (sW.of hs (x199 (hs.ar (hs.okA o78 rfl hz57)) hr58)) ?_
      intro h59 hs59
      refine mW.sn 2 (g' := (66, [some (.ref 78), some (.ref aa), some (.int l2), some (.int y3), some (.int l4), some (.int l5), some (.int r58), some (.int 1)], [], (h59, q))) rfl ?_
      exact hk66 _ _ _ _ _ _ _ _ _  hs59 hv
def b_putB_l66 (aa : Nat) (rec : SS → Nat → Int32 → Int32 → Int32 → Option (SS)) : Nat → SS → Int32 → Int32 → Int32 → Int32 → Int32 → Option (SS)
  | 0, _, _, _, _, _, _ => none
  | n + 1, S, l2, l4, l5, l6, l7 => (if rd S 78 19 = 0 then none else ((iget (S ((rd S 78 19).toNatClampNeg)) 1).bind fun b4 => (if b4 ≤ l6 then (if l6 = b4 then ((b_last S aa l2 l5 l7).bind fun r7 => some r7) else ((iget (S ((rd S 78 19).toNatClampNeg)) l6).bind fun b9 => (if b9 = (4 : Int32) then (if l5 = (6 : Int32) then ((b_putName S aa rec l2 l5 l6 l4).bind fun r12 => (if l7 = 0 then some r12 else ((b_refuse r12 1).bind fun r15 => some r15))) else (if l5 = 0 then ((b_putName S aa rec l2 l5 l6 l4).bind fun r18 => (if l7 = 0 then some r18 else ((b_refuse r18 1).bind fun r21 => some r21))) else (if b9 = (3 : Int32) then (if l5 = (5 : Int32) then ((b_putPlace S aa rec l2 l5 l6 l4).bind fun r25 => some r25) else ((b_refuse S 1).bind fun r27 => some r27)) else ((b_refuse S 1).bind fun r29 => some r29)))) else (if b9 = (3 : Int32) then (if l5 = (5 : Int32) then ((b_putPlace S aa rec l2 l5 l6 l4).bind fun r33 => some r33) else (if l5 = 0 then ((b_putPlace S aa rec l2 l5 l6 l4).bind fun r36 => some r36) else ((b_refuse S 1).bind fun r38 => some r38))) else ((b_refuse S 1).bind fun r40 => some r40))))) else ((iget (S ((rd S 78 19).toNatClampNeg)) l6).bind fun b42 => (if b42 = (6 : Int32) then ((b_part S ((rd S 78 19).toNatClampNeg) l6).bind fun r44 => (if r44 = 0 then ((b_refuse S 1).bind fun r47 => some r47) else (if l5 = (5 : Int32) then b_putB_l118 aa rec (b_putB_l66 aa rec n) S l2 l4 l5 l6 else (if l5 = 0 then b_putB_l118 aa rec (b_putB_l66 aa rec n) S l2 l4 l5 l6 else ((b_refuse S 1).bind fun r61 => some r61))))) else (if l6 = b4 then ((b_last S aa l2 l5 l7).bind fun r64 => some r64) else (if b42 = (4 : Int32) then (if l5 = (6 : Int32) then ((b_putName S aa rec l2 l5 l6 l4).bind fun r68 => (if l7 = 0 then some r68 else ((b_refuse r68 1).bind fun r71 => some r71))) else (if l5 = 0 then ((b_putName S aa rec l2 l5 l6 l4).bind fun r74 => (if l7 = 0 then some r74 else ((b_refuse r74 1).bind fun r77 => some r77))) else (if b42 = (3 : Int32) then (if l5 = (5 : Int32) then ((b_putPlace S aa rec l2 l5 l6 l4).bind fun r81 => some r81) else ((b_refuse S 1).bind fun r83 => some r83)) else ((b_refuse S 1).bind fun r85 => some r85)))) else (if b42 = (3 : Int32) then (if l5 = (5 : Int32) then ((b_putPlace S aa rec l2 l5 l6 l4).bind fun r89 => some r89) else (if l5 = 0 then ((b_putPlace S aa rec l2 l5 l6 l4).bind fun r92 => some r92) else ((b_refuse S 1).bind fun r94 => some r94))) else ((b_refuse S 1).bind fun r96 => some r96)))))))))
theorem b_putB_l66_ok {aa : Nat} (haa : aa ∈ shA) {rec : SS → Nat → Int32 → Int32 → Int32 → Option (SS)} (hrec : ∀ (e : Nat), d ≤ e → ∀ (h : mH) (S : SS) (aa : Nat) (p0 : Int32) (p1 : Int32) (p2 : Int32) (v : SS), aa ∈ shA → cs h S → rec S aa p0 p1 p2 = some v → mW e mm240 (0, [some (.ref 78), some (.ref aa), some (.int p0), some (.int p1), some (.int p2), none, none, none], [], (h, q)) (mQ q v none)) : ∀ (n : Nat), ∀ (h : mH) (S : SS) (l2 : Int32) (l4 : Int32) (l5 : Int32) (l6 : Int32) (l7 : Int32) (y3 : Int32) (v : SS), cs h S → b_putB_l66 aa rec n S l2 l4 l5 l6 l7 = some v → mW (d + 5) mm240 (66, [some (.ref 78), some (.ref aa), some (.int l2), some (.int y3), some (.int l4), some (.int l5), some (.int l6), some (.int l7)], [], (h, q)) (mQ q v none) := by
  intro n
  induction n with
  | zero => intro h S l2 l4 l5 l6 l7 y3 v hs hv; cases hv
  | succ n ih =>
    intro h S l2 l4 l5 l6 l7 y3 v hs hv
    unfold b_putB_l66 at hv
    refine mW.sn 2 (g' := (69, [some (.ref 78), some (.ref aa), some (.int l2), some (.int y3), some (.int l4), some (.int l5), some (.int l6), some (.int l7)], [.ref 78, .int l6], (h, q))) rfl ?_
    by_cases hz3 : rd S 78 19 = 0
    · rw [if_pos hz3] at hv; cases hv
    rw [if_neg hz3] at hv
    refine sW.getN rfl hs o78 rfl rfl hz3 ?_
    refine mW.sn 1 (g' := (73, [some (.ref 78), some (.ref aa), some (.int l2), some (.int y3), some (.int l4), some (.int l5), some (.int l6), some (.int l7)], [.int 1, .ref ((rd S 78 19).toNatClampNeg), .int l6], (h, q))) rfl ?_
    cases hr4 : iget (S ((rd S 78 19).toNatClampNeg)) 1 with
    | none => rw [hr4] at hv; cases hv
    | some b4 =>
      rw [hr4, o_bind] at hv
      refine sW.iald rfl hs (hs.okA o78 rfl hz3) hr4 ?_
      refine mW.br (g1 := (153, [some (.ref 78), some (.ref aa), some (.int l2), some (.int y3), some (.int l4), some (.int l5), some (.int l6), some (.int l7)], [], (h, q))) (g2 := (77, [some (.ref 78), some (.ref aa), some (.int l2), some (.int y3), some (.int l4), some (.int l5), some (.int l6), some (.int l7)], [], (h, q))) (c := b4 ≤ l6) rfl (fun hc5 => ?_) (fun hc5 => ?_)
      · rw [if_pos hc5] at hv
        refine mW.sn 2 (g' := (156, [some (.ref 78), some (.ref aa), some (.int l2), some (.int y3), some (.int l4), some (.int l5), some (.int l6), some (.int l7)], [.ref 78, .int l6], (h, q))) rfl ?_
        refine sW.getN rfl hs o78 rfl rfl hz3 ?_
        refine mW.sn 1 (g' := (160, [some (.ref 78), some (.ref aa), some (.int l2), some (.int y3), some (.int l4), some (.int l5), some (.int l6), some (.int l7)], [.int 1, .ref ((rd S 78 19).toNatClampNeg), .int l6], (h, q))) rfl ?_
        refine sW.iald rfl hs (hs.okA o78 rfl hz3) hr4 ?_
        refine mW.br (g1 := (164, [some (.ref 78), some (.ref aa), some (.int l2), some (.int y3), some (.int l4), some (.int l5), some (.int l6), some (.int l7)], [], (h, q))) (g2 := (177, [some (.ref 78), some (.ref aa), some (.int l2), some (.int y3), some (.int l4), some (.int l5), some (.int l6), some (.int l7)], [], (h, q))) (c := l6 = b4) rfl (fun hc6 => ?_) (fun hc6 => ?_)
        · rw [if_pos hc6] at hv
          refine mW.sn 5 (g' := (171, [some (.ref 78), some (.ref aa), some (.int l2), some (.int y3), some (.int l4), some (.int l5), some (.int l6), some (.int l7)], [.int l7, .int l5, .int l2, .ref aa, .ref 78], (h, q))) rfl ?_
          cases hr7 : b_last S aa l2 l5 l7 with
          | none => rw [hr7] at hv; cases hv
          | some r7 =>
            rw [hr7, o_bind] at hv
            refine sW.call rfl rfl rfl rfl (hs.rcv o78) (s242 haa hs hr7) ?_
            intro h8 hs8
            refine mW.sn 1 (g' := (267, [some (.ref 78), some (.ref aa), some (.int l2), some (.int y3), some (.int l4), some (.int l5), some (.int l6), some (.int l7)], [], (h8, q))) rfl ?_
            cases hv
            exact sW.fin hs8 rfl
        · rw [if_neg hc6] at hv
          refine mW.sn 1 (g' := (178, [some (.ref 78), some (.ref aa), some (.int l2), some (.int y3), some (.int l4), some (.int l5), some (.int l6), some (.int l7)], [.ref 78], (h, q))) rfl ?_
          refine sW.getN rfl hs o78 rfl rfl hz3 ?_
          refine mW.sn 1 (g' := (183, [some (.ref 78), some (.ref aa), some (.int l2), some (.int y3), some (.int l4), some (.int l5), some (.int l6), some (.int l7)], [.int l6, .ref ((rd S 78 19).toNatClampNeg)], (h, q))) rfl ?_
          cases hr9 : iget (S ((rd S 78 19).toNatClampNeg)) l6 with
          | none => rw [hr9] at hv; cases hv
          | some b9 =>
            rw [hr9, o_bind] at hv
            refine sW.iald rfl hs (hs.okA o78 rfl hz3) hr9 ?_
            refine mW.sn 1 (g' := (185, [some (.ref 78), some (.ref aa), some (.int l2), some (.int y3), some (.int l4), some (.int l5), some (.int l6), some (.int l7)], [.int 4, .int b9], (h, q))) rfl ?_
            refine mW.br (g1 := (188, [some (.ref 78), some (.ref aa), some (.int l2), some (.int y3), some (.int l4), some (.int l5), some (.int l6), some (.int l7)], [], (h, q))) (g2 := (225, [some (.ref 78), some (.ref aa), some (.int l2), some (.int y3), some (.int l4), some (.int l5), some (.int l6), some (.int l7)], [], (h, q))) (c := b9 = (4 : Int32)) rfl (fun hc10 => ?_) (fun hc10 => ?_)
            · rw [if_pos hc10] at hv
              refine mW.sn 2 (g' := (192, [some (.ref 78), some (.ref aa), some (.int l2), some (.int y3), some (.int l4), some (.int l5), some (.int l6), some (.int l7)], [.int 6, .int l5], (h, q))) rfl ?_
              refine mW.br (g1 := (200, [some (.ref 78), some (.ref aa), some (.int l2), some (.int y3), some (.int l4), some (.int l5), some (.int l6), some (.int l7)], [], (h, q))) (g2 := (195, [some (.ref 78), some (.ref aa), some (.int l2), some (.int y3), some (.int l4), some (.int l5), some (.int l6), some (.int l7)], [], (h, q))) (c := l5 = (6 : Int32)) rfl (fun hc11 => ?_) (fun hc11 => ?_)
              · rw [if_pos hc11] at hv
                refine mW.sn 6 (g' := (209, [some (.ref 78), some (.ref aa), some (.int l2), some (.int y3), some (.int l4), some (.int l5), some (.int l6), some (.int l7)], [.int l4, .int l6, .int l5, .int l2, .ref aa, .ref 78], (h, q))) rfl ?_
                cases hr12 : b_putName S aa rec l2 l5 l6 l4 with
                | none => rw [hr12] at hv; cases hv
                | some r12 =>
                  rw [hr12, o_bind] at hv
                  refine sW.call rfl rfl rfl rfl (hs.rcv o78) (s244 haa (fun e he => hrec e (by omega)) hs hr12) ?_
                  intro h13 hs13
                  refine mW.sn 1 (g' := (214, [some (.ref 78), some (.ref aa), some (.int l2), some (.int y3), some (.int l4), some (.int l5), some (.int l6), some (.int l7)], [.int l7], (h13, q))) rfl ?_
                  refine mW.br (g1 := (267, [some (.ref 78), some (.ref aa), some (.int l2), some (.int y3), some (.int l4), some (.int l5), some (.int l6), some (.int l7)], [], (h13, q))) (g2 := (217, [some (.ref 78), some (.ref aa), some (.int l2), some (.int y3), some (.int l4), some (.int l5), some (.int l6), some (.int l7)], [], (h13, q))) (c := l7 = 0) rfl (fun hc14 => ?_) (fun hc14 => ?_)
                  · rw [if_pos hc14] at hv
                    cases hv
                    exact sW.fin hs13 rfl
                  · rw [if_neg hc14] at hv
                    refine mW.sn 2 (g' := (219, [some (.ref 78), some (.ref aa), some (.int l2), some (.int y3), some (.int l4), some (.int l5), some (.int l6), some (.int l7)], [.int 1, .ref 78], (h13, q))) rfl ?_
                    cases hr15 : b_refuse r12 1 with
                    | none => rw [hr15] at hv; cases hv
                    | some r15 =>
                      rw [hr15, o_bind] at hv
                      refine sW.call rfl rfl rfl rfl (hs13.rcv o78) (s227 hs13 hr15) ?_
                      intro h16 hs16
                      refine mW.sn 1 (g' := (267, [some (.ref 78), some (.ref aa), some (.int l2), some (.int y3), some (.int l4), some (.int l5), some (.int l6), some (.int l7)], [], (h16, q))) rfl ?_
                      cases hv
                      exact sW.fin hs16 rfl
              · rw [if_neg hc11] at hv
                refine mW.sn 1 (g' := (197, [some (.ref 78), some (.ref aa), some (.int l2), some (.int y3), some (.int l4), some (.int l5), some (.int l6), some (.int l7)], [.int l5], (h, q))) rfl ?_
                refine mW.br (g1 := (200, [some (.ref 78), some (.ref aa), some (.int l2), some (.int y3), some (.int l4), some (.int l5), some (.int l6), some (.int l7)], [], (h, q))) (g2 := (225, [some (.ref 78), some (.ref aa), some (.int l2), some (.int y3), some (.int l4), some (.int l5), some (.int l6), some (.int l7)], [], (h, q))) (c := l5 = 0) rfl (fun hc17 => ?_) (fun hc17 => ?_)
                · rw [if_pos hc17] at hv
                  refine mW.sn 6 (g' := (209, [some (.ref 78), some (.ref aa), some (.int l2), some (.int y3), some (.int l4), some (.int l5), some (.int l6), some (.int l7)], [.int l4, .int l6, .int l5, .int l2, .ref aa, .ref 78], (h, q))) rfl ?_
                  cases hr18 : b_putName S aa rec l2 l5 l6 l4 with
                  | none => rw [hr18] at hv; cases hv
                  | some r18 =>
                    rw [hr18, o_bind] at hv
                    refine sW.call rfl rfl rfl rfl (hs.rcv o78) (s244 haa (fun e he => hrec e (by omega)) hs hr18) ?_
                    intro h19 hs19
                    refine mW.sn 1 (g' := (214, [some (.ref 78), some (.ref aa), some (.int l2), some (.int y3), some (.int l4), some (.int l5), some (.int l6), some (.int l7)], [.int l7], (h19, q))) rfl ?_
                    refine mW.br (g1 := (267, [some (.ref 78), some (.ref aa), some (.int l2), some (.int y3), some (.int l4), some (.int l5), some (.int l6), some (.int l7)], [], (h19, q))) (g2 := (217, [some (.ref 78), some (.ref aa), some (.int l2), some (.int y3), some (.int l4), some (.int l5), some (.int l6), some (.int l7)], [], (h19, q))) (c := l7 = 0) rfl (fun hc20 => ?_) (fun hc20 => ?_)
                    · rw [if_pos hc20] at hv
                      cases hv
                      exact sW.fin hs19 rfl
                    · rw [if_neg hc20] at hv
                      refine mW.sn 2 (g' := (219, [some (.ref 78), some (.ref aa), some (.int l2), some (.int y3), some (.int l4), some (.int l5), some (.int l6), some (.int l7)], [.int 1, .ref 78], (h19, q))) rfl ?_
                      cases hr21 : b_refuse r18 1 with
                      | none => rw [hr21] at hv; cases hv
                      | some r21 =>
                        rw [hr21, o_bind] at hv
                        refine sW.call rfl rfl rfl rfl (hs19.rcv o78) (s227 hs19 hr21) ?_
                        intro h22 hs22
                        refine mW.sn 1 (g' := (267, [some (.ref 78), some (.ref aa), some (.int l2), some (.int y3), some (.int l4), some (.int l5), some (.int l6), some (.int l7)], [], (h22, q))) rfl ?_
                        cases hv
                        exact sW.fin hs22 rfl
                · rw [if_neg hc17] at hv
                  refine mW.sn 1 (g' := (226, [some (.ref 78), some (.ref aa), some (.int l2), some (.int y3), some (.int l4), some (.int l5), some (.int l6), some (.int l7)], [.ref 78], (h, q))) rfl ?_
                  refine sW.getN rfl hs o78 rfl rfl hz3 ?_
                  refine mW.sn 1 (g' := (231, [some (.ref 78), some (.ref aa), some (.int l2), some (.int y3), some (.int l4), some (.int l5), some (.int l6), some (.int l7)], [.int l6, .ref ((rd S 78 19).toNatClampNeg)], (h, q))) rfl ?_
                  refine sW.iald rfl hs (hs.okA o78 rfl hz3) hr9 ?_
                  refine mW.sn 1 (g' := (233, [some (.ref 78), some (.ref aa), some (.int l2), some (.int y3), some (.int l4), some (.int l5), some (.int l6), some (.int l7)], [.int 3, .int b9], (h, q))) rfl ?_
                  refine mW.br (g1 := (236, [some (.ref 78), some (.ref aa), some (.int l2), some (.int y3), some (.int l4), some (.int l5), some (.int l6), some (.int l7)], [], (h, q))) (g2 := (262, [some (.ref 78), some (.ref aa), some (.int l2), some (.int y3), some (.int l4), some (.int l5), some (.int l6), some (.int l7)], [], (h, q))) (c := b9 = (3 : Int32)) rfl (fun hc23 => ?_) (fun hc23 => ?_)
                  · rw [if_pos hc23] at hv
                    refine mW.sn 2 (g' := (239, [some (.ref 78), some (.ref aa), some (.int l2), some (.int y3), some (.int l4), some (.int l5), some (.int l6), some (.int l7)], [.int 5, .int l5], (h, q))) rfl ?_
                    refine mW.br (g1 := (247, [some (.ref 78), some (.ref aa), some (.int l2), some (.int y3), some (.int l4), some (.int l5), some (.int l6), some (.int l7)], [], (h, q))) (g2 := (242, [some (.ref 78), some (.ref aa), some (.int l2), some (.int y3), some (.int l4), some (.int l5), some (.int l6), some (.int l7)], [], (h, q))) (c := l5 = (5 : Int32)) rfl (fun hc24 => ?_) (fun hc24 => ?_)
                    · rw [if_pos hc24] at hv
                      refine mW.sn 6 (g' := (256, [some (.ref 78), some (.ref aa), some (.int l2), some (.int y3), some (.int l4), some (.int l5), some (.int l6), some (.int l7)], [.int l4, .int l6, .int l5, .int l2, .ref aa, .ref 78], (h, q))) rfl ?_
                      cases hr25 : b_putPlace S aa rec l2 l5 l6 l4 with
                      | none => rw [hr25] at hv; cases hv
                      | some r25 =>
                        rw [hr25, o_bind] at hv
                        refine sW.call rfl rfl rfl rfl (hs.rcv o78) (s245 haa (fun e he => hrec e (by omega)) hs hr25) ?_
                        intro h26 hs26
                        refine mW.sn 1 (g' := (267, [some (.ref 78), some (.ref aa), some (.int l2), some (.int y3), some (.int l4), some (.int l5), some (.int l6), some (.int l7)], [], (h26, q))) rfl ?_
                        cases hv
                        exact sW.fin hs26 rfl
                    · rw [if_neg hc24] at hv
                      refine mW.sn 1 (g' := (244, [some (.ref 78), some (.ref aa), some (.int l2), some (.int y3), some (.int l4), some (.int l5), some (.int l6), some (.int l7)], [.int l5], (h, q))) rfl ?_
                      refine mW.no (g1 := (247, [some (.ref 78), some (.ref aa), some (.int l2), some (.int y3), some (.int l4), some (.int l5), some (.int l6), some (.int l7)], [], (h, q))) (g2 := (262, [some (.ref 78), some (.ref aa), some (.int l2), some (.int y3), some (.int l4), some (.int l5), some (.int l6), some (.int l7)], [], (h, q))) (c := l5 = 0) rfl hc17 ?_
                      refine mW.sn 2 (g' := (264, [some (.ref 78), some (.ref aa), some (.int l2), some (.int y3), some (.int l4), some (.int l5), some (.int l6), some (.int l7)], [.int 1, .ref 78], (h, q))) rfl ?_
                      cases hr27 : b_refuse S 1 with
                      | none => rw [hr27] at hv; cases hv
                      | some r27 =>
                        rw [hr27, o_bind] at hv
                        refine sW.call rfl rfl rfl rfl (hs.rcv o78) (s227 hs hr27) ?_
                        intro h28 hs28
                        cases hv
                        exact sW.fin hs28 rfl
                  · rw [if_neg hc23] at hv
                    refine mW.sn 2 (g' := (264, [some (.ref 78), some (.ref aa), some (.int l2), some (.int y3), some (.int l4), some (.int l5), some (.int l6), some (.int l7)], [.int 1, .ref 78], (h, q))) rfl ?_
                    cases hr29 : b_refuse S 1 with
                    | none => rw [hr29] at hv; cases hv
                    | some r29 =>
                      rw [hr29, o_bind] at hv
                      refine sW.call rfl rfl rfl rfl (hs.rcv o78) (s227 hs hr29) ?_
                      intro h30 hs30
                      cases hv
                      exact sW.fin hs30 rfl
            · rw [if_neg hc10] at hv
              refine mW.sn 1 (g' := (226, [some (.ref 78), some (.ref aa), some (.int l2), some (.int y3), some (.int l4), some (.int l5), some (.int l6), some (.int l7)], [.ref 78], (h, q))) rfl ?_
              refine sW.getN rfl hs o78 rfl rfl hz3 ?_
              refine mW.sn 1 (g' := (231, [some (.ref 78), some (.ref aa), some (.int l2), some (.int y3), some (.int l4), some (.int l5), some (.int l6), some (.int l7)], [.int l6, .ref ((rd S 78 19).toNatClampNeg)], (h, q))) rfl ?_
              refine sW.iald rfl hs (hs.okA o78 rfl hz3) hr9 ?_
              refine mW.sn 1 (g' := (233, [some (.ref 78), some (.ref aa), some (.int l2), some (.int y3), some (.int l4), some (.int l5), some (.int l6), some (.int l7)], [.int 3, .int b9], (h, q))) rfl ?_
              refine mW.br (g1 := (236, [some (.ref 78), some (.ref aa), some (.int l2), some (.int y3), some (.int l4), some (.int l5), some (.int l6), some (.int l7)], [], (h, q))) (g2 := (262, [some (.ref 78), some (.ref aa), some (.int l2), some (.int y3), some (.int l4), some (.int l5), some (.int l6), some (.int l7)], [], (h, q))) (c := b9 = (3 : Int32)) rfl (fun hc31 => ?_) (fun hc31 => ?_)
              · rw [if_pos hc31] at hv
                refine mW.sn 2 (g' := (239, [some (.ref 78), some (.ref aa), some (.int l2), some (.int y3), some (.int l4), some (.int l5), some (.int l6), some (.int l7)], [.int 5, .int l5], (h, q))) rfl ?_
                refine mW.br (g1 := (247, [some (.ref 78), some (.ref aa), some (.int l2), some (.int y3), some (.int l4), some (.int l5), some (.int l6), some (.int l7)], [], (h, q))) (g2 := (242, [some (.ref 78), some (.ref aa), some (.int l2), some (.int y3), some (.int l4), some (.int l5), some (.int l6), some (.int l7)], [], (h, q))) (c := l5 = (5 : Int32)) rfl (fun hc32 => ?_) (fun hc32 => ?_)
                · rw [if_pos hc32] at hv
                  refine mW.sn 6 (g' := (256, [some (.ref 78), some (.ref aa), some (.int l2), some (.int y3), some (.int l4), some (.int l5), some (.int l6), some (.int l7)], [.int l4, .int l6, .int l5, .int l2, .ref aa, .ref 78], (h, q))) rfl ?_
                  cases hr33 : b_putPlace S aa rec l2 l5 l6 l4 with
                  | none => rw [hr33] at hv; cases hv
                  | some r33 =>
                    rw [hr33, o_bind] at hv
                    refine sW.call rfl rfl rfl rfl (hs.rcv o78) (s245 haa (fun e he => hrec e (by omega)) hs hr33) ?_
                    intro h34 hs34
                    refine mW.sn 1 (g' := (267, [some (.ref 78), some (.ref aa), some (.int l2), some (.int y3), some (.int l4), some (.int l5), some (.int l6), some (.int l7)], [], (h34, q))) rfl ?_
                    cases hv
                    exact sW.fin hs34 rfl
                · rw [if_neg hc32] at hv
                  refine mW.sn 1 (g' := (244, [some (.ref 78), some (.ref aa), some (.int l2), some (.int y3), some (.int l4), some (.int l5), some (.int l6), some (.int l7)], [.int l5], (h, q))) rfl ?_
                  refine mW.br (g1 := (247, [some (.ref 78), some (.ref aa), some (.int l2), some (.int y3), some (.int l4), some (.int l5), some (.int l6), some (.int l7)], [], (h, q))) (g2 := (262, [some (.ref 78), some (.ref aa), some (.int l2), some (.int y3), some (.int l4), some (.int l5), some (.int l6), some (.int l7)], [], (h, q))) (c := l5 = 0) rfl (fun hc35 => ?_) (fun hc35 => ?_)
                  · rw [if_pos hc35] at hv
                    refine mW.sn 6 (g' := (256, [some (.ref 78), some (.ref aa), some (.int l2), some (.int y3), some (.int l4), some (.int l5), some (.int l6), some (.int l7)], [.int l4, .int l6, .int l5, .int l2, .ref aa, .ref 78], (h, q))) rfl ?_
                    cases hr36 : b_putPlace S aa rec l2 l5 l6 l4 with
                    | none => rw [hr36] at hv; cases hv
                    | some r36 =>
                      rw [hr36, o_bind] at hv
                      refine sW.call rfl rfl rfl rfl (hs.rcv o78) (s245 haa (fun e he => hrec e (by omega)) hs hr36) ?_
                      intro h37 hs37
                      refine mW.sn 1 (g' := (267, [some (.ref 78), some (.ref aa), some (.int l2), some (.int y3), some (.int l4), some (.int l5), some (.int l6), some (.int l7)], [], (h37, q))) rfl ?_
                      cases hv
                      exact sW.fin hs37 rfl
                  · rw [if_neg hc35] at hv
                    refine mW.sn 2 (g' := (264, [some (.ref 78), some (.ref aa), some (.int l2), some (.int y3), some (.int l4), some (.int l5), some (.int l6), some (.int l7)], [.int 1, .ref 78], (h, q))) rfl ?_
                    cases hr38 : b_refuse S 1 with
                    | none => rw [hr38] at hv; cases hv
                    | some r38 =>
                      rw [hr38, o_bind] at hv
                      refine sW.call rfl rfl rfl rfl (hs.rcv o78) (s227 hs hr38) ?_
                      intro h39 hs39
                      cases hv
                      exact sW.fin hs39 rfl
              · rw [if_neg hc31] at hv
                refine mW.sn 2 (g' := (264, [some (.ref 78), some (.ref aa), some (.int l2), some (.int y3), some (.int l4), some (.int l5), some (.int l6), some (.int l7)], [.int 1, .ref 78], (h, q))) rfl ?_
                cases hr40 : b_refuse S 1 with
                | none => rw [hr40] at hv; cases hv
                | some r40 =>
                  rw [hr40, o_bind] at hv
                  refine sW.call rfl rfl rfl rfl (hs.rcv o78) (s227 hs hr40) ?_
                  intro h41 hs41
                  cases hv
                  exact sW.fin hs41 rfl
      · rw [if_neg hc5] at hv
        refine mW.sn 1 (g' := (78, [some (.ref 78), some (.ref aa), some (.int l2), some (.int y3), some (.int l4), some (.int l5), some (.int l6), some (.int l7)], [.ref 78], (h, q))) rfl ?_
        refine sW.getN rfl hs o78 rfl rfl hz3 ?_
        refine mW.sn 1 (g' := (83, [some (.ref 78), some (.ref aa), some (.int l2), some (.int y3), some (.int l4), some (.int l5), some (.int l6), some (.int l7)], [.int l6, .ref ((rd S 78 19).toNatClampNeg)], (h, q))) rfl ?_
        cases hr42 : iget (S ((rd S 78 19).toNatClampNeg)) l6 with
        | none => rw [hr42] at hv; cases hv
        | some b42 =>
          rw [hr42, o_bind] at hv
          refine sW.iald rfl hs (hs.okA o78 rfl hz3) hr42 ?_
          refine mW.sn 1 (g' := (86, [some (.ref 78), some (.ref aa), some (.int l2), some (.int y3), some (.int l4), some (.int l5), some (.int l6), some (.int l7)], [.int 6, .int b42], (h, q))) rfl ?_
          refine mW.br (g1 := (89, [some (.ref 78), some (.ref aa), some (.int l2), some (.int y3), some (.int l4), some (.int l5), some (.int l6), some (.int l7)], [], (h, q))) (g2 := (153, [some (.ref 78), some (.ref aa), some (.int l2), some (.int y3), some (.int l4), some (.int l5), some (.int l6), some (.int l7)], [], (h, q))) (c := b42 = (6 : Int32)) rfl (fun hc43 => ?_) (fun hc43 => ?_)
          · rw [if_pos hc43] at hv
            refine mW.sn 1 (g' := (90, [some (.ref 78), some (.ref aa), some (.int l2), some (.int y3), some (.int l4), some (.int l5), some (.int l6), some (.int l7)], [.ref 78], (h, q))) rfl ?_
            refine sW.getN rfl hs o78 rfl rfl hz3 ?_
            refine mW.sn 1 (g' := (95, [some (.ref 78), some (.ref aa), some (.int l2), some (.int y3), some (.int l4), some (.int l5), some (.int l6), some (.int l7)], [.int l6, .ref ((rd S 78 19).toNatClampNeg)], (h, q))) rfl ?_
            cases hr44 : b_part S ((rd S 78 19).toNatClampNeg) l6 with
            | none => rw [hr44] at hv; cases hv
            | some r44 =>
              rw [hr44, o_bind] at hv
              refine sW.call rfl rfl rfl rfl rfl (s229 (hs.okA o78 rfl hz3) hs hr44) ?_
              intro h45 hs45
              refine mW.br (g1 := (112, [some (.ref 78), some (.ref aa), some (.int l2), some (.int y3), some (.int l4), some (.int l5), some (.int l6), some (.int l7)], [], (h45, q))) (g2 := (101, [some (.ref 78), some (.ref aa), some (.int l2), some (.int y3), some (.int l4), some (.int l5), some (.int l6), some (.int l7)], [], (h45, q))) (c := r44 = 0) rfl (fun hc46 => ?_) (fun hc46 => ?_)
              · rw [if_pos hc46] at hv
                refine mW.sn 2 (g' := (114, [some (.ref 78), some (.ref aa), some (.int l2), some (.int y3), some (.int l4), some (.int l5), some (.int l6), some (.int l7)], [.int 1, .ref 78], (h45, q))) rfl ?_
                cases hr47 : b_refuse S 1 with
                | none => rw [hr47] at hv; cases hv
                | some r47 =>
                  rw [hr47, o_bind] at hv
                  refine sW.call rfl rfl rfl rfl (hs45.rcv o78) (s227 hs45 hr47) ?_
                  intro h48 hs48
                  cases hv
                  exact sW.fin hs48 rfl
              · rw [if_neg hc46] at hv
                refine mW.sn 2 (g' := (104, [some (.ref 78), some (.ref aa), some (.int l2), some (.int y3), some (.int l4), some (.int l5), some (.int l6), some (.int l7)], [.int 5, .int l5], (h45, q))) rfl ?_
                refine mW.br (g1 := (118, [some (.ref 78), some (.ref aa), some (.int l2), some (.int y3), some (.int l4), some (.int l5), some (.int l6), some (.int l7)], [], (h45, q))) (g2 := (107, [some (.ref 78), some (.ref aa), some (.int l2), some (.int y3), some (.int l4), some (.int l5), some (.int l6), some (.int l7)], [], (h45, q))) (c := l5 = (5 : Int32)) rfl (fun hc49 => ?_) (fun hc49 => ?_)
                · rw [if_pos hc49] at hv
                  exact b_putB_l118_ok haa hrec ih _ _ _ _ _ _ _ _ _  hs45 hv
                · rw [if_neg hc49] at hv
                  refine mW.sn 1 (g' := (109, [some (.ref 78), some (.ref aa), some (.int l2), some (.int y3), some (.int l4), some (.int l5), some (.int l6), some (.int l7)], [.int l5], (h45, q))) rfl ?_
                  refine mW.br (g1 := (118, [some (.ref 78), some (.ref aa), some (.int l2), some (.int y3), some (.int l4), some (.int l5), some (.int l6), some (.int l7)], [], (h45, q))) (g2 := (112, [some (.ref 78), some (.ref aa), some (.int l2), some (.int y3), some (.int l4), some (.int l5), some (.int l6), some (.int l7)], [], (h45, q))) (c := l5 = 0) rfl (fun hc60 => ?_) (fun hc60 => ?_)
                  · rw [if_pos hc60] at hv
                    exact b_putB_l118_ok haa hrec ih _ _ _ _ _ _ _ _ _  hs45 hv
                  · rw [if_neg hc60] at hv
                    refine mW.sn 2 (g' := (114, [some (.ref 78), some (.ref aa), some (.int l2), some (.int y3), some (.int l4), some (.int l5), some (.int l6), some (.int l7)], [.int 1, .ref 78], (h45, q))) rfl ?_
                    cases hr61 : b_refuse S 1 with
                    | none => rw [hr61] at hv; cases hv
                    | some r61 =>
                      rw [hr61, o_bind] at hv
                      refine sW.call rfl rfl rfl rfl (hs45.rcv o78) (s227 hs45 hr61) ?_
                      intro h62 hs62
                      cases hv
                      exact sW.fin hs62 rfl
          · rw [if_neg hc43] at hv
            refine mW.sn 2 (g' := (156, [some (.ref 78), some (.ref aa), some (.int l2), some (.int y3), some (.int l4), some (.int l5), some (.int l6), some (.int l7)], [.ref 78, .int l6], (h, q))) rfl ?_
            refine sW.getN rfl hs o78 rfl rfl hz3 ?_
            refine mW.sn 1 (g' := (160, [some (.ref 78), some (.ref aa), some (.int l2), some (.int y3), some (.int l4), some (.int l5), some (.int l6), some (.int l7)], [.int 1, .ref ((rd S 78 19).toNatClampNeg), .int l6], (h, q))) rfl ?_
            refine sW.iald rfl hs (hs.okA o78 rfl hz3) hr4 ?_
            refine mW.br (g1 := (164, [some (.ref 78), some (.ref aa), some (.int l2), some (.int y3), some (.int l4), some (.int l5), some (.int l6), some (.int l7)], [], (h, q))) (g2 := (177, [some (.ref 78), some (.ref aa), some (.int l2), some (.int y3), some (.int l4), some (.int l5), some (.int l6), some (.int l7)], [], (h, q))) (c := l6 = b4) rfl (fun hc63 => ?_) (fun hc63 => ?_)
            · rw [if_pos hc63] at hv
              refine mW.sn 5 (g' := (171, [some (.ref 78), some (.ref aa), some (.int l2), some (.int y3), some (.int l4), some (.int l5), some (.int l6), some (.int l7)], [.int l7, .int l5, .int l2, .ref aa, .ref 78], (h, q))) rfl ?_
              cases hr64 : b_last S aa l2 l5 l7 with
              | none => rw [hr64] at hv; cases hv
              | some r64 =>
                rw [hr64, o_bind] at hv
                refine sW.call rfl rfl rfl rfl (hs.rcv o78) (s242 haa hs hr64) ?_
                intro h65 hs65
                refine mW.sn 1 (g' := (267, [some (.ref 78), some (.ref aa), some (.int l2), some (.int y3), some (.int l4), some (.int l5), some (.int l6), some (.int l7)], [], (h65, q))) rfl ?_
                cases hv
                exact sW.fin hs65 rfl
            · rw [if_neg hc63] at hv
              refine mW.sn 1 (g' := (178, [some (.ref 78), some (.ref aa), some (.int l2), some (.int y3), some (.int l4), some (.int l5), some (.int l6), some (.int l7)], [.ref 78], (h, q))) rfl ?_
              refine sW.getN rfl hs o78 rfl rfl hz3 ?_
              refine mW.sn 1 (g' := (183, [some (.ref 78), some (.ref aa), some (.int l2), some (.int y3), some (.int l4), some (.int l5), some (.int l6), some (.int l7)], [.int l6, .ref ((rd S 78 19).toNatClampNeg)], (h, q))) rfl ?_
              refine sW.iald rfl hs (hs.okA o78 rfl hz3) hr42 ?_
              refine mW.sn 1 (g' := (185, [some (.ref 78), some (.ref aa), some (.int l2), some (.int y3), some (.int l4), some (.int l5), some (.int l6), some (.int l7)], [.int 4, .int b42], (h, q))) rfl ?_
              refine mW.br (g1 := (188, [some (.ref 78), some (.ref aa), some (.int l2), some (.int y3), some (.int l4), some (.int l5), some (.int l6), some (.int l7)], [], (h, q))) (g2 := (225, [some (.ref 78), some (.ref aa), some (.int l2), some (.int y3), some (.int l4), some (.int l5), some (.int l6), some (.int l7)], [], (h, q))) (c := b42 = (4 : Int32)) rfl (fun hc66 => ?_) (fun hc66 => ?_)
              · rw [if_pos hc66] at hv
                refine mW.sn 2 (g' := (192, [some (.ref 78), some (.ref aa), some (.int l2), some (.int y3), some (.int l4), some (.int l5), some (.int l6), some (.int l7)], [.int 6, .int l5], (h, q))) rfl ?_
                refine mW.br (g1 := (200, [some (.ref 78), some (.ref aa), some (.int l2), some (.int y3), some (.int l4), some (.int l5), some (.int l6), some (.int l7)], [], (h, q))) (g2 := (195, [some (.ref 78), some (.ref aa), some (.int l2), some (.int y3), some (.int l4), some (.int l5), some (.int l6), some (.int l7)], [], (h, q))) (c := l5 = (6 : Int32)) rfl (fun hc67 => ?_) (fun hc67 => ?_)
                · rw [if_pos hc67] at hv
                  refine mW.sn 6 (g' := (209, [some (.ref 78), some (.ref aa), some (.int l2), some (.int y3), some (.int l4), some (.int l5), some (.int l6), some (.int l7)], [.int l4, .int l6, .int l5, .int l2, .ref aa, .ref 78], (h, q))) rfl ?_
                  cases hr68 : b_putName S aa rec l2 l5 l6 l4 with
                  | none => rw [hr68] at hv; cases hv
                  | some r68 =>
                    rw [hr68, o_bind] at hv
                    refine sW.call rfl rfl rfl rfl (hs.rcv o78) (s244 haa (fun e he => hrec e (by omega)) hs hr68) ?_
                    intro h69 hs69
                    refine mW.sn 1 (g' := (214, [some (.ref 78), some (.ref aa), some (.int l2), some (.int y3), some (.int l4), some (.int l5), some (.int l6), some (.int l7)], [.int l7], (h69, q))) rfl ?_
                    refine mW.br (g1 := (267, [some (.ref 78), some (.ref aa), some (.int l2), some (.int y3), some (.int l4), some (.int l5), some (.int l6), some (.int l7)], [], (h69, q))) (g2 := (217, [some (.ref 78), some (.ref aa), some (.int l2), some (.int y3), some (.int l4), some (.int l5), some (.int l6), some (.int l7)], [], (h69, q))) (c := l7 = 0) rfl (fun hc70 => ?_) (fun hc70 => ?_)
                    · rw [if_pos hc70] at hv
                      cases hv
                      exact sW.fin hs69 rfl
                    · rw [if_neg hc70] at hv
                      refine mW.sn 2 (g' := (219, [some (.ref 78), some (.ref aa), some (.int l2), some (.int y3), some (.int l4), some (.int l5), some (.int l6), some (.int l7)], [.int 1, .ref 78], (h69, q))) rfl ?_
                      cases hr71 : b_refuse r68 1 with
                      | none => rw [hr71] at hv; cases hv
                      | some r71 =>
                        rw [hr71, o_bind] at hv
                        refine sW.call rfl rfl rfl rfl (hs69.rcv o78) (s227 hs69 hr71) ?_
                        intro h72 hs72
                        refine mW.sn 1 (g' := (267, [some (.ref 78), some (.ref aa), some (.int l2), some (.int y3), some (.int l4), some (.int l5), some (.int l6), some (.int l7)], [], (h72, q))) rfl ?_
                        cases hv
                        exact sW.fin hs72 rfl
                · rw [if_neg hc67] at hv
                  refine mW.sn 1 (g' := (197, [some (.ref 78), some (.ref aa), some (.int l2), some (.int y3), some (.int l4), some (.int l5), some (.int l6), some (.int l7)], [.int l5], (h, q))) rfl ?_
                  refine mW.br (g1 := (200, [some (.ref 78), some (.ref aa), some (.int l2), some (.int y3), some (.int l4), some (.int l5), some (.int l6), some (.int l7)], [], (h, q))) (g2 := (225, [some (.ref 78), some (.ref aa), some (.int l2), some (.int y3), some (.int l4), some (.int l5), some (.int l6), some (.int l7)], [], (h, q))) (c := l5 = 0) rfl (fun hc73 => ?_) (fun hc73 => ?_)
                  · rw [if_pos hc73] at hv
                    refine mW.sn 6 (g' := (209, [some (.ref 78), some (.ref aa), some (.int l2), some (.int y3), some (.int l4), some (.int l5), some (.int l6), some (.int l7)], [.int l4, .int l6, .int l5, .int l2, .ref aa, .ref 78], (h, q))) rfl ?_
                    cases hr74 : b_putName S aa rec l2 l5 l6 l4 with
                    | none => rw [hr74] at hv; cases hv
                    | some r74 =>
                      rw [hr74, o_bind] at hv
                      refine sW.call rfl rfl rfl rfl (hs.rcv o78) (s244 haa (fun e he => hrec e (by omega)) hs hr74) ?_
                      intro h75 hs75
                      refine mW.sn 1 (g' := (214, [some (.ref 78), some (.ref aa), some (.int l2), some (.int y3), some (.int l4), some (.int l5), some (.int l6), some (.int l7)], [.int l7], (h75, q))) rfl ?_
                      refine mW.br (g1 := (267, [some (.ref 78), some (.ref aa), some (.int l2), some (.int y3), some (.int l4), some (.int l5), some (.int l6), some (.int l7)], [], (h75, q))) (g2 := (217, [some (.ref 78), some (.ref aa), some (.int l2), some (.int y3), some (.int l4), some (.int l5), some (.int l6), some (.int l7)], [], (h75, q))) (c := l7 = 0) rfl (fun hc76 => ?_) (fun hc76 => ?_)
                      · rw [if_pos hc76] at hv
                        cases hv
                        exact sW.fin hs75 rfl
                      · rw [if_neg hc76] at hv
                        refine mW.sn 2 (g' := (219, [some (.ref 78), some (.ref aa), some (.int l2), some (.int y3), some (.int l4), some (.int l5), some (.int l6), some (.int l7)], [.int 1, .ref 78], (h75, q))) rfl ?_
                        cases hr77 : b_refuse r74 1 with
                        | none => rw [hr77] at hv; cases hv
                        | some r77 =>
                          rw [hr77, o_bind] at hv
                          refine sW.call rfl rfl rfl rfl (hs75.rcv o78) (s227 hs75 hr77) ?_
                          intro h78 hs78
                          refine mW.sn 1 (g' := (267, [some (.ref 78), some (.ref aa), some (.int l2), some (.int y3), some (.int l4), some (.int l5), some (.int l6), some (.int l7)], [], (h78, q))) rfl ?_
                          cases hv
                          exact sW.fin hs78 rfl
                  · rw [if_neg hc73] at hv
                    refine mW.sn 1 (g' := (226, [some (.ref 78), some (.ref aa), some (.int l2), some (.int y3), some (.int l4), some (.int l5), some (.int l6), some (.int l7)], [.ref 78], (h, q))) rfl ?_
                    refine sW.getN rfl hs o78 rfl rfl hz3 ?_
                    refine mW.sn 1 (g' := (231, [some (.ref 78), some (.ref aa), some (.int l2), some (.int y3), some (.int l4), some (.int l5), some (.int l6), some (.int l7)], [.int l6, .ref ((rd S 78 19).toNatClampNeg)], (h, q))) rfl ?_
                    refine sW.iald rfl hs (hs.okA o78 rfl hz3) hr42 ?_
                    refine mW.sn 1 (g' := (233, [some (.ref 78), some (.ref aa), some (.int l2), some (.int y3), some (.int l4), some (.int l5), some (.int l6), some (.int l7)], [.int 3, .int b42], (h, q))) rfl ?_
                    refine mW.br (g1 := (236, [some (.ref 78), some (.ref aa), some (.int l2), some (.int y3), some (.int l4), some (.int l5), some (.int l6), some (.int l7)], [], (h, q))) (g2 := (262, [some (.ref 78), some (.ref aa), some (.int l2), some (.int y3), some (.int l4), some (.int l5), some (.int l6), some (.int l7)], [], (h, q))) (c := b42 = (3 : Int32)) rfl (fun hc79 => ?_) (fun hc79 => ?_)
                    · rw [if_pos hc79] at hv
                      refine mW.sn 2 (g' := (239, [some (.ref 78), some (.ref aa), some (.int l2), some (.int y3), some (.int l4), some (.int l5), some (.int l6), some (.int l7)], [.int 5, .int l5], (h, q))) rfl ?_
                      refine mW.br (g1 := (247, [some (.ref 78), some (.ref aa), some (.int l2), some (.int y3), some (.int l4), some (.int l5), some (.int l6), some (.int l7)], [], (h, q))) (g2 := (242, [some (.ref 78), some (.ref aa), some (.int l2), some (.int y3), some (.int l4), some (.int l5), some (.int l6), some (.int l7)], [], (h, q))) (c := l5 = (5 : Int32)) rfl (fun hc80 => ?_) (fun hc80 => ?_)
                      · rw [if_pos hc80] at hv
                        refine mW.sn 6 (g' := (256, [some (.ref 78), some (.ref aa), some (.int l2), some (.int y3), some (.int l4), some (.int l5), some (.int l6), some (.int l7)], [.int l4, .int l6, .int l5, .int l2, .ref aa, .ref 78], (h, q))) rfl ?_
                        cases hr81 : b_putPlace S aa rec l2 l5 l6 l4 with
                        | none => rw [hr81] at hv; cases hv
                        | some r81 =>
                          rw [hr81, o_bind] at hv
                          refine sW.call rfl rfl rfl rfl (hs.rcv o78) (s245 haa (fun e he => hrec e (by omega)) hs hr81) ?_
                          intro h82 hs82
                          refine mW.sn 1 (g' := (267, [some (.ref 78), some (.ref aa), some (.int l2), some (.int y3), some (.int l4), some (.int l5), some (.int l6), some (.int l7)], [], (h82, q))) rfl ?_
                          cases hv
                          exact sW.fin hs82 rfl
                      · rw [if_neg hc80] at hv
                        refine mW.sn 1 (g' := (244, [some (.ref 78), some (.ref aa), some (.int l2), some (.int y3), some (.int l4), some (.int l5), some (.int l6), some (.int l7)], [.int l5], (h, q))) rfl ?_
                        refine mW.no (g1 := (247, [some (.ref 78), some (.ref aa), some (.int l2), some (.int y3), some (.int l4), some (.int l5), some (.int l6), some (.int l7)], [], (h, q))) (g2 := (262, [some (.ref 78), some (.ref aa), some (.int l2), some (.int y3), some (.int l4), some (.int l5), some (.int l6), some (.int l7)], [], (h, q))) (c := l5 = 0) rfl hc73 ?_
                        refine mW.sn 2 (g' := (264, [some (.ref 78), some (.ref aa), some (.int l2), some (.int y3), some (.int l4), some (.int l5), some (.int l6), some (.int l7)], [.int 1, .ref 78], (h, q))) rfl ?_
                        cases hr83 : b_refuse S 1 with
                        | none => rw [hr83] at hv; cases hv
                        | some r83 =>
                          rw [hr83, o_bind] at hv
                          refine sW.call rfl rfl rfl rfl (hs.rcv o78) (s227 hs hr83) ?_
                          intro h84 hs84
                          cases hv
                          exact sW.fin hs84 rfl
                    · rw [if_neg hc79] at hv
                      refine mW.sn 2 (g' := (264, [some (.ref 78), some (.ref aa), some (.int l2), some (.int y3), some (.int l4), some (.int l5), some (.int l6), some (.int l7)], [.int 1, .ref 78], (h, q))) rfl ?_
                      cases hr85 : b_refuse S 1 with
                      | none => rw [hr85] at hv; cases hv
                      | some r85 =>
                        rw [hr85, o_bind] at hv
                        refine sW.call rfl rfl rfl rfl (hs.rcv o78) (s227 hs hr85) ?_
                        intro h86 hs86
                        cases hv
                        exact sW.fin hs86 rfl
              · rw [if_neg hc66] at hv
                refine mW.sn 1 (g' := (226, [some (.ref 78), some (.ref aa), some (.int l2), some (.int y3), some (.int l4), some (.int l5), some (.int l6), some (.int l7)], [.ref 78], (h, q))) rfl ?_
                refine sW.getN rfl hs o78 rfl rfl hz3 ?_
                refine mW.sn 1 (g' := (231, [some (.ref 78), some (.ref aa), some (.int l2), some (.int y3), some (.int l4), some (.int l5), some (.int l6), some (.int l7)], [.int l6, .ref ((rd S 78 19).toNatClampNeg)], (h, q))) rfl ?_
                refine sW.iald rfl hs (hs.okA o78 rfl hz3) hr42 ?_
                refine mW.sn 1 (g' := (233, [some (.ref 78), some (.ref aa), some (.int l2), some (.int y3), some (.int l4), some (.int l5), some (.int l6), some (.int l7)], [.int 3, .int b42], (h, q))) rfl ?_
                refine mW.br (g1 := (236, [some (.ref 78), some (.ref aa), some (.int l2), some (.int y3), some (.int l4), some (.int l5), some (.int l6), some (.int l7)], [], (h, q))) (g2 := (262, [some (.ref 78), some (.ref aa), some (.int l2), some (.int y3), some (.int l4), some (.int l5), some (.int l6), some (.int l7)], [], (h, q))) (c := b42 = (3 : Int32)) rfl (fun hc87 => ?_) (fun hc87 => ?_)
                · rw [if_pos hc87] at hv
                  refine mW.sn 2 (g' := (239, [some (.ref 78), some (.ref aa), some (.int l2), some (.int y3), some (.int l4), some (.int l5), some (.int l6), some (.int l7)], [.int 5, .int l5], (h, q))) rfl ?_
                  refine mW.br (g1 := (247, [some (.ref 78), some (.ref aa), some (.int l2), some (.int y3), some (.int l4), some (.int l5), some (.int l6), some (.int l7)], [], (h, q))) (g2 := (242, [some (.ref 78), some (.ref aa), some (.int l2), some (.int y3), some (.int l4), some (.int l5), some (.int l6), some (.int l7)], [], (h, q))) (c := l5 = (5 : Int32)) rfl (fun hc88 => ?_) (fun hc88 => ?_)
                  · rw [if_pos hc88] at hv
                    refine mW.sn 6 (g' := (256, [some (.ref 78), some (.ref aa), some (.int l2), some (.int y3), some (.int l4), some (.int l5), some (.int l6), some (.int l7)], [.int l4, .int l6, .int l5, .int l2, .ref aa, .ref 78], (h, q))) rfl ?_
                    cases hr89 : b_putPlace S aa rec l2 l5 l6 l4 with
                    | none => rw [hr89] at hv; cases hv
                    | some r89 =>
                      rw [hr89, o_bind] at hv
                      refine sW.call rfl rfl rfl rfl (hs.rcv o78) (s245 haa (fun e he => hrec e (by omega)) hs hr89) ?_
                      intro h90 hs90
                      refine mW.sn 1 (g' := (267, [some (.ref 78), some (.ref aa), some (.int l2), some (.int y3), some (.int l4), some (.int l5), some (.int l6), some (.int l7)], [], (h90, q))) rfl ?_
                      cases hv
                      exact sW.fin hs90 rfl
                  · rw [if_neg hc88] at hv
                    refine mW.sn 1 (g' := (244, [some (.ref 78), some (.ref aa), some (.int l2), some (.int y3), some (.int l4), some (.int l5), some (.int l6), some (.int l7)], [.int l5], (h, q))) rfl ?_
                    refine mW.br (g1 := (247, [some (.ref 78), some (.ref aa), some (.int l2), some (.int y3), some (.int l4), some (.int l5), some (.int l6), some (.int l7)], [], (h, q))) (g2 := (262, [some (.ref 78), some (.ref aa), some (.int l2), some (.int y3), some (.int l4), some (.int l5), some (.int l6), some (.int l7)], [], (h, q))) (c := l5 = 0) rfl (fun hc91 => ?_) (fun hc91 => ?_)
                    · rw [if_pos hc91] at hv
                      refine mW.sn 6 (g' := (256, [some (.ref 78), some (.ref aa), some (.int l2), some (.int y3), some (.int l4), some (.int l5), some (.int l6), some (.int l7)], [.int l4, .int l6, .int l5, .int l2, .ref aa, .ref 78], (h, q))) rfl ?_
                      cases hr92 : b_putPlace S aa rec l2 l5 l6 l4 with
                      | none => rw [hr92] at hv; cases hv
                      | some r92 =>
                        rw [hr92, o_bind] at hv
                        refine sW.call rfl rfl rfl rfl (hs.rcv o78) (s245 haa (fun e he => hrec e (by omega)) hs hr92) ?_
                        intro h93 hs93
                        refine mW.sn 1 (g' := (267, [some (.ref 78), some (.ref aa), some (.int l2), some (.int y3), some (.int l4), some (.int l5), some (.int l6), some (.int l7)], [], (h93, q))) rfl ?_
                        cases hv
                        exact sW.fin hs93 rfl
                    · rw [if_neg hc91] at hv
                      refine mW.sn 2 (g' := (264, [some (.ref 78), some (.ref aa), some (.int l2), some (.int y3), some (.int l4), some (.int l5), some (.int l6), some (.int l7)], [.int 1, .ref 78], (h, q))) rfl ?_
                      cases hr94 : b_refuse S 1 with
                      | none => rw [hr94] at hv; cases hv
                      | some r94 =>
                        rw [hr94, o_bind] at hv
                        refine sW.call rfl rfl rfl rfl (hs.rcv o78) (s227 hs hr94) ?_
                        intro h95 hs95
                        cases hv
                        exact sW.fin hs95 rfl
                · rw [if_neg hc87] at hv
                  refine mW.sn 2 (g' := (264, [some (.ref 78), some (.ref aa), some (.int l2), some (.int y3), some (.int l4), some (.int l5), some (.int l6), some (.int l7)], [.int 1, .ref 78], (h, q))) rfl ?_
                  cases hr96 : b_refuse S 1 with
                  | none => rw [hr96] at hv; cases hv
                  | some r96 =>
                    rw [hr96, o_bind] at hv
                    refine sW.call rfl rfl rfl rfl (hs.rcv o78) (s227 hs hr96) ?_
                    intro h97 hs97
                    cases hv
                    exact sW.fin hs97 rfl
def b_putB (S : SS) (aa : Nat) (rec : SS → Nat → Int32 → Int32 → Int32 → Option (SS)) (p0 : Int32) (p1 : Int32) (p2 : Int32) : Option (SS) := (if p0 = (-1 : Int32) then (if p2 ≤ (64 : Int32) then b_putB_l66 aa rec 10000 S p0 p2 0 p1 0 else ((b_rest (wr S 90 2 1) 0 p1).bind fun r99 => some r99)) else ((iget (S aa) p0).bind fun b101 => (if p2 ≤ (64 : Int32) then (if b101 = (5 : Int32) then ((r_next ((wr S 78 17 (p0 + 2)) aa) p0).bind fun r105 => b_putB_l66 aa rec 10000 (wr (wr S 78 17 (p0 + 2)) 78 18 r105) p0 p2 b101 p1 0) else b_putB_l66 aa rec 10000 S p0 p2 b101 p1 0) else ((b_rest (wr S 90 2 1) b101 p1).bind fun r109 => some r109))))
theorem s240 {S : SS} {aa : Nat} (haa : aa ∈ shA) {rec : SS → Nat → Int32 → Int32 → Int32 → Option (SS)} (hrec : ∀ (e : Nat), d ≤ e → ∀ (h : mH) (S : SS) (aa : Nat) (p0 : Int32) (p1 : Int32) (p2 : Int32) (v : SS), aa ∈ shA → cs h S → rec S aa p0 p1 p2 = some v → mW e mm240 (0, [some (.ref 78), some (.ref aa), some (.int p0), some (.int p1), some (.int p2), none, none, none], [], (h, q)) (mQ q v none)) {p0 : Int32} {p1 : Int32} {p2 : Int32} {v : SS} (hs : cs h S) (hv : b_putB S aa rec p0 p1 p2 = some v) : mW (d + 5) mm240 (0, [some (.ref 78), some (.ref aa), some (.int p0), some (.int p1), some (.int p2), none, none, none], [], (h, q)) (mQ q v none) := by
  unfold b_putB at hv
  refine mW.sn 2 (g' := (2, [some (.ref 78), some (.ref aa), some (.int p0), some (.int p1), some (.int p2), none, none, none], [.int (-1), .int p0], (h, q))) rfl ?_
  refine mW.br (g1 := (5, [some (.ref 78), some (.ref aa), some (.int p0), some (.int p1), some (.int p2), none, none, none], [], (h, q))) (g2 := (9, [some (.ref 78), some (.ref aa), some (.int p0), some (.int p1), some (.int p2), none, none, none], [], (h, q))) (c := p0 = (-1 : Int32)) rfl (fun hc1 => ?_) (fun hc1 => ?_)
  · rw [if_pos hc1] at hv
    refine mW.sn 9 (g' := (24, [some (.ref 78), some (.ref aa), some (.int p0), some (.int p1), some (.int p2), some (.int 0), some (.int p1), some (.int 0)], [.int 64, .int p2], (h, q))) rfl ?_
    refine mW.br (g1 := (44, [some (.ref 78), some (.ref aa), some (.int p0), some (.int p1), some (.int p2), some (.int 0), some (.int p1), some (.int 0)], [], (h, q))) (g2 := (27, [some (.ref 78), some (.ref aa), some (.int p0), some (.int p1), some (.int p2), some (.int 0), some (.int p1), some (.int 0)], [], (h, q))) (c := p2 ≤ (64 : Int32)) rfl (fun hc2 => ?_) (fun hc2 => ?_)
    · rw [if_pos hc2] at hv
      refine mW.sn 2 (g' := (47, [some (.ref 78), some (.ref aa), some (.int p0), some (.int p1), some (.int p2), some (.int 0), some (.int p1), some (.int 0)], [.int 5, .int 0], (h, q))) rfl ?_
      refine mW.no (g1 := (50, [some (.ref 78), some (.ref aa), some (.int p0), some (.int p1), some (.int p2), some (.int 0), some (.int p1), some (.int 0)], [], (h, q))) (g2 := (66, [some (.ref 78), some (.ref aa), some (.int p0), some (.int p1), some (.int p2), some (.int 0), some (.int p1), some (.int 0)], [], (h, q))) (c := (0 : Int32) = (5 : Int32)) rfl (by decide) ?_
      exact b_putB_l66_ok haa hrec _ _ _ _ _ _ _ _ _ _  hs hv
    · rw [if_neg hc2] at hv
      refine mW.sn 1 (g' := (28, [some (.ref 78), some (.ref aa), some (.int p0), some (.int p1), some (.int p2), some (.int 0), some (.int p1), some (.int 0)], [.ref 78], (h, q))) rfl ?_
      refine sW.getR rfl hs o78 rfl rfl ?_
      refine mW.sn 1 (g' := (32, [some (.ref 78), some (.ref aa), some (.int p0), some (.int p1), some (.int p2), some (.int 0), some (.int p1), some (.int 0)], [.int 1, .ref 90], (h, q))) rfl ?_
      refine sW.putZ rfl hs o90 rfl (by decide) ?_
      intro h98 hs98
      refine mW.sn 3 (g' := (40, [some (.ref 78), some (.ref aa), some (.int p0), some (.int p1), some (.int p2), some (.int 0), some (.int p1), some (.int 0)], [.int p1, .int 0, .ref 78], (h98, q))) rfl ?_
      cases hr99 : b_rest (wr S 90 2 1) 0 p1 with
      | none => rw [hr99] at hv; cases hv
      | some r99 =>
        rw [hr99, o_bind] at hv
        refine sW.call rfl rfl rfl rfl (hs98.rcv o78) (s241 hs98 hr99) ?_
        intro h100 hs100
        cases hv
        exact sW.fin hs100 rfl
  · rw [if_neg hc1] at hv
    refine mW.sn 2 (g' := (11, [some (.ref 78), some (.ref aa), some (.int p0), some (.int p1), some (.int p2), none, none, none], [.int p0, .ref aa], (h, q))) rfl ?_
    cases hr101 : iget (S aa) p0 with
    | none => rw [hr101] at hv; cases hv
    | some b101 =>
      rw [hr101, o_bind] at hv
      refine sW.iald rfl hs haa hr101 ?_
      refine mW.sn 7 (g' := (24, [some (.ref 78), some (.ref aa), some (.int p0), some (.int p1), some (.int p2), some (.int b101), some (.int p1), some (.int 0)], [.int 64, .int p2], (h, q))) rfl ?_
      refine mW.br (g1 := (44, [some (.ref 78), some (.ref aa), some (.int p0), some (.int p1), some (.int p2), some (.int b101), some (.int p1), some (.int 0)], [], (h, q))) (g2 := (27, [some (.ref 78), some (.ref aa), some (.int p0), some (.int p1), some (.int p2), some (.int b101), some (.int p1), some (.int 0)], [], (h, q))) (c := p2 ≤ (64 : Int32)) rfl (fun hc102 => ?_) (fun hc102 => ?_)
      · rw [if_pos hc102] at hv
        refine mW.sn 2 (g' := (47, [some (.ref 78), some (.ref aa), some (.int p0), some (.int p1), some (.int p2), some (.int b101), some (.int p1), some (.int 0)], [.int 5, .int b101], (h, q))) rfl ?_
        refine mW.br (g1 := (50, [some (.ref 78), some (.ref aa), some (.int p0), some (.int p1), some (.int p2), some (.int b101), some (.int p1), some (.int 0)], [], (h, q))) (g2 := (66, [some (.ref 78), some (.ref aa), some (.int p0), some (.int p1), some (.int p2), some (.int b101), some (.int p1), some (.int 0)], [], (h, q))) (c := b101 = (5 : Int32)) rfl (fun hc103 => ?_) (fun hc103 => ?_)
        · rw [if_pos hc103] at hv
          refine mW.sn 4 (g' := (54, [some (.ref 78), some (.ref aa), some (.int p0), some (.int p1), some (.int p2), some (.int b101), some (.int p1), some (.int 0)], [.int (p0 + 2), .ref 78], (h, q))) rfl ?_
          refine sW.putI rfl hs o78 rfl ?_
          intro h104 hs104
          refine mW.sn 3 (g' := (60, [some (.ref 78), some (.ref aa), some (.int p0), some (.int p1), some (.int p2), some (.int b101), some (.int p1), some (.int 0)], [.int p0, .ref aa, .ref 78], (h104, q))) rfl ?_
          cases hr105 : r_next ((wr S 78 17 (p0 + 2)) aa) p0 with
          | none => rw [hr105] at hv; cases hv
          | some r105 =>
            rw [hr105, o_bind] at hv
            refine sW.call rfl rfl rfl rfl rfl (sW.of hs104 (x199 (hs104.ar haa) hr105)) ?_
            intro h106 hs106
            refine sW.putI rfl hs106 o78 rfl ?_
            intro h107 hs107
            exact b_putB_l66_ok haa hrec _ _ _ _ _ _ _ _ _ _  hs107 hv
        · rw [if_neg hc103] at hv
          exact b_putB_l66_ok haa hrec _ _ _ _ _ _ _ _ _ _  hs hv
      · rw [if_neg hc102] at hv
        refine mW.sn 1 (g' := (28, [some (.ref 78), some (.ref aa), some (.int p0), some (.int p1), some (.int p2), some (.int b101), some (.int p1), some (.int 0)], [.ref 78], (h, q))) rfl ?_
        refine sW.getR rfl hs o78 rfl rfl ?_
        refine mW.sn 1 (g' := (32, [some (.ref 78), some (.ref aa), some (.int p0), some (.int p1), some (.int p2), some (.int b101), some (.int p1), some (.int 0)], [.int 1, .ref 90], (h, q))) rfl ?_
        refine sW.putZ rfl hs o90 rfl (by decide) ?_
        intro h108 hs108
        refine mW.sn 3 (g' := (40, [some (.ref 78), some (.ref aa), some (.int p0), some (.int p1), some (.int p2), some (.int b101), some (.int p1), some (.int 0)], [.int p1, .int b101, .ref 78], (h108, q))) rfl ?_
        cases hr109 : b_rest (wr S 90 2 1) b101 p1 with
        | none => rw [hr109] at hv; cases hv
        | some r109 =>
          rw [hr109, o_bind] at hv
          refine sW.call rfl rfl rfl rfl (hs108.rcv o78) (s241 hs108 hr109) ?_
          intro h110 hs110
          cases hv
          exact sW.fin hs110 rfl
def b_put : Nat → SS → Nat → Int32 → Int32 → Int32 → Option (SS)
  | 0, _, _, _, _, _ => none
  | n + 1, S, aa, p0, p1, p2 => b_putB S aa (b_put n) p0 p1 p2
theorem b_put_ok : ∀ (n e : Nat), 5 * n ≤ e → ∀ (h : mH) (S : SS) (aa : Nat) (p0 : Int32) (p1 : Int32) (p2 : Int32) (v : SS), aa ∈ shA → cs h S → b_put n S aa p0 p1 p2 = some v → mW e mm240 (0, [some (.ref 78), some (.ref aa), some (.int p0), some (.int p1), some (.int p2), none, none, none], [], (h, q)) (mQ q v none) := by
  intro n
  induction n with
  | zero => intro e he h S aa p0 p1 p2 v g0 hs hv; cases hv
  | succ n ih =>
    intro e he h S aa p0 p1 p2 v g0 hs hv
    have := s240 (d := e - 5) (q := q) g0 (rec := b_put n) (fun e' he' => ih e' (by omega)) hs hv
    rw [show e = e - 5 + 5 by omega]
    exact this
def b_isLast (S : SS) (p0 : Int32) : Option (Int32) := (if rd S 78 19 = 0 then none else ((r_next (S ((rd S 78 19).toNatClampNeg)) p0).bind fun r2 => (if r2 = (rd S 78 21) then some 1 else some 0)))
theorem s250 {S : SS} {p0 : Int32} {v : Int32} (hs : cs h S) (hv : b_isLast S p0 = some v) : mW (d + 1) mm250 (0, [some (.ref 78), some (.int p0)], [], (h, q)) (mQ q S (some (.int v))) := by
  unfold b_isLast at hv
  refine mW.sn 1 (g' := (1, [some (.ref 78), some (.int p0)], [.ref 78], (h, q))) rfl ?_
  by_cases hz1 : rd S 78 19 = 0
  · rw [if_pos hz1] at hv; cases hv
  rw [if_neg hz1] at hv
  refine sW.getN rfl hs o78 rfl rfl hz1 ?_
  refine mW.sn 1 (g' := (5, [some (.ref 78), some (.int p0)], [.int p0, .ref ((rd S 78 19).toNatClampNeg)], (h, q))) rfl ?_
  cases hr2 : r_next (S ((rd S 78 19).toNatClampNeg)) p0 with
  | none => rw [hr2] at hv; cases hv
  | some r2 =>
    rw [hr2, o_bind] at hv
    refine sW.call rfl rfl rfl rfl rfl (sW.of hs (x199 (hs.ar (hs.okA o78 rfl hz1)) hr2)) ?_
    intro h3 hs3
    refine mW.sn 1 (g' := (9, [some (.ref 78), some (.int p0)], [.ref 78, .int r2], (h3, q))) rfl ?_
    refine sW.getI rfl hs3 o78 rfl rfl ?_
    refine mW.br (g1 := (15, [some (.ref 78), some (.int p0)], [], (h3, q))) (g2 := (19, [some (.ref 78), some (.int p0)], [], (h3, q))) (c := r2 = (rd S 78 21)) rfl (fun hc4 => ?_) (fun hc4 => ?_)
    · rw [if_pos hc4] at hv
      refine mW.sn 2 (g' := (20, [some (.ref 78), some (.int p0)], [.int 1], (h3, q))) rfl ?_
      cases hv
      exact sW.fin hs3 rfl
    · rw [if_neg hc4] at hv
      refine mW.sn 1 (g' := (20, [some (.ref 78), some (.int p0)], [.int 0], (h3, q))) rfl ?_
      cases hv
      exact sW.fin hs3 rfl
def b_around (S : SS) (aa : Nat) (p0 : Int32) (p1 : Int32) (p2 : Int32) : Option (SS) := ((q_open S 5).bind fun r1 => ((b_cells r1.1 aa (p0 + 2) p1).bind fun r3 => ((r_next (r3 aa) p0).bind fun r5 => ((b_cells r3 aa p2 r5).bind fun r7 => ((q_close r7 r1.2).bind fun r9 => some r9)))))
theorem s251 {S : SS} {aa : Nat} (haa : aa ∈ shA) {p0 : Int32} {p1 : Int32} {p2 : Int32} {v : SS} (hs : cs h S) (hv : b_around S aa p0 p1 p2 = some v) : mW (d + 2) mm251 (0, [some (.ref 78), some (.ref aa), some (.int p0), some (.int p1), some (.int p2), none], [], (h, q)) (mQ q v none) := by
  unfold b_around at hv
  refine mW.sn 1 (g' := (1, [some (.ref 78), some (.ref aa), some (.int p0), some (.int p1), some (.int p2), none], [.ref 78], (h, q))) rfl ?_
  refine sW.getR rfl hs o78 rfl rfl ?_
  refine mW.sn 1 (g' := (5, [some (.ref 78), some (.ref aa), some (.int p0), some (.int p1), some (.int p2), none], [.int 5, .ref 90], (h, q))) rfl ?_
  cases hr1 : q_open S 5 with
  | none => rw [hr1] at hv; cases hv
  | some r1 =>
    rw [hr1, o_bind] at hv
    refine sW.call rfl rfl rfl rfl (hs.rcv o90) (s174 hs hr1) ?_
    intro h2 hs2
    refine mW.sn 7 (g' := (16, [some (.ref 78), some (.ref aa), some (.int p0), some (.int p1), some (.int p2), some (.int r1.2)], [.int p1, .int (p0 + 2), .ref aa, .ref 78], (h2, q))) rfl ?_
    cases hr3 : b_cells r1.1 aa (p0 + 2) p1 with
    | none => rw [hr3] at hv; cases hv
    | some r3 =>
      rw [hr3, o_bind] at hv
      refine sW.call rfl rfl rfl rfl (hs2.rcv o78) (s236 haa hs2 hr3) ?_
      intro h4 hs4
      refine mW.sn 5 (g' := (25, [some (.ref 78), some (.ref aa), some (.int p0), some (.int p1), some (.int p2), some (.int r1.2)], [.int p0, .ref aa, .int p2, .ref aa, .ref 78], (h4, q))) rfl ?_
      cases hr5 : r_next (r3 aa) p0 with
      | none => rw [hr5] at hv; cases hv
      | some r5 =>
        rw [hr5, o_bind] at hv
        refine sW.call rfl rfl rfl rfl rfl (sW.of hs4 (x199 (hs4.ar haa) hr5)) ?_
        intro h6 hs6
        cases hr7 : b_cells r3 aa p2 r5 with
        | none => rw [hr7] at hv; cases hv
        | some r7 =>
          rw [hr7, o_bind] at hv
          refine sW.call rfl rfl rfl rfl (hs6.rcv o78) (s236 haa hs6 hr7) ?_
          intro h8 hs8
          refine mW.sn 1 (g' := (32, [some (.ref 78), some (.ref aa), some (.int p0), some (.int p1), some (.int p2), some (.int r1.2)], [.ref 78], (h8, q))) rfl ?_
          refine sW.getR rfl hs8 o78 rfl rfl ?_
          refine mW.sn 1 (g' := (37, [some (.ref 78), some (.ref aa), some (.int p0), some (.int p1), some (.int p2), some (.int r1.2)], [.int r1.2, .ref 90], (h8, q))) rfl ?_
          cases hr9 : q_close r7 r1.2 with
          | none => rw [hr9] at hv; cases hv
          | some r9 =>
            rw [hr9, o_bind] at hv
            refine sW.call rfl rfl rfl rfl (hs8.rcv o90) (s176 hs8 hr9) ?_
            intro h10 hs10
            cases hv
            exact sW.fin hs10 rfl
def b_takeName_l16 (aa : Nat) (rec : SS → Nat → Int32 → Int32 → Option (SS)) : Nat → SS → Int32 → Int32 → Int32 → Int32 → Option (SS)
  | 0, _, _, _, _, _ => none
  | n + 1, S, l2, l3, l4, l5 => ((r_next (S aa) l2).bind fun r3 => (if r3 ≤ l5 then ((q_close S l4).bind fun r6 => some r6) else (if rd S 78 19 = 0 then none else ((r_strings (S aa) (S ((rd S 78 19).toNatClampNeg)) l5 l3).bind fun r9 => (if r9 = 0 then ((b_isLast S l3).bind fun r12 => (if r12 = 0 then ((q_copy S aa l5).bind fun r15 => ((r_next (r15 aa) l5).bind fun r17 => (if rd r15 78 19 = 0 then none else ((r_next (r15 ((rd r15 78 19).toNatClampNeg)) l3).bind fun r20 => ((rec r15 aa r17 r20).bind fun r22 => ((r_next (r22 aa) l5).bind fun r24 => ((r_next (r22 aa) r24).bind fun r26 => b_takeName_l16 aa rec n r22 l2 l3 l4 r26))))))) else ((r_next (S aa) l5).bind fun r28 => ((r_next (S aa) r28).bind fun r30 => b_takeName_l16 aa rec n S l2 l3 l4 r30)))) else ((q_copy S aa l5).bind fun r32 => ((r_next (r32 aa) l5).bind fun r34 => ((q_copy r32 aa r34).bind fun r36 => ((r_next (r36 aa) l5).bind fun r38 => ((r_next (r36 aa) r38).bind fun r40 => b_takeName_l16 aa rec n r36 l2 l3 l4 r40))))))))))
theorem b_takeName_l16_ok {aa : Nat} (haa : aa ∈ shA) {rec : SS → Nat → Int32 → Int32 → Option (SS)} (hrec : ∀ (e : Nat), d ≤ e → ∀ (h : mH) (S : SS) (aa : Nat) (p0 : Int32) (p1 : Int32) (v : SS), aa ∈ shA → cs h S → rec S aa p0 p1 = some v → mW e mm248 (0, [some (.ref 78), some (.ref aa), some (.int p0), some (.int p1), none, none, none], [], (h, q)) (mQ q v none)) : ∀ (n : Nat), ∀ (h : mH) (S : SS) (l2 : Int32) (l3 : Int32) (l4 : Int32) (l5 : Int32) (x6 : Option Value) (v : SS), cs h S → b_takeName_l16 aa rec n S l2 l3 l4 l5 = some v → mW (d + 2) mm249 (16, [some (.ref 78), some (.ref aa), some (.int l2), some (.int l3), some (.int l4), some (.int l5), x6], [], (h, q)) (mQ q v none) := by
  intro n
  induction n with
  | zero => intro h S l2 l3 l4 l5 x6 v hs hv; cases hv
  | succ n ih =>
    intro h S l2 l3 l4 l5 x6 v hs hv
    unfold b_takeName_l16 at hv
    refine mW.sn 3 (g' := (20, [some (.ref 78), some (.ref aa), some (.int l2), some (.int l3), some (.int l4), some (.int l5), x6], [.int l2, .ref aa, .int l5], (h, q))) rfl ?_
    cases hr3 : r_next (S aa) l2 with
    | none => rw [hr3] at hv; cases hv
    | some r3 =>
      rw [hr3, o_bind] at hv
      refine sW.call rfl rfl rfl rfl rfl (sW.of hs (x199 (hs.ar haa) hr3)) ?_
      intro h4 hs4
      refine mW.br (g1 := (129, [some (.ref 78), some (.ref aa), some (.int l2), some (.int l3), some (.int l4), some (.int l5), x6], [], (h4, q))) (g2 := (26, [some (.ref 78), some (.ref aa), some (.int l2), some (.int l3), some (.int l4), some (.int l5), x6], [], (h4, q))) (c := r3 ≤ l5) rfl (fun hc5 => ?_) (fun hc5 => ?_)
      · rw [if_pos hc5] at hv
        refine mW.sn 1 (g' := (130, [some (.ref 78), some (.ref aa), some (.int l2), some (.int l3), some (.int l4), some (.int l5), x6], [.ref 78], (h4, q))) rfl ?_
        refine sW.getR rfl hs4 o78 rfl rfl ?_
        refine mW.sn 1 (g' := (135, [some (.ref 78), some (.ref aa), some (.int l2), some (.int l3), some (.int l4), some (.int l5), x6], [.int l4, .ref 90], (h4, q))) rfl ?_
        cases hr6 : q_close S l4 with
        | none => rw [hr6] at hv; cases hv
        | some r6 =>
          rw [hr6, o_bind] at hv
          refine sW.call rfl rfl rfl rfl (hs4.rcv o90) (s176 hs4 hr6) ?_
          intro h7 hs7
          cases hv
          exact sW.fin hs7 rfl
      · rw [if_neg hc5] at hv
        refine mW.sn 3 (g' := (30, [some (.ref 78), some (.ref aa), some (.int l2), some (.int l3), some (.int l4), some (.int l5), x6], [.ref 78, .int l5, .ref aa], (h4, q))) rfl ?_
        by_cases hz8 : rd S 78 19 = 0
        · rw [if_pos hz8] at hv; cases hv
        rw [if_neg hz8] at hv
        refine sW.getN rfl hs4 o78 rfl rfl hz8 ?_
        refine mW.sn 1 (g' := (34, [some (.ref 78), some (.ref aa), some (.int l2), some (.int l3), some (.int l4), some (.int l5), x6], [.int l3, .ref ((rd S 78 19).toNatClampNeg), .int l5, .ref aa], (h4, q))) rfl ?_
        cases hr9 : r_strings (S aa) (S ((rd S 78 19).toNatClampNeg)) l5 l3 with
        | none => rw [hr9] at hv; cases hv
        | some r9 =>
          rw [hr9, o_bind] at hv
          refine sW.call rfl rfl rfl rfl rfl (sW.of hs4 (x198 (hs4.ar haa) (hs4.ar (hs4.okA o78 rfl hz8)) hr9)) ?_
          intro h10 hs10
          refine mW.br (g1 := (40, [some (.ref 78), some (.ref aa), some (.int l2), some (.int l3), some (.int l4), some (.int l5), x6], [], (h10, q))) (g2 := (44, [some (.ref 78), some (.ref aa), some (.int l2), some (.int l3), some (.int l4), some (.int l5), x6], [], (h10, q))) (c := r9 = 0) rfl (fun hc11 => ?_) (fun hc11 => ?_)
          · rw [if_pos hc11] at hv
            refine mW.sn 4 (g' := (49, [some (.ref 78), some (.ref aa), some (.int l2), some (.int l3), some (.int l4), some (.int l5), some (.int 1)], [.int 1], (h10, q))) rfl ?_
            refine mW.no (g1 := (63, [some (.ref 78), some (.ref aa), some (.int l2), some (.int l3), some (.int l4), some (.int l5), some (.int 1)], [], (h10, q))) (g2 := (52, [some (.ref 78), some (.ref aa), some (.int l2), some (.int l3), some (.int l4), some (.int l5), some (.int 1)], [], (h10, q))) (c := (1 : Int32) = 0) rfl (by decide) ?_
            refine mW.sn 2 (g' := (54, [some (.ref 78), some (.ref aa), some (.int l2), some (.int l3), some (.int l4), some (.int l5), some (.int 1)], [.int l3, .ref 78], (h10, q))) rfl ?_
            cases hr12 : b_isLast S l3 with
            | none => rw [hr12] at hv; cases hv
            | some r12 =>
              rw [hr12, o_bind] at hv
              refine sW.call rfl rfl rfl rfl (hs10.rcv o78) (s250 hs10 hr12) ?_
              intro h13 hs13
              refine mW.br (g1 := (63, [some (.ref 78), some (.ref aa), some (.int l2), some (.int l3), some (.int l4), some (.int l5), some (.int 1)], [], (h13, q))) (g2 := (60, [some (.ref 78), some (.ref aa), some (.int l2), some (.int l3), some (.int l4), some (.int l5), some (.int 1)], [], (h13, q))) (c := r12 = 0) rfl (fun hc14 => ?_) (fun hc14 => ?_)
              · rw [if_pos hc14] at hv
                refine mW.sn 1 (g' := (64, [some (.ref 78), some (.ref aa), some (.int l2), some (.int l3), some (.int l4), some (.int l5), some (.int 1)], [.ref 78], (h13, q))) rfl ?_
                refine sW.getR rfl hs13 o78 rfl rfl ?_
                refine mW.sn 2 (g' := (70, [some (.ref 78), some (.ref aa), some (.int l2), some (.int l3), some (.int l4), some (.int l5), some (.int 1)], [.int l5, .ref aa, .ref 90], (h13, q))) rfl ?_
                cases hr15 : q_copy S aa l5 with
                | none => rw [hr15] at hv; cases hv
                | some r15 =>
                  rw [hr15, o_bind] at hv
                  refine sW.call rfl rfl rfl rfl (hs13.rcv o90) (s243 haa hs13 hr15) ?_
                  intro h16 hs16
                  refine mW.sn 1 (g' := (75, [some (.ref 78), some (.ref aa), some (.int l2), some (.int l3), some (.int l4), some (.int l5), some (.int 1)], [.int 1], (h16, q))) rfl ?_
                  refine mW.no (g1 := (100, [some (.ref 78), some (.ref aa), some (.int l2), some (.int l3), some (.int l4), some (.int l5), some (.int 1)], [], (h16, q))) (g2 := (78, [some (.ref 78), some (.ref aa), some (.int l2), some (.int l3), some (.int l4), some (.int l5), some (.int 1)], [], (h16, q))) (c := (1 : Int32) = 0) rfl (by decide) ?_
                  refine mW.sn 4 (g' := (83, [some (.ref 78), some (.ref aa), some (.int l2), some (.int l3), some (.int l4), some (.int l5), some (.int 1)], [.int l5, .ref aa, .ref aa, .ref 78], (h16, q))) rfl ?_
                  cases hr17 : r_next (r15 aa) l5 with
                  | none => rw [hr17] at hv; cases hv
                  | some r17 =>
                    rw [hr17, o_bind] at hv
                    refine sW.call rfl rfl rfl rfl rfl (sW.of hs16 (x199 (hs16.ar haa) hr17)) ?_
                    intro h18 hs18
                    refine mW.sn 1 (g' := (87, [some (.ref 78), some (.ref aa), some (.int l2), some (.int l3), some (.int l4), some (.int l5), some (.int 1)], [.ref 78, .int r17, .ref aa, .ref 78], (h18, q))) rfl ?_
                    by_cases hz19 : rd r15 78 19 = 0
                    · rw [if_pos hz19] at hv; cases hv
                    rw [if_neg hz19] at hv
                    refine sW.getN rfl hs18 o78 rfl rfl hz19 ?_
                    refine mW.sn 1 (g' := (91, [some (.ref 78), some (.ref aa), some (.int l2), some (.int l3), some (.int l4), some (.int l5), some (.int 1)], [.int l3, .ref ((rd r15 78 19).toNatClampNeg), .int r17, .ref aa, .ref 78], (h18, q))) rfl ?_
                    cases hr20 : r_next (r15 ((rd r15 78 19).toNatClampNeg)) l3 with
                    | none => rw [hr20] at hv; cases hv
                    | some r20 =>
                      rw [hr20, o_bind] at hv
                      refine sW.call rfl rfl rfl rfl rfl (sW.of hs18 (x199 (hs18.ar (hs18.okA o78 rfl hz19)) hr20)) ?_
                      intro h21 hs21
                      cases hr22 : rec r15 aa r17 r20 with
                      | none => rw [hr22] at hv; cases hv
                      | some r22 =>
                        rw [hr22, o_bind] at hv
                        refine sW.call rfl rfl rfl rfl (hs21.rcv o78) (hrec _ (by omega) _ _ _ _ _ _ haa hs21 hr22) ?_
                        intro h23 hs23
                        refine mW.sn 4 (g' := (118, [some (.ref 78), some (.ref aa), some (.int l2), some (.int l3), some (.int l4), some (.int l5), some (.int 1)], [.int l5, .ref aa, .ref aa], (h23, q))) rfl ?_
                        cases hr24 : r_next (r22 aa) l5 with
                        | none => rw [hr24] at hv; cases hv
                        | some r24 =>
                          rw [hr24, o_bind] at hv
                          refine sW.call rfl rfl rfl rfl rfl (sW.of hs23 (x199 (hs23.ar haa) hr24)) ?_
                          intro h25 hs25
                          cases hr26 : r_next (r22 aa) r24 with
                          | none => rw [hr26] at hv; cases hv
                          | some r26 =>
                            rw [hr26, o_bind] at hv
                            refine sW.call rfl rfl rfl rfl rfl (sW.of hs25 (x199 (hs25.ar haa) hr26)) ?_
                            intro h27 hs27
                            refine mW.sn 2 (g' := (16, [some (.ref 78), some (.ref aa), some (.int l2), some (.int l3), some (.int l4), some (.int r26), some (.int 1)], [], (h27, q))) rfl ?_
                            exact ih _ _ _ _ _ _ _ _  hs27 hv
              · rw [if_neg hc14] at hv
                refine mW.sn 4 (g' := (118, [some (.ref 78), some (.ref aa), some (.int l2), some (.int l3), some (.int l4), some (.int l5), some (.int 1)], [.int l5, .ref aa, .ref aa], (h13, q))) rfl ?_
                cases hr28 : r_next (S aa) l5 with
                | none => rw [hr28] at hv; cases hv
                | some r28 =>
                  rw [hr28, o_bind] at hv
                  refine sW.call rfl rfl rfl rfl rfl (sW.of hs13 (x199 (hs13.ar haa) hr28)) ?_
                  intro h29 hs29
                  cases hr30 : r_next (S aa) r28 with
                  | none => rw [hr30] at hv; cases hv
                  | some r30 =>
                    rw [hr30, o_bind] at hv
                    refine sW.call rfl rfl rfl rfl rfl (sW.of hs29 (x199 (hs29.ar haa) hr30)) ?_
                    intro h31 hs31
                    refine mW.sn 2 (g' := (16, [some (.ref 78), some (.ref aa), some (.int l2), some (.int l3), some (.int l4), some (.int r30), some (.int 1)], [], (h31, q))) rfl ?_
                    exact ih _ _ _ _ _ _ _ _  hs31 hv
          · rw [if_neg hc11] at hv
            refine mW.sn 3 (g' := (49, [some (.ref 78), some (.ref aa), some (.int l2), some (.int l3), some (.int l4), some (.int l5), some (.int 0)], [.int 0], (h10, q))) rfl ?_
            refine mW.yes (g1 := (63, [some (.ref 78), some (.ref aa), some (.int l2), some (.int l3), some (.int l4), some (.int l5), some (.int 0)], [], (h10, q))) (g2 := (52, [some (.ref 78), some (.ref aa), some (.int l2), some (.int l3), some (.int l4), some (.int l5), some (.int 0)], [], (h10, q))) (c := (0 : Int32) = 0) rfl (by decide) ?_
            refine mW.sn 1 (g' := (64, [some (.ref 78), some (.ref aa), some (.int l2), some (.int l3), some (.int l4), some (.int l5), some (.int 0)], [.ref 78], (h10, q))) rfl ?_
            refine sW.getR rfl hs10 o78 rfl rfl ?_
            refine mW.sn 2 (g' := (70, [some (.ref 78), some (.ref aa), some (.int l2), some (.int l3), some (.int l4), some (.int l5), some (.int 0)], [.int l5, .ref aa, .ref 90], (h10, q))) rfl ?_
            cases hr32 : q_copy S aa l5 with
            | none => rw [hr32] at hv; cases hv
            | some r32 =>
              rw [hr32, o_bind] at hv
              refine sW.call rfl rfl rfl rfl (hs10.rcv o90) (s243 haa hs10 hr32) ?_
              intro h33 hs33
              refine mW.sn 1 (g' := (75, [some (.ref 78), some (.ref aa), some (.int l2), some (.int l3), some (.int l4), some (.int l5), some (.int 0)], [.int 0], (h33, q))) rfl ?_
              refine mW.yes (g1 := (100, [some (.ref 78), some (.ref aa), some (.int l2), some (.int l3), some (.int l4), some (.int l5), some (.int 0)], [], (h33, q))) (g2 := (78, [some (.ref 78), some (.ref aa), some (.int l2), some (.int l3), some (.int l4), some (.int l5), some (.int 0)], [], (h33, q))) (c := (0 : Int32) = 0) rfl (by decide) ?_
              refine mW.sn 1 (g' := (101, [some (.ref 78), some (.ref aa), some (.int l2), some (.int l3), some (.int l4), some (.int l5), some (.int 0)], [.ref 78], (h33, q))) rfl ?_
              refine sW.getR rfl hs33 o78 rfl rfl ?_
              refine mW.sn 3 (g' := (108, [some (.ref 78), some (.ref aa), some (.int l2), some (.int l3), some (.int l4), some (.int l5), some (.int 0)], [.int l5, .ref aa, .ref aa, .ref 90], (h33, q))) rfl ?_
              cases hr34 : r_next (r32 aa) l5 with
              | none => rw [hr34] at hv; cases hv
              | some r34 =>
                rw [hr34, o_bind] at hv
                refine sW.call rfl rfl rfl rfl rfl (sW.of hs33 (x199 (hs33.ar haa) hr34)) ?_
                intro h35 hs35
                cases hr36 : q_copy r32 aa r34 with
                | none => rw [hr36] at hv; cases hv
                | some r36 =>
                  rw [hr36, o_bind] at hv
                  refine sW.call rfl rfl rfl rfl (hs35.rcv o90) (s243 haa hs35 hr36) ?_
                  intro h37 hs37
                  refine mW.sn 3 (g' := (118, [some (.ref 78), some (.ref aa), some (.int l2), some (.int l3), some (.int l4), some (.int l5), some (.int 0)], [.int l5, .ref aa, .ref aa], (h37, q))) rfl ?_
                  cases hr38 : r_next (r36 aa) l5 with
                  | none => rw [hr38] at hv; cases hv
                  | some r38 =>
                    rw [hr38, o_bind] at hv
                    refine sW.call rfl rfl rfl rfl rfl (sW.of hs37 (x199 (hs37.ar haa) hr38)) ?_
                    intro h39 hs39
                    cases hr40 : r_next (r36 aa) r38 with
                    | none => rw [hr40] at hv; cases hv
                    | some r40 =>
                      rw [hr40, o_bind] at hv
                      refine sW.call rfl rfl rfl rfl rfl (sW.of hs39 (x199 (hs39.ar haa) hr40)) ?_
                      intro h41 hs41
                      refine mW.sn 2 (g' := (16, [some (.ref 78), some (.ref aa), some (.int l2), some (.int l3), some (.int l4), some (.int r40), some (.int 0)], [], (h41, q))) rfl ?_
                      exact ih _ _ _ _ _ _ _ _  hs41 hv
def b_takeName (S : SS) (aa : Nat) (rec : SS → Nat → Int32 → Int32 → Option (SS)) (p0 : Int32) (p1 : Int32) : Option (SS) := ((q_open S 6).bind fun r1 => b_takeName_l16 aa rec 10000 r1.1 p0 p1 r1.2 (p0 + 2))
theorem s249 {S : SS} {aa : Nat} (haa : aa ∈ shA) {rec : SS → Nat → Int32 → Int32 → Option (SS)} (hrec : ∀ (e : Nat), d ≤ e → ∀ (h : mH) (S : SS) (aa : Nat) (p0 : Int32) (p1 : Int32) (v : SS), aa ∈ shA → cs h S → rec S aa p0 p1 = some v → mW e mm248 (0, [some (.ref 78), some (.ref aa), some (.int p0), some (.int p1), none, none, none], [], (h, q)) (mQ q v none)) {p0 : Int32} {p1 : Int32} {v : SS} (hs : cs h S) (hv : b_takeName S aa rec p0 p1 = some v) : mW (d + 2) mm249 (0, [some (.ref 78), some (.ref aa), some (.int p0), some (.int p1), none, none, none], [], (h, q)) (mQ q v none) := by
  unfold b_takeName at hv
  refine mW.sn 1 (g' := (1, [some (.ref 78), some (.ref aa), some (.int p0), some (.int p1), none, none, none], [.ref 78], (h, q))) rfl ?_
  refine sW.getR rfl hs o78 rfl rfl ?_
  refine mW.sn 1 (g' := (6, [some (.ref 78), some (.ref aa), some (.int p0), some (.int p1), none, none, none], [.int 6, .ref 90], (h, q))) rfl ?_
  cases hr1 : q_open S 6 with
  | none => rw [hr1] at hv; cases hv
  | some r1 =>
    rw [hr1, o_bind] at hv
    refine sW.call rfl rfl rfl rfl (hs.rcv o90) (s174 hs hr1) ?_
    intro h2 hs2
    refine mW.sn 5 (g' := (16, [some (.ref 78), some (.ref aa), some (.int p0), some (.int p1), some (.int r1.2), some (.int (p0 + 2)), none], [], (h2, q))) rfl ?_
    exact b_takeName_l16_ok haa hrec _ _ _ _ _ _ _ _ _  hs2 hv
def b_takeB_l76 (aa : Nat) (rec : SS → Nat → Int32 → Int32 → Option (SS)) : Nat → SS → Int32 → Int32 → Option (SS)
  | 0, _, _, _ => none
  | n + 1, S, l2, l4 => (if rd S 78 19 = 0 then none else ((iget (S ((rd S 78 19).toNatClampNeg)) l4).bind fun b17 => (if b17 = (6 : Int32) then ((b_part S ((rd S 78 19).toNatClampNeg) l4).bind fun r19 => (if r19 = 0 then (if b17 = (3 : Int32) then ((r_number (S ((rd S 78 19).toNatClampNeg)) l4).bind fun r23 => ((b_place S aa r23).bind fun r25 => (if r25 = (-1 : Int32) then ((q_copy S aa l2).bind fun r28 => some r28) else ((b_isLast S l4).bind fun r30 => (if r30 = 0 then ((iget (S aa) r25).bind fun b33 => (if b33 = 0 then ((q_copy S aa l2).bind fun r35 => some r35) else ((q_open S 5).bind fun r38 => ((b_cells r38.1 aa (l2 + 2) r25).bind fun r40 => (if rd r40 78 19 = 0 then none else ((r_next (r40 ((rd r40 78 19).toNatClampNeg)) l4).bind fun r43 => ((rec r40 aa r25 r43).bind fun r45 => ((r_next (r45 aa) r25).bind fun r47 => ((r_next (r45 aa) l2).bind fun r49 => ((b_cells r45 aa r47 r49).bind fun r51 => ((q_close r51 r38.2).bind fun r53 => some r53))))))))))) else ((r_next (S aa) r25).bind fun r56 => ((b_around S aa l2 r25 r56).bind fun r58 => some r58))))))) else ((b_refuse S 1).bind fun r60 => some r60)) else ((b_narrow S aa ((rd S 78 19).toNatClampNeg) 0 l4).bind fun r62 => ((b_isLast r62 l4).bind fun r64 => (if r64 = 0 then (if rd r62 78 19 = 0 then none else ((r_next (r62 ((rd r62 78 19).toNatClampNeg)) l4).bind fun r68 => b_takeB_l76 aa rec n r62 l2 r68)) else ((b_around r62 aa l2 (rd r62 78 17) (rd r62 78 18)).bind fun r70 => some r70)))))) else (if b17 = (3 : Int32) then ((r_number (S ((rd S 78 19).toNatClampNeg)) l4).bind fun r73 => ((b_place S aa r73).bind fun r75 => (if r75 = (-1 : Int32) then ((q_copy S aa l2).bind fun r78 => some r78) else ((b_isLast S l4).bind fun r80 => (if r80 = 0 then ((iget (S aa) r75).bind fun b83 => (if b83 = 0 then ((q_copy S aa l2).bind fun r85 => some r85) else ((q_open S 5).bind fun r88 => ((b_cells r88.1 aa (l2 + 2) r75).bind fun r90 => (if rd r90 78 19 = 0 then none else ((r_next (r90 ((rd r90 78 19).toNatClampNeg)) l4).bind fun r93 => ((rec r90 aa r75 r93).bind fun r95 => ((r_next (r95 aa) r75).bind fun r97 => ((r_next (r95 aa) l2).bind fun r99 => ((b_cells r95 aa r97 r99).bind fun r101 => ((q_close r101 r88.2).bind fun r103 => some r103))))))))))) else ((r_next (S aa) r75).bind fun r106 => ((b_around S aa l2 r75 r106).bind fun r108 => some r108))))))) else ((b_refuse S 1).bind fun r110 => some r110)))))
theorem b_takeB_l76_ok {aa : Nat} (haa : aa ∈ shA) {rec : SS → Nat → Int32 → Int32 → Option (SS)} (hrec : ∀ (e : Nat), d ≤ e → ∀ (h : mH) (S : SS) (aa : Nat) (p0 : Int32) (p1 : Int32) (v : SS), aa ∈ shA → cs h S → rec S aa p0 p1 = some v → mW e mm248 (0, [some (.ref 78), some (.ref aa), some (.int p0), some (.int p1), none, none, none], [], (h, q)) (mQ q v none)) : ∀ (n : Nat), ∀ (h : mH) (S : SS) (l2 : Int32) (l4 : Int32) (y3 : Int32) (x5 : Option Value) (x6 : Option Value) (v : SS), cs h S → b_takeB_l76 aa rec n S l2 l4 = some v → mW (d + 4) mm248 (76, [some (.ref 78), some (.ref aa), some (.int l2), some (.int y3), some (.int l4), x5, x6], [], (h, q)) (mQ q v none) := by
  intro n
  induction n with
  | zero => intro h S l2 l4 y3 x5 x6 v hs hv; cases hv
  | succ n ih =>
    intro h S l2 l4 y3 x5 x6 v hs hv
    unfold b_takeB_l76 at hv
    refine mW.sn 1 (g' := (77, [some (.ref 78), some (.ref aa), some (.int l2), some (.int y3), some (.int l4), x5, x6], [.ref 78], (h, q))) rfl ?_
    by_cases hz16 : rd S 78 19 = 0
    · rw [if_pos hz16] at hv; cases hv
    rw [if_neg hz16] at hv
    refine sW.getN rfl hs o78 rfl rfl hz16 ?_
    refine mW.sn 1 (g' := (82, [some (.ref 78), some (.ref aa), some (.int l2), some (.int y3), some (.int l4), x5, x6], [.int l4, .ref ((rd S 78 19).toNatClampNeg)], (h, q))) rfl ?_
    cases hr17 : iget (S ((rd S 78 19).toNatClampNeg)) l4 with
    | none => rw [hr17] at hv; cases hv
    | some b17 =>
      rw [hr17, o_bind] at hv
      refine sW.iald rfl hs (hs.okA o78 rfl hz16) hr17 ?_
      refine mW.sn 1 (g' := (85, [some (.ref 78), some (.ref aa), some (.int l2), some (.int y3), some (.int l4), x5, x6], [.int 6, .int b17], (h, q))) rfl ?_
      refine mW.br (g1 := (88, [some (.ref 78), some (.ref aa), some (.int l2), some (.int y3), some (.int l4), x5, x6], [], (h, q))) (g2 := (150, [some (.ref 78), some (.ref aa), some (.int l2), some (.int y3), some (.int l4), x5, x6], [], (h, q))) (c := b17 = (6 : Int32)) rfl (fun hc18 => ?_) (fun hc18 => ?_)
      · rw [if_pos hc18] at hv
        refine mW.sn 1 (g' := (89, [some (.ref 78), some (.ref aa), some (.int l2), some (.int y3), some (.int l4), x5, x6], [.ref 78], (h, q))) rfl ?_
        refine sW.getN rfl hs o78 rfl rfl hz16 ?_
        refine mW.sn 1 (g' := (94, [some (.ref 78), some (.ref aa), some (.int l2), some (.int y3), some (.int l4), x5, x6], [.int l4, .ref ((rd S 78 19).toNatClampNeg)], (h, q))) rfl ?_
        cases hr19 : b_part S ((rd S 78 19).toNatClampNeg) l4 with
        | none => rw [hr19] at hv; cases hv
        | some r19 =>
          rw [hr19, o_bind] at hv
          refine sW.call rfl rfl rfl rfl rfl (s229 (hs.okA o78 rfl hz16) hs hr19) ?_
          intro h20 hs20
          refine mW.br (g1 := (150, [some (.ref 78), some (.ref aa), some (.int l2), some (.int y3), some (.int l4), x5, x6], [], (h20, q))) (g2 := (100, [some (.ref 78), some (.ref aa), some (.int l2), some (.int y3), some (.int l4), x5, x6], [], (h20, q))) (c := r19 = 0) rfl (fun hc21 => ?_) (fun hc21 => ?_)
          · rw [if_pos hc21] at hv
            refine mW.sn 1 (g' := (151, [some (.ref 78), some (.ref aa), some (.int l2), some (.int y3), some (.int l4), x5, x6], [.ref 78], (h20, q))) rfl ?_
            refine sW.getN rfl hs20 o78 rfl rfl hz16 ?_
            refine mW.sn 1 (g' := (156, [some (.ref 78), some (.ref aa), some (.int l2), some (.int y3), some (.int l4), x5, x6], [.int l4, .ref ((rd S 78 19).toNatClampNeg)], (h20, q))) rfl ?_
            refine sW.iald rfl hs20 (hs20.okA o78 rfl hz16) hr17 ?_
            refine mW.sn 1 (g' := (158, [some (.ref 78), some (.ref aa), some (.int l2), some (.int y3), some (.int l4), x5, x6], [.int 3, .int b17], (h20, q))) rfl ?_
            refine mW.br (g1 := (167, [some (.ref 78), some (.ref aa), some (.int l2), some (.int y3), some (.int l4), x5, x6], [], (h20, q))) (g2 := (161, [some (.ref 78), some (.ref aa), some (.int l2), some (.int y3), some (.int l4), x5, x6], [], (h20, q))) (c := b17 = (3 : Int32)) rfl (fun hc22 => ?_) (fun hc22 => ?_)
            · rw [if_pos hc22] at hv
              refine mW.sn 3 (g' := (170, [some (.ref 78), some (.ref aa), some (.int l2), some (.int y3), some (.int l4), x5, x6], [.ref 78, .ref aa, .ref 78], (h20, q))) rfl ?_
              refine sW.getN rfl hs20 o78 rfl rfl hz16 ?_
              refine mW.sn 1 (g' := (175, [some (.ref 78), some (.ref aa), some (.int l2), some (.int y3), some (.int l4), x5, x6], [.int l4, .ref ((rd S 78 19).toNatClampNeg), .ref aa, .ref 78], (h20, q))) rfl ?_
              cases hr23 : r_number (S ((rd S 78 19).toNatClampNeg)) l4 with
              | none => rw [hr23] at hv; cases hv
              | some r23 =>
                rw [hr23, o_bind] at hv
                refine sW.call rfl rfl rfl rfl rfl (sW.of hs20 (x208 (hs20.ar (hs20.okA o78 rfl hz16)) hr23)) ?_
                intro h24 hs24
                cases hr25 : b_place S aa r23 with
                | none => rw [hr25] at hv; cases hv
                | some r25 =>
                  rw [hr25, o_bind] at hv
                  refine sW.call rfl rfl rfl rfl (hs24.rcv o78) (s235 haa hs24 hr25) ?_
                  intro h26 hs26
                  refine mW.sn 3 (g' := (186, [some (.ref 78), some (.ref aa), some (.int l2), some (.int y3), some (.int l4), some (.int r25), x6], [.int (-1), .int r25], (h26, q))) rfl ?_
                  refine mW.br (g1 := (205, [some (.ref 78), some (.ref aa), some (.int l2), some (.int y3), some (.int l4), some (.int r25), x6], [], (h26, q))) (g2 := (189, [some (.ref 78), some (.ref aa), some (.int l2), some (.int y3), some (.int l4), some (.int r25), x6], [], (h26, q))) (c := r25 = (-1 : Int32)) rfl (fun hc27 => ?_) (fun hc27 => ?_)
                  · rw [if_pos hc27] at hv
                    refine mW.sn 1 (g' := (206, [some (.ref 78), some (.ref aa), some (.int l2), some (.int y3), some (.int l4), some (.int r25), x6], [.ref 78], (h26, q))) rfl ?_
                    refine sW.getR rfl hs26 o78 rfl rfl ?_
                    refine mW.sn 2 (g' := (211, [some (.ref 78), some (.ref aa), some (.int l2), some (.int y3), some (.int l4), some (.int r25), x6], [.int l2, .ref aa, .ref 90], (h26, q))) rfl ?_
                    cases hr28 : q_copy S aa l2 with
                    | none => rw [hr28] at hv; cases hv
                    | some r28 =>
                      rw [hr28, o_bind] at hv
                      refine sW.call rfl rfl rfl rfl (hs26.rcv o90) (s243 haa hs26 hr28) ?_
                      intro h29 hs29
                      refine mW.sn 1 (g' := (304, [some (.ref 78), some (.ref aa), some (.int l2), some (.int y3), some (.int l4), some (.int r25), x6], [], (h29, q))) rfl ?_
                      cases hv
                      exact sW.fin hs29 rfl
                  · rw [if_neg hc27] at hv
                    refine mW.sn 2 (g' := (192, [some (.ref 78), some (.ref aa), some (.int l2), some (.int y3), some (.int l4), some (.int r25), x6], [.int l4, .ref 78], (h26, q))) rfl ?_
                    cases hr30 : b_isLast S l4 with
                    | none => rw [hr30] at hv; cases hv
                    | some r30 =>
                      rw [hr30, o_bind] at hv
                      refine sW.call rfl rfl rfl rfl (hs26.rcv o78) (s250 hs26 hr30) ?_
                      intro h31 hs31
                      refine mW.br (g1 := (198, [some (.ref 78), some (.ref aa), some (.int l2), some (.int y3), some (.int l4), some (.int r25), x6], [], (h31, q))) (g2 := (217, [some (.ref 78), some (.ref aa), some (.int l2), some (.int y3), some (.int l4), some (.int r25), x6], [], (h31, q))) (c := r30 = 0) rfl (fun hc32 => ?_) (fun hc32 => ?_)
                      · rw [if_pos hc32] at hv
                        refine mW.sn 2 (g' := (201, [some (.ref 78), some (.ref aa), some (.int l2), some (.int y3), some (.int l4), some (.int r25), x6], [.int r25, .ref aa], (h31, q))) rfl ?_
                        cases hr33 : iget (S aa) r25 with
                        | none => rw [hr33] at hv; cases hv
                        | some b33 =>
                          rw [hr33, o_bind] at hv
                          refine sW.iald rfl hs31 haa hr33 ?_
                          refine mW.br (g1 := (205, [some (.ref 78), some (.ref aa), some (.int l2), some (.int y3), some (.int l4), some (.int r25), x6], [], (h31, q))) (g2 := (217, [some (.ref 78), some (.ref aa), some (.int l2), some (.int y3), some (.int l4), some (.int r25), x6], [], (h31, q))) (c := b33 = 0) rfl (fun hc34 => ?_) (fun hc34 => ?_)
                          · rw [if_pos hc34] at hv
                            refine mW.sn 1 (g' := (206, [some (.ref 78), some (.ref aa), some (.int l2), some (.int y3), some (.int l4), some (.int r25), x6], [.ref 78], (h31, q))) rfl ?_
                            refine sW.getR rfl hs31 o78 rfl rfl ?_
                            refine mW.sn 2 (g' := (211, [some (.ref 78), some (.ref aa), some (.int l2), some (.int y3), some (.int l4), some (.int r25), x6], [.int l2, .ref aa, .ref 90], (h31, q))) rfl ?_
                            cases hr35 : q_copy S aa l2 with
                            | none => rw [hr35] at hv; cases hv
                            | some r35 =>
                              rw [hr35, o_bind] at hv
                              refine sW.call rfl rfl rfl rfl (hs31.rcv o90) (s243 haa hs31 hr35) ?_
                              intro h36 hs36
                              refine mW.sn 1 (g' := (304, [some (.ref 78), some (.ref aa), some (.int l2), some (.int y3), some (.int l4), some (.int r25), x6], [], (h36, q))) rfl ?_
                              cases hv
                              exact sW.fin hs36 rfl
                          · rw [if_neg hc34] at hv
                            refine mW.sn 2 (g' := (220, [some (.ref 78), some (.ref aa), some (.int l2), some (.int y3), some (.int l4), some (.int r25), x6], [.int l4, .ref 78], (h31, q))) rfl ?_
                            refine sW.call rfl rfl rfl rfl (hs31.rcv o78) (s250 hs31 hr30) ?_
                            intro h37 hs37
                            refine mW.yes (g1 := (243, [some (.ref 78), some (.ref aa), some (.int l2), some (.int y3), some (.int l4), some (.int r25), x6], [], (h37, q))) (g2 := (226, [some (.ref 78), some (.ref aa), some (.int l2), some (.int y3), some (.int l4), some (.int r25), x6], [], (h37, q))) (c := r30 = 0) rfl hc32 ?_
                            refine mW.sn 1 (g' := (244, [some (.ref 78), some (.ref aa), some (.int l2), some (.int y3), some (.int l4), some (.int r25), x6], [.ref 78], (h37, q))) rfl ?_
                            refine sW.getR rfl hs37 o78 rfl rfl ?_
                            refine mW.sn 1 (g' := (248, [some (.ref 78), some (.ref aa), some (.int l2), some (.int y3), some (.int l4), some (.int r25), x6], [.int 5, .ref 90], (h37, q))) rfl ?_
                            cases hr38 : q_open S 5 with
                            | none => rw [hr38] at hv; cases hv
                            | some r38 =>
                              rw [hr38, o_bind] at hv
                              refine sW.call rfl rfl rfl rfl (hs37.rcv o90) (s174 hs37 hr38) ?_
                              intro h39 hs39
                              refine mW.sn 7 (g' := (260, [some (.ref 78), some (.ref aa), some (.int l2), some (.int y3), some (.int l4), some (.int r25), some (.int r38.2)], [.int r25, .int (l2 + 2), .ref aa, .ref 78], (h39, q))) rfl ?_
                              cases hr40 : b_cells r38.1 aa (l2 + 2) r25 with
                              | none => rw [hr40] at hv; cases hv
                              | some r40 =>
                                rw [hr40, o_bind] at hv
                                refine sW.call rfl rfl rfl rfl (hs39.rcv o78) (s236 haa hs39 hr40) ?_
                                intro h41 hs41
                                refine mW.sn 4 (g' := (268, [some (.ref 78), some (.ref aa), some (.int l2), some (.int y3), some (.int l4), some (.int r25), some (.int r38.2)], [.ref 78, .int r25, .ref aa, .ref 78], (h41, q))) rfl ?_
                                by_cases hz42 : rd r40 78 19 = 0
                                · rw [if_pos hz42] at hv; cases hv
                                rw [if_neg hz42] at hv
                                refine sW.getN rfl hs41 o78 rfl rfl hz42 ?_
                                refine mW.sn 1 (g' := (273, [some (.ref 78), some (.ref aa), some (.int l2), some (.int y3), some (.int l4), some (.int r25), some (.int r38.2)], [.int l4, .ref ((rd r40 78 19).toNatClampNeg), .int r25, .ref aa, .ref 78], (h41, q))) rfl ?_
                                cases hr43 : r_next (r40 ((rd r40 78 19).toNatClampNeg)) l4 with
                                | none => rw [hr43] at hv; cases hv
                                | some r43 =>
                                  rw [hr43, o_bind] at hv
                                  refine sW.call rfl rfl rfl rfl rfl (sW.of hs41 (x199 (hs41.ar (hs41.okA o78 rfl hz42)) hr43)) ?_
                                  intro h44 hs44
                                  cases hr45 : rec r40 aa r25 r43 with
                                  | none => rw [hr45] at hv; cases hv
                                  | some r45 =>
                                    rw [hr45, o_bind] at hv
                                    refine sW.call rfl rfl rfl rfl (hs44.rcv o78) (hrec _ (by omega) _ _ _ _ _ _ haa hs44 hr45) ?_
                                    intro h46 hs46
                                    refine mW.sn 4 (g' := (284, [some (.ref 78), some (.ref aa), some (.int l2), some (.int y3), some (.int l4), some (.int r25), some (.int r38.2)], [.int r25, .ref aa, .ref aa, .ref 78], (h46, q))) rfl ?_
                                    cases hr47 : r_next (r45 aa) r25 with
                                    | none => rw [hr47] at hv; cases hv
                                    | some r47 =>
                                      rw [hr47, o_bind] at hv
                                      refine sW.call rfl rfl rfl rfl rfl (sW.of hs46 (x199 (hs46.ar haa) hr47)) ?_
                                      intro h48 hs48
                                      refine mW.sn 2 (g' := (289, [some (.ref 78), some (.ref aa), some (.int l2), some (.int y3), some (.int l4), some (.int r25), some (.int r38.2)], [.int l2, .ref aa, .int r47, .ref aa, .ref 78], (h48, q))) rfl ?_
                                      cases hr49 : r_next (r45 aa) l2 with
                                      | none => rw [hr49] at hv; cases hv
                                      | some r49 =>
                                        rw [hr49, o_bind] at hv
                                        refine sW.call rfl rfl rfl rfl rfl (sW.of hs48 (x199 (hs48.ar haa) hr49)) ?_
                                        intro h50 hs50
                                        cases hr51 : b_cells r45 aa r47 r49 with
                                        | none => rw [hr51] at hv; cases hv
                                        | some r51 =>
                                          rw [hr51, o_bind] at hv
                                          refine sW.call rfl rfl rfl rfl (hs50.rcv o78) (s236 haa hs50 hr51) ?_
                                          intro h52 hs52
                                          refine mW.sn 1 (g' := (296, [some (.ref 78), some (.ref aa), some (.int l2), some (.int y3), some (.int l4), some (.int r25), some (.int r38.2)], [.ref 78], (h52, q))) rfl ?_
                                          refine sW.getR rfl hs52 o78 rfl rfl ?_
                                          refine mW.sn 1 (g' := (301, [some (.ref 78), some (.ref aa), some (.int l2), some (.int y3), some (.int l4), some (.int r25), some (.int r38.2)], [.int r38.2, .ref 90], (h52, q))) rfl ?_
                                          cases hr53 : q_close r51 r38.2 with
                                          | none => rw [hr53] at hv; cases hv
                                          | some r53 =>
                                            rw [hr53, o_bind] at hv
                                            refine sW.call rfl rfl rfl rfl (hs52.rcv o90) (s176 hs52 hr53) ?_
                                            intro h54 hs54
                                            cases hv
                                            exact sW.fin hs54 rfl
                      · rw [if_neg hc32] at hv
                        refine mW.sn 2 (g' := (220, [some (.ref 78), some (.ref aa), some (.int l2), some (.int y3), some (.int l4), some (.int r25), x6], [.int l4, .ref 78], (h31, q))) rfl ?_
                        refine sW.call rfl rfl rfl rfl (hs31.rcv o78) (s250 hs31 hr30) ?_
                        intro h55 hs55
                        refine mW.no (g1 := (243, [some (.ref 78), some (.ref aa), some (.int l2), some (.int y3), some (.int l4), some (.int r25), x6], [], (h55, q))) (g2 := (226, [some (.ref 78), some (.ref aa), some (.int l2), some (.int y3), some (.int l4), some (.int r25), x6], [], (h55, q))) (c := r30 = 0) rfl hc32 ?_
                        refine mW.sn 6 (g' := (234, [some (.ref 78), some (.ref aa), some (.int l2), some (.int y3), some (.int l4), some (.int r25), x6], [.int r25, .ref aa, .int r25, .int l2, .ref aa, .ref 78], (h55, q))) rfl ?_
                        cases hr56 : r_next (S aa) r25 with
                        | none => rw [hr56] at hv; cases hv
                        | some r56 =>
                          rw [hr56, o_bind] at hv
                          refine sW.call rfl rfl rfl rfl rfl (sW.of hs55 (x199 (hs55.ar haa) hr56)) ?_
                          intro h57 hs57
                          cases hr58 : b_around S aa l2 r25 r56 with
                          | none => rw [hr58] at hv; cases hv
                          | some r58 =>
                            rw [hr58, o_bind] at hv
                            refine sW.call rfl rfl rfl rfl (hs57.rcv o78) (s251 haa hs57 hr58) ?_
                            intro h59 hs59
                            refine mW.sn 1 (g' := (304, [some (.ref 78), some (.ref aa), some (.int l2), some (.int y3), some (.int l4), some (.int r25), x6], [], (h59, q))) rfl ?_
                            cases hv
                            exact sW.fin hs59 rfl
            · rw [if_neg hc22] at hv
              refine mW.sn 2 (g' := (163, [some (.ref 78), some (.ref aa), some (.int l2), some (.int y3), some (.int l4), x5, x6], [.int 1, .ref 78], (h20, q))) rfl ?_
              cases hr60 : b_refuse S 1 with
              | none => rw [hr60] at hv; cases hv
              | some r60 =>
                rw [hr60, o_bind] at hv
                refine sW.call rfl rfl rfl rfl (hs20.rcv o78) (s227 hs20 hr60) ?_
                intro h61 hs61
                cases hv
                exact sW.fin hs61 rfl
          · rw [if_neg hc21] at hv
            refine mW.sn 4 (g' := (104, [some (.ref 78), some (.ref aa), some (.int l2), some (.int y3), some (.int l4), x5, x6], [.ref 78, .int 0, .ref aa, .ref 78], (h20, q))) rfl ?_
            refine sW.getN rfl hs20 o78 rfl rfl hz16 ?_
            refine mW.sn 1 (g' := (109, [some (.ref 78), some (.ref aa), some (.int l2), some (.int y3), some (.int l4), x5, x6], [.int l4, .ref ((rd S 78 19).toNatClampNeg), .int 0, .ref aa, .ref 78], (h20, q))) rfl ?_
            cases hr62 : b_narrow S aa ((rd S 78 19).toNatClampNeg) 0 l4 with
            | none => rw [hr62] at hv; cases hv
            | some r62 =>
              rw [hr62, o_bind] at hv
              refine sW.call rfl rfl rfl rfl (hs20.rcv o78) (s231 haa (hs20.okA o78 rfl hz16) hs20 hr62) ?_
              intro h63 hs63
              refine mW.sn 2 (g' := (115, [some (.ref 78), some (.ref aa), some (.int l2), some (.int y3), some (.int l4), x5, x6], [.int l4, .ref 78], (h63, q))) rfl ?_
              cases hr64 : b_isLast r62 l4 with
              | none => rw [hr64] at hv; cases hv
              | some r64 =>
                rw [hr64, o_bind] at hv
                refine sW.call rfl rfl rfl rfl (hs63.rcv o78) (s250 hs63 hr64) ?_
                intro h65 hs65
                refine mW.br (g1 := (136, [some (.ref 78), some (.ref aa), some (.int l2), some (.int y3), some (.int l4), x5, x6], [], (h65, q))) (g2 := (121, [some (.ref 78), some (.ref aa), some (.int l2), some (.int y3), some (.int l4), x5, x6], [], (h65, q))) (c := r64 = 0) rfl (fun hc66 => ?_) (fun hc66 => ?_)
                · rw [if_pos hc66] at hv
                  refine mW.sn 1 (g' := (137, [some (.ref 78), some (.ref aa), some (.int l2), some (.int y3), some (.int l4), x5, x6], [.ref 78], (h65, q))) rfl ?_
                  by_cases hz67 : rd r62 78 19 = 0
                  · rw [if_pos hz67] at hv; cases hv
                  rw [if_neg hz67] at hv
                  refine sW.getN rfl hs65 o78 rfl rfl hz67 ?_
                  refine mW.sn 1 (g' := (142, [some (.ref 78), some (.ref aa), some (.int l2), some (.int y3), some (.int l4), x5, x6], [.int l4, .ref ((rd r62 78 19).toNatClampNeg)], (h65, q))) rfl ?_
                  cases hr68 : r_next (r62 ((rd r62 78 19).toNatClampNeg)) l4 with
                  | none => rw [hr68] at hv; cases hv
                  | some r68 =>
                    rw [hr68, o_bind] at hv
                    refine sW.call rfl rfl rfl rfl rfl (sW.of hs65 (x199 (hs65.ar (hs65.okA o78 rfl hz67)) hr68)) ?_
                    intro h69 hs69
                    refine mW.sn 2 (g' := (76, [some (.ref 78), some (.ref aa), some (.int l2), some (.int y3), some (.int r68), x5, x6], [], (h69, q))) rfl ?_
                    exact ih _ _ _ _ _ _ _ _  hs69 hv
                · rw [if_neg hc66] at hv
                  refine mW.sn 4 (g' := (125, [some (.ref 78), some (.ref aa), some (.int l2), some (.int y3), some (.int l4), x5, x6], [.ref 78, .int l2, .ref aa, .ref 78], (h65, q))) rfl ?_
                  refine sW.getI rfl hs65 o78 rfl rfl ?_
                  refine mW.sn 1 (g' := (129, [some (.ref 78), some (.ref aa), some (.int l2), some (.int y3), some (.int l4), x5, x6], [.ref 78, .int (rd r62 78 17), .int l2, .ref aa, .ref 78], (h65, q))) rfl ?_
                  refine sW.getI rfl hs65 o78 rfl rfl ?_
                  cases hr70 : b_around r62 aa l2 (rd r62 78 17) (rd r62 78 18) with
                  | none => rw [hr70] at hv; cases hv
                  | some r70 =>
                    rw [hr70, o_bind] at hv
                    refine sW.call rfl rfl rfl rfl (hs65.rcv o78) (s251 haa hs65 hr70) ?_
                    intro h71 hs71
                    cases hv
                    exact sW.fin hs71 rfl
      · rw [if_neg hc18] at hv
        refine mW.sn 1 (g' := (151, [some (.ref 78), some (.ref aa), some (.int l2), some (.int y3), some (.int l4), x5, x6], [.ref 78], (h, q))) rfl ?_
        refine sW.getN rfl hs o78 rfl rfl hz16 ?_
        refine mW.sn 1 (g' := (156, [some (.ref 78), some (.ref aa), some (.int l2), some (.int y3), some (.int l4), x5, x6], [.int l4, .ref ((rd S 78 19).toNatClampNeg)], (h, q))) rfl ?_
        refine sW.iald rfl hs (hs.okA o78 rfl hz16) hr17 ?_
        refine mW.sn 1 (g' := (158, [some (.ref 78), some (.ref aa), some (.int l2), some (.int y3), some (.int l4), x5, x6], [.int 3, .int b17], (h, q))) rfl ?_
        refine mW.br (g1 := (167, [some (.ref 78), some (.ref aa), some (.int l2), some (.int y3), some (.int l4), x5, x6], [], (h, q))) (g2 := (161, [some (.ref 78), some (.ref aa), some (.int l2), some (.int y3), some (.int l4), x5, x6], [], (h, q))) (c := b17 = (3 : Int32)) rfl (fun hc72 => ?_) (fun hc72 => ?_)
        · rw [if_pos hc72] at hv
          refine mW.sn 3 (g' := (170, [some (.ref 78), some (.ref aa), some (.int l2), some (.int y3), some (.int l4), x5, x6], [.ref 78, .ref aa, .ref 78], (h, q))) rfl ?_
          refine sW.getN rfl hs o78 rfl rfl hz16 ?_
          refine mW.sn 1 (g' := (175, [some (.ref 78), some (.ref aa), some (.int l2), some (.int y3), some (.int l4), x5, x6], [.int l4, .ref ((rd S 78 19).toNatClampNeg), .ref aa, .ref 78], (h, q))) rfl ?_
          cases hr73 : r_number (S ((rd S 78 19).toNatClampNeg)) l4 with
          | none => rw [hr73] at hv; cases hv
          | some r73 =>
            rw [hr73, o_bind] at hv
            refine sW.call rfl rfl rfl rfl rfl (sW.of hs (x208 (hs.ar (hs.okA o78 rfl hz16)) hr73)) ?_
            intro h74 hs74
            cases hr75 : b_place S aa r73 with
            | none => rw [hr75] at hv; cases hv
            | some r75 =>
              rw [hr75, o_bind] at hv
              refine sW.call rfl rfl rfl rfl (hs74.rcv o78) (s235 haa hs74 hr75) ?_
              intro h76 hs76
              refine mW.sn 3 (g' := (186, [some (.ref 78), some (.ref aa), some (.int l2), some (.int y3), some (.int l4), some (.int r75), x6], [.int (-1), .int r75], (h76, q))) rfl ?_
              refine mW.br (g1 := (205, [some (.ref 78), some (.ref aa), some (.int l2), some (.int y3), some (.int l4), some (.int r75), x6], [], (h76, q))) (g2 := (189, [some (.ref 78), some (.ref aa), some (.int l2), some (.int y3), some (.int l4), some (.int r75), x6], [], (h76, q))) (c := r75 = (-1 : Int32)) rfl (fun hc77 => ?_) (fun hc77 => ?_)
              · rw [if_pos hc77] at hv
                refine mW.sn 1 (g' := (206, [some (.ref 78), some (.ref aa), some (.int l2), some (.int y3), some (.int l4), some (.int r75), x6], [.ref 78], (h76, q))) rfl ?_
                refine sW.getR rfl hs76 o78 rfl rfl ?_
                refine mW.sn 2 (g' := (211, [some (.ref 78), some (.ref aa), some (.int l2), some (.int y3), some (.int l4), some (.int r75), x6], [.int l2, .ref aa, .ref 90], (h76, q))) rfl ?_
                cases hr78 : q_copy S aa l2 with
                | none => rw [hr78] at hv; cases hv
                | some r78 =>
                  rw [hr78, o_bind] at hv
                  refine sW.call rfl rfl rfl rfl (hs76.rcv o90) (s243 haa hs76 hr78) ?_
                  intro h79 hs79
                  refine mW.sn 1 (g' := (304, [some (.ref 78), some (.ref aa), some (.int l2), some (.int y3), some (.int l4), some (.int r75), x6], [], (h79, q))) rfl ?_
                  cases hv
                  exact sW.fin hs79 rfl
              · rw [if_neg hc77] at hv
                refine mW.sn 2 (g' := (192, [some (.ref 78), some (.ref aa), some (.int l2), some (.int y3), some (.int l4), some (.int r75), x6], [.int l4, .ref 78], (h76, q))) rfl ?_
                cases hr80 : b_isLast S l4 with
                | none => rw [hr80] at hv; cases hv
                | some r80 =>
                  rw [hr80, o_bind] at hv
                  refine sW.call rfl rfl rfl rfl (hs76.rcv o78) (s250 hs76 hr80) ?_
                  intro h81 hs81
                  refine mW.br (g1 := (198, [some (.ref 78), some (.ref aa), some (.int l2), some (.int y3), some (.int l4), some (.int r75), x6], [], (h81, q))) (g2 := (217, [some (.ref 78), some (.ref aa), some (.int l2), some (.int y3), some (.int l4), some (.int r75), x6], [], (h81, q))) (c := r80 = 0) rfl (fun hc82 => ?_) (fun hc82 => ?_)
                  · rw [if_pos hc82] at hv
                    refine mW.sn 2 (g' := (201, [some (.ref 78), some (.ref aa), some (.int l2), some (.int y3), some (.int l4), some (.int r75), x6], [.int r75, .ref aa], (h81, q))) rfl ?_
                    cases hr83 : iget (S aa) r75 with
                    | none => rw [hr83] at hv; cases hv
                    | some b83 =>
                      rw [hr83, o_bind] at hv
                      refine sW.iald rfl hs81 haa hr83 ?_
                      refine mW.br (g1 := (205, [some (.ref 78), some (.ref aa), some (.int l2), some (.int y3), some (.int l4), some (.int r75), x6], [], (h81, q))) (g2 := (217, [some (.ref 78), some (.ref aa), some (.int l2), some (.int y3), some (.int l4), some (.int r75), x6], [], (h81, q))) (c := b83 = 0) rfl (fun hc84 => ?_) (fun hc84 => ?_)
                      · rw [if_pos hc84] at hv
                        refine mW.sn 1 (g' := (206, [some (.ref 78), some (.ref aa), some (.int l2), some (.int y3), some (.int l4), some (.int r75), x6], [.ref 78], (h81, q))) rfl ?_
                        refine sW.getR rfl hs81 o78 rfl rfl ?_
                        refine mW.sn 2 (g' := (211, [some (.ref 78), some (.ref aa), some (.int l2), some (.int y3), some (.int l4), some (.int r75), x6], [.int l2, .ref aa, .ref 90], (h81, q))) rfl ?_
                        cases hr85 : q_copy S aa l2 with
                        | none => rw [hr85] at hv; cases hv
                        | some r85 =>
                          rw [hr85, o_bind] at hv
                          refine sW.call rfl rfl rfl rfl (hs81.rcv o90) (s243 haa hs81 hr85) ?_
                          intro h86 hs86
                          refine mW.sn 1 (g' := (304, [some (.ref 78), some (.ref aa), some (.int l2), some (.int y3), some (.int l4), some (.int r75), x6], [], (h86, q))) rfl ?_
                          cases hv
                          exact sW.fin hs86 rfl
                      · rw [if_neg hc84] at hv
                        refine mW.sn 2 (g' := (220, [some (.ref 78), some (.ref aa), some (.int l2), some (.int y3), some (.int l4), some (.int r75), x6], [.int l4, .ref 78], (h81, q))) rfl ?_
                        refine sW.call rfl rfl rfl rfl (hs81.rcv o78) (s250 hs81 hr80) ?_
                        intro h87 hs87
                        refine mW.yes (g1 := (243, [some (.ref 78), some (.ref aa), some (.int l2), some (.int y3), some (.int l4), some (.int r75), x6], [], (h87, q))) (g2 := (226, [some (.ref 78), some (.ref aa), some (.int l2), some (.int y3), some (.int l4), some (.int r75), x6], [], (h87, q))) (c := r80 = 0) rfl hc82 ?_
                        refine mW.sn 1 (g' := (244, [some (.ref 78), some (.ref aa), some (.int l2), some (.int y3), some (.int l4), some (.int r75), x6], [.ref 78], (h87, q))) rfl ?_
                        refine sW.getR rfl hs87 o78 rfl rfl ?_
                        refine mW.sn 1 (g' := (248, [some (.ref 78), some (.ref aa), some (.int l2), some (.int y3), some (.int l4), some (.int r75), x6], [.int 5, .ref 90], (h87, q))) rfl ?_
                        cases hr88 : q_open S 5 with
                        | none => rw [hr88] at hv; cases hv
                        | some r88 =>
                          rw [hr88, o_bind] at hv
                          refine sW.call rfl rfl rfl rfl (hs87.rcv o90) (s174 hs87 hr88) ?_
                          intro h89 hs89
                          refine mW.sn 7 (g' := (260, [some (.ref 78), some (.ref aa), some (.int l2), some (.int y3), some (.int l4), some (.int r75), some (.int r88.2)], [.int r75, .int (l2 + 2), .ref aa, .ref 78], (h89, q))) rfl ?_
                          cases hr90 : b_cells r88.1 aa (l2 + 2) r75 with
                          | none => rw [hr90] at hv; cases hv
                          | some r90 =>
                            rw [hr90, o_bind] at hv
                            refine sW.call rfl rfl rfl rfl (hs89.rcv o78) (s236 haa hs89 hr90) ?_
                            intro h91 hs91
                            refine mW.sn 4 (g' := (268, [some (.ref 78), some (.ref aa), some (.int l2), some (.int y3), some (.int l4), some (.int r75), some (.int r88.2)], [.ref 78, .int r75, .ref aa, .ref 78], (h91, q))) rfl ?_
                            by_cases hz92 : rd r90 78 19 = 0
                            · rw [if_pos hz92] at hv; cases hv
                            rw [if_neg hz92] at hv
                            refine sW.getN rfl hs91 o78 rfl rfl hz92 ?_
                            refine mW.sn 1 (g' := (273, [some (.ref 78), some (.ref aa), some (.int l2), some (.int y3), some (.int l4), some (.int r75), some (.int r88.2)], [.int l4, .ref ((rd r90 78 19).toNatClampNeg), .int r75, .ref aa, .ref 78], (h91, q))) rfl ?_
                            cases hr93 : r_next (r90 ((rd r90 78 19).toNatClampNeg)) l4 with
                            | none => rw [hr93] at hv; cases hv
                            | some r93 =>
                              rw [hr93, o_bind] at hv
                              refine sW.call rfl rfl rfl rfl rfl (sW.of hs91 (x199 (hs91.ar (hs91.okA o78 rfl hz92)) hr93)) ?_
                              intro h94 hs94
                              cases hr95 : rec r90 aa r75 r93 with
                              | none => rw [hr95] at hv; cases hv
                              | some r95 =>
                                rw [hr95, o_bind] at hv
                                refine sW.call rfl rfl rfl rfl (hs94.rcv o78) (hrec _ (by omega) _ _ _ _ _ _ haa hs94 hr95) ?_
                                intro h96 hs96
                                refine mW.sn 4 (g' := (284, [some (.ref 78), some (.ref aa), some (.int l2), some (.int y3), some (.int l4), some (.int r75), some (.int r88.2)], [.int r75, .ref aa, .ref aa, .ref 78], (h96, q))) rfl ?_
                                cases hr97 : r_next (r95 aa) r75 with
                                | none => rw [hr97] at hv; cases hv
                                | some r97 =>
                                  rw [hr97, o_bind] at hv
                                  refine sW.call rfl rfl rfl rfl rfl (sW.of hs96 (x199 (hs96.ar haa) hr97)) ?_
                                  intro h98 hs98
                                  refine mW.sn 2 (g' := (289, [some (.ref 78), some (.ref aa), some (.int l2), some (.int y3), some (.int l4), some (.int r75), some (.int r88.2)], [.int l2, .ref aa, .int r97, .ref aa, .ref 78], (h98, q))) rfl ?_
                                  cases hr99 : r_next (r95 aa) l2 with
                                  | none => rw [hr99] at hv; cases hv
                                  | some r99 =>
                                    rw [hr99, o_bind] at hv
                                    refine sW.call rfl rfl rfl rfl rfl (sW.of hs98 (x199 (hs98.ar haa) hr99)) ?_
                                    intro h100 hs100
                                    cases hr101 : b_cells r95 aa r97 r99 with
                                    | none => rw [hr101] at hv; cases hv
                                    | some r101 =>
                                      rw [hr101, o_bind] at hv
                                      refine sW.call rfl rfl rfl rfl (hs100.rcv o78) (s236 haa hs100 hr101) ?_
                                      intro h102 hs102
                                      refine mW.sn 1 (g' := (296, [some (.ref 78), some (.ref aa), some (.int l2), some (.int y3), some (.int l4), some (.int r75), some (.int r88.2)], [.ref 78], (h102, q))) rfl ?_
                                      refine sW.getR rfl hs102 o78 rfl rfl ?_
                                      refine mW.sn 1 (g' := (301, [some (.ref 78), some (.ref aa), some (.int l2), some (.int y3), some (.int l4), some (.int r75), some (.int r88.2)], [.int r88.2, .ref 90], (h102, q))) rfl ?_
                                      cases hr103 : q_close r101 r88.2 with
                                      | none => rw [hr103] at hv; cases hv
                                      | some r103 =>
                                        rw [hr103, o_bind] at hv
                                        refine sW.call rfl rfl rfl rfl (hs102.rcv o90) (s176 hs102 hr103) ?_
                                        intro h104 hs104
                                        cases hv
                                        exact sW.fin hs104 rfl
                  · rw [if_neg hc82] at hv
                    refine mW.sn 2 (g' := (220, [some (.ref 78), some (.ref aa), some (.int l2), some (.int y3), some (.int l4), some (.int r75), x6], [.int l4, .ref 78], (h81, q))) rfl ?_
                    refine sW.call rfl rfl rfl rfl (hs81.rcv o78) (s250 hs81 hr80) ?_
                    intro h105 hs105
                    refine mW.no (g1 := (243, [some (.ref 78), some (.ref aa), some (.int l2), some (.int y3), some (.int l4), some (.int r75), x6], [], (h105, q))) (g2 := (226, [some (.ref 78), some (.ref aa), some (.int l2), some (.int y3), some (.int l4), some (.int r75), x6], [], (h105, q))) (c := r80 = 0) rfl hc82 ?_
                    refine mW.sn 6 (g' := (234, [some (.ref 78), some (.ref aa), some (.int l2), some (.int y3), some (.int l4), some (.int r75), x6], [.int r75, .ref aa, .int r75, .int l2, .ref aa, .ref 78], (h105, q))) rfl ?_
                    cases hr106 : r_next (S aa) r75 with
                    | none => rw [hr106] at hv; cases hv
                    | some r106 =>
                      rw [hr106, o_bind] at hv
                      refine sW.call rfl rfl rfl rfl rfl (sW.of hs105 (x199 (hs105.ar haa) hr106)) ?_
                      intro h107 hs107
                      cases hr108 : b_around S aa l2 r75 r106 with
                      | none => rw [hr108] at hv; cases hv
                      | some r108 =>
                        rw [hr108, o_bind] at hv
                        refine sW.call rfl rfl rfl rfl (hs107.rcv o78) (s251 haa hs107 hr108) ?_
                        intro h109 hs109
                        refine mW.sn 1 (g' := (304, [some (.ref 78), some (.ref aa), some (.int l2), some (.int y3), some (.int l4), some (.int r75), x6], [], (h109, q))) rfl ?_
                        cases hv
                        exact sW.fin hs109 rfl
        · rw [if_neg hc72] at hv
          refine mW.sn 2 (g' := (163, [some (.ref 78), some (.ref aa), some (.int l2), some (.int y3), some (.int l4), x5, x6], [.int 1, .ref 78], (h, q))) rfl ?_
          cases hr110 : b_refuse S 1 with
          | none => rw [hr110] at hv; cases hv
          | some r110 =>
            rw [hr110, o_bind] at hv
            refine sW.call rfl rfl rfl rfl (hs.rcv o78) (s227 hs hr110) ?_
            intro h111 hs111
            cases hv
            exact sW.fin hs111 rfl
def b_takeB (S : SS) (aa : Nat) (rec : SS → Nat → Int32 → Int32 → Option (SS)) (p0 : Int32) (p1 : Int32) : Option (SS) := ((iget (S aa) p0).bind fun b1 => (if b1 = 0 then ((q_copy S aa p0).bind fun r3 => some r3) else (if b1 = (6 : Int32) then (if rd S 78 19 = 0 then none else ((iget (S ((rd S 78 19).toNatClampNeg)) p1).bind fun b7 => (if b7 = (4 : Int32) then ((b_takeName S aa rec p0 p1).bind fun r9 => some r9) else (if b1 = (5 : Int32) then ((r_next ((wr S 78 17 (p0 + 2)) aa) p0).bind fun r13 => b_takeB_l76 aa rec 10000 (wr (wr S 78 17 (p0 + 2)) 78 18 r13) p0 p1) else ((b_refuse S 1).bind fun r112 => some r112))))) else (if b1 = (5 : Int32) then ((r_next ((wr S 78 17 (p0 + 2)) aa) p0).bind fun r116 => b_takeB_l76 aa rec 10000 (wr (wr S 78 17 (p0 + 2)) 78 18 r116) p0 p1) else ((b_refuse S 1).bind fun r119 => some r119)))))
theorem s248 {S : SS} {aa : Nat} (haa : aa ∈ shA) {rec : SS → Nat → Int32 → Int32 → Option (SS)} (hrec : ∀ (e : Nat), d ≤ e → ∀ (h : mH) (S : SS) (aa : Nat) (p0 : Int32) (p1 : Int32) (v : SS), aa ∈ shA → cs h S → rec S aa p0 p1 = some v → mW e mm248 (0, [some (.ref 78), some (.ref aa), some (.int p0), some (.int p1), none, none, none], [], (h, q)) (mQ q v none)) {p0 : Int32} {p1 : Int32} {v : SS} (hs : cs h S) (hv : b_takeB S aa rec p0 p1 = some v) : mW (d + 4) mm248 (0, [some (.ref 78), some (.ref aa), some (.int p0), some (.int p1), none, none, none], [], (h, q)) (mQ q v none) := by
  unfold b_takeB at hv
  refine mW.sn 4 (g' := (5, [some (.ref 78), some (.ref aa), some (.int p0), some (.int p1), some (.int p1), none, none], [.int p0, .ref aa], (h, q))) rfl ?_
  cases hr1 : iget (S aa) p0 with
  | none => rw [hr1] at hv; cases hv
  | some b1 =>
    rw [hr1, o_bind] at hv
    refine sW.iald rfl hs haa hr1 ?_
    refine mW.br (g1 := (9, [some (.ref 78), some (.ref aa), some (.int p0), some (.int p1), some (.int p1), none, none], [], (h, q))) (g2 := (19, [some (.ref 78), some (.ref aa), some (.int p0), some (.int p1), some (.int p1), none, none], [], (h, q))) (c := b1 = 0) rfl (fun hc2 => ?_) (fun hc2 => ?_)
    · rw [if_pos hc2] at hv
      refine mW.sn 1 (g' := (10, [some (.ref 78), some (.ref aa), some (.int p0), some (.int p1), some (.int p1), none, none], [.ref 78], (h, q))) rfl ?_
      refine sW.getR rfl hs o78 rfl rfl ?_
      refine mW.sn 2 (g' := (15, [some (.ref 78), some (.ref aa), some (.int p0), some (.int p1), some (.int p1), none, none], [.int p0, .ref aa, .ref 90], (h, q))) rfl ?_
      cases hr3 : q_copy S aa p0 with
      | none => rw [hr3] at hv; cases hv
      | some r3 =>
        rw [hr3, o_bind] at hv
        refine sW.call rfl rfl rfl rfl (hs.rcv o90) (s243 haa hs hr3) ?_
        intro h4 hs4
        cases hv
        exact sW.fin hs4 rfl
    · rw [if_neg hc2] at hv
      refine mW.sn 2 (g' := (21, [some (.ref 78), some (.ref aa), some (.int p0), some (.int p1), some (.int p1), none, none], [.int p0, .ref aa], (h, q))) rfl ?_
      refine sW.iald rfl hs haa hr1 ?_
      refine mW.sn 1 (g' := (24, [some (.ref 78), some (.ref aa), some (.int p0), some (.int p1), some (.int p1), none, none], [.int 6, .int b1], (h, q))) rfl ?_
      refine mW.br (g1 := (27, [some (.ref 78), some (.ref aa), some (.int p0), some (.int p1), some (.int p1), none, none], [], (h, q))) (g2 := (47, [some (.ref 78), some (.ref aa), some (.int p0), some (.int p1), some (.int p1), none, none], [], (h, q))) (c := b1 = (6 : Int32)) rfl (fun hc5 => ?_) (fun hc5 => ?_)
      · rw [if_pos hc5] at hv
        refine mW.sn 1 (g' := (28, [some (.ref 78), some (.ref aa), some (.int p0), some (.int p1), some (.int p1), none, none], [.ref 78], (h, q))) rfl ?_
        by_cases hz6 : rd S 78 19 = 0
        · rw [if_pos hz6] at hv; cases hv
        rw [if_neg hz6] at hv
        refine sW.getN rfl hs o78 rfl rfl hz6 ?_
        refine mW.sn 1 (g' := (33, [some (.ref 78), some (.ref aa), some (.int p0), some (.int p1), some (.int p1), none, none], [.int p1, .ref ((rd S 78 19).toNatClampNeg)], (h, q))) rfl ?_
        cases hr7 : iget (S ((rd S 78 19).toNatClampNeg)) p1 with
        | none => rw [hr7] at hv; cases hv
        | some b7 =>
          rw [hr7, o_bind] at hv
          refine sW.iald rfl hs (hs.okA o78 rfl hz6) hr7 ?_
          refine mW.sn 1 (g' := (35, [some (.ref 78), some (.ref aa), some (.int p0), some (.int p1), some (.int p1), none, none], [.int 4, .int b7], (h, q))) rfl ?_
          refine mW.br (g1 := (38, [some (.ref 78), some (.ref aa), some (.int p0), some (.int p1), some (.int p1), none, none], [], (h, q))) (g2 := (47, [some (.ref 78), some (.ref aa), some (.int p0), some (.int p1), some (.int p1), none, none], [], (h, q))) (c := b7 = (4 : Int32)) rfl (fun hc8 => ?_) (fun hc8 => ?_)
          · rw [if_pos hc8] at hv
            refine mW.sn 4 (g' := (43, [some (.ref 78), some (.ref aa), some (.int p0), some (.int p1), some (.int p1), none, none], [.int p1, .int p0, .ref aa, .ref 78], (h, q))) rfl ?_
            cases hr9 : b_takeName S aa rec p0 p1 with
            | none => rw [hr9] at hv; cases hv
            | some r9 =>
              rw [hr9, o_bind] at hv
              refine sW.call rfl rfl rfl rfl (hs.rcv o78) (s249 haa (fun e he => hrec e (by omega)) hs hr9) ?_
              intro h10 hs10
              cases hv
              exact sW.fin hs10 rfl
          · rw [if_neg hc8] at hv
            refine mW.sn 2 (g' := (49, [some (.ref 78), some (.ref aa), some (.int p0), some (.int p1), some (.int p1), none, none], [.int p0, .ref aa], (h, q))) rfl ?_
            refine sW.iald rfl hs haa hr1 ?_
            refine mW.sn 1 (g' := (51, [some (.ref 78), some (.ref aa), some (.int p0), some (.int p1), some (.int p1), none, none], [.int 5, .int b1], (h, q))) rfl ?_
            refine mW.br (g1 := (60, [some (.ref 78), some (.ref aa), some (.int p0), some (.int p1), some (.int p1), none, none], [], (h, q))) (g2 := (54, [some (.ref 78), some (.ref aa), some (.int p0), some (.int p1), some (.int p1), none, none], [], (h, q))) (c := b1 = (5 : Int32)) rfl (fun hc11 => ?_) (fun hc11 => ?_)
            · rw [if_pos hc11] at hv
              refine mW.sn 4 (g' := (64, [some (.ref 78), some (.ref aa), some (.int p0), some (.int p1), some (.int p1), none, none], [.int (p0 + 2), .ref 78], (h, q))) rfl ?_
              refine sW.putI rfl hs o78 rfl ?_
              intro h12 hs12
              refine mW.sn 3 (g' := (70, [some (.ref 78), some (.ref aa), some (.int p0), some (.int p1), some (.int p1), none, none], [.int p0, .ref aa, .ref 78], (h12, q))) rfl ?_
              cases hr13 : r_next ((wr S 78 17 (p0 + 2)) aa) p0 with
              | none => rw [hr13] at hv; cases hv
              | some r13 =>
                rw [hr13, o_bind] at hv
                refine sW.call rfl rfl rfl rfl rfl (sW.of hs12 (x199 (hs12.ar haa) hr13)) ?_
                intro h14 hs14
                refine sW.putI rfl hs14 o78 rfl ?_
                intro h15 hs15
                exact b_takeB_l76_ok haa hrec _ _ _ _ _ _ _ _ _  hs15 hv
            · rw [if_neg hc11] at hv
              refine mW.sn 2 (g' := (56, [some (.ref 78), some (.ref aa), some (.int p0), some (.int p1), some (.int p1), none, none], [.int 1, .ref 78], (h, q))) rfl ?_
              cases hr112 : b_refuse S 1 with
              | none => rw [hr112] at hv; cases hv
              | some r112 =>
                rw [hr112, o_bind] at hv
                refine sW.call rfl rfl rfl rfl (hs.rcv o78) (s227 hs hr112) ?_
                intro h113 hs113
                cases hv
                exact sW.fin hs113 rfl
      · rw [if_neg hc5] at hv
        refine mW.sn 2 (g' := (49, [some (.ref 78), some (.ref aa), some (.int p0), some (.int p1), some (.int p1), none, none], [.int p0, .ref aa], (h, q))) rfl ?_
        refine sW.iald rfl hs haa hr1 ?_
        refine mW.sn 1 (g' := (51, [some (.ref 78), some (.ref aa), some (.int p0), some (.int p1), some (.int p1), none, none], [.int 5, .int b1], (h, q))) rfl ?_
        refine mW.br (g1 := (60, [some (.ref 78), some (.ref aa), some (.int p0), some (.int p1), some (.int p1), none, none], [], (h, q))) (g2 := (54, [some (.ref 78), some (.ref aa), some (.int p0), some (.int p1), some (.int p1), none, none], [], (h, q))) (c := b1 = (5 : Int32)) rfl (fun hc114 => ?_) (fun hc114 => ?_)
        · rw [if_pos hc114] at hv
          refine mW.sn 4 (g' := (64, [some (.ref 78), some (.ref aa), some (.int p0), some (.int p1), some (.int p1), none, none], [.int (p0 + 2), .ref 78], (h, q))) rfl ?_
          refine sW.putI rfl hs o78 rfl ?_
          intro h115 hs115
          refine mW.sn 3 (g' := (70, [some (.ref 78), some (.ref aa), some (.int p0), some (.int p1), some (.int p1), none, none], [.int p0, .ref aa, .ref 78], (h115, q))) rfl ?_
          cases hr116 : r_next ((wr S 78 17 (p0 + 2)) aa) p0 with
          | none => rw [hr116] at hv; cases hv
          | some r116 =>
            rw [hr116, o_bind] at hv
            refine sW.call rfl rfl rfl rfl rfl (sW.of hs115 (x199 (hs115.ar haa) hr116)) ?_
            intro h117 hs117
            refine sW.putI rfl hs117 o78 rfl ?_
            intro h118 hs118
            exact b_takeB_l76_ok haa hrec _ _ _ _ _ _ _ _ _  hs118 hv
        · rw [if_neg hc114] at hv
          refine mW.sn 2 (g' := (56, [some (.ref 78), some (.ref aa), some (.int p0), some (.int p1), some (.int p1), none, none], [.int 1, .ref 78], (h, q))) rfl ?_
          cases hr119 : b_refuse S 1 with
          | none => rw [hr119] at hv; cases hv
          | some r119 =>
            rw [hr119, o_bind] at hv
            refine sW.call rfl rfl rfl rfl (hs.rcv o78) (s227 hs hr119) ?_
            intro h120 hs120
            cases hv
            exact sW.fin hs120 rfl
def b_take : Nat → SS → Nat → Int32 → Int32 → Option (SS)
  | 0, _, _, _, _ => none
  | n + 1, S, aa, p0, p1 => b_takeB S aa (b_take n) p0 p1
theorem b_take_ok : ∀ (n e : Nat), 4 * n ≤ e → ∀ (h : mH) (S : SS) (aa : Nat) (p0 : Int32) (p1 : Int32) (v : SS), aa ∈ shA → cs h S → b_take n S aa p0 p1 = some v → mW e mm248 (0, [some (.ref 78), some (.ref aa), some (.int p0), some (.int p1), none, none, none], [], (h, q)) (mQ q v none) := by
  intro n
  induction n with
  | zero => intro e he h S aa p0 p1 v g0 hs hv; cases hv
  | succ n ih =>
    intro e he h S aa p0 p1 v g0 hs hv
    have := s248 (d := e - 4) (q := q) g0 (rec := b_take n) (fun e' he' => ih e' (by omega)) hs hv
    rw [show e = e - 4 + 4 by omega]
    exact this
def b_listB_l102 (aa : Nat) (rec : SS → Nat → Int32 → Int32 → Option (SS)) (k13 : SS → Int32 → Int32 → Int32 → Int32 → Option (SS)) : Nat → SS → Int32 → Int32 → Int32 → Int32 → Option (SS)
  | 0, _, _, _, _, _ => none
  | n + 1, S, l2, l3, l5, l6 => ((r_next (S aa) l2).bind fun r8 => (if r8 ≤ l6 then some S else ((iset (S 100) l3 (-1)).bind fun z11 => ((iget ((up S 100 z11) aa) l2).bind fun b13 => (if b13 = (6 : Int32) then ((iset ((up S 100 z11) 100) l3 l6).bind fun z15 => ((r_next ((up (up S 100 z11) 100 z15) aa) l6).bind fun r17 => ((iset ((up (up S 100 z11) 100 z15) 99) l3 l5).bind fun z19 => ((rec (up (up (up S 100 z11) 100 z15) 99 z19) aa r17 (l3 + 1)).bind fun r21 => ((r_next (r21 aa) r17).bind fun r23 => b_listB_l102 aa rec k13 n r21 l2 l3 (l5 + 1) r23))))) else ((iset ((up S 100 z11) 99) l3 l5).bind fun z25 => ((rec (up (up S 100 z11) 99 z25) aa l6 (l3 + 1)).bind fun r27 => ((r_next (r27 aa) l6).bind fun r29 => b_listB_l102 aa rec k13 n r27 l2 l3 (l5 + 1) r29))))))))
theorem b_listB_l102_ok {aa : Nat} (haa : aa ∈ shA) {rec : SS → Nat → Int32 → Int32 → Option (SS)} (hrec : ∀ (e : Nat), d ≤ e → ∀ (h : mH) (S : SS) (aa : Nat) (p0 : Int32) (p1 : Int32) (v : SS), aa ∈ shA → cs h S → rec S aa p0 p1 = some v → mW e mm253 (0, [some (.ref 78), some (.ref aa), some (.int p0), some (.int p1), none, none, none], [], (h, q)) (mQ q v none)) {k13 : SS → Int32 → Int32 → Int32 → Int32 → Option (SS)} (hk13 : ∀ (h : mH) (S : SS) (l2 : Int32) (l3 : Int32) (l4 : Int32) (l5 : Int32) (x6 : Option Value) (v : SS), cs h S → k13 S l2 l3 l4 l5 = some v → mW (d + 3) mm253 (13, [some (.ref 78), some (.ref aa), some (.int l2), some (.int l3), some (.int l4), some (.int l5), x6], [], (h, q)) (mQ q v none)) : ∀ (n : Nat), ∀ (h : mH) (S : SS) (l2 : Int32) (l3 : Int32) (l5 : Int32) (l6 : Int32) (y4 : Int32) (v : SS), cs h S → b_listB_l102 aa rec k13 n S l2 l3 l5 l6 = some v → mW (d + 3) mm253 (102, [some (.ref 78), some (.ref aa), some (.int l2), some (.int l3), some (.int y4), some (.int l5), some (.int l6)], [], (h, q)) (mQ q v none) := by
  intro n
  induction n with
  | zero => intro h S l2 l3 l5 l6 y4 v hs hv; cases hv
  | succ n ih =>
    intro h S l2 l3 l5 l6 y4 v hs hv
    unfold b_listB_l102 at hv
    refine mW.sn 3 (g' := (106, [some (.ref 78), some (.ref aa), some (.int l2), some (.int l3), some (.int y4), some (.int l5), some (.int l6)], [.int l2, .ref aa, .int l6], (h, q))) rfl ?_
    cases hr8 : r_next (S aa) l2 with
    | none => rw [hr8] at hv; cases hv
    | some r8 =>
      rw [hr8, o_bind] at hv
      refine sW.call rfl rfl rfl rfl rfl (sW.of hs (x199 (hs.ar haa) hr8)) ?_
      intro h9 hs9
      refine mW.br (g1 := (175, [some (.ref 78), some (.ref aa), some (.int l2), some (.int l3), some (.int y4), some (.int l5), some (.int l6)], [], (h9, q))) (g2 := (112, [some (.ref 78), some (.ref aa), some (.int l2), some (.int l3), some (.int y4), some (.int l5), some (.int l6)], [], (h9, q))) (c := r8 ≤ l6) rfl (fun hc10 => ?_) (fun hc10 => ?_)
      · rw [if_pos hc10] at hv
        cases hv
        exact sW.fin hs9 rfl
      · rw [if_neg hc10] at hv
        refine mW.sn 1 (g' := (113, [some (.ref 78), some (.ref aa), some (.int l2), some (.int l3), some (.int y4), some (.int l5), some (.int l6)], [.ref 78], (h9, q))) rfl ?_
        refine sW.getR rfl hs9 o78 rfl rfl ?_
        refine mW.sn 2 (g' := (118, [some (.ref 78), some (.ref aa), some (.int l2), some (.int l3), some (.int y4), some (.int l5), some (.int l6)], [.int (-1), .int l3, .ref 100], (h9, q))) rfl ?_
        cases hr11 : iset (S 100) l3 (-1) with
        | none => rw [hr11] at hv; cases hv
        | some z11 =>
          rw [hr11, o_bind] at hv
          refine sW.iast rfl hs9 (by decide) hr11 ?_
          intro h12 hs12
          refine mW.sn 2 (g' := (121, [some (.ref 78), some (.ref aa), some (.int l2), some (.int l3), some (.int y4), some (.int l5), some (.int l6)], [.int l2, .ref aa], (h12, q))) rfl ?_
          cases hr13 : iget ((up S 100 z11) aa) l2 with
          | none => rw [hr13] at hv; cases hv
          | some b13 =>
            rw [hr13, o_bind] at hv
            refine sW.iald rfl hs12 haa hr13 ?_
            refine mW.sn 1 (g' := (124, [some (.ref 78), some (.ref aa), some (.int l2), some (.int l3), some (.int y4), some (.int l5), some (.int l6)], [.int 6, .int b13], (h12, q))) rfl ?_
            refine mW.br (g1 := (127, [some (.ref 78), some (.ref aa), some (.int l2), some (.int l3), some (.int y4), some (.int l5), some (.int l6)], [], (h12, q))) (g2 := (143, [some (.ref 78), some (.ref aa), some (.int l2), some (.int l3), some (.int y4), some (.int l5), some (.int l6)], [], (h12, q))) (c := b13 = (6 : Int32)) rfl (fun hc14 => ?_) (fun hc14 => ?_)
            · rw [if_pos hc14] at hv
              refine mW.sn 1 (g' := (128, [some (.ref 78), some (.ref aa), some (.int l2), some (.int l3), some (.int y4), some (.int l5), some (.int l6)], [.ref 78], (h12, q))) rfl ?_
              refine sW.getR rfl hs12 o78 rfl rfl ?_
              refine mW.sn 2 (g' := (134, [some (.ref 78), some (.ref aa), some (.int l2), some (.int l3), some (.int y4), some (.int l5), some (.int l6)], [.int l6, .int l3, .ref 100], (h12, q))) rfl ?_
              cases hr15 : iset ((up S 100 z11) 100) l3 l6 with
              | none => rw [hr15] at hv; cases hv
              | some z15 =>
                rw [hr15, o_bind] at hv
                refine sW.iast rfl hs12 (by decide) hr15 ?_
                intro h16 hs16
                refine mW.sn 2 (g' := (138, [some (.ref 78), some (.ref aa), some (.int l2), some (.int l3), some (.int y4), some (.int l5), some (.int l6)], [.int l6, .ref aa], (h16, q))) rfl ?_
                cases hr17 : r_next ((up (up S 100 z11) 100 z15) aa) l6 with
                | none => rw [hr17] at hv; cases hv
                | some r17 =>
                  rw [hr17, o_bind] at hv
                  refine sW.call rfl rfl rfl rfl rfl (sW.of hs16 (x199 (hs16.ar haa) hr17)) ?_
                  intro h18 hs18
                  refine mW.sn 2 (g' := (144, [some (.ref 78), some (.ref aa), some (.int l2), some (.int l3), some (.int y4), some (.int l5), some (.int r17)], [.ref 78], (h18, q))) rfl ?_
                  refine sW.getR rfl hs18 o78 rfl rfl ?_
                  refine mW.sn 2 (g' := (150, [some (.ref 78), some (.ref aa), some (.int l2), some (.int l3), some (.int y4), some (.int l5), some (.int r17)], [.int l5, .int l3, .ref 99], (h18, q))) rfl ?_
                  cases hr19 : iset ((up (up S 100 z11) 100 z15) 99) l3 l5 with
                  | none => rw [hr19] at hv; cases hv
                  | some z19 =>
                    rw [hr19, o_bind] at hv
                    refine sW.iast rfl hs18 (by decide) hr19 ?_
                    intro h20 hs20
                    refine mW.sn 7 (g' := (161, [some (.ref 78), some (.ref aa), some (.int l2), some (.int l3), some (.int y4), some (.int (l5 + 1)), some (.int r17)], [.int (l3 + 1), .int r17, .ref aa, .ref 78], (h20, q))) rfl ?_
                    cases hr21 : rec (up (up (up S 100 z11) 100 z15) 99 z19) aa r17 (l3 + 1) with
                    | none => rw [hr21] at hv; cases hv
                    | some r21 =>
                      rw [hr21, o_bind] at hv
                      refine sW.call rfl rfl rfl rfl (hs20.rcv o78) (hrec _ (by omega) _ _ _ _ _ _ haa hs20 hr21) ?_
                      intro h22 hs22
                      refine mW.sn 2 (g' := (167, [some (.ref 78), some (.ref aa), some (.int l2), some (.int l3), some (.int y4), some (.int (l5 + 1)), some (.int r17)], [.int r17, .ref aa], (h22, q))) rfl ?_
                      cases hr23 : r_next (r21 aa) r17 with
                      | none => rw [hr23] at hv; cases hv
                      | some r23 =>
                        rw [hr23, o_bind] at hv
                        refine sW.call rfl rfl rfl rfl rfl (sW.of hs22 (x199 (hs22.ar haa) hr23)) ?_
                        intro h24 hs24
                        refine mW.sn 2 (g' := (102, [some (.ref 78), some (.ref aa), some (.int l2), some (.int l3), some (.int y4), some (.int (l5 + 1)), some (.int r23)], [], (h24, q))) rfl ?_
                        exact ih _ _ _ _ _ _ _ _  hs24 hv
            · rw [if_neg hc14] at hv
              refine mW.sn 1 (g' := (144, [some (.ref 78), some (.ref aa), some (.int l2), some (.int l3), some (.int y4), some (.int l5), some (.int l6)], [.ref 78], (h12, q))) rfl ?_
              refine sW.getR rfl hs12 o78 rfl rfl ?_
              refine mW.sn 2 (g' := (150, [some (.ref 78), some (.ref aa), some (.int l2), some (.int l3), some (.int y4), some (.int l5), some (.int l6)], [.int l5, .int l3, .ref 99], (h12, q))) rfl ?_
              cases hr25 : iset ((up S 100 z11) 99) l3 l5 with
              | none => rw [hr25] at hv; cases hv
              | some z25 =>
                rw [hr25, o_bind] at hv
                refine sW.iast rfl hs12 (by decide) hr25 ?_
                intro h26 hs26
                refine mW.sn 7 (g' := (161, [some (.ref 78), some (.ref aa), some (.int l2), some (.int l3), some (.int y4), some (.int (l5 + 1)), some (.int l6)], [.int (l3 + 1), .int l6, .ref aa, .ref 78], (h26, q))) rfl ?_
                cases hr27 : rec (up (up S 100 z11) 99 z25) aa l6 (l3 + 1) with
                | none => rw [hr27] at hv; cases hv
                | some r27 =>
                  rw [hr27, o_bind] at hv
                  refine sW.call rfl rfl rfl rfl (hs26.rcv o78) (hrec _ (by omega) _ _ _ _ _ _ haa hs26 hr27) ?_
                  intro h28 hs28
                  refine mW.sn 2 (g' := (167, [some (.ref 78), some (.ref aa), some (.int l2), some (.int l3), some (.int y4), some (.int (l5 + 1)), some (.int l6)], [.int l6, .ref aa], (h28, q))) rfl ?_
                  cases hr29 : r_next (r27 aa) l6 with
                  | none => rw [hr29] at hv; cases hv
                  | some r29 =>
                    rw [hr29, o_bind] at hv
                    refine sW.call rfl rfl rfl rfl rfl (sW.of hs28 (x199 (hs28.ar haa) hr29)) ?_
                    intro h30 hs30
                    refine mW.sn 2 (g' := (102, [some (.ref 78), some (.ref aa), some (.int l2), some (.int l3), some (.int y4), some (.int (l5 + 1)), some (.int r29)], [], (h30, q))) rfl ?_
                    exact ih _ _ _ _ _ _ _ _  hs30 hv
def b_listB_l13 (aa : Nat) (rec : SS → Nat → Int32 → Int32 → Option (SS)) : Nat → SS → Int32 → Int32 → Int32 → Int32 → Option (SS)
  | 0, _, _, _, _, _ => none
  | n + 1, S, l2, l3, l4, l5 => (if l3 ≤ l5 then ((q_close S l4).bind fun r4 => ((iget (r4 aa) l2).bind fun b6 => (if b6 = (5 : Int32) then b_listB_l102 aa rec (b_listB_l13 aa rec n) 10000 r4 l2 l3 0 (l2 + 2) else (if b6 = (6 : Int32) then b_listB_l102 aa rec (b_listB_l13 aa rec n) 10000 r4 l2 l3 0 (l2 + 2) else some r4)))) else ((iget (S 100) l5).bind fun b32 => (if b32 = (-1 : Int32) then ((iget (S 99) l5).bind fun b34 => ((q_num S b34.toInt64).bind fun r35 => b_listB_l13 aa rec n r35 l2 l3 l4 (l5 + 1))) else ((q_copy S aa b32).bind fun r37 => b_listB_l13 aa rec n r37 l2 l3 l4 (l5 + 1)))))
theorem b_listB_l13_ok {aa : Nat} (haa : aa ∈ shA) {rec : SS → Nat → Int32 → Int32 → Option (SS)} (hrec : ∀ (e : Nat), d ≤ e → ∀ (h : mH) (S : SS) (aa : Nat) (p0 : Int32) (p1 : Int32) (v : SS), aa ∈ shA → cs h S → rec S aa p0 p1 = some v → mW e mm253 (0, [some (.ref 78), some (.ref aa), some (.int p0), some (.int p1), none, none, none], [], (h, q)) (mQ q v none)) : ∀ (n : Nat), ∀ (h : mH) (S : SS) (l2 : Int32) (l3 : Int32) (l4 : Int32) (l5 : Int32) (x6 : Option Value) (v : SS), cs h S → b_listB_l13 aa rec n S l2 l3 l4 l5 = some v → mW (d + 3) mm253 (13, [some (.ref 78), some (.ref aa), some (.int l2), some (.int l3), some (.int l4), some (.int l5), x6], [], (h, q)) (mQ q v none) := by
  intro n
  induction n with
  | zero => intro h S l2 l3 l4 l5 x6 v hs hv; cases hv
  | succ n ih =>
    intro h S l2 l3 l4 l5 x6 v hs hv
    unfold b_listB_l13 at hv
    refine mW.sn 2 (g' := (16, [some (.ref 78), some (.ref aa), some (.int l2), some (.int l3), some (.int l4), some (.int l5), x6], [.int l3, .int l5], (h, q))) rfl ?_
    refine mW.br (g1 := (69, [some (.ref 78), some (.ref aa), some (.int l2), some (.int l3), some (.int l4), some (.int l5), x6], [], (h, q))) (g2 := (19, [some (.ref 78), some (.ref aa), some (.int l2), some (.int l3), some (.int l4), some (.int l5), x6], [], (h, q))) (c := l3 ≤ l5) rfl (fun hc3 => ?_) (fun hc3 => ?_)
    · rw [if_pos hc3] at hv
      refine mW.sn 1 (g' := (70, [some (.ref 78), some (.ref aa), some (.int l2), some (.int l3), some (.int l4), some (.int l5), x6], [.ref 78], (h, q))) rfl ?_
      refine sW.getR rfl hs o78 rfl rfl ?_
      refine mW.sn 1 (g' := (75, [some (.ref 78), some (.ref aa), some (.int l2), some (.int l3), some (.int l4), some (.int l5), x6], [.int l4, .ref 90], (h, q))) rfl ?_
      cases hr4 : q_close S l4 with
      | none => rw [hr4] at hv; cases hv
      | some r4 =>
        rw [hr4, o_bind] at hv
        refine sW.call rfl rfl rfl rfl (hs.rcv o90) (s176 hs hr4) ?_
        intro h5 hs5
        refine mW.sn 2 (g' := (80, [some (.ref 78), some (.ref aa), some (.int l2), some (.int l3), some (.int l4), some (.int l5), x6], [.int l2, .ref aa], (h5, q))) rfl ?_
        cases hr6 : iget (r4 aa) l2 with
        | none => rw [hr6] at hv; cases hv
        | some b6 =>
          rw [hr6, o_bind] at hv
          refine sW.iald rfl hs5 haa hr6 ?_
          refine mW.sn 1 (g' := (82, [some (.ref 78), some (.ref aa), some (.int l2), some (.int l3), some (.int l4), some (.int l5), x6], [.int 5, .int b6], (h5, q))) rfl ?_
          refine mW.br (g1 := (94, [some (.ref 78), some (.ref aa), some (.int l2), some (.int l3), some (.int l4), some (.int l5), x6], [], (h5, q))) (g2 := (85, [some (.ref 78), some (.ref aa), some (.int l2), some (.int l3), some (.int l4), some (.int l5), x6], [], (h5, q))) (c := b6 = (5 : Int32)) rfl (fun hc7 => ?_) (fun hc7 => ?_)
          · rw [if_pos hc7] at hv
            refine mW.sn 6 (g' := (102, [some (.ref 78), some (.ref aa), some (.int l2), some (.int l3), some (.int l4), some (.int 0), some (.int (l2 + 2))], [], (h5, q))) rfl ?_
            exact b_listB_l102_ok haa hrec ih _ _ _ _ _ _ _ _ _  hs5 hv
          · rw [if_neg hc7] at hv
            refine mW.sn 2 (g' := (87, [some (.ref 78), some (.ref aa), some (.int l2), some (.int l3), some (.int l4), some (.int l5), x6], [.int l2, .ref aa], (h5, q))) rfl ?_
            refine sW.iald rfl hs5 haa hr6 ?_
            refine mW.sn 1 (g' := (90, [some (.ref 78), some (.ref aa), some (.int l2), some (.int l3), some (.int l4), some (.int l5), x6], [.int 6, .int b6], (h5, q))) rfl ?_
            refine mW.br (g1 := (94, [some (.ref 78), some (.ref aa), some (.int l2), some (.int l3), some (.int l4), some (.int l5), x6], [], (h5, q))) (g2 := (93, [some (.ref 78), some (.ref aa), some (.int l2), some (.int l3), some (.int l4), some (.int l5), x6], [], (h5, q))) (c := b6 = (6 : Int32)) rfl (fun hc31 => ?_) (fun hc31 => ?_)
            · rw [if_pos hc31] at hv
              refine mW.sn 6 (g' := (102, [some (.ref 78), some (.ref aa), some (.int l2), some (.int l3), some (.int l4), some (.int 0), some (.int (l2 + 2))], [], (h5, q))) rfl ?_
              exact b_listB_l102_ok haa hrec ih _ _ _ _ _ _ _ _ _  hs5 hv
            · rw [if_neg hc31] at hv
              cases hv
              exact sW.fin hs5 rfl
    · rw [if_neg hc3] at hv
      refine mW.sn 1 (g' := (20, [some (.ref 78), some (.ref aa), some (.int l2), some (.int l3), some (.int l4), some (.int l5), x6], [.ref 78], (h, q))) rfl ?_
      refine sW.getR rfl hs o78 rfl rfl ?_
      refine mW.sn 1 (g' := (25, [some (.ref 78), some (.ref aa), some (.int l2), some (.int l3), some (.int l4), some (.int l5), x6], [.int l5, .ref 100], (h, q))) rfl ?_
      cases hr32 : iget (S 100) l5 with
      | none => rw [hr32] at hv; cases hv
      | some b32 =>
        rw [hr32, o_bind] at hv
        refine sW.iald rfl hs (by decide) hr32 ?_
        refine mW.sn 1 (g' := (27, [some (.ref 78), some (.ref aa), some (.int l2), some (.int l3), some (.int l4), some (.int l5), x6], [.int (-1), .int b32], (h, q))) rfl ?_
        refine mW.br (g1 := (30, [some (.ref 78), some (.ref aa), some (.int l2), some (.int l3), some (.int l4), some (.int l5), x6], [], (h, q))) (g2 := (48, [some (.ref 78), some (.ref aa), some (.int l2), some (.int l3), some (.int l4), some (.int l5), x6], [], (h, q))) (c := b32 = (-1 : Int32)) rfl (fun hc33 => ?_) (fun hc33 => ?_)
        · rw [if_pos hc33] at hv
          refine mW.sn 1 (g' := (31, [some (.ref 78), some (.ref aa), some (.int l2), some (.int l3), some (.int l4), some (.int l5), x6], [.ref 78], (h, q))) rfl ?_
          refine sW.getR rfl hs o78 rfl rfl ?_
          refine mW.sn 1 (g' := (35, [some (.ref 78), some (.ref aa), some (.int l2), some (.int l3), some (.int l4), some (.int l5), x6], [.ref 78, .ref 90], (h, q))) rfl ?_
          refine sW.getR rfl hs o78 rfl rfl ?_
          refine mW.sn 1 (g' := (40, [some (.ref 78), some (.ref aa), some (.int l2), some (.int l3), some (.int l4), some (.int l5), x6], [.int l5, .ref 99, .ref 90], (h, q))) rfl ?_
          cases hr34 : iget (S 99) l5 with
          | none => rw [hr34] at hv; cases hv
          | some b34 =>
            rw [hr34, o_bind] at hv
            refine sW.iald rfl hs (by decide) hr34 ?_
            refine mW.sn 1 (g' := (42, [some (.ref 78), some (.ref aa), some (.int l2), some (.int l3), some (.int l4), some (.int l5), x6], [.long b34.toInt64, .ref 90], (h, q))) rfl ?_
            cases hr35 : q_num S b34.toInt64 with
            | none => rw [hr35] at hv; cases hv
            | some r35 =>
              rw [hr35, o_bind] at hv
              refine sW.call rfl rfl rfl rfl (hs.rcv o90) (s202 hs hr35) ?_
              intro h36 hs36
              refine mW.sn 3 (g' := (13, [some (.ref 78), some (.ref aa), some (.int l2), some (.int l3), some (.int l4), some (.int (l5 + 1)), x6], [], (h36, q))) rfl ?_
              exact ih _ _ _ _ _ _ _ _  hs36 hv
        · rw [if_neg hc33] at hv
          refine mW.sn 1 (g' := (49, [some (.ref 78), some (.ref aa), some (.int l2), some (.int l3), some (.int l4), some (.int l5), x6], [.ref 78], (h, q))) rfl ?_
          refine sW.getR rfl hs o78 rfl rfl ?_
          refine mW.sn 2 (g' := (54, [some (.ref 78), some (.ref aa), some (.int l2), some (.int l3), some (.int l4), some (.int l5), x6], [.ref 78, .ref aa, .ref 90], (h, q))) rfl ?_
          refine sW.getR rfl hs o78 rfl rfl ?_
          refine mW.sn 1 (g' := (59, [some (.ref 78), some (.ref aa), some (.int l2), some (.int l3), some (.int l4), some (.int l5), x6], [.int l5, .ref 100, .ref aa, .ref 90], (h, q))) rfl ?_
          refine sW.iald rfl hs (by decide) hr32 ?_
          cases hr37 : q_copy S aa b32 with
          | none => rw [hr37] at hv; cases hv
          | some r37 =>
            rw [hr37, o_bind] at hv
            refine sW.call rfl rfl rfl rfl (hs.rcv o90) (s243 haa hs hr37) ?_
            intro h38 hs38
            refine mW.sn 2 (g' := (13, [some (.ref 78), some (.ref aa), some (.int l2), some (.int l3), some (.int l4), some (.int (l5 + 1)), x6], [], (h38, q))) rfl ?_
            exact ih _ _ _ _ _ _ _ _  hs38 hv
def b_listB (S : SS) (aa : Nat) (rec : SS → Nat → Int32 → Int32 → Option (SS)) (p0 : Int32) (p1 : Int32) : Option (SS) := ((q_open S 5).bind fun r1 => b_listB_l13 aa rec 10000 r1.1 p0 p1 r1.2 0)
theorem s253 {S : SS} {aa : Nat} (haa : aa ∈ shA) {rec : SS → Nat → Int32 → Int32 → Option (SS)} (hrec : ∀ (e : Nat), d ≤ e → ∀ (h : mH) (S : SS) (aa : Nat) (p0 : Int32) (p1 : Int32) (v : SS), aa ∈ shA → cs h S → rec S aa p0 p1 = some v → mW e mm253 (0, [some (.ref 78), some (.ref aa), some (.int p0), some (.int p1), none, none, none], [], (h, q)) (mQ q v none)) {p0 : Int32} {p1 : Int32} {v : SS} (hs : cs h S) (hv : b_listB S aa rec p0 p1 = some v) : mW (d + 3) mm253 (0, [some (.ref 78), some (.ref aa), some (.int p0), some (.int p1), none, none, none], [], (h, q)) (mQ q v none) := by
  unfold b_listB at hv
  refine mW.sn 1 (g' := (1, [some (.ref 78), some (.ref aa), some (.int p0), some (.int p1), none, none, none], [.ref 78], (h, q))) rfl ?_
  refine sW.getR rfl hs o78 rfl rfl ?_
  refine mW.sn 1 (g' := (5, [some (.ref 78), some (.ref aa), some (.int p0), some (.int p1), none, none, none], [.int 5, .ref 90], (h, q))) rfl ?_
  cases hr1 : q_open S 5 with
  | none => rw [hr1] at hv; cases hv
  | some r1 =>
    rw [hr1, o_bind] at hv
    refine sW.call rfl rfl rfl rfl (hs.rcv o90) (s174 hs hr1) ?_
    intro h2 hs2
    refine mW.sn 3 (g' := (13, [some (.ref 78), some (.ref aa), some (.int p0), some (.int p1), some (.int r1.2), some (.int 0), none], [], (h2, q))) rfl ?_
    exact b_listB_l13_ok haa hrec _ _ _ _ _ _ _ _ _  hs2 hv
def b_list : Nat → SS → Nat → Int32 → Int32 → Option (SS)
  | 0, _, _, _, _ => none
  | n + 1, S, aa, p0, p1 => b_listB S aa (b_list n) p0 p1
theorem b_list_ok : ∀ (n e : Nat), 3 * n ≤ e → ∀ (h : mH) (S : SS) (aa : Nat) (p0 : Int32) (p1 : Int32) (v : SS), aa ∈ shA → cs h S → b_list n S aa p0 p1 = some v → mW e mm253 (0, [some (.ref 78), some (.ref aa), some (.int p0), some (.int p1), none, none, none], [], (h, q)) (mQ q v none) := by
  intro n
  induction n with
  | zero => intro e he h S aa p0 p1 v g0 hs hv; cases hv
  | succ n ih =>
    intro e he h S aa p0 p1 v g0 hs hv
    have := s253 (d := e - 3) (q := q) g0 (rec := b_list n) (fun e' he' => ih e' (by omega)) hs hv
    rw [show e = e - 3 + 3 by omega]
    exact this
end
