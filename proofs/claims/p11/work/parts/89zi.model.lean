/-! PRINTED BY wip/whole (dec2): the reference's Model, first half. -/
section
set_option maxRecDepth 4000
variable {d : Nat} {h : mH} {q : Nat × Nat}
def b_fail (S : SS) (p0 : Int32) : Option (SS × Int32) := some (wr S 78 0 p0, 0)
theorem s160 {S : SS} {p0 : Int32} {v : SS × Int32} (hs : cs h S) (hv : b_fail S p0 = some v) : mW d mm160 (0, [some (.ref 78), some (.int p0)], [], (h, q)) (mQ q v.1 (some (.int v.2))) := by
  unfold b_fail at hv
  refine mW.sn 2 (g' := (2, [some (.ref 78), some (.int p0)], [.int p0, .ref 78], (h, q))) rfl ?_
  refine sW.putI rfl hs o78 rfl ?_
  intro h1 hs1
  refine mW.sn 1 (g' := (6, [some (.ref 78), some (.int p0)], [.int 0], (h1, q))) rfl ?_
  cases hv
  exact sW.fin hs1 rfl
def b_none (S : SS) (p0 : Int32) : Option (Int32) := (if p0 < 0 then some 1 else (if p0 ≤ (7 : Int32) then some 0 else some 1))
theorem s166 {S : SS} {p0 : Int32} {v : Int32} (hs : cs h S) (hv : b_none S p0 = some v) : mW d mm166 (0, [some (.int p0)], [], (h, q)) (mQ q S (some (.int v))) := by
  unfold b_none at hv
  refine mW.sn 1 (g' := (1, [some (.int p0)], [.int p0], (h, q))) rfl ?_
  refine mW.br (g1 := (10, [some (.int p0)], [], (h, q))) (g2 := (4, [some (.int p0)], [], (h, q))) (c := p0 < 0) rfl (fun hc1 => ?_) (fun hc1 => ?_)
  · rw [if_pos hc1] at hv
    refine mW.sn 2 (g' := (15, [some (.int p0)], [.int 1], (h, q))) rfl ?_
    cases hv
    exact sW.fin hs rfl
  · rw [if_neg hc1] at hv
    refine mW.sn 2 (g' := (7, [some (.int p0)], [.int 7, .int p0], (h, q))) rfl ?_
    refine mW.br (g1 := (14, [some (.int p0)], [], (h, q))) (g2 := (10, [some (.int p0)], [], (h, q))) (c := p0 ≤ (7 : Int32)) rfl (fun hc2 => ?_) (fun hc2 => ?_)
    · rw [if_pos hc2] at hv
      refine mW.sn 1 (g' := (15, [some (.int p0)], [.int 0], (h, q))) rfl ?_
      cases hv
      exact sW.fin hs rfl
    · rw [if_neg hc2] at hv
      refine mW.sn 2 (g' := (15, [some (.int p0)], [.int 1], (h, q))) rfl ?_
      cases hv
      exact sW.fin hs rfl
def b_begin (S : SS) : Option (SS) := ((q_clear (wr (wr S 78 0 0) 78 12 0)).bind fun r3 => some r3)
theorem s164 {S : SS} {v : SS} (hs : cs h S) (hv : b_begin S = some v) : mW (d + 1) mm164 (0, [some (.ref 78)], [], (h, q)) (mQ q v none) := by
  unfold b_begin at hv
  refine mW.sn 2 (g' := (2, [some (.ref 78)], [.int 0, .ref 78], (h, q))) rfl ?_
  refine sW.putI rfl hs o78 rfl ?_
  intro h1 hs1
  refine mW.sn 2 (g' := (7, [some (.ref 78)], [.int 0, .ref 78], (h1, q))) rfl ?_
  refine sW.putI rfl hs1 o78 rfl ?_
  intro h2 hs2
  refine mW.sn 1 (g' := (11, [some (.ref 78)], [.ref 78], (h2, q))) rfl ?_
  refine sW.getR rfl hs2 o78 rfl rfl ?_
  cases hr3 : q_clear (wr (wr S 78 0 0) 78 12 0) with
  | none => rw [hr3] at hv; cases hv
  | some r3 =>
    rw [hr3, o_bind] at hv
    refine sW.call rfl rfl rfl rfl (hs2.rcv o90) (s165 hs2 hr3) ?_
    intro h4 hs4
    cases hv
    exact sW.fin hs4 rfl
def b_refuse (S : SS) (p0 : Int32) : Option (SS) := (if (rd S 78 12) = 0 then some (wr S 78 12 p0) else some S)
theorem s227 {S : SS} {p0 : Int32} {v : SS} (hs : cs h S) (hv : b_refuse S p0 = some v) : mW d mm227 (0, [some (.ref 78), some (.int p0)], [], (h, q)) (mQ q v none) := by
  unfold b_refuse at hv
  refine mW.sn 1 (g' := (1, [some (.ref 78), some (.int p0)], [.ref 78], (h, q))) rfl ?_
  refine sW.getI rfl hs o78 rfl rfl ?_
  refine mW.br (g1 := (7, [some (.ref 78), some (.int p0)], [], (h, q))) (g2 := (12, [some (.ref 78), some (.int p0)], [], (h, q))) (c := (rd S 78 12) = 0) rfl (fun hc1 => ?_) (fun hc1 => ?_)
  · rw [if_pos hc1] at hv
    refine mW.sn 2 (g' := (9, [some (.ref 78), some (.int p0)], [.int p0, .ref 78], (h, q))) rfl ?_
    refine sW.putI rfl hs o78 rfl ?_
    intro h2 hs2
    cases hv
    exact sW.fin hs2 rfl
  · rw [if_neg hc1] at hv
    cases hv
    exact sW.fin hs rfl
def b_fits_l27 (k16 : SS → Int32 → Int32 → Option (SS × Int32)) : Nat → SS → Int32 → Int32 → Option (SS × Int32)
  | 0, _, _, _ => none
  | n + 1, S, l1, l2 => (if l1 ≤ 0 then ((iget (S 91) l2).bind fun b8 => (if b8 = (5 : Int32) then ((r_next (S 91) l2).bind fun r10 => ((iset (S 80) l1 r10).bind fun z12 => (if (l1 + 1) ≤ (60 : Int32) then k16 (up S 80 z12) (l1 + 1) (l2 + 2) else some (up S 80 z12, 0)))) else (if b8 = (6 : Int32) then ((r_next (S 91) l2).bind fun r16 => ((iset (S 80) l1 r16).bind fun z18 => (if (l1 + 1) ≤ (60 : Int32) then k16 (up S 80 z18) (l1 + 1) (l2 + 2) else some (up S 80 z18, 0)))) else ((r_next (S 91) l2).bind fun r21 => k16 S l1 r21)))) else ((iget (S 80) (l1 - 1)).bind fun b23 => (if l2 < b23 then ((iget (S 91) l2).bind fun b25 => (if b25 = (5 : Int32) then ((r_next (S 91) l2).bind fun r27 => ((iset (S 80) l1 r27).bind fun z29 => (if (l1 + 1) ≤ (60 : Int32) then k16 (up S 80 z29) (l1 + 1) (l2 + 2) else some (up S 80 z29, 0)))) else (if b25 = (6 : Int32) then ((r_next (S 91) l2).bind fun r33 => ((iset (S 80) l1 r33).bind fun z35 => (if (l1 + 1) ≤ (60 : Int32) then k16 (up S 80 z35) (l1 + 1) (l2 + 2) else some (up S 80 z35, 0)))) else ((r_next (S 91) l2).bind fun r38 => k16 S l1 r38)))) else b_fits_l27 k16 n S (l1 + (-1)) l2)))
theorem b_fits_l27_ok {k16 : SS → Int32 → Int32 → Option (SS × Int32)} (hk16 : ∀ (h : mH) (S : SS) (l1 : Int32) (l2 : Int32) (v : SS × Int32), cs h S → k16 S l1 l2 = some v → mW (d + 1345) mm203 (16, [some (.ref 78), some (.int l1), some (.int l2)], [], (h, q)) (mQ q v.1 (some (.int v.2)))) : ∀ (n : Nat), ∀ (h : mH) (S : SS) (l1 : Int32) (l2 : Int32) (v : SS × Int32), cs h S → b_fits_l27 k16 n S l1 l2 = some v → mW (d + 1345) mm203 (27, [some (.ref 78), some (.int l1), some (.int l2)], [], (h, q)) (mQ q v.1 (some (.int v.2))) := by
  intro n
  induction n with
  | zero => intro h S l1 l2 v hs hv; cases hv
  | succ n ih =>
    intro h S l1 l2 v hs hv
    unfold b_fits_l27 at hv
    refine mW.sn 1 (g' := (28, [some (.ref 78), some (.int l1), some (.int l2)], [.int l1], (h, q))) rfl ?_
    refine mW.br (g1 := (49, [some (.ref 78), some (.int l1), some (.int l2)], [], (h, q))) (g2 := (31, [some (.ref 78), some (.int l1), some (.int l2)], [], (h, q))) (c := l1 ≤ 0) rfl (fun hc7 => ?_) (fun hc7 => ?_)
    · rw [if_pos hc7] at hv
      refine mW.sn 1 (g' := (50, [some (.ref 78), some (.int l1), some (.int l2)], [.ref 78], (h, q))) rfl ?_
      refine sW.getR rfl hs o78 rfl rfl ?_
      refine sW.getR rfl hs o90 rfl rfl ?_
      refine mW.sn 1 (g' := (57, [some (.ref 78), some (.int l1), some (.int l2)], [.int l2, .ref 91], (h, q))) rfl ?_
      cases hr8 : iget (S 91) l2 with
      | none => rw [hr8] at hv; cases hv
      | some b8 =>
        rw [hr8, o_bind] at hv
        refine sW.iald rfl hs (by decide) hr8 ?_
        refine mW.sn 1 (g' := (59, [some (.ref 78), some (.int l1), some (.int l2)], [.int 5, .int b8], (h, q))) rfl ?_
        refine mW.br (g1 := (76, [some (.ref 78), some (.int l1), some (.int l2)], [], (h, q))) (g2 := (62, [some (.ref 78), some (.int l1), some (.int l2)], [], (h, q))) (c := b8 = (5 : Int32)) rfl (fun hc9 => ?_) (fun hc9 => ?_)
        · rw [if_pos hc9] at hv
          refine mW.sn 1 (g' := (77, [some (.ref 78), some (.int l1), some (.int l2)], [.ref 78], (h, q))) rfl ?_
          refine sW.getR rfl hs o78 rfl rfl ?_
          refine mW.sn 2 (g' := (82, [some (.ref 78), some (.int l1), some (.int l2)], [.ref 78, .int l1, .ref 80], (h, q))) rfl ?_
          refine sW.getR rfl hs o78 rfl rfl ?_
          refine sW.getR rfl hs o90 rfl rfl ?_
          refine mW.sn 1 (g' := (89, [some (.ref 78), some (.int l1), some (.int l2)], [.int l2, .ref 91, .int l1, .ref 80], (h, q))) rfl ?_
          cases hr10 : r_next (S 91) l2 with
          | none => rw [hr10] at hv; cases hv
          | some r10 =>
            rw [hr10, o_bind] at hv
            refine sW.call rfl rfl rfl rfl rfl (sW.of hs (x199 (hs.ar (by decide)) hr10)) ?_
            intro h11 hs11
            cases hr12 : iset (S 80) l1 r10 with
            | none => rw [hr12] at hv; cases hv
            | some z12 =>
              rw [hr12, o_bind] at hv
              refine sW.iast rfl hs11 (by decide) hr12 ?_
              intro h13 hs13
              refine mW.sn 3 (g' := (99, [some (.ref 78), some (.int (l1 + 1)), some (.int l2)], [.int 60, .int (l1 + 1)], (h13, q))) rfl ?_
              refine mW.br (g1 := (104, [some (.ref 78), some (.int (l1 + 1)), some (.int l2)], [], (h13, q))) (g2 := (102, [some (.ref 78), some (.int (l1 + 1)), some (.int l2)], [], (h13, q))) (c := (l1 + 1) ≤ (60 : Int32)) rfl (fun hc14 => ?_) (fun hc14 => ?_)
              · rw [if_pos hc14] at hv
                refine mW.sn 2 (g' := (16, [some (.ref 78), some (.int (l1 + 1)), some (.int (l2 + 2))], [], (h13, q))) rfl ?_
                exact hk16 _ _ _ _ _  hs13 hv
              · rw [if_neg hc14] at hv
                refine mW.sn 1 (g' := (103, [some (.ref 78), some (.int (l1 + 1)), some (.int l2)], [.int 0], (h13, q))) rfl ?_
                cases hv
                exact sW.fin hs13 rfl
        · rw [if_neg hc9] at hv
          refine mW.sn 1 (g' := (63, [some (.ref 78), some (.int l1), some (.int l2)], [.ref 78], (h, q))) rfl ?_
          refine sW.getR rfl hs o78 rfl rfl ?_
          refine sW.getR rfl hs o90 rfl rfl ?_
          refine mW.sn 1 (g' := (70, [some (.ref 78), some (.int l1), some (.int l2)], [.int l2, .ref 91], (h, q))) rfl ?_
          refine sW.iald rfl hs (by decide) hr8 ?_
          refine mW.sn 1 (g' := (73, [some (.ref 78), some (.int l1), some (.int l2)], [.int 6, .int b8], (h, q))) rfl ?_
          refine mW.br (g1 := (76, [some (.ref 78), some (.int l1), some (.int l2)], [], (h, q))) (g2 := (110, [some (.ref 78), some (.int l1), some (.int l2)], [], (h, q))) (c := b8 = (6 : Int32)) rfl (fun hc15 => ?_) (fun hc15 => ?_)
          · rw [if_pos hc15] at hv
            refine mW.sn 1 (g' := (77, [some (.ref 78), some (.int l1), some (.int l2)], [.ref 78], (h, q))) rfl ?_
            refine sW.getR rfl hs o78 rfl rfl ?_
            refine mW.sn 2 (g' := (82, [some (.ref 78), some (.int l1), some (.int l2)], [.ref 78, .int l1, .ref 80], (h, q))) rfl ?_
            refine sW.getR rfl hs o78 rfl rfl ?_
            refine sW.getR rfl hs o90 rfl rfl ?_
            refine mW.sn 1 (g' := (89, [some (.ref 78), some (.int l1), some (.int l2)], [.int l2, .ref 91, .int l1, .ref 80], (h, q))) rfl ?_
            cases hr16 : r_next (S 91) l2 with
            | none => rw [hr16] at hv; cases hv
            | some r16 =>
              rw [hr16, o_bind] at hv
              refine sW.call rfl rfl rfl rfl rfl (sW.of hs (x199 (hs.ar (by decide)) hr16)) ?_
              intro h17 hs17
              cases hr18 : iset (S 80) l1 r16 with
              | none => rw [hr18] at hv; cases hv
              | some z18 =>
                rw [hr18, o_bind] at hv
                refine sW.iast rfl hs17 (by decide) hr18 ?_
                intro h19 hs19
                refine mW.sn 3 (g' := (99, [some (.ref 78), some (.int (l1 + 1)), some (.int l2)], [.int 60, .int (l1 + 1)], (h19, q))) rfl ?_
                refine mW.br (g1 := (104, [some (.ref 78), some (.int (l1 + 1)), some (.int l2)], [], (h19, q))) (g2 := (102, [some (.ref 78), some (.int (l1 + 1)), some (.int l2)], [], (h19, q))) (c := (l1 + 1) ≤ (60 : Int32)) rfl (fun hc20 => ?_) (fun hc20 => ?_)
                · rw [if_pos hc20] at hv
                  refine mW.sn 2 (g' := (16, [some (.ref 78), some (.int (l1 + 1)), some (.int (l2 + 2))], [], (h19, q))) rfl ?_
                  exact hk16 _ _ _ _ _  hs19 hv
                · rw [if_neg hc20] at hv
                  refine mW.sn 1 (g' := (103, [some (.ref 78), some (.int (l1 + 1)), some (.int l2)], [.int 0], (h19, q))) rfl ?_
                  cases hv
                  exact sW.fin hs19 rfl
          · rw [if_neg hc15] at hv
            refine mW.sn 1 (g' := (111, [some (.ref 78), some (.int l1), some (.int l2)], [.ref 78], (h, q))) rfl ?_
            refine sW.getR rfl hs o78 rfl rfl ?_
            refine sW.getR rfl hs o90 rfl rfl ?_
            refine mW.sn 1 (g' := (118, [some (.ref 78), some (.int l1), some (.int l2)], [.int l2, .ref 91], (h, q))) rfl ?_
            cases hr21 : r_next (S 91) l2 with
            | none => rw [hr21] at hv; cases hv
            | some r21 =>
              rw [hr21, o_bind] at hv
              refine sW.call rfl rfl rfl rfl rfl (sW.of hs (x199 (hs.ar (by decide)) hr21)) ?_
              intro h22 hs22
              refine mW.sn 2 (g' := (16, [some (.ref 78), some (.int l1), some (.int r21)], [], (h22, q))) rfl ?_
              exact hk16 _ _ _ _ _  hs22 hv
    · rw [if_neg hc7] at hv
      refine mW.sn 1 (g' := (32, [some (.ref 78), some (.int l1), some (.int l2)], [.ref 78], (h, q))) rfl ?_
      refine sW.getR rfl hs o78 rfl rfl ?_
      refine mW.sn 3 (g' := (38, [some (.ref 78), some (.int l1), some (.int l2)], [.int (l1 - 1), .ref 80], (h, q))) rfl ?_
      cases hr23 : iget (S 80) (l1 - 1) with
      | none => rw [hr23] at hv; cases hv
      | some b23 =>
        rw [hr23, o_bind] at hv
        refine sW.iald rfl hs (by decide) hr23 ?_
        refine mW.sn 1 (g' := (40, [some (.ref 78), some (.int l1), some (.int l2)], [.int l2, .int b23], (h, q))) rfl ?_
        refine mW.br (g1 := (49, [some (.ref 78), some (.int l1), some (.int l2)], [], (h, q))) (g2 := (43, [some (.ref 78), some (.int l1), some (.int l2)], [], (h, q))) (c := l2 < b23) rfl (fun hc24 => ?_) (fun hc24 => ?_)
        · rw [if_pos hc24] at hv
          refine mW.sn 1 (g' := (50, [some (.ref 78), some (.int l1), some (.int l2)], [.ref 78], (h, q))) rfl ?_
          refine sW.getR rfl hs o78 rfl rfl ?_
          refine sW.getR rfl hs o90 rfl rfl ?_
          refine mW.sn 1 (g' := (57, [some (.ref 78), some (.int l1), some (.int l2)], [.int l2, .ref 91], (h, q))) rfl ?_
          cases hr25 : iget (S 91) l2 with
          | none => rw [hr25] at hv; cases hv
          | some b25 =>
            rw [hr25, o_bind] at hv
            refine sW.iald rfl hs (by decide) hr25 ?_
            refine mW.sn 1 (g' := (59, [some (.ref 78), some (.int l1), some (.int l2)], [.int 5, .int b25], (h, q))) rfl ?_
            refine mW.br (g1 := (76, [some (.ref 78), some (.int l1), some (.int l2)], [], (h, q))) (g2 := (62, [some (.ref 78), some (.int l1), some (.int l2)], [], (h, q))) (c := b25 = (5 : Int32)) rfl (fun hc26 => ?_) (fun hc26 => ?_)
            · rw [if_pos hc26] at hv
              refine mW.sn 1 (g' := (77, [some (.ref 78), some (.int l1), some (.int l2)], [.ref 78], (h, q))) rfl ?_
              refine sW.getR rfl hs o78 rfl rfl ?_
              refine mW.sn 2 (g' := (82, [some (.ref 78), some (.int l1), some (.int l2)], [.ref 78, .int l1, .ref 80], (h, q))) rfl ?_
              refine sW.getR rfl hs o78 rfl rfl ?_
              refine sW.getR rfl hs o90 rfl rfl ?_
              refine mW.sn 1 (g' := (89, [some (.ref 78), some (.int l1), some (.int l2)], [.int l2, .ref 91, .int l1, .ref 80], (h, q))) rfl ?_
              cases hr27 : r_next (S 91) l2 with
              | none => rw [hr27] at hv; cases hv
              | some r27 =>
                rw [hr27, o_bind] at hv
                refine sW.call rfl rfl rfl rfl rfl (sW.of hs (x199 (hs.ar (by decide)) hr27)) ?_
                intro h28 hs28
                cases hr29 : iset (S 80) l1 r27 with
                | none => rw [hr29] at hv; cases hv
                | some z29 =>
                  rw [hr29, o_bind] at hv
                  refine sW.iast rfl hs28 (by decide) hr29 ?_
                  intro h30 hs30
                  refine mW.sn 3 (g' := (99, [some (.ref 78), some (.int (l1 + 1)), some (.int l2)], [.int 60, .int (l1 + 1)], (h30, q))) rfl ?_
                  refine mW.br (g1 := (104, [some (.ref 78), some (.int (l1 + 1)), some (.int l2)], [], (h30, q))) (g2 := (102, [some (.ref 78), some (.int (l1 + 1)), some (.int l2)], [], (h30, q))) (c := (l1 + 1) ≤ (60 : Int32)) rfl (fun hc31 => ?_) (fun hc31 => ?_)
                  · rw [if_pos hc31] at hv
                    refine mW.sn 2 (g' := (16, [some (.ref 78), some (.int (l1 + 1)), some (.int (l2 + 2))], [], (h30, q))) rfl ?_
                    exact hk16 _ _ _ _ _  hs30 hv
                  · rw [if_neg hc31] at hv
                    refine mW.sn 1 (g' := (103, [some (.ref 78), some (.int (l1 + 1)), some (.int l2)], [.int 0], (h30, q))) rfl ?_
                    cases hv
                    exact sW.fin hs30 rfl
            · rw [if_neg hc26] at hv
              refine mW.sn 1 (g' := (63, [some (.ref 78), some (.int l1), some (.int l2)], [.ref 78], (h, q))) rfl ?_
              refine sW.getR rfl hs o78 rfl rfl ?_
              refine sW.getR rfl hs o90 rfl rfl ?_
              refine mW.sn 1 (g' := (70, [some (.ref 78), some (.int l1), some (.int l2)], [.int l2, .ref 91], (h, q))) rfl ?_
              refine sW.iald rfl hs (by decide) hr25 ?_
              refine mW.sn 1 (g' := (73, [some (.ref 78), some (.int l1), some (.int l2)], [.int 6, .int b25], (h, q))) rfl ?_
              refine mW.br (g1 := (76, [some (.ref 78), some (.int l1), some (.int l2)], [], (h, q))) (g2 := (110, [some (.ref 78), some (.int l1), some (.int l2)], [], (h, q))) (c := b25 = (6 : Int32)) rfl (fun hc32 => ?_) (fun hc32 => ?_)
              · rw [if_pos hc32] at hv
                refine mW.sn 1 (g' := (77, [some (.ref 78), some (.int l1), some (.int l2)], [.ref 78], (h, q))) rfl ?_
                refine sW.getR rfl hs o78 rfl rfl ?_
                refine mW.sn 2 (g' := (82, [some (.ref 78), some (.int l1), some (.int l2)], [.ref 78, .int l1, .ref 80], (h, q))) rfl ?_
                refine sW.getR rfl hs o78 rfl rfl ?_
                refine sW.getR rfl hs o90 rfl rfl ?_
                refine mW.sn 1 (g' := (89, [some (.ref 78), some (.int l1), some (.int l2)], [.int l2, .ref 91, .int l1, .ref 80], (h, q))) rfl ?_
                cases hr33 : r_next (S 91) l2 with
                | none => rw [hr33] at hv; cases hv
                | some r33 =>
                  rw [hr33, o_bind] at hv
                  refine sW.call rfl rfl rfl rfl rfl (sW.of hs (x199 (hs.ar (by decide)) hr33)) ?_
                  intro h34 hs34
                  cases hr35 : iset (S 80) l1 r33 with
                  | none => rw [hr35] at hv; cases hv
                  | some z35 =>
                    rw [hr35, o_bind] at hv
                    refine sW.iast rfl hs34 (by decide) hr35 ?_
                    intro h36 hs36
                    refine mW.sn 3 (g' := (99, [some (.ref 78), some (.int (l1 + 1)), some (.int l2)], [.int 60, .int (l1 + 1)], (h36, q))) rfl ?_
                    refine mW.br (g1 := (104, [some (.ref 78), some (.int (l1 + 1)), some (.int l2)], [], (h36, q))) (g2 := (102, [some (.ref 78), some (.int (l1 + 1)), some (.int l2)], [], (h36, q))) (c := (l1 + 1) ≤ (60 : Int32)) rfl (fun hc37 => ?_) (fun hc37 => ?_)
                    · rw [if_pos hc37] at hv
                      refine mW.sn 2 (g' := (16, [some (.ref 78), some (.int (l1 + 1)), some (.int (l2 + 2))], [], (h36, q))) rfl ?_
                      exact hk16 _ _ _ _ _  hs36 hv
                    · rw [if_neg hc37] at hv
                      refine mW.sn 1 (g' := (103, [some (.ref 78), some (.int (l1 + 1)), some (.int l2)], [.int 0], (h36, q))) rfl ?_
                      cases hv
                      exact sW.fin hs36 rfl
              · rw [if_neg hc32] at hv
                refine mW.sn 1 (g' := (111, [some (.ref 78), some (.int l1), some (.int l2)], [.ref 78], (h, q))) rfl ?_
                refine sW.getR rfl hs o78 rfl rfl ?_
                refine sW.getR rfl hs o90 rfl rfl ?_
                refine mW.sn 1 (g' := (118, [some (.ref 78), some (.int l1), some (.int l2)], [.int l2, .ref 91], (h, q))) rfl ?_
                cases hr38 : r_next (S 91) l2 with
                | none => rw [hr38] at hv; cases hv
                | some r38 =>
                  rw [hr38, o_bind] at hv
                  refine sW.call rfl rfl rfl rfl rfl (sW.of hs (x199 (hs.ar (by decide)) hr38)) ?_
                  intro h39 hs39
                  refine mW.sn 2 (g' := (16, [some (.ref 78), some (.int l1), some (.int r38)], [], (h39, q))) rfl ?_
                  exact hk16 _ _ _ _ _  hs39 hv
        · rw [if_neg hc24] at hv
          refine mW.sn 2 (g' := (27, [some (.ref 78), some (.int (l1 + (-1))), some (.int l2)], [], (h, q))) rfl ?_
          exact ih _ _ _ _ _  hs hv
def b_fits_l16 : Nat → SS → Int32 → Int32 → Option (SS × Int32)
  | 0, _, _, _ => none
  | n + 1, S, l1, l2 => (if (rd S 90 1) ≤ l2 then ((w_value 64 (up S 94 [0]) 94 91 0).bind fun r4 => (if (tV r4 94) = 0 then some (r4, 1) else some (r4, 0))) else b_fits_l27 (b_fits_l16 n) 10000 S l1 l2)
theorem b_fits_l16_ok : ∀ (n : Nat), ∀ (h : mH) (S : SS) (l1 : Int32) (l2 : Int32) (v : SS × Int32), cs h S → b_fits_l16 n S l1 l2 = some v → mW (d + 1345) mm203 (16, [some (.ref 78), some (.int l1), some (.int l2)], [], (h, q)) (mQ q v.1 (some (.int v.2))) := by
  intro n
  induction n with
  | zero => intro h S l1 l2 v hs hv; cases hv
  | succ n ih =>
    intro h S l1 l2 v hs hv
    unfold b_fits_l16 at hv
    refine mW.sn 2 (g' := (18, [some (.ref 78), some (.int l1), some (.int l2)], [.ref 78, .int l2], (h, q))) rfl ?_
    refine sW.getR rfl hs o78 rfl rfl ?_
    refine sW.getI rfl hs o90 rfl rfl ?_
    refine mW.br (g1 := (125, [some (.ref 78), some (.int l1), some (.int l2)], [], (h, q))) (g2 := (27, [some (.ref 78), some (.int l1), some (.int l2)], [], (h, q))) (c := (rd S 90 1) ≤ l2) rfl (fun hc2 => ?_) (fun hc2 => ?_)
    · rw [if_pos hc2] at hv
      refine mW.sn 1 (g' := (126, [some (.ref 78), some (.int l1), some (.int l2)], [.ref 78], (h, q))) rfl ?_
      refine sW.getR rfl hs o78 rfl rfl ?_
      refine sW.call rfl rfl rfl rfl (hs.rcvP (by decide)) (s204 (by decide) hs) ?_
      intro h3 hs3
      refine mW.sn 1 (g' := (133, [some (.ref 78), some (.int l1), some (.int l2)], [.ref 78], (h3, q))) rfl ?_
      refine sW.getR rfl hs3 o78 rfl rfl ?_
      refine mW.sn 1 (g' := (137, [some (.ref 78), some (.int l1), some (.int l2)], [.ref 78, .ref 94], (h3, q))) rfl ?_
      refine sW.getR rfl hs3 o78 rfl rfl ?_
      refine sW.getR rfl hs3 o90 rfl rfl ?_
      refine mW.sn 1 (g' := (144, [some (.ref 78), some (.int l1), some (.int l2)], [.int 0, .ref 91, .ref 94], (h3, q))) rfl ?_
      cases hr4 : w_value 64 (up S 94 [0]) 94 91 0 with
      | none => rw [hr4] at hv; cases hv
      | some r4 =>
        rw [hr4, o_bind] at hv
        refine sW.call rfl rfl rfl rfl (hs3.rcvP (by decide)) (w_value_ok 64 _ (by omega) _ _ _ _ _ _ (by decide) (by decide) hs3 hr4) ?_
        intro h5 hs5
        refine mW.sn 1 (g' := (148, [some (.ref 78), some (.int l1), some (.int l2)], [.ref 78], (h5, q))) rfl ?_
        refine sW.getR rfl hs5 o78 rfl rfl ?_
        refine sW.getPo rfl hs5 (by decide) ?_
        refine mW.br (g1 := (157, [some (.ref 78), some (.int l1), some (.int l2)], [], (h5, q))) (g2 := (161, [some (.ref 78), some (.int l1), some (.int l2)], [], (h5, q))) (c := (tV r4 94) = 0) rfl (fun hc6 => ?_) (fun hc6 => ?_)
        · rw [if_pos hc6] at hv
          refine mW.sn 2 (g' := (162, [some (.ref 78), some (.int l1), some (.int l2)], [.int 1], (h5, q))) rfl ?_
          cases hv
          exact sW.fin hs5 rfl
        · rw [if_neg hc6] at hv
          refine mW.sn 1 (g' := (162, [some (.ref 78), some (.int l1), some (.int l2)], [.int 0], (h5, q))) rfl ?_
          cases hv
          exact sW.fin hs5 rfl
    · rw [if_neg hc2] at hv
      exact b_fits_l27_ok ih _ _ _ _ _ _  hs hv
def b_fits (S : SS) : Option (SS × Int32) := (if (rd S 90 2) = 0 then b_fits_l16 10000 S 0 0 else some (S, 0))
theorem s203 {S : SS} {v : SS × Int32} (hs : cs h S) (hv : b_fits S = some v) : mW (d + 1345) mm203 (0, [some (.ref 78), none, none], [], (h, q)) (mQ q v.1 (some (.int v.2))) := by
  unfold b_fits at hv
  refine mW.sn 1 (g' := (1, [some (.ref 78), none, none], [.ref 78], (h, q))) rfl ?_
  refine sW.getR rfl hs o78 rfl rfl ?_
  refine sW.getI rfl hs o90 rfl rfl ?_
  refine mW.br (g1 := (12, [some (.ref 78), none, none], [], (h, q))) (g2 := (10, [some (.ref 78), none, none], [], (h, q))) (c := (rd S 90 2) = 0) rfl (fun hc1 => ?_) (fun hc1 => ?_)
  · rw [if_pos hc1] at hv
    refine mW.sn 4 (g' := (16, [some (.ref 78), some (.int 0), some (.int 0)], [], (h, q))) rfl ?_
    exact b_fits_l16_ok _ _ _ _ _ _  hs hv
  · rw [if_neg hc1] at hv
    refine mW.sn 1 (g' := (11, [some (.ref 78), none, none], [.int 0], (h, q))) rfl ?_
    cases hv
    exact sW.fin hs rfl
def b_keep_l2 : Nat → SS → Int32 → Int32 → Option (SS)
  | 0, _, _, _ => none
  | n + 1, S, l1, l2 => (if (rd S 90 1) ≤ l2 then some S else ((iget sh81 l1).bind fun b2 => ((iget (S 91) l2).bind fun b3 => ((iset (S b2.toNatClampNeg) l2 b3).bind fun z4 => b_keep_l2 n (up S b2.toNatClampNeg z4) l1 (l2 + 1)))))
theorem b_keep_l2_ok : ∀ (n : Nat), ∀ (h : mH) (S : SS) (l1 : Int32) (l2 : Int32) (v : SS), cs h S → b_keep_l2 n S l1 l2 = some v → mW d mm211 (2, [some (.ref 78), some (.int l1), some (.int l2)], [], (h, q)) (mQ q v none) := by
  intro n
  induction n with
  | zero => intro h S l1 l2 v hs hv; cases hv
  | succ n ih =>
    intro h S l1 l2 v hs hv
    unfold b_keep_l2 at hv
    refine mW.sn 2 (g' := (4, [some (.ref 78), some (.int l1), some (.int l2)], [.ref 78, .int l2], (h, q))) rfl ?_
    refine sW.getR rfl hs o78 rfl rfl ?_
    refine sW.getI rfl hs o90 rfl rfl ?_
    refine mW.br (g1 := (36, [some (.ref 78), some (.int l1), some (.int l2)], [], (h, q))) (g2 := (13, [some (.ref 78), some (.int l1), some (.int l2)], [], (h, q))) (c := (rd S 90 1) ≤ l2) rfl (fun hc1 => ?_) (fun hc1 => ?_)
    · rw [if_pos hc1] at hv
      cases hv
      exact sW.fin hs rfl
    · rw [if_neg hc1] at hv
      refine mW.sn 1 (g' := (14, [some (.ref 78), some (.int l1), some (.int l2)], [.ref 78], (h, q))) rfl ?_
      refine sW.getR rfl hs o78 rfl rfl ?_
      refine mW.sn 1 (g' := (18, [some (.ref 78), some (.int l1), some (.int l2)], [.int l1, .ref 81], (h, q))) rfl ?_
      cases hr2 : iget sh81 l1 with
      | none => rw [hr2] at hv; cases hv
      | some b2 =>
        rw [hr2, o_bind] at hv
        refine sW.aald81 rfl hs hr2 ?_
        refine mW.sn 2 (g' := (21, [some (.ref 78), some (.int l1), some (.int l2)], [.ref 78, .int l2, .ref b2.toNatClampNeg], (h, q))) rfl ?_
        refine sW.getR rfl hs o78 rfl rfl ?_
        refine sW.getR rfl hs o90 rfl rfl ?_
        refine mW.sn 1 (g' := (28, [some (.ref 78), some (.int l1), some (.int l2)], [.int l2, .ref 91, .int l2, .ref b2.toNatClampNeg], (h, q))) rfl ?_
        cases hr3 : iget (S 91) l2 with
        | none => rw [hr3] at hv; cases hv
        | some b3 =>
          rw [hr3, o_bind] at hv
          refine sW.iald rfl hs (by decide) hr3 ?_
          cases hr4 : iset (S b2.toNatClampNeg) l2 b3 with
          | none => rw [hr4] at hv; cases hv
          | some z4 =>
            rw [hr4, o_bind] at hv
            refine sW.iast rfl hs (ok81 hr2) hr4 ?_
            intro h5 hs5
            refine mW.sn 2 (g' := (2, [some (.ref 78), some (.int l1), some (.int (l2 + 1))], [], (h5, q))) rfl ?_
            exact ih _ _ _ _ _  hs5 hv
def b_keep (S : SS) (p0 : Int32) : Option (SS) := b_keep_l2 10000 S p0 0
theorem s211 {S : SS} {p0 : Int32} {v : SS} (hs : cs h S) (hv : b_keep S p0 = some v) : mW d mm211 (0, [some (.ref 78), some (.int p0), none], [], (h, q)) (mQ q v none) := by
  unfold b_keep at hv
  refine mW.sn 2 (g' := (2, [some (.ref 78), some (.int p0), some (.int 0)], [], (h, q))) rfl ?_
  exact b_keep_l2_ok _ _ _ _ _ _  hs hv
def b_finish (S : SS) (p0 : Int32) (p1 : Int32) (p2 : Int32) : Option (SS) := (if (rd S 78 12) ≤ 0 then ((b_fits S).bind fun r2 => (if r2.2 = 0 then some (wr r2.1 78 0 p2) else ((b_keep r2.1 p0).bind fun r6 => some r6))) else some (wr (wr S 78 4 (rd S 78 12)) 78 0 p1))
theorem s237 {S : SS} {p0 : Int32} {p1 : Int32} {p2 : Int32} {v : SS} (hs : cs h S) (hv : b_finish S p0 p1 p2 = some v) : mW (d + 1346) mm237 (0, [some (.ref 78), some (.int p0), some (.int p1), some (.int p2)], [], (h, q)) (mQ q v none) := by
  unfold b_finish at hv
  refine mW.sn 1 (g' := (1, [some (.ref 78), some (.int p0), some (.int p1), some (.int p2)], [.ref 78], (h, q))) rfl ?_
  refine sW.getI rfl hs o78 rfl rfl ?_
  refine mW.br (g1 := (23, [some (.ref 78), some (.int p0), some (.int p1), some (.int p2)], [], (h, q))) (g2 := (7, [some (.ref 78), some (.int p0), some (.int p1), some (.int p2)], [], (h, q))) (c := (rd S 78 12) ≤ 0) rfl (fun hc1 => ?_) (fun hc1 => ?_)
  · rw [if_pos hc1] at hv
    refine mW.sn 1 (g' := (24, [some (.ref 78), some (.int p0), some (.int p1), some (.int p2)], [.ref 78], (h, q))) rfl ?_
    cases hr2 : b_fits S with
    | none => rw [hr2] at hv; cases hv
    | some r2 =>
      rw [hr2, o_bind] at hv
      refine sW.call rfl rfl rfl rfl (hs.rcv o78) (s203 hs hr2) ?_
      intro h3 hs3
      refine mW.br (g1 := (30, [some (.ref 78), some (.int p0), some (.int p1), some (.int p2)], [], (h3, q))) (g2 := (38, [some (.ref 78), some (.int p0), some (.int p1), some (.int p2)], [], (h3, q))) (c := r2.2 = 0) rfl (fun hc4 => ?_) (fun hc4 => ?_)
      · rw [if_pos hc4] at hv
        refine mW.sn 2 (g' := (32, [some (.ref 78), some (.int p0), some (.int p1), some (.int p2)], [.int p2, .ref 78], (h3, q))) rfl ?_
        refine sW.putI rfl hs3 o78 rfl ?_
        intro h5 hs5
        refine mW.sn 1 (g' := (43, [some (.ref 78), some (.int p0), some (.int p1), some (.int p2)], [], (h5, q))) rfl ?_
        cases hv
        exact sW.fin hs5 rfl
      · rw [if_neg hc4] at hv
        refine mW.sn 2 (g' := (40, [some (.ref 78), some (.int p0), some (.int p1), some (.int p2)], [.int p0, .ref 78], (h3, q))) rfl ?_
        cases hr6 : b_keep r2.1 p0 with
        | none => rw [hr6] at hv; cases hv
        | some r6 =>
          rw [hr6, o_bind] at hv
          refine sW.call rfl rfl rfl rfl (hs3.rcv o78) (s211 hs3 hr6) ?_
          intro h7 hs7
          cases hv
          exact sW.fin hs7 rfl
  · rw [if_neg hc1] at hv
    refine mW.sn 2 (g' := (9, [some (.ref 78), some (.int p0), some (.int p1), some (.int p2)], [.ref 78, .ref 78], (h, q))) rfl ?_
    refine sW.getI rfl hs o78 rfl rfl ?_
    refine sW.putI rfl hs o78 rfl ?_
    intro h8 hs8
    refine mW.sn 2 (g' := (17, [some (.ref 78), some (.int p0), some (.int p1), some (.int p2)], [.int p1, .ref 78], (h8, q))) rfl ?_
    refine sW.putI rfl hs8 o78 rfl ?_
    intro h9 hs9
    refine mW.sn 1 (g' := (43, [some (.ref 78), some (.int p0), some (.int p1), some (.int p2)], [], (h9, q))) rfl ?_
    cases hv
    exact sW.fin hs9 rfl
def b_bound (S : SS) (aa : Nat) (p0 : Int32) : Option (Int32) := (if p0 = (-1 : Int32) then some 1 else ((iget (S aa) p0).bind fun b2 => (if b2 = 0 then some 1 else (if b2 = (3 : Int32) then some 1 else some 0))))
theorem s230 {S : SS} {aa : Nat} (haa : aa ∈ shA) {p0 : Int32} {v : Int32} (hs : cs h S) (hv : b_bound S aa p0 = some v) : mW d mm230 (0, [some (.ref aa), some (.int p0)], [], (h, q)) (mQ q S (some (.int v))) := by
  unfold b_bound at hv
  refine mW.sn 2 (g' := (2, [some (.ref aa), some (.int p0)], [.int (-1), .int p0], (h, q))) rfl ?_
  refine mW.br (g1 := (18, [some (.ref aa), some (.int p0)], [], (h, q))) (g2 := (5, [some (.ref aa), some (.int p0)], [], (h, q))) (c := p0 = (-1 : Int32)) rfl (fun hc1 => ?_) (fun hc1 => ?_)
  · rw [if_pos hc1] at hv
    refine mW.sn 2 (g' := (23, [some (.ref aa), some (.int p0)], [.int 1], (h, q))) rfl ?_
    cases hv
    exact sW.fin hs rfl
  · rw [if_neg hc1] at hv
    refine mW.sn 2 (g' := (7, [some (.ref aa), some (.int p0)], [.int p0, .ref aa], (h, q))) rfl ?_
    cases hr2 : iget (S aa) p0 with
    | none => rw [hr2] at hv; cases hv
    | some b2 =>
      rw [hr2, o_bind] at hv
      refine sW.iald rfl hs haa hr2 ?_
      refine mW.br (g1 := (18, [some (.ref aa), some (.int p0)], [], (h, q))) (g2 := (11, [some (.ref aa), some (.int p0)], [], (h, q))) (c := b2 = 0) rfl (fun hc3 => ?_) (fun hc3 => ?_)
      · rw [if_pos hc3] at hv
        refine mW.sn 2 (g' := (23, [some (.ref aa), some (.int p0)], [.int 1], (h, q))) rfl ?_
        cases hv
        exact sW.fin hs rfl
      · rw [if_neg hc3] at hv
        refine mW.sn 2 (g' := (13, [some (.ref aa), some (.int p0)], [.int p0, .ref aa], (h, q))) rfl ?_
        refine sW.iald rfl hs haa hr2 ?_
        refine mW.sn 1 (g' := (15, [some (.ref aa), some (.int p0)], [.int 3, .int b2], (h, q))) rfl ?_
        refine mW.br (g1 := (18, [some (.ref aa), some (.int p0)], [], (h, q))) (g2 := (22, [some (.ref aa), some (.int p0)], [], (h, q))) (c := b2 = (3 : Int32)) rfl (fun hc4 => ?_) (fun hc4 => ?_)
        · rw [if_pos hc4] at hv
          refine mW.sn 2 (g' := (23, [some (.ref aa), some (.int p0)], [.int 1], (h, q))) rfl ?_
          cases hv
          exact sW.fin hs rfl
        · rw [if_neg hc4] at hv
          refine mW.sn 1 (g' := (23, [some (.ref aa), some (.int p0)], [.int 0], (h, q))) rfl ?_
          cases hv
          exact sW.fin hs rfl
def b_part (S : SS) (aa : Nat) (p0 : Int32) : Option (Int32) := ((r_named (S aa) (S 39) p0 0).bind fun r1 => ((b_bound S aa r1).bind fun r3 => (if r3 = 0 then some 0 else ((r_named (S aa) (S 40) p0 0).bind fun r6 => ((b_bound S aa r6).bind fun r8 => (if r8 = 0 then some 0 else some 1))))))
theorem s229 {S : SS} {aa : Nat} (haa : aa ∈ shA) {p0 : Int32} {v : Int32} (hs : cs h S) (hv : b_part S aa p0 = some v) : mW (d + 3) mm229 (0, [some (.ref aa), some (.int p0)], [], (h, q)) (mQ q S (some (.int v))) := by
  unfold b_part at hv
  refine mW.sn 5 (g' := (7, [some (.ref aa), some (.int p0)], [.int 0, .ref 39, .int p0, .ref aa, .ref aa], (h, q))) rfl ?_
  cases hr1 : r_named (S aa) (S 39) p0 0 with
  | none => rw [hr1] at hv; cases hv
  | some r1 =>
    rw [hr1, o_bind] at hv
    refine sW.call rfl rfl rfl rfl rfl (sW.of hs (x219 (hs.ar haa) (hs.ar (by decide)) hr1)) ?_
    intro h2 hs2
    cases hr3 : b_bound S aa r1 with
    | none => rw [hr3] at hv; cases hv
    | some r3 =>
      rw [hr3, o_bind] at hv
      refine sW.call rfl rfl rfl rfl rfl (s230 haa hs2 hr3) ?_
      intro h4 hs4
      refine mW.br (g1 := (36, [some (.ref aa), some (.int p0)], [], (h4, q))) (g2 := (16, [some (.ref aa), some (.int p0)], [], (h4, q))) (c := r3 = 0) rfl (fun hc5 => ?_) (fun hc5 => ?_)
      · rw [if_pos hc5] at hv
        refine mW.sn 1 (g' := (37, [some (.ref aa), some (.int p0)], [.int 0], (h4, q))) rfl ?_
        cases hv
        exact sW.fin hs4 rfl
      · rw [if_neg hc5] at hv
        refine mW.sn 5 (g' := (23, [some (.ref aa), some (.int p0)], [.int 0, .ref 40, .int p0, .ref aa, .ref aa], (h4, q))) rfl ?_
        cases hr6 : r_named (S aa) (S 40) p0 0 with
        | none => rw [hr6] at hv; cases hv
        | some r6 =>
          rw [hr6, o_bind] at hv
          refine sW.call rfl rfl rfl rfl rfl (sW.of hs4 (x219 (hs4.ar haa) (hs4.ar (by decide)) hr6)) ?_
          intro h7 hs7
          cases hr8 : b_bound S aa r6 with
          | none => rw [hr8] at hv; cases hv
          | some r8 =>
            rw [hr8, o_bind] at hv
            refine sW.call rfl rfl rfl rfl rfl (s230 haa hs7 hr8) ?_
            intro h9 hs9
            refine mW.br (g1 := (36, [some (.ref aa), some (.int p0)], [], (h9, q))) (g2 := (32, [some (.ref aa), some (.int p0)], [], (h9, q))) (c := r8 = 0) rfl (fun hc10 => ?_) (fun hc10 => ?_)
            · rw [if_pos hc10] at hv
              refine mW.sn 1 (g' := (37, [some (.ref aa), some (.int p0)], [.int 0], (h9, q))) rfl ?_
              cases hv
              exact sW.fin hs9 rfl
            · rw [if_neg hc10] at hv
              refine mW.sn 2 (g' := (37, [some (.ref aa), some (.int p0)], [.int 1], (h9, q))) rfl ?_
              cases hv
              exact sW.fin hs9 rfl
def b_limit (S : SS) (aa : Nat) (p0 : Int32) (p1 : Int64) (p2 : Int64) : Option (Int64) := (if p0 = (-1 : Int32) then some p1 else ((iget (S aa) p0).bind fun b2 => (if b2 = 0 then some p1 else ((r_number (S aa) p0).bind fun r4 => (if 0 ≤ (lg_cmp r4 0) then some (lmin r4 p2) else (if 0 ≤ (lg_cmp (r4 + p2) 0) then some (lmin (r4 + p2) p2) else some 0))))))
theorem s233 {S : SS} {aa : Nat} (haa : aa ∈ shA) {p0 : Int32} {p1 : Int64} {p2 : Int64} {v : Int64} (hs : cs h S) (hv : b_limit S aa p0 p1 p2 = some v) : mW (d + 1) mm233 (0, [some (.ref aa), some (.int p0), some (.long p1), none, some (.long p2), none, none, none], [], (h, q)) (mQ q S (some (.long v))) := by
  unfold b_limit at hv
  refine mW.sn 2 (g' := (2, [some (.ref aa), some (.int p0), some (.long p1), none, some (.long p2), none, none, none], [.int (-1), .int p0], (h, q))) rfl ?_
  refine mW.br (g1 := (11, [some (.ref aa), some (.int p0), some (.long p1), none, some (.long p2), none, none, none], [], (h, q))) (g2 := (5, [some (.ref aa), some (.int p0), some (.long p1), none, some (.long p2), none, none, none], [], (h, q))) (c := p0 = (-1 : Int32)) rfl (fun hc1 => ?_) (fun hc1 => ?_)
  · rw [if_pos hc1] at hv
    refine mW.sn 1 (g' := (12, [some (.ref aa), some (.int p0), some (.long p1), none, some (.long p2), none, none, none], [.long p1], (h, q))) rfl ?_
    cases hv
    exact sW.fin hs rfl
  · rw [if_neg hc1] at hv
    refine mW.sn 2 (g' := (7, [some (.ref aa), some (.int p0), some (.long p1), none, some (.long p2), none, none, none], [.int p0, .ref aa], (h, q))) rfl ?_
    cases hr2 : iget (S aa) p0 with
    | none => rw [hr2] at hv; cases hv
    | some b2 =>
      rw [hr2, o_bind] at hv
      refine sW.iald rfl hs haa hr2 ?_
      refine mW.br (g1 := (11, [some (.ref aa), some (.int p0), some (.long p1), none, some (.long p2), none, none, none], [], (h, q))) (g2 := (13, [some (.ref aa), some (.int p0), some (.long p1), none, some (.long p2), none, none, none], [], (h, q))) (c := b2 = 0) rfl (fun hc3 => ?_) (fun hc3 => ?_)
      · rw [if_pos hc3] at hv
        refine mW.sn 1 (g' := (12, [some (.ref aa), some (.int p0), some (.long p1), none, some (.long p2), none, none, none], [.long p1], (h, q))) rfl ?_
        cases hv
        exact sW.fin hs rfl
      · rw [if_neg hc3] at hv
        refine mW.sn 2 (g' := (15, [some (.ref aa), some (.int p0), some (.long p1), none, some (.long p2), none, none, none], [.int p0, .ref aa], (h, q))) rfl ?_
        cases hr4 : r_number (S aa) p0 with
        | none => rw [hr4] at hv; cases hv
        | some r4 =>
          rw [hr4, o_bind] at hv
          refine sW.call rfl rfl rfl rfl rfl (sW.of hs (x208 (hs.ar haa) hr4)) ?_
          intro h5 hs5
          refine mW.sn 4 (g' := (24, [some (.ref aa), some (.int p0), some (.long p1), none, some (.long p2), none, some (.long r4), none], [.int (lg_cmp r4 0)], (h5, q))) rfl ?_
          refine mW.br (g1 := (34, [some (.ref aa), some (.int p0), some (.long p1), none, some (.long p2), none, some (.long r4), none], [], (h5, q))) (g2 := (27, [some (.ref aa), some (.int p0), some (.long p1), none, some (.long p2), none, some (.long r4), none], [], (h5, q))) (c := 0 ≤ (lg_cmp r4 0)) rfl (fun hc6 => ?_) (fun hc6 => ?_)
          · rw [if_pos hc6] at hv
            refine mW.sn 3 (g' := (38, [some (.ref aa), some (.int p0), some (.long p1), none, some (.long p2), none, some (.long r4), none], [.int (lg_cmp r4 0)], (h5, q))) rfl ?_
            refine mW.yes (g1 := (45, [some (.ref aa), some (.int p0), some (.long p1), none, some (.long p2), none, some (.long r4), none], [], (h5, q))) (g2 := (41, [some (.ref aa), some (.int p0), some (.long p1), none, some (.long p2), none, some (.long r4), none], [], (h5, q))) (c := 0 ≤ (lg_cmp r4 0)) rfl hc6 ?_
            refine mW.sn 2 (g' := (49, [some (.ref aa), some (.int p0), some (.long p1), none, some (.long p2), none, some (.long r4), none], [.long p2, .long r4], (h5, q))) rfl ?_
            refine sW.call rfl rfl rfl rfl rfl (sW.of hs5 (x96 r4 p2)) ?_
            intro h7 hs7
            cases hv
            exact sW.fin hs7 rfl
          · rw [if_neg hc6] at hv
            refine mW.sn 7 (g' := (38, [some (.ref aa), some (.int p0), some (.long p1), none, some (.long p2), none, some (.long (r4 + p2)), none], [.int (lg_cmp (r4 + p2) 0)], (h5, q))) rfl ?_
            refine mW.br (g1 := (45, [some (.ref aa), some (.int p0), some (.long p1), none, some (.long p2), none, some (.long (r4 + p2)), none], [], (h5, q))) (g2 := (41, [some (.ref aa), some (.int p0), some (.long p1), none, some (.long p2), none, some (.long (r4 + p2)), none], [], (h5, q))) (c := 0 ≤ (lg_cmp (r4 + p2) 0)) rfl (fun hc8 => ?_) (fun hc8 => ?_)
            · rw [if_pos hc8] at hv
              refine mW.sn 2 (g' := (49, [some (.ref aa), some (.int p0), some (.long p1), none, some (.long p2), none, some (.long (r4 + p2)), none], [.long p2, .long (r4 + p2)], (h5, q))) rfl ?_
              refine sW.call rfl rfl rfl rfl rfl (sW.of hs5 (x96 (r4 + p2) p2)) ?_
              intro h9 hs9
              cases hv
              exact sW.fin hs9 rfl
            · rw [if_neg hc8] at hv
              refine mW.sn 2 (g' := (52, [some (.ref aa), some (.int p0), some (.long p1), none, some (.long p2), none, some (.long (r4 + p2)), none], [.long 0], (h5, q))) rfl ?_
              cases hv
              exact sW.fin hs5 rfl
def b_between_l7 (S : SS) (aa : Nat) : Nat → Int32 → Int32 → Option (Int32)
  | 0, _, _ => none
  | n + 1, l2, l3 => (if (rd S 78 18) ≤ l3 then some l2 else ((r_next (S aa) l3).bind fun r2 => b_between_l7 S aa n (l2 + 1) r2))
theorem b_between_l7_ok {S : SS} {aa : Nat} (haa : aa ∈ shA) : ∀ (n : Nat), ∀ (h : mH) (l2 : Int32) (l3 : Int32) (v : Int32), cs h S → b_between_l7 S aa n l2 l3 = some v → mW (d + 1) mm232 (7, [some (.ref 78), some (.ref aa), some (.int l2), some (.int l3)], [], (h, q)) (mQ q S (some (.int v))) := by
  intro n
  induction n with
  | zero => intro h l2 l3 v hs hv; cases hv
  | succ n ih =>
    intro h l2 l3 v hs hv
    unfold b_between_l7 at hv
    refine mW.sn 2 (g' := (9, [some (.ref 78), some (.ref aa), some (.int l2), some (.int l3)], [.ref 78, .int l3], (h, q))) rfl ?_
    refine sW.getI rfl hs o78 rfl rfl ?_
    refine mW.br (g1 := (27, [some (.ref 78), some (.ref aa), some (.int l2), some (.int l3)], [], (h, q))) (g2 := (15, [some (.ref 78), some (.ref aa), some (.int l2), some (.int l3)], [], (h, q))) (c := (rd S 78 18) ≤ l3) rfl (fun hc1 => ?_) (fun hc1 => ?_)
    · rw [if_pos hc1] at hv
      refine mW.sn 1 (g' := (28, [some (.ref 78), some (.ref aa), some (.int l2), some (.int l3)], [.int l2], (h, q))) rfl ?_
      cases hv
      exact sW.fin hs rfl
    · rw [if_neg hc1] at hv
      refine mW.sn 3 (g' := (20, [some (.ref 78), some (.ref aa), some (.int (l2 + 1)), some (.int l3)], [.int l3, .ref aa], (h, q))) rfl ?_
      cases hr2 : r_next (S aa) l3 with
      | none => rw [hr2] at hv; cases hv
      | some r2 =>
        rw [hr2, o_bind] at hv
        refine sW.call rfl rfl rfl rfl rfl (sW.of hs (x199 (hs.ar haa) hr2)) ?_
        intro h3 hs3
        refine mW.sn 2 (g' := (7, [some (.ref 78), some (.ref aa), some (.int (l2 + 1)), some (.int r2)], [], (h3, q))) rfl ?_
        exact ih _ _ _ _  hs3 hv
def b_between (S : SS) (aa : Nat) : Option (Int32) := b_between_l7 S aa 10000 0 (rd S 78 17)
theorem s232 {S : SS} {aa : Nat} (haa : aa ∈ shA) {v : Int32} (hs : cs h S) (hv : b_between S aa = some v) : mW (d + 1) mm232 (0, [some (.ref 78), some (.ref aa), none, none], [], (h, q)) (mQ q S (some (.int v))) := by
  unfold b_between at hv
  refine mW.sn 3 (g' := (3, [some (.ref 78), some (.ref aa), some (.int 0), none], [.ref 78], (h, q))) rfl ?_
  refine sW.getI rfl hs o78 rfl rfl ?_
  refine mW.sn 1 (g' := (7, [some (.ref 78), some (.ref aa), some (.int 0), some (.int (rd S 78 17))], [], (h, q))) rfl ?_
  exact b_between_l7_ok haa _ _ _ _ _  hs hv
def b_walk_l6 (S : SS) (aa : Nat) : Nat → Int64 → Int32 → Int64 → Option (Int32)
  | 0, _, _, _ => none
  | n + 1, l2, l4, l5 => (if 0 ≤ (lg_cmp l5 l2) then some l4 else ((r_next (S aa) l4).bind fun r2 => b_walk_l6 S aa n l2 r2 (l5 + 1)))
theorem b_walk_l6_ok {S : SS} {aa : Nat} (haa : aa ∈ shA) : ∀ (n : Nat), ∀ (h : mH) (l2 : Int64) (l4 : Int32) (l5 : Int64) (y1 : Int32) (v : Int32), cs h S → b_walk_l6 S aa n l2 l4 l5 = some v → mW (d + 1) mm234 (6, [some (.ref aa), some (.int y1), some (.long l2), none, some (.int l4), some (.long l5), none], [], (h, q)) (mQ q S (some (.int v))) := by
  intro n
  induction n with
  | zero => intro h l2 l4 l5 y1 v hs hv; cases hv
  | succ n ih =>
    intro h l2 l4 l5 y1 v hs hv
    unfold b_walk_l6 at hv
    refine mW.sn 3 (g' := (10, [some (.ref aa), some (.int y1), some (.long l2), none, some (.int l4), some (.long l5), none], [.int (lg_cmp l5 l2)], (h, q))) rfl ?_
    refine mW.br (g1 := (30, [some (.ref aa), some (.int y1), some (.long l2), none, some (.int l4), some (.long l5), none], [], (h, q))) (g2 := (13, [some (.ref aa), some (.int y1), some (.long l2), none, some (.int l4), some (.long l5), none], [], (h, q))) (c := 0 ≤ (lg_cmp l5 l2)) rfl (fun hc1 => ?_) (fun hc1 => ?_)
    · rw [if_pos hc1] at hv
      refine mW.sn 1 (g' := (32, [some (.ref aa), some (.int y1), some (.long l2), none, some (.int l4), some (.long l5), none], [.int l4], (h, q))) rfl ?_
      cases hv
      exact sW.fin hs rfl
    · rw [if_neg hc1] at hv
      refine mW.sn 2 (g' := (16, [some (.ref aa), some (.int y1), some (.long l2), none, some (.int l4), some (.long l5), none], [.int l4, .ref aa], (h, q))) rfl ?_
      cases hr2 : r_next (S aa) l4 with
      | none => rw [hr2] at hv; cases hv
      | some r2 =>
        rw [hr2, o_bind] at hv
        refine sW.call rfl rfl rfl rfl rfl (sW.of hs (x199 (hs.ar haa) hr2)) ?_
        intro h3 hs3
        refine mW.sn 6 (g' := (6, [some (.ref aa), some (.int y1), some (.long l2), none, some (.int r2), some (.long (l5 + 1)), none], [], (h3, q))) rfl ?_
        exact ih _ _ _ _ _ _  hs3 hv
def b_walk (S : SS) (aa : Nat) (p0 : Int32) (p1 : Int64) : Option (Int32) := b_walk_l6 S aa 10000 p1 p0 0
theorem s234 {S : SS} {aa : Nat} (haa : aa ∈ shA) {p0 : Int32} {p1 : Int64} {v : Int32} (hs : cs h S) (hv : b_walk S aa p0 p1 = some v) : mW (d + 1) mm234 (0, [some (.ref aa), some (.int p0), some (.long p1), none, none, none, none], [], (h, q)) (mQ q S (some (.int v))) := by
  unfold b_walk at hv
  refine mW.sn 4 (g' := (6, [some (.ref aa), some (.int p0), some (.long p1), none, some (.int p0), some (.long 0), none], [], (h, q))) rfl ?_
  exact b_walk_l6_ok haa _ _ _ _ _ _ _  hs hv
def b_narrow (S : SS) (aa : Nat) (ab : Nat) (p0 : Int32) (p1 : Int32) : Option (SS) := (if p0 = 0 then ((b_between S aa).bind fun r2 => ((r_named (S ab) (S 39) p1 0).bind fun r4 => ((b_limit S ab r4 0 r2.toInt64).bind fun r6 => ((r_named (S ab) (S 40) p1 0).bind fun r8 => ((b_limit S ab r8 r2.toInt64 r2.toInt64).bind fun r10 => ((b_walk S aa (rd S 78 17) r6).bind fun r13 => ((b_walk (wr S 78 17 r13) aa (rd S 78 17) (lmax r6 r10)).bind fun r16 => some (wr (wr S 78 17 r13) 78 18 r16)))))))) else ((r_named (S ab) (S 39) p1 0).bind fun r19 => ((b_limit S ab r19 0 (((rd S 78 18) - (rd S 78 17)).toInt64)).bind fun r21 => ((r_named (S ab) (S 40) p1 0).bind fun r23 => ((b_limit S ab r23 (((rd S 78 18) - (rd S 78 17)).toInt64) (((rd S 78 18) - (rd S 78 17)).toInt64)).bind fun r25 => some (wr (wr S 78 17 ((((rd S 78 17).toInt64) + r21).toInt32)) 78 18 ((((rd S 78 17).toInt64) + (lmax r21 r25)).toInt32)))))))
theorem s231 {S : SS} {aa : Nat} (haa : aa ∈ shA) {ab : Nat} (hab : ab ∈ shA) {p0 : Int32} {p1 : Int32} {v : SS} (hs : cs h S) (hv : b_narrow S aa ab p0 p1 = some v) : mW (d + 3) mm231 (0, [some (.ref 78), some (.ref aa), some (.int p0), some (.ref ab), some (.int p1), none, none, none, none, none, none], [], (h, q)) (mQ q v none) := by
  unfold b_narrow at hv
  refine mW.sn 1 (g' := (1, [some (.ref 78), some (.ref aa), some (.int p0), some (.ref ab), some (.int p1), none, none, none, none, none, none], [.int p0], (h, q))) rfl ?_
  refine mW.br (g1 := (16, [some (.ref 78), some (.ref aa), some (.int p0), some (.ref ab), some (.int p1), none, none, none, none, none, none], [], (h, q))) (g2 := (4, [some (.ref 78), some (.ref aa), some (.int p0), some (.ref ab), some (.int p1), none, none, none, none, none, none], [], (h, q))) (c := p0 = 0) rfl (fun hc1 => ?_) (fun hc1 => ?_)
  · rw [if_pos hc1] at hv
    refine mW.sn 2 (g' := (18, [some (.ref 78), some (.ref aa), some (.int p0), some (.ref ab), some (.int p1), none, none, none, none, none, none], [.ref aa, .ref 78], (h, q))) rfl ?_
    cases hr2 : b_between S aa with
    | none => rw [hr2] at hv; cases hv
    | some r2 =>
      rw [hr2, o_bind] at hv
      refine sW.call rfl rfl rfl rfl (hs.rcv o78) (s232 haa hs hr2) ?_
      intro h3 hs3
      refine mW.sn 6 (g' := (31, [some (.ref 78), some (.ref aa), some (.int p0), some (.ref ab), some (.int p1), some (.int r2), none, none, none, none, none], [.int 0, .ref 39, .int p1, .ref ab, .ref ab], (h3, q))) rfl ?_
      cases hr4 : r_named (S ab) (S 39) p1 0 with
      | none => rw [hr4] at hv; cases hv
      | some r4 =>
        rw [hr4, o_bind] at hv
        refine sW.call rfl rfl rfl rfl rfl (sW.of hs3 (x219 (hs3.ar hab) (hs3.ar (by decide)) hr4)) ?_
        intro h5 hs5
        refine mW.sn 3 (g' := (38, [some (.ref 78), some (.ref aa), some (.int p0), some (.ref ab), some (.int p1), some (.int r2), none, none, none, none, none], [.long r2.toInt64, .long 0, .int r4, .ref ab], (h5, q))) rfl ?_
        cases hr6 : b_limit S ab r4 0 r2.toInt64 with
        | none => rw [hr6] at hv; cases hv
        | some r6 =>
          rw [hr6, o_bind] at hv
          refine sW.call rfl rfl rfl rfl rfl (s233 hab hs5 hr6) ?_
          intro h7 hs7
          refine mW.sn 7 (g' := (53, [some (.ref 78), some (.ref aa), some (.int p0), some (.ref ab), some (.int p1), some (.int r2), some (.long r6), none, none, none, none], [.int 0, .ref 40, .int p1, .ref ab, .ref ab, .long r6], (h7, q))) rfl ?_
          cases hr8 : r_named (S ab) (S 40) p1 0 with
          | none => rw [hr8] at hv; cases hv
          | some r8 =>
            rw [hr8, o_bind] at hv
            refine sW.call rfl rfl rfl rfl rfl (sW.of hs7 (x219 (hs7.ar hab) (hs7.ar (by decide)) hr8)) ?_
            intro h9 hs9
            refine mW.sn 4 (g' := (62, [some (.ref 78), some (.ref aa), some (.int p0), some (.ref ab), some (.int p1), some (.int r2), some (.long r6), none, none, none, none], [.long r2.toInt64, .long r2.toInt64, .int r8, .ref ab, .long r6], (h9, q))) rfl ?_
            cases hr10 : b_limit S ab r8 r2.toInt64 r2.toInt64 with
            | none => rw [hr10] at hv; cases hv
            | some r10 =>
              rw [hr10, o_bind] at hv
              refine sW.call rfl rfl rfl rfl rfl (s233 hab hs9 hr10) ?_
              intro h11 hs11
              refine sW.call rfl rfl rfl rfl rfl (sW.of hs11 (x97 r6 r10)) ?_
              intro h12 hs12
              refine mW.sn 2 (g' := (71, [some (.ref 78), some (.ref aa), some (.int p0), some (.ref ab), some (.int p1), some (.int r2), some (.long r6), none, some (.long (lmax r6 r10)), none, none], [.ref 78], (h12, q))) rfl ?_
              refine sW.getI rfl hs12 o78 rfl rfl ?_
              refine mW.sn 3 (g' := (78, [some (.ref 78), some (.ref aa), some (.int p0), some (.ref ab), some (.int p1), some (.int r2), some (.long r6), none, some (.long (lmax r6 r10)), none, some (.int (rd S 78 17))], [.int p0, .ref 78], (h12, q))) rfl ?_
              refine mW.yes (g1 := (91, [some (.ref 78), some (.ref aa), some (.int p0), some (.ref ab), some (.int p1), some (.int r2), some (.long r6), none, some (.long (lmax r6 r10)), none, some (.int (rd S 78 17))], [.ref 78], (h12, q))) (g2 := (81, [some (.ref 78), some (.ref aa), some (.int p0), some (.ref ab), some (.int p1), some (.int r2), some (.long r6), none, some (.long (lmax r6 r10)), none, some (.int (rd S 78 17))], [.ref 78], (h12, q))) (c := p0 = 0) rfl hc1 ?_
              refine mW.sn 3 (g' := (96, [some (.ref 78), some (.ref aa), some (.int p0), some (.ref ab), some (.int p1), some (.int r2), some (.long r6), none, some (.long (lmax r6 r10)), none, some (.int (rd S 78 17))], [.long r6, .int (rd S 78 17), .ref aa, .ref 78], (h12, q))) rfl ?_
              cases hr13 : b_walk S aa (rd S 78 17) r6 with
              | none => rw [hr13] at hv; cases hv
              | some r13 =>
                rw [hr13, o_bind] at hv
                refine sW.call rfl rfl rfl rfl rfl (s234 haa hs12 hr13) ?_
                intro h14 hs14
                refine sW.putI rfl hs14 o78 rfl ?_
                intro h15 hs15
                refine mW.sn 2 (g' := (104, [some (.ref 78), some (.ref aa), some (.int p0), some (.ref ab), some (.int p1), some (.int r2), some (.long r6), none, some (.long (lmax r6 r10)), none, some (.int (rd S 78 17))], [.int p0, .ref 78], (h15, q))) rfl ?_
                refine mW.yes (g1 := (117, [some (.ref 78), some (.ref aa), some (.int p0), some (.ref ab), some (.int p1), some (.int r2), some (.long r6), none, some (.long (lmax r6 r10)), none, some (.int (rd S 78 17))], [.ref 78], (h15, q))) (g2 := (107, [some (.ref 78), some (.ref aa), some (.int p0), some (.ref ab), some (.int p1), some (.int r2), some (.long r6), none, some (.long (lmax r6 r10)), none, some (.int (rd S 78 17))], [.ref 78], (h15, q))) (c := p0 = 0) rfl hc1 ?_
                refine mW.sn 3 (g' := (122, [some (.ref 78), some (.ref aa), some (.int p0), some (.ref ab), some (.int p1), some (.int r2), some (.long r6), none, some (.long (lmax r6 r10)), none, some (.int (rd S 78 17))], [.long (lmax r6 r10), .int (rd S 78 17), .ref aa, .ref 78], (h15, q))) rfl ?_
                cases hr16 : b_walk (wr S 78 17 r13) aa (rd S 78 17) (lmax r6 r10) with
                | none => rw [hr16] at hv; cases hv
                | some r16 =>
                  rw [hr16, o_bind] at hv
                  refine sW.call rfl rfl rfl rfl rfl (s234 haa hs15 hr16) ?_
                  intro h17 hs17
                  refine sW.putI rfl hs17 o78 rfl ?_
                  intro h18 hs18
                  cases hv
                  exact sW.fin hs18 rfl
  · rw [if_neg hc1] at hv
    refine mW.sn 1 (g' := (5, [some (.ref 78), some (.ref aa), some (.int p0), some (.ref ab), some (.int p1), none, none, none, none, none, none], [.ref 78], (h, q))) rfl ?_
    refine sW.getI rfl hs o78 rfl rfl ?_
    refine mW.sn 1 (g' := (9, [some (.ref 78), some (.ref aa), some (.int p0), some (.ref ab), some (.int p1), none, none, none, none, none, none], [.ref 78, .int (rd S 78 18)], (h, q))) rfl ?_
    refine sW.getI rfl hs o78 rfl rfl ?_
    refine mW.sn 8 (g' := (31, [some (.ref 78), some (.ref aa), some (.int p0), some (.ref ab), some (.int p1), some (.int ((rd S 78 18) - (rd S 78 17))), none, none, none, none, none], [.int 0, .ref 39, .int p1, .ref ab, .ref ab], (h, q))) rfl ?_
    cases hr19 : r_named (S ab) (S 39) p1 0 with
    | none => rw [hr19] at hv; cases hv
    | some r19 =>
      rw [hr19, o_bind] at hv
      refine sW.call rfl rfl rfl rfl rfl (sW.of hs (x219 (hs.ar hab) (hs.ar (by decide)) hr19)) ?_
      intro h20 hs20
      refine mW.sn 3 (g' := (38, [some (.ref 78), some (.ref aa), some (.int p0), some (.ref ab), some (.int p1), some (.int ((rd S 78 18) - (rd S 78 17))), none, none, none, none, none], [.long (((rd S 78 18) - (rd S 78 17)).toInt64), .long 0, .int r19, .ref ab], (h20, q))) rfl ?_
      cases hr21 : b_limit S ab r19 0 (((rd S 78 18) - (rd S 78 17)).toInt64) with
      | none => rw [hr21] at hv; cases hv
      | some r21 =>
        rw [hr21, o_bind] at hv
        refine sW.call rfl rfl rfl rfl rfl (s233 hab hs20 hr21) ?_
        intro h22 hs22
        refine mW.sn 7 (g' := (53, [some (.ref 78), some (.ref aa), some (.int p0), some (.ref ab), some (.int p1), some (.int ((rd S 78 18) - (rd S 78 17))), some (.long r21), none, none, none, none], [.int 0, .ref 40, .int p1, .ref ab, .ref ab, .long r21], (h22, q))) rfl ?_
        cases hr23 : r_named (S ab) (S 40) p1 0 with
        | none => rw [hr23] at hv; cases hv
        | some r23 =>
          rw [hr23, o_bind] at hv
          refine sW.call rfl rfl rfl rfl rfl (sW.of hs22 (x219 (hs22.ar hab) (hs22.ar (by decide)) hr23)) ?_
          intro h24 hs24
          refine mW.sn 4 (g' := (62, [some (.ref 78), some (.ref aa), some (.int p0), some (.ref ab), some (.int p1), some (.int ((rd S 78 18) - (rd S 78 17))), some (.long r21), none, none, none, none], [.long (((rd S 78 18) - (rd S 78 17)).toInt64), .long (((rd S 78 18) - (rd S 78 17)).toInt64), .int r23, .ref ab, .long r21], (h24, q))) rfl ?_
          cases hr25 : b_limit S ab r23 (((rd S 78 18) - (rd S 78 17)).toInt64) (((rd S 78 18) - (rd S 78 17)).toInt64) with
          | none => rw [hr25] at hv; cases hv
          | some r25 =>
            rw [hr25, o_bind] at hv
            refine sW.call rfl rfl rfl rfl rfl (s233 hab hs24 hr25) ?_
            intro h26 hs26
            refine sW.call rfl rfl rfl rfl rfl (sW.of hs26 (x97 r21 r25)) ?_
            intro h27 hs27
            refine mW.sn 2 (g' := (71, [some (.ref 78), some (.ref aa), some (.int p0), some (.ref ab), some (.int p1), some (.int ((rd S 78 18) - (rd S 78 17))), some (.long r21), none, some (.long (lmax r21 r25)), none, none], [.ref 78], (h27, q))) rfl ?_
            refine sW.getI rfl hs27 o78 rfl rfl ?_
            refine mW.sn 3 (g' := (78, [some (.ref 78), some (.ref aa), some (.int p0), some (.ref ab), some (.int p1), some (.int ((rd S 78 18) - (rd S 78 17))), some (.long r21), none, some (.long (lmax r21 r25)), none, some (.int (rd S 78 17))], [.int p0, .ref 78], (h27, q))) rfl ?_
            refine mW.no (g1 := (91, [some (.ref 78), some (.ref aa), some (.int p0), some (.ref ab), some (.int p1), some (.int ((rd S 78 18) - (rd S 78 17))), some (.long r21), none, some (.long (lmax r21 r25)), none, some (.int (rd S 78 17))], [.ref 78], (h27, q))) (g2 := (81, [some (.ref 78), some (.ref aa), some (.int p0), some (.ref ab), some (.int p1), some (.int ((rd S 78 18) - (rd S 78 17))), some (.long r21), none, some (.long (lmax r21 r25)), none, some (.int (rd S 78 17))], [.ref 78], (h27, q))) (c := p0 = 0) rfl hc1 ?_
            refine mW.sn 6 (g' := (99, [some (.ref 78), some (.ref aa), some (.int p0), some (.ref ab), some (.int p1), some (.int ((rd S 78 18) - (rd S 78 17))), some (.long r21), none, some (.long (lmax r21 r25)), none, some (.int (rd S 78 17))], [.int ((((rd S 78 17).toInt64) + r21).toInt32), .ref 78], (h27, q))) rfl ?_
            refine sW.putI rfl hs27 o78 rfl ?_
            intro h28 hs28
            refine mW.sn 2 (g' := (104, [some (.ref 78), some (.ref aa), some (.int p0), some (.ref ab), some (.int p1), some (.int ((rd S 78 18) - (rd S 78 17))), some (.long r21), none, some (.long (lmax r21 r25)), none, some (.int (rd S 78 17))], [.int p0, .ref 78], (h28, q))) rfl ?_
            refine mW.no (g1 := (117, [some (.ref 78), some (.ref aa), some (.int p0), some (.ref ab), some (.int p1), some (.int ((rd S 78 18) - (rd S 78 17))), some (.long r21), none, some (.long (lmax r21 r25)), none, some (.int (rd S 78 17))], [.ref 78], (h28, q))) (g2 := (107, [some (.ref 78), some (.ref aa), some (.int p0), some (.ref ab), some (.int p1), some (.int ((rd S 78 18) - (rd S 78 17))), some (.long r21), none, some (.long (lmax r21 r25)), none, some (.int (rd S 78 17))], [.ref 78], (h28, q))) (c := p0 = 0) rfl hc1 ?_
            refine mW.sn 6 (g' := (125, [some (.ref 78), some (.ref aa), some (.int p0), some (.ref ab), some (.int p1), some (.int ((rd S 78 18) - (rd S 78 17))), some (.long r21), none, some (.long (lmax r21 r25)), none, some (.int (rd S 78 17))], [.int ((((rd S 78 17).toInt64) + (lmax r21 r25)).toInt32), .ref 78], (h28, q))) rfl ?_
            refine sW.putI rfl hs28 o78 rfl ?_
            intro h29 hs29
            cases hv
            exact sW.fin hs29 rfl
def b_place (S : SS) (aa : Nat) (p0 : Int64) : Option (Int32) := ((b_between S aa).bind fun r1 => (if 0 ≤ (lg_cmp p0 0) then (if (lg_cmp p0 0) < 0 then some (-1) else (if (lg_cmp p0 r1.toInt64) < 0 then ((b_walk S aa (rd S 78 17) p0).bind fun r6 => some r6) else some (-1))) else (if (lg_cmp (p0 + r1.toInt64) 0) < 0 then some (-1) else (if (lg_cmp (p0 + r1.toInt64) r1.toInt64) < 0 then ((b_walk S aa (rd S 78 17) (p0 + r1.toInt64)).bind fun r10 => some r10) else some (-1)))))
theorem s235 {S : SS} {aa : Nat} (haa : aa ∈ shA) {p0 : Int64} {v : Int32} (hs : cs h S) (hv : b_place S aa p0 = some v) : mW (d + 2) mm235 (0, [some (.ref 78), some (.ref aa), some (.long p0), none, none, none, none], [], (h, q)) (mQ q S (some (.int v))) := by
  unfold b_place at hv
  refine mW.sn 2 (g' := (2, [some (.ref 78), some (.ref aa), some (.long p0), none, none, none, none], [.ref aa, .ref 78], (h, q))) rfl ?_
  cases hr1 : b_between S aa with
  | none => rw [hr1] at hv; cases hv
  | some r1 =>
    rw [hr1, o_bind] at hv
    refine sW.call rfl rfl rfl rfl (hs.rcv o78) (s232 haa hs hr1) ?_
    intro h2 hs2
    refine mW.sn 4 (g' := (10, [some (.ref 78), some (.ref aa), some (.long p0), none, some (.int r1), none, none], [.int (lg_cmp p0 0)], (h2, q))) rfl ?_
    refine mW.br (g1 := (21, [some (.ref 78), some (.ref aa), some (.long p0), none, some (.int r1), none, none], [], (h2, q))) (g2 := (13, [some (.ref 78), some (.ref aa), some (.long p0), none, some (.int r1), none, none], [], (h2, q))) (c := 0 ≤ (lg_cmp p0 0)) rfl (fun hc3 => ?_) (fun hc3 => ?_)
    · rw [if_pos hc3] at hv
      refine mW.sn 5 (g' := (28, [some (.ref 78), some (.ref aa), some (.long p0), none, some (.int r1), some (.long p0), none], [.int (lg_cmp p0 0)], (h2, q))) rfl ?_
      refine mW.br (g1 := (40, [some (.ref 78), some (.ref aa), some (.long p0), none, some (.int r1), some (.long p0), none], [], (h2, q))) (g2 := (31, [some (.ref 78), some (.ref aa), some (.long p0), none, some (.int r1), some (.long p0), none], [], (h2, q))) (c := (lg_cmp p0 0) < 0) rfl (fun hc4 => ?_) (fun hc4 => ?_)
      · rw [if_pos hc4] at hv
        refine mW.sn 2 (g' := (54, [some (.ref 78), some (.ref aa), some (.long p0), none, some (.int r1), some (.long p0), none], [.int (-1)], (h2, q))) rfl ?_
        cases hv
        exact sW.fin hs2 rfl
      · rw [if_neg hc4] at hv
        refine mW.sn 4 (g' := (37, [some (.ref 78), some (.ref aa), some (.long p0), none, some (.int r1), some (.long p0), none], [.int (lg_cmp p0 r1.toInt64)], (h2, q))) rfl ?_
        refine mW.br (g1 := (44, [some (.ref 78), some (.ref aa), some (.long p0), none, some (.int r1), some (.long p0), none], [], (h2, q))) (g2 := (40, [some (.ref 78), some (.ref aa), some (.long p0), none, some (.int r1), some (.long p0), none], [], (h2, q))) (c := (lg_cmp p0 r1.toInt64) < 0) rfl (fun hc5 => ?_) (fun hc5 => ?_)
        · rw [if_pos hc5] at hv
          refine mW.sn 2 (g' := (46, [some (.ref 78), some (.ref aa), some (.long p0), none, some (.int r1), some (.long p0), none], [.ref 78, .ref aa], (h2, q))) rfl ?_
          refine sW.getI rfl hs2 o78 rfl rfl ?_
          refine mW.sn 1 (g' := (51, [some (.ref 78), some (.ref aa), some (.long p0), none, some (.int r1), some (.long p0), none], [.long p0, .int (rd S 78 17), .ref aa], (h2, q))) rfl ?_
          cases hr6 : b_walk S aa (rd S 78 17) p0 with
          | none => rw [hr6] at hv; cases hv
          | some r6 =>
            rw [hr6, o_bind] at hv
            refine sW.call rfl rfl rfl rfl rfl (s234 haa hs2 hr6) ?_
            intro h7 hs7
            cases hv
            exact sW.fin hs7 rfl
        · rw [if_neg hc5] at hv
          refine mW.sn 2 (g' := (54, [some (.ref 78), some (.ref aa), some (.long p0), none, some (.int r1), some (.long p0), none], [.int (-1)], (h2, q))) rfl ?_
          cases hv
          exact sW.fin hs2 rfl
    · rw [if_neg hc3] at hv
      refine mW.sn 9 (g' := (28, [some (.ref 78), some (.ref aa), some (.long p0), none, some (.int r1), some (.long (p0 + r1.toInt64)), none], [.int (lg_cmp (p0 + r1.toInt64) 0)], (h2, q))) rfl ?_
      refine mW.br (g1 := (40, [some (.ref 78), some (.ref aa), some (.long p0), none, some (.int r1), some (.long (p0 + r1.toInt64)), none], [], (h2, q))) (g2 := (31, [some (.ref 78), some (.ref aa), some (.long p0), none, some (.int r1), some (.long (p0 + r1.toInt64)), none], [], (h2, q))) (c := (lg_cmp (p0 + r1.toInt64) 0) < 0) rfl (fun hc8 => ?_) (fun hc8 => ?_)
      · rw [if_pos hc8] at hv
        refine mW.sn 2 (g' := (54, [some (.ref 78), some (.ref aa), some (.long p0), none, some (.int r1), some (.long (p0 + r1.toInt64)), none], [.int (-1)], (h2, q))) rfl ?_
        cases hv
        exact sW.fin hs2 rfl
      · rw [if_neg hc8] at hv
        refine mW.sn 4 (g' := (37, [some (.ref 78), some (.ref aa), some (.long p0), none, some (.int r1), some (.long (p0 + r1.toInt64)), none], [.int (lg_cmp (p0 + r1.toInt64) r1.toInt64)], (h2, q))) rfl ?_
        refine mW.br (g1 := (44, [some (.ref 78), some (.ref aa), some (.long p0), none, some (.int r1), some (.long (p0 + r1.toInt64)), none], [], (h2, q))) (g2 := (40, [some (.ref 78), some (.ref aa), some (.long p0), none, some (.int r1), some (.long (p0 + r1.toInt64)), none], [], (h2, q))) (c := (lg_cmp (p0 + r1.toInt64) r1.toInt64) < 0) rfl (fun hc9 => ?_) (fun hc9 => ?_)
        · rw [if_pos hc9] at hv
          refine mW.sn 2 (g' := (46, [some (.ref 78), some (.ref aa), some (.long p0), none, some (.int r1), some (.long (p0 + r1.toInt64)), none], [.ref 78, .ref aa], (h2, q))) rfl ?_
          refine sW.getI rfl hs2 o78 rfl rfl ?_
          refine mW.sn 1 (g' := (51, [some (.ref 78), some (.ref aa), some (.long p0), none, some (.int r1), some (.long (p0 + r1.toInt64)), none], [.long (p0 + r1.toInt64), .int (rd S 78 17), .ref aa], (h2, q))) rfl ?_
          cases hr10 : b_walk S aa (rd S 78 17) (p0 + r1.toInt64) with
          | none => rw [hr10] at hv; cases hv
          | some r10 =>
            rw [hr10, o_bind] at hv
            refine sW.call rfl rfl rfl rfl rfl (s234 haa hs2 hr10) ?_
            intro h11 hs11
            cases hv
            exact sW.fin hs11 rfl
        · rw [if_neg hc9] at hv
          refine mW.sn 2 (g' := (54, [some (.ref 78), some (.ref aa), some (.long p0), none, some (.int r1), some (.long (p0 + r1.toInt64)), none], [.int (-1)], (h2, q))) rfl ?_
          cases hv
          exact sW.fin hs2 rfl
def b_cells_l3 (aa : Nat) : Nat → SS → Int32 → Int32 → Option (SS)
  | 0, _, _, _ => none
  | n + 1, S, l3, l4 => (if l3 ≤ l4 then some S else ((iget (S aa) l4).bind fun b2 => ((q_put S b2).bind fun r3 => b_cells_l3 aa n r3 l3 (l4 + 1))))
theorem b_cells_l3_ok {aa : Nat} (haa : aa ∈ shA) : ∀ (n : Nat), ∀ (h : mH) (S : SS) (l3 : Int32) (l4 : Int32) (y2 : Int32) (v : SS), cs h S → b_cells_l3 aa n S l3 l4 = some v → mW (d + 1) mm236 (3, [some (.ref 78), some (.ref aa), some (.int y2), some (.int l3), some (.int l4)], [], (h, q)) (mQ q v none) := by
  intro n
  induction n with
  | zero => intro h S l3 l4 y2 v hs hv; cases hv
  | succ n ih =>
    intro h S l3 l4 y2 v hs hv
    unfold b_cells_l3 at hv
    refine mW.sn 2 (g' := (6, [some (.ref 78), some (.ref aa), some (.int y2), some (.int l3), some (.int l4)], [.int l3, .int l4], (h, q))) rfl ?_
    refine mW.br (g1 := (26, [some (.ref 78), some (.ref aa), some (.int y2), some (.int l3), some (.int l4)], [], (h, q))) (g2 := (9, [some (.ref 78), some (.ref aa), some (.int y2), some (.int l3), some (.int l4)], [], (h, q))) (c := l3 ≤ l4) rfl (fun hc1 => ?_) (fun hc1 => ?_)
    · rw [if_pos hc1] at hv
      cases hv
      exact sW.fin hs rfl
    · rw [if_neg hc1] at hv
      refine mW.sn 1 (g' := (10, [some (.ref 78), some (.ref aa), some (.int y2), some (.int l3), some (.int l4)], [.ref 78], (h, q))) rfl ?_
      refine sW.getR rfl hs o78 rfl rfl ?_
      refine mW.sn 2 (g' := (16, [some (.ref 78), some (.ref aa), some (.int y2), some (.int l3), some (.int l4)], [.int l4, .ref aa, .ref 90], (h, q))) rfl ?_
      cases hr2 : iget (S aa) l4 with
      | none => rw [hr2] at hv; cases hv
      | some b2 =>
        rw [hr2, o_bind] at hv
        refine sW.iald rfl hs haa hr2 ?_
        cases hr3 : q_put S b2 with
        | none => rw [hr3] at hv; cases hv
        | some r3 =>
          rw [hr3, o_bind] at hv
          refine sW.call rfl rfl rfl rfl (hs.rcv o90) (s175 hs hr3) ?_
          intro h4 hs4
          refine mW.sn 2 (g' := (3, [some (.ref 78), some (.ref aa), some (.int y2), some (.int l3), some (.int (l4 + 1))], [], (h4, q))) rfl ?_
          exact ih _ _ _ _ _ _  hs4 hv
def b_cells (S : SS) (aa : Nat) (p0 : Int32) (p1 : Int32) : Option (SS) := b_cells_l3 aa 10000 S p1 p0
theorem s236 {S : SS} {aa : Nat} (haa : aa ∈ shA) {p0 : Int32} {p1 : Int32} {v : SS} (hs : cs h S) (hv : b_cells S aa p0 p1 = some v) : mW (d + 1) mm236 (0, [some (.ref 78), some (.ref aa), some (.int p0), some (.int p1), none], [], (h, q)) (mQ q v none) := by
  unfold b_cells at hv
  refine mW.sn 2 (g' := (3, [some (.ref 78), some (.ref aa), some (.int p0), some (.int p1), some (.int p0)], [], (h, q))) rfl ?_
  exact b_cells_l3_ok haa _ _ _ _ _ _ _  hs hv
def b_getv_l208 (aa : Nat) (ab : Nat) (k19 : SS → Int32 → Int32 → Option (SS)) (S : SS) (l3 : Int32) : Option (SS) := (if l3 = (-1 : Int32) then ((q_simple S 0).bind fun r8 => some r8) else ((iget (S aa) l3).bind fun b10 => ((q_open S b10).bind fun r11 => ((b_cells r11.1 aa (rd r11.1 78 17) (rd r11.1 78 18)).bind fun r13 => ((q_close r13 r11.2).bind fun r15 => some r15)))))
theorem b_getv_l208_ok {aa : Nat} (haa : aa ∈ shA) {ab : Nat} (hab : ab ∈ shA) {k19 : SS → Int32 → Int32 → Option (SS)} (hk19 : ∀ (h : mH) (S : SS) (l3 : Int32) (l4 : Int32) (x5 : Option Value) (x6 : Option Value) (v : SS), cs h S → k19 S l3 l4 = some v → mW (d + 4) mm228 (19, [some (.ref 78), some (.ref aa), some (.ref ab), some (.int l3), some (.int l4), x5, x6], [], (h, q)) (mQ q v none)) : ∀ (h : mH) (S : SS) (l3 : Int32) (y2 : Nat) (y4 : Int32) (x5 : Option Value) (x6 : Option Value) (v : SS), cs h S → b_getv_l208 aa ab k19 S l3 = some v → mW (d + 4) mm228 (208, [some (.ref 78), some (.ref aa), some (.ref y2), some (.int l3), some (.int y4), x5, x6], [], (h, q)) (mQ q v none) := by
  intro h S l3 y2 y4 x5 x6 v hs hv
  unfold b_getv_l208 at hv
  refine mW.sn 2 (g' := (210, [some (.ref 78), some (.ref aa), some (.ref y2), some (.int l3), some (.int y4), x5, x6], [.int (-1), .int l3], (h, q))) rfl ?_
  refine mW.br (g1 := (213, [some (.ref 78), some (.ref aa), some (.ref y2), some (.int l3), some (.int y4), x5, x6], [], (h, q))) (g2 := (222, [some (.ref 78), some (.ref aa), some (.ref y2), some (.int l3), some (.int y4), x5, x6], [], (h, q))) (c := l3 = (-1 : Int32)) rfl (fun hc7 => ?_) (fun hc7 => ?_)
  · rw [if_pos hc7] at hv
    refine mW.sn 1 (g' := (214, [some (.ref 78), some (.ref aa), some (.ref y2), some (.int l3), some (.int y4), x5, x6], [.ref 78], (h, q))) rfl ?_
    refine sW.getR rfl hs o78 rfl rfl ?_
    refine mW.sn 1 (g' := (218, [some (.ref 78), some (.ref aa), some (.ref y2), some (.int l3), some (.int y4), x5, x6], [.int 0, .ref 90], (h, q))) rfl ?_
    cases hr8 : q_simple S 0 with
    | none => rw [hr8] at hv; cases hv
    | some r8 =>
      rw [hr8, o_bind] at hv
      refine sW.call rfl rfl rfl rfl (hs.rcv o90) (s173 hs hr8) ?_
      intro h9 hs9
      cases hv
      exact sW.fin hs9 rfl
  · rw [if_neg hc7] at hv
    refine mW.sn 1 (g' := (223, [some (.ref 78), some (.ref aa), some (.ref y2), some (.int l3), some (.int y4), x5, x6], [.ref 78], (h, q))) rfl ?_
    refine sW.getR rfl hs o78 rfl rfl ?_
    refine mW.sn 2 (g' := (228, [some (.ref 78), some (.ref aa), some (.ref y2), some (.int l3), some (.int y4), x5, x6], [.int l3, .ref aa, .ref 90], (h, q))) rfl ?_
    cases hr10 : iget (S aa) l3 with
    | none => rw [hr10] at hv; cases hv
    | some b10 =>
      rw [hr10, o_bind] at hv
      refine sW.iald rfl hs haa hr10 ?_
      cases hr11 : q_open S b10 with
      | none => rw [hr11] at hv; cases hv
      | some r11 =>
        rw [hr11, o_bind] at hv
        refine sW.call rfl rfl rfl rfl (hs.rcv o90) (s174 hs hr11) ?_
        intro h12 hs12
        refine mW.sn 4 (g' := (237, [some (.ref 78), some (.ref aa), some (.ref y2), some (.int l3), some (.int r11.2), x5, x6], [.ref 78, .ref aa, .ref 78], (h12, q))) rfl ?_
        refine sW.getI rfl hs12 o78 rfl rfl ?_
        refine mW.sn 1 (g' := (241, [some (.ref 78), some (.ref aa), some (.ref y2), some (.int l3), some (.int r11.2), x5, x6], [.ref 78, .int (rd r11.1 78 17), .ref aa, .ref 78], (h12, q))) rfl ?_
        refine sW.getI rfl hs12 o78 rfl rfl ?_
        cases hr13 : b_cells r11.1 aa (rd r11.1 78 17) (rd r11.1 78 18) with
        | none => rw [hr13] at hv; cases hv
        | some r13 =>
          rw [hr13, o_bind] at hv
          refine sW.call rfl rfl rfl rfl (hs12.rcv o78) (s236 haa hs12 hr13) ?_
          intro h14 hs14
          refine mW.sn 1 (g' := (248, [some (.ref 78), some (.ref aa), some (.ref y2), some (.int l3), some (.int r11.2), x5, x6], [.ref 78], (h14, q))) rfl ?_
          refine sW.getR rfl hs14 o78 rfl rfl ?_
          refine mW.sn 1 (g' := (253, [some (.ref 78), some (.ref aa), some (.ref y2), some (.int l3), some (.int r11.2), x5, x6], [.int r11.2, .ref 90], (h14, q))) rfl ?_
          cases hr15 : q_close r13 r11.2 with
          | none => rw [hr15] at hv; cases hv
          | some r15 =>
            rw [hr15, o_bind] at hv
            refine sW.call rfl rfl rfl rfl (hs14.rcv o90) (s176 hs14 hr15) ?_
            intro h16 hs16
            cases hv
            exact sW.fin hs16 rfl
def b_getv_l173 (aa : Nat) (ab : Nat) (k19 : SS → Int32 → Int32 → Option (SS)) (S : SS) (l3 : Int32) (l4 : Int32) : Option (SS) := (if l3 = (-1 : Int32) then ((r_next (S ab) l4).bind fun r32 => k19 S l3 r32) else ((r_next ((wr S 78 17 (l3 + 2)) aa) l3).bind fun r35 => ((r_next ((wr (wr S 78 17 (l3 + 2)) 78 18 r35) ab) l4).bind fun r38 => k19 (wr (wr S 78 17 (l3 + 2)) 78 18 r35) l3 r38)))
theorem b_getv_l173_ok {aa : Nat} (haa : aa ∈ shA) {ab : Nat} (hab : ab ∈ shA) {k19 : SS → Int32 → Int32 → Option (SS)} (hk19 : ∀ (h : mH) (S : SS) (l3 : Int32) (l4 : Int32) (x5 : Option Value) (x6 : Option Value) (v : SS), cs h S → k19 S l3 l4 = some v → mW (d + 4) mm228 (19, [some (.ref 78), some (.ref aa), some (.ref ab), some (.int l3), some (.int l4), x5, x6], [], (h, q)) (mQ q v none)) : ∀ (h : mH) (S : SS) (l3 : Int32) (l4 : Int32) (y5 : Int32) (y6 : Int32) (v : SS), cs h S → b_getv_l173 aa ab k19 S l3 l4 = some v → mW (d + 4) mm228 (173, [some (.ref 78), some (.ref aa), some (.ref ab), some (.int l3), some (.int l4), some (.int y5), some (.int y6)], [], (h, q)) (mQ q v none) := by
  intro h S l3 l4 y5 y6 v hs hv
  unfold b_getv_l173 at hv
  refine mW.sn 2 (g' := (175, [some (.ref 78), some (.ref aa), some (.ref ab), some (.int l3), some (.int l4), some (.int y5), some (.int y6)], [.int (-1), .int l3], (h, q))) rfl ?_
  refine mW.br (g1 := (178, [some (.ref 78), some (.ref aa), some (.ref ab), some (.int l3), some (.int l4), some (.int y5), some (.int y6)], [], (h, q))) (g2 := (181, [some (.ref 78), some (.ref aa), some (.ref ab), some (.int l3), some (.int l4), some (.int y5), some (.int y6)], [], (h, q))) (c := l3 = (-1 : Int32)) rfl (fun hc31 => ?_) (fun hc31 => ?_)
  · rw [if_pos hc31] at hv
    refine mW.sn 3 (g' := (200, [some (.ref 78), some (.ref aa), some (.ref ab), some (.int l3), some (.int l4), some (.int y5), some (.int y6)], [.int l4, .ref ab], (h, q))) rfl ?_
    cases hr32 : r_next (S ab) l4 with
    | none => rw [hr32] at hv; cases hv
    | some r32 =>
      rw [hr32, o_bind] at hv
      refine sW.call rfl rfl rfl rfl rfl (sW.of hs (x199 (hs.ar hab) hr32)) ?_
      intro h33 hs33
      refine mW.sn 2 (g' := (19, [some (.ref 78), some (.ref aa), some (.ref ab), some (.int l3), some (.int r32), some (.int y5), some (.int y6)], [], (h33, q))) rfl ?_
      exact hk19 _ _ _ _ _ _ _  hs33 hv
  · rw [if_neg hc31] at hv
    refine mW.sn 4 (g' := (185, [some (.ref 78), some (.ref aa), some (.ref ab), some (.int l3), some (.int l4), some (.int y5), some (.int y6)], [.int (l3 + 2), .ref 78], (h, q))) rfl ?_
    refine sW.putI rfl hs o78 rfl ?_
    intro h34 hs34
    refine mW.sn 3 (g' := (191, [some (.ref 78), some (.ref aa), some (.ref ab), some (.int l3), some (.int l4), some (.int y5), some (.int y6)], [.int l3, .ref aa, .ref 78], (h34, q))) rfl ?_
    cases hr35 : r_next ((wr S 78 17 (l3 + 2)) aa) l3 with
    | none => rw [hr35] at hv; cases hv
    | some r35 =>
      rw [hr35, o_bind] at hv
      refine sW.call rfl rfl rfl rfl rfl (sW.of hs34 (x199 (hs34.ar haa) hr35)) ?_
      intro h36 hs36
      refine sW.putI rfl hs36 o78 rfl ?_
      intro h37 hs37
      refine mW.sn 2 (g' := (200, [some (.ref 78), some (.ref aa), some (.ref ab), some (.int l3), some (.int l4), some (.int y5), some (.int y6)], [.int l4, .ref ab], (h37, q))) rfl ?_
      cases hr38 : r_next ((wr (wr S 78 17 (l3 + 2)) 78 18 r35) ab) l4 with
      | none => rw [hr38] at hv; cases hv
      | some r38 =>
        rw [hr38, o_bind] at hv
        refine sW.call rfl rfl rfl rfl rfl (sW.of hs37 (x199 (hs37.ar hab) hr38)) ?_
        intro h39 hs39
        refine mW.sn 2 (g' := (19, [some (.ref 78), some (.ref aa), some (.ref ab), some (.int l3), some (.int r38), some (.int y5), some (.int y6)], [], (h39, q))) rfl ?_
        exact hk19 _ _ _ _ _ _ _  hs39 hv
def b_getv_l112 (aa : Nat) (ab : Nat) (k19 : SS → Int32 → Int32 → Option (SS)) (S : SS) (l3 : Int32) (l4 : Int32) (l5 : Int32) (l6 : Int32) : Option (SS) := ((iget (S ab) l4).bind fun b26 => (if b26 = (4 : Int32) then (if l5 = (6 : Int32) then ((r_named (S aa) (S ab) l3 l4).bind fun r29 => b_getv_l173 aa ab k19 S r29 l4) else (if b26 = (3 : Int32) then (if l6 = 0 then ((b_refuse S 1).bind fun r42 => some r42) else ((r_number (S ab) l4).bind fun r44 => ((b_place S aa r44).bind fun r46 => b_getv_l173 aa ab k19 S r46 l4))) else ((b_refuse S 1).bind fun r48 => some r48))) else (if b26 = (3 : Int32) then (if l6 = 0 then ((b_refuse S 1).bind fun r52 => some r52) else ((r_number (S ab) l4).bind fun r54 => ((b_place S aa r54).bind fun r56 => b_getv_l173 aa ab k19 S r56 l4))) else ((b_refuse S 1).bind fun r58 => some r58))))
theorem b_getv_l112_ok {aa : Nat} (haa : aa ∈ shA) {ab : Nat} (hab : ab ∈ shA) {k19 : SS → Int32 → Int32 → Option (SS)} (hk19 : ∀ (h : mH) (S : SS) (l3 : Int32) (l4 : Int32) (x5 : Option Value) (x6 : Option Value) (v : SS), cs h S → k19 S l3 l4 = some v → mW (d + 4) mm228 (19, [some (.ref 78), some (.ref aa), some (.ref ab), some (.int l3), some (.int l4), x5, x6], [], (h, q)) (mQ q v none)) : ∀ (h : mH) (S : SS) (l3 : Int32) (l4 : Int32) (l5 : Int32) (l6 : Int32) (v : SS), cs h S → b_getv_l112 aa ab k19 S l3 l4 l5 l6 = some v → mW (d + 4) mm228 (112, [some (.ref 78), some (.ref aa), some (.ref ab), some (.int l3), some (.int l4), some (.int l5), some (.int l6)], [], (h, q)) (mQ q v none) := by
  intro h S l3 l4 l5 l6 v hs hv
  unfold b_getv_l112 at hv
  refine mW.sn 2 (g' := (115, [some (.ref 78), some (.ref aa), some (.ref ab), some (.int l3), some (.int l4), some (.int l5), some (.int l6)], [.int l4, .ref ab], (h, q))) rfl ?_
  cases hr26 : iget (S ab) l4 with
  | none => rw [hr26] at hv; cases hv
  | some b26 =>
    rw [hr26, o_bind] at hv
    refine sW.iald rfl hs hab hr26 ?_
    refine mW.sn 1 (g' := (117, [some (.ref 78), some (.ref aa), some (.ref ab), some (.int l3), some (.int l4), some (.int l5), some (.int l6)], [.int 4, .int b26], (h, q))) rfl ?_
    refine mW.br (g1 := (120, [some (.ref 78), some (.ref aa), some (.ref ab), some (.int l3), some (.int l4), some (.int l5), some (.int l6)], [], (h, q))) (g2 := (139, [some (.ref 78), some (.ref aa), some (.ref ab), some (.int l3), some (.int l4), some (.int l5), some (.int l6)], [], (h, q))) (c := b26 = (4 : Int32)) rfl (fun hc27 => ?_) (fun hc27 => ?_)
    · rw [if_pos hc27] at hv
      refine mW.sn 2 (g' := (124, [some (.ref 78), some (.ref aa), some (.ref ab), some (.int l3), some (.int l4), some (.int l5), some (.int l6)], [.int 6, .int l5], (h, q))) rfl ?_
      refine mW.br (g1 := (127, [some (.ref 78), some (.ref aa), some (.ref ab), some (.int l3), some (.int l4), some (.int l5), some (.int l6)], [], (h, q))) (g2 := (139, [some (.ref 78), some (.ref aa), some (.ref ab), some (.int l3), some (.int l4), some (.int l5), some (.int l6)], [], (h, q))) (c := l5 = (6 : Int32)) rfl (fun hc28 => ?_) (fun hc28 => ?_)
      · rw [if_pos hc28] at hv
        refine mW.sn 4 (g' := (132, [some (.ref 78), some (.ref aa), some (.ref ab), some (.int l3), some (.int l4), some (.int l5), some (.int l6)], [.int l4, .ref ab, .int l3, .ref aa], (h, q))) rfl ?_
        cases hr29 : r_named (S aa) (S ab) l3 l4 with
        | none => rw [hr29] at hv; cases hv
        | some r29 =>
          rw [hr29, o_bind] at hv
          refine sW.call rfl rfl rfl rfl rfl (sW.of hs (x219 (hs.ar haa) (hs.ar hab) hr29)) ?_
          intro h30 hs30
          refine mW.sn 2 (g' := (173, [some (.ref 78), some (.ref aa), some (.ref ab), some (.int r29), some (.int l4), some (.int l5), some (.int l6)], [], (h30, q))) rfl ?_
          exact b_getv_l173_ok haa hab hk19 _ _ _ _ _ _ _  hs30 hv
      · rw [if_neg hc28] at hv
        refine mW.sn 2 (g' := (142, [some (.ref 78), some (.ref aa), some (.ref ab), some (.int l3), some (.int l4), some (.int l5), some (.int l6)], [.int l4, .ref ab], (h, q))) rfl ?_
        refine sW.iald rfl hs hab hr26 ?_
        refine mW.sn 1 (g' := (144, [some (.ref 78), some (.ref aa), some (.ref ab), some (.int l3), some (.int l4), some (.int l5), some (.int l6)], [.int 3, .int b26], (h, q))) rfl ?_
        refine mW.br (g1 := (147, [some (.ref 78), some (.ref aa), some (.ref ab), some (.int l3), some (.int l4), some (.int l5), some (.int l6)], [], (h, q))) (g2 := (167, [some (.ref 78), some (.ref aa), some (.ref ab), some (.int l3), some (.int l4), some (.int l5), some (.int l6)], [], (h, q))) (c := b26 = (3 : Int32)) rfl (fun hc40 => ?_) (fun hc40 => ?_)
        · rw [if_pos hc40] at hv
          refine mW.sn 1 (g' := (149, [some (.ref 78), some (.ref aa), some (.ref ab), some (.int l3), some (.int l4), some (.int l5), some (.int l6)], [.int l6], (h, q))) rfl ?_
          refine mW.br (g1 := (167, [some (.ref 78), some (.ref aa), some (.ref ab), some (.int l3), some (.int l4), some (.int l5), some (.int l6)], [], (h, q))) (g2 := (152, [some (.ref 78), some (.ref aa), some (.ref ab), some (.int l3), some (.int l4), some (.int l5), some (.int l6)], [], (h, q))) (c := l6 = 0) rfl (fun hc41 => ?_) (fun hc41 => ?_)
          · rw [if_pos hc41] at hv
            refine mW.sn 2 (g' := (169, [some (.ref 78), some (.ref aa), some (.ref ab), some (.int l3), some (.int l4), some (.int l5), some (.int l6)], [.int 1, .ref 78], (h, q))) rfl ?_
            cases hr42 : b_refuse S 1 with
            | none => rw [hr42] at hv; cases hv
            | some r42 =>
              rw [hr42, o_bind] at hv
              refine sW.call rfl rfl rfl rfl (hs.rcv o78) (s227 hs hr42) ?_
              intro h43 hs43
              cases hv
              exact sW.fin hs43 rfl
          · rw [if_neg hc41] at hv
            refine mW.sn 4 (g' := (157, [some (.ref 78), some (.ref aa), some (.ref ab), some (.int l3), some (.int l4), some (.int l5), some (.int l6)], [.int l4, .ref ab, .ref aa, .ref 78], (h, q))) rfl ?_
            cases hr44 : r_number (S ab) l4 with
            | none => rw [hr44] at hv; cases hv
            | some r44 =>
              rw [hr44, o_bind] at hv
              refine sW.call rfl rfl rfl rfl rfl (sW.of hs (x208 (hs.ar hab) hr44)) ?_
              intro h45 hs45
              cases hr46 : b_place S aa r44 with
              | none => rw [hr46] at hv; cases hv
              | some r46 =>
                rw [hr46, o_bind] at hv
                refine sW.call rfl rfl rfl rfl (hs45.rcv o78) (s235 haa hs45 hr46) ?_
                intro h47 hs47
                refine mW.sn 2 (g' := (173, [some (.ref 78), some (.ref aa), some (.ref ab), some (.int r46), some (.int l4), some (.int l5), some (.int l6)], [], (h47, q))) rfl ?_
                exact b_getv_l173_ok haa hab hk19 _ _ _ _ _ _ _  hs47 hv
        · rw [if_neg hc40] at hv
          refine mW.sn 2 (g' := (169, [some (.ref 78), some (.ref aa), some (.ref ab), some (.int l3), some (.int l4), some (.int l5), some (.int l6)], [.int 1, .ref 78], (h, q))) rfl ?_
          cases hr48 : b_refuse S 1 with
          | none => rw [hr48] at hv; cases hv
          | some r48 =>
            rw [hr48, o_bind] at hv
            refine sW.call rfl rfl rfl rfl (hs.rcv o78) (s227 hs hr48) ?_
            intro h49 hs49
            cases hv
            exact sW.fin hs49 rfl
    · rw [if_neg hc27] at hv
      refine mW.sn 2 (g' := (142, [some (.ref 78), some (.ref aa), some (.ref ab), some (.int l3), some (.int l4), some (.int l5), some (.int l6)], [.int l4, .ref ab], (h, q))) rfl ?_
      refine sW.iald rfl hs hab hr26 ?_
      refine mW.sn 1 (g' := (144, [some (.ref 78), some (.ref aa), some (.ref ab), some (.int l3), some (.int l4), some (.int l5), some (.int l6)], [.int 3, .int b26], (h, q))) rfl ?_
      refine mW.br (g1 := (147, [some (.ref 78), some (.ref aa), some (.ref ab), some (.int l3), some (.int l4), some (.int l5), some (.int l6)], [], (h, q))) (g2 := (167, [some (.ref 78), some (.ref aa), some (.ref ab), some (.int l3), some (.int l4), some (.int l5), some (.int l6)], [], (h, q))) (c := b26 = (3 : Int32)) rfl (fun hc50 => ?_) (fun hc50 => ?_)
      · rw [if_pos hc50] at hv
        refine mW.sn 1 (g' := (149, [some (.ref 78), some (.ref aa), some (.ref ab), some (.int l3), some (.int l4), some (.int l5), some (.int l6)], [.int l6], (h, q))) rfl ?_
        refine mW.br (g1 := (167, [some (.ref 78), some (.ref aa), some (.ref ab), some (.int l3), some (.int l4), some (.int l5), some (.int l6)], [], (h, q))) (g2 := (152, [some (.ref 78), some (.ref aa), some (.ref ab), some (.int l3), some (.int l4), some (.int l5), some (.int l6)], [], (h, q))) (c := l6 = 0) rfl (fun hc51 => ?_) (fun hc51 => ?_)
        · rw [if_pos hc51] at hv
          refine mW.sn 2 (g' := (169, [some (.ref 78), some (.ref aa), some (.ref ab), some (.int l3), some (.int l4), some (.int l5), some (.int l6)], [.int 1, .ref 78], (h, q))) rfl ?_
          cases hr52 : b_refuse S 1 with
          | none => rw [hr52] at hv; cases hv
          | some r52 =>
            rw [hr52, o_bind] at hv
            refine sW.call rfl rfl rfl rfl (hs.rcv o78) (s227 hs hr52) ?_
            intro h53 hs53
            cases hv
            exact sW.fin hs53 rfl
        · rw [if_neg hc51] at hv
          refine mW.sn 4 (g' := (157, [some (.ref 78), some (.ref aa), some (.ref ab), some (.int l3), some (.int l4), some (.int l5), some (.int l6)], [.int l4, .ref ab, .ref aa, .ref 78], (h, q))) rfl ?_
          cases hr54 : r_number (S ab) l4 with
          | none => rw [hr54] at hv; cases hv
          | some r54 =>
            rw [hr54, o_bind] at hv
            refine sW.call rfl rfl rfl rfl rfl (sW.of hs (x208 (hs.ar hab) hr54)) ?_
            intro h55 hs55
            cases hr56 : b_place S aa r54 with
            | none => rw [hr56] at hv; cases hv
            | some r56 =>
              rw [hr56, o_bind] at hv
              refine sW.call rfl rfl rfl rfl (hs55.rcv o78) (s235 haa hs55 hr56) ?_
              intro h57 hs57
              refine mW.sn 2 (g' := (173, [some (.ref 78), some (.ref aa), some (.ref ab), some (.int r56), some (.int l4), some (.int l5), some (.int l6)], [], (h57, q))) rfl ?_
              exact b_getv_l173_ok haa hab hk19 _ _ _ _ _ _ _  hs57 hv
      · rw [if_neg hc50] at hv
        refine mW.sn 2 (g' := (169, [some (.ref 78), some (.ref aa), some (.ref ab), some (.int l3), some (.int l4), some (.int l5), some (.int l6)], [.int 1, .ref 78], (h, q))) rfl ?_
        cases hr58 : b_refuse S 1 with
        | none => rw [hr58] at hv; cases hv
        | some r58 =>
          rw [hr58, o_bind] at hv
          refine sW.call rfl rfl rfl rfl (hs.rcv o78) (s227 hs hr58) ?_
          intro h59 hs59
          cases hv
          exact sW.fin hs59 rfl
def b_getv_l19 (aa : Nat) (ab : Nat) : Nat → SS → Int32 → Int32 → Option (SS)
  | 0, _, _, _ => none
  | n + 1, S, l3, l4 => ((iget (S ab) 1).bind fun b5 => (if b5 ≤ l4 then b_getv_l208 aa ab (b_getv_l19 aa ab n) S l3 else (if l3 = (-1 : Int32) then b_getv_l208 aa ab (b_getv_l19 aa ab n) S l3 else ((iget (S aa) l3).bind fun b18 => (if b18 = 0 then b_getv_l208 aa ab (b_getv_l19 aa ab n) S l3 else (if b18 = (5 : Int32) then ((iget (S ab) l4).bind fun b21 => (if b21 = (6 : Int32) then ((b_part S ab l4).bind fun r23 => (if r23 = 0 then b_getv_l112 aa ab (b_getv_l19 aa ab n) S l3 l4 b18 1 else ((b_narrow S aa ab 0 l4).bind fun r60 => ((r_next (r60 ab) l4).bind fun r62 => b_getv_l19 aa ab n r60 l3 r62)))) else b_getv_l112 aa ab (b_getv_l19 aa ab n) S l3 l4 b18 1)) else ((iget (S ab) l4).bind fun b64 => (if b64 = (6 : Int32) then ((b_part S ab l4).bind fun r66 => (if r66 = 0 then b_getv_l112 aa ab (b_getv_l19 aa ab n) S l3 l4 b18 0 else (if b18 = (4 : Int32) then ((b_narrow S aa ab 1 l4).bind fun r70 => ((r_next (r70 ab) l4).bind fun r72 => b_getv_l19 aa ab n r70 l3 r72)) else b_getv_l112 aa ab (b_getv_l19 aa ab n) S l3 l4 b18 0))) else b_getv_l112 aa ab (b_getv_l19 aa ab n) S l3 l4 b18 0))))))))
theorem b_getv_l19_ok {aa : Nat} (haa : aa ∈ shA) {ab : Nat} (hab : ab ∈ shA) : ∀ (n : Nat), ∀ (h : mH) (S : SS) (l3 : Int32) (l4 : Int32) (x5 : Option Value) (x6 : Option Value) (v : SS), cs h S → b_getv_l19 aa ab n S l3 l4 = some v → mW (d + 4) mm228 (19, [some (.ref 78), some (.ref aa), some (.ref ab), some (.int l3), some (.int l4), x5, x6], [], (h, q)) (mQ q v none) := by
  intro n
  induction n with
  | zero => intro h S l3 l4 x5 x6 v hs hv; cases hv
  | succ n ih =>
    intro h S l3 l4 x5 x6 v hs hv
    unfold b_getv_l19 at hv
    refine mW.sn 3 (g' := (23, [some (.ref 78), some (.ref aa), some (.ref ab), some (.int l3), some (.int l4), x5, x6], [.int 1, .ref ab, .int l4], (h, q))) rfl ?_
    cases hr5 : iget (S ab) 1 with
    | none => rw [hr5] at hv; cases hv
    | some b5 =>
      rw [hr5, o_bind] at hv
      refine sW.iald rfl hs hab hr5 ?_
      refine mW.br (g1 := (208, [some (.ref 78), some (.ref aa), some (.ref ab), some (.int l3), some (.int l4), x5, x6], [], (h, q))) (g2 := (27, [some (.ref 78), some (.ref aa), some (.ref ab), some (.int l3), some (.int l4), x5, x6], [], (h, q))) (c := b5 ≤ l4) rfl (fun hc6 => ?_) (fun hc6 => ?_)
      · rw [if_pos hc6] at hv
        exact b_getv_l208_ok haa hab ih _ _ _ _ _ _ _ _  hs hv
      · rw [if_neg hc6] at hv
        refine mW.sn 2 (g' := (29, [some (.ref 78), some (.ref aa), some (.ref ab), some (.int l3), some (.int l4), x5, x6], [.int (-1), .int l3], (h, q))) rfl ?_
        refine mW.br (g1 := (32, [some (.ref 78), some (.ref aa), some (.ref ab), some (.int l3), some (.int l4), x5, x6], [], (h, q))) (g2 := (36, [some (.ref 78), some (.ref aa), some (.ref ab), some (.int l3), some (.int l4), x5, x6], [], (h, q))) (c := l3 = (-1 : Int32)) rfl (fun hc17 => ?_) (fun hc17 => ?_)
        · rw [if_pos hc17] at hv
          refine mW.sn 4 (g' := (43, [some (.ref 78), some (.ref aa), some (.ref ab), some (.int l3), some (.int l4), some (.int 0), x6], [.int 0], (h, q))) rfl ?_
          refine mW.yes (g1 := (46, [some (.ref 78), some (.ref aa), some (.ref ab), some (.int l3), some (.int l4), some (.int 0), x6], [], (h, q))) (g2 := (49, [some (.ref 78), some (.ref aa), some (.ref ab), some (.int l3), some (.int l4), some (.int 0), x6], [], (h, q))) (c := (0 : Int32) = 0) rfl (by decide) ?_
          refine mW.sn 1 (g' := (208, [some (.ref 78), some (.ref aa), some (.ref ab), some (.int l3), some (.int l4), some (.int 0), x6], [], (h, q))) rfl ?_
          exact b_getv_l208_ok haa hab ih _ _ _ _ _ _ _ _  hs hv
        · rw [if_neg hc17] at hv
          refine mW.sn 2 (g' := (38, [some (.ref 78), some (.ref aa), some (.ref ab), some (.int l3), some (.int l4), x5, x6], [.int l3, .ref aa], (h, q))) rfl ?_
          cases hr18 : iget (S aa) l3 with
          | none => rw [hr18] at hv; cases hv
          | some b18 =>
            rw [hr18, o_bind] at hv
            refine sW.iald rfl hs haa hr18 ?_
            refine mW.sn 2 (g' := (43, [some (.ref 78), some (.ref aa), some (.ref ab), some (.int l3), some (.int l4), some (.int b18), x6], [.int b18], (h, q))) rfl ?_
            refine mW.br (g1 := (46, [some (.ref 78), some (.ref aa), some (.ref ab), some (.int l3), some (.int l4), some (.int b18), x6], [], (h, q))) (g2 := (49, [some (.ref 78), some (.ref aa), some (.ref ab), some (.int l3), some (.int l4), some (.int b18), x6], [], (h, q))) (c := b18 = 0) rfl (fun hc19 => ?_) (fun hc19 => ?_)
            · rw [if_pos hc19] at hv
              refine mW.sn 1 (g' := (208, [some (.ref 78), some (.ref aa), some (.ref ab), some (.int l3), some (.int l4), some (.int b18), x6], [], (h, q))) rfl ?_
              exact b_getv_l208_ok haa hab ih _ _ _ _ _ _ _ _  hs hv
            · rw [if_neg hc19] at hv
              refine mW.sn 2 (g' := (52, [some (.ref 78), some (.ref aa), some (.ref ab), some (.int l3), some (.int l4), some (.int b18), x6], [.int 5, .int b18], (h, q))) rfl ?_
              refine mW.br (g1 := (55, [some (.ref 78), some (.ref aa), some (.ref ab), some (.int l3), some (.int l4), some (.int b18), x6], [], (h, q))) (g2 := (59, [some (.ref 78), some (.ref aa), some (.ref ab), some (.int l3), some (.int l4), some (.int b18), x6], [], (h, q))) (c := b18 = (5 : Int32)) rfl (fun hc20 => ?_) (fun hc20 => ?_)
              · rw [if_pos hc20] at hv
                refine mW.sn 5 (g' := (65, [some (.ref 78), some (.ref aa), some (.ref ab), some (.int l3), some (.int l4), some (.int b18), some (.int 1)], [.int l4, .ref ab], (h, q))) rfl ?_
                cases hr21 : iget (S ab) l4 with
                | none => rw [hr21] at hv; cases hv
                | some b21 =>
                  rw [hr21, o_bind] at hv
                  refine sW.iald rfl hs hab hr21 ?_
                  refine mW.sn 1 (g' := (68, [some (.ref 78), some (.ref aa), some (.ref ab), some (.int l3), some (.int l4), some (.int b18), some (.int 1)], [.int 6, .int b21], (h, q))) rfl ?_
                  refine mW.br (g1 := (71, [some (.ref 78), some (.ref aa), some (.ref ab), some (.int l3), some (.int l4), some (.int b18), some (.int 1)], [], (h, q))) (g2 := (112, [some (.ref 78), some (.ref aa), some (.ref ab), some (.int l3), some (.int l4), some (.int b18), some (.int 1)], [], (h, q))) (c := b21 = (6 : Int32)) rfl (fun hc22 => ?_) (fun hc22 => ?_)
                  · rw [if_pos hc22] at hv
                    refine mW.sn 2 (g' := (74, [some (.ref 78), some (.ref aa), some (.ref ab), some (.int l3), some (.int l4), some (.int b18), some (.int 1)], [.int l4, .ref ab], (h, q))) rfl ?_
                    cases hr23 : b_part S ab l4 with
                    | none => rw [hr23] at hv; cases hv
                    | some r23 =>
                      rw [hr23, o_bind] at hv
                      refine sW.call rfl rfl rfl rfl rfl (s229 hab hs hr23) ?_
                      intro h24 hs24
                      refine mW.br (g1 := (112, [some (.ref 78), some (.ref aa), some (.ref ab), some (.int l3), some (.int l4), some (.int b18), some (.int 1)], [], (h24, q))) (g2 := (80, [some (.ref 78), some (.ref aa), some (.ref ab), some (.int l3), some (.int l4), some (.int b18), some (.int 1)], [], (h24, q))) (c := r23 = 0) rfl (fun hc25 => ?_) (fun hc25 => ?_)
                      · rw [if_pos hc25] at hv
                        exact b_getv_l112_ok haa hab ih _ _ _ _ _ _ _  hs24 hv
                      · rw [if_neg hc25] at hv
                        refine mW.sn 1 (g' := (82, [some (.ref 78), some (.ref aa), some (.ref ab), some (.int l3), some (.int l4), some (.int b18), some (.int 1)], [.int 1], (h24, q))) rfl ?_
                        refine mW.no (g1 := (85, [some (.ref 78), some (.ref aa), some (.ref ab), some (.int l3), some (.int l4), some (.int b18), some (.int 1)], [], (h24, q))) (g2 := (91, [some (.ref 78), some (.ref aa), some (.ref ab), some (.int l3), some (.int l4), some (.int b18), some (.int 1)], [], (h24, q))) (c := (1 : Int32) = 0) rfl (by decide) ?_
                        refine mW.sn 3 (g' := (95, [some (.ref 78), some (.ref aa), some (.ref ab), some (.int l3), some (.int l4), some (.int b18), some (.int 1)], [.int 1, .ref aa, .ref 78], (h24, q))) rfl ?_
                        refine mW.no (g1 := (98, [some (.ref 78), some (.ref aa), some (.ref ab), some (.int l3), some (.int l4), some (.int b18), some (.int 1)], [.ref aa, .ref 78], (h24, q))) (g2 := (102, [some (.ref 78), some (.ref aa), some (.ref ab), some (.int l3), some (.int l4), some (.int b18), some (.int 1)], [.ref aa, .ref 78], (h24, q))) (c := (1 : Int32) = 0) rfl (by decide) ?_
                        refine mW.sn 3 (g' := (106, [some (.ref 78), some (.ref aa), some (.ref ab), some (.int l3), some (.int l4), some (.int b18), some (.int 1)], [.int l4, .ref ab, .int 0, .ref aa, .ref 78], (h24, q))) rfl ?_
                        cases hr60 : b_narrow S aa ab 0 l4 with
                        | none => rw [hr60] at hv; cases hv
                        | some r60 =>
                          rw [hr60, o_bind] at hv
                          refine sW.call rfl rfl rfl rfl (hs24.rcv o78) (s231 haa hab hs24 hr60) ?_
                          intro h61 hs61
                          refine mW.sn 3 (g' := (200, [some (.ref 78), some (.ref aa), some (.ref ab), some (.int l3), some (.int l4), some (.int b18), some (.int 1)], [.int l4, .ref ab], (h61, q))) rfl ?_
                          cases hr62 : r_next (r60 ab) l4 with
                          | none => rw [hr62] at hv; cases hv
                          | some r62 =>
                            rw [hr62, o_bind] at hv
                            refine sW.call rfl rfl rfl rfl rfl (sW.of hs61 (x199 (hs61.ar hab) hr62)) ?_
                            intro h63 hs63
                            refine mW.sn 2 (g' := (19, [some (.ref 78), some (.ref aa), some (.ref ab), some (.int l3), some (.int r62), some (.int b18), some (.int 1)], [], (h63, q))) rfl ?_
                            exact ih _ _ _ _ _ _ _  hs63 hv
                  · rw [if_neg hc22] at hv
                    exact b_getv_l112_ok haa hab ih _ _ _ _ _ _ _  hs hv
              · rw [if_neg hc20] at hv
                refine mW.sn 4 (g' := (65, [some (.ref 78), some (.ref aa), some (.ref ab), some (.int l3), some (.int l4), some (.int b18), some (.int 0)], [.int l4, .ref ab], (h, q))) rfl ?_
                cases hr64 : iget (S ab) l4 with
                | none => rw [hr64] at hv; cases hv
                | some b64 =>
                  rw [hr64, o_bind] at hv
                  refine sW.iald rfl hs hab hr64 ?_
                  refine mW.sn 1 (g' := (68, [some (.ref 78), some (.ref aa), some (.ref ab), some (.int l3), some (.int l4), some (.int b18), some (.int 0)], [.int 6, .int b64], (h, q))) rfl ?_
                  refine mW.br (g1 := (71, [some (.ref 78), some (.ref aa), some (.ref ab), some (.int l3), some (.int l4), some (.int b18), some (.int 0)], [], (h, q))) (g2 := (112, [some (.ref 78), some (.ref aa), some (.ref ab), some (.int l3), some (.int l4), some (.int b18), some (.int 0)], [], (h, q))) (c := b64 = (6 : Int32)) rfl (fun hc65 => ?_) (fun hc65 => ?_)
                  · rw [if_pos hc65] at hv
                    refine mW.sn 2 (g' := (74, [some (.ref 78), some (.ref aa), some (.ref ab), some (.int l3), some (.int l4), some (.int b18), some (.int 0)], [.int l4, .ref ab], (h, q))) rfl ?_
                    cases hr66 : b_part S ab l4 with
                    | none => rw [hr66] at hv; cases hv
                    | some r66 =>
                      rw [hr66, o_bind] at hv
                      refine sW.call rfl rfl rfl rfl rfl (s229 hab hs hr66) ?_
                      intro h67 hs67
                      refine mW.br (g1 := (112, [some (.ref 78), some (.ref aa), some (.ref ab), some (.int l3), some (.int l4), some (.int b18), some (.int 0)], [], (h67, q))) (g2 := (80, [some (.ref 78), some (.ref aa), some (.ref ab), some (.int l3), some (.int l4), some (.int b18), some (.int 0)], [], (h67, q))) (c := r66 = 0) rfl (fun hc68 => ?_) (fun hc68 => ?_)
                      · rw [if_pos hc68] at hv
                        exact b_getv_l112_ok haa hab ih _ _ _ _ _ _ _  hs67 hv
                      · rw [if_neg hc68] at hv
                        refine mW.sn 1 (g' := (82, [some (.ref 78), some (.ref aa), some (.ref ab), some (.int l3), some (.int l4), some (.int b18), some (.int 0)], [.int 0], (h67, q))) rfl ?_
                        refine mW.yes (g1 := (85, [some (.ref 78), some (.ref aa), some (.ref ab), some (.int l3), some (.int l4), some (.int b18), some (.int 0)], [], (h67, q))) (g2 := (91, [some (.ref 78), some (.ref aa), some (.ref ab), some (.int l3), some (.int l4), some (.int b18), some (.int 0)], [], (h67, q))) (c := (0 : Int32) = 0) rfl (by decide) ?_
                        refine mW.sn 2 (g' := (88, [some (.ref 78), some (.ref aa), some (.ref ab), some (.int l3), some (.int l4), some (.int b18), some (.int 0)], [.int 4, .int b18], (h67, q))) rfl ?_
                        refine mW.br (g1 := (91, [some (.ref 78), some (.ref aa), some (.ref ab), some (.int l3), some (.int l4), some (.int b18), some (.int 0)], [], (h67, q))) (g2 := (112, [some (.ref 78), some (.ref aa), some (.ref ab), some (.int l3), some (.int l4), some (.int b18), some (.int 0)], [], (h67, q))) (c := b18 = (4 : Int32)) rfl (fun hc69 => ?_) (fun hc69 => ?_)
                        · rw [if_pos hc69] at hv
                          refine mW.sn 3 (g' := (95, [some (.ref 78), some (.ref aa), some (.ref ab), some (.int l3), some (.int l4), some (.int b18), some (.int 0)], [.int 0, .ref aa, .ref 78], (h67, q))) rfl ?_
                          refine mW.yes (g1 := (98, [some (.ref 78), some (.ref aa), some (.ref ab), some (.int l3), some (.int l4), some (.int b18), some (.int 0)], [.ref aa, .ref 78], (h67, q))) (g2 := (102, [some (.ref 78), some (.ref aa), some (.ref ab), some (.int l3), some (.int l4), some (.int b18), some (.int 0)], [.ref aa, .ref 78], (h67, q))) (c := (0 : Int32) = 0) rfl (by decide) ?_
                          refine mW.sn 4 (g' := (106, [some (.ref 78), some (.ref aa), some (.ref ab), some (.int l3), some (.int l4), some (.int b18), some (.int 0)], [.int l4, .ref ab, .int 1, .ref aa, .ref 78], (h67, q))) rfl ?_
                          cases hr70 : b_narrow S aa ab 1 l4 with
                          | none => rw [hr70] at hv; cases hv
                          | some r70 =>
                            rw [hr70, o_bind] at hv
                            refine sW.call rfl rfl rfl rfl (hs67.rcv o78) (s231 haa hab hs67 hr70) ?_
                            intro h71 hs71
                            refine mW.sn 3 (g' := (200, [some (.ref 78), some (.ref aa), some (.ref ab), some (.int l3), some (.int l4), some (.int b18), some (.int 0)], [.int l4, .ref ab], (h71, q))) rfl ?_
                            cases hr72 : r_next (r70 ab) l4 with
                            | none => rw [hr72] at hv; cases hv
                            | some r72 =>
                              rw [hr72, o_bind] at hv
                              refine sW.call rfl rfl rfl rfl rfl (sW.of hs71 (x199 (hs71.ar hab) hr72)) ?_
                              intro h73 hs73
                              refine mW.sn 2 (g' := (19, [some (.ref 78), some (.ref aa), some (.ref ab), some (.int l3), some (.int r72), some (.int b18), some (.int 0)], [], (h73, q))) rfl ?_
                              exact ih _ _ _ _ _ _ _  hs73 hv
                        · rw [if_neg hc69] at hv
                          exact b_getv_l112_ok haa hab ih _ _ _ _ _ _ _  hs67 hv
                  · rw [if_neg hc65] at hv
                    exact b_getv_l112_ok haa hab ih _ _ _ _ _ _ _  hs hv
def b_getv (S : SS) (aa : Nat) (ab : Nat) : Option (SS) := ((r_next ((wr S 78 17 2) aa) 0).bind fun r2 => b_getv_l19 aa ab 10000 (wr (wr S 78 17 2) 78 18 r2) 0 2)
theorem s228 {S : SS} {aa : Nat} (haa : aa ∈ shA) {ab : Nat} (hab : ab ∈ shA) {v : SS} (hs : cs h S) (hv : b_getv S aa ab = some v) : mW (d + 4) mm228 (0, [some (.ref 78), some (.ref aa), some (.ref ab), none, none, none, none], [], (h, q)) (mQ q v none) := by
  unfold b_getv at hv
  refine mW.sn 4 (g' := (4, [some (.ref 78), some (.ref aa), some (.ref ab), some (.int 0), none, none, none], [.int 2, .ref 78], (h, q))) rfl ?_
  refine sW.putI rfl hs o78 rfl ?_
  intro h1 hs1
  refine mW.sn 3 (g' := (10, [some (.ref 78), some (.ref aa), some (.ref ab), some (.int 0), none, none, none], [.int 0, .ref aa, .ref 78], (h1, q))) rfl ?_
  cases hr2 : r_next ((wr S 78 17 2) aa) 0 with
  | none => rw [hr2] at hv; cases hv
  | some r2 =>
    rw [hr2, o_bind] at hv
    refine sW.call rfl rfl rfl rfl rfl (sW.of hs1 (x199 (hs1.ar haa) hr2)) ?_
    intro h3 hs3
    refine sW.putI rfl hs3 o78 rfl ?_
    intro h4 hs4
    refine mW.sn 2 (g' := (19, [some (.ref 78), some (.ref aa), some (.ref ab), some (.int 0), some (.int 2), none, none], [], (h4, q))) rfl ?_
    exact b_getv_l19_ok haa hab _ _ _ _ _ _ _ _  hs4 hv
end
