/-! PRINTED BY wip/whole (dec2): the class's Order. -/
section
set_option maxRecDepth 4000
variable {d : Nat} {h : mH} {q : Nat × Nat}
def o_str_l13 (S : SS) (t0 : Nat) (t1 : Nat) : Nat → Int32 → Int32 → Int32 → Option (Int32)
  | 0, _, _, _ => none
  | n + 1, l4, l5, l6 => (if (4096 : Int32) ≤ l6 then some 0 else ((t_char (tT S t0) l4).bind fun r2 => ((t_char (tT S t1) l5).bind fun r4 => (if r2 = r4 then (if r2 = (-1 : Int32) then some (i_cmp r2 r4) else ((t_width (tT S t0) l4).bind fun r9 => ((t_width (tT S t1) l5).bind fun r11 => o_str_l13 S t0 t1 n (l4 + r9) (l5 + r11) (l6 + 1)))) else some (i_cmp r2 r4)))))
theorem o_str_l13_ok {S : SS} {t0 : Nat} (ht0 : t0 ∈ shT) {t1 : Nat} (ht1 : t1 ∈ shT) : ∀ (n : Nat), ∀ (h : mH) (l4 : Int32) (l5 : Int32) (l6 : Int32) (y1 : Int32) (y3 : Int32) (x7 : Option Value) (x8 : Option Value) (v : Int32), cs h S → o_str_l13 S t0 t1 n l4 l5 l6 = some v → mW (d + 2) mm138 (13, [some (.ref t0), some (.int y1), some (.ref t1), some (.int y3), some (.int l4), some (.int l5), some (.int l6), x7, x8], [], (h, q)) (mQ q S (some (.int v))) := by
  intro n
  induction n with
  | zero => intro h l4 l5 l6 y1 y3 x7 x8 v hs hv; cases hv
  | succ n ih =>
    intro h l4 l5 l6 y1 y3 x7 x8 v hs hv
    unfold o_str_l13 at hv
    refine mW.sn 2 (g' := (18, [some (.ref t0), some (.int y1), some (.ref t1), some (.int y3), some (.int l4), some (.int l5), some (.int l6), x7, x8], [.int 4096, .int l6], (h, q))) rfl ?_
    refine mW.br (g1 := (86, [some (.ref t0), some (.int y1), some (.ref t1), some (.int y3), some (.int l4), some (.int l5), some (.int l6), x7, x8], [], (h, q))) (g2 := (21, [some (.ref t0), some (.int y1), some (.ref t1), some (.int y3), some (.int l4), some (.int l5), some (.int l6), x7, x8], [], (h, q))) (c := (4096 : Int32) ≤ l6) rfl (fun hc1 => ?_) (fun hc1 => ?_)
    · rw [if_pos hc1] at hv
      refine mW.sn 1 (g' := (87, [some (.ref t0), some (.int y1), some (.ref t1), some (.int y3), some (.int l4), some (.int l5), some (.int l6), x7, x8], [.int 0], (h, q))) rfl ?_
      cases hv
      exact sW.fin hs rfl
    · rw [if_neg hc1] at hv
      refine mW.sn 2 (g' := (24, [some (.ref t0), some (.int y1), some (.ref t1), some (.int y3), some (.int l4), some (.int l5), some (.int l6), x7, x8], [.int l4, .ref t0], (h, q))) rfl ?_
      cases hr2 : t_char (tT S t0) l4 with
      | none => rw [hr2] at hv; cases hv
      | some r2 =>
        rw [hr2, o_bind] at hv
        refine sW.call rfl rfl rfl rfl (hs.rcvT ht0) (sW.of hs (x139 (hs.gtx ht0) hr2)) ?_
        intro h3 hs3
        refine mW.sn 3 (g' := (32, [some (.ref t0), some (.int y1), some (.ref t1), some (.int y3), some (.int l4), some (.int l5), some (.int l6), some (.int r2), x8], [.int l5, .ref t1], (h3, q))) rfl ?_
        cases hr4 : t_char (tT S t1) l5 with
        | none => rw [hr4] at hv; cases hv
        | some r4 =>
          rw [hr4, o_bind] at hv
          refine sW.call rfl rfl rfl rfl (hs3.rcvT ht1) (sW.of hs3 (x139 (hs3.gtx ht1) hr4)) ?_
          intro h5 hs5
          refine mW.sn 3 (g' := (41, [some (.ref t0), some (.int y1), some (.ref t1), some (.int y3), some (.int l4), some (.int l5), some (.int l6), some (.int r2), some (.int r4)], [.int r4, .int r2], (h5, q))) rfl ?_
          refine mW.br (g1 := (44, [some (.ref t0), some (.int y1), some (.ref t1), some (.int y3), some (.int l4), some (.int l5), some (.int l6), some (.int r2), some (.int r4)], [], (h5, q))) (g2 := (50, [some (.ref t0), some (.int y1), some (.ref t1), some (.int y3), some (.int l4), some (.int l5), some (.int l6), some (.int r2), some (.int r4)], [], (h5, q))) (c := r2 = r4) rfl (fun hc6 => ?_) (fun hc6 => ?_)
          · rw [if_pos hc6] at hv
            refine mW.sn 2 (g' := (47, [some (.ref t0), some (.int y1), some (.ref t1), some (.int y3), some (.int l4), some (.int l5), some (.int l6), some (.int r2), some (.int r4)], [.int (-1), .int r2], (h5, q))) rfl ?_
            refine mW.br (g1 := (50, [some (.ref t0), some (.int y1), some (.ref t1), some (.int y3), some (.int l4), some (.int l5), some (.int l6), some (.int r2), some (.int r4)], [], (h5, q))) (g2 := (58, [some (.ref t0), some (.int y1), some (.ref t1), some (.int y3), some (.int l4), some (.int l5), some (.int l6), some (.int r2), some (.int r4)], [], (h5, q))) (c := r2 = (-1 : Int32)) rfl (fun hc7 => ?_) (fun hc7 => ?_)
            · rw [if_pos hc7] at hv
              refine mW.sn 2 (g' := (54, [some (.ref t0), some (.int y1), some (.ref t1), some (.int y3), some (.int l4), some (.int l5), some (.int l6), some (.int r2), some (.int r4)], [.int r4, .int r2], (h5, q))) rfl ?_
              refine sW.call rfl rfl rfl rfl rfl (sW.of hs5 (x136 r2 r4)) ?_
              intro h8 hs8
              cases hv
              exact sW.fin hs8 rfl
            · rw [if_neg hc7] at hv
              refine mW.sn 3 (g' := (63, [some (.ref t0), some (.int y1), some (.ref t1), some (.int y3), some (.int l4), some (.int l5), some (.int l6), some (.int r2), some (.int r4)], [.int l4, .ref t0, .int l4], (h5, q))) rfl ?_
              cases hr9 : t_width (tT S t0) l4 with
              | none => rw [hr9] at hv; cases hv
              | some r9 =>
                rw [hr9, o_bind] at hv
                refine sW.call rfl rfl rfl rfl (hs5.rcvT ht0) (sW.of hs5 (x94 (hs5.gtx ht0) hr9)) ?_
                intro h10 hs10
                refine mW.sn 5 (g' := (74, [some (.ref t0), some (.int y1), some (.ref t1), some (.int y3), some (.int (l4 + r9)), some (.int l5), some (.int l6), some (.int r2), some (.int r4)], [.int l5, .ref t1, .int l5], (h10, q))) rfl ?_
                cases hr11 : t_width (tT S t1) l5 with
                | none => rw [hr11] at hv; cases hv
                | some r11 =>
                  rw [hr11, o_bind] at hv
                  refine sW.call rfl rfl rfl rfl (hs10.rcvT ht1) (sW.of hs10 (x94 (hs10.gtx ht1) hr11)) ?_
                  intro h12 hs12
                  refine mW.sn 4 (g' := (13, [some (.ref t0), some (.int y1), some (.ref t1), some (.int y3), some (.int (l4 + r9)), some (.int (l5 + r11)), some (.int (l6 + 1)), some (.int r2), some (.int r4)], [], (h12, q))) rfl ?_
                  exact ih _ _ _ _ _ _ _ _ _  hs12 hv
          · rw [if_neg hc6] at hv
            refine mW.sn 2 (g' := (54, [some (.ref t0), some (.int y1), some (.ref t1), some (.int y3), some (.int l4), some (.int l5), some (.int l6), some (.int r2), some (.int r4)], [.int r4, .int r2], (h5, q))) rfl ?_
            refine sW.call rfl rfl rfl rfl rfl (sW.of hs5 (x136 r2 r4)) ?_
            intro h13 hs13
            cases hv
            exact sW.fin hs13 rfl
def o_str (S : SS) (t0 : Nat) (t1 : Nat) (p0 : Int32) (p1 : Int32) : Option (Int32) := o_str_l13 S t0 t1 10000 (p0 + 1) (p1 + 1) 0
theorem s138 {S : SS} {t0 : Nat} (ht0 : t0 ∈ shT) {t1 : Nat} (ht1 : t1 ∈ shT) {p0 : Int32} {p1 : Int32} {v : Int32} (hs : cs h S) (hv : o_str S t0 t1 p0 p1 = some v) : mW (d + 2) mm138 (0, [some (.ref t0), some (.int p0), some (.ref t1), some (.int p1), none, none, none, none, none], [], (h, q)) (mQ q S (some (.int v))) := by
  unfold o_str at hv
  refine mW.sn 10 (g' := (13, [some (.ref t0), some (.int p0), some (.ref t1), some (.int p1), some (.int (p0 + 1)), some (.int (p1 + 1)), some (.int 0), none, none], [], (h, q))) rfl ?_
  exact o_str_l13_ok ht0 ht1 _ _ _ _ _ _ _ _ _ _  hs hv
def o_gather_l105 (t0 : Nat) (k12 : SS → Int32 → Int32 → Option (SS)) (k72 : SS → Int32 → Int32 → Option (SS)) (k83 : SS → Int32 → Int32 → Int32 → Option (SS)) : Nat → SS → Int32 → Int32 → Int32 → Int32 → Int32 → Option (SS)
  | 0, _, _, _, _, _, _ => none
  | n + 1, S, l3, l5, l6, l7, l8 => (if l8 < (l3 + l5) then ((iset (S 48) l8 l7).bind fun z8 => k83 (up S 48 z8) l3 l5 (l6 + 1)) else ((iget (S 48) (l8 - l5)).bind fun b10 => ((o_str S t0 t0 b10 l7).bind fun r11 => (if r11 ≤ 0 then ((iset (S 48) l8 l7).bind fun z14 => k83 (up S 48 z14) l3 l5 (l6 + 1)) else ((iset (S 48) l8 b10).bind fun z16 => o_gather_l105 t0 k12 k72 k83 n (up S 48 z16) l3 l5 l6 l7 (l8 - l5))))))
theorem o_gather_l105_ok {t0 : Nat} (ht0 : t0 ∈ shT) {k12 : SS → Int32 → Int32 → Option (SS)} (hk12 : ∀ (h : mH) (S : SS) (l3 : Int32) (l4 : Int32) (y2 : Int32) (x5 : Option Value) (x6 : Option Value) (x7 : Option Value) (x8 : Option Value) (v : SS), cs h S → k12 S l3 l4 = some v → mW (d + 3) mm142 (12, [some (.ref 47), some (.ref t0), some (.int y2), some (.int l3), some (.int l4), x5, x6, x7, x8], [], (h, q)) (mQ q v none)) {k72 : SS → Int32 → Int32 → Option (SS)} (hk72 : ∀ (h : mH) (S : SS) (l3 : Int32) (l5 : Int32) (y2 : Int32) (y4 : Int32) (x6 : Option Value) (x7 : Option Value) (x8 : Option Value) (v : SS), cs h S → k72 S l3 l5 = some v → mW (d + 3) mm142 (72, [some (.ref 47), some (.ref t0), some (.int y2), some (.int l3), some (.int y4), some (.int l5), x6, x7, x8], [], (h, q)) (mQ q v none)) {k83 : SS → Int32 → Int32 → Int32 → Option (SS)} (hk83 : ∀ (h : mH) (S : SS) (l3 : Int32) (l5 : Int32) (l6 : Int32) (y2 : Int32) (y4 : Int32) (x7 : Option Value) (x8 : Option Value) (v : SS), cs h S → k83 S l3 l5 l6 = some v → mW (d + 3) mm142 (83, [some (.ref 47), some (.ref t0), some (.int y2), some (.int l3), some (.int y4), some (.int l5), some (.int l6), x7, x8], [], (h, q)) (mQ q v none)) : ∀ (n : Nat), ∀ (h : mH) (S : SS) (l3 : Int32) (l5 : Int32) (l6 : Int32) (l7 : Int32) (l8 : Int32) (y2 : Int32) (y4 : Int32) (v : SS), cs h S → o_gather_l105 t0 k12 k72 k83 n S l3 l5 l6 l7 l8 = some v → mW (d + 3) mm142 (105, [some (.ref 47), some (.ref t0), some (.int y2), some (.int l3), some (.int y4), some (.int l5), some (.int l6), some (.int l7), some (.int l8)], [], (h, q)) (mQ q v none) := by
  intro n
  induction n with
  | zero => intro h S l3 l5 l6 l7 l8 y2 y4 v hs hv; cases hv
  | succ n ih =>
    intro h S l3 l5 l6 l7 l8 y2 y4 v hs hv
    unfold o_gather_l105 at hv
    refine mW.sn 4 (g' := (111, [some (.ref 47), some (.ref t0), some (.int y2), some (.int l3), some (.int y4), some (.int l5), some (.int l6), some (.int l7), some (.int l8)], [.int (l3 + l5), .int l8], (h, q))) rfl ?_
    refine mW.br (g1 := (161, [some (.ref 47), some (.ref t0), some (.int y2), some (.int l3), some (.int y4), some (.int l5), some (.int l6), some (.int l7), some (.int l8)], [], (h, q))) (g2 := (114, [some (.ref 47), some (.ref t0), some (.int y2), some (.int l3), some (.int y4), some (.int l5), some (.int l6), some (.int l7), some (.int l8)], [], (h, q))) (c := l8 < (l3 + l5)) rfl (fun hc7 => ?_) (fun hc7 => ?_)
    · rw [if_pos hc7] at hv
      refine mW.sn 1 (g' := (162, [some (.ref 47), some (.ref t0), some (.int y2), some (.int l3), some (.int y4), some (.int l5), some (.int l6), some (.int l7), some (.int l8)], [.ref 47], (h, q))) rfl ?_
      refine sW.getR rfl hs o47 rfl rfl ?_
      refine mW.sn 2 (g' := (169, [some (.ref 47), some (.ref t0), some (.int y2), some (.int l3), some (.int y4), some (.int l5), some (.int l6), some (.int l7), some (.int l8)], [.int l7, .int l8, .ref 48], (h, q))) rfl ?_
      cases hr8 : iset (S 48) l8 l7 with
      | none => rw [hr8] at hv; cases hv
      | some z8 =>
        rw [hr8, o_bind] at hv
        refine sW.iast rfl hs (by decide) hr8 ?_
        intro h9 hs9
        refine mW.sn 2 (g' := (83, [some (.ref 47), some (.ref t0), some (.int y2), some (.int l3), some (.int y4), some (.int l5), some (.int (l6 + 1)), some (.int l7), some (.int l8)], [], (h9, q))) rfl ?_
        exact hk83 _ _ _ _ _ _ _ _ _ _  hs9 hv
    · rw [if_neg hc7] at hv
      refine mW.sn 2 (g' := (116, [some (.ref 47), some (.ref t0), some (.int y2), some (.int l3), some (.int y4), some (.int l5), some (.int l6), some (.int l7), some (.int l8)], [.ref 47, .ref t0], (h, q))) rfl ?_
      refine sW.getR rfl hs o47 rfl rfl ?_
      refine mW.sn 3 (g' := (124, [some (.ref 47), some (.ref t0), some (.int y2), some (.int l3), some (.int y4), some (.int l5), some (.int l6), some (.int l7), some (.int l8)], [.int (l8 - l5), .ref 48, .ref t0], (h, q))) rfl ?_
      cases hr10 : iget (S 48) (l8 - l5) with
      | none => rw [hr10] at hv; cases hv
      | some b10 =>
        rw [hr10, o_bind] at hv
        refine sW.iald rfl hs (by decide) hr10 ?_
        refine mW.sn 2 (g' := (128, [some (.ref 47), some (.ref t0), some (.int y2), some (.int l3), some (.int y4), some (.int l5), some (.int l6), some (.int l7), some (.int l8)], [.int l7, .ref t0, .int b10, .ref t0], (h, q))) rfl ?_
        cases hr11 : o_str S t0 t0 b10 l7 with
        | none => rw [hr11] at hv; cases hv
        | some r11 =>
          rw [hr11, o_bind] at hv
          refine sW.call rfl rfl rfl rfl rfl (s138 ht0 ht0 hs hr11) ?_
          intro h12 hs12
          refine mW.br (g1 := (161, [some (.ref 47), some (.ref t0), some (.int y2), some (.int l3), some (.int y4), some (.int l5), some (.int l6), some (.int l7), some (.int l8)], [], (h12, q))) (g2 := (134, [some (.ref 47), some (.ref t0), some (.int y2), some (.int l3), some (.int y4), some (.int l5), some (.int l6), some (.int l7), some (.int l8)], [], (h12, q))) (c := r11 ≤ 0) rfl (fun hc13 => ?_) (fun hc13 => ?_)
          · rw [if_pos hc13] at hv
            refine mW.sn 1 (g' := (162, [some (.ref 47), some (.ref t0), some (.int y2), some (.int l3), some (.int y4), some (.int l5), some (.int l6), some (.int l7), some (.int l8)], [.ref 47], (h12, q))) rfl ?_
            refine sW.getR rfl hs12 o47 rfl rfl ?_
            refine mW.sn 2 (g' := (169, [some (.ref 47), some (.ref t0), some (.int y2), some (.int l3), some (.int y4), some (.int l5), some (.int l6), some (.int l7), some (.int l8)], [.int l7, .int l8, .ref 48], (h12, q))) rfl ?_
            cases hr14 : iset (S 48) l8 l7 with
            | none => rw [hr14] at hv; cases hv
            | some z14 =>
              rw [hr14, o_bind] at hv
              refine sW.iast rfl hs12 (by decide) hr14 ?_
              intro h15 hs15
              refine mW.sn 2 (g' := (83, [some (.ref 47), some (.ref t0), some (.int y2), some (.int l3), some (.int y4), some (.int l5), some (.int (l6 + 1)), some (.int l7), some (.int l8)], [], (h15, q))) rfl ?_
              exact hk83 _ _ _ _ _ _ _ _ _ _  hs15 hv
          · rw [if_neg hc13] at hv
            refine mW.sn 1 (g' := (135, [some (.ref 47), some (.ref t0), some (.int y2), some (.int l3), some (.int y4), some (.int l5), some (.int l6), some (.int l7), some (.int l8)], [.ref 47], (h12, q))) rfl ?_
            refine sW.getR rfl hs12 o47 rfl rfl ?_
            refine mW.sn 2 (g' := (141, [some (.ref 47), some (.ref t0), some (.int y2), some (.int l3), some (.int y4), some (.int l5), some (.int l6), some (.int l7), some (.int l8)], [.ref 47, .int l8, .ref 48], (h12, q))) rfl ?_
            refine sW.getR rfl hs12 o47 rfl rfl ?_
            refine mW.sn 3 (g' := (149, [some (.ref 47), some (.ref t0), some (.int y2), some (.int l3), some (.int y4), some (.int l5), some (.int l6), some (.int l7), some (.int l8)], [.int (l8 - l5), .ref 48, .int l8, .ref 48], (h12, q))) rfl ?_
            refine sW.iald rfl hs12 (by decide) hr10 ?_
            cases hr16 : iset (S 48) l8 b10 with
            | none => rw [hr16] at hv; cases hv
            | some z16 =>
              rw [hr16, o_bind] at hv
              refine sW.iast rfl hs12 (by decide) hr16 ?_
              intro h17 hs17
              refine mW.sn 5 (g' := (105, [some (.ref 47), some (.ref t0), some (.int y2), some (.int l3), some (.int y4), some (.int l5), some (.int l6), some (.int l7), some (.int (l8 - l5))], [], (h17, q))) rfl ?_
              exact ih _ _ _ _ _ _ _ _ _ _  hs17 hv
def o_gather_l83 (t0 : Nat) (k12 : SS → Int32 → Int32 → Option (SS)) (k72 : SS → Int32 → Int32 → Option (SS)) : Nat → SS → Int32 → Int32 → Int32 → Option (SS)
  | 0, _, _, _, _ => none
  | n + 1, S, l3, l5, l6 => (if (rd S 47 1) ≤ l6 then k72 S l3 (l5 / 2) else ((iget (S 48) l6).bind fun b6 => o_gather_l105 t0 k12 k72 (o_gather_l83 t0 k12 k72 n) 10000 S l3 l5 l6 b6 l6))
theorem o_gather_l83_ok {t0 : Nat} (ht0 : t0 ∈ shT) {k12 : SS → Int32 → Int32 → Option (SS)} (hk12 : ∀ (h : mH) (S : SS) (l3 : Int32) (l4 : Int32) (y2 : Int32) (x5 : Option Value) (x6 : Option Value) (x7 : Option Value) (x8 : Option Value) (v : SS), cs h S → k12 S l3 l4 = some v → mW (d + 3) mm142 (12, [some (.ref 47), some (.ref t0), some (.int y2), some (.int l3), some (.int l4), x5, x6, x7, x8], [], (h, q)) (mQ q v none)) {k72 : SS → Int32 → Int32 → Option (SS)} (hk72 : ∀ (h : mH) (S : SS) (l3 : Int32) (l5 : Int32) (y2 : Int32) (y4 : Int32) (x6 : Option Value) (x7 : Option Value) (x8 : Option Value) (v : SS), cs h S → k72 S l3 l5 = some v → mW (d + 3) mm142 (72, [some (.ref 47), some (.ref t0), some (.int y2), some (.int l3), some (.int y4), some (.int l5), x6, x7, x8], [], (h, q)) (mQ q v none)) : ∀ (n : Nat), ∀ (h : mH) (S : SS) (l3 : Int32) (l5 : Int32) (l6 : Int32) (y2 : Int32) (y4 : Int32) (x7 : Option Value) (x8 : Option Value) (v : SS), cs h S → o_gather_l83 t0 k12 k72 n S l3 l5 l6 = some v → mW (d + 3) mm142 (83, [some (.ref 47), some (.ref t0), some (.int y2), some (.int l3), some (.int y4), some (.int l5), some (.int l6), x7, x8], [], (h, q)) (mQ q v none) := by
  intro n
  induction n with
  | zero => intro h S l3 l5 l6 y2 y4 x7 x8 v hs hv; cases hv
  | succ n ih =>
    intro h S l3 l5 l6 y2 y4 x7 x8 v hs hv
    unfold o_gather_l83 at hv
    refine mW.sn 2 (g' := (86, [some (.ref 47), some (.ref t0), some (.int y2), some (.int l3), some (.int y4), some (.int l5), some (.int l6), x7, x8], [.ref 47, .int l6], (h, q))) rfl ?_
    refine sW.getI rfl hs o47 rfl rfl ?_
    refine mW.br (g1 := (176, [some (.ref 47), some (.ref t0), some (.int y2), some (.int l3), some (.int y4), some (.int l5), some (.int l6), x7, x8], [], (h, q))) (g2 := (92, [some (.ref 47), some (.ref t0), some (.int y2), some (.int l3), some (.int y4), some (.int l5), some (.int l6), x7, x8], [], (h, q))) (c := (rd S 47 1) ≤ l6) rfl (fun hc5 => ?_) (fun hc5 => ?_)
    · rw [if_pos hc5] at hv
      refine mW.sn 5 (g' := (72, [some (.ref 47), some (.ref t0), some (.int y2), some (.int l3), some (.int y4), some (.int (l5 / 2)), some (.int l6), x7, x8], [], (h, q))) rfl ?_
      exact hk72 _ _ _ _ _ _ _ _ _ _  hs hv
    · rw [if_neg hc5] at hv
      refine mW.sn 1 (g' := (93, [some (.ref 47), some (.ref t0), some (.int y2), some (.int l3), some (.int y4), some (.int l5), some (.int l6), x7, x8], [.ref 47], (h, q))) rfl ?_
      refine sW.getR rfl hs o47 rfl rfl ?_
      refine mW.sn 1 (g' := (98, [some (.ref 47), some (.ref t0), some (.int y2), some (.int l3), some (.int y4), some (.int l5), some (.int l6), x7, x8], [.int l6, .ref 48], (h, q))) rfl ?_
      cases hr6 : iget (S 48) l6 with
      | none => rw [hr6] at hv; cases hv
      | some b6 =>
        rw [hr6, o_bind] at hv
        refine sW.iald rfl hs (by decide) hr6 ?_
        refine mW.sn 3 (g' := (105, [some (.ref 47), some (.ref t0), some (.int y2), some (.int l3), some (.int y4), some (.int l5), some (.int l6), some (.int b6), some (.int l6)], [], (h, q))) rfl ?_
        exact o_gather_l105_ok ht0 hk12 hk72 ih _ _ _ _ _ _ _ _ _ _ _  hs hv
def o_gather_l72 (t0 : Nat) (k12 : SS → Int32 → Int32 → Option (SS)) : Nat → SS → Int32 → Int32 → Option (SS)
  | 0, _, _, _ => none
  | n + 1, S, l3, l5 => (if l5 ≤ 0 then some S else o_gather_l83 t0 k12 (o_gather_l72 t0 k12 n) 10000 S l3 l5 (l3 + l5))
theorem o_gather_l72_ok {t0 : Nat} (ht0 : t0 ∈ shT) {k12 : SS → Int32 → Int32 → Option (SS)} (hk12 : ∀ (h : mH) (S : SS) (l3 : Int32) (l4 : Int32) (y2 : Int32) (x5 : Option Value) (x6 : Option Value) (x7 : Option Value) (x8 : Option Value) (v : SS), cs h S → k12 S l3 l4 = some v → mW (d + 3) mm142 (12, [some (.ref 47), some (.ref t0), some (.int y2), some (.int l3), some (.int l4), x5, x6, x7, x8], [], (h, q)) (mQ q v none)) : ∀ (n : Nat), ∀ (h : mH) (S : SS) (l3 : Int32) (l5 : Int32) (y2 : Int32) (y4 : Int32) (x6 : Option Value) (x7 : Option Value) (x8 : Option Value) (v : SS), cs h S → o_gather_l72 t0 k12 n S l3 l5 = some v → mW (d + 3) mm142 (72, [some (.ref 47), some (.ref t0), some (.int y2), some (.int l3), some (.int y4), some (.int l5), x6, x7, x8], [], (h, q)) (mQ q v none) := by
  intro n
  induction n with
  | zero => intro h S l3 l5 y2 y4 x6 x7 x8 v hs hv; cases hv
  | succ n ih =>
    intro h S l3 l5 y2 y4 x6 x7 x8 v hs hv
    unfold o_gather_l72 at hv
    refine mW.sn 1 (g' := (74, [some (.ref 47), some (.ref t0), some (.int y2), some (.int l3), some (.int y4), some (.int l5), x6, x7, x8], [.int l5], (h, q))) rfl ?_
    refine mW.br (g1 := (185, [some (.ref 47), some (.ref t0), some (.int y2), some (.int l3), some (.int y4), some (.int l5), x6, x7, x8], [], (h, q))) (g2 := (77, [some (.ref 47), some (.ref t0), some (.int y2), some (.int l3), some (.int y4), some (.int l5), x6, x7, x8], [], (h, q))) (c := l5 ≤ 0) rfl (fun hc4 => ?_) (fun hc4 => ?_)
    · rw [if_pos hc4] at hv
      cases hv
      exact sW.fin hs rfl
    · rw [if_neg hc4] at hv
      refine mW.sn 4 (g' := (83, [some (.ref 47), some (.ref t0), some (.int y2), some (.int l3), some (.int y4), some (.int l5), some (.int (l3 + l5)), x7, x8], [], (h, q))) rfl ?_
      exact o_gather_l83_ok ht0 hk12 ih _ _ _ _ _ _ _ _ _ _ _  hs hv
def o_gather_l12 (t0 : Nat) : Nat → SS → Int32 → Int32 → Option (SS)
  | 0, _, _, _ => none
  | n + 1, S, l3, l4 => (if l4 = (-1 : Int32) then o_gather_l72 t0 (o_gather_l12 t0 n) 10000 S l3 (((rd S 47 1) - l3) / 2) else (if (Int32.ofNat (S 48).length) ≤ (rd S 47 1) then o_gather_l72 t0 (o_gather_l12 t0 n) 10000 S l3 (((rd S 47 1) - l3) / 2) else ((iset (S 48) (rd S 47 1) l4).bind fun z19 => ((t_next (tT (wr (up S 48 z19) 47 1 ((rd (up S 48 z19) 47 1) + 1)) t0) l4).bind fun r22 => o_gather_l12 t0 n (wr (up S 48 z19) 47 1 ((rd (up S 48 z19) 47 1) + 1)) l3 r22))))
theorem o_gather_l12_ok {t0 : Nat} (ht0 : t0 ∈ shT) : ∀ (n : Nat), ∀ (h : mH) (S : SS) (l3 : Int32) (l4 : Int32) (y2 : Int32) (x5 : Option Value) (x6 : Option Value) (x7 : Option Value) (x8 : Option Value) (v : SS), cs h S → o_gather_l12 t0 n S l3 l4 = some v → mW (d + 3) mm142 (12, [some (.ref 47), some (.ref t0), some (.int y2), some (.int l3), some (.int l4), x5, x6, x7, x8], [], (h, q)) (mQ q v none) := by
  intro n
  induction n with
  | zero => intro h S l3 l4 y2 x5 x6 x7 x8 v hs hv; cases hv
  | succ n ih =>
    intro h S l3 l4 y2 x5 x6 x7 x8 v hs hv
    unfold o_gather_l12 at hv
    refine mW.sn 2 (g' := (15, [some (.ref 47), some (.ref t0), some (.int y2), some (.int l3), some (.int l4), x5, x6, x7, x8], [.int (-1), .int l4], (h, q))) rfl ?_
    refine mW.br (g1 := (62, [some (.ref 47), some (.ref t0), some (.int y2), some (.int l3), some (.int l4), x5, x6, x7, x8], [], (h, q))) (g2 := (18, [some (.ref 47), some (.ref t0), some (.int y2), some (.int l3), some (.int l4), x5, x6, x7, x8], [], (h, q))) (c := l4 = (-1 : Int32)) rfl (fun hc3 => ?_) (fun hc3 => ?_)
    · rw [if_pos hc3] at hv
      refine mW.sn 1 (g' := (63, [some (.ref 47), some (.ref t0), some (.int y2), some (.int l3), some (.int l4), x5, x6, x7, x8], [.ref 47], (h, q))) rfl ?_
      refine sW.getI rfl hs o47 rfl rfl ?_
      refine mW.sn 5 (g' := (72, [some (.ref 47), some (.ref t0), some (.int y2), some (.int l3), some (.int l4), some (.int (((rd S 47 1) - l3) / 2)), x6, x7, x8], [], (h, q))) rfl ?_
      exact o_gather_l72_ok ht0 ih _ _ _ _ _ _ _ _ _ _ _  hs hv
    · rw [if_neg hc3] at hv
      refine mW.sn 1 (g' := (19, [some (.ref 47), some (.ref t0), some (.int y2), some (.int l3), some (.int l4), x5, x6, x7, x8], [.ref 47], (h, q))) rfl ?_
      refine sW.getI rfl hs o47 rfl rfl ?_
      refine mW.sn 1 (g' := (23, [some (.ref 47), some (.ref t0), some (.int y2), some (.int l3), some (.int l4), x5, x6, x7, x8], [.ref 47, .int (rd S 47 1)], (h, q))) rfl ?_
      refine sW.getR rfl hs o47 rfl rfl ?_
      refine sW.aln rfl hs (by decide) ?_
      refine mW.br (g1 := (62, [some (.ref 47), some (.ref t0), some (.int y2), some (.int l3), some (.int l4), x5, x6, x7, x8], [], (h, q))) (g2 := (30, [some (.ref 47), some (.ref t0), some (.int y2), some (.int l3), some (.int l4), x5, x6, x7, x8], [], (h, q))) (c := (Int32.ofNat (S 48).length) ≤ (rd S 47 1)) rfl (fun hc18 => ?_) (fun hc18 => ?_)
      · rw [if_pos hc18] at hv
        refine mW.sn 1 (g' := (63, [some (.ref 47), some (.ref t0), some (.int y2), some (.int l3), some (.int l4), x5, x6, x7, x8], [.ref 47], (h, q))) rfl ?_
        refine sW.getI rfl hs o47 rfl rfl ?_
        refine mW.sn 5 (g' := (72, [some (.ref 47), some (.ref t0), some (.int y2), some (.int l3), some (.int l4), some (.int (((rd S 47 1) - l3) / 2)), x6, x7, x8], [], (h, q))) rfl ?_
        exact o_gather_l72_ok ht0 ih _ _ _ _ _ _ _ _ _ _ _  hs hv
      · rw [if_neg hc18] at hv
        refine mW.sn 1 (g' := (31, [some (.ref 47), some (.ref t0), some (.int y2), some (.int l3), some (.int l4), x5, x6, x7, x8], [.ref 47], (h, q))) rfl ?_
        refine sW.getR rfl hs o47 rfl rfl ?_
        refine mW.sn 1 (g' := (35, [some (.ref 47), some (.ref t0), some (.int y2), some (.int l3), some (.int l4), x5, x6, x7, x8], [.ref 47, .ref 48], (h, q))) rfl ?_
        refine sW.getI rfl hs o47 rfl rfl ?_
        refine mW.sn 1 (g' := (40, [some (.ref 47), some (.ref t0), some (.int y2), some (.int l3), some (.int l4), x5, x6, x7, x8], [.int l4, .int (rd S 47 1), .ref 48], (h, q))) rfl ?_
        cases hr19 : iset (S 48) (rd S 47 1) l4 with
        | none => rw [hr19] at hv; cases hv
        | some z19 =>
          rw [hr19, o_bind] at hv
          refine sW.iast rfl hs (by decide) hr19 ?_
          intro h20 hs20
          refine mW.sn 2 (g' := (43, [some (.ref 47), some (.ref t0), some (.int y2), some (.int l3), some (.int l4), x5, x6, x7, x8], [.ref 47, .ref 47], (h20, q))) rfl ?_
          refine sW.getI rfl hs20 o47 rfl rfl ?_
          refine mW.sn 2 (g' := (48, [some (.ref 47), some (.ref t0), some (.int y2), some (.int l3), some (.int l4), x5, x6, x7, x8], [.int ((rd (up S 48 z19) 47 1) + 1), .ref 47], (h20, q))) rfl ?_
          refine sW.putI rfl hs20 o47 rfl ?_
          intro h21 hs21
          refine mW.sn 2 (g' := (54, [some (.ref 47), some (.ref t0), some (.int y2), some (.int l3), some (.int l4), x5, x6, x7, x8], [.int l4, .ref t0], (h21, q))) rfl ?_
          cases hr22 : t_next (tT (wr (up S 48 z19) 47 1 ((rd (up S 48 z19) 47 1) + 1)) t0) l4 with
          | none => rw [hr22] at hv; cases hv
          | some r22 =>
            rw [hr22, o_bind] at hv
            refine sW.call rfl rfl rfl rfl (hs21.rcvT ht0) (sW.of hs21 (x81 (hs21.gtx ht0) hr22)) ?_
            intro h23 hs23
            refine mW.sn 2 (g' := (12, [some (.ref 47), some (.ref t0), some (.int y2), some (.int l3), some (.int r22), x5, x6, x7, x8], [], (h23, q))) rfl ?_
            exact ih _ _ _ _ _ _ _ _ _ _  hs23 hv
def o_gather (S : SS) (t0 : Nat) (p0 : Int32) : Option (SS) := ((t_first (tT S t0) p0).bind fun r1 => o_gather_l12 t0 10000 S (rd S 47 1) r1)
theorem s142 {S : SS} {t0 : Nat} (ht0 : t0 ∈ shT) {p0 : Int32} {v : SS} (hs : cs h S) (hv : o_gather S t0 p0 = some v) : mW (d + 3) mm142 (0, [some (.ref 47), some (.ref t0), some (.int p0), none, none, none, none, none, none], [], (h, q)) (mQ q v none) := by
  unfold o_gather at hv
  refine mW.sn 1 (g' := (1, [some (.ref 47), some (.ref t0), some (.int p0), none, none, none, none, none, none], [.ref 47], (h, q))) rfl ?_
  refine sW.getI rfl hs o47 rfl rfl ?_
  refine mW.sn 3 (g' := (7, [some (.ref 47), some (.ref t0), some (.int p0), some (.int (rd S 47 1)), none, none, none, none, none], [.int p0, .ref t0], (h, q))) rfl ?_
  cases hr1 : t_first (tT S t0) p0 with
  | none => rw [hr1] at hv; cases hv
  | some r1 =>
    rw [hr1, o_bind] at hv
    refine sW.call rfl rfl rfl rfl (hs.rcvT ht0) (sW.of hs (x74 (hs.gtx ht0) hr1)) ?_
    intro h2 hs2
    refine mW.sn 1 (g' := (12, [some (.ref 47), some (.ref t0), some (.int p0), some (.int (rd S 47 1)), some (.int r1), none, none, none, none], [], (h2, q))) rfl ?_
    exact o_gather_l12_ok ht0 _ _ _ _ _ _ _ _ _ _ _  hs2 hv
def o_names_l17 (S : SS) (t0 : Nat) (t1 : Nat) : Nat → Int32 → Int32 → Int32 → Int32 → Int32 → Option (Int32)
  | 0, _, _, _, _, _ => none
  | n + 1, l3, l4, l5, l6, l7 => (if l6 ≤ l7 then some (i_cmp (l4 - l3) (l5 - l4)) else ((iget (S 48) (l3 + l7)).bind fun b4 => ((iget (S 48) (l4 + l7)).bind fun b5 => ((o_str S t0 t1 b4 b5).bind fun r6 => (if r6 = 0 then o_names_l17 S t0 t1 n l3 l4 l5 l6 (l7 + 1) else some r6)))))
theorem o_names_l17_ok {S : SS} {t0 : Nat} (ht0 : t0 ∈ shT) {t1 : Nat} (ht1 : t1 ∈ shT) : ∀ (n : Nat), ∀ (h : mH) (l3 : Int32) (l4 : Int32) (l5 : Int32) (l6 : Int32) (l7 : Int32) (x8 : Option Value) (v : Int32), cs h S → o_names_l17 S t0 t1 n l3 l4 l5 l6 l7 = some v → mW (d + 3) mm143 (17, [some (.ref 47), some (.ref t0), some (.ref t1), some (.int l3), some (.int l4), some (.int l5), some (.int l6), some (.int l7), x8], [], (h, q)) (mQ q S (some (.int v))) := by
  intro n
  induction n with
  | zero => intro h l3 l4 l5 l6 l7 x8 v hs hv; cases hv
  | succ n ih =>
    intro h l3 l4 l5 l6 l7 x8 v hs hv
    unfold o_names_l17 at hv
    refine mW.sn 2 (g' := (21, [some (.ref 47), some (.ref t0), some (.ref t1), some (.int l3), some (.int l4), some (.int l5), some (.int l6), some (.int l7), x8], [.int l6, .int l7], (h, q))) rfl ?_
    refine mW.br (g1 := (64, [some (.ref 47), some (.ref t0), some (.ref t1), some (.int l3), some (.int l4), some (.int l5), some (.int l6), some (.int l7), x8], [], (h, q))) (g2 := (24, [some (.ref 47), some (.ref t0), some (.ref t1), some (.int l3), some (.int l4), some (.int l5), some (.int l6), some (.int l7), x8], [], (h, q))) (c := l6 ≤ l7) rfl (fun hc2 => ?_) (fun hc2 => ?_)
    · rw [if_pos hc2] at hv
      refine mW.sn 6 (g' := (73, [some (.ref 47), some (.ref t0), some (.ref t1), some (.int l3), some (.int l4), some (.int l5), some (.int l6), some (.int l7), x8], [.int (l5 - l4), .int (l4 - l3)], (h, q))) rfl ?_
      refine sW.call rfl rfl rfl rfl rfl (sW.of hs (x136 (l4 - l3) (l5 - l4))) ?_
      intro h3 hs3
      cases hv
      exact sW.fin hs3 rfl
    · rw [if_neg hc2] at hv
      refine mW.sn 2 (g' := (26, [some (.ref 47), some (.ref t0), some (.ref t1), some (.int l3), some (.int l4), some (.int l5), some (.int l6), some (.int l7), x8], [.ref 47, .ref t0], (h, q))) rfl ?_
      refine sW.getR rfl hs o47 rfl rfl ?_
      refine mW.sn 3 (g' := (33, [some (.ref 47), some (.ref t0), some (.ref t1), some (.int l3), some (.int l4), some (.int l5), some (.int l6), some (.int l7), x8], [.int (l3 + l7), .ref 48, .ref t0], (h, q))) rfl ?_
      cases hr4 : iget (S 48) (l3 + l7) with
      | none => rw [hr4] at hv; cases hv
      | some b4 =>
        rw [hr4, o_bind] at hv
        refine sW.iald rfl hs (by decide) hr4 ?_
        refine mW.sn 2 (g' := (36, [some (.ref 47), some (.ref t0), some (.ref t1), some (.int l3), some (.int l4), some (.int l5), some (.int l6), some (.int l7), x8], [.ref 47, .ref t1, .int b4, .ref t0], (h, q))) rfl ?_
        refine sW.getR rfl hs o47 rfl rfl ?_
        refine mW.sn 3 (g' := (44, [some (.ref 47), some (.ref t0), some (.ref t1), some (.int l3), some (.int l4), some (.int l5), some (.int l6), some (.int l7), x8], [.int (l4 + l7), .ref 48, .ref t1, .int b4, .ref t0], (h, q))) rfl ?_
        cases hr5 : iget (S 48) (l4 + l7) with
        | none => rw [hr5] at hv; cases hv
        | some b5 =>
          rw [hr5, o_bind] at hv
          refine sW.iald rfl hs (by decide) hr5 ?_
          cases hr6 : o_str S t0 t1 b4 b5 with
          | none => rw [hr6] at hv; cases hv
          | some r6 =>
            rw [hr6, o_bind] at hv
            refine sW.call rfl rfl rfl rfl rfl (s138 ht0 ht1 hs hr6) ?_
            intro h7 hs7
            refine mW.sn 2 (g' := (52, [some (.ref 47), some (.ref t0), some (.ref t1), some (.int l3), some (.int l4), some (.int l5), some (.int l6), some (.int l7), some (.int r6)], [.int r6], (h7, q))) rfl ?_
            refine mW.br (g1 := (58, [some (.ref 47), some (.ref t0), some (.ref t1), some (.int l3), some (.int l4), some (.int l5), some (.int l6), some (.int l7), some (.int r6)], [], (h7, q))) (g2 := (55, [some (.ref 47), some (.ref t0), some (.ref t1), some (.int l3), some (.int l4), some (.int l5), some (.int l6), some (.int l7), some (.int r6)], [], (h7, q))) (c := r6 = 0) rfl (fun hc8 => ?_) (fun hc8 => ?_)
            · rw [if_pos hc8] at hv
              refine mW.sn 2 (g' := (17, [some (.ref 47), some (.ref t0), some (.ref t1), some (.int l3), some (.int l4), some (.int l5), some (.int l6), some (.int (l7 + 1)), some (.int r6)], [], (h7, q))) rfl ?_
              exact ih _ _ _ _ _ _ _ _  hs7 hv
            · rw [if_neg hc8] at hv
              refine mW.sn 1 (g' := (57, [some (.ref 47), some (.ref t0), some (.ref t1), some (.int l3), some (.int l4), some (.int l5), some (.int l6), some (.int l7), some (.int r6)], [.int r6], (h7, q))) rfl ?_
              cases hv
              exact sW.fin hs7 rfl
def o_names (S : SS) (t0 : Nat) (t1 : Nat) (p0 : Int32) (p1 : Int32) (p2 : Int32) : Option (Int32) := o_names_l17 S t0 t1 10000 p0 p1 p2 (imin (p1 - p0) (p2 - p1)) 0
theorem s143 {S : SS} {t0 : Nat} (ht0 : t0 ∈ shT) {t1 : Nat} (ht1 : t1 ∈ shT) {p0 : Int32} {p1 : Int32} {p2 : Int32} {v : Int32} (hs : cs h S) (hv : o_names S t0 t1 p0 p1 p2 = some v) : mW (d + 3) mm143 (0, [some (.ref 47), some (.ref t0), some (.ref t1), some (.int p0), some (.int p1), some (.int p2), none, none, none], [], (h, q)) (mQ q S (some (.int v))) := by
  unfold o_names at hv
  refine mW.sn 6 (g' := (9, [some (.ref 47), some (.ref t0), some (.ref t1), some (.int p0), some (.int p1), some (.int p2), none, none, none], [.int (p2 - p1), .int (p1 - p0)], (h, q))) rfl ?_
  refine sW.call rfl rfl rfl rfl rfl (sW.of hs (x29 (p1 - p0) (p2 - p1))) ?_
  intro h1 hs1
  refine mW.sn 3 (g' := (17, [some (.ref 47), some (.ref t0), some (.ref t1), some (.int p0), some (.int p1), some (.int p2), some (.int (imin (p1 - p0) (p2 - p1))), some (.int 0), none], [], (h1, q))) rfl ?_
  exact o_names_l17_ok ht0 ht1 _ _ _ _ _ _ _ _ _  hs1 hv
def o_arr_l18 (t0 : Nat) (t1 : Nat) (rec : SS → Nat → Int32 → Nat → Int32 → Int32 → Option (SS × Int32)) : Nat → SS → Int32 → Int32 → Int32 → Int32 → Option (SS × Int32)
  | 0, _, _, _, _, _ => none
  | n + 1, S, l5, l6, l7, l8 => (if (4096 : Int32) ≤ l8 then (if l6 = (-1 : Int32) then (if l7 = (-1 : Int32) then some (S, i_cmp 0 0) else some (S, i_cmp 0 1)) else (if l7 = (-1 : Int32) then some (S, i_cmp 1 0) else some (S, i_cmp 1 1))) else (if l6 = (-1 : Int32) then (if l7 = (-1 : Int32) then some (S, i_cmp 0 0) else some (S, i_cmp 0 1)) else (if l7 = (-1 : Int32) then some (S, i_cmp 1 0) else ((rec S t0 l6 t1 l7 (l5 + 1)).bind fun r19 => (if r19.2 = 0 then ((t_next (tT r19.1 t0) l6).bind fun r22 => ((t_next (tT r19.1 t1) l7).bind fun r24 => o_arr_l18 t0 t1 rec n r19.1 l5 r22 r24 (l8 + 1))) else some (r19.1, r19.2))))))
theorem o_arr_l18_ok {t0 : Nat} (ht0 : t0 ∈ shT) {t1 : Nat} (ht1 : t1 ∈ shT) {rec : SS → Nat → Int32 → Nat → Int32 → Int32 → Option (SS × Int32)} (hrec : ∀ (e : Nat), d ≤ e → ∀ (h : mH) (S : SS) (t0 : Nat) (p0 : Int32) (t1 : Nat) (p1 : Int32) (p2 : Int32) (v : SS × Int32), t0 ∈ shT → t1 ∈ shT → cs h S → rec S t0 p0 t1 p1 p2 = some v → mW e mm135 (0, [some (.ref 47), some (.ref t0), some (.int p0), some (.ref t1), some (.int p1), some (.int p2), none], [], (h, q)) (mQ q v.1 (some (.int v.2)))) : ∀ (n : Nat), ∀ (h : mH) (S : SS) (l5 : Int32) (l6 : Int32) (l7 : Int32) (l8 : Int32) (y2 : Int32) (y4 : Int32) (x9 : Option Value) (v : SS × Int32), cs h S → o_arr_l18 t0 t1 rec n S l5 l6 l7 l8 = some v → mW (d + 3) mm140 (18, [some (.ref 47), some (.ref t0), some (.int y2), some (.ref t1), some (.int y4), some (.int l5), some (.int l6), some (.int l7), some (.int l8), x9], [], (h, q)) (mQ q v.1 (some (.int v.2))) := by
  intro n
  induction n with
  | zero => intro h S l5 l6 l7 l8 y2 y4 x9 v hs hv; cases hv
  | succ n ih =>
    intro h S l5 l6 l7 l8 y2 y4 x9 v hs hv
    unfold o_arr_l18 at hv
    refine mW.sn 2 (g' := (23, [some (.ref 47), some (.ref t0), some (.int y2), some (.ref t1), some (.int y4), some (.int l5), some (.int l6), some (.int l7), some (.int l8), x9], [.int 4096, .int l8], (h, q))) rfl ?_
    refine mW.br (g1 := (84, [some (.ref 47), some (.ref t0), some (.int y2), some (.ref t1), some (.int y4), some (.int l5), some (.int l6), some (.int l7), some (.int l8), x9], [], (h, q))) (g2 := (26, [some (.ref 47), some (.ref t0), some (.int y2), some (.ref t1), some (.int y4), some (.int l5), some (.int l6), some (.int l7), some (.int l8), x9], [], (h, q))) (c := (4096 : Int32) ≤ l8) rfl (fun hc5 => ?_) (fun hc5 => ?_)
    · rw [if_pos hc5] at hv
      refine mW.sn 2 (g' := (87, [some (.ref 47), some (.ref t0), some (.int y2), some (.ref t1), some (.int y4), some (.int l5), some (.int l6), some (.int l7), some (.int l8), x9], [.int (-1), .int l6], (h, q))) rfl ?_
      refine mW.br (g1 := (90, [some (.ref 47), some (.ref t0), some (.int y2), some (.ref t1), some (.int y4), some (.int l5), some (.int l6), some (.int l7), some (.int l8), x9], [], (h, q))) (g2 := (94, [some (.ref 47), some (.ref t0), some (.int y2), some (.ref t1), some (.int y4), some (.int l5), some (.int l6), some (.int l7), some (.int l8), x9], [], (h, q))) (c := l6 = (-1 : Int32)) rfl (fun hc6 => ?_) (fun hc6 => ?_)
      · rw [if_pos hc6] at hv
        refine mW.sn 4 (g' := (98, [some (.ref 47), some (.ref t0), some (.int y2), some (.ref t1), some (.int y4), some (.int l5), some (.int l6), some (.int l7), some (.int l8), x9], [.int (-1), .int l7, .int 0], (h, q))) rfl ?_
        refine mW.br (g1 := (101, [some (.ref 47), some (.ref t0), some (.int y2), some (.ref t1), some (.int y4), some (.int l5), some (.int l6), some (.int l7), some (.int l8), x9], [.int 0], (h, q))) (g2 := (105, [some (.ref 47), some (.ref t0), some (.int y2), some (.ref t1), some (.int y4), some (.int l5), some (.int l6), some (.int l7), some (.int l8), x9], [.int 0], (h, q))) (c := l7 = (-1 : Int32)) rfl (fun hc7 => ?_) (fun hc7 => ?_)
        · rw [if_pos hc7] at hv
          refine mW.sn 2 (g' := (106, [some (.ref 47), some (.ref t0), some (.int y2), some (.ref t1), some (.int y4), some (.int l5), some (.int l6), some (.int l7), some (.int l8), x9], [.int 0, .int 0], (h, q))) rfl ?_
          refine sW.call rfl rfl rfl rfl rfl (sW.of hs (x136 0 0)) ?_
          intro h8 hs8
          cases hv
          exact sW.fin hs8 rfl
        · rw [if_neg hc7] at hv
          refine mW.sn 1 (g' := (106, [some (.ref 47), some (.ref t0), some (.int y2), some (.ref t1), some (.int y4), some (.int l5), some (.int l6), some (.int l7), some (.int l8), x9], [.int 1, .int 0], (h, q))) rfl ?_
          refine sW.call rfl rfl rfl rfl rfl (sW.of hs (x136 0 1)) ?_
          intro h9 hs9
          cases hv
          exact sW.fin hs9 rfl
      · rw [if_neg hc6] at hv
        refine mW.sn 3 (g' := (98, [some (.ref 47), some (.ref t0), some (.int y2), some (.ref t1), some (.int y4), some (.int l5), some (.int l6), some (.int l7), some (.int l8), x9], [.int (-1), .int l7, .int 1], (h, q))) rfl ?_
        refine mW.br (g1 := (101, [some (.ref 47), some (.ref t0), some (.int y2), some (.ref t1), some (.int y4), some (.int l5), some (.int l6), some (.int l7), some (.int l8), x9], [.int 1], (h, q))) (g2 := (105, [some (.ref 47), some (.ref t0), some (.int y2), some (.ref t1), some (.int y4), some (.int l5), some (.int l6), some (.int l7), some (.int l8), x9], [.int 1], (h, q))) (c := l7 = (-1 : Int32)) rfl (fun hc10 => ?_) (fun hc10 => ?_)
        · rw [if_pos hc10] at hv
          refine mW.sn 2 (g' := (106, [some (.ref 47), some (.ref t0), some (.int y2), some (.ref t1), some (.int y4), some (.int l5), some (.int l6), some (.int l7), some (.int l8), x9], [.int 0, .int 1], (h, q))) rfl ?_
          refine sW.call rfl rfl rfl rfl rfl (sW.of hs (x136 1 0)) ?_
          intro h11 hs11
          cases hv
          exact sW.fin hs11 rfl
        · rw [if_neg hc10] at hv
          refine mW.sn 1 (g' := (106, [some (.ref 47), some (.ref t0), some (.int y2), some (.ref t1), some (.int y4), some (.int l5), some (.int l6), some (.int l7), some (.int l8), x9], [.int 1, .int 1], (h, q))) rfl ?_
          refine sW.call rfl rfl rfl rfl rfl (sW.of hs (x136 1 1)) ?_
          intro h12 hs12
          cases hv
          exact sW.fin hs12 rfl
    · rw [if_neg hc5] at hv
      refine mW.sn 2 (g' := (29, [some (.ref 47), some (.ref t0), some (.int y2), some (.ref t1), some (.int y4), some (.int l5), some (.int l6), some (.int l7), some (.int l8), x9], [.int (-1), .int l6], (h, q))) rfl ?_
      refine mW.br (g1 := (84, [some (.ref 47), some (.ref t0), some (.int y2), some (.ref t1), some (.int y4), some (.int l5), some (.int l6), some (.int l7), some (.int l8), x9], [], (h, q))) (g2 := (32, [some (.ref 47), some (.ref t0), some (.int y2), some (.ref t1), some (.int y4), some (.int l5), some (.int l6), some (.int l7), some (.int l8), x9], [], (h, q))) (c := l6 = (-1 : Int32)) rfl (fun hc13 => ?_) (fun hc13 => ?_)
      · rw [if_pos hc13] at hv
        refine mW.sn 2 (g' := (87, [some (.ref 47), some (.ref t0), some (.int y2), some (.ref t1), some (.int y4), some (.int l5), some (.int l6), some (.int l7), some (.int l8), x9], [.int (-1), .int l6], (h, q))) rfl ?_
        refine mW.yes (g1 := (90, [some (.ref 47), some (.ref t0), some (.int y2), some (.ref t1), some (.int y4), some (.int l5), some (.int l6), some (.int l7), some (.int l8), x9], [], (h, q))) (g2 := (94, [some (.ref 47), some (.ref t0), some (.int y2), some (.ref t1), some (.int y4), some (.int l5), some (.int l6), some (.int l7), some (.int l8), x9], [], (h, q))) (c := l6 = (-1 : Int32)) rfl hc13 ?_
        refine mW.sn 4 (g' := (98, [some (.ref 47), some (.ref t0), some (.int y2), some (.ref t1), some (.int y4), some (.int l5), some (.int l6), some (.int l7), some (.int l8), x9], [.int (-1), .int l7, .int 0], (h, q))) rfl ?_
        refine mW.br (g1 := (101, [some (.ref 47), some (.ref t0), some (.int y2), some (.ref t1), some (.int y4), some (.int l5), some (.int l6), some (.int l7), some (.int l8), x9], [.int 0], (h, q))) (g2 := (105, [some (.ref 47), some (.ref t0), some (.int y2), some (.ref t1), some (.int y4), some (.int l5), some (.int l6), some (.int l7), some (.int l8), x9], [.int 0], (h, q))) (c := l7 = (-1 : Int32)) rfl (fun hc14 => ?_) (fun hc14 => ?_)
        · rw [if_pos hc14] at hv
          refine mW.sn 2 (g' := (106, [some (.ref 47), some (.ref t0), some (.int y2), some (.ref t1), some (.int y4), some (.int l5), some (.int l6), some (.int l7), some (.int l8), x9], [.int 0, .int 0], (h, q))) rfl ?_
          refine sW.call rfl rfl rfl rfl rfl (sW.of hs (x136 0 0)) ?_
          intro h15 hs15
          cases hv
          exact sW.fin hs15 rfl
        · rw [if_neg hc14] at hv
          refine mW.sn 1 (g' := (106, [some (.ref 47), some (.ref t0), some (.int y2), some (.ref t1), some (.int y4), some (.int l5), some (.int l6), some (.int l7), some (.int l8), x9], [.int 1, .int 0], (h, q))) rfl ?_
          refine sW.call rfl rfl rfl rfl rfl (sW.of hs (x136 0 1)) ?_
          intro h16 hs16
          cases hv
          exact sW.fin hs16 rfl
      · rw [if_neg hc13] at hv
        refine mW.sn 2 (g' := (35, [some (.ref 47), some (.ref t0), some (.int y2), some (.ref t1), some (.int y4), some (.int l5), some (.int l6), some (.int l7), some (.int l8), x9], [.int (-1), .int l7], (h, q))) rfl ?_
        refine mW.br (g1 := (84, [some (.ref 47), some (.ref t0), some (.int y2), some (.ref t1), some (.int y4), some (.int l5), some (.int l6), some (.int l7), some (.int l8), x9], [], (h, q))) (g2 := (38, [some (.ref 47), some (.ref t0), some (.int y2), some (.ref t1), some (.int y4), some (.int l5), some (.int l6), some (.int l7), some (.int l8), x9], [], (h, q))) (c := l7 = (-1 : Int32)) rfl (fun hc17 => ?_) (fun hc17 => ?_)
        · rw [if_pos hc17] at hv
          refine mW.sn 2 (g' := (87, [some (.ref 47), some (.ref t0), some (.int y2), some (.ref t1), some (.int y4), some (.int l5), some (.int l6), some (.int l7), some (.int l8), x9], [.int (-1), .int l6], (h, q))) rfl ?_
          refine mW.no (g1 := (90, [some (.ref 47), some (.ref t0), some (.int y2), some (.ref t1), some (.int y4), some (.int l5), some (.int l6), some (.int l7), some (.int l8), x9], [], (h, q))) (g2 := (94, [some (.ref 47), some (.ref t0), some (.int y2), some (.ref t1), some (.int y4), some (.int l5), some (.int l6), some (.int l7), some (.int l8), x9], [], (h, q))) (c := l6 = (-1 : Int32)) rfl hc13 ?_
          refine mW.sn 3 (g' := (98, [some (.ref 47), some (.ref t0), some (.int y2), some (.ref t1), some (.int y4), some (.int l5), some (.int l6), some (.int l7), some (.int l8), x9], [.int (-1), .int l7, .int 1], (h, q))) rfl ?_
          refine mW.yes (g1 := (101, [some (.ref 47), some (.ref t0), some (.int y2), some (.ref t1), some (.int y4), some (.int l5), some (.int l6), some (.int l7), some (.int l8), x9], [.int 1], (h, q))) (g2 := (105, [some (.ref 47), some (.ref t0), some (.int y2), some (.ref t1), some (.int y4), some (.int l5), some (.int l6), some (.int l7), some (.int l8), x9], [.int 1], (h, q))) (c := l7 = (-1 : Int32)) rfl hc17 ?_
          refine mW.sn 2 (g' := (106, [some (.ref 47), some (.ref t0), some (.int y2), some (.ref t1), some (.int y4), some (.int l5), some (.int l6), some (.int l7), some (.int l8), x9], [.int 0, .int 1], (h, q))) rfl ?_
          refine sW.call rfl rfl rfl rfl rfl (sW.of hs (x136 1 0)) ?_
          intro h18 hs18
          cases hv
          exact sW.fin hs18 rfl
        · rw [if_neg hc17] at hv
          refine mW.sn 8 (g' := (49, [some (.ref 47), some (.ref t0), some (.int y2), some (.ref t1), some (.int y4), some (.int l5), some (.int l6), some (.int l7), some (.int l8), x9], [.int (l5 + 1), .int l7, .ref t1, .int l6, .ref t0, .ref 47], (h, q))) rfl ?_
          cases hr19 : rec S t0 l6 t1 l7 (l5 + 1) with
          | none => rw [hr19] at hv; cases hv
          | some r19 =>
            rw [hr19, o_bind] at hv
            refine sW.call rfl rfl rfl rfl (hs.rcv o47) (hrec _ (by omega) _ _ _ _ _ _ _ _ ht0 ht1 hs hr19) ?_
            intro h20 hs20
            refine mW.sn 2 (g' := (56, [some (.ref 47), some (.ref t0), some (.int y2), some (.ref t1), some (.int y4), some (.int l5), some (.int l6), some (.int l7), some (.int l8), some (.int r19.2)], [.int r19.2], (h20, q))) rfl ?_
            refine mW.br (g1 := (62, [some (.ref 47), some (.ref t0), some (.int y2), some (.ref t1), some (.int y4), some (.int l5), some (.int l6), some (.int l7), some (.int l8), some (.int r19.2)], [], (h20, q))) (g2 := (59, [some (.ref 47), some (.ref t0), some (.int y2), some (.ref t1), some (.int y4), some (.int l5), some (.int l6), some (.int l7), some (.int l8), some (.int r19.2)], [], (h20, q))) (c := r19.2 = 0) rfl (fun hc21 => ?_) (fun hc21 => ?_)
            · rw [if_pos hc21] at hv
              refine mW.sn 2 (g' := (65, [some (.ref 47), some (.ref t0), some (.int y2), some (.ref t1), some (.int y4), some (.int l5), some (.int l6), some (.int l7), some (.int l8), some (.int r19.2)], [.int l6, .ref t0], (h20, q))) rfl ?_
              cases hr22 : t_next (tT r19.1 t0) l6 with
              | none => rw [hr22] at hv; cases hv
              | some r22 =>
                rw [hr22, o_bind] at hv
                refine sW.call rfl rfl rfl rfl (hs20.rcvT ht0) (sW.of hs20 (x81 (hs20.gtx ht0) hr22)) ?_
                intro h23 hs23
                refine mW.sn 3 (g' := (73, [some (.ref 47), some (.ref t0), some (.int y2), some (.ref t1), some (.int y4), some (.int l5), some (.int r22), some (.int l7), some (.int l8), some (.int r19.2)], [.int l7, .ref t1], (h23, q))) rfl ?_
                cases hr24 : t_next (tT r19.1 t1) l7 with
                | none => rw [hr24] at hv; cases hv
                | some r24 =>
                  rw [hr24, o_bind] at hv
                  refine sW.call rfl rfl rfl rfl (hs23.rcvT ht1) (sW.of hs23 (x81 (hs23.gtx ht1) hr24)) ?_
                  intro h25 hs25
                  refine mW.sn 3 (g' := (18, [some (.ref 47), some (.ref t0), some (.int y2), some (.ref t1), some (.int y4), some (.int l5), some (.int r22), some (.int r24), some (.int (l8 + 1)), some (.int r19.2)], [], (h25, q))) rfl ?_
                  exact ih _ _ _ _ _ _ _ _ _ _  hs25 hv
            · rw [if_neg hc21] at hv
              refine mW.sn 1 (g' := (61, [some (.ref 47), some (.ref t0), some (.int y2), some (.ref t1), some (.int y4), some (.int l5), some (.int l6), some (.int l7), some (.int l8), some (.int r19.2)], [.int r19.2], (h20, q))) rfl ?_
              cases hv
              exact sW.fin hs20 rfl
def o_arr (S : SS) (t0 : Nat) (t1 : Nat) (rec : SS → Nat → Int32 → Nat → Int32 → Int32 → Option (SS × Int32)) (p0 : Int32) (p1 : Int32) (p2 : Int32) : Option (SS × Int32) := ((t_first (tT S t0) p0).bind fun r1 => ((t_first (tT S t1) p1).bind fun r3 => o_arr_l18 t0 t1 rec 10000 S p2 r1 r3 0))
theorem s140 {S : SS} {t0 : Nat} (ht0 : t0 ∈ shT) {t1 : Nat} (ht1 : t1 ∈ shT) {rec : SS → Nat → Int32 → Nat → Int32 → Int32 → Option (SS × Int32)} (hrec : ∀ (e : Nat), d ≤ e → ∀ (h : mH) (S : SS) (t0 : Nat) (p0 : Int32) (t1 : Nat) (p1 : Int32) (p2 : Int32) (v : SS × Int32), t0 ∈ shT → t1 ∈ shT → cs h S → rec S t0 p0 t1 p1 p2 = some v → mW e mm135 (0, [some (.ref 47), some (.ref t0), some (.int p0), some (.ref t1), some (.int p1), some (.int p2), none], [], (h, q)) (mQ q v.1 (some (.int v.2)))) {p0 : Int32} {p1 : Int32} {p2 : Int32} {v : SS × Int32} (hs : cs h S) (hv : o_arr S t0 t1 rec p0 p1 p2 = some v) : mW (d + 3) mm140 (0, [some (.ref 47), some (.ref t0), some (.int p0), some (.ref t1), some (.int p1), some (.int p2), none, none, none, none], [], (h, q)) (mQ q v.1 (some (.int v.2))) := by
  unfold o_arr at hv
  refine mW.sn 2 (g' := (2, [some (.ref 47), some (.ref t0), some (.int p0), some (.ref t1), some (.int p1), some (.int p2), none, none, none, none], [.int p0, .ref t0], (h, q))) rfl ?_
  cases hr1 : t_first (tT S t0) p0 with
  | none => rw [hr1] at hv; cases hv
  | some r1 =>
    rw [hr1, o_bind] at hv
    refine sW.call rfl rfl rfl rfl (hs.rcvT ht0) (sW.of hs (x74 (hs.gtx ht0) hr1)) ?_
    intro h2 hs2
    refine mW.sn 3 (g' := (10, [some (.ref 47), some (.ref t0), some (.int p0), some (.ref t1), some (.int p1), some (.int p2), some (.int r1), none, none, none], [.int p1, .ref t1], (h2, q))) rfl ?_
    cases hr3 : t_first (tT S t1) p1 with
    | none => rw [hr3] at hv; cases hv
    | some r3 =>
      rw [hr3, o_bind] at hv
      refine sW.call rfl rfl rfl rfl (hs2.rcvT ht1) (sW.of hs2 (x74 (hs2.gtx ht1) hr3)) ?_
      intro h4 hs4
      refine mW.sn 3 (g' := (18, [some (.ref 47), some (.ref t0), some (.int p0), some (.ref t1), some (.int p1), some (.int p2), some (.int r1), some (.int r3), some (.int 0), none], [], (h4, q))) rfl ?_
      exact o_arr_l18_ok ht0 ht1 hrec _ _ _ _ _ _ _ _ _ _ _  hs4 hv
def o_obj_l48 (t0 : Nat) (t1 : Nat) (rec : SS → Nat → Int32 → Nat → Int32 → Int32 → Option (SS × Int32)) : Nat → SS → Int32 → Int32 → Int32 → Int32 → Int32 → Option (SS × Int32)
  | 0, _, _, _, _, _, _ => none
  | n + 1, S, l5, l6, l7, l9, l10 => (if (l7 - l6) ≤ l10 then some (wr S 47 1 l6, l9) else (if l9 = 0 then ((iget (S 48) (l6 + l10)).bind fun b10 => ((t_valueOf (tT S t0) b10).bind fun r11 => ((iget (S 48) (l7 + l10)).bind fun b13 => ((t_valueOf (tT S t1) b13).bind fun r14 => ((rec S t0 r11 t1 r14 (l5 + 1)).bind fun r16 => o_obj_l48 t0 t1 rec n r16.1 l5 l6 l7 r16.2 (l10 + 1)))))) else some (wr S 47 1 l6, l9)))
theorem o_obj_l48_ok {t0 : Nat} (ht0 : t0 ∈ shT) {t1 : Nat} (ht1 : t1 ∈ shT) {rec : SS → Nat → Int32 → Nat → Int32 → Int32 → Option (SS × Int32)} (hrec : ∀ (e : Nat), d ≤ e → ∀ (h : mH) (S : SS) (t0 : Nat) (p0 : Int32) (t1 : Nat) (p1 : Int32) (p2 : Int32) (v : SS × Int32), t0 ∈ shT → t1 ∈ shT → cs h S → rec S t0 p0 t1 p1 p2 = some v → mW e mm135 (0, [some (.ref 47), some (.ref t0), some (.int p0), some (.ref t1), some (.int p1), some (.int p2), none], [], (h, q)) (mQ q v.1 (some (.int v.2)))) : ∀ (n : Nat), ∀ (h : mH) (S : SS) (l5 : Int32) (l6 : Int32) (l7 : Int32) (l9 : Int32) (l10 : Int32) (y2 : Int32) (y4 : Int32) (y8 : Int32) (x11 : Option Value) (x12 : Option Value) (v : SS × Int32), cs h S → o_obj_l48 t0 t1 rec n S l5 l6 l7 l9 l10 = some v → mW (d + 4) mm141 (48, [some (.ref 47), some (.ref t0), some (.int y2), some (.ref t1), some (.int y4), some (.int l5), some (.int l6), some (.int l7), some (.int y8), some (.int l9), some (.int l10), x11, x12], [], (h, q)) (mQ q v.1 (some (.int v.2))) := by
  intro n
  induction n with
  | zero => intro h S l5 l6 l7 l9 l10 y2 y4 y8 x11 x12 v hs hv; cases hv
  | succ n ih =>
    intro h S l5 l6 l7 l9 l10 y2 y4 y8 x11 x12 v hs hv
    unfold o_obj_l48 at hv
    refine mW.sn 4 (g' := (55, [some (.ref 47), some (.ref t0), some (.int y2), some (.ref t1), some (.int y4), some (.int l5), some (.int l6), some (.int l7), some (.int y8), some (.int l9), some (.int l10), x11, x12], [.int (l7 - l6), .int l10], (h, q))) rfl ?_
    refine mW.br (g1 := (117, [some (.ref 47), some (.ref t0), some (.int y2), some (.ref t1), some (.int y4), some (.int l5), some (.int l6), some (.int l7), some (.int y8), some (.int l9), some (.int l10), x11, x12], [], (h, q))) (g2 := (58, [some (.ref 47), some (.ref t0), some (.int y2), some (.ref t1), some (.int y4), some (.int l5), some (.int l6), some (.int l7), some (.int y8), some (.int l9), some (.int l10), x11, x12], [], (h, q))) (c := (l7 - l6) ≤ l10) rfl (fun hc7 => ?_) (fun hc7 => ?_)
    · rw [if_pos hc7] at hv
      refine mW.sn 2 (g' := (120, [some (.ref 47), some (.ref t0), some (.int y2), some (.ref t1), some (.int y4), some (.int l5), some (.int l6), some (.int l7), some (.int y8), some (.int l9), some (.int l10), x11, x12], [.int l6, .ref 47], (h, q))) rfl ?_
      refine sW.putI rfl hs o47 rfl ?_
      intro h8 hs8
      refine mW.sn 1 (g' := (125, [some (.ref 47), some (.ref t0), some (.int y2), some (.ref t1), some (.int y4), some (.int l5), some (.int l6), some (.int l7), some (.int y8), some (.int l9), some (.int l10), x11, x12], [.int l9], (h8, q))) rfl ?_
      cases hv
      exact sW.fin hs8 rfl
    · rw [if_neg hc7] at hv
      refine mW.sn 1 (g' := (60, [some (.ref 47), some (.ref t0), some (.int y2), some (.ref t1), some (.int y4), some (.int l5), some (.int l6), some (.int l7), some (.int y8), some (.int l9), some (.int l10), x11, x12], [.int l9], (h, q))) rfl ?_
      refine mW.br (g1 := (63, [some (.ref 47), some (.ref t0), some (.int y2), some (.ref t1), some (.int y4), some (.int l5), some (.int l6), some (.int l7), some (.int y8), some (.int l9), some (.int l10), x11, x12], [], (h, q))) (g2 := (117, [some (.ref 47), some (.ref t0), some (.int y2), some (.ref t1), some (.int y4), some (.int l5), some (.int l6), some (.int l7), some (.int y8), some (.int l9), some (.int l10), x11, x12], [], (h, q))) (c := l9 = 0) rfl (fun hc9 => ?_) (fun hc9 => ?_)
      · rw [if_pos hc9] at hv
        refine mW.sn 2 (g' := (65, [some (.ref 47), some (.ref t0), some (.int y2), some (.ref t1), some (.int y4), some (.int l5), some (.int l6), some (.int l7), some (.int y8), some (.int l9), some (.int l10), x11, x12], [.ref 47, .ref t0], (h, q))) rfl ?_
        refine sW.getR rfl hs o47 rfl rfl ?_
        refine mW.sn 3 (g' := (73, [some (.ref 47), some (.ref t0), some (.int y2), some (.ref t1), some (.int y4), some (.int l5), some (.int l6), some (.int l7), some (.int y8), some (.int l9), some (.int l10), x11, x12], [.int (l6 + l10), .ref 48, .ref t0], (h, q))) rfl ?_
        cases hr10 : iget (S 48) (l6 + l10) with
        | none => rw [hr10] at hv; cases hv
        | some b10 =>
          rw [hr10, o_bind] at hv
          refine sW.iald rfl hs (by decide) hr10 ?_
          cases hr11 : t_valueOf (tT S t0) b10 with
          | none => rw [hr11] at hv; cases hv
          | some r11 =>
            rw [hr11, o_bind] at hv
            refine sW.call rfl rfl rfl rfl (hs.rcvT ht0) (sW.of hs (x82 (hs.gtx ht0) hr11)) ?_
            intro h12 hs12
            refine mW.sn 3 (g' := (81, [some (.ref 47), some (.ref t0), some (.int y2), some (.ref t1), some (.int y4), some (.int l5), some (.int l6), some (.int l7), some (.int y8), some (.int l9), some (.int l10), some (.int r11), x12], [.ref 47, .ref t1], (h12, q))) rfl ?_
            refine sW.getR rfl hs12 o47 rfl rfl ?_
            refine mW.sn 3 (g' := (89, [some (.ref 47), some (.ref t0), some (.int y2), some (.ref t1), some (.int y4), some (.int l5), some (.int l6), some (.int l7), some (.int y8), some (.int l9), some (.int l10), some (.int r11), x12], [.int (l7 + l10), .ref 48, .ref t1], (h12, q))) rfl ?_
            cases hr13 : iget (S 48) (l7 + l10) with
            | none => rw [hr13] at hv; cases hv
            | some b13 =>
              rw [hr13, o_bind] at hv
              refine sW.iald rfl hs12 (by decide) hr13 ?_
              cases hr14 : t_valueOf (tT S t1) b13 with
              | none => rw [hr14] at hv; cases hv
              | some r14 =>
                rw [hr14, o_bind] at hv
                refine sW.call rfl rfl rfl rfl (hs12.rcvT ht1) (sW.of hs12 (x82 (hs12.gtx ht1) hr14)) ?_
                intro h15 hs15
                refine mW.sn 9 (g' := (106, [some (.ref 47), some (.ref t0), some (.int y2), some (.ref t1), some (.int y4), some (.int l5), some (.int l6), some (.int l7), some (.int y8), some (.int l9), some (.int l10), some (.int r11), some (.int r14)], [.int (l5 + 1), .int r14, .ref t1, .int r11, .ref t0, .ref 47], (h15, q))) rfl ?_
                cases hr16 : rec S t0 r11 t1 r14 (l5 + 1) with
                | none => rw [hr16] at hv; cases hv
                | some r16 =>
                  rw [hr16, o_bind] at hv
                  refine sW.call rfl rfl rfl rfl (hs15.rcv o47) (hrec _ (by omega) _ _ _ _ _ _ _ _ ht0 ht1 hs15 hr16) ?_
                  intro h17 hs17
                  refine mW.sn 3 (g' := (48, [some (.ref 47), some (.ref t0), some (.int y2), some (.ref t1), some (.int y4), some (.int l5), some (.int l6), some (.int l7), some (.int y8), some (.int r16.2), some (.int (l10 + 1)), some (.int r11), some (.int r14)], [], (h17, q))) rfl ?_
                  exact ih _ _ _ _ _ _ _ _ _ _ _ _ _  hs17 hv
      · rw [if_neg hc9] at hv
        refine mW.sn 2 (g' := (120, [some (.ref 47), some (.ref t0), some (.int y2), some (.ref t1), some (.int y4), some (.int l5), some (.int l6), some (.int l7), some (.int y8), some (.int l9), some (.int l10), x11, x12], [.int l6, .ref 47], (h, q))) rfl ?_
        refine sW.putI rfl hs o47 rfl ?_
        intro h18 hs18
        refine mW.sn 1 (g' := (125, [some (.ref 47), some (.ref t0), some (.int y2), some (.ref t1), some (.int y4), some (.int l5), some (.int l6), some (.int l7), some (.int y8), some (.int l9), some (.int l10), x11, x12], [.int l9], (h18, q))) rfl ?_
        cases hv
        exact sW.fin hs18 rfl
def o_obj (S : SS) (t0 : Nat) (t1 : Nat) (rec : SS → Nat → Int32 → Nat → Int32 → Int32 → Option (SS × Int32)) (p0 : Int32) (p1 : Int32) (p2 : Int32) : Option (SS × Int32) := ((o_gather S t0 p0).bind fun r1 => ((o_gather r1 t1 p1).bind fun r3 => ((o_names r3 t0 t1 (rd S 47 1) (rd r1 47 1) (rd r3 47 1)).bind fun r5 => o_obj_l48 t0 t1 rec 10000 r3 p2 (rd S 47 1) (rd r1 47 1) r5 0)))
theorem s141 {S : SS} {t0 : Nat} (ht0 : t0 ∈ shT) {t1 : Nat} (ht1 : t1 ∈ shT) {rec : SS → Nat → Int32 → Nat → Int32 → Int32 → Option (SS × Int32)} (hrec : ∀ (e : Nat), d ≤ e → ∀ (h : mH) (S : SS) (t0 : Nat) (p0 : Int32) (t1 : Nat) (p1 : Int32) (p2 : Int32) (v : SS × Int32), t0 ∈ shT → t1 ∈ shT → cs h S → rec S t0 p0 t1 p1 p2 = some v → mW e mm135 (0, [some (.ref 47), some (.ref t0), some (.int p0), some (.ref t1), some (.int p1), some (.int p2), none], [], (h, q)) (mQ q v.1 (some (.int v.2)))) {p0 : Int32} {p1 : Int32} {p2 : Int32} {v : SS × Int32} (hs : cs h S) (hv : o_obj S t0 t1 rec p0 p1 p2 = some v) : mW (d + 4) mm141 (0, [some (.ref 47), some (.ref t0), some (.int p0), some (.ref t1), some (.int p1), some (.int p2), none, none, none, none, none, none, none], [], (h, q)) (mQ q v.1 (some (.int v.2))) := by
  unfold o_obj at hv
  refine mW.sn 1 (g' := (1, [some (.ref 47), some (.ref t0), some (.int p0), some (.ref t1), some (.int p1), some (.int p2), none, none, none, none, none, none, none], [.ref 47], (h, q))) rfl ?_
  refine sW.getI rfl hs o47 rfl rfl ?_
  refine mW.sn 4 (g' := (9, [some (.ref 47), some (.ref t0), some (.int p0), some (.ref t1), some (.int p1), some (.int p2), some (.int (rd S 47 1)), none, none, none, none, none, none], [.int p0, .ref t0, .ref 47], (h, q))) rfl ?_
  cases hr1 : o_gather S t0 p0 with
  | none => rw [hr1] at hv; cases hv
  | some r1 =>
    rw [hr1, o_bind] at hv
    refine sW.call rfl rfl rfl rfl (hs.rcv o47) (s142 ht0 hs hr1) ?_
    intro h2 hs2
    refine mW.sn 1 (g' := (13, [some (.ref 47), some (.ref t0), some (.int p0), some (.ref t1), some (.int p1), some (.int p2), some (.int (rd S 47 1)), none, none, none, none, none, none], [.ref 47], (h2, q))) rfl ?_
    refine sW.getI rfl hs2 o47 rfl rfl ?_
    refine mW.sn 4 (g' := (22, [some (.ref 47), some (.ref t0), some (.int p0), some (.ref t1), some (.int p1), some (.int p2), some (.int (rd S 47 1)), some (.int (rd r1 47 1)), none, none, none, none, none], [.int p1, .ref t1, .ref 47], (h2, q))) rfl ?_
    cases hr3 : o_gather r1 t1 p1 with
    | none => rw [hr3] at hv; cases hv
    | some r3 =>
      rw [hr3, o_bind] at hv
      refine sW.call rfl rfl rfl rfl (hs2.rcv o47) (s142 ht1 hs2 hr3) ?_
      intro h4 hs4
      refine mW.sn 1 (g' := (26, [some (.ref 47), some (.ref t0), some (.int p0), some (.ref t1), some (.int p1), some (.int p2), some (.int (rd S 47 1)), some (.int (rd r1 47 1)), none, none, none, none, none], [.ref 47], (h4, q))) rfl ?_
      refine sW.getI rfl hs4 o47 rfl rfl ?_
      refine mW.sn 7 (g' := (40, [some (.ref 47), some (.ref t0), some (.int p0), some (.ref t1), some (.int p1), some (.int p2), some (.int (rd S 47 1)), some (.int (rd r1 47 1)), some (.int (rd r3 47 1)), none, none, none, none], [.int (rd r3 47 1), .int (rd r1 47 1), .int (rd S 47 1), .ref t1, .ref t0, .ref 47], (h4, q))) rfl ?_
      cases hr5 : o_names r3 t0 t1 (rd S 47 1) (rd r1 47 1) (rd r3 47 1) with
      | none => rw [hr5] at hv; cases hv
      | some r5 =>
        rw [hr5, o_bind] at hv
        refine sW.call rfl rfl rfl rfl (hs4.rcv o47) (s143 ht0 ht1 hs4 hr5) ?_
        intro h6 hs6
        refine mW.sn 3 (g' := (48, [some (.ref 47), some (.ref t0), some (.int p0), some (.ref t1), some (.int p1), some (.int p2), some (.int (rd S 47 1)), some (.int (rd r1 47 1)), some (.int (rd r3 47 1)), some (.int r5), some (.int 0), none, none], [], (h6, q))) rfl ?_
        exact o_obj_l48_ok ht0 ht1 hrec _ _ _ _ _ _ _ _ _ _ _ _ _ _  hs6 hv
def o_cmpB (S : SS) (t0 : Nat) (t1 : Nat) (rec : SS → Nat → Int32 → Nat → Int32 → Int32 → Option (SS × Int32)) (p0 : Int32) (p1 : Int32) (p2 : Int32) : Option (SS × Int32) := ((t_kind (tT S t0) p0).bind fun r1 => ((t_kind (tT S t1) p1).bind fun r3 => (if r1 = r3 then (if p2 ≤ (60 : Int32) then (if r1 = (3 : Int32) then ((t_number (tT S t0) p0).bind fun r8 => ((t_number (tT S t1) p1).bind fun r10 => some (S, l_cmp r8 r10))) else (if r1 = (4 : Int32) then ((o_str S t0 t1 p0 p1).bind fun r14 => some (S, r14)) else (if r1 = (5 : Int32) then ((o_arr S t0 t1 rec p0 p1 p2).bind fun r17 => some (r17.1, r17.2)) else (if r1 = (6 : Int32) then ((o_obj S t0 t1 rec p0 p1 p2).bind fun r20 => some (r20.1, r20.2)) else some (S, 0))))) else some (S, 0)) else some (S, i_cmp r1 r3))))
theorem s135 {S : SS} {t0 : Nat} (ht0 : t0 ∈ shT) {t1 : Nat} (ht1 : t1 ∈ shT) {rec : SS → Nat → Int32 → Nat → Int32 → Int32 → Option (SS × Int32)} (hrec : ∀ (e : Nat), d ≤ e → ∀ (h : mH) (S : SS) (t0 : Nat) (p0 : Int32) (t1 : Nat) (p1 : Int32) (p2 : Int32) (v : SS × Int32), t0 ∈ shT → t1 ∈ shT → cs h S → rec S t0 p0 t1 p1 p2 = some v → mW e mm135 (0, [some (.ref 47), some (.ref t0), some (.int p0), some (.ref t1), some (.int p1), some (.int p2), none], [], (h, q)) (mQ q v.1 (some (.int v.2)))) {p0 : Int32} {p1 : Int32} {p2 : Int32} {v : SS × Int32} (hs : cs h S) (hv : o_cmpB S t0 t1 rec p0 p1 p2 = some v) : mW (d + 5) mm135 (0, [some (.ref 47), some (.ref t0), some (.int p0), some (.ref t1), some (.int p1), some (.int p2), none], [], (h, q)) (mQ q v.1 (some (.int v.2))) := by
  unfold o_cmpB at hv
  refine mW.sn 2 (g' := (2, [some (.ref 47), some (.ref t0), some (.int p0), some (.ref t1), some (.int p1), some (.int p2), none], [.int p0, .ref t0], (h, q))) rfl ?_
  cases hr1 : t_kind (tT S t0) p0 with
  | none => rw [hr1] at hv; cases hv
  | some r1 =>
    rw [hr1, o_bind] at hv
    refine sW.call rfl rfl rfl rfl (hs.rcvT ht0) (sW.of hs (x70 (hs.gtx ht0) hr1)) ?_
    intro h2 hs2
    refine mW.sn 4 (g' := (12, [some (.ref 47), some (.ref t0), some (.int p0), some (.ref t1), some (.int p1), some (.int p2), some (.int r1)], [.int p1, .ref t1, .int r1], (h2, q))) rfl ?_
    cases hr3 : t_kind (tT S t1) p1 with
    | none => rw [hr3] at hv; cases hv
    | some r3 =>
      rw [hr3, o_bind] at hv
      refine sW.call rfl rfl rfl rfl (hs2.rcvT ht1) (sW.of hs2 (x70 (hs2.gtx ht1) hr3)) ?_
      intro h4 hs4
      refine mW.br (g1 := (30, [some (.ref 47), some (.ref t0), some (.int p0), some (.ref t1), some (.int p1), some (.int p2), some (.int r1)], [], (h4, q))) (g2 := (18, [some (.ref 47), some (.ref t0), some (.int p0), some (.ref t1), some (.int p1), some (.int p2), some (.int r1)], [], (h4, q))) (c := r1 = r3) rfl (fun hc5 => ?_) (fun hc5 => ?_)
      · rw [if_pos hc5] at hv
        refine mW.sn 2 (g' := (34, [some (.ref 47), some (.ref t0), some (.int p0), some (.ref t1), some (.int p1), some (.int p2), some (.int r1)], [.int 60, .int p2], (h4, q))) rfl ?_
        refine mW.br (g1 := (39, [some (.ref 47), some (.ref t0), some (.int p0), some (.ref t1), some (.int p1), some (.int p2), some (.int r1)], [], (h4, q))) (g2 := (37, [some (.ref 47), some (.ref t0), some (.int p0), some (.ref t1), some (.int p1), some (.int p2), some (.int r1)], [], (h4, q))) (c := p2 ≤ (60 : Int32)) rfl (fun hc6 => ?_) (fun hc6 => ?_)
        · rw [if_pos hc6] at hv
          refine mW.sn 1 (g' := (41, [some (.ref 47), some (.ref t0), some (.int p0), some (.ref t1), some (.int p1), some (.int p2), some (.int r1)], [.int r1], (h4, q))) rfl ?_
          by_cases hc7 : r1 = (3 : Int32)
          · rw [if_pos hc7] at hv
            refine mW.sn 1 (g' := (72, [some (.ref 47), some (.ref t0), some (.int p0), some (.ref t1), some (.int p1), some (.int p2), some (.int r1)], [], (h4, q))) (by rw [hc7]; rfl) ?_
            refine mW.sn 2 (g' := (74, [some (.ref 47), some (.ref t0), some (.int p0), some (.ref t1), some (.int p1), some (.int p2), some (.int r1)], [.int p0, .ref t0], (h4, q))) rfl ?_
            cases hr8 : t_number (tT S t0) p0 with
            | none => rw [hr8] at hv; cases hv
            | some r8 =>
              rw [hr8, o_bind] at hv
              refine sW.call rfl rfl rfl rfl (hs4.rcvT ht0) (sW.of hs4 (x84 (hs4.gtx ht0) hr8)) ?_
              intro h9 hs9
              refine mW.sn 2 (g' := (80, [some (.ref 47), some (.ref t0), some (.int p0), some (.ref t1), some (.int p1), some (.int p2), some (.int r1)], [.int p1, .ref t1, .long r8], (h9, q))) rfl ?_
              cases hr10 : t_number (tT S t1) p1 with
              | none => rw [hr10] at hv; cases hv
              | some r10 =>
                rw [hr10, o_bind] at hv
                refine sW.call rfl rfl rfl rfl (hs9.rcvT ht1) (sW.of hs9 (x84 (hs9.gtx ht1) hr10)) ?_
                intro h11 hs11
                refine sW.call rfl rfl rfl rfl rfl (sW.of hs11 (x137 r8 r10)) ?_
                intro h12 hs12
                cases hv
                exact sW.fin hs12 rfl
          rw [if_neg hc7] at hv
          by_cases hc13 : r1 = (4 : Int32)
          · rw [if_pos hc13] at hv
            refine mW.sn 1 (g' := (87, [some (.ref 47), some (.ref t0), some (.int p0), some (.ref t1), some (.int p1), some (.int p2), some (.int r1)], [], (h4, q))) (by rw [hc13]; rfl) ?_
            refine mW.sn 4 (g' := (92, [some (.ref 47), some (.ref t0), some (.int p0), some (.ref t1), some (.int p1), some (.int p2), some (.int r1)], [.int p1, .ref t1, .int p0, .ref t0], (h4, q))) rfl ?_
            cases hr14 : o_str S t0 t1 p0 p1 with
            | none => rw [hr14] at hv; cases hv
            | some r14 =>
              rw [hr14, o_bind] at hv
              refine sW.call rfl rfl rfl rfl rfl (s138 ht0 ht1 hs4 hr14) ?_
              intro h15 hs15
              cases hv
              exact sW.fin hs15 rfl
          rw [if_neg hc13] at hv
          by_cases hc16 : r1 = (5 : Int32)
          · rw [if_pos hc16] at hv
            refine mW.sn 1 (g' := (96, [some (.ref 47), some (.ref t0), some (.int p0), some (.ref t1), some (.int p1), some (.int p2), some (.int r1)], [], (h4, q))) (by rw [hc16]; rfl) ?_
            refine mW.sn 6 (g' := (104, [some (.ref 47), some (.ref t0), some (.int p0), some (.ref t1), some (.int p1), some (.int p2), some (.int r1)], [.int p2, .int p1, .ref t1, .int p0, .ref t0, .ref 47], (h4, q))) rfl ?_
            cases hr17 : o_arr S t0 t1 rec p0 p1 p2 with
            | none => rw [hr17] at hv; cases hv
            | some r17 =>
              rw [hr17, o_bind] at hv
              refine sW.call rfl rfl rfl rfl (hs4.rcv o47) (s140 ht0 ht1 (fun e he => hrec e (by omega)) hs4 hr17) ?_
              intro h18 hs18
              cases hv
              exact sW.fin hs18 rfl
          rw [if_neg hc16] at hv
          by_cases hc19 : r1 = (6 : Int32)
          · rw [if_pos hc19] at hv
            refine mW.sn 1 (g' := (108, [some (.ref 47), some (.ref t0), some (.int p0), some (.ref t1), some (.int p1), some (.int p2), some (.int r1)], [], (h4, q))) (by rw [hc19]; rfl) ?_
            refine mW.sn 6 (g' := (116, [some (.ref 47), some (.ref t0), some (.int p0), some (.ref t1), some (.int p1), some (.int p2), some (.int r1)], [.int p2, .int p1, .ref t1, .int p0, .ref t0, .ref 47], (h4, q))) rfl ?_
            cases hr20 : o_obj S t0 t1 rec p0 p1 p2 with
            | none => rw [hr20] at hv; cases hv
            | some r20 =>
              rw [hr20, o_bind] at hv
              refine sW.call rfl rfl rfl rfl (hs4.rcv o47) (s141 ht0 ht1 (fun e he => hrec e (by omega)) hs4 hr20) ?_
              intro h21 hs21
              cases hv
              exact sW.fin hs21 rfl
          rw [if_neg hc19] at hv
          have hd21 : m_tsw 41 79 3 6 #[31, 46, 55, 67] r1 = 120 := by
            have n7 : ¬ (3 : Int) = r1.toInt := fun e => hc7 (Int32.toInt_inj.mp (e.symm.trans rfl))
            have n13 : ¬ (4 : Int) = r1.toInt := fun e => hc13 (Int32.toInt_inj.mp (e.symm.trans rfl))
            have n16 : ¬ (5 : Int) = r1.toInt := fun e => hc16 (Int32.toInt_inj.mp (e.symm.trans rfl))
            have n19 : ¬ (6 : Int) = r1.toInt := fun e => hc19 (Int32.toInt_inj.mp (e.symm.trans rfl))
            exact m_tsw_out _ _ _ _ _ _ (by omega)
          refine mW.sn 1 (g' := (120, [some (.ref 47), some (.ref t0), some (.int p0), some (.ref t1), some (.int p1), some (.int p2), some (.int r1)], [], (h4, q))) (by rw [← hd21]; rfl) ?_
          refine mW.sn 1 (g' := (121, [some (.ref 47), some (.ref t0), some (.int p0), some (.ref t1), some (.int p1), some (.int p2), some (.int r1)], [.int 0], (h4, q))) rfl ?_
          cases hv
          exact sW.fin hs4 rfl
        · rw [if_neg hc6] at hv
          refine mW.sn 1 (g' := (38, [some (.ref 47), some (.ref t0), some (.int p0), some (.ref t1), some (.int p1), some (.int p2), some (.int r1)], [.int 0], (h4, q))) rfl ?_
          cases hv
          exact sW.fin hs4 rfl
      · rw [if_neg hc5] at hv
        refine mW.sn 3 (g' := (23, [some (.ref 47), some (.ref t0), some (.int p0), some (.ref t1), some (.int p1), some (.int p2), some (.int r1)], [.int p1, .ref t1, .int r1], (h4, q))) rfl ?_
        refine sW.call rfl rfl rfl rfl (hs4.rcvT ht1) (sW.of hs4 (x70 (hs4.gtx ht1) hr3)) ?_
        intro h22 hs22
        refine sW.call rfl rfl rfl rfl rfl (sW.of hs22 (x136 r1 r3)) ?_
        intro h23 hs23
        cases hv
        exact sW.fin hs23 rfl
def o_cmp : Nat → SS → Nat → Int32 → Nat → Int32 → Int32 → Option (SS × Int32)
  | 0, _, _, _, _, _, _ => none
  | n + 1, S, t0, p0, t1, p1, p2 => o_cmpB S t0 t1 (o_cmp n) p0 p1 p2
theorem o_cmp_ok : ∀ (n e : Nat), 5 * n ≤ e → ∀ (h : mH) (S : SS) (t0 : Nat) (p0 : Int32) (t1 : Nat) (p1 : Int32) (p2 : Int32) (v : SS × Int32), t0 ∈ shT → t1 ∈ shT → cs h S → o_cmp n S t0 p0 t1 p1 p2 = some v → mW e mm135 (0, [some (.ref 47), some (.ref t0), some (.int p0), some (.ref t1), some (.int p1), some (.int p2), none], [], (h, q)) (mQ q v.1 (some (.int v.2))) := by
  intro n
  induction n with
  | zero => intro e he h S t0 p0 t1 p1 p2 v g0 g1 hs hv; cases hv
  | succ n ih =>
    intro e he h S t0 p0 t1 p1 p2 v g0 g1 hs hv
    have := s135 (d := e - 5) (q := q) g0 g1 (rec := o_cmp n) (fun e' he' => ih e' (by omega)) hs hv
    rw [show e = e - 5 + 5 by omega]
    exact this
end
