/-! PRINTED BY wip/whole (dec2): the class's Cutter and Lister. -/
section
set_option maxRecDepth 4000
variable {d : Nat} {h : mH} {q : Nat × Nat}
def k_paths (S : SS) : Option (Int32) := some (imin (rd S 72 4) 100)
theorem s134 {S : SS} {v : Int32} (hs : cs h S) (hv : k_paths S = some v) : mW (d + 1) mm134 (0, [some (.ref 72)], [], (h, q)) (mQ q S (some (.int v))) := by
  unfold k_paths at hv
  refine mW.sn 1 (g' := (1, [some (.ref 72)], [.ref 72], (h, q))) rfl ?_
  refine sW.getI rfl hs o72 rfl rfl ?_
  refine mW.sn 1 (g' := (6, [some (.ref 72)], [.int 100, .int (rd S 72 4)], (h, q))) rfl ?_
  refine sW.call rfl rfl rfl rfl rfl (sW.of hs (x29 (rd S 72 4) 100)) ?_
  intro h1 hs1
  cases hv
  exact sW.fin hs1 rfl
def k_lookAt_l29 (t0 : Nat) : Nat → SS → Int32 → Int32 → Option (SS × Int32)
  | 0, _, _, _ => none
  | n + 1, S, l2, l3 => (if l3 = (-1 : Int32) then some (S, l2) else (if (4096 : Int32) ≤ (rd S 72 4) then some (S, l2) else ((t_kind (tT S t0) l3).bind fun r10 => (if r10 = (5 : Int32) then ((t_items (tT S t0) l3).bind fun r13 => (if r13 ≤ (100 : Int32) then (if (100 : Int32) ≤ (rd S 72 4) then ((t_next (tT (wr (wr S 72 4 ((rd S 72 4) + 1)) 72 5 ((rd (wr S 72 4 ((rd S 72 4) + 1)) 72 5) + r13)) t0) l3).bind fun r19 => k_lookAt_l29 t0 n (wr (wr S 72 4 ((rd S 72 4) + 1)) 72 5 ((rd (wr S 72 4 ((rd S 72 4) + 1)) 72 5) + r13)) l2 r19) else ((iset (S 74) (rd S 72 4) l3).bind fun z21 => ((t_next (tT (wr (wr (up S 74 z21) 72 4 ((rd (up S 74 z21) 72 4) + 1)) 72 5 ((rd (wr (up S 74 z21) 72 4 ((rd (up S 74 z21) 72 4) + 1)) 72 5) + r13)) t0) l3).bind fun r25 => k_lookAt_l29 t0 n (wr (wr (up S 74 z21) 72 4 ((rd (up S 74 z21) 72 4) + 1)) 72 5 ((rd (wr (up S 74 z21) 72 4 ((rd (up S 74 z21) 72 4) + 1)) 72 5) + r13)) l2 r25))) else (if (100 : Int32) ≤ (rd S 72 4) then ((t_next (tT (wr (wr S 72 4 ((rd S 72 4) + 1)) 72 5 ((rd (wr S 72 4 ((rd S 72 4) + 1)) 72 5) + r13)) t0) l3).bind fun r30 => k_lookAt_l29 t0 n (wr (wr S 72 4 ((rd S 72 4) + 1)) 72 5 ((rd (wr S 72 4 ((rd S 72 4) + 1)) 72 5) + r13)) 2 r30) else ((iset (S 74) (rd S 72 4) l3).bind fun z32 => ((t_next (tT (wr (wr (up S 74 z32) 72 4 ((rd (up S 74 z32) 72 4) + 1)) 72 5 ((rd (wr (up S 74 z32) 72 4 ((rd (up S 74 z32) 72 4) + 1)) 72 5) + r13)) t0) l3).bind fun r36 => k_lookAt_l29 t0 n (wr (wr (up S 74 z32) 72 4 ((rd (up S 74 z32) 72 4) + 1)) 72 5 ((rd (wr (up S 74 z32) 72 4 ((rd (up S 74 z32) 72 4) + 1)) 72 5) + r13)) 2 r36))))) else some (S, 1)))))
theorem k_lookAt_l29_ok {t0 : Nat} (ht0 : t0 ∈ shT) : ∀ (n : Nat), ∀ (h : mH) (S : SS) (l2 : Int32) (l3 : Int32) (x4 : Option Value) (v : SS × Int32), cs h S → k_lookAt_l29 t0 n S l2 l3 = some v → mW (d + 4) mm131 (29, [some (.ref 72), some (.ref t0), some (.int l2), some (.int l3), x4], [], (h, q)) (mQ q v.1 (some (.int v.2))) := by
  intro n
  induction n with
  | zero => intro h S l2 l3 x4 v hs hv; cases hv
  | succ n ih =>
    intro h S l2 l3 x4 v hs hv
    unfold k_lookAt_l29 at hv
    refine mW.sn 2 (g' := (31, [some (.ref 72), some (.ref t0), some (.int l2), some (.int l3), x4], [.int (-1), .int l3], (h, q))) rfl ?_
    refine mW.br (g1 := (120, [some (.ref 72), some (.ref t0), some (.int l2), some (.int l3), x4], [], (h, q))) (g2 := (34, [some (.ref 72), some (.ref t0), some (.int l2), some (.int l3), x4], [], (h, q))) (c := l3 = (-1 : Int32)) rfl (fun hc8 => ?_) (fun hc8 => ?_)
    · rw [if_pos hc8] at hv
      refine mW.sn 1 (g' := (121, [some (.ref 72), some (.ref t0), some (.int l2), some (.int l3), x4], [.int l2], (h, q))) rfl ?_
      cases hv
      exact sW.fin hs rfl
    · rw [if_neg hc8] at hv
      refine mW.sn 1 (g' := (35, [some (.ref 72), some (.ref t0), some (.int l2), some (.int l3), x4], [.ref 72], (h, q))) rfl ?_
      refine sW.getI rfl hs o72 rfl rfl ?_
      refine mW.sn 1 (g' := (41, [some (.ref 72), some (.ref t0), some (.int l2), some (.int l3), x4], [.int 4096, .int (rd S 72 4)], (h, q))) rfl ?_
      refine mW.br (g1 := (120, [some (.ref 72), some (.ref t0), some (.int l2), some (.int l3), x4], [], (h, q))) (g2 := (44, [some (.ref 72), some (.ref t0), some (.int l2), some (.int l3), x4], [], (h, q))) (c := (4096 : Int32) ≤ (rd S 72 4)) rfl (fun hc9 => ?_) (fun hc9 => ?_)
      · rw [if_pos hc9] at hv
        refine mW.sn 1 (g' := (121, [some (.ref 72), some (.ref t0), some (.int l2), some (.int l3), x4], [.int l2], (h, q))) rfl ?_
        cases hv
        exact sW.fin hs rfl
      · rw [if_neg hc9] at hv
        refine mW.sn 2 (g' := (46, [some (.ref 72), some (.ref t0), some (.int l2), some (.int l3), x4], [.int l3, .ref t0], (h, q))) rfl ?_
        cases hr10 : t_kind (tT S t0) l3 with
        | none => rw [hr10] at hv; cases hv
        | some r10 =>
          rw [hr10, o_bind] at hv
          refine sW.call rfl rfl rfl rfl (hs.rcvT ht0) (sW.of hs (x70 (hs.gtx ht0) hr10)) ?_
          intro h11 hs11
          refine mW.sn 1 (g' := (50, [some (.ref 72), some (.ref t0), some (.int l2), some (.int l3), x4], [.int 5, .int r10], (h11, q))) rfl ?_
          refine mW.br (g1 := (55, [some (.ref 72), some (.ref t0), some (.int l2), some (.int l3), x4], [], (h11, q))) (g2 := (53, [some (.ref 72), some (.ref t0), some (.int l2), some (.int l3), x4], [], (h11, q))) (c := r10 = (5 : Int32)) rfl (fun hc12 => ?_) (fun hc12 => ?_)
          · rw [if_pos hc12] at hv
            refine mW.sn 2 (g' := (57, [some (.ref 72), some (.ref t0), some (.int l2), some (.int l3), x4], [.int l3, .ref t0], (h11, q))) rfl ?_
            cases hr13 : t_items (tT S t0) l3 with
            | none => rw [hr13] at hv; cases hv
            | some r13 =>
              rw [hr13, o_bind] at hv
              refine sW.call rfl rfl rfl rfl (hs11.rcvT ht0) (sW.of hs11 (x86 (hs11.gtx ht0) hr13)) ?_
              intro h14 hs14
              refine mW.sn 3 (g' := (66, [some (.ref 72), some (.ref t0), some (.int l2), some (.int l3), some (.int r13)], [.int 100, .int r13], (h14, q))) rfl ?_
              refine mW.br (g1 := (71, [some (.ref 72), some (.ref t0), some (.int l2), some (.int l3), some (.int r13)], [], (h14, q))) (g2 := (69, [some (.ref 72), some (.ref t0), some (.int l2), some (.int l3), some (.int r13)], [], (h14, q))) (c := r13 ≤ (100 : Int32)) rfl (fun hc15 => ?_) (fun hc15 => ?_)
              · rw [if_pos hc15] at hv
                refine mW.sn 1 (g' := (72, [some (.ref 72), some (.ref t0), some (.int l2), some (.int l3), some (.int r13)], [.ref 72], (h14, q))) rfl ?_
                refine sW.getI rfl hs14 o72 rfl rfl ?_
                refine mW.sn 1 (g' := (77, [some (.ref 72), some (.ref t0), some (.int l2), some (.int l3), some (.int r13)], [.int 100, .int (rd S 72 4)], (h14, q))) rfl ?_
                refine mW.br (g1 := (90, [some (.ref 72), some (.ref t0), some (.int l2), some (.int l3), some (.int r13)], [], (h14, q))) (g2 := (80, [some (.ref 72), some (.ref t0), some (.int l2), some (.int l3), some (.int r13)], [], (h14, q))) (c := (100 : Int32) ≤ (rd S 72 4)) rfl (fun hc16 => ?_) (fun hc16 => ?_)
                · rw [if_pos hc16] at hv
                  refine mW.sn 2 (g' := (92, [some (.ref 72), some (.ref t0), some (.int l2), some (.int l3), some (.int r13)], [.ref 72, .ref 72], (h14, q))) rfl ?_
                  refine sW.getI rfl hs14 o72 rfl rfl ?_
                  refine mW.sn 2 (g' := (97, [some (.ref 72), some (.ref t0), some (.int l2), some (.int l3), some (.int r13)], [.int ((rd S 72 4) + 1), .ref 72], (h14, q))) rfl ?_
                  refine sW.putI rfl hs14 o72 rfl ?_
                  intro h17 hs17
                  refine mW.sn 2 (g' := (102, [some (.ref 72), some (.ref t0), some (.int l2), some (.int l3), some (.int r13)], [.ref 72, .ref 72], (h17, q))) rfl ?_
                  refine sW.getI rfl hs17 o72 rfl rfl ?_
                  refine mW.sn 2 (g' := (108, [some (.ref 72), some (.ref t0), some (.int l2), some (.int l3), some (.int r13)], [.int ((rd (wr S 72 4 ((rd S 72 4) + 1)) 72 5) + r13), .ref 72], (h17, q))) rfl ?_
                  refine sW.putI rfl hs17 o72 rfl ?_
                  intro h18 hs18
                  refine mW.sn 2 (g' := (113, [some (.ref 72), some (.ref t0), some (.int l2), some (.int l3), some (.int r13)], [.int l3, .ref t0], (h18, q))) rfl ?_
                  cases hr19 : t_next (tT (wr (wr S 72 4 ((rd S 72 4) + 1)) 72 5 ((rd (wr S 72 4 ((rd S 72 4) + 1)) 72 5) + r13)) t0) l3 with
                  | none => rw [hr19] at hv; cases hv
                  | some r19 =>
                    rw [hr19, o_bind] at hv
                    refine sW.call rfl rfl rfl rfl (hs18.rcvT ht0) (sW.of hs18 (x81 (hs18.gtx ht0) hr19)) ?_
                    intro h20 hs20
                    refine mW.sn 2 (g' := (29, [some (.ref 72), some (.ref t0), some (.int l2), some (.int r19), some (.int r13)], [], (h20, q))) rfl ?_
                    exact ih _ _ _ _ _ _  hs20 hv
                · rw [if_neg hc16] at hv
                  refine mW.sn 1 (g' := (81, [some (.ref 72), some (.ref t0), some (.int l2), some (.int l3), some (.int r13)], [.ref 72], (h14, q))) rfl ?_
                  refine sW.getR rfl hs14 o72 rfl rfl ?_
                  refine mW.sn 1 (g' := (85, [some (.ref 72), some (.ref t0), some (.int l2), some (.int l3), some (.int r13)], [.ref 72, .ref 74], (h14, q))) rfl ?_
                  refine sW.getI rfl hs14 o72 rfl rfl ?_
                  refine mW.sn 1 (g' := (89, [some (.ref 72), some (.ref t0), some (.int l2), some (.int l3), some (.int r13)], [.int l3, .int (rd S 72 4), .ref 74], (h14, q))) rfl ?_
                  cases hr21 : iset (S 74) (rd S 72 4) l3 with
                  | none => rw [hr21] at hv; cases hv
                  | some z21 =>
                    rw [hr21, o_bind] at hv
                    refine sW.iast rfl hs14 (by decide) hr21 ?_
                    intro h22 hs22
                    refine mW.sn 2 (g' := (92, [some (.ref 72), some (.ref t0), some (.int l2), some (.int l3), some (.int r13)], [.ref 72, .ref 72], (h22, q))) rfl ?_
                    refine sW.getI rfl hs22 o72 rfl rfl ?_
                    refine mW.sn 2 (g' := (97, [some (.ref 72), some (.ref t0), some (.int l2), some (.int l3), some (.int r13)], [.int ((rd (up S 74 z21) 72 4) + 1), .ref 72], (h22, q))) rfl ?_
                    refine sW.putI rfl hs22 o72 rfl ?_
                    intro h23 hs23
                    refine mW.sn 2 (g' := (102, [some (.ref 72), some (.ref t0), some (.int l2), some (.int l3), some (.int r13)], [.ref 72, .ref 72], (h23, q))) rfl ?_
                    refine sW.getI rfl hs23 o72 rfl rfl ?_
                    refine mW.sn 2 (g' := (108, [some (.ref 72), some (.ref t0), some (.int l2), some (.int l3), some (.int r13)], [.int ((rd (wr (up S 74 z21) 72 4 ((rd (up S 74 z21) 72 4) + 1)) 72 5) + r13), .ref 72], (h23, q))) rfl ?_
                    refine sW.putI rfl hs23 o72 rfl ?_
                    intro h24 hs24
                    refine mW.sn 2 (g' := (113, [some (.ref 72), some (.ref t0), some (.int l2), some (.int l3), some (.int r13)], [.int l3, .ref t0], (h24, q))) rfl ?_
                    cases hr25 : t_next (tT (wr (wr (up S 74 z21) 72 4 ((rd (up S 74 z21) 72 4) + 1)) 72 5 ((rd (wr (up S 74 z21) 72 4 ((rd (up S 74 z21) 72 4) + 1)) 72 5) + r13)) t0) l3 with
                    | none => rw [hr25] at hv; cases hv
                    | some r25 =>
                      rw [hr25, o_bind] at hv
                      refine sW.call rfl rfl rfl rfl (hs24.rcvT ht0) (sW.of hs24 (x81 (hs24.gtx ht0) hr25)) ?_
                      intro h26 hs26
                      refine mW.sn 2 (g' := (29, [some (.ref 72), some (.ref t0), some (.int l2), some (.int r25), some (.int r13)], [], (h26, q))) rfl ?_
                      exact ih _ _ _ _ _ _  hs26 hv
              · rw [if_neg hc15] at hv
                refine mW.sn 3 (g' := (72, [some (.ref 72), some (.ref t0), some (.int 2), some (.int l3), some (.int r13)], [.ref 72], (h14, q))) rfl ?_
                refine sW.getI rfl hs14 o72 rfl rfl ?_
                refine mW.sn 1 (g' := (77, [some (.ref 72), some (.ref t0), some (.int 2), some (.int l3), some (.int r13)], [.int 100, .int (rd S 72 4)], (h14, q))) rfl ?_
                refine mW.br (g1 := (90, [some (.ref 72), some (.ref t0), some (.int 2), some (.int l3), some (.int r13)], [], (h14, q))) (g2 := (80, [some (.ref 72), some (.ref t0), some (.int 2), some (.int l3), some (.int r13)], [], (h14, q))) (c := (100 : Int32) ≤ (rd S 72 4)) rfl (fun hc27 => ?_) (fun hc27 => ?_)
                · rw [if_pos hc27] at hv
                  refine mW.sn 2 (g' := (92, [some (.ref 72), some (.ref t0), some (.int 2), some (.int l3), some (.int r13)], [.ref 72, .ref 72], (h14, q))) rfl ?_
                  refine sW.getI rfl hs14 o72 rfl rfl ?_
                  refine mW.sn 2 (g' := (97, [some (.ref 72), some (.ref t0), some (.int 2), some (.int l3), some (.int r13)], [.int ((rd S 72 4) + 1), .ref 72], (h14, q))) rfl ?_
                  refine sW.putI rfl hs14 o72 rfl ?_
                  intro h28 hs28
                  refine mW.sn 2 (g' := (102, [some (.ref 72), some (.ref t0), some (.int 2), some (.int l3), some (.int r13)], [.ref 72, .ref 72], (h28, q))) rfl ?_
                  refine sW.getI rfl hs28 o72 rfl rfl ?_
                  refine mW.sn 2 (g' := (108, [some (.ref 72), some (.ref t0), some (.int 2), some (.int l3), some (.int r13)], [.int ((rd (wr S 72 4 ((rd S 72 4) + 1)) 72 5) + r13), .ref 72], (h28, q))) rfl ?_
                  refine sW.putI rfl hs28 o72 rfl ?_
                  intro h29 hs29
                  refine mW.sn 2 (g' := (113, [some (.ref 72), some (.ref t0), some (.int 2), some (.int l3), some (.int r13)], [.int l3, .ref t0], (h29, q))) rfl ?_
                  cases hr30 : t_next (tT (wr (wr S 72 4 ((rd S 72 4) + 1)) 72 5 ((rd (wr S 72 4 ((rd S 72 4) + 1)) 72 5) + r13)) t0) l3 with
                  | none => rw [hr30] at hv; cases hv
                  | some r30 =>
                    rw [hr30, o_bind] at hv
                    refine sW.call rfl rfl rfl rfl (hs29.rcvT ht0) (sW.of hs29 (x81 (hs29.gtx ht0) hr30)) ?_
                    intro h31 hs31
                    refine mW.sn 2 (g' := (29, [some (.ref 72), some (.ref t0), some (.int 2), some (.int r30), some (.int r13)], [], (h31, q))) rfl ?_
                    exact ih _ _ _ _ _ _  hs31 hv
                · rw [if_neg hc27] at hv
                  refine mW.sn 1 (g' := (81, [some (.ref 72), some (.ref t0), some (.int 2), some (.int l3), some (.int r13)], [.ref 72], (h14, q))) rfl ?_
                  refine sW.getR rfl hs14 o72 rfl rfl ?_
                  refine mW.sn 1 (g' := (85, [some (.ref 72), some (.ref t0), some (.int 2), some (.int l3), some (.int r13)], [.ref 72, .ref 74], (h14, q))) rfl ?_
                  refine sW.getI rfl hs14 o72 rfl rfl ?_
                  refine mW.sn 1 (g' := (89, [some (.ref 72), some (.ref t0), some (.int 2), some (.int l3), some (.int r13)], [.int l3, .int (rd S 72 4), .ref 74], (h14, q))) rfl ?_
                  cases hr32 : iset (S 74) (rd S 72 4) l3 with
                  | none => rw [hr32] at hv; cases hv
                  | some z32 =>
                    rw [hr32, o_bind] at hv
                    refine sW.iast rfl hs14 (by decide) hr32 ?_
                    intro h33 hs33
                    refine mW.sn 2 (g' := (92, [some (.ref 72), some (.ref t0), some (.int 2), some (.int l3), some (.int r13)], [.ref 72, .ref 72], (h33, q))) rfl ?_
                    refine sW.getI rfl hs33 o72 rfl rfl ?_
                    refine mW.sn 2 (g' := (97, [some (.ref 72), some (.ref t0), some (.int 2), some (.int l3), some (.int r13)], [.int ((rd (up S 74 z32) 72 4) + 1), .ref 72], (h33, q))) rfl ?_
                    refine sW.putI rfl hs33 o72 rfl ?_
                    intro h34 hs34
                    refine mW.sn 2 (g' := (102, [some (.ref 72), some (.ref t0), some (.int 2), some (.int l3), some (.int r13)], [.ref 72, .ref 72], (h34, q))) rfl ?_
                    refine sW.getI rfl hs34 o72 rfl rfl ?_
                    refine mW.sn 2 (g' := (108, [some (.ref 72), some (.ref t0), some (.int 2), some (.int l3), some (.int r13)], [.int ((rd (wr (up S 74 z32) 72 4 ((rd (up S 74 z32) 72 4) + 1)) 72 5) + r13), .ref 72], (h34, q))) rfl ?_
                    refine sW.putI rfl hs34 o72 rfl ?_
                    intro h35 hs35
                    refine mW.sn 2 (g' := (113, [some (.ref 72), some (.ref t0), some (.int 2), some (.int l3), some (.int r13)], [.int l3, .ref t0], (h35, q))) rfl ?_
                    cases hr36 : t_next (tT (wr (wr (up S 74 z32) 72 4 ((rd (up S 74 z32) 72 4) + 1)) 72 5 ((rd (wr (up S 74 z32) 72 4 ((rd (up S 74 z32) 72 4) + 1)) 72 5) + r13)) t0) l3 with
                    | none => rw [hr36] at hv; cases hv
                    | some r36 =>
                      rw [hr36, o_bind] at hv
                      refine sW.call rfl rfl rfl rfl (hs35.rcvT ht0) (sW.of hs35 (x81 (hs35.gtx ht0) hr36)) ?_
                      intro h37 hs37
                      refine mW.sn 2 (g' := (29, [some (.ref 72), some (.ref t0), some (.int 2), some (.int r36), some (.int r13)], [], (h37, q))) rfl ?_
                      exact ih _ _ _ _ _ _  hs37 hv
          · rw [if_neg hc12] at hv
            refine mW.sn 1 (g' := (54, [some (.ref 72), some (.ref t0), some (.int l2), some (.int l3), x4], [.int 1], (h11, q))) rfl ?_
            cases hv
            exact sW.fin hs11 rfl
def k_lookAt (S : SS) (t0 : Nat) : Option (SS × Int32) := ((t_kind (tT (wr (wr S 72 4 0) 72 5 0) t0) 0).bind fun r3 => (if r3 = (5 : Int32) then ((t_first (tT (wr (wr S 72 4 0) 72 5 0) t0) 0).bind fun r6 => k_lookAt_l29 t0 10000 (wr (wr S 72 4 0) 72 5 0) 0 r6) else some (wr (wr S 72 4 0) 72 5 0, 1)))
theorem s131 {S : SS} {t0 : Nat} (ht0 : t0 ∈ shT) {v : SS × Int32} (hs : cs h S) (hv : k_lookAt S t0 = some v) : mW (d + 4) mm131 (0, [some (.ref 72), some (.ref t0), none, none, none], [], (h, q)) (mQ q v.1 (some (.int v.2))) := by
  unfold k_lookAt at hv
  refine mW.sn 2 (g' := (2, [some (.ref 72), some (.ref t0), none, none, none], [.int 0, .ref 72], (h, q))) rfl ?_
  refine sW.putI rfl hs o72 rfl ?_
  intro h1 hs1
  refine mW.sn 2 (g' := (7, [some (.ref 72), some (.ref t0), none, none, none], [.int 0, .ref 72], (h1, q))) rfl ?_
  refine sW.putI rfl hs1 o72 rfl ?_
  intro h2 hs2
  refine mW.sn 2 (g' := (12, [some (.ref 72), some (.ref t0), none, none, none], [.int 0, .ref t0], (h2, q))) rfl ?_
  cases hr3 : t_kind (tT (wr (wr S 72 4 0) 72 5 0) t0) 0 with
  | none => rw [hr3] at hv; cases hv
  | some r3 =>
    rw [hr3, o_bind] at hv
    refine sW.call rfl rfl rfl rfl (hs2.rcvT ht0) (sW.of hs2 (x70 (hs2.gtx ht0) hr3)) ?_
    intro h4 hs4
    refine mW.sn 1 (g' := (16, [some (.ref 72), some (.ref t0), none, none, none], [.int 5, .int r3], (h4, q))) rfl ?_
    refine mW.br (g1 := (21, [some (.ref 72), some (.ref t0), none, none, none], [], (h4, q))) (g2 := (19, [some (.ref 72), some (.ref t0), none, none, none], [], (h4, q))) (c := r3 = (5 : Int32)) rfl (fun hc5 => ?_) (fun hc5 => ?_)
    · rw [if_pos hc5] at hv
      refine mW.sn 4 (g' := (25, [some (.ref 72), some (.ref t0), some (.int 0), none, none], [.int 0, .ref t0], (h4, q))) rfl ?_
      cases hr6 : t_first (tT (wr (wr S 72 4 0) 72 5 0) t0) 0 with
      | none => rw [hr6] at hv; cases hv
      | some r6 =>
        rw [hr6, o_bind] at hv
        refine sW.call rfl rfl rfl rfl (hs4.rcvT ht0) (sW.of hs4 (x74 (hs4.gtx ht0) hr6)) ?_
        intro h7 hs7
        refine mW.sn 1 (g' := (29, [some (.ref 72), some (.ref t0), some (.int 0), some (.int r6), none], [], (h7, q))) rfl ?_
        exact k_lookAt_l29_ok ht0 _ _ _ _ _ _ _  hs7 hv
    · rw [if_neg hc5] at hv
      refine mW.sn 1 (g' := (20, [some (.ref 72), some (.ref t0), none, none, none], [.int 1], (h4, q))) rfl ?_
      cases hv
      exact sW.fin hs4 rfl
def k_many (S : SS) : Option (Int32) := (if (100 : Int32) < (rd S 72 4) then some 1 else (if (rd S 72 5) ≤ (100 : Int32) then some 0 else some 1))
theorem s132 {S : SS} {v : Int32} (hs : cs h S) (hv : k_many S = some v) : mW d mm132 (0, [some (.ref 72)], [], (h, q)) (mQ q S (some (.int v))) := by
  unfold k_many at hv
  refine mW.sn 1 (g' := (1, [some (.ref 72)], [.ref 72], (h, q))) rfl ?_
  refine sW.getI rfl hs o72 rfl rfl ?_
  refine mW.sn 1 (g' := (6, [some (.ref 72)], [.int 100, .int (rd S 72 4)], (h, q))) rfl ?_
  refine mW.br (g1 := (18, [some (.ref 72)], [], (h, q))) (g2 := (9, [some (.ref 72)], [], (h, q))) (c := (100 : Int32) < (rd S 72 4)) rfl (fun hc1 => ?_) (fun hc1 => ?_)
  · rw [if_pos hc1] at hv
    refine mW.sn 2 (g' := (23, [some (.ref 72)], [.int 1], (h, q))) rfl ?_
    cases hv
    exact sW.fin hs rfl
  · rw [if_neg hc1] at hv
    refine mW.sn 1 (g' := (10, [some (.ref 72)], [.ref 72], (h, q))) rfl ?_
    refine sW.getI rfl hs o72 rfl rfl ?_
    refine mW.sn 1 (g' := (15, [some (.ref 72)], [.int 100, .int (rd S 72 5)], (h, q))) rfl ?_
    refine mW.br (g1 := (22, [some (.ref 72)], [], (h, q))) (g2 := (18, [some (.ref 72)], [], (h, q))) (c := (rd S 72 5) ≤ (100 : Int32)) rfl (fun hc2 => ?_) (fun hc2 => ?_)
    · rw [if_pos hc2] at hv
      refine mW.sn 1 (g' := (23, [some (.ref 72)], [.int 0], (h, q))) rfl ?_
      cases hv
      exact sW.fin hs rfl
    · rw [if_neg hc2] at hv
      refine mW.sn 2 (g' := (23, [some (.ref 72)], [.int 1], (h, q))) rfl ?_
      cases hv
      exact sW.fin hs rfl
def k_sort_l20 (t0 : Nat) (k2 : SS → Int32 → Option (SS)) : Nat → SS → Int32 → Int32 → Int32 → Option (SS)
  | 0, _, _, _, _ => none
  | n + 1, S, l2, l3, l4 => (if l4 ≤ 0 then ((iset (S 74) l4 l3).bind fun z6 => k2 (up S 74 z6) (l2 + 1)) else ((iget (S 74) (l4 - 1)).bind fun b8 => ((o_cmp 100 S t0 b8 t0 l3 0).bind fun r9 => (if r9.2 ≤ 0 then ((iset (r9.1 74) l4 l3).bind fun z12 => k2 (up r9.1 74 z12) (l2 + 1)) else ((iget (r9.1 74) (l4 - 1)).bind fun b14 => ((iset (r9.1 74) l4 b14).bind fun z15 => k_sort_l20 t0 k2 n (up r9.1 74 z15) l2 l3 (l4 + (-1))))))))
theorem k_sort_l20_ok {t0 : Nat} (ht0 : t0 ∈ shT) {k2 : SS → Int32 → Option (SS)} (hk2 : ∀ (h : mH) (S : SS) (l2 : Int32) (x3 : Option Value) (x4 : Option Value) (v : SS), cs h S → k2 S l2 = some v → mW (d + 501) mm133 (2, [some (.ref 72), some (.ref t0), some (.int l2), x3, x4], [], (h, q)) (mQ q v none)) : ∀ (n : Nat), ∀ (h : mH) (S : SS) (l2 : Int32) (l3 : Int32) (l4 : Int32) (v : SS), cs h S → k_sort_l20 t0 k2 n S l2 l3 l4 = some v → mW (d + 501) mm133 (20, [some (.ref 72), some (.ref t0), some (.int l2), some (.int l3), some (.int l4)], [], (h, q)) (mQ q v none) := by
  intro n
  induction n with
  | zero => intro h S l2 l3 l4 v hs hv; cases hv
  | succ n ih =>
    intro h S l2 l3 l4 v hs hv
    unfold k_sort_l20 at hv
    refine mW.sn 1 (g' := (22, [some (.ref 72), some (.ref t0), some (.int l2), some (.int l3), some (.int l4)], [.int l4], (h, q))) rfl ?_
    refine mW.br (g1 := (70, [some (.ref 72), some (.ref t0), some (.int l2), some (.int l3), some (.int l4)], [], (h, q))) (g2 := (25, [some (.ref 72), some (.ref t0), some (.int l2), some (.int l3), some (.int l4)], [], (h, q))) (c := l4 ≤ 0) rfl (fun hc5 => ?_) (fun hc5 => ?_)
    · rw [if_pos hc5] at hv
      refine mW.sn 1 (g' := (71, [some (.ref 72), some (.ref t0), some (.int l2), some (.int l3), some (.int l4)], [.ref 72], (h, q))) rfl ?_
      refine sW.getR rfl hs o72 rfl rfl ?_
      refine mW.sn 2 (g' := (77, [some (.ref 72), some (.ref t0), some (.int l2), some (.int l3), some (.int l4)], [.int l3, .int l4, .ref 74], (h, q))) rfl ?_
      cases hr6 : iset (S 74) l4 l3 with
      | none => rw [hr6] at hv; cases hv
      | some z6 =>
        rw [hr6, o_bind] at hv
        refine sW.iast rfl hs (by decide) hr6 ?_
        intro h7 hs7
        refine mW.sn 2 (g' := (2, [some (.ref 72), some (.ref t0), some (.int (l2 + 1)), some (.int l3), some (.int l4)], [], (h7, q))) rfl ?_
        exact hk2 _ _ _ _ _ _  hs7 hv
    · rw [if_neg hc5] at hv
      refine mW.sn 1 (g' := (26, [some (.ref 72), some (.ref t0), some (.int l2), some (.int l3), some (.int l4)], [.ref 72], (h, q))) rfl ?_
      refine sW.getR rfl hs o72 rfl rfl ?_
      refine mW.sn 2 (g' := (31, [some (.ref 72), some (.ref t0), some (.int l2), some (.int l3), some (.int l4)], [.ref 72, .ref t0, .ref 47], (h, q))) rfl ?_
      refine sW.getR rfl hs o72 rfl rfl ?_
      refine mW.sn 3 (g' := (38, [some (.ref 72), some (.ref t0), some (.int l2), some (.int l3), some (.int l4)], [.int (l4 - 1), .ref 74, .ref t0, .ref 47], (h, q))) rfl ?_
      cases hr8 : iget (S 74) (l4 - 1) with
      | none => rw [hr8] at hv; cases hv
      | some b8 =>
        rw [hr8, o_bind] at hv
        refine sW.iald rfl hs (by decide) hr8 ?_
        refine mW.sn 3 (g' := (42, [some (.ref 72), some (.ref t0), some (.int l2), some (.int l3), some (.int l4)], [.int 0, .int l3, .ref t0, .int b8, .ref t0, .ref 47], (h, q))) rfl ?_
        cases hr9 : o_cmp 100 S t0 b8 t0 l3 0 with
        | none => rw [hr9] at hv; cases hv
        | some r9 =>
          rw [hr9, o_bind] at hv
          refine sW.call rfl rfl rfl rfl (hs.rcv o47) (o_cmp_ok 100 _ (by omega) _ _ _ _ _ _ _ _ ht0 ht0 hs hr9) ?_
          intro h10 hs10
          refine mW.br (g1 := (70, [some (.ref 72), some (.ref t0), some (.int l2), some (.int l3), some (.int l4)], [], (h10, q))) (g2 := (48, [some (.ref 72), some (.ref t0), some (.int l2), some (.int l3), some (.int l4)], [], (h10, q))) (c := r9.2 ≤ 0) rfl (fun hc11 => ?_) (fun hc11 => ?_)
          · rw [if_pos hc11] at hv
            refine mW.sn 1 (g' := (71, [some (.ref 72), some (.ref t0), some (.int l2), some (.int l3), some (.int l4)], [.ref 72], (h10, q))) rfl ?_
            refine sW.getR rfl hs10 o72 rfl rfl ?_
            refine mW.sn 2 (g' := (77, [some (.ref 72), some (.ref t0), some (.int l2), some (.int l3), some (.int l4)], [.int l3, .int l4, .ref 74], (h10, q))) rfl ?_
            cases hr12 : iset (r9.1 74) l4 l3 with
            | none => rw [hr12] at hv; cases hv
            | some z12 =>
              rw [hr12, o_bind] at hv
              refine sW.iast rfl hs10 (by decide) hr12 ?_
              intro h13 hs13
              refine mW.sn 2 (g' := (2, [some (.ref 72), some (.ref t0), some (.int (l2 + 1)), some (.int l3), some (.int l4)], [], (h13, q))) rfl ?_
              exact hk2 _ _ _ _ _ _  hs13 hv
          · rw [if_neg hc11] at hv
            refine mW.sn 1 (g' := (49, [some (.ref 72), some (.ref t0), some (.int l2), some (.int l3), some (.int l4)], [.ref 72], (h10, q))) rfl ?_
            refine sW.getR rfl hs10 o72 rfl rfl ?_
            refine mW.sn 2 (g' := (55, [some (.ref 72), some (.ref t0), some (.int l2), some (.int l3), some (.int l4)], [.ref 72, .int l4, .ref 74], (h10, q))) rfl ?_
            refine sW.getR rfl hs10 o72 rfl rfl ?_
            refine mW.sn 3 (g' := (62, [some (.ref 72), some (.ref t0), some (.int l2), some (.int l3), some (.int l4)], [.int (l4 - 1), .ref 74, .int l4, .ref 74], (h10, q))) rfl ?_
            cases hr14 : iget (r9.1 74) (l4 - 1) with
            | none => rw [hr14] at hv; cases hv
            | some b14 =>
              rw [hr14, o_bind] at hv
              refine sW.iald rfl hs10 (by decide) hr14 ?_
              cases hr15 : iset (r9.1 74) l4 b14 with
              | none => rw [hr15] at hv; cases hv
              | some z15 =>
                rw [hr15, o_bind] at hv
                refine sW.iast rfl hs10 (by decide) hr15 ?_
                intro h16 hs16
                refine mW.sn 2 (g' := (20, [some (.ref 72), some (.ref t0), some (.int l2), some (.int l3), some (.int (l4 + (-1)))], [], (h16, q))) rfl ?_
                exact ih _ _ _ _ _ _  hs16 hv
def k_sort_l2 (t0 : Nat) : Nat → SS → Int32 → Option (SS)
  | 0, _, _ => none
  | n + 1, S, l2 => ((k_paths S).bind fun r1 => (if r1 ≤ l2 then some S else ((iget (S 74) l2).bind fun b4 => k_sort_l20 t0 (k_sort_l2 t0 n) 10000 S l2 b4 l2)))
theorem k_sort_l2_ok {t0 : Nat} (ht0 : t0 ∈ shT) : ∀ (n : Nat), ∀ (h : mH) (S : SS) (l2 : Int32) (x3 : Option Value) (x4 : Option Value) (v : SS), cs h S → k_sort_l2 t0 n S l2 = some v → mW (d + 501) mm133 (2, [some (.ref 72), some (.ref t0), some (.int l2), x3, x4], [], (h, q)) (mQ q v none) := by
  intro n
  induction n with
  | zero => intro h S l2 x3 x4 v hs hv; cases hv
  | succ n ih =>
    intro h S l2 x3 x4 v hs hv
    unfold k_sort_l2 at hv
    refine mW.sn 2 (g' := (4, [some (.ref 72), some (.ref t0), some (.int l2), x3, x4], [.ref 72, .int l2], (h, q))) rfl ?_
    cases hr1 : k_paths S with
    | none => rw [hr1] at hv; cases hv
    | some r1 =>
      rw [hr1, o_bind] at hv
      refine sW.call rfl rfl rfl rfl (hs.rcv o72) (s134 hs hr1) ?_
      intro h2 hs2
      refine mW.br (g1 := (84, [some (.ref 72), some (.ref t0), some (.int l2), x3, x4], [], (h2, q))) (g2 := (10, [some (.ref 72), some (.ref t0), some (.int l2), x3, x4], [], (h2, q))) (c := r1 ≤ l2) rfl (fun hc3 => ?_) (fun hc3 => ?_)
      · rw [if_pos hc3] at hv
        cases hv
        exact sW.fin hs2 rfl
      · rw [if_neg hc3] at hv
        refine mW.sn 1 (g' := (11, [some (.ref 72), some (.ref t0), some (.int l2), x3, x4], [.ref 72], (h2, q))) rfl ?_
        refine sW.getR rfl hs2 o72 rfl rfl ?_
        refine mW.sn 1 (g' := (15, [some (.ref 72), some (.ref t0), some (.int l2), x3, x4], [.int l2, .ref 74], (h2, q))) rfl ?_
        cases hr4 : iget (S 74) l2 with
        | none => rw [hr4] at hv; cases hv
        | some b4 =>
          rw [hr4, o_bind] at hv
          refine sW.iald rfl hs2 (by decide) hr4 ?_
          refine mW.sn 3 (g' := (20, [some (.ref 72), some (.ref t0), some (.int l2), some (.int b4), some (.int l2)], [], (h2, q))) rfl ?_
          exact k_sort_l20_ok ht0 ih _ _ _ _ _ _ _  hs2 hv
def k_sort (S : SS) (t0 : Nat) : Option (SS) := k_sort_l2 t0 10000 S 1
theorem s133 {S : SS} {t0 : Nat} (ht0 : t0 ∈ shT) {v : SS} (hs : cs h S) (hv : k_sort S t0 = some v) : mW (d + 501) mm133 (0, [some (.ref 72), some (.ref t0), none, none, none], [], (h, q)) (mQ q v none) := by
  unfold k_sort at hv
  refine mW.sn 2 (g' := (2, [some (.ref 72), some (.ref t0), some (.int 1), none, none], [], (h, q))) rfl ?_
  exact k_sort_l2_ok ht0 _ _ _ _ _ _ _  hs hv
def k_cut (S : SS) (t0 : Nat) (t1 : Nat) (p0 : Int32) : Option (SS × Int32) := (if p0 < 0 then some (S, 0) else ((k_paths S).bind fun r2 => (if p0 < r2 then ((iget (S 74) p0).bind fun b5 => ((t_first (tT S t1) b5).bind fun r6 => (if r6 = (-1 : Int32) then some (sputs (up S t0 [0]) t0 k17, 0) else ((p_follow S t0 t1 b5).bind fun r11 => (if r11.2 = 0 then ((p_nothing r11.1).bind fun r14 => (if r14 = 0 then ((p_isPart r11.1).bind fun r17 => (if r17 = 0 then ((p_span r11.1 73).bind fun r20 => ((g_closeUp r20 73 t0).bind fun r22 => ((g_from r22 73).bind fun r24 => ((g_to r22 73).bind fun r26 => some (sdel r22 t0 r24 r26, 0))))) else ((p_kind r11.1).bind fun r29 => (if r29 = (4 : Int32) then some (r11.1, 1) else ((p_span r11.1 73).bind fun r32 => ((g_closeUp r32 73 t0).bind fun r34 => ((g_from r34 73).bind fun r36 => ((g_to r34 73).bind fun r38 => some (sdel r34 t0 r36 r38, 0))))))))) else some (r11.1, r11.2))) else some (r11.1, r11.2)))))) else some (S, 0))))
theorem s144 {S : SS} {t0 : Nat} (ht0 : t0 ∈ shT) {t1 : Nat} (ht1 : t1 ∈ shT) {p0 : Int32} {v : SS × Int32} (hs : cs h S) (hv : k_cut S t0 t1 p0 = some v) : mW (d + 9) mm144 (0, [some (.ref 72), some (.ref t0), some (.ref t1), some (.int p0), none], [], (h, q)) (mQ q v.1 (some (.int v.2))) := by
  unfold k_cut at hv
  refine mW.sn 1 (g' := (1, [some (.ref 72), some (.ref t0), some (.ref t1), some (.int p0), none], [.int p0], (h, q))) rfl ?_
  refine mW.br (g1 := (12, [some (.ref 72), some (.ref t0), some (.ref t1), some (.int p0), none], [], (h, q))) (g2 := (4, [some (.ref 72), some (.ref t0), some (.ref t1), some (.int p0), none], [], (h, q))) (c := p0 < 0) rfl (fun hc1 => ?_) (fun hc1 => ?_)
  · rw [if_pos hc1] at hv
    refine mW.sn 1 (g' := (13, [some (.ref 72), some (.ref t0), some (.ref t1), some (.int p0), none], [.int 0], (h, q))) rfl ?_
    cases hv
    exact sW.fin hs rfl
  · rw [if_neg hc1] at hv
    refine mW.sn 2 (g' := (6, [some (.ref 72), some (.ref t0), some (.ref t1), some (.int p0), none], [.ref 72, .int p0], (h, q))) rfl ?_
    cases hr2 : k_paths S with
    | none => rw [hr2] at hv; cases hv
    | some r2 =>
      rw [hr2, o_bind] at hv
      refine sW.call rfl rfl rfl rfl (hs.rcv o72) (s134 hs hr2) ?_
      intro h3 hs3
      refine mW.br (g1 := (14, [some (.ref 72), some (.ref t0), some (.ref t1), some (.int p0), none], [], (h3, q))) (g2 := (12, [some (.ref 72), some (.ref t0), some (.ref t1), some (.int p0), none], [], (h3, q))) (c := p0 < r2) rfl (fun hc4 => ?_) (fun hc4 => ?_)
      · rw [if_pos hc4] at hv
        refine mW.sn 2 (g' := (16, [some (.ref 72), some (.ref t0), some (.ref t1), some (.int p0), none], [.ref 72, .ref t1], (h3, q))) rfl ?_
        refine sW.getR rfl hs3 o72 rfl rfl ?_
        refine mW.sn 1 (g' := (20, [some (.ref 72), some (.ref t0), some (.ref t1), some (.int p0), none], [.int p0, .ref 74, .ref t1], (h3, q))) rfl ?_
        cases hr5 : iget (S 74) p0 with
        | none => rw [hr5] at hv; cases hv
        | some b5 =>
          rw [hr5, o_bind] at hv
          refine sW.iald rfl hs3 (by decide) hr5 ?_
          cases hr6 : t_first (tT S t1) b5 with
          | none => rw [hr6] at hv; cases hv
          | some r6 =>
            rw [hr6, o_bind] at hv
            refine sW.call rfl rfl rfl rfl (hs3.rcvT ht1) (sW.of hs3 (x74 (hs3.gtx ht1) hr6)) ?_
            intro h7 hs7
            refine mW.sn 1 (g' := (25, [some (.ref 72), some (.ref t0), some (.ref t1), some (.int p0), none], [.int (-1), .int r6], (h7, q))) rfl ?_
            refine mW.br (g1 := (28, [some (.ref 72), some (.ref t0), some (.ref t1), some (.int p0), none], [], (h7, q))) (g2 := (40, [some (.ref 72), some (.ref t0), some (.ref t1), some (.int p0), none], [], (h7, q))) (c := r6 = (-1 : Int32)) rfl (fun hc8 => ?_) (fun hc8 => ?_)
            · rw [if_pos hc8] at hv
              refine mW.sn 1 (g' := (29, [some (.ref 72), some (.ref t0), some (.ref t1), some (.int p0), none], [.ref t0], (h7, q))) rfl ?_
              refine sW.call rfl rfl rfl rfl (hs7.rcvT ht0) (s35 hs7 ht0) ?_
              intro h9 hs9
              refine mW.sn 2 (g' := (35, [some (.ref 72), some (.ref t0), some (.ref t1), some (.int p0), none], [.ref 17, .ref t0], (h9, q))) rfl ?_
              refine sW.call rfl rfl rfl rfl (hs9.rcvT ht0) (s3 hs9 ht0 m17) ?_
              intro h10 hs10
              refine mW.sn 1 (g' := (39, [some (.ref 72), some (.ref t0), some (.ref t1), some (.int p0), none], [.int 0], (h10, q))) rfl ?_
              cases hv
              exact sW.fin hs10 rfl
            · rw [if_neg hc8] at hv
              refine mW.sn 1 (g' := (41, [some (.ref 72), some (.ref t0), some (.ref t1), some (.int p0), none], [.ref 72], (h7, q))) rfl ?_
              refine sW.getR rfl hs7 o72 rfl rfl ?_
              refine mW.sn 3 (g' := (47, [some (.ref 72), some (.ref t0), some (.ref t1), some (.int p0), none], [.ref 72, .ref t1, .ref t0, .ref 67], (h7, q))) rfl ?_
              refine sW.getR rfl hs7 o72 rfl rfl ?_
              refine mW.sn 1 (g' := (51, [some (.ref 72), some (.ref t0), some (.ref t1), some (.int p0), none], [.int p0, .ref 74, .ref t1, .ref t0, .ref 67], (h7, q))) rfl ?_
              refine sW.iald rfl hs7 (by decide) hr5 ?_
              cases hr11 : p_follow S t0 t1 b5 with
              | none => rw [hr11] at hv; cases hv
              | some r11 =>
                rw [hr11, o_bind] at hv
                refine sW.call rfl rfl rfl rfl (hs7.rcv o67) (s72 ht0 ht1 hs7 hr11) ?_
                intro h12 hs12
                refine mW.sn 2 (g' := (59, [some (.ref 72), some (.ref t0), some (.ref t1), some (.int p0), some (.int r11.2)], [.int r11.2], (h12, q))) rfl ?_
                refine mW.br (g1 := (62, [some (.ref 72), some (.ref t0), some (.ref t1), some (.int p0), some (.int r11.2)], [], (h12, q))) (g2 := (72, [some (.ref 72), some (.ref t0), some (.ref t1), some (.int p0), some (.int r11.2)], [], (h12, q))) (c := r11.2 = 0) rfl (fun hc13 => ?_) (fun hc13 => ?_)
                · rw [if_pos hc13] at hv
                  refine mW.sn 1 (g' := (63, [some (.ref 72), some (.ref t0), some (.ref t1), some (.int p0), some (.int r11.2)], [.ref 72], (h12, q))) rfl ?_
                  refine sW.getR rfl hs12 o72 rfl rfl ?_
                  cases hr14 : p_nothing r11.1 with
                  | none => rw [hr14] at hv; cases hv
                  | some r14 =>
                    rw [hr14, o_bind] at hv
                    refine sW.call rfl rfl rfl rfl (hs12.rcv o67) (s99 hs12 hr14) ?_
                    intro h15 hs15
                    refine mW.br (g1 := (75, [some (.ref 72), some (.ref t0), some (.ref t1), some (.int p0), some (.int r11.2)], [], (h15, q))) (g2 := (72, [some (.ref 72), some (.ref t0), some (.ref t1), some (.int p0), some (.int r11.2)], [], (h15, q))) (c := r14 = 0) rfl (fun hc16 => ?_) (fun hc16 => ?_)
                    · rw [if_pos hc16] at hv
                      refine mW.sn 1 (g' := (76, [some (.ref 72), some (.ref t0), some (.ref t1), some (.int p0), some (.int r11.2)], [.ref 72], (h15, q))) rfl ?_
                      refine sW.getR rfl hs15 o72 rfl rfl ?_
                      cases hr17 : p_isPart r11.1 with
                      | none => rw [hr17] at hv; cases hv
                      | some r17 =>
                        rw [hr17, o_bind] at hv
                        refine sW.call rfl rfl rfl rfl (hs15.rcv o67) (s106 hs15 hr17) ?_
                        intro h18 hs18
                        refine mW.br (g1 := (98, [some (.ref 72), some (.ref t0), some (.ref t1), some (.int p0), some (.int r11.2)], [], (h18, q))) (g2 := (85, [some (.ref 72), some (.ref t0), some (.ref t1), some (.int p0), some (.int r11.2)], [], (h18, q))) (c := r17 = 0) rfl (fun hc19 => ?_) (fun hc19 => ?_)
                        · rw [if_pos hc19] at hv
                          refine mW.sn 1 (g' := (99, [some (.ref 72), some (.ref t0), some (.ref t1), some (.int p0), some (.int r11.2)], [.ref 72], (h18, q))) rfl ?_
                          refine sW.getR rfl hs18 o72 rfl rfl ?_
                          refine mW.sn 1 (g' := (103, [some (.ref 72), some (.ref t0), some (.ref t1), some (.int p0), some (.int r11.2)], [.ref 72, .ref 67], (h18, q))) rfl ?_
                          refine sW.getR rfl hs18 o72 rfl rfl ?_
                          cases hr20 : p_span r11.1 73 with
                          | none => rw [hr20] at hv; cases hv
                          | some r20 =>
                            rw [hr20, o_bind] at hv
                            refine sW.call rfl rfl rfl rfl (hs18.rcv o67) (s123 o73 hs18 hr20) ?_
                            intro h21 hs21
                            refine mW.sn 1 (g' := (110, [some (.ref 72), some (.ref t0), some (.ref t1), some (.int p0), some (.int r11.2)], [.ref 72], (h21, q))) rfl ?_
                            refine sW.getR rfl hs21 o72 rfl rfl ?_
                            refine mW.sn 1 (g' := (114, [some (.ref 72), some (.ref t0), some (.ref t1), some (.int p0), some (.int r11.2)], [.ref t0, .ref 73], (h21, q))) rfl ?_
                            cases hr22 : g_closeUp r20 73 t0 with
                            | none => rw [hr22] at hv; cases hv
                            | some r22 =>
                              rw [hr22, o_bind] at hv
                              refine sW.call rfl rfl rfl rfl (hs21.rcv o73) (s124 o73 ht0 hs21 hr22) ?_
                              intro h23 hs23
                              refine mW.sn 2 (g' := (119, [some (.ref 72), some (.ref t0), some (.ref t1), some (.int p0), some (.int r11.2)], [.ref 72, .ref t0], (h23, q))) rfl ?_
                              refine sW.getR rfl hs23 o72 rfl rfl ?_
                              cases hr24 : g_from r22 73 with
                              | none => rw [hr24] at hv; cases hv
                              | some r24 =>
                                rw [hr24, o_bind] at hv
                                refine sW.call rfl rfl rfl rfl (hs23.rcv o73) (s111 o73 hs23 hr24) ?_
                                intro h25 hs25
                                refine mW.sn 1 (g' := (126, [some (.ref 72), some (.ref t0), some (.ref t1), some (.int p0), some (.int r11.2)], [.ref 72, .int r24, .ref t0], (h25, q))) rfl ?_
                                refine sW.getR rfl hs25 o72 rfl rfl ?_
                                cases hr26 : g_to r22 73 with
                                | none => rw [hr26] at hv; cases hv
                                | some r26 =>
                                  rw [hr26, o_bind] at hv
                                  refine sW.call rfl rfl rfl rfl (hs25.rcv o73) (s128 o73 hs25 hr26) ?_
                                  intro h27 hs27
                                  refine sW.call rfl rfl rfl rfl (hs27.rcvT ht0) (s145 ht0 hs27) ?_
                                  intro h28 hs28
                                  refine mW.sn 1 (g' := (136, [some (.ref 72), some (.ref t0), some (.ref t1), some (.int p0), some (.int r11.2)], [.int 0], (h28, q))) rfl ?_
                                  cases hv
                                  exact sW.fin hs28 rfl
                        · rw [if_neg hc19] at hv
                          refine mW.sn 1 (g' := (86, [some (.ref 72), some (.ref t0), some (.ref t1), some (.int p0), some (.int r11.2)], [.ref 72], (h18, q))) rfl ?_
                          refine sW.getR rfl hs18 o72 rfl rfl ?_
                          cases hr29 : p_kind r11.1 with
                          | none => rw [hr29] at hv; cases hv
                          | some r29 =>
                            rw [hr29, o_bind] at hv
                            refine sW.call rfl rfl rfl rfl (hs18.rcv o67) (s76 hs18 hr29) ?_
                            intro h30 hs30
                            refine mW.sn 1 (g' := (93, [some (.ref 72), some (.ref t0), some (.ref t1), some (.int p0), some (.int r11.2)], [.int 4, .int r29], (h30, q))) rfl ?_
                            refine mW.br (g1 := (96, [some (.ref 72), some (.ref t0), some (.ref t1), some (.int p0), some (.int r11.2)], [], (h30, q))) (g2 := (98, [some (.ref 72), some (.ref t0), some (.ref t1), some (.int p0), some (.int r11.2)], [], (h30, q))) (c := r29 = (4 : Int32)) rfl (fun hc31 => ?_) (fun hc31 => ?_)
                            · rw [if_pos hc31] at hv
                              refine mW.sn 1 (g' := (97, [some (.ref 72), some (.ref t0), some (.ref t1), some (.int p0), some (.int r11.2)], [.int 1], (h30, q))) rfl ?_
                              cases hv
                              exact sW.fin hs30 rfl
                            · rw [if_neg hc31] at hv
                              refine mW.sn 1 (g' := (99, [some (.ref 72), some (.ref t0), some (.ref t1), some (.int p0), some (.int r11.2)], [.ref 72], (h30, q))) rfl ?_
                              refine sW.getR rfl hs30 o72 rfl rfl ?_
                              refine mW.sn 1 (g' := (103, [some (.ref 72), some (.ref t0), some (.ref t1), some (.int p0), some (.int r11.2)], [.ref 72, .ref 67], (h30, q))) rfl ?_
                              refine sW.getR rfl hs30 o72 rfl rfl ?_
                              cases hr32 : p_span r11.1 73 with
                              | none => rw [hr32] at hv; cases hv
                              | some r32 =>
                                rw [hr32, o_bind] at hv
                                refine sW.call rfl rfl rfl rfl (hs30.rcv o67) (s123 o73 hs30 hr32) ?_
                                intro h33 hs33
                                refine mW.sn 1 (g' := (110, [some (.ref 72), some (.ref t0), some (.ref t1), some (.int p0), some (.int r11.2)], [.ref 72], (h33, q))) rfl ?_
                                refine sW.getR rfl hs33 o72 rfl rfl ?_
                                refine mW.sn 1 (g' := (114, [some (.ref 72), some (.ref t0), some (.ref t1), some (.int p0), some (.int r11.2)], [.ref t0, .ref 73], (h33, q))) rfl ?_
                                cases hr34 : g_closeUp r32 73 t0 with
                                | none => rw [hr34] at hv; cases hv
                                | some r34 =>
                                  rw [hr34, o_bind] at hv
                                  refine sW.call rfl rfl rfl rfl (hs33.rcv o73) (s124 o73 ht0 hs33 hr34) ?_
                                  intro h35 hs35
                                  refine mW.sn 2 (g' := (119, [some (.ref 72), some (.ref t0), some (.ref t1), some (.int p0), some (.int r11.2)], [.ref 72, .ref t0], (h35, q))) rfl ?_
                                  refine sW.getR rfl hs35 o72 rfl rfl ?_
                                  cases hr36 : g_from r34 73 with
                                  | none => rw [hr36] at hv; cases hv
                                  | some r36 =>
                                    rw [hr36, o_bind] at hv
                                    refine sW.call rfl rfl rfl rfl (hs35.rcv o73) (s111 o73 hs35 hr36) ?_
                                    intro h37 hs37
                                    refine mW.sn 1 (g' := (126, [some (.ref 72), some (.ref t0), some (.ref t1), some (.int p0), some (.int r11.2)], [.ref 72, .int r36, .ref t0], (h37, q))) rfl ?_
                                    refine sW.getR rfl hs37 o72 rfl rfl ?_
                                    cases hr38 : g_to r34 73 with
                                    | none => rw [hr38] at hv; cases hv
                                    | some r38 =>
                                      rw [hr38, o_bind] at hv
                                      refine sW.call rfl rfl rfl rfl (hs37.rcv o73) (s128 o73 hs37 hr38) ?_
                                      intro h39 hs39
                                      refine sW.call rfl rfl rfl rfl (hs39.rcvT ht0) (s145 ht0 hs39) ?_
                                      intro h40 hs40
                                      refine mW.sn 1 (g' := (136, [some (.ref 72), some (.ref t0), some (.ref t1), some (.int p0), some (.int r11.2)], [.int 0], (h40, q))) rfl ?_
                                      cases hv
                                      exact sW.fin hs40 rfl
                    · rw [if_neg hc16] at hv
                      refine mW.sn 1 (g' := (74, [some (.ref 72), some (.ref t0), some (.ref t1), some (.int p0), some (.int r11.2)], [.int r11.2], (h15, q))) rfl ?_
                      cases hv
                      exact sW.fin hs15 rfl
                · rw [if_neg hc13] at hv
                  refine mW.sn 1 (g' := (74, [some (.ref 72), some (.ref t0), some (.ref t1), some (.int p0), some (.int r11.2)], [.int r11.2], (h12, q))) rfl ?_
                  cases hv
                  exact sW.fin hs12 rfl
      · rw [if_neg hc4] at hv
        refine mW.sn 1 (g' := (13, [some (.ref 72), some (.ref t0), some (.ref t1), some (.int p0), none], [.int 0], (h3, q))) rfl ?_
        cases hv
        exact sW.fin hs3 rfl
def l_place_l31 (o : Nat) (k4 : SS → Int32 → Int32 → Int32 → Option (SS)) : Nat → SS → Int32 → Int32 → Option (SS)
  | 0, _, _, _ => none
  | n + 1, S, l1, l3 => (if l3 ≤ 0 then some S else (if l3 = 0 then none else l_place_l31 o k4 n (sput S o (48 + ((l1 / l3) - (l1 / l3) / 10 * 10))) l1 (l3 / 10)))
theorem l_place_l31_ok {o : Nat} (ho : o ∈ shT) {k4 : SS → Int32 → Int32 → Int32 → Option (SS)} (hk4 : ∀ (h : mH) (S : SS) (l1 : Int32) (l2 : Int32) (l3 : Int32) (v : SS), cs h S → k4 S l1 l2 l3 = some v → mW (d + 1) mm151 (4, [some (.ref o), some (.int l1), some (.int l2), some (.int l3)], [], (h, q)) (mQ q v none)) : ∀ (n : Nat), ∀ (h : mH) (S : SS) (l1 : Int32) (l3 : Int32) (y2 : Int32) (v : SS), cs h S → l_place_l31 o k4 n S l1 l3 = some v → mW (d + 1) mm151 (31, [some (.ref o), some (.int l1), some (.int y2), some (.int l3)], [], (h, q)) (mQ q v none) := by
  intro n
  induction n with
  | zero => intro h S l1 l3 y2 v hs hv; cases hv
  | succ n ih =>
    intro h S l1 l3 y2 v hs hv
    unfold l_place_l31 at hv
    refine mW.sn 1 (g' := (32, [some (.ref o), some (.int l1), some (.int y2), some (.int l3)], [.int l3], (h, q))) rfl ?_
    refine mW.br (g1 := (56, [some (.ref o), some (.int l1), some (.int y2), some (.int l3)], [], (h, q))) (g2 := (35, [some (.ref o), some (.int l1), some (.int y2), some (.int l3)], [], (h, q))) (c := l3 ≤ 0) rfl (fun hc2 => ?_) (fun hc2 => ?_)
    · rw [if_pos hc2] at hv
      cases hv
      exact sW.fin hs rfl
    · rw [if_neg hc2] at hv
      refine mW.sn 4 (g' := (40, [some (.ref o), some (.int l1), some (.int y2), some (.int l3)], [.int l3, .int l1, .int 48, .ref o], (h, q))) rfl ?_
      by_cases hz3 : l3 = 0
      · rw [if_pos hz3] at hv; cases hv
      rw [if_neg hz3] at hv
      refine sW.idiv rfl hz3 ?_
      refine mW.sn 3 (g' := (45, [some (.ref o), some (.int l1), some (.int y2), some (.int l3)], [.int (48 + ((l1 / l3) - (l1 / l3) / 10 * 10)), .ref o], (h, q))) rfl ?_
      refine sW.call rfl rfl rfl rfl (hs.rcvT ho) (s15 hs ho) ?_
      intro h4 hs4
      refine mW.sn 5 (g' := (31, [some (.ref o), some (.int l1), some (.int y2), some (.int (l3 / 10))], [], (h4, q))) rfl ?_
      exact ih _ _ _ _ _ _  hs4 hv
def l_place_l4 (o : Nat) : Nat → SS → Int32 → Int32 → Int32 → Option (SS)
  | 0, _, _, _, _ => none
  | n + 1, S, l1, l2, l3 => (if (10 : Int32) ≤ l3 then l_place_l31 o (l_place_l4 o n) 10000 S l1 l2 else (if l2 = 0 then none else (if (l1 / l2) < (10 : Int32) then l_place_l31 o (l_place_l4 o n) 10000 S l1 l2 else l_place_l4 o n S l1 (l2 * 10) (l3 + 1))))
theorem l_place_l4_ok {o : Nat} (ho : o ∈ shT) : ∀ (n : Nat), ∀ (h : mH) (S : SS) (l1 : Int32) (l2 : Int32) (l3 : Int32) (v : SS), cs h S → l_place_l4 o n S l1 l2 l3 = some v → mW (d + 1) mm151 (4, [some (.ref o), some (.int l1), some (.int l2), some (.int l3)], [], (h, q)) (mQ q v none) := by
  intro n
  induction n with
  | zero => intro h S l1 l2 l3 v hs hv; cases hv
  | succ n ih =>
    intro h S l1 l2 l3 v hs hv
    unfold l_place_l4 at hv
    refine mW.sn 2 (g' := (7, [some (.ref o), some (.int l1), some (.int l2), some (.int l3)], [.int 10, .int l3], (h, q))) rfl ?_
    refine mW.br (g1 := (29, [some (.ref o), some (.int l1), some (.int l2), some (.int l3)], [], (h, q))) (g2 := (10, [some (.ref o), some (.int l1), some (.int l2), some (.int l3)], [], (h, q))) (c := (10 : Int32) ≤ l3) rfl (fun hc1 => ?_) (fun hc1 => ?_)
    · rw [if_pos hc1] at hv
      refine mW.sn 2 (g' := (31, [some (.ref o), some (.int l1), some (.int l2), some (.int l2)], [], (h, q))) rfl ?_
      exact l_place_l31_ok ho ih _ _ _ _ _ _ _  hs hv
    · rw [if_neg hc1] at hv
      refine mW.sn 2 (g' := (12, [some (.ref o), some (.int l1), some (.int l2), some (.int l3)], [.int l2, .int l1], (h, q))) rfl ?_
      by_cases hz5 : l2 = 0
      · rw [if_pos hz5] at hv; cases hv
      rw [if_neg hz5] at hv
      refine sW.idiv rfl hz5 ?_
      refine mW.sn 1 (g' := (15, [some (.ref o), some (.int l1), some (.int l2), some (.int l3)], [.int 10, .int (l1 / l2)], (h, q))) rfl ?_
      refine mW.br (g1 := (29, [some (.ref o), some (.int l1), some (.int l2), some (.int l3)], [], (h, q))) (g2 := (18, [some (.ref o), some (.int l1), some (.int l2), some (.int l3)], [], (h, q))) (c := (l1 / l2) < (10 : Int32)) rfl (fun hc6 => ?_) (fun hc6 => ?_)
      · rw [if_pos hc6] at hv
        refine mW.sn 2 (g' := (31, [some (.ref o), some (.int l1), some (.int l2), some (.int l2)], [], (h, q))) rfl ?_
        exact l_place_l31_ok ho ih _ _ _ _ _ _ _  hs hv
      · rw [if_neg hc6] at hv
        refine mW.sn 6 (g' := (4, [some (.ref o), some (.int l1), some (.int (l2 * 10)), some (.int (l3 + 1))], [], (h, q))) rfl ?_
        exact ih _ _ _ _ _ _  hs hv
def l_place (S : SS) (o : Nat) (p0 : Int32) : Option (SS) := l_place_l4 o 10000 S p0 1 1
theorem s151 {S : SS} {o : Nat} (ho : o ∈ shT) {p0 : Int32} {v : SS} (hs : cs h S) (hv : l_place S o p0 = some v) : mW (d + 1) mm151 (0, [some (.ref o), some (.int p0), none, none], [], (h, q)) (mQ q v none) := by
  unfold l_place at hv
  refine mW.sn 4 (g' := (4, [some (.ref o), some (.int p0), some (.int 1), some (.int 1)], [], (h, q))) rfl ?_
  exact l_place_l4_ok ho _ _ _ _ _ _ _  hs hv
def l_path_l11 : Nat → SS → Int32 → Int32 → Option (SS)
  | 0, _, _, _ => none
  | n + 1, S, l1, l2 => (if l1 ≤ l2 then some (sput S ((rd S 75 3).toNatClampNeg) 93) else (if l2 ≤ 0 then ((iget (S 76) l2).bind fun b5 => (if b5 = (-1 : Int32) then ((iget (S 77) l2).bind fun b7 => ((l_place S ((rd S 75 3).toNatClampNeg) b7).bind fun r8 => l_path_l11 n r8 l1 (l2 + 1))) else ((t_past (tT S ((rd S 75 2).toNatClampNeg)) b5).bind fun r10 => ((spart S ((rd S 75 3).toNatClampNeg) ((rd S 75 2).toNatClampNeg) b5 r10).bind fun r12 => l_path_l11 n r12 l1 (l2 + 1))))) else ((iget ((sput S ((rd S 75 3).toNatClampNeg) 44) 76) l2).bind fun b15 => (if b15 = (-1 : Int32) then ((iget ((sput S ((rd S 75 3).toNatClampNeg) 44) 77) l2).bind fun b17 => ((l_place (sput S ((rd S 75 3).toNatClampNeg) 44) ((rd (sput S ((rd S 75 3).toNatClampNeg) 44) 75 3).toNatClampNeg) b17).bind fun r18 => l_path_l11 n r18 l1 (l2 + 1))) else ((t_past (tT (sput S ((rd S 75 3).toNatClampNeg) 44) ((rd (sput S ((rd S 75 3).toNatClampNeg) 44) 75 2).toNatClampNeg)) b15).bind fun r20 => ((spart (sput S ((rd S 75 3).toNatClampNeg) 44) ((rd (sput S ((rd S 75 3).toNatClampNeg) 44) 75 3).toNatClampNeg) ((rd (sput S ((rd S 75 3).toNatClampNeg) 44) 75 2).toNatClampNeg) b15 r20).bind fun r22 => l_path_l11 n r22 l1 (l2 + 1)))))))
theorem l_path_l11_ok : ∀ (n : Nat), ∀ (h : mH) (S : SS) (l1 : Int32) (l2 : Int32) (v : SS), cs h S → l_path_l11 n S l1 l2 = some v → mW (d + 3) mm150 (11, [some (.ref 75), some (.int l1), some (.int l2)], [], (h, q)) (mQ q v none) := by
  intro n
  induction n with
  | zero => intro h S l1 l2 v hs hv; cases hv
  | succ n ih =>
    intro h S l1 l2 v hs hv
    unfold l_path_l11 at hv
    refine mW.sn 2 (g' := (13, [some (.ref 75), some (.int l1), some (.int l2)], [.int l1, .int l2], (h, q))) rfl ?_
    refine mW.br (g1 := (91, [some (.ref 75), some (.int l1), some (.int l2)], [], (h, q))) (g2 := (16, [some (.ref 75), some (.int l1), some (.int l2)], [], (h, q))) (c := l1 ≤ l2) rfl (fun hc2 => ?_) (fun hc2 => ?_)
    · rw [if_pos hc2] at hv
      refine mW.sn 1 (g' := (92, [some (.ref 75), some (.int l1), some (.int l2)], [.ref 75], (h, q))) rfl ?_
      refine sW.getT rfl hs o75 rfl ?_
      refine mW.sn 1 (g' := (97, [some (.ref 75), some (.int l1), some (.int l2)], [.int 93, .ref ((rd S 75 3).toNatClampNeg)], (h, q))) rfl ?_
      refine sW.call rfl rfl rfl rfl (hs.rcvT (hs.okT o75 rfl)) (s15 hs (hs.okT o75 rfl)) ?_
      intro h3 hs3
      cases hv
      exact sW.fin hs3 rfl
    · rw [if_neg hc2] at hv
      refine mW.sn 1 (g' := (17, [some (.ref 75), some (.int l1), some (.int l2)], [.int l2], (h, q))) rfl ?_
      refine mW.br (g1 := (29, [some (.ref 75), some (.int l1), some (.int l2)], [], (h, q))) (g2 := (20, [some (.ref 75), some (.int l1), some (.int l2)], [], (h, q))) (c := l2 ≤ 0) rfl (fun hc4 => ?_) (fun hc4 => ?_)
      · rw [if_pos hc4] at hv
        refine mW.sn 1 (g' := (30, [some (.ref 75), some (.int l1), some (.int l2)], [.ref 75], (h, q))) rfl ?_
        refine sW.getR rfl hs o75 rfl rfl ?_
        refine mW.sn 1 (g' := (34, [some (.ref 75), some (.int l1), some (.int l2)], [.int l2, .ref 76], (h, q))) rfl ?_
        cases hr5 : iget (S 76) l2 with
        | none => rw [hr5] at hv; cases hv
        | some b5 =>
          rw [hr5, o_bind] at hv
          refine sW.iald rfl hs (by decide) hr5 ?_
          refine mW.sn 1 (g' := (36, [some (.ref 75), some (.int l1), some (.int l2)], [.int (-1), .int b5], (h, q))) rfl ?_
          refine mW.br (g1 := (39, [some (.ref 75), some (.int l1), some (.int l2)], [], (h, q))) (g2 := (55, [some (.ref 75), some (.int l1), some (.int l2)], [], (h, q))) (c := b5 = (-1 : Int32)) rfl (fun hc6 => ?_) (fun hc6 => ?_)
          · rw [if_pos hc6] at hv
            refine mW.sn 1 (g' := (40, [some (.ref 75), some (.int l1), some (.int l2)], [.ref 75], (h, q))) rfl ?_
            refine sW.getT rfl hs o75 rfl ?_
            refine mW.sn 1 (g' := (44, [some (.ref 75), some (.int l1), some (.int l2)], [.ref 75, .ref ((rd S 75 3).toNatClampNeg)], (h, q))) rfl ?_
            refine sW.getR rfl hs o75 rfl rfl ?_
            refine mW.sn 1 (g' := (48, [some (.ref 75), some (.int l1), some (.int l2)], [.int l2, .ref 77, .ref ((rd S 75 3).toNatClampNeg)], (h, q))) rfl ?_
            cases hr7 : iget (S 77) l2 with
            | none => rw [hr7] at hv; cases hv
            | some b7 =>
              rw [hr7, o_bind] at hv
              refine sW.iald rfl hs (by decide) hr7 ?_
              cases hr8 : l_place S ((rd S 75 3).toNatClampNeg) b7 with
              | none => rw [hr8] at hv; cases hv
              | some r8 =>
                rw [hr8, o_bind] at hv
                refine sW.call rfl rfl rfl rfl (hs.rcvT (hs.okT o75 rfl)) (s151 (hs.okT o75 rfl) hs hr8) ?_
                intro h9 hs9
                refine mW.sn 3 (g' := (11, [some (.ref 75), some (.int l1), some (.int (l2 + 1))], [], (h9, q))) rfl ?_
                exact ih _ _ _ _ _  hs9 hv
          · rw [if_neg hc6] at hv
            refine mW.sn 1 (g' := (56, [some (.ref 75), some (.int l1), some (.int l2)], [.ref 75], (h, q))) rfl ?_
            refine sW.getT rfl hs o75 rfl ?_
            refine mW.sn 1 (g' := (60, [some (.ref 75), some (.int l1), some (.int l2)], [.ref 75, .ref ((rd S 75 3).toNatClampNeg)], (h, q))) rfl ?_
            refine sW.getT rfl hs o75 rfl ?_
            refine mW.sn 1 (g' := (64, [some (.ref 75), some (.int l1), some (.int l2)], [.ref 75, .ref ((rd S 75 2).toNatClampNeg), .ref ((rd S 75 3).toNatClampNeg)], (h, q))) rfl ?_
            refine sW.getR rfl hs o75 rfl rfl ?_
            refine mW.sn 1 (g' := (68, [some (.ref 75), some (.int l1), some (.int l2)], [.int l2, .ref 76, .ref ((rd S 75 2).toNatClampNeg), .ref ((rd S 75 3).toNatClampNeg)], (h, q))) rfl ?_
            refine sW.iald rfl hs (by decide) hr5 ?_
            refine mW.sn 1 (g' := (70, [some (.ref 75), some (.int l1), some (.int l2)], [.ref 75, .int b5, .ref ((rd S 75 2).toNatClampNeg), .ref ((rd S 75 3).toNatClampNeg)], (h, q))) rfl ?_
            refine sW.getT rfl hs o75 rfl ?_
            refine mW.sn 1 (g' := (74, [some (.ref 75), some (.int l1), some (.int l2)], [.ref 75, .ref ((rd S 75 2).toNatClampNeg), .int b5, .ref ((rd S 75 2).toNatClampNeg), .ref ((rd S 75 3).toNatClampNeg)], (h, q))) rfl ?_
            refine sW.getR rfl hs o75 rfl rfl ?_
            refine mW.sn 1 (g' := (78, [some (.ref 75), some (.int l1), some (.int l2)], [.int l2, .ref 76, .ref ((rd S 75 2).toNatClampNeg), .int b5, .ref ((rd S 75 2).toNatClampNeg), .ref ((rd S 75 3).toNatClampNeg)], (h, q))) rfl ?_
            refine sW.iald rfl hs (by decide) hr5 ?_
            cases hr10 : t_past (tT S ((rd S 75 2).toNatClampNeg)) b5 with
            | none => rw [hr10] at hv; cases hv
            | some r10 =>
              rw [hr10, o_bind] at hv
              refine sW.call rfl rfl rfl rfl (hs.rcvT (hs.okT o75 rfl)) (sW.of hs (x83 (hs.gtx (hs.okT o75 rfl)) hr10)) ?_
              intro h11 hs11
              cases hr12 : spart S ((rd S 75 3).toNatClampNeg) ((rd S 75 2).toNatClampNeg) b5 r10 with
              | none => rw [hr12] at hv; cases hv
              | some r12 =>
                rw [hr12, o_bind] at hv
                refine sW.call rfl rfl rfl rfl (hs11.rcvT (hs.okT o75 rfl)) (s61 (hs.okT o75 rfl) (hs.okT o75 rfl) hs11 hr12) ?_
                intro h13 hs13
                refine mW.sn 2 (g' := (11, [some (.ref 75), some (.int l1), some (.int (l2 + 1))], [], (h13, q))) rfl ?_
                exact ih _ _ _ _ _  hs13 hv
      · rw [if_neg hc4] at hv
        refine mW.sn 1 (g' := (21, [some (.ref 75), some (.int l1), some (.int l2)], [.ref 75], (h, q))) rfl ?_
        refine sW.getT rfl hs o75 rfl ?_
        refine mW.sn 1 (g' := (26, [some (.ref 75), some (.int l1), some (.int l2)], [.int 44, .ref ((rd S 75 3).toNatClampNeg)], (h, q))) rfl ?_
        refine sW.call rfl rfl rfl rfl (hs.rcvT (hs.okT o75 rfl)) (s15 hs (hs.okT o75 rfl)) ?_
        intro h14 hs14
        refine mW.sn 1 (g' := (30, [some (.ref 75), some (.int l1), some (.int l2)], [.ref 75], (h14, q))) rfl ?_
        refine sW.getR rfl hs14 o75 rfl rfl ?_
        refine mW.sn 1 (g' := (34, [some (.ref 75), some (.int l1), some (.int l2)], [.int l2, .ref 76], (h14, q))) rfl ?_
        cases hr15 : iget ((sput S ((rd S 75 3).toNatClampNeg) 44) 76) l2 with
        | none => rw [hr15] at hv; cases hv
        | some b15 =>
          rw [hr15, o_bind] at hv
          refine sW.iald rfl hs14 (by decide) hr15 ?_
          refine mW.sn 1 (g' := (36, [some (.ref 75), some (.int l1), some (.int l2)], [.int (-1), .int b15], (h14, q))) rfl ?_
          refine mW.br (g1 := (39, [some (.ref 75), some (.int l1), some (.int l2)], [], (h14, q))) (g2 := (55, [some (.ref 75), some (.int l1), some (.int l2)], [], (h14, q))) (c := b15 = (-1 : Int32)) rfl (fun hc16 => ?_) (fun hc16 => ?_)
          · rw [if_pos hc16] at hv
            refine mW.sn 1 (g' := (40, [some (.ref 75), some (.int l1), some (.int l2)], [.ref 75], (h14, q))) rfl ?_
            refine sW.getT rfl hs14 o75 rfl ?_
            refine mW.sn 1 (g' := (44, [some (.ref 75), some (.int l1), some (.int l2)], [.ref 75, .ref ((rd (sput S ((rd S 75 3).toNatClampNeg) 44) 75 3).toNatClampNeg)], (h14, q))) rfl ?_
            refine sW.getR rfl hs14 o75 rfl rfl ?_
            refine mW.sn 1 (g' := (48, [some (.ref 75), some (.int l1), some (.int l2)], [.int l2, .ref 77, .ref ((rd (sput S ((rd S 75 3).toNatClampNeg) 44) 75 3).toNatClampNeg)], (h14, q))) rfl ?_
            cases hr17 : iget ((sput S ((rd S 75 3).toNatClampNeg) 44) 77) l2 with
            | none => rw [hr17] at hv; cases hv
            | some b17 =>
              rw [hr17, o_bind] at hv
              refine sW.iald rfl hs14 (by decide) hr17 ?_
              cases hr18 : l_place (sput S ((rd S 75 3).toNatClampNeg) 44) ((rd (sput S ((rd S 75 3).toNatClampNeg) 44) 75 3).toNatClampNeg) b17 with
              | none => rw [hr18] at hv; cases hv
              | some r18 =>
                rw [hr18, o_bind] at hv
                refine sW.call rfl rfl rfl rfl (hs14.rcvT (hs14.okT o75 rfl)) (s151 (hs14.okT o75 rfl) hs14 hr18) ?_
                intro h19 hs19
                refine mW.sn 3 (g' := (11, [some (.ref 75), some (.int l1), some (.int (l2 + 1))], [], (h19, q))) rfl ?_
                exact ih _ _ _ _ _  hs19 hv
          · rw [if_neg hc16] at hv
            refine mW.sn 1 (g' := (56, [some (.ref 75), some (.int l1), some (.int l2)], [.ref 75], (h14, q))) rfl ?_
            refine sW.getT rfl hs14 o75 rfl ?_
            refine mW.sn 1 (g' := (60, [some (.ref 75), some (.int l1), some (.int l2)], [.ref 75, .ref ((rd (sput S ((rd S 75 3).toNatClampNeg) 44) 75 3).toNatClampNeg)], (h14, q))) rfl ?_
            refine sW.getT rfl hs14 o75 rfl ?_
            refine mW.sn 1 (g' := (64, [some (.ref 75), some (.int l1), some (.int l2)], [.ref 75, .ref ((rd (sput S ((rd S 75 3).toNatClampNeg) 44) 75 2).toNatClampNeg), .ref ((rd (sput S ((rd S 75 3).toNatClampNeg) 44) 75 3).toNatClampNeg)], (h14, q))) rfl ?_
            refine sW.getR rfl hs14 o75 rfl rfl ?_
            refine mW.sn 1 (g' := (68, [some (.ref 75), some (.int l1), some (.int l2)], [.int l2, .ref 76, .ref ((rd (sput S ((rd S 75 3).toNatClampNeg) 44) 75 2).toNatClampNeg), .ref ((rd (sput S ((rd S 75 3).toNatClampNeg) 44) 75 3).toNatClampNeg)], (h14, q))) rfl ?_
            refine sW.iald rfl hs14 (by decide) hr15 ?_
            refine mW.sn 1 (g' := (70, [some (.ref 75), some (.int l1), some (.int l2)], [.ref 75, .int b15, .ref ((rd (sput S ((rd S 75 3).toNatClampNeg) 44) 75 2).toNatClampNeg), .ref ((rd (sput S ((rd S 75 3).toNatClampNeg) 44) 75 3).toNatClampNeg)], (h14, q))) rfl ?_
            refine sW.getT rfl hs14 o75 rfl ?_
            refine mW.sn 1 (g' := (74, [some (.ref 75), some (.int l1), some (.int l2)], [.ref 75, .ref ((rd (sput S ((rd S 75 3).toNatClampNeg) 44) 75 2).toNatClampNeg), .int b15, .ref ((rd (sput S ((rd S 75 3).toNatClampNeg) 44) 75 2).toNatClampNeg), .ref ((rd (sput S ((rd S 75 3).toNatClampNeg) 44) 75 3).toNatClampNeg)], (h14, q))) rfl ?_
            refine sW.getR rfl hs14 o75 rfl rfl ?_
            refine mW.sn 1 (g' := (78, [some (.ref 75), some (.int l1), some (.int l2)], [.int l2, .ref 76, .ref ((rd (sput S ((rd S 75 3).toNatClampNeg) 44) 75 2).toNatClampNeg), .int b15, .ref ((rd (sput S ((rd S 75 3).toNatClampNeg) 44) 75 2).toNatClampNeg), .ref ((rd (sput S ((rd S 75 3).toNatClampNeg) 44) 75 3).toNatClampNeg)], (h14, q))) rfl ?_
            refine sW.iald rfl hs14 (by decide) hr15 ?_
            cases hr20 : t_past (tT (sput S ((rd S 75 3).toNatClampNeg) 44) ((rd (sput S ((rd S 75 3).toNatClampNeg) 44) 75 2).toNatClampNeg)) b15 with
            | none => rw [hr20] at hv; cases hv
            | some r20 =>
              rw [hr20, o_bind] at hv
              refine sW.call rfl rfl rfl rfl (hs14.rcvT (hs14.okT o75 rfl)) (sW.of hs14 (x83 (hs14.gtx (hs14.okT o75 rfl)) hr20)) ?_
              intro h21 hs21
              cases hr22 : spart (sput S ((rd S 75 3).toNatClampNeg) 44) ((rd (sput S ((rd S 75 3).toNatClampNeg) 44) 75 3).toNatClampNeg) ((rd (sput S ((rd S 75 3).toNatClampNeg) 44) 75 2).toNatClampNeg) b15 r20 with
              | none => rw [hr22] at hv; cases hv
              | some r22 =>
                rw [hr22, o_bind] at hv
                refine sW.call rfl rfl rfl rfl (hs21.rcvT (hs14.okT o75 rfl)) (s61 (hs14.okT o75 rfl) (hs14.okT o75 rfl) hs21 hr22) ?_
                intro h23 hs23
                refine mW.sn 2 (g' := (11, [some (.ref 75), some (.int l1), some (.int (l2 + 1))], [], (h23, q))) rfl ?_
                exact ih _ _ _ _ _  hs23 hv
def l_path (S : SS) (p0 : Int32) : Option (SS) := l_path_l11 10000 (sput S ((rd S 75 3).toNatClampNeg) 91) p0 0
theorem s150 {S : SS} {p0 : Int32} {v : SS} (hs : cs h S) (hv : l_path S p0 = some v) : mW (d + 3) mm150 (0, [some (.ref 75), some (.int p0), none], [], (h, q)) (mQ q v none) := by
  unfold l_path at hv
  refine mW.sn 1 (g' := (1, [some (.ref 75), some (.int p0), none], [.ref 75], (h, q))) rfl ?_
  refine sW.getT rfl hs o75 rfl ?_
  refine mW.sn 1 (g' := (6, [some (.ref 75), some (.int p0), none], [.int 91, .ref ((rd S 75 3).toNatClampNeg)], (h, q))) rfl ?_
  refine sW.call rfl rfl rfl rfl (hs.rcvT (hs.okT o75 rfl)) (s15 hs (hs.okT o75 rfl)) ?_
  intro h1 hs1
  refine mW.sn 2 (g' := (11, [some (.ref 75), some (.int p0), some (.int 0)], [], (h1, q))) rfl ?_
  exact l_path_l11_ok _ _ _ _ _ _  hs1 hv
def l_fromB_l45 (rec : SS → Int32 → Int32 → Option (SS)) : Nat → SS → Int32 → Int32 → Int32 → Int32 → Option (SS)
  | 0, _, _, _, _, _ => none
  | n + 1, S, l2, l3, l4, l5 => (if (4096 : Int32) ≤ l5 then some S else (if l4 = (-1 : Int32) then some S else (if ((tV S ((rd S 75 3).toNatClampNeg)) &&& 1) = 0 then (if l3 = (6 : Int32) then ((iset (S 76) l2 l4).bind fun z14 => ((iset ((up S 76 z14) 77) l2 l5).bind fun z16 => ((t_valueOf (tT (sput (up (up S 76 z14) 77 z16) ((rd (up (up S 76 z14) 77 z16) 75 3).toNatClampNeg) 44) ((rd (sput (up (up S 76 z14) 77 z16) ((rd (up (up S 76 z14) 77 z16) 75 3).toNatClampNeg) 44) 75 2).toNatClampNeg)) l4).bind fun r19 => ((rec (sput (up (up S 76 z14) 77 z16) ((rd (up (up S 76 z14) 77 z16) 75 3).toNatClampNeg) 44) r19 (l2 + 1)).bind fun r21 => ((t_next (tT r21 ((rd r21 75 2).toNatClampNeg)) l4).bind fun r23 => l_fromB_l45 rec n r21 l2 l3 r23 (l5 + 1)))))) else ((iset (S 76) l2 (-1)).bind fun z25 => ((iset ((up S 76 z25) 77) l2 l5).bind fun z27 => ((rec (sput (up (up S 76 z25) 77 z27) ((rd (up (up S 76 z25) 77 z27) 75 3).toNatClampNeg) 44) l4 (l2 + 1)).bind fun r30 => ((t_next (tT r30 ((rd r30 75 2).toNatClampNeg)) l4).bind fun r32 => l_fromB_l45 rec n r30 l2 l3 r32 (l5 + 1)))))) else some S)))
theorem l_fromB_l45_ok {rec : SS → Int32 → Int32 → Option (SS)} (hrec : ∀ (e : Nat), d ≤ e → ∀ (h : mH) (S : SS) (p0 : Int32) (p1 : Int32) (v : SS), cs h S → rec S p0 p1 = some v → mW e mm149 (0, [some (.ref 75), some (.int p0), some (.int p1), none, none, none], [], (h, q)) (mQ q v none)) : ∀ (n : Nat), ∀ (h : mH) (S : SS) (l2 : Int32) (l3 : Int32) (l4 : Int32) (l5 : Int32) (y1 : Int32) (v : SS), cs h S → l_fromB_l45 rec n S l2 l3 l4 l5 = some v → mW (d + 4) mm149 (45, [some (.ref 75), some (.int y1), some (.int l2), some (.int l3), some (.int l4), some (.int l5)], [], (h, q)) (mQ q v none) := by
  intro n
  induction n with
  | zero => intro h S l2 l3 l4 l5 y1 v hs hv; cases hv
  | succ n ih =>
    intro h S l2 l3 l4 l5 y1 v hs hv
    unfold l_fromB_l45 at hv
    refine mW.sn 2 (g' := (50, [some (.ref 75), some (.int y1), some (.int l2), some (.int l3), some (.int l4), some (.int l5)], [.int 4096, .int l5], (h, q))) rfl ?_
    refine mW.br (g1 := (148, [some (.ref 75), some (.int y1), some (.int l2), some (.int l3), some (.int l4), some (.int l5)], [], (h, q))) (g2 := (53, [some (.ref 75), some (.int y1), some (.int l2), some (.int l3), some (.int l4), some (.int l5)], [], (h, q))) (c := (4096 : Int32) ≤ l5) rfl (fun hc9 => ?_) (fun hc9 => ?_)
    · rw [if_pos hc9] at hv
      cases hv
      exact sW.fin hs rfl
    · rw [if_neg hc9] at hv
      refine mW.sn 2 (g' := (56, [some (.ref 75), some (.int y1), some (.int l2), some (.int l3), some (.int l4), some (.int l5)], [.int (-1), .int l4], (h, q))) rfl ?_
      refine mW.br (g1 := (148, [some (.ref 75), some (.int y1), some (.int l2), some (.int l3), some (.int l4), some (.int l5)], [], (h, q))) (g2 := (59, [some (.ref 75), some (.int y1), some (.int l2), some (.int l3), some (.int l4), some (.int l5)], [], (h, q))) (c := l4 = (-1 : Int32)) rfl (fun hc10 => ?_) (fun hc10 => ?_)
      · rw [if_pos hc10] at hv
        cases hv
        exact sW.fin hs rfl
      · rw [if_neg hc10] at hv
        refine mW.sn 1 (g' := (60, [some (.ref 75), some (.int y1), some (.int l2), some (.int l3), some (.int l4), some (.int l5)], [.ref 75], (h, q))) rfl ?_
        refine sW.getT rfl hs o75 rfl ?_
        refine sW.call rfl rfl rfl rfl (hs.rcvT (hs.okT o75 rfl)) (sW.of hs (x63 (hs.gtx (hs.okT o75 rfl)))) ?_
        intro h11 hs11
        refine mW.br (g1 := (69, [some (.ref 75), some (.int y1), some (.int l2), some (.int l3), some (.int l4), some (.int l5)], [], (h11, q))) (g2 := (148, [some (.ref 75), some (.int y1), some (.int l2), some (.int l3), some (.int l4), some (.int l5)], [], (h11, q))) (c := ((tV S ((rd S 75 3).toNatClampNeg)) &&& 1) = 0) rfl (fun hc12 => ?_) (fun hc12 => ?_)
        · rw [if_pos hc12] at hv
          refine mW.sn 1 (g' := (70, [some (.ref 75), some (.int y1), some (.int l2), some (.int l3), some (.int l4), some (.int l5)], [.ref 75], (h11, q))) rfl ?_
          refine sW.getR rfl hs11 o75 rfl rfl ?_
          refine mW.sn 3 (g' := (77, [some (.ref 75), some (.int y1), some (.int l2), some (.int l3), some (.int l4), some (.int l5)], [.int 6, .int l3, .int l2, .ref 76], (h11, q))) rfl ?_
          refine mW.br (g1 := (80, [some (.ref 75), some (.int y1), some (.int l2), some (.int l3), some (.int l4), some (.int l5)], [.int l2, .ref 76], (h11, q))) (g2 := (85, [some (.ref 75), some (.int y1), some (.int l2), some (.int l3), some (.int l4), some (.int l5)], [.int l2, .ref 76], (h11, q))) (c := l3 = (6 : Int32)) rfl (fun hc13 => ?_) (fun hc13 => ?_)
          · rw [if_pos hc13] at hv
            refine mW.sn 2 (g' := (86, [some (.ref 75), some (.int y1), some (.int l2), some (.int l3), some (.int l4), some (.int l5)], [.int l4, .int l2, .ref 76], (h11, q))) rfl ?_
            cases hr14 : iset (S 76) l2 l4 with
            | none => rw [hr14] at hv; cases hv
            | some z14 =>
              rw [hr14, o_bind] at hv
              refine sW.iast rfl hs11 (by decide) hr14 ?_
              intro h15 hs15
              refine mW.sn 1 (g' := (88, [some (.ref 75), some (.int y1), some (.int l2), some (.int l3), some (.int l4), some (.int l5)], [.ref 75], (h15, q))) rfl ?_
              refine sW.getR rfl hs15 o75 rfl rfl ?_
              refine mW.sn 2 (g' := (94, [some (.ref 75), some (.int y1), some (.int l2), some (.int l3), some (.int l4), some (.int l5)], [.int l5, .int l2, .ref 77], (h15, q))) rfl ?_
              cases hr16 : iset ((up S 76 z14) 77) l2 l5 with
              | none => rw [hr16] at hv; cases hv
              | some z16 =>
                rw [hr16, o_bind] at hv
                refine sW.iast rfl hs15 (by decide) hr16 ?_
                intro h17 hs17
                refine mW.sn 1 (g' := (96, [some (.ref 75), some (.int y1), some (.int l2), some (.int l3), some (.int l4), some (.int l5)], [.ref 75], (h17, q))) rfl ?_
                refine sW.getT rfl hs17 o75 rfl ?_
                refine mW.sn 1 (g' := (101, [some (.ref 75), some (.int y1), some (.int l2), some (.int l3), some (.int l4), some (.int l5)], [.int 44, .ref ((rd (up (up S 76 z14) 77 z16) 75 3).toNatClampNeg)], (h17, q))) rfl ?_
                refine sW.call rfl rfl rfl rfl (hs17.rcvT (hs17.okT o75 rfl)) (s15 hs17 (hs17.okT o75 rfl)) ?_
                intro h18 hs18
                refine mW.sn 3 (g' := (108, [some (.ref 75), some (.int y1), some (.int l2), some (.int l3), some (.int l4), some (.int l5)], [.int 6, .int l3, .ref 75], (h18, q))) rfl ?_
                refine mW.yes (g1 := (111, [some (.ref 75), some (.int y1), some (.int l2), some (.int l3), some (.int l4), some (.int l5)], [.ref 75], (h18, q))) (g2 := (123, [some (.ref 75), some (.int y1), some (.int l2), some (.int l3), some (.int l4), some (.int l5)], [.ref 75], (h18, q))) (c := l3 = (6 : Int32)) rfl hc13 ?_
                refine mW.sn 1 (g' := (112, [some (.ref 75), some (.int y1), some (.int l2), some (.int l3), some (.int l4), some (.int l5)], [.ref 75, .ref 75], (h18, q))) rfl ?_
                refine sW.getT rfl hs18 o75 rfl ?_
                refine mW.sn 1 (g' := (117, [some (.ref 75), some (.int y1), some (.int l2), some (.int l3), some (.int l4), some (.int l5)], [.int l4, .ref ((rd (sput (up (up S 76 z14) 77 z16) ((rd (up (up S 76 z14) 77 z16) 75 3).toNatClampNeg) 44) 75 2).toNatClampNeg), .ref 75], (h18, q))) rfl ?_
                cases hr19 : t_valueOf (tT (sput (up (up S 76 z14) 77 z16) ((rd (up (up S 76 z14) 77 z16) 75 3).toNatClampNeg) 44) ((rd (sput (up (up S 76 z14) 77 z16) ((rd (up (up S 76 z14) 77 z16) 75 3).toNatClampNeg) 44) 75 2).toNatClampNeg)) l4 with
                | none => rw [hr19] at hv; cases hv
                | some r19 =>
                  rw [hr19, o_bind] at hv
                  refine sW.call rfl rfl rfl rfl (hs18.rcvT (hs18.okT o75 rfl)) (sW.of hs18 (x82 (hs18.gtx (hs18.okT o75 rfl)) hr19)) ?_
                  intro h20 hs20
                  refine mW.sn 4 (g' := (128, [some (.ref 75), some (.int y1), some (.int l2), some (.int l3), some (.int l4), some (.int l5)], [.int (l2 + 1), .int r19, .ref 75], (h20, q))) rfl ?_
                  cases hr21 : rec (sput (up (up S 76 z14) 77 z16) ((rd (up (up S 76 z14) 77 z16) 75 3).toNatClampNeg) 44) r19 (l2 + 1) with
                  | none => rw [hr21] at hv; cases hv
                  | some r21 =>
                    rw [hr21, o_bind] at hv
                    refine sW.call rfl rfl rfl rfl (hs20.rcv o75) (hrec _ (by omega) _ _ _ _ _  hs20 hr21) ?_
                    intro h22 hs22
                    refine mW.sn 1 (g' := (132, [some (.ref 75), some (.int y1), some (.int l2), some (.int l3), some (.int l4), some (.int l5)], [.ref 75], (h22, q))) rfl ?_
                    refine sW.getT rfl hs22 o75 rfl ?_
                    refine mW.sn 1 (g' := (137, [some (.ref 75), some (.int y1), some (.int l2), some (.int l3), some (.int l4), some (.int l5)], [.int l4, .ref ((rd r21 75 2).toNatClampNeg)], (h22, q))) rfl ?_
                    cases hr23 : t_next (tT r21 ((rd r21 75 2).toNatClampNeg)) l4 with
                    | none => rw [hr23] at hv; cases hv
                    | some r23 =>
                      rw [hr23, o_bind] at hv
                      refine sW.call rfl rfl rfl rfl (hs22.rcvT (hs22.okT o75 rfl)) (sW.of hs22 (x81 (hs22.gtx (hs22.okT o75 rfl)) hr23)) ?_
                      intro h24 hs24
                      refine mW.sn 3 (g' := (45, [some (.ref 75), some (.int y1), some (.int l2), some (.int l3), some (.int r23), some (.int (l5 + 1))], [], (h24, q))) rfl ?_
                      exact ih _ _ _ _ _ _ _ _  hs24 hv
          · rw [if_neg hc13] at hv
            refine mW.sn 1 (g' := (86, [some (.ref 75), some (.int y1), some (.int l2), some (.int l3), some (.int l4), some (.int l5)], [.int (-1), .int l2, .ref 76], (h11, q))) rfl ?_
            cases hr25 : iset (S 76) l2 (-1) with
            | none => rw [hr25] at hv; cases hv
            | some z25 =>
              rw [hr25, o_bind] at hv
              refine sW.iast rfl hs11 (by decide) hr25 ?_
              intro h26 hs26
              refine mW.sn 1 (g' := (88, [some (.ref 75), some (.int y1), some (.int l2), some (.int l3), some (.int l4), some (.int l5)], [.ref 75], (h26, q))) rfl ?_
              refine sW.getR rfl hs26 o75 rfl rfl ?_
              refine mW.sn 2 (g' := (94, [some (.ref 75), some (.int y1), some (.int l2), some (.int l3), some (.int l4), some (.int l5)], [.int l5, .int l2, .ref 77], (h26, q))) rfl ?_
              cases hr27 : iset ((up S 76 z25) 77) l2 l5 with
              | none => rw [hr27] at hv; cases hv
              | some z27 =>
                rw [hr27, o_bind] at hv
                refine sW.iast rfl hs26 (by decide) hr27 ?_
                intro h28 hs28
                refine mW.sn 1 (g' := (96, [some (.ref 75), some (.int y1), some (.int l2), some (.int l3), some (.int l4), some (.int l5)], [.ref 75], (h28, q))) rfl ?_
                refine sW.getT rfl hs28 o75 rfl ?_
                refine mW.sn 1 (g' := (101, [some (.ref 75), some (.int y1), some (.int l2), some (.int l3), some (.int l4), some (.int l5)], [.int 44, .ref ((rd (up (up S 76 z25) 77 z27) 75 3).toNatClampNeg)], (h28, q))) rfl ?_
                refine sW.call rfl rfl rfl rfl (hs28.rcvT (hs28.okT o75 rfl)) (s15 hs28 (hs28.okT o75 rfl)) ?_
                intro h29 hs29
                refine mW.sn 3 (g' := (108, [some (.ref 75), some (.int y1), some (.int l2), some (.int l3), some (.int l4), some (.int l5)], [.int 6, .int l3, .ref 75], (h29, q))) rfl ?_
                refine mW.no (g1 := (111, [some (.ref 75), some (.int y1), some (.int l2), some (.int l3), some (.int l4), some (.int l5)], [.ref 75], (h29, q))) (g2 := (123, [some (.ref 75), some (.int y1), some (.int l2), some (.int l3), some (.int l4), some (.int l5)], [.ref 75], (h29, q))) (c := l3 = (6 : Int32)) rfl hc13 ?_
                refine mW.sn 4 (g' := (128, [some (.ref 75), some (.int y1), some (.int l2), some (.int l3), some (.int l4), some (.int l5)], [.int (l2 + 1), .int l4, .ref 75], (h29, q))) rfl ?_
                cases hr30 : rec (sput (up (up S 76 z25) 77 z27) ((rd (up (up S 76 z25) 77 z27) 75 3).toNatClampNeg) 44) l4 (l2 + 1) with
                | none => rw [hr30] at hv; cases hv
                | some r30 =>
                  rw [hr30, o_bind] at hv
                  refine sW.call rfl rfl rfl rfl (hs29.rcv o75) (hrec _ (by omega) _ _ _ _ _  hs29 hr30) ?_
                  intro h31 hs31
                  refine mW.sn 1 (g' := (132, [some (.ref 75), some (.int y1), some (.int l2), some (.int l3), some (.int l4), some (.int l5)], [.ref 75], (h31, q))) rfl ?_
                  refine sW.getT rfl hs31 o75 rfl ?_
                  refine mW.sn 1 (g' := (137, [some (.ref 75), some (.int y1), some (.int l2), some (.int l3), some (.int l4), some (.int l5)], [.int l4, .ref ((rd r30 75 2).toNatClampNeg)], (h31, q))) rfl ?_
                  cases hr32 : t_next (tT r30 ((rd r30 75 2).toNatClampNeg)) l4 with
                  | none => rw [hr32] at hv; cases hv
                  | some r32 =>
                    rw [hr32, o_bind] at hv
                    refine sW.call rfl rfl rfl rfl (hs31.rcvT (hs31.okT o75 rfl)) (sW.of hs31 (x81 (hs31.gtx (hs31.okT o75 rfl)) hr32)) ?_
                    intro h33 hs33
                    refine mW.sn 3 (g' := (45, [some (.ref 75), some (.int y1), some (.int l2), some (.int l3), some (.int r32), some (.int (l5 + 1))], [], (h33, q))) rfl ?_
                    exact ih _ _ _ _ _ _ _ _  hs33 hv
        · rw [if_neg hc12] at hv
          cases hv
          exact sW.fin hs11 rfl
def l_fromB (S : SS) (rec : SS → Int32 → Int32 → Option (SS)) (p0 : Int32) (p1 : Int32) : Option (SS) := ((l_path S p1).bind fun r1 => ((t_kind (tT r1 ((rd r1 75 2).toNatClampNeg)) p0).bind fun r3 => (if r3 = (5 : Int32) then (if p1 < (60 : Int32) then ((t_first (tT r1 ((rd r1 75 2).toNatClampNeg)) p0).bind fun r7 => l_fromB_l45 rec 10000 r1 p1 r3 r7 0) else some r1) else (if r3 = (6 : Int32) then (if p1 < (60 : Int32) then ((t_first (tT r1 ((rd r1 75 2).toNatClampNeg)) p0).bind fun r36 => l_fromB_l45 rec 10000 r1 p1 r3 r36 0) else some r1) else some r1))))
theorem s149 {S : SS} {rec : SS → Int32 → Int32 → Option (SS)} (hrec : ∀ (e : Nat), d ≤ e → ∀ (h : mH) (S : SS) (p0 : Int32) (p1 : Int32) (v : SS), cs h S → rec S p0 p1 = some v → mW e mm149 (0, [some (.ref 75), some (.int p0), some (.int p1), none, none, none], [], (h, q)) (mQ q v none)) {p0 : Int32} {p1 : Int32} {v : SS} (hs : cs h S) (hv : l_fromB S rec p0 p1 = some v) : mW (d + 4) mm149 (0, [some (.ref 75), some (.int p0), some (.int p1), none, none, none], [], (h, q)) (mQ q v none) := by
  unfold l_fromB at hv
  refine mW.sn 2 (g' := (2, [some (.ref 75), some (.int p0), some (.int p1), none, none, none], [.int p1, .ref 75], (h, q))) rfl ?_
  cases hr1 : l_path S p1 with
  | none => rw [hr1] at hv; cases hv
  | some r1 =>
    rw [hr1, o_bind] at hv
    refine sW.call rfl rfl rfl rfl (hs.rcv o75) (s150 hs hr1) ?_
    intro h2 hs2
    refine mW.sn 1 (g' := (6, [some (.ref 75), some (.int p0), some (.int p1), none, none, none], [.ref 75], (h2, q))) rfl ?_
    refine sW.getT rfl hs2 o75 rfl ?_
    refine mW.sn 1 (g' := (10, [some (.ref 75), some (.int p0), some (.int p1), none, none, none], [.int p0, .ref ((rd r1 75 2).toNatClampNeg)], (h2, q))) rfl ?_
    cases hr3 : t_kind (tT r1 ((rd r1 75 2).toNatClampNeg)) p0 with
    | none => rw [hr3] at hv; cases hv
    | some r3 =>
      rw [hr3, o_bind] at hv
      refine sW.call rfl rfl rfl rfl (hs2.rcvT (hs2.okT o75 rfl)) (sW.of hs2 (x70 (hs2.gtx (hs2.okT o75 rfl)) hr3)) ?_
      intro h4 hs4
      refine mW.sn 3 (g' := (16, [some (.ref 75), some (.int p0), some (.int p1), some (.int r3), none, none], [.int 5, .int r3], (h4, q))) rfl ?_
      refine mW.br (g1 := (25, [some (.ref 75), some (.int p0), some (.int p1), some (.int r3), none, none], [], (h4, q))) (g2 := (19, [some (.ref 75), some (.int p0), some (.int p1), some (.int r3), none, none], [], (h4, q))) (c := r3 = (5 : Int32)) rfl (fun hc5 => ?_) (fun hc5 => ?_)
      · rw [if_pos hc5] at hv
        refine mW.sn 2 (g' := (28, [some (.ref 75), some (.int p0), some (.int p1), some (.int r3), none, none], [.int 60, .int p1], (h4, q))) rfl ?_
        refine mW.br (g1 := (32, [some (.ref 75), some (.int p0), some (.int p1), some (.int r3), none, none], [], (h4, q))) (g2 := (31, [some (.ref 75), some (.int p0), some (.int p1), some (.int r3), none, none], [], (h4, q))) (c := p1 < (60 : Int32)) rfl (fun hc6 => ?_) (fun hc6 => ?_)
        · rw [if_pos hc6] at hv
          refine mW.sn 1 (g' := (33, [some (.ref 75), some (.int p0), some (.int p1), some (.int r3), none, none], [.ref 75], (h4, q))) rfl ?_
          refine sW.getT rfl hs4 o75 rfl ?_
          refine mW.sn 1 (g' := (37, [some (.ref 75), some (.int p0), some (.int p1), some (.int r3), none, none], [.int p0, .ref ((rd r1 75 2).toNatClampNeg)], (h4, q))) rfl ?_
          cases hr7 : t_first (tT r1 ((rd r1 75 2).toNatClampNeg)) p0 with
          | none => rw [hr7] at hv; cases hv
          | some r7 =>
            rw [hr7, o_bind] at hv
            refine sW.call rfl rfl rfl rfl (hs4.rcvT (hs4.okT o75 rfl)) (sW.of hs4 (x74 (hs4.gtx (hs4.okT o75 rfl)) hr7)) ?_
            intro h8 hs8
            refine mW.sn 3 (g' := (45, [some (.ref 75), some (.int p0), some (.int p1), some (.int r3), some (.int r7), some (.int 0)], [], (h8, q))) rfl ?_
            exact l_fromB_l45_ok hrec _ _ _ _ _ _ _ _ _  hs8 hv
        · rw [if_neg hc6] at hv
          cases hv
          exact sW.fin hs4 rfl
      · rw [if_neg hc5] at hv
        refine mW.sn 2 (g' := (22, [some (.ref 75), some (.int p0), some (.int p1), some (.int r3), none, none], [.int 6, .int r3], (h4, q))) rfl ?_
        refine mW.br (g1 := (25, [some (.ref 75), some (.int p0), some (.int p1), some (.int r3), none, none], [], (h4, q))) (g2 := (31, [some (.ref 75), some (.int p0), some (.int p1), some (.int r3), none, none], [], (h4, q))) (c := r3 = (6 : Int32)) rfl (fun hc34 => ?_) (fun hc34 => ?_)
        · rw [if_pos hc34] at hv
          refine mW.sn 2 (g' := (28, [some (.ref 75), some (.int p0), some (.int p1), some (.int r3), none, none], [.int 60, .int p1], (h4, q))) rfl ?_
          refine mW.br (g1 := (32, [some (.ref 75), some (.int p0), some (.int p1), some (.int r3), none, none], [], (h4, q))) (g2 := (31, [some (.ref 75), some (.int p0), some (.int p1), some (.int r3), none, none], [], (h4, q))) (c := p1 < (60 : Int32)) rfl (fun hc35 => ?_) (fun hc35 => ?_)
          · rw [if_pos hc35] at hv
            refine mW.sn 1 (g' := (33, [some (.ref 75), some (.int p0), some (.int p1), some (.int r3), none, none], [.ref 75], (h4, q))) rfl ?_
            refine sW.getT rfl hs4 o75 rfl ?_
            refine mW.sn 1 (g' := (37, [some (.ref 75), some (.int p0), some (.int p1), some (.int r3), none, none], [.int p0, .ref ((rd r1 75 2).toNatClampNeg)], (h4, q))) rfl ?_
            cases hr36 : t_first (tT r1 ((rd r1 75 2).toNatClampNeg)) p0 with
            | none => rw [hr36] at hv; cases hv
            | some r36 =>
              rw [hr36, o_bind] at hv
              refine sW.call rfl rfl rfl rfl (hs4.rcvT (hs4.okT o75 rfl)) (sW.of hs4 (x74 (hs4.gtx (hs4.okT o75 rfl)) hr36)) ?_
              intro h37 hs37
              refine mW.sn 3 (g' := (45, [some (.ref 75), some (.int p0), some (.int p1), some (.int r3), some (.int r36), some (.int 0)], [], (h37, q))) rfl ?_
              exact l_fromB_l45_ok hrec _ _ _ _ _ _ _ _ _  hs37 hv
          · rw [if_neg hc35] at hv
            cases hv
            exact sW.fin hs4 rfl
        · rw [if_neg hc34] at hv
          cases hv
          exact sW.fin hs4 rfl
def l_from : Nat → SS → Int32 → Int32 → Option (SS)
  | 0, _, _, _ => none
  | n + 1, S, p0, p1 => l_fromB S (l_from n) p0 p1
theorem l_from_ok : ∀ (n e : Nat), 4 * n ≤ e → ∀ (h : mH) (S : SS) (p0 : Int32) (p1 : Int32) (v : SS), cs h S → l_from n S p0 p1 = some v → mW e mm149 (0, [some (.ref 75), some (.int p0), some (.int p1), none, none, none], [], (h, q)) (mQ q v none) := by
  intro n
  induction n with
  | zero => intro e he h S p0 p1 v  hs hv; cases hv
  | succ n ih =>
    intro e he h S p0 p1 v  hs hv
    have := s149 (d := e - 4) (q := q)  (rec := l_from n) (fun e' he' => ih e' (by omega)) hs hv
    rw [show e = e - 4 + 4 by omega]
    exact this
def l_list (S : SS) (t0 : Nat) (t1 : Nat) : Option (SS) := ((l_from 100 (sput (up (wr (wr S 75 2 (Int32.ofNat t0)) 75 3 (Int32.ofNat t1)) ((rd (wr (wr S 75 2 (Int32.ofNat t0)) 75 3 (Int32.ofNat t1)) 75 3).toNatClampNeg) [0]) ((rd (up (wr (wr S 75 2 (Int32.ofNat t0)) 75 3 (Int32.ofNat t1)) ((rd (wr (wr S 75 2 (Int32.ofNat t0)) 75 3 (Int32.ofNat t1)) 75 3).toNatClampNeg) [0]) 75 3).toNatClampNeg) 91) 0 0).bind fun r5 => some (sput r5 ((rd r5 75 3).toNatClampNeg) 93))
theorem s148 {S : SS} {t0 : Nat} (ht0 : t0 ∈ shT) {t1 : Nat} (ht1 : t1 ∈ shT) {v : SS} (hs : cs h S) (hv : l_list S t0 t1 = some v) : mW (d + 401) mm148 (0, [some (.ref 75), some (.ref t0), some (.ref t1)], [], (h, q)) (mQ q v none) := by
  unfold l_list at hv
  refine mW.sn 2 (g' := (2, [some (.ref 75), some (.ref t0), some (.ref t1)], [.ref t0, .ref 75], (h, q))) rfl ?_
  refine sW.putT rfl hs o75 rfl ht0 ?_
  intro h1 hs1
  refine mW.sn 2 (g' := (7, [some (.ref 75), some (.ref t0), some (.ref t1)], [.ref t1, .ref 75], (h1, q))) rfl ?_
  refine sW.putT rfl hs1 o75 rfl ht1 ?_
  intro h2 hs2
  refine mW.sn 1 (g' := (11, [some (.ref 75), some (.ref t0), some (.ref t1)], [.ref 75], (h2, q))) rfl ?_
  refine sW.getT rfl hs2 o75 rfl ?_
  refine sW.call rfl rfl rfl rfl (hs2.rcvT (hs2.okT o75 rfl)) (s35 hs2 (hs2.okT o75 rfl)) ?_
  intro h3 hs3
  refine mW.sn 1 (g' := (18, [some (.ref 75), some (.ref t0), some (.ref t1)], [.ref 75], (h3, q))) rfl ?_
  refine sW.getT rfl hs3 o75 rfl ?_
  refine mW.sn 1 (g' := (23, [some (.ref 75), some (.ref t0), some (.ref t1)], [.int 91, .ref ((rd (up (wr (wr S 75 2 (Int32.ofNat t0)) 75 3 (Int32.ofNat t1)) ((rd (wr (wr S 75 2 (Int32.ofNat t0)) 75 3 (Int32.ofNat t1)) 75 3).toNatClampNeg) [0]) 75 3).toNatClampNeg)], (h3, q))) rfl ?_
  refine sW.call rfl rfl rfl rfl (hs3.rcvT (hs3.okT o75 rfl)) (s15 hs3 (hs3.okT o75 rfl)) ?_
  intro h4 hs4
  refine mW.sn 3 (g' := (29, [some (.ref 75), some (.ref t0), some (.ref t1)], [.int 0, .int 0, .ref 75], (h4, q))) rfl ?_
  cases hr5 : l_from 100 (sput (up (wr (wr S 75 2 (Int32.ofNat t0)) 75 3 (Int32.ofNat t1)) ((rd (wr (wr S 75 2 (Int32.ofNat t0)) 75 3 (Int32.ofNat t1)) 75 3).toNatClampNeg) [0]) ((rd (up (wr (wr S 75 2 (Int32.ofNat t0)) 75 3 (Int32.ofNat t1)) ((rd (wr (wr S 75 2 (Int32.ofNat t0)) 75 3 (Int32.ofNat t1)) 75 3).toNatClampNeg) [0]) 75 3).toNatClampNeg) 91) 0 0 with
  | none => rw [hr5] at hv; cases hv
  | some r5 =>
    rw [hr5, o_bind] at hv
    refine sW.call rfl rfl rfl rfl (hs4.rcv o75) (l_from_ok 100 _ (by omega) _ _ _ _ _  hs4 hr5) ?_
    intro h6 hs6
    refine mW.sn 1 (g' := (33, [some (.ref 75), some (.ref t0), some (.ref t1)], [.ref 75], (h6, q))) rfl ?_
    refine sW.getT rfl hs6 o75 rfl ?_
    refine mW.sn 1 (g' := (38, [some (.ref 75), some (.ref t0), some (.ref t1)], [.int 93, .ref ((rd r5 75 3).toNatClampNeg)], (h6, q))) rfl ?_
    refine sW.call rfl rfl rfl rfl (hs6.rcvT (hs6.okT o75 rfl)) (s15 hs6 (hs6.okT o75 rfl)) ?_
    intro h7 hs7
    cases hv
    exact sW.fin hs7 rfl
end
