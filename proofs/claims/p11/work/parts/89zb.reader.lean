/-! PRINTED BY wip/whole (dec2): the class's Reader, second half. -/
section
set_option maxRecDepth 4000
variable {d : Nat} {h : mH} {q : Nat × Nat}
def c_items_l73 (rec : SS → Int32 → Option (SS)) : Nat → SS → Int32 → Int32 → Int32 → Int32 → Int32 → Int32 → Option (SS)
  | 0, _, _, _, _, _, _, _ => none
  | n + 1, S, l1, l2, l3, l4, l5, l6 => (if (4096 : Int32) ≤ l6 then ((c_take S l4).bind fun r11 => some r11) else (if l5 = 0 then ((c_take S l4).bind fun r14 => some r14) else (if l1 = (123 : Int32) then ((c_name S l3).bind fun r17 => ((c_fine r17).bind fun r19 => (if r19 = 0 then c_items_l73 rec n r17 l1 l2 l3 l4 0 (l6 + 1) else ((rec r17 (l2 + 1)).bind fun r23 => ((c_blanks r23).bind fun r25 => ((c_fine r25).bind fun r27 => (if r27 = 0 then c_items_l73 rec n r25 l1 l2 l3 l4 0 (l6 + 1) else (if (tat (tT r25 42) (rd r25 68 2)) = (44 : Int32) then ((c_take r25 44).bind fun r32 => ((c_blanks r32).bind fun r34 => c_items_l73 rec n r34 l1 l2 l3 l4 1 (l6 + 1))) else c_items_l73 rec n r25 l1 l2 l3 l4 0 (l6 + 1))))))))) else ((c_fine S).bind fun r36 => (if r36 = 0 then c_items_l73 rec n S l1 l2 l3 l4 0 (l6 + 1) else ((rec S (l2 + 1)).bind fun r40 => ((c_blanks r40).bind fun r42 => ((c_fine r42).bind fun r44 => (if r44 = 0 then c_items_l73 rec n r42 l1 l2 l3 l4 0 (l6 + 1) else (if (tat (tT r42 42) (rd r42 68 2)) = (44 : Int32) then ((c_take r42 44).bind fun r49 => ((c_blanks r49).bind fun r51 => c_items_l73 rec n r51 l1 l2 l3 l4 1 (l6 + 1))) else c_items_l73 rec n r42 l1 l2 l3 l4 0 (l6 + 1)))))))))))
theorem c_items_l73_ok {rec : SS → Int32 → Option (SS)} (hrec : ∀ (e : Nat), d ≤ e → ∀ (h : mH) (S : SS) (p0 : Int32) (v : SS), cs h S → rec S p0 = some v → mW e mm39 (0, [some (.ref 68), some (.int p0), none], [], (h, q)) (mQ q v none)) : ∀ (n : Nat), ∀ (h : mH) (S : SS) (l1 : Int32) (l2 : Int32) (l3 : Int32) (l4 : Int32) (l5 : Int32) (l6 : Int32) (v : SS), cs h S → c_items_l73 rec n S l1 l2 l3 l4 l5 l6 = some v → mW (d + 5) mm40 (73, [some (.ref 68), some (.int l1), some (.int l2), some (.int l3), some (.int l4), some (.int l5), some (.int l6)], [], (h, q)) (mQ q v none) := by
  intro n
  induction n with
  | zero => intro h S l1 l2 l3 l4 l5 l6 v hs hv; cases hv
  | succ n ih =>
    intro h S l1 l2 l3 l4 l5 l6 v hs hv
    unfold c_items_l73 at hv
    refine mW.sn 2 (g' := (78, [some (.ref 68), some (.int l1), some (.int l2), some (.int l3), some (.int l4), some (.int l5), some (.int l6)], [.int 4096, .int l6], (h, q))) rfl ?_
    refine mW.br (g1 := (166, [some (.ref 68), some (.int l1), some (.int l2), some (.int l3), some (.int l4), some (.int l5), some (.int l6)], [], (h, q))) (g2 := (81, [some (.ref 68), some (.int l1), some (.int l2), some (.int l3), some (.int l4), some (.int l5), some (.int l6)], [], (h, q))) (c := (4096 : Int32) ≤ l6) rfl (fun hc10 => ?_) (fun hc10 => ?_)
    · rw [if_pos hc10] at hv
      refine mW.sn 2 (g' := (169, [some (.ref 68), some (.int l1), some (.int l2), some (.int l3), some (.int l4), some (.int l5), some (.int l6)], [.int l4, .ref 68], (h, q))) rfl ?_
      cases hr11 : c_take S l4 with
      | none => rw [hr11] at hv; cases hv
      | some r11 =>
        rw [hr11, o_bind] at hv
        refine sW.call rfl rfl rfl rfl (hs.rcv o68) (s42 hs hr11) ?_
        intro h12 hs12
        cases hv
        exact sW.fin hs12 rfl
    · rw [if_neg hc10] at hv
      refine mW.sn 1 (g' := (83, [some (.ref 68), some (.int l1), some (.int l2), some (.int l3), some (.int l4), some (.int l5), some (.int l6)], [.int l5], (h, q))) rfl ?_
      refine mW.br (g1 := (166, [some (.ref 68), some (.int l1), some (.int l2), some (.int l3), some (.int l4), some (.int l5), some (.int l6)], [], (h, q))) (g2 := (86, [some (.ref 68), some (.int l1), some (.int l2), some (.int l3), some (.int l4), some (.int l5), some (.int l6)], [], (h, q))) (c := l5 = 0) rfl (fun hc13 => ?_) (fun hc13 => ?_)
      · rw [if_pos hc13] at hv
        refine mW.sn 2 (g' := (169, [some (.ref 68), some (.int l1), some (.int l2), some (.int l3), some (.int l4), some (.int l5), some (.int l6)], [.int l4, .ref 68], (h, q))) rfl ?_
        cases hr14 : c_take S l4 with
        | none => rw [hr14] at hv; cases hv
        | some r14 =>
          rw [hr14, o_bind] at hv
          refine sW.call rfl rfl rfl rfl (hs.rcv o68) (s42 hs hr14) ?_
          intro h15 hs15
          cases hv
          exact sW.fin hs15 rfl
      · rw [if_neg hc13] at hv
        refine mW.sn 2 (g' := (89, [some (.ref 68), some (.int l1), some (.int l2), some (.int l3), some (.int l4), some (.int l5), some (.int l6)], [.int 123, .int l1], (h, q))) rfl ?_
        refine mW.br (g1 := (92, [some (.ref 68), some (.int l1), some (.int l2), some (.int l3), some (.int l4), some (.int l5), some (.int l6)], [], (h, q))) (g2 := (97, [some (.ref 68), some (.int l1), some (.int l2), some (.int l3), some (.int l4), some (.int l5), some (.int l6)], [], (h, q))) (c := l1 = (123 : Int32)) rfl (fun hc16 => ?_) (fun hc16 => ?_)
        · rw [if_pos hc16] at hv
          refine mW.sn 2 (g' := (94, [some (.ref 68), some (.int l1), some (.int l2), some (.int l3), some (.int l4), some (.int l5), some (.int l6)], [.int l3, .ref 68], (h, q))) rfl ?_
          cases hr17 : c_name S l3 with
          | none => rw [hr17] at hv; cases hv
          | some r17 =>
            rw [hr17, o_bind] at hv
            refine sW.call rfl rfl rfl rfl (hs.rcv o68) (s43 hs hr17) ?_
            intro h18 hs18
            refine mW.sn 1 (g' := (98, [some (.ref 68), some (.int l1), some (.int l2), some (.int l3), some (.int l4), some (.int l5), some (.int l6)], [.ref 68], (h18, q))) rfl ?_
            cases hr19 : c_fine r17 with
            | none => rw [hr19] at hv; cases hv
            | some r19 =>
              rw [hr19, o_bind] at hv
              refine sW.call rfl rfl rfl rfl (hs18.rcv o68) (s45 hs18 hr19) ?_
              intro h20 hs20
              refine mW.br (g1 := (115, [some (.ref 68), some (.int l1), some (.int l2), some (.int l3), some (.int l4), some (.int l5), some (.int l6)], [], (h20, q))) (g2 := (104, [some (.ref 68), some (.int l1), some (.int l2), some (.int l3), some (.int l4), some (.int l5), some (.int l6)], [], (h20, q))) (c := r19 = 0) rfl (fun hc21 => ?_) (fun hc21 => ?_)
              · rw [if_pos hc21] at hv
                refine mW.sn 1 (g' := (116, [some (.ref 68), some (.int l1), some (.int l2), some (.int l3), some (.int l4), some (.int l5), some (.int l6)], [.ref 68], (h20, q))) rfl ?_
                refine sW.call rfl rfl rfl rfl (hs20.rcv o68) (s45 hs20 hr19) ?_
                intro h22 hs22
                refine mW.yes (g1 := (142, [some (.ref 68), some (.int l1), some (.int l2), some (.int l3), some (.int l4), some (.int l5), some (.int l6)], [], (h22, q))) (g2 := (122, [some (.ref 68), some (.int l1), some (.int l2), some (.int l3), some (.int l4), some (.int l5), some (.int l6)], [], (h22, q))) (c := r19 = 0) rfl hc21 ?_
                refine mW.sn 3 (g' := (147, [some (.ref 68), some (.int l1), some (.int l2), some (.int l3), some (.int l4), some (.int 0), some (.int l6)], [.int 0], (h22, q))) rfl ?_
                refine mW.yes (g1 := (160, [some (.ref 68), some (.int l1), some (.int l2), some (.int l3), some (.int l4), some (.int 0), some (.int l6)], [], (h22, q))) (g2 := (150, [some (.ref 68), some (.int l1), some (.int l2), some (.int l3), some (.int l4), some (.int 0), some (.int l6)], [], (h22, q))) (c := (0 : Int32) = 0) rfl (by decide) ?_
                refine mW.sn 2 (g' := (73, [some (.ref 68), some (.int l1), some (.int l2), some (.int l3), some (.int l4), some (.int 0), some (.int (l6 + 1))], [], (h22, q))) rfl ?_
                exact ih _ _ _ _ _ _ _ _ _  hs22 hv
              · rw [if_neg hc21] at hv
                refine mW.sn 4 (g' := (108, [some (.ref 68), some (.int l1), some (.int l2), some (.int l3), some (.int l4), some (.int l5), some (.int l6)], [.int (l2 + 1), .ref 68], (h20, q))) rfl ?_
                cases hr23 : rec r17 (l2 + 1) with
                | none => rw [hr23] at hv; cases hv
                | some r23 =>
                  rw [hr23, o_bind] at hv
                  refine sW.call rfl rfl rfl rfl (hs20.rcv o68) (hrec _ (by omega) _ _ _ _  hs20 hr23) ?_
                  intro h24 hs24
                  refine mW.sn 1 (g' := (112, [some (.ref 68), some (.int l1), some (.int l2), some (.int l3), some (.int l4), some (.int l5), some (.int l6)], [.ref 68], (h24, q))) rfl ?_
                  cases hr25 : c_blanks r23 with
                  | none => rw [hr25] at hv; cases hv
                  | some r25 =>
                    rw [hr25, o_bind] at hv
                    refine sW.call rfl rfl rfl rfl (hs24.rcv o68) (s36 hs24 hr25) ?_
                    intro h26 hs26
                    refine mW.sn 1 (g' := (116, [some (.ref 68), some (.int l1), some (.int l2), some (.int l3), some (.int l4), some (.int l5), some (.int l6)], [.ref 68], (h26, q))) rfl ?_
                    cases hr27 : c_fine r25 with
                    | none => rw [hr27] at hv; cases hv
                    | some r27 =>
                      rw [hr27, o_bind] at hv
                      refine sW.call rfl rfl rfl rfl (hs26.rcv o68) (s45 hs26 hr27) ?_
                      intro h28 hs28
                      refine mW.br (g1 := (142, [some (.ref 68), some (.int l1), some (.int l2), some (.int l3), some (.int l4), some (.int l5), some (.int l6)], [], (h28, q))) (g2 := (122, [some (.ref 68), some (.int l1), some (.int l2), some (.int l3), some (.int l4), some (.int l5), some (.int l6)], [], (h28, q))) (c := r27 = 0) rfl (fun hc29 => ?_) (fun hc29 => ?_)
                      · rw [if_pos hc29] at hv
                        refine mW.sn 3 (g' := (147, [some (.ref 68), some (.int l1), some (.int l2), some (.int l3), some (.int l4), some (.int 0), some (.int l6)], [.int 0], (h28, q))) rfl ?_
                        refine mW.yes (g1 := (160, [some (.ref 68), some (.int l1), some (.int l2), some (.int l3), some (.int l4), some (.int 0), some (.int l6)], [], (h28, q))) (g2 := (150, [some (.ref 68), some (.int l1), some (.int l2), some (.int l3), some (.int l4), some (.int 0), some (.int l6)], [], (h28, q))) (c := (0 : Int32) = 0) rfl (by decide) ?_
                        refine mW.sn 2 (g' := (73, [some (.ref 68), some (.int l1), some (.int l2), some (.int l3), some (.int l4), some (.int 0), some (.int (l6 + 1))], [], (h28, q))) rfl ?_
                        exact ih _ _ _ _ _ _ _ _ _  hs28 hv
                      · rw [if_neg hc29] at hv
                        refine mW.sn 1 (g' := (123, [some (.ref 68), some (.int l1), some (.int l2), some (.int l3), some (.int l4), some (.int l5), some (.int l6)], [.ref 68], (h28, q))) rfl ?_
                        refine sW.getR rfl hs28 o68 rfl rfl ?_
                        refine mW.sn 1 (g' := (127, [some (.ref 68), some (.int l1), some (.int l2), some (.int l3), some (.int l4), some (.int l5), some (.int l6)], [.ref 68, .ref 42], (h28, q))) rfl ?_
                        refine sW.getI rfl hs28 o68 rfl rfl ?_
                        refine sW.call rfl rfl rfl rfl (hs28.rcvT (by decide)) (sW.of hs28 (x37 (hs28.gtx (by decide)) (rd r25 68 2))) ?_
                        intro h30 hs30
                        refine mW.sn 1 (g' := (135, [some (.ref 68), some (.int l1), some (.int l2), some (.int l3), some (.int l4), some (.int l5), some (.int l6)], [.int 44, .int (tat (tT r25 42) (rd r25 68 2))], (h30, q))) rfl ?_
                        refine mW.br (g1 := (138, [some (.ref 68), some (.int l1), some (.int l2), some (.int l3), some (.int l4), some (.int l5), some (.int l6)], [], (h30, q))) (g2 := (142, [some (.ref 68), some (.int l1), some (.int l2), some (.int l3), some (.int l4), some (.int l5), some (.int l6)], [], (h30, q))) (c := (tat (tT r25 42) (rd r25 68 2)) = (44 : Int32)) rfl (fun hc31 => ?_) (fun hc31 => ?_)
                        · rw [if_pos hc31] at hv
                          refine mW.sn 4 (g' := (147, [some (.ref 68), some (.int l1), some (.int l2), some (.int l3), some (.int l4), some (.int 1), some (.int l6)], [.int 1], (h30, q))) rfl ?_
                          refine mW.no (g1 := (160, [some (.ref 68), some (.int l1), some (.int l2), some (.int l3), some (.int l4), some (.int 1), some (.int l6)], [], (h30, q))) (g2 := (150, [some (.ref 68), some (.int l1), some (.int l2), some (.int l3), some (.int l4), some (.int 1), some (.int l6)], [], (h30, q))) (c := (1 : Int32) = 0) rfl (by decide) ?_
                          refine mW.sn 2 (g' := (153, [some (.ref 68), some (.int l1), some (.int l2), some (.int l3), some (.int l4), some (.int 1), some (.int l6)], [.int 44, .ref 68], (h30, q))) rfl ?_
                          cases hr32 : c_take r25 44 with
                          | none => rw [hr32] at hv; cases hv
                          | some r32 =>
                            rw [hr32, o_bind] at hv
                            refine sW.call rfl rfl rfl rfl (hs30.rcv o68) (s42 hs30 hr32) ?_
                            intro h33 hs33
                            refine mW.sn 1 (g' := (157, [some (.ref 68), some (.int l1), some (.int l2), some (.int l3), some (.int l4), some (.int 1), some (.int l6)], [.ref 68], (h33, q))) rfl ?_
                            cases hr34 : c_blanks r32 with
                            | none => rw [hr34] at hv; cases hv
                            | some r34 =>
                              rw [hr34, o_bind] at hv
                              refine sW.call rfl rfl rfl rfl (hs33.rcv o68) (s36 hs33 hr34) ?_
                              intro h35 hs35
                              refine mW.sn 2 (g' := (73, [some (.ref 68), some (.int l1), some (.int l2), some (.int l3), some (.int l4), some (.int 1), some (.int (l6 + 1))], [], (h35, q))) rfl ?_
                              exact ih _ _ _ _ _ _ _ _ _  hs35 hv
                        · rw [if_neg hc31] at hv
                          refine mW.sn 3 (g' := (147, [some (.ref 68), some (.int l1), some (.int l2), some (.int l3), some (.int l4), some (.int 0), some (.int l6)], [.int 0], (h30, q))) rfl ?_
                          refine mW.yes (g1 := (160, [some (.ref 68), some (.int l1), some (.int l2), some (.int l3), some (.int l4), some (.int 0), some (.int l6)], [], (h30, q))) (g2 := (150, [some (.ref 68), some (.int l1), some (.int l2), some (.int l3), some (.int l4), some (.int 0), some (.int l6)], [], (h30, q))) (c := (0 : Int32) = 0) rfl (by decide) ?_
                          refine mW.sn 2 (g' := (73, [some (.ref 68), some (.int l1), some (.int l2), some (.int l3), some (.int l4), some (.int 0), some (.int (l6 + 1))], [], (h30, q))) rfl ?_
                          exact ih _ _ _ _ _ _ _ _ _  hs30 hv
        · rw [if_neg hc16] at hv
          refine mW.sn 1 (g' := (98, [some (.ref 68), some (.int l1), some (.int l2), some (.int l3), some (.int l4), some (.int l5), some (.int l6)], [.ref 68], (h, q))) rfl ?_
          cases hr36 : c_fine S with
          | none => rw [hr36] at hv; cases hv
          | some r36 =>
            rw [hr36, o_bind] at hv
            refine sW.call rfl rfl rfl rfl (hs.rcv o68) (s45 hs hr36) ?_
            intro h37 hs37
            refine mW.br (g1 := (115, [some (.ref 68), some (.int l1), some (.int l2), some (.int l3), some (.int l4), some (.int l5), some (.int l6)], [], (h37, q))) (g2 := (104, [some (.ref 68), some (.int l1), some (.int l2), some (.int l3), some (.int l4), some (.int l5), some (.int l6)], [], (h37, q))) (c := r36 = 0) rfl (fun hc38 => ?_) (fun hc38 => ?_)
            · rw [if_pos hc38] at hv
              refine mW.sn 1 (g' := (116, [some (.ref 68), some (.int l1), some (.int l2), some (.int l3), some (.int l4), some (.int l5), some (.int l6)], [.ref 68], (h37, q))) rfl ?_
              refine sW.call rfl rfl rfl rfl (hs37.rcv o68) (s45 hs37 hr36) ?_
              intro h39 hs39
              refine mW.yes (g1 := (142, [some (.ref 68), some (.int l1), some (.int l2), some (.int l3), some (.int l4), some (.int l5), some (.int l6)], [], (h39, q))) (g2 := (122, [some (.ref 68), some (.int l1), some (.int l2), some (.int l3), some (.int l4), some (.int l5), some (.int l6)], [], (h39, q))) (c := r36 = 0) rfl hc38 ?_
              refine mW.sn 3 (g' := (147, [some (.ref 68), some (.int l1), some (.int l2), some (.int l3), some (.int l4), some (.int 0), some (.int l6)], [.int 0], (h39, q))) rfl ?_
              refine mW.yes (g1 := (160, [some (.ref 68), some (.int l1), some (.int l2), some (.int l3), some (.int l4), some (.int 0), some (.int l6)], [], (h39, q))) (g2 := (150, [some (.ref 68), some (.int l1), some (.int l2), some (.int l3), some (.int l4), some (.int 0), some (.int l6)], [], (h39, q))) (c := (0 : Int32) = 0) rfl (by decide) ?_
              refine mW.sn 2 (g' := (73, [some (.ref 68), some (.int l1), some (.int l2), some (.int l3), some (.int l4), some (.int 0), some (.int (l6 + 1))], [], (h39, q))) rfl ?_
              exact ih _ _ _ _ _ _ _ _ _  hs39 hv
            · rw [if_neg hc38] at hv
              refine mW.sn 4 (g' := (108, [some (.ref 68), some (.int l1), some (.int l2), some (.int l3), some (.int l4), some (.int l5), some (.int l6)], [.int (l2 + 1), .ref 68], (h37, q))) rfl ?_
              cases hr40 : rec S (l2 + 1) with
              | none => rw [hr40] at hv; cases hv
              | some r40 =>
                rw [hr40, o_bind] at hv
                refine sW.call rfl rfl rfl rfl (hs37.rcv o68) (hrec _ (by omega) _ _ _ _  hs37 hr40) ?_
                intro h41 hs41
                refine mW.sn 1 (g' := (112, [some (.ref 68), some (.int l1), some (.int l2), some (.int l3), some (.int l4), some (.int l5), some (.int l6)], [.ref 68], (h41, q))) rfl ?_
                cases hr42 : c_blanks r40 with
                | none => rw [hr42] at hv; cases hv
                | some r42 =>
                  rw [hr42, o_bind] at hv
                  refine sW.call rfl rfl rfl rfl (hs41.rcv o68) (s36 hs41 hr42) ?_
                  intro h43 hs43
                  refine mW.sn 1 (g' := (116, [some (.ref 68), some (.int l1), some (.int l2), some (.int l3), some (.int l4), some (.int l5), some (.int l6)], [.ref 68], (h43, q))) rfl ?_
                  cases hr44 : c_fine r42 with
                  | none => rw [hr44] at hv; cases hv
                  | some r44 =>
                    rw [hr44, o_bind] at hv
                    refine sW.call rfl rfl rfl rfl (hs43.rcv o68) (s45 hs43 hr44) ?_
                    intro h45 hs45
                    refine mW.br (g1 := (142, [some (.ref 68), some (.int l1), some (.int l2), some (.int l3), some (.int l4), some (.int l5), some (.int l6)], [], (h45, q))) (g2 := (122, [some (.ref 68), some (.int l1), some (.int l2), some (.int l3), some (.int l4), some (.int l5), some (.int l6)], [], (h45, q))) (c := r44 = 0) rfl (fun hc46 => ?_) (fun hc46 => ?_)
                    · rw [if_pos hc46] at hv
                      refine mW.sn 3 (g' := (147, [some (.ref 68), some (.int l1), some (.int l2), some (.int l3), some (.int l4), some (.int 0), some (.int l6)], [.int 0], (h45, q))) rfl ?_
                      refine mW.yes (g1 := (160, [some (.ref 68), some (.int l1), some (.int l2), some (.int l3), some (.int l4), some (.int 0), some (.int l6)], [], (h45, q))) (g2 := (150, [some (.ref 68), some (.int l1), some (.int l2), some (.int l3), some (.int l4), some (.int 0), some (.int l6)], [], (h45, q))) (c := (0 : Int32) = 0) rfl (by decide) ?_
                      refine mW.sn 2 (g' := (73, [some (.ref 68), some (.int l1), some (.int l2), some (.int l3), some (.int l4), some (.int 0), some (.int (l6 + 1))], [], (h45, q))) rfl ?_
                      exact ih _ _ _ _ _ _ _ _ _  hs45 hv
                    · rw [if_neg hc46] at hv
                      refine mW.sn 1 (g' := (123, [some (.ref 68), some (.int l1), some (.int l2), some (.int l3), some (.int l4), some (.int l5), some (.int l6)], [.ref 68], (h45, q))) rfl ?_
                      refine sW.getR rfl hs45 o68 rfl rfl ?_
                      refine mW.sn 1 (g' := (127, [some (.ref 68), some (.int l1), some (.int l2), some (.int l3), some (.int l4), some (.int l5), some (.int l6)], [.ref 68, .ref 42], (h45, q))) rfl ?_
                      refine sW.getI rfl hs45 o68 rfl rfl ?_
                      refine sW.call rfl rfl rfl rfl (hs45.rcvT (by decide)) (sW.of hs45 (x37 (hs45.gtx (by decide)) (rd r42 68 2))) ?_
                      intro h47 hs47
                      refine mW.sn 1 (g' := (135, [some (.ref 68), some (.int l1), some (.int l2), some (.int l3), some (.int l4), some (.int l5), some (.int l6)], [.int 44, .int (tat (tT r42 42) (rd r42 68 2))], (h47, q))) rfl ?_
                      refine mW.br (g1 := (138, [some (.ref 68), some (.int l1), some (.int l2), some (.int l3), some (.int l4), some (.int l5), some (.int l6)], [], (h47, q))) (g2 := (142, [some (.ref 68), some (.int l1), some (.int l2), some (.int l3), some (.int l4), some (.int l5), some (.int l6)], [], (h47, q))) (c := (tat (tT r42 42) (rd r42 68 2)) = (44 : Int32)) rfl (fun hc48 => ?_) (fun hc48 => ?_)
                      · rw [if_pos hc48] at hv
                        refine mW.sn 4 (g' := (147, [some (.ref 68), some (.int l1), some (.int l2), some (.int l3), some (.int l4), some (.int 1), some (.int l6)], [.int 1], (h47, q))) rfl ?_
                        refine mW.no (g1 := (160, [some (.ref 68), some (.int l1), some (.int l2), some (.int l3), some (.int l4), some (.int 1), some (.int l6)], [], (h47, q))) (g2 := (150, [some (.ref 68), some (.int l1), some (.int l2), some (.int l3), some (.int l4), some (.int 1), some (.int l6)], [], (h47, q))) (c := (1 : Int32) = 0) rfl (by decide) ?_
                        refine mW.sn 2 (g' := (153, [some (.ref 68), some (.int l1), some (.int l2), some (.int l3), some (.int l4), some (.int 1), some (.int l6)], [.int 44, .ref 68], (h47, q))) rfl ?_
                        cases hr49 : c_take r42 44 with
                        | none => rw [hr49] at hv; cases hv
                        | some r49 =>
                          rw [hr49, o_bind] at hv
                          refine sW.call rfl rfl rfl rfl (hs47.rcv o68) (s42 hs47 hr49) ?_
                          intro h50 hs50
                          refine mW.sn 1 (g' := (157, [some (.ref 68), some (.int l1), some (.int l2), some (.int l3), some (.int l4), some (.int 1), some (.int l6)], [.ref 68], (h50, q))) rfl ?_
                          cases hr51 : c_blanks r49 with
                          | none => rw [hr51] at hv; cases hv
                          | some r51 =>
                            rw [hr51, o_bind] at hv
                            refine sW.call rfl rfl rfl rfl (hs50.rcv o68) (s36 hs50 hr51) ?_
                            intro h52 hs52
                            refine mW.sn 2 (g' := (73, [some (.ref 68), some (.int l1), some (.int l2), some (.int l3), some (.int l4), some (.int 1), some (.int (l6 + 1))], [], (h52, q))) rfl ?_
                            exact ih _ _ _ _ _ _ _ _ _  hs52 hv
                      · rw [if_neg hc48] at hv
                        refine mW.sn 3 (g' := (147, [some (.ref 68), some (.int l1), some (.int l2), some (.int l3), some (.int l4), some (.int 0), some (.int l6)], [.int 0], (h47, q))) rfl ?_
                        refine mW.yes (g1 := (160, [some (.ref 68), some (.int l1), some (.int l2), some (.int l3), some (.int l4), some (.int 0), some (.int l6)], [], (h47, q))) (g2 := (150, [some (.ref 68), some (.int l1), some (.int l2), some (.int l3), some (.int l4), some (.int 0), some (.int l6)], [], (h47, q))) (c := (0 : Int32) = 0) rfl (by decide) ?_
                        refine mW.sn 2 (g' := (73, [some (.ref 68), some (.int l1), some (.int l2), some (.int l3), some (.int l4), some (.int 0), some (.int (l6 + 1))], [], (h47, q))) rfl ?_
                        exact ih _ _ _ _ _ _ _ _ _  hs47 hv
def c_items (S : SS) (rec : SS → Int32 → Option (SS)) (p0 : Int32) (p1 : Int32) : Option (SS) := (if p1 < (40 : Int32) then (if p0 = (91 : Int32) then ((c_take S p0).bind fun r4 => ((c_blanks r4).bind fun r6 => (if (tat (tT r6 42) (rd r6 68 2)) = (93 : Int32) then c_items_l73 rec 10000 r6 p0 p1 (Int32.ofNat (tT S ((rd S 68 1).toNatClampNeg)).length) 93 0 0 else c_items_l73 rec 10000 r6 p0 p1 (Int32.ofNat (tT S ((rd S 68 1).toNatClampNeg)).length) 93 1 0))) else ((c_take S p0).bind fun r53 => ((c_blanks r53).bind fun r55 => (if (tat (tT r55 42) (rd r55 68 2)) = (125 : Int32) then c_items_l73 rec 10000 r55 p0 p1 (Int32.ofNat (tT S ((rd S 68 1).toNatClampNeg)).length) 125 0 0 else c_items_l73 rec 10000 r55 p0 p1 (Int32.ofNat (tT S ((rd S 68 1).toNatClampNeg)).length) 125 1 0)))) else ((c_break S (rd S 68 2)).bind fun r59 => some r59))
theorem s40 {S : SS} {rec : SS → Int32 → Option (SS)} (hrec : ∀ (e : Nat), d ≤ e → ∀ (h : mH) (S : SS) (p0 : Int32) (v : SS), cs h S → rec S p0 = some v → mW e mm39 (0, [some (.ref 68), some (.int p0), none], [], (h, q)) (mQ q v none)) {p0 : Int32} {p1 : Int32} {v : SS} (hs : cs h S) (hv : c_items S rec p0 p1 = some v) : mW (d + 5) mm40 (0, [some (.ref 68), some (.int p0), some (.int p1), none, none, none, none], [], (h, q)) (mQ q v none) := by
  unfold c_items at hv
  refine mW.sn 2 (g' := (3, [some (.ref 68), some (.int p0), some (.int p1), none, none, none, none], [.int 40, .int p1], (h, q))) rfl ?_
  refine mW.br (g1 := (15, [some (.ref 68), some (.int p0), some (.int p1), none, none, none, none], [], (h, q))) (g2 := (6, [some (.ref 68), some (.int p0), some (.int p1), none, none, none, none], [], (h, q))) (c := p1 < (40 : Int32)) rfl (fun hc1 => ?_) (fun hc1 => ?_)
  · rw [if_pos hc1] at hv
    refine mW.sn 1 (g' := (16, [some (.ref 68), some (.int p0), some (.int p1), none, none, none, none], [.ref 68], (h, q))) rfl ?_
    refine sW.getT rfl hs o68 rfl ?_
    refine sW.call rfl rfl rfl rfl (hs.rcvT (hs.okT o68 rfl)) (sW.of hs (x24 (hs.gtx (hs.okT o68 rfl)))) ?_
    intro h2 hs2
    refine mW.sn 3 (g' := (26, [some (.ref 68), some (.int p0), some (.int p1), some (.int (Int32.ofNat (tT S ((rd S 68 1).toNatClampNeg)).length)), none, none, none], [.int 91, .int p0], (h2, q))) rfl ?_
    refine mW.br (g1 := (29, [some (.ref 68), some (.int p0), some (.int p1), some (.int (Int32.ofNat (tT S ((rd S 68 1).toNatClampNeg)).length)), none, none, none], [], (h2, q))) (g2 := (34, [some (.ref 68), some (.int p0), some (.int p1), some (.int (Int32.ofNat (tT S ((rd S 68 1).toNatClampNeg)).length)), none, none, none], [], (h2, q))) (c := p0 = (91 : Int32)) rfl (fun hc3 => ?_) (fun hc3 => ?_)
    · rw [if_pos hc3] at hv
      refine mW.sn 5 (g' := (40, [some (.ref 68), some (.int p0), some (.int p1), some (.int (Int32.ofNat (tT S ((rd S 68 1).toNatClampNeg)).length)), some (.int 93), none, none], [.int p0, .ref 68], (h2, q))) rfl ?_
      cases hr4 : c_take S p0 with
      | none => rw [hr4] at hv; cases hv
      | some r4 =>
        rw [hr4, o_bind] at hv
        refine sW.call rfl rfl rfl rfl (hs2.rcv o68) (s42 hs2 hr4) ?_
        intro h5 hs5
        refine mW.sn 1 (g' := (44, [some (.ref 68), some (.int p0), some (.int p1), some (.int (Int32.ofNat (tT S ((rd S 68 1).toNatClampNeg)).length)), some (.int 93), none, none], [.ref 68], (h5, q))) rfl ?_
        cases hr6 : c_blanks r4 with
        | none => rw [hr6] at hv; cases hv
        | some r6 =>
          rw [hr6, o_bind] at hv
          refine sW.call rfl rfl rfl rfl (hs5.rcv o68) (s36 hs5 hr6) ?_
          intro h7 hs7
          refine mW.sn 1 (g' := (48, [some (.ref 68), some (.int p0), some (.int p1), some (.int (Int32.ofNat (tT S ((rd S 68 1).toNatClampNeg)).length)), some (.int 93), none, none], [.ref 68], (h7, q))) rfl ?_
          refine sW.getR rfl hs7 o68 rfl rfl ?_
          refine mW.sn 1 (g' := (52, [some (.ref 68), some (.int p0), some (.int p1), some (.int (Int32.ofNat (tT S ((rd S 68 1).toNatClampNeg)).length)), some (.int 93), none, none], [.ref 68, .ref 42], (h7, q))) rfl ?_
          refine sW.getI rfl hs7 o68 rfl rfl ?_
          refine sW.call rfl rfl rfl rfl (hs7.rcvT (by decide)) (sW.of hs7 (x37 (hs7.gtx (by decide)) (rd r6 68 2))) ?_
          intro h8 hs8
          refine mW.sn 1 (g' := (60, [some (.ref 68), some (.int p0), some (.int p1), some (.int (Int32.ofNat (tT S ((rd S 68 1).toNatClampNeg)).length)), some (.int 93), none, none], [.int 93, .int (tat (tT r6 42) (rd r6 68 2))], (h8, q))) rfl ?_
          refine mW.br (g1 := (67, [some (.ref 68), some (.int p0), some (.int p1), some (.int (Int32.ofNat (tT S ((rd S 68 1).toNatClampNeg)).length)), some (.int 93), none, none], [], (h8, q))) (g2 := (63, [some (.ref 68), some (.int p0), some (.int p1), some (.int (Int32.ofNat (tT S ((rd S 68 1).toNatClampNeg)).length)), some (.int 93), none, none], [], (h8, q))) (c := (tat (tT r6 42) (rd r6 68 2)) = (93 : Int32)) rfl (fun hc9 => ?_) (fun hc9 => ?_)
          · rw [if_pos hc9] at hv
            refine mW.sn 4 (g' := (73, [some (.ref 68), some (.int p0), some (.int p1), some (.int (Int32.ofNat (tT S ((rd S 68 1).toNatClampNeg)).length)), some (.int 93), some (.int 0), some (.int 0)], [], (h8, q))) rfl ?_
            exact c_items_l73_ok hrec _ _ _ _ _ _ _ _ _ _  hs8 hv
          · rw [if_neg hc9] at hv
            refine mW.sn 5 (g' := (73, [some (.ref 68), some (.int p0), some (.int p1), some (.int (Int32.ofNat (tT S ((rd S 68 1).toNatClampNeg)).length)), some (.int 93), some (.int 1), some (.int 0)], [], (h8, q))) rfl ?_
            exact c_items_l73_ok hrec _ _ _ _ _ _ _ _ _ _  hs8 hv
    · rw [if_neg hc3] at hv
      refine mW.sn 4 (g' := (40, [some (.ref 68), some (.int p0), some (.int p1), some (.int (Int32.ofNat (tT S ((rd S 68 1).toNatClampNeg)).length)), some (.int 125), none, none], [.int p0, .ref 68], (h2, q))) rfl ?_
      cases hr53 : c_take S p0 with
      | none => rw [hr53] at hv; cases hv
      | some r53 =>
        rw [hr53, o_bind] at hv
        refine sW.call rfl rfl rfl rfl (hs2.rcv o68) (s42 hs2 hr53) ?_
        intro h54 hs54
        refine mW.sn 1 (g' := (44, [some (.ref 68), some (.int p0), some (.int p1), some (.int (Int32.ofNat (tT S ((rd S 68 1).toNatClampNeg)).length)), some (.int 125), none, none], [.ref 68], (h54, q))) rfl ?_
        cases hr55 : c_blanks r53 with
        | none => rw [hr55] at hv; cases hv
        | some r55 =>
          rw [hr55, o_bind] at hv
          refine sW.call rfl rfl rfl rfl (hs54.rcv o68) (s36 hs54 hr55) ?_
          intro h56 hs56
          refine mW.sn 1 (g' := (48, [some (.ref 68), some (.int p0), some (.int p1), some (.int (Int32.ofNat (tT S ((rd S 68 1).toNatClampNeg)).length)), some (.int 125), none, none], [.ref 68], (h56, q))) rfl ?_
          refine sW.getR rfl hs56 o68 rfl rfl ?_
          refine mW.sn 1 (g' := (52, [some (.ref 68), some (.int p0), some (.int p1), some (.int (Int32.ofNat (tT S ((rd S 68 1).toNatClampNeg)).length)), some (.int 125), none, none], [.ref 68, .ref 42], (h56, q))) rfl ?_
          refine sW.getI rfl hs56 o68 rfl rfl ?_
          refine sW.call rfl rfl rfl rfl (hs56.rcvT (by decide)) (sW.of hs56 (x37 (hs56.gtx (by decide)) (rd r55 68 2))) ?_
          intro h57 hs57
          refine mW.sn 1 (g' := (60, [some (.ref 68), some (.int p0), some (.int p1), some (.int (Int32.ofNat (tT S ((rd S 68 1).toNatClampNeg)).length)), some (.int 125), none, none], [.int 125, .int (tat (tT r55 42) (rd r55 68 2))], (h57, q))) rfl ?_
          refine mW.br (g1 := (67, [some (.ref 68), some (.int p0), some (.int p1), some (.int (Int32.ofNat (tT S ((rd S 68 1).toNatClampNeg)).length)), some (.int 125), none, none], [], (h57, q))) (g2 := (63, [some (.ref 68), some (.int p0), some (.int p1), some (.int (Int32.ofNat (tT S ((rd S 68 1).toNatClampNeg)).length)), some (.int 125), none, none], [], (h57, q))) (c := (tat (tT r55 42) (rd r55 68 2)) = (125 : Int32)) rfl (fun hc58 => ?_) (fun hc58 => ?_)
          · rw [if_pos hc58] at hv
            refine mW.sn 4 (g' := (73, [some (.ref 68), some (.int p0), some (.int p1), some (.int (Int32.ofNat (tT S ((rd S 68 1).toNatClampNeg)).length)), some (.int 125), some (.int 0), some (.int 0)], [], (h57, q))) rfl ?_
            exact c_items_l73_ok hrec _ _ _ _ _ _ _ _ _ _  hs57 hv
          · rw [if_neg hc58] at hv
            refine mW.sn 5 (g' := (73, [some (.ref 68), some (.int p0), some (.int p1), some (.int (Int32.ofNat (tT S ((rd S 68 1).toNatClampNeg)).length)), some (.int 125), some (.int 1), some (.int 0)], [], (h57, q))) rfl ?_
            exact c_items_l73_ok hrec _ _ _ _ _ _ _ _ _ _  hs57 hv
  · rw [if_neg hc1] at hv
    refine mW.sn 2 (g' := (8, [some (.ref 68), some (.int p0), some (.int p1), none, none, none, none], [.ref 68, .ref 68], (h, q))) rfl ?_
    refine sW.getI rfl hs o68 rfl rfl ?_
    cases hr59 : c_break S (rd S 68 2) with
    | none => rw [hr59] at hv; cases hv
    | some r59 =>
      rw [hr59, o_bind] at hv
      refine sW.call rfl rfl rfl rfl (hs.rcv o68) (s41 hs hr59) ?_
      intro h60 hs60
      cases hv
      exact sW.fin hs60 rfl
def c_valueB (S : SS) (rec : SS → Int32 → Option (SS)) (p0 : Int32) : Option (SS) := (if (tat (tT S 42) (rd S 68 2)) = (91 : Int32) then ((c_items S rec (tat (tT S 42) (rd S 68 2)) p0).bind fun r3 => some r3) else (if (tat (tT S 42) (rd S 68 2)) = (123 : Int32) then ((c_items S rec (tat (tT S 42) (rd S 68 2)) p0).bind fun r6 => some r6) else (if (tat (tT S 42) (rd S 68 2)) = (34 : Int32) then ((c_string S).bind fun r9 => some r9) else (if (tat (tT S 42) (rd S 68 2)) = (110 : Int32) then ((c_literal S k3).bind fun r12 => some r12) else (if (tat (tT S 42) (rd S 68 2)) = (102 : Int32) then ((c_literal S k5).bind fun r15 => some r15) else (if (tat (tT S 42) (rd S 68 2)) = (116 : Int32) then ((c_literal S k7).bind fun r18 => some r18) else ((c_number S).bind fun r20 => some r20)))))))
theorem s39 {S : SS} {rec : SS → Int32 → Option (SS)} (hrec : ∀ (e : Nat), d ≤ e → ∀ (h : mH) (S : SS) (p0 : Int32) (v : SS), cs h S → rec S p0 = some v → mW e mm39 (0, [some (.ref 68), some (.int p0), none], [], (h, q)) (mQ q v none)) {p0 : Int32} {v : SS} (hs : cs h S) (hv : c_valueB S rec p0 = some v) : mW (d + 6) mm39 (0, [some (.ref 68), some (.int p0), none], [], (h, q)) (mQ q v none) := by
  unfold c_valueB at hv
  refine mW.sn 1 (g' := (1, [some (.ref 68), some (.int p0), none], [.ref 68], (h, q))) rfl ?_
  refine sW.getR rfl hs o68 rfl rfl ?_
  refine mW.sn 1 (g' := (5, [some (.ref 68), some (.int p0), none], [.ref 68, .ref 42], (h, q))) rfl ?_
  refine sW.getI rfl hs o68 rfl rfl ?_
  refine sW.call rfl rfl rfl rfl (hs.rcvT (by decide)) (sW.of hs (x37 (hs.gtx (by decide)) (rd S 68 2))) ?_
  intro h1 hs1
  refine mW.sn 3 (g' := (15, [some (.ref 68), some (.int p0), some (.int (tat (tT S 42) (rd S 68 2)))], [.int 91, .int (tat (tT S 42) (rd S 68 2))], (h1, q))) rfl ?_
  refine mW.br (g1 := (24, [some (.ref 68), some (.int p0), some (.int (tat (tT S 42) (rd S 68 2)))], [], (h1, q))) (g2 := (18, [some (.ref 68), some (.int p0), some (.int (tat (tT S 42) (rd S 68 2)))], [], (h1, q))) (c := (tat (tT S 42) (rd S 68 2)) = (91 : Int32)) rfl (fun hc2 => ?_) (fun hc2 => ?_)
  · rw [if_pos hc2] at hv
    refine mW.sn 3 (g' := (27, [some (.ref 68), some (.int p0), some (.int (tat (tT S 42) (rd S 68 2)))], [.int p0, .int (tat (tT S 42) (rd S 68 2)), .ref 68], (h1, q))) rfl ?_
    cases hr3 : c_items S rec (tat (tT S 42) (rd S 68 2)) p0 with
    | none => rw [hr3] at hv; cases hv
    | some r3 =>
      rw [hr3, o_bind] at hv
      refine sW.call rfl rfl rfl rfl (hs1.rcv o68) (s40 (fun e he => hrec e (by omega)) hs1 hr3) ?_
      intro h4 hs4
      refine mW.sn 1 (g' := (95, [some (.ref 68), some (.int p0), some (.int (tat (tT S 42) (rd S 68 2)))], [], (h4, q))) rfl ?_
      cases hv
      exact sW.fin hs4 rfl
  · rw [if_neg hc2] at hv
    refine mW.sn 2 (g' := (21, [some (.ref 68), some (.int p0), some (.int (tat (tT S 42) (rd S 68 2)))], [.int 123, .int (tat (tT S 42) (rd S 68 2))], (h1, q))) rfl ?_
    refine mW.br (g1 := (24, [some (.ref 68), some (.int p0), some (.int (tat (tT S 42) (rd S 68 2)))], [], (h1, q))) (g2 := (33, [some (.ref 68), some (.int p0), some (.int (tat (tT S 42) (rd S 68 2)))], [], (h1, q))) (c := (tat (tT S 42) (rd S 68 2)) = (123 : Int32)) rfl (fun hc5 => ?_) (fun hc5 => ?_)
    · rw [if_pos hc5] at hv
      refine mW.sn 3 (g' := (27, [some (.ref 68), some (.int p0), some (.int (tat (tT S 42) (rd S 68 2)))], [.int p0, .int (tat (tT S 42) (rd S 68 2)), .ref 68], (h1, q))) rfl ?_
      cases hr6 : c_items S rec (tat (tT S 42) (rd S 68 2)) p0 with
      | none => rw [hr6] at hv; cases hv
      | some r6 =>
        rw [hr6, o_bind] at hv
        refine sW.call rfl rfl rfl rfl (hs1.rcv o68) (s40 (fun e he => hrec e (by omega)) hs1 hr6) ?_
        intro h7 hs7
        refine mW.sn 1 (g' := (95, [some (.ref 68), some (.int p0), some (.int (tat (tT S 42) (rd S 68 2)))], [], (h7, q))) rfl ?_
        cases hv
        exact sW.fin hs7 rfl
    · rw [if_neg hc5] at hv
      refine mW.sn 2 (g' := (36, [some (.ref 68), some (.int p0), some (.int (tat (tT S 42) (rd S 68 2)))], [.int 34, .int (tat (tT S 42) (rd S 68 2))], (h1, q))) rfl ?_
      refine mW.br (g1 := (39, [some (.ref 68), some (.int p0), some (.int (tat (tT S 42) (rd S 68 2)))], [], (h1, q))) (g2 := (46, [some (.ref 68), some (.int p0), some (.int (tat (tT S 42) (rd S 68 2)))], [], (h1, q))) (c := (tat (tT S 42) (rd S 68 2)) = (34 : Int32)) rfl (fun hc8 => ?_) (fun hc8 => ?_)
      · rw [if_pos hc8] at hv
        refine mW.sn 1 (g' := (40, [some (.ref 68), some (.int p0), some (.int (tat (tT S 42) (rd S 68 2)))], [.ref 68], (h1, q))) rfl ?_
        cases hr9 : c_string S with
        | none => rw [hr9] at hv; cases hv
        | some r9 =>
          rw [hr9, o_bind] at hv
          refine sW.call rfl rfl rfl rfl (hs1.rcv o68) (s44 hs1 hr9) ?_
          intro h10 hs10
          refine mW.sn 1 (g' := (95, [some (.ref 68), some (.int p0), some (.int (tat (tT S 42) (rd S 68 2)))], [], (h10, q))) rfl ?_
          cases hv
          exact sW.fin hs10 rfl
      · rw [if_neg hc8] at hv
        refine mW.sn 2 (g' := (49, [some (.ref 68), some (.int p0), some (.int (tat (tT S 42) (rd S 68 2)))], [.int 110, .int (tat (tT S 42) (rd S 68 2))], (h1, q))) rfl ?_
        refine mW.br (g1 := (52, [some (.ref 68), some (.int p0), some (.int (tat (tT S 42) (rd S 68 2)))], [], (h1, q))) (g2 := (61, [some (.ref 68), some (.int p0), some (.int (tat (tT S 42) (rd S 68 2)))], [], (h1, q))) (c := (tat (tT S 42) (rd S 68 2)) = (110 : Int32)) rfl (fun hc11 => ?_) (fun hc11 => ?_)
        · rw [if_pos hc11] at hv
          refine mW.sn 2 (g' := (55, [some (.ref 68), some (.int p0), some (.int (tat (tT S 42) (rd S 68 2)))], [.ref 3, .ref 68], (h1, q))) rfl ?_
          cases hr12 : c_literal S k3 with
          | none => rw [hr12] at hv; cases hv
          | some r12 =>
            rw [hr12, o_bind] at hv
            refine sW.call rfl rfl rfl rfl (hs1.rcv o68) (s57 m3 hs1 hr12) ?_
            intro h13 hs13
            refine mW.sn 1 (g' := (95, [some (.ref 68), some (.int p0), some (.int (tat (tT S 42) (rd S 68 2)))], [], (h13, q))) rfl ?_
            cases hv
            exact sW.fin hs13 rfl
        · rw [if_neg hc11] at hv
          refine mW.sn 2 (g' := (64, [some (.ref 68), some (.int p0), some (.int (tat (tT S 42) (rd S 68 2)))], [.int 102, .int (tat (tT S 42) (rd S 68 2))], (h1, q))) rfl ?_
          refine mW.br (g1 := (67, [some (.ref 68), some (.int p0), some (.int (tat (tT S 42) (rd S 68 2)))], [], (h1, q))) (g2 := (76, [some (.ref 68), some (.int p0), some (.int (tat (tT S 42) (rd S 68 2)))], [], (h1, q))) (c := (tat (tT S 42) (rd S 68 2)) = (102 : Int32)) rfl (fun hc14 => ?_) (fun hc14 => ?_)
          · rw [if_pos hc14] at hv
            refine mW.sn 2 (g' := (70, [some (.ref 68), some (.int p0), some (.int (tat (tT S 42) (rd S 68 2)))], [.ref 5, .ref 68], (h1, q))) rfl ?_
            cases hr15 : c_literal S k5 with
            | none => rw [hr15] at hv; cases hv
            | some r15 =>
              rw [hr15, o_bind] at hv
              refine sW.call rfl rfl rfl rfl (hs1.rcv o68) (s57 m5 hs1 hr15) ?_
              intro h16 hs16
              refine mW.sn 1 (g' := (95, [some (.ref 68), some (.int p0), some (.int (tat (tT S 42) (rd S 68 2)))], [], (h16, q))) rfl ?_
              cases hv
              exact sW.fin hs16 rfl
          · rw [if_neg hc14] at hv
            refine mW.sn 2 (g' := (79, [some (.ref 68), some (.int p0), some (.int (tat (tT S 42) (rd S 68 2)))], [.int 116, .int (tat (tT S 42) (rd S 68 2))], (h1, q))) rfl ?_
            refine mW.br (g1 := (82, [some (.ref 68), some (.int p0), some (.int (tat (tT S 42) (rd S 68 2)))], [], (h1, q))) (g2 := (91, [some (.ref 68), some (.int p0), some (.int (tat (tT S 42) (rd S 68 2)))], [], (h1, q))) (c := (tat (tT S 42) (rd S 68 2)) = (116 : Int32)) rfl (fun hc17 => ?_) (fun hc17 => ?_)
            · rw [if_pos hc17] at hv
              refine mW.sn 2 (g' := (85, [some (.ref 68), some (.int p0), some (.int (tat (tT S 42) (rd S 68 2)))], [.ref 7, .ref 68], (h1, q))) rfl ?_
              cases hr18 : c_literal S k7 with
              | none => rw [hr18] at hv; cases hv
              | some r18 =>
                rw [hr18, o_bind] at hv
                refine sW.call rfl rfl rfl rfl (hs1.rcv o68) (s57 m7 hs1 hr18) ?_
                intro h19 hs19
                refine mW.sn 1 (g' := (95, [some (.ref 68), some (.int p0), some (.int (tat (tT S 42) (rd S 68 2)))], [], (h19, q))) rfl ?_
                cases hv
                exact sW.fin hs19 rfl
            · rw [if_neg hc17] at hv
              refine mW.sn 1 (g' := (92, [some (.ref 68), some (.int p0), some (.int (tat (tT S 42) (rd S 68 2)))], [.ref 68], (h1, q))) rfl ?_
              cases hr20 : c_number S with
              | none => rw [hr20] at hv; cases hv
              | some r20 =>
                rw [hr20, o_bind] at hv
                refine sW.call rfl rfl rfl rfl (hs1.rcv o68) (s58 hs1 hr20) ?_
                intro h21 hs21
                cases hv
                exact sW.fin hs21 rfl
def c_value : Nat → SS → Int32 → Option (SS)
  | 0, _, _ => none
  | n + 1, S, p0 => c_valueB S (c_value n) p0
theorem c_value_ok : ∀ (n e : Nat), 6 * n ≤ e → ∀ (h : mH) (S : SS) (p0 : Int32) (v : SS), cs h S → c_value n S p0 = some v → mW e mm39 (0, [some (.ref 68), some (.int p0), none], [], (h, q)) (mQ q v none) := by
  intro n
  induction n with
  | zero => intro e he h S p0 v  hs hv; cases hv
  | succ n ih =>
    intro e he h S p0 v  hs hv
    have := s39 (d := e - 6) (q := q)  (rec := c_value n) (fun e' he' => ih e' (by omega)) hs hv
    rw [show e = e - 6 + 6 by omega]
    exact this
def c_parse (S : SS) (t0 : Nat) : Option (SS × Int32) := ((c_blanks (wr (wr (up (wr S 68 1 (Int32.ofNat t0)) ((rd (wr S 68 1 (Int32.ofNat t0)) 68 1).toNatClampNeg) [0]) 68 2 0) 68 3 (-1))).bind fun r5 => ((c_value 100 r5 0).bind fun r7 => ((c_blanks r7).bind fun r9 => (if (Int32.ofNat (tT r9 42).length) ≤ (rd r9 68 2) then some (r9, rd r9 68 3) else ((c_break r9 (rd r9 68 2)).bind fun r13 => some (r13, rd r13 68 3))))))
theorem s34 {S : SS} {t0 : Nat} (ht0 : t0 ∈ shT) {v : SS × Int32} (hs : cs h S) (hv : c_parse S t0 = some v) : mW (d + 601) mm34 (0, [some (.ref 68), some (.ref t0)], [], (h, q)) (mQ q v.1 (some (.int v.2))) := by
  unfold c_parse at hv
  refine mW.sn 2 (g' := (2, [some (.ref 68), some (.ref t0)], [.ref t0, .ref 68], (h, q))) rfl ?_
  refine sW.putT rfl hs o68 rfl ht0 ?_
  intro h1 hs1
  refine mW.sn 1 (g' := (6, [some (.ref 68), some (.ref t0)], [.ref 68], (h1, q))) rfl ?_
  refine sW.getT rfl hs1 o68 rfl ?_
  refine sW.call rfl rfl rfl rfl (hs1.rcvT (hs1.okT o68 rfl)) (s35 hs1 (hs1.okT o68 rfl)) ?_
  intro h2 hs2
  refine mW.sn 2 (g' := (14, [some (.ref 68), some (.ref t0)], [.int 0, .ref 68], (h2, q))) rfl ?_
  refine sW.putI rfl hs2 o68 rfl ?_
  intro h3 hs3
  refine mW.sn 2 (g' := (19, [some (.ref 68), some (.ref t0)], [.int (-1), .ref 68], (h3, q))) rfl ?_
  refine sW.putI rfl hs3 o68 rfl ?_
  intro h4 hs4
  refine mW.sn 1 (g' := (23, [some (.ref 68), some (.ref t0)], [.ref 68], (h4, q))) rfl ?_
  cases hr5 : c_blanks (wr (wr (up (wr S 68 1 (Int32.ofNat t0)) ((rd (wr S 68 1 (Int32.ofNat t0)) 68 1).toNatClampNeg) [0]) 68 2 0) 68 3 (-1)) with
  | none => rw [hr5] at hv; cases hv
  | some r5 =>
    rw [hr5, o_bind] at hv
    refine sW.call rfl rfl rfl rfl (hs4.rcv o68) (s36 hs4 hr5) ?_
    intro h6 hs6
    refine mW.sn 2 (g' := (28, [some (.ref 68), some (.ref t0)], [.int 0, .ref 68], (h6, q))) rfl ?_
    cases hr7 : c_value 100 r5 0 with
    | none => rw [hr7] at hv; cases hv
    | some r7 =>
      rw [hr7, o_bind] at hv
      refine sW.call rfl rfl rfl rfl (hs6.rcv o68) (c_value_ok 100 _ (by omega) _ _ _ _  hs6 hr7) ?_
      intro h8 hs8
      refine mW.sn 1 (g' := (32, [some (.ref 68), some (.ref t0)], [.ref 68], (h8, q))) rfl ?_
      cases hr9 : c_blanks r7 with
      | none => rw [hr9] at hv; cases hv
      | some r9 =>
        rw [hr9, o_bind] at hv
        refine sW.call rfl rfl rfl rfl (hs8.rcv o68) (s36 hs8 hr9) ?_
        intro h10 hs10
        refine mW.sn 1 (g' := (36, [some (.ref 68), some (.ref t0)], [.ref 68], (h10, q))) rfl ?_
        refine sW.getI rfl hs10 o68 rfl rfl ?_
        refine mW.sn 1 (g' := (40, [some (.ref 68), some (.ref t0)], [.ref 68, .int (rd r9 68 2)], (h10, q))) rfl ?_
        refine sW.getR rfl hs10 o68 rfl rfl ?_
        refine sW.call rfl rfl rfl rfl (hs10.rcvT (by decide)) (sW.of hs10 (x24 (hs10.gtx (by decide)))) ?_
        intro h11 hs11
        refine mW.br (g1 := (57, [some (.ref 68), some (.ref t0)], [], (h11, q))) (g2 := (49, [some (.ref 68), some (.ref t0)], [], (h11, q))) (c := (Int32.ofNat (tT r9 42).length) ≤ (rd r9 68 2)) rfl (fun hc12 => ?_) (fun hc12 => ?_)
        · rw [if_pos hc12] at hv
          refine mW.sn 1 (g' := (58, [some (.ref 68), some (.ref t0)], [.ref 68], (h11, q))) rfl ?_
          refine sW.getI rfl hs11 o68 rfl rfl ?_
          cases hv
          exact sW.fin hs11 rfl
        · rw [if_neg hc12] at hv
          refine mW.sn 2 (g' := (51, [some (.ref 68), some (.ref t0)], [.ref 68, .ref 68], (h11, q))) rfl ?_
          refine sW.getI rfl hs11 o68 rfl rfl ?_
          cases hr13 : c_break r9 (rd r9 68 2) with
          | none => rw [hr13] at hv; cases hv
          | some r13 =>
            rw [hr13, o_bind] at hv
            refine sW.call rfl rfl rfl rfl (hs11.rcv o68) (s41 hs11 hr13) ?_
            intro h14 hs14
            refine mW.sn 1 (g' := (58, [some (.ref 68), some (.ref t0)], [.ref 68], (h14, q))) rfl ?_
            refine sW.getI rfl hs14 o68 rfl rfl ?_
            cases hv
            exact sW.fin hs14 rfl
end
