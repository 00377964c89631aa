/-! PRINTED BY wip/whole/t90.py: how a Text is read. -/
section Read90
variable {d : Nat} {h : mH} {q : Nat × Nat} {o w : Nat} {us : List Int32} {ov : Int32}
/-- the byte at a place, as it is stored -/
def tby (us : List Int32) (i : Int32) : Option Int32 := if i < 0 then none else (us[i.toNatClampNeg]?).map (fun u => u.toInt8.toInt32)
theorem tby_row (t : tx h o w us ov) {i v : Int32} (hv : tby us i = some v) : ∃ row, h[w]? = some (1000, row) ∧ m_ix i row = some (.int v) := by
  obtain ⟨t1, t2, t3, t4, t5, tail, t6, t7⟩ := t
  unfold tby at hv
  by_cases hi : i < 0
  · rw [if_pos hi] at hv; cases hv
  · rw [if_neg hi] at hv
    obtain ⟨u, hu, rfl⟩ := Option.map_eq_some_iff.mp hv
    refine ⟨_, t6, ?_⟩
    have hl := (List.getElem?_eq_some_iff.mp hu).1
    rw [m_ix, if_neg hi, List.getElem?_append_left (by rw [List.length_map]; exact hl), List.getElem?_map, hu]
    rfl
def ns_l (us : List Int32) (c : Int32) : Nat → Int32 → Int32 → Int32 → Option Int32
  | 0, _, _, _ => none
  | n + 1, k, z, i => (if (Int32.ofNat us.length) ≤ i then some (Int32.ofNat us.length) else ((tby us i).bind fun b2 => (if z = 0 then (if b2 = (34 : Int32) then ns_l us c n k 1 (i + 1) else (if b2 = (91 : Int32) then ns_l us c n (k + 1) z (i + 1) else (if b2 = (123 : Int32) then ns_l us c n (k + 1) z (i + 1) else (if k = 0 then (if b2 = (44 : Int32) then some i else (if b2 = (93 : Int32) then some i else (if b2 = (125 : Int32) then some i else (if b2 = (58 : Int32) then (if c = 0 then ns_l us c n k z (i + 1) else some i) else ns_l us c n k z (i + 1))))) else (if b2 = (93 : Int32) then ns_l us c n (k + (-1)) z (i + 1) else (if b2 = (125 : Int32) then ns_l us c n (k + (-1)) z (i + 1) else ns_l us c n k z (i + 1))))))) else (if b2 = (34 : Int32) then (if b2 = (92 : Int32) then ns_l us c n k 0 ((i + 1) + 1) else ns_l us c n k 0 (i + 1)) else (if b2 = (92 : Int32) then ns_l us c n k 1 ((i + 1) + 1) else ns_l us c n k 1 (i + 1))))))
theorem ns_l_ok (t : tx h o w us ov) {c : Int32} : ∀ (n : Nat) (k : Int32) (z : Int32) (i : Int32) (x1 : Option Value) (x6 : Option Value) (v : Int32), ns_l us c n k z i = some v → mE (d + 1) mm56 (12, [some (.ref o), x1, some (.int c), some (.int k), some (.int z), some (.int i), x6], [], (h, q)) (.returned (some (.int v)), (h, q)) := by
  intro n
  induction n with
  | zero => intro k z i x1 x6 v hv; cases hv
  | succ n ih =>
    intro k z i x1 x6 v hv
    unfold ns_l at hv
    refine mE.sn 2 (g' := (15, [some (.ref o), x1, some (.int c), some (.int k), some (.int z), some (.int i), x6], [.ref o, .int i], (h, q))) rfl ?_
    refine mE.get rfl t.2.2.1 rfl ?_
    refine mE.br (g1 := (157, [some (.ref o), x1, some (.int c), some (.int k), some (.int z), some (.int i), x6], [], (h, q))) (g2 := (21, [some (.ref o), x1, some (.int c), some (.int k), some (.int z), some (.int i), x6], [], (h, q))) (c := (Int32.ofNat us.length) ≤ i) rfl (fun hc1 => ?_) (fun hc1 => ?_)
    · rw [if_pos hc1] at hv
      refine mE.sn 1 (g' := (158, [some (.ref o), x1, some (.int c), some (.int k), some (.int z), some (.int i), x6], [.ref o], (h, q))) rfl ?_
      refine mE.get rfl t.2.2.1 rfl ?_
      cases hv
      exact m_ev.fin rfl
    · rw [if_neg hc1] at hv
      refine mE.sn 1 (g' := (22, [some (.ref o), x1, some (.int c), some (.int k), some (.int z), some (.int i), x6], [.ref o], (h, q))) rfl ?_
      refine mE.get rfl t.2.2.1 rfl ?_
      refine mE.sn 1 (g' := (27, [some (.ref o), x1, some (.int c), some (.int k), some (.int z), some (.int i), x6], [.int i, .ref w], (h, q))) rfl ?_
      cases hr2 : tby us i with
      | none => rw [hr2] at hv; cases hv
      | some b2 =>
        rw [hr2] at hv
        simp only [Option.bind_some] at hv
        obtain ⟨row2, hw2, hx2⟩ := tby_row t hr2
        refine mE.bald (v := .int b2) rfl hw2 hx2 ?_
        refine mE.sn 2 (g' := (32, [some (.ref o), x1, some (.int c), some (.int k), some (.int z), some (.int i), some (.int b2)], [.int z], (h, q))) rfl ?_
        refine mE.br (g1 := (62, [some (.ref o), x1, some (.int c), some (.int k), some (.int z), some (.int i), some (.int b2)], [], (h, q))) (g2 := (35, [some (.ref o), x1, some (.int c), some (.int k), some (.int z), some (.int i), some (.int b2)], [], (h, q))) (c := z = 0) rfl (fun hc3 => ?_) (fun hc3 => ?_)
        · rw [if_pos hc3] at hv
          refine mE.sn 2 (g' := (66, [some (.ref o), x1, some (.int c), some (.int k), some (.int z), some (.int i), some (.int b2)], [.int 34, .int b2], (h, q))) rfl ?_
          refine mE.br (g1 := (69, [some (.ref o), x1, some (.int c), some (.int k), some (.int z), some (.int i), some (.int b2)], [], (h, q))) (g2 := (75, [some (.ref o), x1, some (.int c), some (.int k), some (.int z), some (.int i), some (.int b2)], [], (h, q))) (c := b2 = (34 : Int32)) rfl (fun hc4 => ?_) (fun hc4 => ?_)
          · rw [if_pos hc4] at hv
            refine mE.sn 5 (g' := (12, [some (.ref o), x1, some (.int c), some (.int k), some (.int 1), some (.int (i + 1)), some (.int b2)], [], (h, q))) rfl ?_
            exact ih _ _ _ _ _ v hv
          · rw [if_neg hc4] at hv
            refine mE.sn 2 (g' := (79, [some (.ref o), x1, some (.int c), some (.int k), some (.int z), some (.int i), some (.int b2)], [.int 91, .int b2], (h, q))) rfl ?_
            refine mE.br (g1 := (89, [some (.ref o), x1, some (.int c), some (.int k), some (.int z), some (.int i), some (.int b2)], [], (h, q))) (g2 := (82, [some (.ref o), x1, some (.int c), some (.int k), some (.int z), some (.int i), some (.int b2)], [], (h, q))) (c := b2 = (91 : Int32)) rfl (fun hc5 => ?_) (fun hc5 => ?_)
            · rw [if_pos hc5] at hv
              refine mE.sn 4 (g' := (12, [some (.ref o), x1, some (.int c), some (.int (k + 1)), some (.int z), some (.int (i + 1)), some (.int b2)], [], (h, q))) rfl ?_
              exact ih _ _ _ _ _ v hv
            · rw [if_neg hc5] at hv
              refine mE.sn 2 (g' := (86, [some (.ref o), x1, some (.int c), some (.int k), some (.int z), some (.int i), some (.int b2)], [.int 123, .int b2], (h, q))) rfl ?_
              refine mE.br (g1 := (89, [some (.ref o), x1, some (.int c), some (.int k), some (.int z), some (.int i), some (.int b2)], [], (h, q))) (g2 := (95, [some (.ref o), x1, some (.int c), some (.int k), some (.int z), some (.int i), some (.int b2)], [], (h, q))) (c := b2 = (123 : Int32)) rfl (fun hc6 => ?_) (fun hc6 => ?_)
              · rw [if_pos hc6] at hv
                refine mE.sn 4 (g' := (12, [some (.ref o), x1, some (.int c), some (.int (k + 1)), some (.int z), some (.int (i + 1)), some (.int b2)], [], (h, q))) rfl ?_
                exact ih _ _ _ _ _ v hv
              · rw [if_neg hc6] at hv
                refine mE.sn 1 (g' := (96, [some (.ref o), x1, some (.int c), some (.int k), some (.int z), some (.int i), some (.int b2)], [.int k], (h, q))) rfl ?_
                refine mE.br (g1 := (99, [some (.ref o), x1, some (.int c), some (.int k), some (.int z), some (.int i), some (.int b2)], [], (h, q))) (g2 := (134, [some (.ref o), x1, some (.int c), some (.int k), some (.int z), some (.int i), some (.int b2)], [], (h, q))) (c := k = 0) rfl (fun hc7 => ?_) (fun hc7 => ?_)
                · rw [if_pos hc7] at hv
                  refine mE.sn 2 (g' := (103, [some (.ref o), x1, some (.int c), some (.int k), some (.int z), some (.int i), some (.int b2)], [.int 44, .int b2], (h, q))) rfl ?_
                  refine mE.br (g1 := (131, [some (.ref o), x1, some (.int c), some (.int k), some (.int z), some (.int i), some (.int b2)], [], (h, q))) (g2 := (106, [some (.ref o), x1, some (.int c), some (.int k), some (.int z), some (.int i), some (.int b2)], [], (h, q))) (c := b2 = (44 : Int32)) rfl (fun hc8 => ?_) (fun hc8 => ?_)
                  · rw [if_pos hc8] at hv
                    refine mE.sn 1 (g' := (133, [some (.ref o), x1, some (.int c), some (.int k), some (.int z), some (.int i), some (.int b2)], [.int i], (h, q))) rfl ?_
                    cases hv
                    exact m_ev.fin rfl
                  · rw [if_neg hc8] at hv
                    refine mE.sn 2 (g' := (110, [some (.ref o), x1, some (.int c), some (.int k), some (.int z), some (.int i), some (.int b2)], [.int 93, .int b2], (h, q))) rfl ?_
                    refine mE.br (g1 := (131, [some (.ref o), x1, some (.int c), some (.int k), some (.int z), some (.int i), some (.int b2)], [], (h, q))) (g2 := (113, [some (.ref o), x1, some (.int c), some (.int k), some (.int z), some (.int i), some (.int b2)], [], (h, q))) (c := b2 = (93 : Int32)) rfl (fun hc9 => ?_) (fun hc9 => ?_)
                    · rw [if_pos hc9] at hv
                      refine mE.sn 1 (g' := (133, [some (.ref o), x1, some (.int c), some (.int k), some (.int z), some (.int i), some (.int b2)], [.int i], (h, q))) rfl ?_
                      cases hv
                      exact m_ev.fin rfl
                    · rw [if_neg hc9] at hv
                      refine mE.sn 2 (g' := (117, [some (.ref o), x1, some (.int c), some (.int k), some (.int z), some (.int i), some (.int b2)], [.int 125, .int b2], (h, q))) rfl ?_
                      refine mE.br (g1 := (131, [some (.ref o), x1, some (.int c), some (.int k), some (.int z), some (.int i), some (.int b2)], [], (h, q))) (g2 := (120, [some (.ref o), x1, some (.int c), some (.int k), some (.int z), some (.int i), some (.int b2)], [], (h, q))) (c := b2 = (125 : Int32)) rfl (fun hc10 => ?_) (fun hc10 => ?_)
                      · rw [if_pos hc10] at hv
                        refine mE.sn 1 (g' := (133, [some (.ref o), x1, some (.int c), some (.int k), some (.int z), some (.int i), some (.int b2)], [.int i], (h, q))) rfl ?_
                        cases hv
                        exact m_ev.fin rfl
                      · rw [if_neg hc10] at hv
                        refine mE.sn 2 (g' := (124, [some (.ref o), x1, some (.int c), some (.int k), some (.int z), some (.int i), some (.int b2)], [.int 58, .int b2], (h, q))) rfl ?_
                        refine mE.br (g1 := (127, [some (.ref o), x1, some (.int c), some (.int k), some (.int z), some (.int i), some (.int b2)], [], (h, q))) (g2 := (134, [some (.ref o), x1, some (.int c), some (.int k), some (.int z), some (.int i), some (.int b2)], [], (h, q))) (c := b2 = (58 : Int32)) rfl (fun hc11 => ?_) (fun hc11 => ?_)
                        · rw [if_pos hc11] at hv
                          refine mE.sn 1 (g' := (128, [some (.ref o), x1, some (.int c), some (.int k), some (.int z), some (.int i), some (.int b2)], [.int c], (h, q))) rfl ?_
                          refine mE.br (g1 := (134, [some (.ref o), x1, some (.int c), some (.int k), some (.int z), some (.int i), some (.int b2)], [], (h, q))) (g2 := (131, [some (.ref o), x1, some (.int c), some (.int k), some (.int z), some (.int i), some (.int b2)], [], (h, q))) (c := c = 0) rfl (fun hc12 => ?_) (fun hc12 => ?_)
                          · rw [if_pos hc12] at hv
                            refine mE.sn 2 (g' := (138, [some (.ref o), x1, some (.int c), some (.int k), some (.int z), some (.int i), some (.int b2)], [.int 93, .int b2], (h, q))) rfl ?_
                            refine mE.no (g1 := (148, [some (.ref o), x1, some (.int c), some (.int k), some (.int z), some (.int i), some (.int b2)], [], (h, q))) (g2 := (141, [some (.ref o), x1, some (.int c), some (.int k), some (.int z), some (.int i), some (.int b2)], [], (h, q))) (c := b2 = (93 : Int32)) rfl hc9 ?_
                            refine mE.sn 2 (g' := (145, [some (.ref o), x1, some (.int c), some (.int k), some (.int z), some (.int i), some (.int b2)], [.int 125, .int b2], (h, q))) rfl ?_
                            refine mE.no (g1 := (148, [some (.ref o), x1, some (.int c), some (.int k), some (.int z), some (.int i), some (.int b2)], [], (h, q))) (g2 := (151, [some (.ref o), x1, some (.int c), some (.int k), some (.int z), some (.int i), some (.int b2)], [], (h, q))) (c := b2 = (125 : Int32)) rfl hc10 ?_
                            refine mE.sn 2 (g' := (12, [some (.ref o), x1, some (.int c), some (.int k), some (.int z), some (.int (i + 1)), some (.int b2)], [], (h, q))) rfl ?_
                            exact ih _ _ _ _ _ v hv
                          · rw [if_neg hc12] at hv
                            refine mE.sn 1 (g' := (133, [some (.ref o), x1, some (.int c), some (.int k), some (.int z), some (.int i), some (.int b2)], [.int i], (h, q))) rfl ?_
                            cases hv
                            exact m_ev.fin rfl
                        · rw [if_neg hc11] at hv
                          refine mE.sn 2 (g' := (138, [some (.ref o), x1, some (.int c), some (.int k), some (.int z), some (.int i), some (.int b2)], [.int 93, .int b2], (h, q))) rfl ?_
                          refine mE.no (g1 := (148, [some (.ref o), x1, some (.int c), some (.int k), some (.int z), some (.int i), some (.int b2)], [], (h, q))) (g2 := (141, [some (.ref o), x1, some (.int c), some (.int k), some (.int z), some (.int i), some (.int b2)], [], (h, q))) (c := b2 = (93 : Int32)) rfl hc9 ?_
                          refine mE.sn 2 (g' := (145, [some (.ref o), x1, some (.int c), some (.int k), some (.int z), some (.int i), some (.int b2)], [.int 125, .int b2], (h, q))) rfl ?_
                          refine mE.no (g1 := (148, [some (.ref o), x1, some (.int c), some (.int k), some (.int z), some (.int i), some (.int b2)], [], (h, q))) (g2 := (151, [some (.ref o), x1, some (.int c), some (.int k), some (.int z), some (.int i), some (.int b2)], [], (h, q))) (c := b2 = (125 : Int32)) rfl hc10 ?_
                          refine mE.sn 2 (g' := (12, [some (.ref o), x1, some (.int c), some (.int k), some (.int z), some (.int (i + 1)), some (.int b2)], [], (h, q))) rfl ?_
                          exact ih _ _ _ _ _ v hv
                · rw [if_neg hc7] at hv
                  refine mE.sn 2 (g' := (138, [some (.ref o), x1, some (.int c), some (.int k), some (.int z), some (.int i), some (.int b2)], [.int 93, .int b2], (h, q))) rfl ?_
                  refine mE.br (g1 := (148, [some (.ref o), x1, some (.int c), some (.int k), some (.int z), some (.int i), some (.int b2)], [], (h, q))) (g2 := (141, [some (.ref o), x1, some (.int c), some (.int k), some (.int z), some (.int i), some (.int b2)], [], (h, q))) (c := b2 = (93 : Int32)) rfl (fun hc13 => ?_) (fun hc13 => ?_)
                  · rw [if_pos hc13] at hv
                    refine mE.sn 3 (g' := (12, [some (.ref o), x1, some (.int c), some (.int (k + (-1))), some (.int z), some (.int (i + 1)), some (.int b2)], [], (h, q))) rfl ?_
                    exact ih _ _ _ _ _ v hv
                  · rw [if_neg hc13] at hv
                    refine mE.sn 2 (g' := (145, [some (.ref o), x1, some (.int c), some (.int k), some (.int z), some (.int i), some (.int b2)], [.int 125, .int b2], (h, q))) rfl ?_
                    refine mE.br (g1 := (148, [some (.ref o), x1, some (.int c), some (.int k), some (.int z), some (.int i), some (.int b2)], [], (h, q))) (g2 := (151, [some (.ref o), x1, some (.int c), some (.int k), some (.int z), some (.int i), some (.int b2)], [], (h, q))) (c := b2 = (125 : Int32)) rfl (fun hc14 => ?_) (fun hc14 => ?_)
                    · rw [if_pos hc14] at hv
                      refine mE.sn 3 (g' := (12, [some (.ref o), x1, some (.int c), some (.int (k + (-1))), some (.int z), some (.int (i + 1)), some (.int b2)], [], (h, q))) rfl ?_
                      exact ih _ _ _ _ _ v hv
                    · rw [if_neg hc14] at hv
                      refine mE.sn 2 (g' := (12, [some (.ref o), x1, some (.int c), some (.int k), some (.int z), some (.int (i + 1)), some (.int b2)], [], (h, q))) rfl ?_
                      exact ih _ _ _ _ _ v hv
        · rw [if_neg hc3] at hv
          refine mE.sn 2 (g' := (39, [some (.ref o), x1, some (.int c), some (.int k), some (.int z), some (.int i), some (.int b2)], [.int 34, .int b2], (h, q))) rfl ?_
          refine mE.br (g1 := (46, [some (.ref o), x1, some (.int c), some (.int k), some (.int z), some (.int i), some (.int b2)], [], (h, q))) (g2 := (42, [some (.ref o), x1, some (.int c), some (.int k), some (.int z), some (.int i), some (.int b2)], [], (h, q))) (c := b2 = (34 : Int32)) rfl (fun hc15 => ?_) (fun hc15 => ?_)
          · rw [if_pos hc15] at hv
            refine mE.sn 4 (g' := (53, [some (.ref o), x1, some (.int c), some (.int k), some (.int 0), some (.int i), some (.int b2)], [.int 92, .int b2], (h, q))) rfl ?_
            refine mE.br (g1 := (56, [some (.ref o), x1, some (.int c), some (.int k), some (.int 0), some (.int i), some (.int b2)], [], (h, q))) (g2 := (151, [some (.ref o), x1, some (.int c), some (.int k), some (.int 0), some (.int i), some (.int b2)], [], (h, q))) (c := b2 = (92 : Int32)) rfl (fun hc16 => ?_) (fun hc16 => ?_)
            · rw [if_pos hc16] at hv
              refine mE.sn 4 (g' := (12, [some (.ref o), x1, some (.int c), some (.int k), some (.int 0), some (.int ((i + 1) + 1)), some (.int b2)], [], (h, q))) rfl ?_
              exact ih _ _ _ _ _ v hv
            · rw [if_neg hc16] at hv
              refine mE.sn 2 (g' := (12, [some (.ref o), x1, some (.int c), some (.int k), some (.int 0), some (.int (i + 1)), some (.int b2)], [], (h, q))) rfl ?_
              exact ih _ _ _ _ _ v hv
          · rw [if_neg hc15] at hv
            refine mE.sn 5 (g' := (53, [some (.ref o), x1, some (.int c), some (.int k), some (.int 1), some (.int i), some (.int b2)], [.int 92, .int b2], (h, q))) rfl ?_
            refine mE.br (g1 := (56, [some (.ref o), x1, some (.int c), some (.int k), some (.int 1), some (.int i), some (.int b2)], [], (h, q))) (g2 := (151, [some (.ref o), x1, some (.int c), some (.int k), some (.int 1), some (.int i), some (.int b2)], [], (h, q))) (c := b2 = (92 : Int32)) rfl (fun hc17 => ?_) (fun hc17 => ?_)
            · rw [if_pos hc17] at hv
              refine mE.sn 4 (g' := (12, [some (.ref o), x1, some (.int c), some (.int k), some (.int 1), some (.int ((i + 1) + 1)), some (.int b2)], [], (h, q))) rfl ?_
              exact ih _ _ _ _ _ v hv
            · rw [if_neg hc17] at hv
              refine mE.sn 2 (g' := (12, [some (.ref o), x1, some (.int c), some (.int k), some (.int 1), some (.int (i + 1)), some (.int b2)], [], (h, q))) rfl ?_
              exact ih _ _ _ _ _ v hv
def ns (us : List Int32) (c : Int32) (p : Int32) : Option Int32 := ns_l us c 10000 0 0 (imax p 0)
theorem x56 (t : tx h o w us ov) {c : Int32} {p : Int32} {v : Int32} (hv : ns us c p = some v) : mE (d + 1) mm56 (0, [some (.ref o), some (.int p), some (.int c), none, none, none, none], [], (h, q)) (.returned (some (.int v)), (h, q)) := by
  unfold ns at hv
  refine mE.sn 6 (g' := (7, [some (.ref o), some (.int p), some (.int c), some (.int 0), some (.int 0), none, none], [.int 0, .int p], (h, q))) rfl ?_
  refine mE.call rfl rfl rfl rfl rfl (x30 p 0) ?_
  refine mE.sn 1 (g' := (12, [some (.ref o), some (.int p), some (.int c), some (.int 0), some (.int 0), some (.int (imax p 0)), none], [], (h, q))) rfl ?_
  exact ns_l_ok t _ _ _ _ _ _ v hv
def t_kind (us : List Int32) (p : Int32) : Option Int32 := (if (tat us p) = -1 then some 0 else (if (tat us p) = 34 then some 4 else (if (tat us p) = 91 then some 5 else (if (tat us p) = 102 then some 1 else (if (tat us p) = 110 then some 0 else (if (tat us p) = 116 then some 2 else (if (tat us p) = 123 then some 6 else some 3)))))))
theorem x70 (t : tx h o w us ov) {p : Int32} {v : Int32} (hv : t_kind us p = some v) : mE (d + 1) mm70 (0, [some (.ref o), some (.int p)], [], (h, q)) (.returned (some (.int v)), (h, q)) := by
  unfold t_kind at hv
  refine mE.sn 2 (g' := (2, [some (.ref o), some (.int p)], [.int p, .ref o], (h, q))) rfl ?_
  refine mE.call rfl rfl rfl rfl (m_rcv_ok t.2.2.1) (x37 t p) ?_
  by_cases hc1 : (tat us p) = -1
  · rw [if_pos hc1] at hv
    refine mE.sn 1 (g' := (83, [some (.ref o), some (.int p)], [], (h, q))) (by rw [hc1]; rfl) ?_
    refine mE.sn 1 (g' := (84, [some (.ref o), some (.int p)], [.int 0], (h, q))) rfl ?_
    cases hv
    exact m_ev.fin rfl
  rw [if_neg hc1] at hv
  by_cases hc2 : (tat us p) = 34
  · rw [if_pos hc2] at hv
    refine mE.sn 1 (g' := (76, [some (.ref o), some (.int p)], [], (h, q))) (by rw [hc2]; rfl) ?_
    refine mE.sn 1 (g' := (77, [some (.ref o), some (.int p)], [.int 4], (h, q))) rfl ?_
    cases hv
    exact m_ev.fin rfl
  rw [if_neg hc2] at hv
  by_cases hc3 : (tat us p) = 91
  · rw [if_pos hc3] at hv
    refine mE.sn 1 (g' := (78, [some (.ref o), some (.int p)], [], (h, q))) (by rw [hc3]; rfl) ?_
    refine mE.sn 1 (g' := (79, [some (.ref o), some (.int p)], [.int 5], (h, q))) rfl ?_
    cases hv
    exact m_ev.fin rfl
  rw [if_neg hc3] at hv
  by_cases hc4 : (tat us p) = 102
  · rw [if_pos hc4] at hv
    refine mE.sn 1 (g' := (72, [some (.ref o), some (.int p)], [], (h, q))) (by rw [hc4]; rfl) ?_
    refine mE.sn 1 (g' := (73, [some (.ref o), some (.int p)], [.int 1], (h, q))) rfl ?_
    cases hv
    exact m_ev.fin rfl
  rw [if_neg hc4] at hv
  by_cases hc5 : (tat us p) = 110
  · rw [if_pos hc5] at hv
    refine mE.sn 1 (g' := (83, [some (.ref o), some (.int p)], [], (h, q))) (by rw [hc5]; rfl) ?_
    refine mE.sn 1 (g' := (84, [some (.ref o), some (.int p)], [.int 0], (h, q))) rfl ?_
    cases hv
    exact m_ev.fin rfl
  rw [if_neg hc5] at hv
  by_cases hc6 : (tat us p) = 116
  · rw [if_pos hc6] at hv
    refine mE.sn 1 (g' := (74, [some (.ref o), some (.int p)], [], (h, q))) (by rw [hc6]; rfl) ?_
    refine mE.sn 1 (g' := (75, [some (.ref o), some (.int p)], [.int 2], (h, q))) rfl ?_
    cases hv
    exact m_ev.fin rfl
  rw [if_neg hc6] at hv
  by_cases hc7 : (tat us p) = 123
  · rw [if_pos hc7] at hv
    refine mE.sn 1 (g' := (80, [some (.ref o), some (.int p)], [], (h, q))) (by rw [hc7]; rfl) ?_
    refine mE.sn 1 (g' := (82, [some (.ref o), some (.int p)], [.int 6], (h, q))) rfl ?_
    cases hv
    exact m_ev.fin rfl
  rw [if_neg hc7] at hv
  have hd7 : m_lsw 5 80 #[((-1), 78), (34, 71), (91, 73), (102, 67), (110, 78), (116, 69), (123, 75)] (tat us p) = 85 := by
    have n1 : ¬ (-1 : Int) = (tat us p).toInt := fun e => hc1 (Int32.toInt_inj.mp (e.symm.trans rfl))
    have n2 : ¬ (34 : Int) = (tat us p).toInt := fun e => hc2 (Int32.toInt_inj.mp (e.symm.trans rfl))
    have n3 : ¬ (91 : Int) = (tat us p).toInt := fun e => hc3 (Int32.toInt_inj.mp (e.symm.trans rfl))
    have n4 : ¬ (102 : Int) = (tat us p).toInt := fun e => hc4 (Int32.toInt_inj.mp (e.symm.trans rfl))
    have n5 : ¬ (110 : Int) = (tat us p).toInt := fun e => hc5 (Int32.toInt_inj.mp (e.symm.trans rfl))
    have n6 : ¬ (116 : Int) = (tat us p).toInt := fun e => hc6 (Int32.toInt_inj.mp (e.symm.trans rfl))
    have n7 : ¬ (123 : Int) = (tat us p).toInt := fun e => hc7 (Int32.toInt_inj.mp (e.symm.trans rfl))
    simp [m_lsw, Op.lookupswitch.offset_cons, Op.lookupswitch.offset_nil, n1, n2, n3, n4, n5, n6, n7]
  refine mE.sn 1 (g' := (85, [some (.ref o), some (.int p)], [], (h, q))) (by rw [← hd7]; rfl) ?_
  refine mE.sn 1 (g' := (86, [some (.ref o), some (.int p)], [.int 3], (h, q))) rfl ?_
  cases hv
  exact m_ev.fin rfl
def t_itemEnd (us : List Int32) (p : Int32) : Option Int32 := ((ns us 0 p).bind fun r1 => some r1)
theorem x55 (t : tx h o w us ov) {p : Int32} {v : Int32} (hv : t_itemEnd us p = some v) : mE (d + 2) mm55 (0, [some (.ref o), some (.int p)], [], (h, q)) (.returned (some (.int v)), (h, q)) := by
  unfold t_itemEnd at hv
  refine mE.sn 3 (g' := (3, [some (.ref o), some (.int p)], [.int 0, .int p, .ref o], (h, q))) rfl ?_
  cases hr1 : ns us 0 p with
  | none => rw [hr1] at hv; cases hv
  | some r1 =>
    rw [hr1] at hv
    simp only [Option.bind_some] at hv
    refine mE.call rfl rfl rfl rfl (m_rcv_ok t.2.2.1) (x56 t hr1) ?_
    cases hv
    exact m_ev.fin rfl
def t_past (us : List Int32) (p : Int32) : Option Int32 := ((ns us 1 p).bind fun r1 => some r1)
theorem x83 (t : tx h o w us ov) {p : Int32} {v : Int32} (hv : t_past us p = some v) : mE (d + 2) mm83 (0, [some (.ref o), some (.int p)], [], (h, q)) (.returned (some (.int v)), (h, q)) := by
  unfold t_past at hv
  refine mE.sn 3 (g' := (3, [some (.ref o), some (.int p)], [.int 1, .int p, .ref o], (h, q))) rfl ?_
  cases hr1 : ns us 1 p with
  | none => rw [hr1] at hv; cases hv
  | some r1 =>
    rw [hr1] at hv
    simp only [Option.bind_some] at hv
    refine mE.call rfl rfl rfl rfl (m_rcv_ok t.2.2.1) (x56 t hr1) ?_
    cases hv
    exact m_ev.fin rfl
def t_first (us : List Int32) (p : Int32) : Option Int32 := (if (tat us (p + 1)) = (93 : Int32) then some (-1) else (if (tat us (p + 1)) = (125 : Int32) then some (-1) else some (p + 1)))
theorem x74 (t : tx h o w us ov) {p : Int32} {v : Int32} (hv : t_first us p = some v) : mE (d + 1) mm74 (0, [some (.ref o), some (.int p), none], [], (h, q)) (.returned (some (.int v)), (h, q)) := by
  unfold t_first at hv
  refine mE.sn 4 (g' := (4, [some (.ref o), some (.int p), none], [.int (p + 1), .ref o], (h, q))) rfl ?_
  refine mE.call rfl rfl rfl rfl (m_rcv_ok t.2.2.1) (x37 t (p + 1)) ?_
  refine mE.sn 3 (g' := (11, [some (.ref o), some (.int p), some (.int (tat us (p + 1)))], [.int 93, .int (tat us (p + 1))], (h, q))) rfl ?_
  refine mE.br (g1 := (20, [some (.ref o), some (.int p), some (.int (tat us (p + 1)))], [], (h, q))) (g2 := (14, [some (.ref o), some (.int p), some (.int (tat us (p + 1)))], [], (h, q))) (c := (tat us (p + 1)) = (93 : Int32)) rfl (fun hc1 => ?_) (fun hc1 => ?_)
  · rw [if_pos hc1] at hv
    refine mE.sn 2 (g' := (27, [some (.ref o), some (.int p), some (.int (tat us (p + 1)))], [.int (-1)], (h, q))) rfl ?_
    cases hv
    exact m_ev.fin rfl
  · rw [if_neg hc1] at hv
    refine mE.sn 2 (g' := (17, [some (.ref o), some (.int p), some (.int (tat us (p + 1)))], [.int 125, .int (tat us (p + 1))], (h, q))) rfl ?_
    refine mE.br (g1 := (20, [some (.ref o), some (.int p), some (.int (tat us (p + 1)))], [], (h, q))) (g2 := (24, [some (.ref o), some (.int p), some (.int (tat us (p + 1)))], [], (h, q))) (c := (tat us (p + 1)) = (125 : Int32)) rfl (fun hc2 => ?_) (fun hc2 => ?_)
    · rw [if_pos hc2] at hv
      refine mE.sn 2 (g' := (27, [some (.ref o), some (.int p), some (.int (tat us (p + 1)))], [.int (-1)], (h, q))) rfl ?_
      cases hv
      exact m_ev.fin rfl
    · rw [if_neg hc2] at hv
      refine mE.sn 3 (g' := (27, [some (.ref o), some (.int p), some (.int (tat us (p + 1)))], [.int (p + 1)], (h, q))) rfl ?_
      cases hv
      exact m_ev.fin rfl
def t_next (us : List Int32) (p : Int32) : Option Int32 := ((ns us 0 p).bind fun r1 => (if (tat us r1) = (44 : Int32) then some (r1 + 1) else some (-1)))
theorem x81 (t : tx h o w us ov) {p : Int32} {v : Int32} (hv : t_next us p = some v) : mE (d + 2) mm81 (0, [some (.ref o), some (.int p), none], [], (h, q)) (.returned (some (.int v)), (h, q)) := by
  unfold t_next at hv
  refine mE.sn 3 (g' := (3, [some (.ref o), some (.int p), none], [.int 0, .int p, .ref o], (h, q))) rfl ?_
  cases hr1 : ns us 0 p with
  | none => rw [hr1] at hv; cases hv
  | some r1 =>
    rw [hr1] at hv
    simp only [Option.bind_some] at hv
    refine mE.call rfl rfl rfl rfl (m_rcv_ok t.2.2.1) (x56 t hr1) ?_
    refine mE.sn 3 (g' := (9, [some (.ref o), some (.int p), some (.int r1)], [.int r1, .ref o], (h, q))) rfl ?_
    refine mE.call rfl rfl rfl rfl (m_rcv_ok t.2.2.1) (x37 t r1) ?_
    refine mE.sn 1 (g' := (14, [some (.ref o), some (.int p), some (.int r1)], [.int 44, .int (tat us r1)], (h, q))) rfl ?_
    refine mE.br (g1 := (17, [some (.ref o), some (.int p), some (.int r1)], [], (h, q))) (g2 := (23, [some (.ref o), some (.int p), some (.int r1)], [], (h, q))) (c := (tat us r1) = (44 : Int32)) rfl (fun hc2 => ?_) (fun hc2 => ?_)
    · rw [if_pos hc2] at hv
      refine mE.sn 4 (g' := (24, [some (.ref o), some (.int p), some (.int r1)], [.int (r1 + 1)], (h, q))) rfl ?_
      cases hv
      exact m_ev.fin rfl
    · rw [if_neg hc2] at hv
      refine mE.sn 1 (g' := (24, [some (.ref o), some (.int p), some (.int r1)], [.int (-1)], (h, q))) rfl ?_
      cases hv
      exact m_ev.fin rfl
def t_valueOf (us : List Int32) (p : Int32) : Option Int32 := (if p = (-1 : Int32) then some (-1) else ((t_past us p).bind fun r2 => some (r2 + 1)))
theorem x82 (t : tx h o w us ov) {p : Int32} {v : Int32} (hv : t_valueOf us p = some v) : mE (d + 3) mm82 (0, [some (.ref o), some (.int p)], [], (h, q)) (.returned (some (.int v)), (h, q)) := by
  unfold t_valueOf at hv
  refine mE.sn 2 (g' := (2, [some (.ref o), some (.int p)], [.int (-1), .int p], (h, q))) rfl ?_
  refine mE.br (g1 := (5, [some (.ref o), some (.int p)], [], (h, q))) (g2 := (9, [some (.ref o), some (.int p)], [], (h, q))) (c := p = (-1 : Int32)) rfl (fun hc1 => ?_) (fun hc1 => ?_)
  · rw [if_pos hc1] at hv
    refine mE.sn 2 (g' := (16, [some (.ref o), some (.int p)], [.int (-1)], (h, q))) rfl ?_
    cases hv
    exact m_ev.fin rfl
  · rw [if_neg hc1] at hv
    refine mE.sn 2 (g' := (11, [some (.ref o), some (.int p)], [.int p, .ref o], (h, q))) rfl ?_
    cases hr2 : t_past us p with
    | none => rw [hr2] at hv; cases hv
    | some r2 =>
      rw [hr2] at hv
      simp only [Option.bind_some] at hv
      refine mE.call rfl rfl rfl rfl (m_rcv_ok t.2.2.1) (x83 t hr2) ?_
      refine mE.sn 2 (g' := (16, [some (.ref o), some (.int p)], [.int (r2 + 1)], (h, q))) rfl ?_
      cases hv
      exact m_ev.fin rfl
def t_width (us : List Int32) (p : Int32) : Option Int32 := (if (tat us p) = (92 : Int32) then (if (tat us (p + 1)) = (117 : Int32) then some 6 else some 2) else some 1)
theorem x94 (t : tx h o w us ov) {p : Int32} {v : Int32} (hv : t_width us p = some v) : mE (d + 1) mm94 (0, [some (.ref o), some (.int p)], [], (h, q)) (.returned (some (.int v)), (h, q)) := by
  unfold t_width at hv
  refine mE.sn 2 (g' := (2, [some (.ref o), some (.int p)], [.int p, .ref o], (h, q))) rfl ?_
  refine mE.call rfl rfl rfl rfl (m_rcv_ok t.2.2.1) (x37 t p) ?_
  refine mE.sn 1 (g' := (7, [some (.ref o), some (.int p)], [.int 92, .int (tat us p)], (h, q))) rfl ?_
  refine mE.br (g1 := (12, [some (.ref o), some (.int p)], [], (h, q))) (g2 := (10, [some (.ref o), some (.int p)], [], (h, q))) (c := (tat us p) = (92 : Int32)) rfl (fun hc1 => ?_) (fun hc1 => ?_)
  · rw [if_pos hc1] at hv
    refine mE.sn 4 (g' := (16, [some (.ref o), some (.int p)], [.int (p + 1), .ref o], (h, q))) rfl ?_
    refine mE.call rfl rfl rfl rfl (m_rcv_ok t.2.2.1) (x37 t (p + 1)) ?_
    refine mE.sn 1 (g' := (21, [some (.ref o), some (.int p)], [.int 117, .int (tat us (p + 1))], (h, q))) rfl ?_
    refine mE.br (g1 := (24, [some (.ref o), some (.int p)], [], (h, q))) (g2 := (29, [some (.ref o), some (.int p)], [], (h, q))) (c := (tat us (p + 1)) = (117 : Int32)) rfl (fun hc2 => ?_) (fun hc2 => ?_)
    · rw [if_pos hc2] at hv
      refine mE.sn 2 (g' := (30, [some (.ref o), some (.int p)], [.int 6], (h, q))) rfl ?_
      cases hv
      exact m_ev.fin rfl
    · rw [if_neg hc2] at hv
      refine mE.sn 1 (g' := (30, [some (.ref o), some (.int p)], [.int 2], (h, q))) rfl ?_
      cases hv
      exact m_ev.fin rfl
  · rw [if_neg hc1] at hv
    refine mE.sn 1 (g' := (11, [some (.ref o), some (.int p)], [.int 1], (h, q))) rfl ?_
    cases hv
    exact m_ev.fin rfl
def t_char (us : List Int32) (p : Int32) : Option Int32 := (if (tat us p) = (34 : Int32) then some (-1) else (if (tat us p) = (92 : Int32) then (if (tat us (p + 1)) = (117 : Int32) then some (((sg_hexv (tat us (p + 4))) * 16) + (sg_hexv (tat us (p + 5)))) else some (sg_meaning (tat us (p + 1)))) else some (tat us p)))
theorem x139 (t : tx h o w us ov) {p : Int32} {v : Int32} (hv : t_char us p = some v) : mE (d + 1) mm139 (0, [some (.ref o), some (.int p), none, none], [], (h, q)) (.returned (some (.int v)), (h, q)) := by
  unfold t_char at hv
  refine mE.sn 2 (g' := (2, [some (.ref o), some (.int p), none, none], [.int p, .ref o], (h, q))) rfl ?_
  refine mE.call rfl rfl rfl rfl (m_rcv_ok t.2.2.1) (x37 t p) ?_
  refine mE.sn 3 (g' := (9, [some (.ref o), some (.int p), some (.int (tat us p)), none], [.int 34, .int (tat us p)], (h, q))) rfl ?_
  refine mE.br (g1 := (12, [some (.ref o), some (.int p), some (.int (tat us p)), none], [], (h, q))) (g2 := (14, [some (.ref o), some (.int p), some (.int (tat us p)), none], [], (h, q))) (c := (tat us p) = (34 : Int32)) rfl (fun hc1 => ?_) (fun hc1 => ?_)
  · rw [if_pos hc1] at hv
    refine mE.sn 1 (g' := (13, [some (.ref o), some (.int p), some (.int (tat us p)), none], [.int (-1)], (h, q))) rfl ?_
    cases hv
    exact m_ev.fin rfl
  · rw [if_neg hc1] at hv
    refine mE.sn 2 (g' := (17, [some (.ref o), some (.int p), some (.int (tat us p)), none], [.int 92, .int (tat us p)], (h, q))) rfl ?_
    refine mE.br (g1 := (22, [some (.ref o), some (.int p), some (.int (tat us p)), none], [], (h, q))) (g2 := (20, [some (.ref o), some (.int p), some (.int (tat us p)), none], [], (h, q))) (c := (tat us p) = (92 : Int32)) rfl (fun hc2 => ?_) (fun hc2 => ?_)
    · rw [if_pos hc2] at hv
      refine mE.sn 4 (g' := (26, [some (.ref o), some (.int p), some (.int (tat us p)), none], [.int (p + 1), .ref o], (h, q))) rfl ?_
      refine mE.call rfl rfl rfl rfl (m_rcv_ok t.2.2.1) (x37 t (p + 1)) ?_
      refine mE.sn 3 (g' := (33, [some (.ref o), some (.int p), some (.int (tat us p)), some (.int (tat us (p + 1)))], [.int 117, .int (tat us (p + 1))], (h, q))) rfl ?_
      refine mE.br (g1 := (36, [some (.ref o), some (.int p), some (.int (tat us p)), some (.int (tat us (p + 1)))], [], (h, q))) (g2 := (61, [some (.ref o), some (.int p), some (.int (tat us p)), some (.int (tat us (p + 1)))], [], (h, q))) (c := (tat us (p + 1)) = (117 : Int32)) rfl (fun hc3 => ?_) (fun hc3 => ?_)
      · rw [if_pos hc3] at hv
        refine mE.sn 4 (g' := (40, [some (.ref o), some (.int p), some (.int (tat us p)), some (.int (tat us (p + 1)))], [.int (p + 4), .ref o], (h, q))) rfl ?_
        refine mE.call rfl rfl rfl rfl (m_rcv_ok t.2.2.1) (x37 t (p + 4)) ?_
        refine mE.call rfl rfl rfl rfl rfl (x48 (tat us (p + 4))) ?_
        refine mE.sn 6 (g' := (53, [some (.ref o), some (.int p), some (.int (tat us p)), some (.int (tat us (p + 1)))], [.int (p + 5), .ref o, .int ((sg_hexv (tat us (p + 4))) * 16)], (h, q))) rfl ?_
        refine mE.call rfl rfl rfl rfl (m_rcv_ok t.2.2.1) (x37 t (p + 5)) ?_
        refine mE.call rfl rfl rfl rfl rfl (x48 (tat us (p + 5))) ?_
        refine mE.sn 1 (g' := (60, [some (.ref o), some (.int p), some (.int (tat us p)), some (.int (tat us (p + 1)))], [.int (((sg_hexv (tat us (p + 4))) * 16) + (sg_hexv (tat us (p + 5))))], (h, q))) rfl ?_
        cases hv
        exact m_ev.fin rfl
      · rw [if_neg hc3] at hv
        refine mE.sn 1 (g' := (62, [some (.ref o), some (.int p), some (.int (tat us p)), some (.int (tat us (p + 1)))], [.int (tat us (p + 1))], (h, q))) rfl ?_
        refine mE.call rfl rfl rfl rfl rfl (x47 (tat us (p + 1))) ?_
        cases hv
        exact m_ev.fin rfl
    · rw [if_neg hc2] at hv
      refine mE.sn 1 (g' := (21, [some (.ref o), some (.int p), some (.int (tat us p)), none], [.int (tat us p)], (h, q))) rfl ?_
      cases hv
      exact m_ev.fin rfl
end Read90
