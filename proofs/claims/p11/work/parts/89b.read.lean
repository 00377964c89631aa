section
/-! PRINTED BY wip/whole/t90.py: how a Text is read. -/
section Read90
variable {d : Nat} {h : mH} {q : Nat × Nat} {o w : Nat} {us : List Int32} {ov : Int32}
/-- the byte at a place, as it is stored -/
def tby (us : List Int32) (i : Int32) : Option Int32 := if i < 0 then none else (us[i.toNatClampNeg]?).map (fun u => u.toInt8.toInt32)
theorem tby_row (t : tx h o w us ov) {i v : Int32} (hv : tby us i = some v) : ∃ row, h[w]? = some (1000, row) ∧ m_ix i row = some (.int v) := by
  obtain ⟨t1, t2, t3, t4, t5, tail, t6, t7⟩ := t
  unfold tby at hv
  by_cases hi : i < 0
  · rw [if_pos hi] at hv; cases hv
  · rw [if_neg hi] at hv
    obtain ⟨u, hu, rfl⟩ := Option.map_eq_some_iff.mp hv
    refine ⟨_, t6, ?_⟩
    have hl := (List.getElem?_eq_some_iff.mp hu).1
    rw [m_ix, if_neg hi, List.getElem?_append_left (by rw [List.length_map]; exact hl), List.getElem?_map, hu]
    rfl
def ns_l (us : List Int32) (c : Int32) : Nat → Int32 → Int32 → Int32 → Option Int32
  | 0, _, _, _ => none
  | n + 1, k, z, i => (if (Int32.ofNat us.length) ≤ i then some (Int32.ofNat us.length) else ((tby us i).bind fun b2 => (if z = 0 then (if b2 = (34 : Int32) then ns_l us c n k 1 (i + 1) else (if b2 = (91 : Int32) then ns_l us c n (k + 1) z (i + 1) else (if b2 = (123 : Int32) then ns_l us c n (k + 1) z (i + 1) else (if k = 0 then (if b2 = (44 : Int32) then some i else (if b2 = (93 : Int32) then some i else (if b2 = (125 : Int32) then some i else (if b2 = (58 : Int32) then (if c = 0 then ns_l us c n k z (i + 1) else some i) else ns_l us c n k z (i + 1))))) else (if b2 = (93 : Int32) then ns_l us c n (k + (-1)) z (i + 1) else (if b2 = (125 : Int32) then ns_l us c n (k + (-1)) z (i + 1) else ns_l us c n k z (i + 1))))))) else (if b2 = (34 : Int32) then (if b2 = (92 : Int32) then ns_l us c n k 0 ((i + 1) + 1) else ns_l us c n k 0 (i + 1)) else (if b2 = (92 : Int32) then ns_l us c n k 1 ((i + 1) + 1) else ns_l us c n k 1 (i + 1))))))
theorem ns_l_ok (t : tx h o w us ov) {c : Int32} : ∀ (n : Nat) (k : Int32) (z : Int32) (i : Int32) (x1 : Option Value) (x6 : Option Value) (v : Int32), ns_l us c n k z i = some v → mE (d + 1) mm56 (12, [some (.ref o), x1, some (.int c), some (.int k), some (.int z), some (.int i), x6], [], (h, q)) (.returned (some (.int v)), (h, q)) := by
  intro n
  induction n with
  | zero => intro k z i x1 x6 v hv; cases hv
  | succ n ih =>
    intro k z i x1 x6 v hv
    unfold ns_l at hv
    refine mE.sn 2 (g' := (15, [some (.ref o), x1, some (.int c), some (.int k), some (.int z), some (.int i), x6], [.ref o, .int i], (h, q))) rfl ?_
    refine mE.get rfl t.2.2.1 rfl ?_
    refine mE.br (g1 := (157, [some (.ref o), x1, some (.int c), some (.int k), some (.int z), some (.int i), x6], [], (h, q))) (g2 := (21, [some (.ref o), x1, some (.int c), some (.int k), some (.int z), some (.int i), x6], [], (h, q))) (c := (Int32.ofNat us.length) ≤ i) rfl (fun hc1 => ?_) (fun hc1 => ?_)
    · rw [if_pos hc1] at hv
      refine mE.sn 1 (g' := (158, [some (.ref o), x1, some (.int c), some (.int k), some (.int z), some (.int i), x6], [.ref o], (h, q))) rfl ?_
      refine mE.get rfl t.2.2.1 rfl ?_
      cases hv
      exact m_ev.fin rfl
    · rw [if_neg hc1] at hv
      refine mE.sn 1 (g' := (22, [some (.ref o), x1, some (.int c), some (.int k), some (.int z), some (.int i), x6], [.ref o], (h, q))) rfl ?_
      refine mE.get rfl t.2.2.1 rfl ?_
      refine mE.sn 1 (g' := (27, [some (.ref o), x1, some (.int c), some (.int k), some (.int z), some (.int i), x6], [.int i, .ref w], (h, q))) rfl ?_
      cases hr2 : tby us i with
      | none => rw [hr2] at hv; cases hv
      | some b2 =>
        rw [hr2] at hv
        simp only [Option.bind_some] at hv
        obtain ⟨row2, hw2, hx2⟩ := tby_row t hr2
        refine mE.bald (v := .int b2) rfl hw2 hx2 ?_
        refine mE.sn 2 (g' := (32, [some (.ref o), x1, some (.int c), some (.int k), some (.int z), some (.int i), some (.int b2)], [.int z], (h, q))) rfl ?_
        refine mE.br (g1 := (62, [some (.ref o), x1, some (.int c), some (.int k), some (.int z), some (.int i), some (.int b2)], [], (h, q))) (g2 := (35, [some (.ref o), x1, some (.int c), some (.int k), some (.int z), some (.int i), some (.int b2)], [], (h, q))) (c := z = 0) rfl (fun hc3 => ?_) (fun hc3 => ?_)
        · rw [if_pos hc3] at hv
          refine mE.sn 2 (g' := (66, [some (.ref o), x1, some (.int c), some (.int k), some (.int z), some (.int i), some (.int b2)], [.int 34, .int b2], (h, q))) rfl ?_
          refine mE.br (g1 := (69, [some (.ref o), x1, some (.int c), some (.int k), some (.int z), some (.int i), some (.int b2)], [], (h, q))) (g2 := (75, [some (.ref o), x1, some (.int c), some (.int k), some (.int z), some (.int i), some (.int b2)], [], (h, q))) (c := b2 = (34 : Int32)) rfl (fun hc4 => ?_) (fun hc4 => ?_)
          · rw [if_pos hc4] at hv
            refine mE.sn 5 (g' := (12, [some (.ref o), x1, some (.int c), some (.int k), some (.int 1), some (.int (i + 1)), some (.int b2)], [], (h, q))) rfl ?_
            exact ih _ _ _ _ _ v hv
          · rw [if_neg hc4] at hv
            refine mE.sn 2 (g' := (79, [some (.ref o), x1, some (.int c), some (.int k), some (.int z), some (.int i), some (.int b2)], [.int 91, .int b2], (h, q))) rfl ?_
            refine mE.br (g1 := (89, [some (.ref o), x1, some (.int c), some (.int k), some (.int z), some (.int i), some (.int b2)], [], (h, q))) (g2 := (82, [some (.ref o), x1, some (.int c), some (.int k), some (.int z), some (.int i), some (.int b2)], [], (h, q))) (c := b2 = (91 : Int32)) rfl (fun hc5 => ?_) (fun hc5 => ?_)
            · rw [if_pos hc5] at hv
              refine mE.sn 4 (g' := (12, [some (.ref o), x1, some (.int c), some (.int (k + 1)), some (.int z), some (.int (i + 1)), some (.int b2)], [], (h, q))) rfl ?_
              exact ih _ _ _ _ _ v hv
            · rw [if_neg hc5] at hv
              refine mE.sn 2 (g' := (86, [some (.ref o), x1, some (.int c), some (.int k), some (.int z), some (.int i), some (.int b2)], [.int 123, .int b2], (h, q))) rfl ?_
              refine mE.br (g1 := (89, [some (.ref o), x1, some (.int c), some (.int k), some (.int z), some (.int i), some (.int b2)], [], (h, q))) (g2 := (95, [some (.ref o), x1, some (.int c), some (.int k), some (.int z), some (.int i), some (.int b2)], [], (h, q))) (c := b2 = (123 : Int32)) rfl (fun hc6 => ?_) (fun hc6 => ?_)
              · rw [if_pos hc6] at hv
                refine mE.sn 4 (g' := (12, [some (.ref o), x1, some (.int c), some (.int (k + 1)), some (.int z), some (.int (i + 1)), some (.int b2)], [], (h, q))) rfl ?_
                exact ih _ _ _ _ _ v hv
              · rw [if_neg hc6] at hv
                refine mE.sn 1 (g' := (96, [some (.ref o), x1, some (.int c), some (.int k), some (.int z), some (.int i), some (.int b2)], [.int k], (h, q))) rfl ?_
                refine mE.br (g1 := (99, [some (.ref o), x1, some (.int c), some (.int k), some (.int z), some (.int i), some (.int b2)], [], (h, q))) (g2 := (134, [some (.ref o), x1, some (.int c), some (.int k), some (.int z), some (.int i), some (.int b2)], [], (h, q))) (c := k = 0) rfl (fun hc7 => ?_) (fun hc7 => ?_)
                · rw [if_pos hc7] at hv
                  refine mE.sn 2 (g' := (103, [some (.ref o), x1, some (.int c), some (.int k), some (.int z), some (.int i), some (.int b2)], [.int 44, .int b2], (h, q))) rfl ?_
                  refine mE.br (g1 := (131, [some (.ref o), x1, some (.int c), some (.int k), some (.int z), some (.int i), some (.int b2)], [], (h, q))) (g2 := (106, [some (.ref o), x1, some (.int c), some (.int k), some (.int z), some (.int i), some (.int b2)], [], (h, q))) (c := b2 = (44 : Int32)) rfl (fun hc8 => ?_) (fun hc8 => ?_)
                  · rw [if_pos hc8] at hv
                    refine mE.sn 1 (g' := (133, [some (.ref o), x1, some (.int c), some (.int k), some (.int z), some (.int i), some (.int b2)], [.int i], (h, q))) rfl ?_
                    cases hv
                    exact m_ev.fin rfl
                  · rw [if_neg hc8] at hv
                    refine mE.sn 2 (g' := (110, [some (.ref o), x1, some (.int c), some (.int k), some (.int z), some (.int i), some (.int b2)], [.int 93, .int b2], (h, q))) rfl ?_
                    refine mE.br (g1 := (131, [some (.ref o), x1, some (.int c), some (.int k), some (.int z), some (.int i), some (.int b2)], [], (h, q))) (g2 := (113, [some (.ref o), x1, some (.int c), some (.int k), some (.int z), some (.int i), some (.int b2)], [], (h, q))) (c := b2 = (93 : Int32)) rfl (fun hc9 => ?_) (fun hc9 => ?_)
                    · rw [if_pos hc9] at hv
                      refine mE.sn 1 (g' := (133, [some (.ref o), x1, some (.int c), some (.int k), some (.int z), some (.int i), some (.int b2)], [.int i], (h, q))) rfl ?_
                      cases hv
                      exact m_ev.fin rfl
                    · rw [if_neg hc9] at hv
                      refine mE.sn 2 (g' := (117, [some (.ref o), x1, some (.int c), some (.int k), some (.int z), some (.int i), some (.int b2)], [.int 125, .int b2], (h, q))) rfl ?_
                      refine mE.br (g1 := (131, [some (.ref o), x1, some (.int c), some (.int k), some (.int z), some (.int i), some (.int b2)], [], (h, q))) (g2 := (120, [some (.ref o), x1, some (.int c), some (.int k), some (.int z), some (.int i), some (.int b2)], [], (h, q))) (c := b2 = (125 : Int32)) rfl (fun hc10 => ?_) (fun hc10 => ?_)
                      · rw [if_pos hc10] at hv
                        refine mE.sn 1 (g' := (133, [some (.ref o), x1, some (.int c), some (.int k), some (.int z), some (.int i), some (.int b2)], [.int i], (h, q))) rfl ?_
                        cases hv
                        exact m_ev.fin rfl
                      · rw [if_neg hc10] at hv
                        refine mE.sn 2 (g' := (124, [some (.ref o), x1, some (.int c), some (.int k), some (.int z), some (.int i), some (.int b2)], [.int 58, .int b2], (h, q))) rfl ?_
                        refine mE.br (g1 := (127, [some (.ref o), x1, some (.int c), some (.int k), some (.int z), some (.int i), some (.int b2)], [], (h, q))) (g2 := (134, [some (.ref o), x1, some (.int c), some (.int k), some (.int z), some (.int i), some (.int b2)], [], (h, q))) (c := b2 = (58 : Int32)) rfl (fun hc11 => ?_) (fun hc11 => ?_)
                        · rw [if_pos hc11] at hv
                          refine mE.sn 1 (g' := (128, [some (.ref o), x1, some (.int c), some (.int k), some (.int z), some (.int i), some (.int b2)], [.int c], (h, q))) rfl ?_
                          refine mE.br (g1 := (134, [some (.ref o), x1, some (.int c), some (.int k), some (.int z), some (.int i), some (.int b2)], [], (h, q))) (g2 := (131, [some (.ref o), x1, some (.int c), some (.int k), some (.int z), some (.int i), some (.int b2)], [], (h, q))) (c := c = 0) rfl (fun hc12 => ?_) (fun hc12 => ?_)
                          · rw [if_pos hc12] at hv
                            refine mE.sn 2 (g' := (138, [some (.ref o), x1, some (.int c), some (.int k), some (.int z), some (.int i), some (.int b2)], [.int 93, .int b2], (h, q))) rfl ?_
                            refine mE.no (g1 := (148, [some (.ref o), x1, some (.int c), some (.int k), some (.int z), some (.int i), some (.int b2)], [], (h, q))) (g2 := (141, [some (.ref o), x1, some (.int c), some (.int k), some (.int z), some (.int i), some (.int b2)], [], (h, q))) (c := b2 = (93 : Int32)) rfl hc9 ?_
                            refine mE.sn 2 (g' := (145, [some (.ref o), x1, some (.int c), some (.int k), some (.int z), some (.int i), some (.int b2)], [.int 125, .int b2], (h, q))) rfl ?_
                            refine mE.no (g1 := (148, [some (.ref o), x1, some (.int c), some (.int k), some (.int z), some (.int i), some (.int b2)], [], (h, q))) (g2 := (151, [some (.ref o), x1, some (.int c), some (.int k), some (.int z), some (.int i), some (.int b2)], [], (h, q))) (c := b2 = (125 : Int32)) rfl hc10 ?_
                            refine mE.sn 2 (g' := (12, [some (.ref o), x1, some (.int c), some (.int k), some (.int z), some (.int (i + 1)), some (.int b2)], [], (h, q))) rfl ?_
                            exact ih _ _ _ _ _ v hv
                          · rw [if_neg hc12] at hv
                            refine mE.sn 1 (g' := (133, [some (.ref o), x1, some (.int c), some (.int k), some (.int z), some (.int i), some (.int b2)], [.int i], (h, q))) rfl ?_
                            cases hv
                            exact m_ev.fin rfl
                        · rw [if_neg hc11] at hv
                          refine mE.sn 2 (g' := (138, [some (.ref o), x1, some (.int c), some (.int k), some (.int z), some (.int i), some (.int b2)], [.int 93, .int b2], (h, q))) rfl ?_
                          refine mE.no (g1 := (148, [some (.ref o), x1, some (.int c), some (.int k), some (.int z), some (.int i), some (.int b2)], [], (h, q))) (g2 := (141, [some (.ref o), x1, some (.int c), some (.int k), some (.int z), some (.int i), some (.int b2)], [], (h, q))) (c := b2 = (93 : Int32)) rfl hc9 ?_
                          refine mE.sn 2 (g' := (145, [some (.ref o), x1, some (.int c), some (.int k), some (.int z), some (.int i), some (.int b2)], [.int 125, .int b2], (h, q))) rfl ?_
                          refine mE.no (g1 := (148, [some (.ref o), x1, some (.int c), some (.int k), some (.int z), some (.int i), some (.int b2)], [], (h, q))) (g2 := (151, [some (.ref o), x1, some (.int c), some (.int k), some (.int z), some (.int i), some (.int b2)], [], (h, q))) (c := b2 = (125 : Int32)) rfl hc10 ?_
                          refine mE.sn 2 (g' := (12, [some (.ref o), x1, some (.int c), some (.int k), some (.int z), some (.int (i + 1)), some (.int b2)], [], (h, q))) rfl ?_
                          exact ih _ _ _ _ _ v hv
                · rw [if_neg hc7] at hv
                  refine mE.sn 2 (g' := (138, [some (.ref o), x1, some (.int c), some (.int k), some (.int z), some (.int i), some (.int b2)], [.int 93, .int b2], (h, q))) rfl ?_
                  refine mE.br (g1 := (148, [some (.ref o), x1, some (.int c), some (.int k), some (.int z), some (.int i), some (.int b2)], [], (h, q))) (g2 := (141, [some (.ref o), x1, some (.int c), some (.int k), some (.int z), some (.int i), some (.int b2)], [], (h, q))) (c := b2 = (93 : Int32)) rfl (fun hc13 => ?_) (fun hc13 => ?_)
                  · rw [if_pos hc13] at hv
                    refine mE.sn 3 (g' := (12, [some (.ref o), x1, some (.int c), some (.int (k + (-1))), some (.int z), some (.int (i + 1)), some (.int b2)], [], (h, q))) rfl ?_
                    exact ih _ _ _ _ _ v hv
                  · rw [if_neg hc13] at hv
                    refine mE.sn 2 (g' := (145, [some (.ref o), x1, some (.int c), some (.int k), some (.int z), some (.int i), some (.int b2)], [.int 125, .int b2], (h, q))) rfl ?_
                    refine mE.br (g1 := (148, [some (.ref o), x1, some (.int c), some (.int k), some (.int z), some (.int i), some (.int b2)], [], (h, q))) (g2 := (151, [some (.ref o), x1, some (.int c), some (.int k), some (.int z), some (.int i), some (.int b2)], [], (h, q))) (c := b2 = (125 : Int32)) rfl (fun hc14 => ?_) (fun hc14 => ?_)
                    · rw [if_pos hc14] at hv
                      refine mE.sn 3 (g' := (12, [some (.ref o), x1, some (.int c), some (.int (k + (-1))), some (.int z), some (.int (i + 1)), some (.int b2)], [], (h, q))) rfl ?_
                      exact ih _ _ _ _ _ v hv
                    · rw [if_neg hc14] at hv
                      refine mE.sn 2 (g' := (12, [some (.ref o), x1, some (.int c), some (.int k), some (.int z), some (.int (i + 1)), some (.int b2)], [], (h, q))) rfl ?_
                      exact ih _ _ _ _ _ v hv
        · rw [if_neg hc3] at hv
          refine mE.sn 2 (g' := (39, [some (.ref o), x1, some (.int c), some (.int k), some (.int z), some (.int i), some (.int b2)], [.int 34, .int b2], (h, q))) rfl ?_
          refine mE.br (g1 := (46, [some (.ref o), x1, some (.int c), some (.int k), some (.int z), some (.int i), some (.int b2)], [], (h, q))) (g2 := (42, [some (.ref o), x1, some (.int c), some (.int k), some (.int z), some (.int i), some (.int b2)], [], (h, q))) (c := b2 = (34 : Int32)) rfl (fun hc15 => ?_) (fun hc15 => ?_)
          · rw [if_pos hc15] at hv
            refine mE.sn 4 (g' := (53, [some (.ref o), x1, some (.int c), some (.int k), some (.int 0), some (.int i), some (.int b2)], [.int 92, .int b2], (h, q))) rfl ?_
            refine mE.br (g1 := (56, [some (.ref o), x1, some (.int c), some (.int k), some (.int 0), some (.int i), some (.int b2)], [], (h, q))) (g2 := (151, [some (.ref o), x1, some (.int c), some (.int k), some (.int 0), some (.int i), some (.int b2)], [], (h, q))) (c := b2 = (92 : Int32)) rfl (fun hc16 => ?_) (fun hc16 => ?_)
            · rw [if_pos hc16] at hv
              refine mE.sn 4 (g' := (12, [some (.ref o), x1, some (.int c), some (.int k), some (.int 0), some (.int ((i + 1) + 1)), some (.int b2)], [], (h, q))) rfl ?_
              exact ih _ _ _ _ _ v hv
            · rw [if_neg hc16] at hv
              refine mE.sn 2 (g' := (12, [some (.ref o), x1, some (.int c), some (.int k), some (.int 0), some (.int (i + 1)), some (.int b2)], [], (h, q))) rfl ?_
              exact ih _ _ _ _ _ v hv
          · rw [if_neg hc15] at hv
            refine mE.sn 5 (g' := (53, [some (.ref o), x1, some (.int c), some (.int k), some (.int 1), some (.int i), some (.int b2)], [.int 92, .int b2], (h, q))) rfl ?_
            refine mE.br (g1 := (56, [some (.ref o), x1, some (.int c), some (.int k), some (.int 1), some (.int i), some (.int b2)], [], (h, q))) (g2 := (151, [some (.ref o), x1, some (.int c), some (.int k), some (.int 1), some (.int i), some (.int b2)], [], (h, q))) (c := b2 = (92 : Int32)) rfl (fun hc17 => ?_) (fun hc17 => ?_)
            · rw [if_pos hc17] at hv
              refine mE.sn 4 (g' := (12, [some (.ref o), x1, some (.int c), some (.int k), some (.int 1), some (.int ((i + 1) + 1)), some (.int b2)], [], (h, q))) rfl ?_
              exact ih _ _ _ _ _ v hv
            · rw [if_neg hc17] at hv
              refine mE.sn 2 (g' := (12, [some (.ref o), x1, some (.int c), some (.int k), some (.int 1), some (.int (i + 1)), some (.int b2)], [], (h, q))) rfl ?_
              exact ih _ _ _ _ _ v hv
def ns (us : List Int32) (c : Int32) (p : Int32) : Option Int32 := ns_l us c 10000 0 0 (imax p 0)
theorem x56 (t : tx h o w us ov) {c : Int32} {p : Int32} {v : Int32} (hv : ns us c p = some v) : mE (d + 1) mm56 (0, [some (.ref o), some (.int p), some (.int c), none, none, none, none], [], (h, q)) (.returned (some (.int v)), (h, q)) := by
  unfold ns at hv
  refine mE.sn 6 (g' := (7, [some (.ref o), some (.int p), some (.int c), some (.int 0), some (.int 0), none, none], [.int 0, .int p], (h, q))) rfl ?_
  refine mE.call rfl rfl rfl rfl rfl (x30 p 0) ?_
  refine mE.sn 1 (g' := (12, [some (.ref o), some (.int p), some (.int c), some (.int 0), some (.int 0), some (.int (imax p 0)), none], [], (h, q))) rfl ?_
  exact ns_l_ok t _ _ _ _ _ _ v hv
def t_kind (us : List Int32) (p : Int32) : Option Int32 := (if (tat us p) = -1 then some 0 else (if (tat us p) = 34 then some 4 else (if (tat us p) = 91 then some 5 else (if (tat us p) = 102 then some 1 else (if (tat us p) = 110 then some 0 else (if (tat us p) = 116 then some 2 else (if (tat us p) = 123 then some 6 else some 3)))))))
theorem x70 (t : tx h o w us ov) {p : Int32} {v : Int32} (hv : t_kind us p = some v) : mE (d + 1) mm70 (0, [some (.ref o), some (.int p)], [], (h, q)) (.returned (some (.int v)), (h, q)) := by
  unfold t_kind at hv
  refine mE.sn 2 (g' := (2, [some (.ref o), some (.int p)], [.int p, .ref o], (h, q))) rfl ?_
  refine mE.call rfl rfl rfl rfl (m_rcv_ok t.2.2.1) (x37 t p) ?_
  by_cases hc1 : (tat us p) = -1
  · rw [if_pos hc1] at hv
    refine mE.sn 1 (g' := (83, [some (.ref o), some (.int p)], [], (h, q))) (by rw [hc1]; rfl) ?_
    refine mE.sn 1 (g' := (84, [some (.ref o), some (.int p)], [.int 0], (h, q))) rfl ?_
    cases hv
    exact m_ev.fin rfl
  rw [if_neg hc1] at hv
  by_cases hc2 : (tat us p) = 34
  · rw [if_pos hc2] at hv
    refine mE.sn 1 (g' := (76, [some (.ref o), some (.int p)], [], (h, q))) (by rw [hc2]; rfl) ?_
    refine mE.sn 1 (g' := (77, [some (.ref o), some (.int p)], [.int 4], (h, q))) rfl ?_
    cases hv
    exact m_ev.fin rfl
  rw [if_neg hc2] at hv
  by_cases hc3 : (tat us p) = 91
  · rw [if_pos hc3] at hv
    refine mE.sn 1 (g' := (78, [some (.ref o), some (.int p)], [], (h, q))) (by rw [hc3]; rfl) ?_
    refine mE.sn 1 (g' := (79, [some (.ref o), some (.int p)], [.int 5], (h, q))) rfl ?_
    cases hv
    exact m_ev.fin rfl
  rw [if_neg hc3] at hv
  by_cases hc4 : (tat us p) = 102
  · rw [if_pos hc4] at hv
    refine mE.sn 1 (g' := (72, [some (.ref o), some (.int p)], [], (h, q))) (by rw [hc4]; rfl) ?_
    refine mE.sn 1 (g' := (73, [some (.ref o), some (.int p)], [.int 1], (h, q))) rfl ?_
    cases hv
    exact m_ev.fin rfl
  rw [if_neg hc4] at hv
  by_cases hc5 : (tat us p) = 110
  · rw [if_pos hc5] at hv
    refine mE.sn 1 (g' := (83, [some (.ref o), some (.int p)], [], (h, q))) (by rw [hc5]; rfl) ?_
    refine mE.sn 1 (g' := (84, [some (.ref o), some (.int p)], [.int 0], (h, q))) rfl ?_
    cases hv
    exact m_ev.fin rfl
  rw [if_neg hc5] at hv
  by_cases hc6 : (tat us p) = 116
  · rw [if_pos hc6] at hv
    refine mE.sn 1 (g' := (74, [some (.ref o), some (.int p)], [], (h, q))) (by rw [hc6]; rfl) ?_
    refine mE.sn 1 (g' := (75, [some (.ref o), some (.int p)], [.int 2], (h, q))) rfl ?_
    cases hv
    exact m_ev.fin rfl
  rw [if_neg hc6] at hv
  by_cases hc7 : (tat us p) = 123
  · rw [if_pos hc7] at hv
    refine mE.sn 1 (g' := (80, [some (.ref o), some (.int p)], [], (h, q))) (by rw [hc7]; rfl) ?_
    refine mE.sn 1 (g' := (82, [some (.ref o), some (.int p)], [.int 6], (h, q))) rfl ?_
    cases hv
    exact m_ev.fin rfl
  rw [if_neg hc7] at hv
  have hd7 : m_lsw 5 80 #[((-1), 78), (34, 71), (91, 73), (102, 67), (110, 78), (116, 69), (123, 75)] (tat us p) = 85 := by
    have n1 : ¬ (-1 : Int) = (tat us p).toInt := fun e => hc1 (Int32.toInt_inj.mp (e.symm.trans rfl))
    have n2 : ¬ (34 : Int) = (tat us p).toInt := fun e => hc2 (Int32.toInt_inj.mp (e.symm.trans rfl))
    have n3 : ¬ (91 : Int) = (tat us p).toInt := fun e => hc3 (Int32.toInt_inj.mp (e.symm.trans rfl))
    have n4 : ¬ (102 : Int) = (tat us p).toInt := fun e => hc4 (Int32.toInt_inj.mp (e.symm.trans rfl))
    have n5 : ¬ (110 : Int) = (tat us p).toInt := fun e => hc5 (Int32.toInt_inj.mp (e.symm.trans rfl))
    have n6 : ¬ (116 : Int) = (tat us p).toInt := fun e => hc6 (Int32.toInt_inj.mp (e.symm.trans rfl))
    have n7 : ¬ (123 : Int) = (tat us p).toInt := fun e => hc7 (Int32.toInt_inj.mp (e.symm.trans rfl))
    simp [m_lsw, Op.lookupswitch.offset_cons, Op.lookupswitch.offset_nil, n1, n2, n3, n4, n5, n6, n7]
  refine mE.sn 1 (g' := (85, [some (.ref o), some (.int p)], [], (h, q))) (by rw [← hd7]; rfl) ?_
  refine mE.sn 1 (g' := (86, [some (.ref o), some (.int p)], [.int 3], (h, q))) rfl ?_
  cases hv
  exact m_ev.fin rfl
def t_itemEnd (us : List Int32) (p : Int32) : Option Int32 := ((ns us 0 p).bind fun r1 => some r1)
theorem x55 (t : tx h o w us ov) {p : Int32} {v : Int32} (hv : t_itemEnd us p = some v) : mE (d + 2) mm55 (0, [some (.ref o), some (.int p)], [], (h, q)) (.returned (some (.int v)), (h, q)) := by
  unfold t_itemEnd at hv
  refine mE.sn 3 (g' := (3, [some (.ref o), some (.int p)], [.int 0, .int p, .ref o], (h, q))) rfl ?_
  cases hr1 : ns us 0 p with
  | none => rw [hr1] at hv; cases hv
  | some r1 =>
    rw [hr1] at hv
    simp only [Option.bind_some] at hv
    refine mE.call rfl rfl rfl rfl (m_rcv_ok t.2.2.1) (x56 t hr1) ?_
    cases hv
    exact m_ev.fin rfl
def t_past (us : List Int32) (p : Int32) : Option Int32 := ((ns us 1 p).bind fun r1 => some r1)
theorem x83 (t : tx h o w us ov) {p : Int32} {v : Int32} (hv : t_past us p = some v) : mE (d + 2) mm83 (0, [some (.ref o), some (.int p)], [], (h, q)) (.returned (some (.int v)), (h, q)) := by
  unfold t_past at hv
  refine mE.sn 3 (g' := (3, [some (.ref o), some (.int p)], [.int 1, .int p, .ref o], (h, q))) rfl ?_
  cases hr1 : ns us 1 p with
  | none => rw [hr1] at hv; cases hv
  | some r1 =>
    rw [hr1] at hv
    simp only [Option.bind_some] at hv
    refine mE.call rfl rfl rfl rfl (m_rcv_ok t.2.2.1) (x56 t hr1) ?_
    cases hv
    exact m_ev.fin rfl
def t_first (us : List Int32) (p : Int32) : Option Int32 := (if (tat us (p + 1)) = (93 : Int32) then some (-1) else (if (tat us (p + 1)) = (125 : Int32) then some (-1) else some (p + 1)))
theorem x74 (t : tx h o w us ov) {p : Int32} {v : Int32} (hv : t_first us p = some v) : mE (d + 1) mm74 (0, [some (.ref o), some (.int p), none], [], (h, q)) (.returned (some (.int v)), (h, q)) := by
  unfold t_first at hv
  refine mE.sn 4 (g' := (4, [some (.ref o), some (.int p), none], [.int (p + 1), .ref o], (h, q))) rfl ?_
  refine mE.call rfl rfl rfl rfl (m_rcv_ok t.2.2.1) (x37 t (p + 1)) ?_
  refine mE.sn 3 (g' := (11, [some (.ref o), some (.int p), some (.int (tat us (p + 1)))], [.int 93, .int (tat us (p + 1))], (h, q))) rfl ?_
  refine mE.br (g1 := (20, [some (.ref o), some (.int p), some (.int (tat us (p + 1)))], [], (h, q))) (g2 := (14, [some (.ref o), some (.int p), some (.int (tat us (p + 1)))], [], (h, q))) (c := (tat us (p + 1)) = (93 : Int32)) rfl (fun hc1 => ?_) (fun hc1 => ?_)
  · rw [if_pos hc1] at hv
    refine mE.sn 2 (g' := (27, [some (.ref o), some (.int p), some (.int (tat us (p + 1)))], [.int (-1)], (h, q))) rfl ?_
    cases hv
    exact m_ev.fin rfl
  · rw [if_neg hc1] at hv
    refine mE.sn 2 (g' := (17, [some (.ref o), some (.int p), some (.int (tat us (p + 1)))], [.int 125, .int (tat us (p + 1))], (h, q))) rfl ?_
    refine mE.br (g1 := (20, [some (.ref o), some (.int p), some (.int (tat us (p + 1)))], [], (h, q))) (g2 := (24, [some (.ref o), some (.int p), some (.int (tat us (p + 1)))], [], (h, q))) (c := (tat us (p + 1)) = (125 : Int32)) rfl (fun hc2 => ?_) (fun hc2 => ?_)
    · rw [if_pos hc2] at hv
      refine mE.sn 2 (g' := (27, [some (.ref o), some (.int p), some (.int (tat us (p + 1)))], [.int (-1)], (h, q))) rfl ?_
      cases hv
      exact m_ev.fin rfl
    · rw [if_neg hc2] at hv
      refine mE.sn 3 (g' := (27, [some (.ref o), some (.int p), some (.int (tat us (p + 1)))], [.int (p + 1)], (h, q))) rfl ?_
      cases hv
      exact m_ev.fin rfl
def t_next (us : List Int32) (p : Int32) : Option Int32 := ((ns us 0 p).bind fun r1 => (if (tat us r1) = (44 : Int32) then some (r1 + 1) else some (-1)))
theorem x81 (t : tx h o w us ov) {p : Int32} {v : Int32} (hv : t_next us p = some v) : mE (d + 2) mm81 (0, [some (.ref o), some (.int p), none], [], (h, q)) (.returned (some (.int v)), (h, q)) := by
  unfold t_next at hv
  refine mE.sn 3 (g' := (3, [some (.ref o), some (.int p), none], [.int 0, .int p, .ref o], (h, q))) rfl ?_
  cases hr1 : ns us 0 p with
  | none => rw [hr1] at hv; cases hv
  | some r1 =>
    rw [hr1] at hv
    simp only [Option.bind_some] at hv
    refine mE.call rfl rfl rfl rfl (m_rcv_ok t.2.2.1) (x56 t hr1) ?_
    refine mE.sn 3 (g' := (9, [some (.ref o), some (.int p), some (.int r1)], [.int r1, .ref o], (h, q))) rfl ?_
    refine mE.call rfl rfl rfl rfl (m_rcv_ok t.2.2.1) (x37 t r1) ?_
    refine mE.sn 1 (g' := (14, [some (.ref o), some (.int p), some (.int r1)], [.int 44, .int (tat us r1)], (h, q))) rfl ?_
    refine mE.br (g1 := (17, [some (.ref o), some (.int p), some (.int r1)], [], (h, q))) (g2 := (23, [some (.ref o), some (.int p), some (.int r1)], [], (h, q))) (c := (tat us r1) = (44 : Int32)) rfl (fun hc2 => ?_) (fun hc2 => ?_)
    · rw [if_pos hc2] at hv
      refine mE.sn 4 (g' := (24, [some (.ref o), some (.int p), some (.int r1)], [.int (r1 + 1)], (h, q))) rfl ?_
      cases hv
      exact m_ev.fin rfl
    · rw [if_neg hc2] at hv
      refine mE.sn 1 (g' := (24, [some (.ref o), some (.int p), some (.int r1)], [.int (-1)], (h, q))) rfl ?_
      cases hv
      exact m_ev.fin rfl
def t_valueOf (us : List Int32) (p : Int32) : Option Int32 := (if p = (-1 : Int32) then some (-1) else ((t_past us p).bind fun r2 => some (r2 + 1)))
theorem x82 (t : tx h o w us ov) {p : Int32} {v : Int32} (hv : t_valueOf us p = some v) : mE (d + 3) mm82 (0, [some (.ref o), some (.int p)], [], (h, q)) (.returned (some (.int v)), (h, q)) := by
  unfold t_valueOf at hv
  refine mE.sn 2 (g' := (2, [some (.ref o), some (.int p)], [.int (-1), .int p], (h, q))) rfl ?_
  refine mE.br (g1 := (5, [some (.ref o), some (.int p)], [], (h, q))) (g2 := (9, [some (.ref o), some (.int p)], [], (h, q))) (c := p = (-1 : Int32)) rfl (fun hc1 => ?_) (fun hc1 => ?_)
  · rw [if_pos hc1] at hv
    refine mE.sn 2 (g' := (16, [some (.ref o), some (.int p)], [.int (-1)], (h, q))) rfl ?_
    cases hv
    exact m_ev.fin rfl
  · rw [if_neg hc1] at hv
    refine mE.sn 2 (g' := (11, [some (.ref o), some (.int p)], [.int p, .ref o], (h, q))) rfl ?_
    cases hr2 : t_past us p with
    | none => rw [hr2] at hv; cases hv
    | some r2 =>
      rw [hr2] at hv
      simp only [Option.bind_some] at hv
      refine mE.call rfl rfl rfl rfl (m_rcv_ok t.2.2.1) (x83 t hr2) ?_
      refine mE.sn 2 (g' := (16, [some (.ref o), some (.int p)], [.int (r2 + 1)], (h, q))) rfl ?_
      cases hv
      exact m_ev.fin rfl
def t_width (us : List Int32) (p : Int32) : Option Int32 := (if (tat us p) = (92 : Int32) then (if (tat us (p + 1)) = (117 : Int32) then some 6 else some 2) else some 1)
theorem x94 (t : tx h o w us ov) {p : Int32} {v : Int32} (hv : t_width us p = some v) : mE (d + 1) mm94 (0, [some (.ref o), some (.int p)], [], (h, q)) (.returned (some (.int v)), (h, q)) := by
  unfold t_width at hv
  refine mE.sn 2 (g' := (2, [some (.ref o), some (.int p)], [.int p, .ref o], (h, q))) rfl ?_
  refine mE.call rfl rfl rfl rfl (m_rcv_ok t.2.2.1) (x37 t p) ?_
  refine mE.sn 1 (g' := (7, [some (.ref o), some (.int p)], [.int 92, .int (tat us p)], (h, q))) rfl ?_
  refine mE.br (g1 := (12, [some (.ref o), some (.int p)], [], (h, q))) (g2 := (10, [some (.ref o), some (.int p)], [], (h, q))) (c := (tat us p) = (92 : Int32)) rfl (fun hc1 => ?_) (fun hc1 => ?_)
  · rw [if_pos hc1] at hv
    refine mE.sn 4 (g' := (16, [some (.ref o), some (.int p)], [.int (p + 1), .ref o], (h, q))) rfl ?_
    refine mE.call rfl rfl rfl rfl (m_rcv_ok t.2.2.1) (x37 t (p + 1)) ?_
    refine mE.sn 1 (g' := (21, [some (.ref o), some (.int p)], [.int 117, .int (tat us (p + 1))], (h, q))) rfl ?_
    refine mE.br (g1 := (24, [some (.ref o), some (.int p)], [], (h, q))) (g2 := (29, [some (.ref o), some (.int p)], [], (h, q))) (c := (tat us (p + 1)) = (117 : Int32)) rfl (fun hc2 => ?_) (fun hc2 => ?_)
    · rw [if_pos hc2] at hv
      refine mE.sn 2 (g' := (30, [some (.ref o), some (.int p)], [.int 6], (h, q))) rfl ?_
      cases hv
      exact m_ev.fin rfl
    · rw [if_neg hc2] at hv
      refine mE.sn 1 (g' := (30, [some (.ref o), some (.int p)], [.int 2], (h, q))) rfl ?_
      cases hv
      exact m_ev.fin rfl
  · rw [if_neg hc1] at hv
    refine mE.sn 1 (g' := (11, [some (.ref o), some (.int p)], [.int 1], (h, q))) rfl ?_
    cases hv
    exact m_ev.fin rfl
def t_char (us : List Int32) (p : Int32) : Option Int32 := (if (tat us p) = (34 : Int32) then some (-1) else (if (tat us p) = (92 : Int32) then (if (tat us (p + 1)) = (117 : Int32) then some (((sg_hexv (tat us (p + 4))) * 16) + (sg_hexv (tat us (p + 5)))) else some (sg_meaning (tat us (p + 1)))) else some (tat us p)))
theorem x139 (t : tx h o w us ov) {p : Int32} {v : Int32} (hv : t_char us p = some v) : mE (d + 1) mm139 (0, [some (.ref o), some (.int p), none, none], [], (h, q)) (.returned (some (.int v)), (h, q)) := by
  unfold t_char at hv
  refine mE.sn 2 (g' := (2, [some (.ref o), some (.int p), none, none], [.int p, .ref o], (h, q))) rfl ?_
  refine mE.call rfl rfl rfl rfl (m_rcv_ok t.2.2.1) (x37 t p) ?_
  refine mE.sn 3 (g' := (9, [some (.ref o), some (.int p), some (.int (tat us p)), none], [.int 34, .int (tat us p)], (h, q))) rfl ?_
  refine mE.br (g1 := (12, [some (.ref o), some (.int p), some (.int (tat us p)), none], [], (h, q))) (g2 := (14, [some (.ref o), some (.int p), some (.int (tat us p)), none], [], (h, q))) (c := (tat us p) = (34 : Int32)) rfl (fun hc1 => ?_) (fun hc1 => ?_)
  · rw [if_pos hc1] at hv
    refine mE.sn 1 (g' := (13, [some (.ref o), some (.int p), some (.int (tat us p)), none], [.int (-1)], (h, q))) rfl ?_
    cases hv
    exact m_ev.fin rfl
  · rw [if_neg hc1] at hv
    refine mE.sn 2 (g' := (17, [some (.ref o), some (.int p), some (.int (tat us p)), none], [.int 92, .int (tat us p)], (h, q))) rfl ?_
    refine mE.br (g1 := (22, [some (.ref o), some (.int p), some (.int (tat us p)), none], [], (h, q))) (g2 := (20, [some (.ref o), some (.int p), some (.int (tat us p)), none], [], (h, q))) (c := (tat us p) = (92 : Int32)) rfl (fun hc2 => ?_) (fun hc2 => ?_)
    · rw [if_pos hc2] at hv
      refine mE.sn 4 (g' := (26, [some (.ref o), some (.int p), some (.int (tat us p)), none], [.int (p + 1), .ref o], (h, q))) rfl ?_
      refine mE.call rfl rfl rfl rfl (m_rcv_ok t.2.2.1) (x37 t (p + 1)) ?_
      refine mE.sn 3 (g' := (33, [some (.ref o), some (.int p), some (.int (tat us p)), some (.int (tat us (p + 1)))], [.int 117, .int (tat us (p + 1))], (h, q))) rfl ?_
      refine mE.br (g1 := (36, [some (.ref o), some (.int p), some (.int (tat us p)), some (.int (tat us (p + 1)))], [], (h, q))) (g2 := (61, [some (.ref o), some (.int p), some (.int (tat us p)), some (.int (tat us (p + 1)))], [], (h, q))) (c := (tat us (p + 1)) = (117 : Int32)) rfl (fun hc3 => ?_) (fun hc3 => ?_)
      · rw [if_pos hc3] at hv
        refine mE.sn 4 (g' := (40, [some (.ref o), some (.int p), some (.int (tat us p)), some (.int (tat us (p + 1)))], [.int (p + 4), .ref o], (h, q))) rfl ?_
        refine mE.call rfl rfl rfl rfl (m_rcv_ok t.2.2.1) (x37 t (p + 4)) ?_
        refine mE.call rfl rfl rfl rfl rfl (x48 (tat us (p + 4))) ?_
        refine mE.sn 6 (g' := (53, [some (.ref o), some (.int p), some (.int (tat us p)), some (.int (tat us (p + 1)))], [.int (p + 5), .ref o, .int ((sg_hexv (tat us (p + 4))) * 16)], (h, q))) rfl ?_
        refine mE.call rfl rfl rfl rfl (m_rcv_ok t.2.2.1) (x37 t (p + 5)) ?_
        refine mE.call rfl rfl rfl rfl rfl (x48 (tat us (p + 5))) ?_
        refine mE.sn 1 (g' := (60, [some (.ref o), some (.int p), some (.int (tat us p)), some (.int (tat us (p + 1)))], [.int (((sg_hexv (tat us (p + 4))) * 16) + (sg_hexv (tat us (p + 5))))], (h, q))) rfl ?_
        cases hv
        exact m_ev.fin rfl
      · rw [if_neg hc3] at hv
        refine mE.sn 1 (g' := (62, [some (.ref o), some (.int p), some (.int (tat us p)), some (.int (tat us (p + 1)))], [.int (tat us (p + 1))], (h, q))) rfl ?_
        refine mE.call rfl rfl rfl rfl rfl (x47 (tat us (p + 1))) ?_
        cases hv
        exact m_ev.fin rfl
    · rw [if_neg hc2] at hv
      refine mE.sn 1 (g' := (21, [some (.ref o), some (.int p), some (.int (tat us p)), none], [.int (tat us p)], (h, q))) rfl ?_
      cases hv
      exact m_ev.fin rfl
end Read90
end

section
/-! PRINTED BY wip/whole/t91.py: how a Text is read, the second part. -/
section Read91
variable {d : Nat} {h : mH} {q : Nat × Nat} {o w o2 w2 a t' : Nat} {us vs bs : List Int32} {ov ov2 : Int32}
/-- a string constant's character -/
def sch (bs : List Int32) (i : Int32) : Option Int32 := if i < 0 then none else bs[i.toNatClampNeg]?
theorem x6o (s : sx h a t' bs) {i v : Int32} (hv : sch bs i = some v) : mE (d + 3) mm6 (0, [some (.ref a), some (.int i)], [], (h, q)) (.returned (some (.int v)), (h, q)) := by
  unfold sch at hv
  by_cases hi : i < 0
  · rw [if_pos hi] at hv; cases hv
  · rw [if_neg hi] at hv
    obtain ⟨hl, e⟩ := List.getElem?_eq_some_iff.mp hv
    have hk : i = Int32.ofNat i.toNatClampNeg := by
      apply Int32.toInt_inj.mp
      have h1 := s.2.2.1
      rw [i_of (by omega), i_nat]
      rw [i_lt] at hi
      have : (0 : Int32).toInt = 0 := rfl
      omega
    rw [← e]
    have := x6 (d := d) (q := q) s i.toNatClampNeg hl
    rw [← hk] at this
    exact this
def t_depth_l (us : List Int32) : Nat → Int32 → Int32 → Int32 → Int32 → Option Int32
  | 0, _, _, _, _ => none
  | n + 1, l1, l2, l3, l4 => (if (Int32.ofNat us.length) ≤ l4 then some l2 else ((tby us l4).bind fun b2 => (if l3 = 0 then (if b2 = (34 : Int32) then t_depth_l us n l1 l2 1 (l4 + 1) else (if b2 = (91 : Int32) then t_depth_l us n (l1 + 1) (imax l2 (l1 + 1)) l3 (l4 + 1) else (if b2 = (123 : Int32) then t_depth_l us n (l1 + 1) (imax l2 (l1 + 1)) l3 (l4 + 1) else (if b2 = (93 : Int32) then t_depth_l us n (l1 + (-1)) l2 l3 (l4 + 1) else (if b2 = (125 : Int32) then t_depth_l us n (l1 + (-1)) l2 l3 (l4 + 1) else t_depth_l us n l1 l2 l3 (l4 + 1)))))) else (if b2 = (34 : Int32) then (if b2 = (92 : Int32) then t_depth_l us n l1 l2 0 ((l4 + 1) + 1) else t_depth_l us n l1 l2 0 (l4 + 1)) else (if b2 = (92 : Int32) then t_depth_l us n l1 l2 1 ((l4 + 1) + 1) else t_depth_l us n l1 l2 1 (l4 + 1))))))
theorem t_depth_l_ok (t : tx h o w us ov) : ∀ (n : Nat) (l1 : Int32) (l2 : Int32) (l3 : Int32) (l4 : Int32) (x5 : Option Value) (v : Int32), t_depth_l us n l1 l2 l3 l4 = some v → mE (d + 1) mm64 (9, [some (.ref o), some (.int l1), some (.int l2), some (.int l3), some (.int l4), x5], [], (h, q)) (.returned (some (.int v)), (h, q)) := by
  intro n
  induction n with
  | zero => intro l1 l2 l3 l4 x5 v hv; cases hv
  | succ n ih =>
    intro l1 l2 l3 l4 x5 v hv
    unfold t_depth_l at hv
    refine mE.sn 2 (g' := (12, [some (.ref o), some (.int l1), some (.int l2), some (.int l3), some (.int l4), x5], [.ref o, .int l4], (h, q))) rfl ?_
    refine mE.get rfl t.2.2.1 rfl ?_
    refine mE.br (g1 := (118, [some (.ref o), some (.int l1), some (.int l2), some (.int l3), some (.int l4), x5], [], (h, q))) (g2 := (18, [some (.ref o), some (.int l1), some (.int l2), some (.int l3), some (.int l4), x5], [], (h, q))) (c := (Int32.ofNat us.length) ≤ l4) rfl (fun hc1 => ?_) (fun hc1 => ?_)
    · rw [if_pos hc1] at hv
      refine mE.sn 1 (g' := (119, [some (.ref o), some (.int l1), some (.int l2), some (.int l3), some (.int l4), x5], [.int l2], (h, q))) rfl ?_
      cases hv
      exact m_ev.fin rfl
    · rw [if_neg hc1] at hv
      refine mE.sn 1 (g' := (19, [some (.ref o), some (.int l1), some (.int l2), some (.int l3), some (.int l4), x5], [.ref o], (h, q))) rfl ?_
      refine mE.get rfl t.2.2.1 rfl ?_
      refine mE.sn 1 (g' := (24, [some (.ref o), some (.int l1), some (.int l2), some (.int l3), some (.int l4), x5], [.int l4, .ref w], (h, q))) rfl ?_
      cases hr2 : tby us l4 with
      | none => rw [hr2] at hv; cases hv
      | some b2 =>
        rw [hr2] at hv
        simp only [Option.bind_some] at hv
        obtain ⟨row2, hw2, hx2⟩ := tby_row t hr2
        refine mE.bald (v := .int b2) rfl hw2 hx2 ?_
        refine mE.sn 2 (g' := (28, [some (.ref o), some (.int l1), some (.int l2), some (.int l3), some (.int l4), some (.int b2)], [.int l3], (h, q))) rfl ?_
        refine mE.br (g1 := (57, [some (.ref o), some (.int l1), some (.int l2), some (.int l3), some (.int l4), some (.int b2)], [], (h, q))) (g2 := (31, [some (.ref o), some (.int l1), some (.int l2), some (.int l3), some (.int l4), some (.int b2)], [], (h, q))) (c := l3 = 0) rfl (fun hc3 => ?_) (fun hc3 => ?_)
        · rw [if_pos hc3] at hv
          refine mE.sn 2 (g' := (61, [some (.ref o), some (.int l1), some (.int l2), some (.int l3), some (.int l4), some (.int b2)], [.int 34, .int b2], (h, q))) rfl ?_
          refine mE.br (g1 := (64, [some (.ref o), some (.int l1), some (.int l2), some (.int l3), some (.int l4), some (.int b2)], [], (h, q))) (g2 := (69, [some (.ref o), some (.int l1), some (.int l2), some (.int l3), some (.int l4), some (.int b2)], [], (h, q))) (c := b2 = (34 : Int32)) rfl (fun hc4 => ?_) (fun hc4 => ?_)
          · rw [if_pos hc4] at hv
            refine mE.sn 5 (g' := (9, [some (.ref o), some (.int l1), some (.int l2), some (.int 1), some (.int (l4 + 1)), some (.int b2)], [], (h, q))) rfl ?_
            exact ih _ _ _ _ _ v hv
          · rw [if_neg hc4] at hv
            refine mE.sn 2 (g' := (73, [some (.ref o), some (.int l1), some (.int l2), some (.int l3), some (.int l4), some (.int b2)], [.int 91, .int b2], (h, q))) rfl ?_
            refine mE.br (g1 := (83, [some (.ref o), some (.int l1), some (.int l2), some (.int l3), some (.int l4), some (.int b2)], [], (h, q))) (g2 := (76, [some (.ref o), some (.int l1), some (.int l2), some (.int l3), some (.int l4), some (.int b2)], [], (h, q))) (c := b2 = (91 : Int32)) rfl (fun hc5 => ?_) (fun hc5 => ?_)
            · rw [if_pos hc5] at hv
              refine mE.sn 3 (g' := (88, [some (.ref o), some (.int (l1 + 1)), some (.int l2), some (.int l3), some (.int l4), some (.int b2)], [.int (l1 + 1), .int l2], (h, q))) rfl ?_
              refine mE.call rfl rfl rfl rfl rfl (x30 l2 (l1 + 1)) ?_
              refine mE.sn 4 (g' := (9, [some (.ref o), some (.int (l1 + 1)), some (.int (imax l2 (l1 + 1))), some (.int l3), some (.int (l4 + 1)), some (.int b2)], [], (h, q))) rfl ?_
              exact ih _ _ _ _ _ v hv
            · rw [if_neg hc5] at hv
              refine mE.sn 2 (g' := (80, [some (.ref o), some (.int l1), some (.int l2), some (.int l3), some (.int l4), some (.int b2)], [.int 123, .int b2], (h, q))) rfl ?_
              refine mE.br (g1 := (83, [some (.ref o), some (.int l1), some (.int l2), some (.int l3), some (.int l4), some (.int b2)], [], (h, q))) (g2 := (95, [some (.ref o), some (.int l1), some (.int l2), some (.int l3), some (.int l4), some (.int b2)], [], (h, q))) (c := b2 = (123 : Int32)) rfl (fun hc6 => ?_) (fun hc6 => ?_)
              · rw [if_pos hc6] at hv
                refine mE.sn 3 (g' := (88, [some (.ref o), some (.int (l1 + 1)), some (.int l2), some (.int l3), some (.int l4), some (.int b2)], [.int (l1 + 1), .int l2], (h, q))) rfl ?_
                refine mE.call rfl rfl rfl rfl rfl (x30 l2 (l1 + 1)) ?_
                refine mE.sn 4 (g' := (9, [some (.ref o), some (.int (l1 + 1)), some (.int (imax l2 (l1 + 1))), some (.int l3), some (.int (l4 + 1)), some (.int b2)], [], (h, q))) rfl ?_
                exact ih _ _ _ _ _ v hv
              · rw [if_neg hc6] at hv
                refine mE.sn 2 (g' := (99, [some (.ref o), some (.int l1), some (.int l2), some (.int l3), some (.int l4), some (.int b2)], [.int 93, .int b2], (h, q))) rfl ?_
                refine mE.br (g1 := (109, [some (.ref o), some (.int l1), some (.int l2), some (.int l3), some (.int l4), some (.int b2)], [], (h, q))) (g2 := (102, [some (.ref o), some (.int l1), some (.int l2), some (.int l3), some (.int l4), some (.int b2)], [], (h, q))) (c := b2 = (93 : Int32)) rfl (fun hc7 => ?_) (fun hc7 => ?_)
                · rw [if_pos hc7] at hv
                  refine mE.sn 3 (g' := (9, [some (.ref o), some (.int (l1 + (-1))), some (.int l2), some (.int l3), some (.int (l4 + 1)), some (.int b2)], [], (h, q))) rfl ?_
                  exact ih _ _ _ _ _ v hv
                · rw [if_neg hc7] at hv
                  refine mE.sn 2 (g' := (106, [some (.ref o), some (.int l1), some (.int l2), some (.int l3), some (.int l4), some (.int b2)], [.int 125, .int b2], (h, q))) rfl ?_
                  refine mE.br (g1 := (109, [some (.ref o), some (.int l1), some (.int l2), some (.int l3), some (.int l4), some (.int b2)], [], (h, q))) (g2 := (112, [some (.ref o), some (.int l1), some (.int l2), some (.int l3), some (.int l4), some (.int b2)], [], (h, q))) (c := b2 = (125 : Int32)) rfl (fun hc8 => ?_) (fun hc8 => ?_)
                  · rw [if_pos hc8] at hv
                    refine mE.sn 3 (g' := (9, [some (.ref o), some (.int (l1 + (-1))), some (.int l2), some (.int l3), some (.int (l4 + 1)), some (.int b2)], [], (h, q))) rfl ?_
                    exact ih _ _ _ _ _ v hv
                  · rw [if_neg hc8] at hv
                    refine mE.sn 2 (g' := (9, [some (.ref o), some (.int l1), some (.int l2), some (.int l3), some (.int (l4 + 1)), some (.int b2)], [], (h, q))) rfl ?_
                    exact ih _ _ _ _ _ v hv
        · rw [if_neg hc3] at hv
          refine mE.sn 2 (g' := (35, [some (.ref o), some (.int l1), some (.int l2), some (.int l3), some (.int l4), some (.int b2)], [.int 34, .int b2], (h, q))) rfl ?_
          refine mE.br (g1 := (42, [some (.ref o), some (.int l1), some (.int l2), some (.int l3), some (.int l4), some (.int b2)], [], (h, q))) (g2 := (38, [some (.ref o), some (.int l1), some (.int l2), some (.int l3), some (.int l4), some (.int b2)], [], (h, q))) (c := b2 = (34 : Int32)) rfl (fun hc9 => ?_) (fun hc9 => ?_)
          · rw [if_pos hc9] at hv
            refine mE.sn 4 (g' := (48, [some (.ref o), some (.int l1), some (.int l2), some (.int 0), some (.int l4), some (.int b2)], [.int 92, .int b2], (h, q))) rfl ?_
            refine mE.br (g1 := (51, [some (.ref o), some (.int l1), some (.int l2), some (.int 0), some (.int l4), some (.int b2)], [], (h, q))) (g2 := (112, [some (.ref o), some (.int l1), some (.int l2), some (.int 0), some (.int l4), some (.int b2)], [], (h, q))) (c := b2 = (92 : Int32)) rfl (fun hc10 => ?_) (fun hc10 => ?_)
            · rw [if_pos hc10] at hv
              refine mE.sn 4 (g' := (9, [some (.ref o), some (.int l1), some (.int l2), some (.int 0), some (.int ((l4 + 1) + 1)), some (.int b2)], [], (h, q))) rfl ?_
              exact ih _ _ _ _ _ v hv
            · rw [if_neg hc10] at hv
              refine mE.sn 2 (g' := (9, [some (.ref o), some (.int l1), some (.int l2), some (.int 0), some (.int (l4 + 1)), some (.int b2)], [], (h, q))) rfl ?_
              exact ih _ _ _ _ _ v hv
          · rw [if_neg hc9] at hv
            refine mE.sn 5 (g' := (48, [some (.ref o), some (.int l1), some (.int l2), some (.int 1), some (.int l4), some (.int b2)], [.int 92, .int b2], (h, q))) rfl ?_
            refine mE.br (g1 := (51, [some (.ref o), some (.int l1), some (.int l2), some (.int 1), some (.int l4), some (.int b2)], [], (h, q))) (g2 := (112, [some (.ref o), some (.int l1), some (.int l2), some (.int 1), some (.int l4), some (.int b2)], [], (h, q))) (c := b2 = (92 : Int32)) rfl (fun hc11 => ?_) (fun hc11 => ?_)
            · rw [if_pos hc11] at hv
              refine mE.sn 4 (g' := (9, [some (.ref o), some (.int l1), some (.int l2), some (.int 1), some (.int ((l4 + 1) + 1)), some (.int b2)], [], (h, q))) rfl ?_
              exact ih _ _ _ _ _ v hv
            · rw [if_neg hc11] at hv
              refine mE.sn 2 (g' := (9, [some (.ref o), some (.int l1), some (.int l2), some (.int 1), some (.int (l4 + 1)), some (.int b2)], [], (h, q))) rfl ?_
              exact ih _ _ _ _ _ v hv
def t_depth (us : List Int32)  : Option Int32 := t_depth_l us 10000 0 0 0 0
theorem x64 (t : tx h o w us ov)  {v : Int32} (hv : t_depth us  = some v) : mE (d + 1) mm64 (0, [some (.ref o), none, none, none, none, none], [], (h, q)) (.returned (some (.int v)), (h, q)) := by
  unfold t_depth at hv
  refine mE.sn 8 (g' := (9, [some (.ref o), some (.int 0), some (.int 0), some (.int 0), some (.int 0), none], [], (h, q))) rfl ?_
  exact t_depth_l_ok t _ _ _ _ _ _ v hv
def t_number_l (us : List Int32) : Nat → Int32 → Int32 → Int64 → Int32 → Option Int64
  | 0, _, _, _, _ => none
  | n + 1, l1, l2, l3, l5 => (if (Int32.ofNat us.length) ≤ l5 then (if l2 = 0 then some l3 else some (-l3)) else (if (sg_digit (tat us l5)) = 0 then (if l2 = 0 then some l3 else some (-l3)) else t_number_l us n l1 l2 ((l3 * 10) + (((tat us l5) - 48).toInt64)) (l5 + 1)))
theorem t_number_l_ok (t : tx h o w us ov) : ∀ (n : Nat) (l1 : Int32) (l2 : Int32) (l3 : Int64) (l5 : Int32) (x4 : Option Value) (v : Int64), t_number_l us n l1 l2 l3 l5 = some v → mE (d + 1) mm84 (31, [some (.ref o), some (.int l1), some (.int l2), some (.long l3), x4, some (.int l5)], [], (h, q)) (.returned (some (.long v)), (h, q)) := by
  intro n
  induction n with
  | zero => intro l1 l2 l3 l5 x4 v hv; cases hv
  | succ n ih =>
    intro l1 l2 l3 l5 x4 v hv
    unfold t_number_l at hv
    refine mE.sn 2 (g' := (34, [some (.ref o), some (.int l1), some (.int l2), some (.long l3), x4, some (.int l5)], [.ref o, .int l5], (h, q))) rfl ?_
    refine mE.get rfl t.2.2.1 rfl ?_
    refine mE.br (g1 := (75, [some (.ref o), some (.int l1), some (.int l2), some (.long l3), x4, some (.int l5)], [], (h, q))) (g2 := (40, [some (.ref o), some (.int l1), some (.int l2), some (.long l3), x4, some (.int l5)], [], (h, q))) (c := (Int32.ofNat us.length) ≤ l5) rfl (fun hc1 => ?_) (fun hc1 => ?_)
    · rw [if_pos hc1] at hv
      refine mE.sn 1 (g' := (76, [some (.ref o), some (.int l1), some (.int l2), some (.long l3), x4, some (.int l5)], [.int l2], (h, q))) rfl ?_
      refine mE.br (g1 := (84, [some (.ref o), some (.int l1), some (.int l2), some (.long l3), x4, some (.int l5)], [], (h, q))) (g2 := (79, [some (.ref o), some (.int l1), some (.int l2), some (.long l3), x4, some (.int l5)], [], (h, q))) (c := l2 = 0) rfl (fun hc2 => ?_) (fun hc2 => ?_)
      · rw [if_pos hc2] at hv
        refine mE.sn 1 (g' := (85, [some (.ref o), some (.int l1), some (.int l2), some (.long l3), x4, some (.int l5)], [.long l3], (h, q))) rfl ?_
        cases hv
        exact m_ev.fin rfl
      · rw [if_neg hc2] at hv
        refine mE.sn 3 (g' := (85, [some (.ref o), some (.int l1), some (.int l2), some (.long l3), x4, some (.int l5)], [.long (-l3)], (h, q))) rfl ?_
        cases hv
        exact m_ev.fin rfl
    · rw [if_neg hc1] at hv
      refine mE.sn 2 (g' := (43, [some (.ref o), some (.int l1), some (.int l2), some (.long l3), x4, some (.int l5)], [.int l5, .ref o], (h, q))) rfl ?_
      refine mE.call rfl rfl rfl rfl (m_rcv_ok t.2.2.1) (x37 t l5) ?_
      refine mE.call rfl rfl rfl rfl rfl (x59 (tat us l5)) ?_
      refine mE.br (g1 := (75, [some (.ref o), some (.int l1), some (.int l2), some (.long l3), x4, some (.int l5)], [], (h, q))) (g2 := (52, [some (.ref o), some (.int l1), some (.int l2), some (.long l3), x4, some (.int l5)], [], (h, q))) (c := (sg_digit (tat us l5)) = 0) rfl (fun hc3 => ?_) (fun hc3 => ?_)
      · rw [if_pos hc3] at hv
        refine mE.sn 1 (g' := (76, [some (.ref o), some (.int l1), some (.int l2), some (.long l3), x4, some (.int l5)], [.int l2], (h, q))) rfl ?_
        refine mE.br (g1 := (84, [some (.ref o), some (.int l1), some (.int l2), some (.long l3), x4, some (.int l5)], [], (h, q))) (g2 := (79, [some (.ref o), some (.int l1), some (.int l2), some (.long l3), x4, some (.int l5)], [], (h, q))) (c := l2 = 0) rfl (fun hc4 => ?_) (fun hc4 => ?_)
        · rw [if_pos hc4] at hv
          refine mE.sn 1 (g' := (85, [some (.ref o), some (.int l1), some (.int l2), some (.long l3), x4, some (.int l5)], [.long l3], (h, q))) rfl ?_
          cases hv
          exact m_ev.fin rfl
        · rw [if_neg hc4] at hv
          refine mE.sn 3 (g' := (85, [some (.ref o), some (.int l1), some (.int l2), some (.long l3), x4, some (.int l5)], [.long (-l3)], (h, q))) rfl ?_
          cases hv
          exact m_ev.fin rfl
      · rw [if_neg hc3] at hv
        refine mE.sn 5 (g' := (60, [some (.ref o), some (.int l1), some (.int l2), some (.long l3), x4, some (.int l5)], [.int l5, .ref o, .long (l3 * 10)], (h, q))) rfl ?_
        refine mE.call rfl rfl rfl rfl (m_rcv_ok t.2.2.1) (x37 t l5) ?_
        refine mE.sn 7 (g' := (31, [some (.ref o), some (.int l1), some (.int l2), some (.long ((l3 * 10) + (((tat us l5) - 48).toInt64))), none, some (.int (l5 + 1))], [], (h, q))) rfl ?_
        exact ih _ _ _ _ _ v hv
def t_number (us : List Int32) (p : Int32) : Option Int64 := (if (tat us p) = (45 : Int32) then t_number_l us 10000 p 1 0 (p + 1) else t_number_l us 10000 p 0 0 p)
theorem x84 (t : tx h o w us ov) {p : Int32} {v : Int64} (hv : t_number us p = some v) : mE (d + 1) mm84 (0, [some (.ref o), some (.int p), none, none, none, none], [], (h, q)) (.returned (some (.long v)), (h, q)) := by
  unfold t_number at hv
  refine mE.sn 2 (g' := (2, [some (.ref o), some (.int p), none, none, none, none], [.int p, .ref o], (h, q))) rfl ?_
  refine mE.call rfl rfl rfl rfl (m_rcv_ok t.2.2.1) (x37 t p) ?_
  refine mE.sn 1 (g' := (7, [some (.ref o), some (.int p), none, none, none, none], [.int 45, .int (tat us p)], (h, q))) rfl ?_
  refine mE.br (g1 := (10, [some (.ref o), some (.int p), none, none, none, none], [], (h, q))) (g2 := (14, [some (.ref o), some (.int p), none, none, none, none], [], (h, q))) (c := (tat us p) = (45 : Int32)) rfl (fun hc5 => ?_) (fun hc5 => ?_)
  · rw [if_pos hc5] at hv
    refine mE.sn 6 (g' := (19, [some (.ref o), some (.int p), some (.int 1), some (.long 0), none, none], [.int 1], (h, q))) rfl ?_
    refine mE.no (g1 := (28, [some (.ref o), some (.int p), some (.int 1), some (.long 0), none, none], [], (h, q))) (g2 := (22, [some (.ref o), some (.int p), some (.int 1), some (.long 0), none, none], [], (h, q))) (c := (1 : Int32) = 0) rfl (by decide) ?_
    refine mE.sn 5 (g' := (31, [some (.ref o), some (.int p), some (.int 1), some (.long 0), none, some (.int (p + 1))], [], (h, q))) rfl ?_
    exact t_number_l_ok t _ _ _ _ _ _ v hv
  · rw [if_neg hc5] at hv
    refine mE.sn 5 (g' := (19, [some (.ref o), some (.int p), some (.int 0), some (.long 0), none, none], [.int 0], (h, q))) rfl ?_
    refine mE.yes (g1 := (28, [some (.ref o), some (.int p), some (.int 0), some (.long 0), none, none], [], (h, q))) (g2 := (22, [some (.ref o), some (.int p), some (.int 0), some (.long 0), none, none], [], (h, q))) (c := (0 : Int32) = 0) rfl (by decide) ?_
    refine mE.sn 2 (g' := (31, [some (.ref o), some (.int p), some (.int 0), some (.long 0), none, some (.int p)], [], (h, q))) rfl ?_
    exact t_number_l_ok t _ _ _ _ _ _ v hv
def t_chars_l (us : List Int32) : Nat → Int32 → Int32 → Int32 → Option Int32
  | 0, _, _, _ => none
  | n + 1, l1, l2, l3 => (if (Int32.ofNat us.length) ≤ l3 then some l2 else (if (tat us l3) = (34 : Int32) then some l2 else ((t_width us l3).bind fun r3 => t_chars_l us n l1 (l2 + 1) (l3 + r3))))
theorem t_chars_l_ok (t : tx h o w us ov) : ∀ (n : Nat) (l1 : Int32) (l2 : Int32) (l3 : Int32) (v : Int32), t_chars_l us n l1 l2 l3 = some v → mE (d + 2) mm93 (6, [some (.ref o), some (.int l1), some (.int l2), some (.int l3)], [], (h, q)) (.returned (some (.int v)), (h, q)) := by
  intro n
  induction n with
  | zero => intro l1 l2 l3 v hv; cases hv
  | succ n ih =>
    intro l1 l2 l3 v hv
    unfold t_chars_l at hv
    refine mE.sn 2 (g' := (8, [some (.ref o), some (.int l1), some (.int l2), some (.int l3)], [.ref o, .int l3], (h, q))) rfl ?_
    refine mE.get rfl t.2.2.1 rfl ?_
    refine mE.br (g1 := (38, [some (.ref o), some (.int l1), some (.int l2), some (.int l3)], [], (h, q))) (g2 := (14, [some (.ref o), some (.int l1), some (.int l2), some (.int l3)], [], (h, q))) (c := (Int32.ofNat us.length) ≤ l3) rfl (fun hc1 => ?_) (fun hc1 => ?_)
    · rw [if_pos hc1] at hv
      refine mE.sn 1 (g' := (39, [some (.ref o), some (.int l1), some (.int l2), some (.int l3)], [.int l2], (h, q))) rfl ?_
      cases hv
      exact m_ev.fin rfl
    · rw [if_neg hc1] at hv
      refine mE.sn 2 (g' := (16, [some (.ref o), some (.int l1), some (.int l2), some (.int l3)], [.int l3, .ref o], (h, q))) rfl ?_
      refine mE.call rfl rfl rfl rfl (m_rcv_ok t.2.2.1) (x37 t l3) ?_
      refine mE.sn 1 (g' := (21, [some (.ref o), some (.int l1), some (.int l2), some (.int l3)], [.int 34, .int (tat us l3)], (h, q))) rfl ?_
      refine mE.br (g1 := (38, [some (.ref o), some (.int l1), some (.int l2), some (.int l3)], [], (h, q))) (g2 := (24, [some (.ref o), some (.int l1), some (.int l2), some (.int l3)], [], (h, q))) (c := (tat us l3) = (34 : Int32)) rfl (fun hc2 => ?_) (fun hc2 => ?_)
      · rw [if_pos hc2] at hv
        refine mE.sn 1 (g' := (39, [some (.ref o), some (.int l1), some (.int l2), some (.int l3)], [.int l2], (h, q))) rfl ?_
        cases hv
        exact m_ev.fin rfl
      · rw [if_neg hc2] at hv
        refine mE.sn 4 (g' := (30, [some (.ref o), some (.int l1), some (.int (l2 + 1)), some (.int l3)], [.int l3, .ref o, .int l3], (h, q))) rfl ?_
        cases hr3 : t_width us l3 with
        | none => rw [hr3] at hv; cases hv
        | some r3 =>
          rw [hr3] at hv
          simp only [Option.bind_some] at hv
          refine mE.call rfl rfl rfl rfl (m_rcv_ok t.2.2.1) (x94 t hr3) ?_
          refine mE.sn 3 (g' := (6, [some (.ref o), some (.int l1), some (.int (l2 + 1)), some (.int (l3 + r3))], [], (h, q))) rfl ?_
          exact ih _ _ _ v hv
def t_chars (us : List Int32) (p : Int32) : Option Int32 := t_chars_l us 10000 p 0 (p + 1)
theorem x93 (t : tx h o w us ov) {p : Int32} {v : Int32} (hv : t_chars us p = some v) : mE (d + 2) mm93 (0, [some (.ref o), some (.int p), none, none], [], (h, q)) (.returned (some (.int v)), (h, q)) := by
  unfold t_chars at hv
  refine mE.sn 6 (g' := (6, [some (.ref o), some (.int p), some (.int 0), some (.int (p + 1))], [], (h, q))) rfl ?_
  exact t_chars_l_ok t _ _ _ _ v hv
def t_charPlace_l (us : List Int32) : Nat → Int32 → Int32 → Int32 → Int32 → Option Int32
  | 0, _, _, _, _ => none
  | n + 1, l1, l2, l3, l4 => (if l2 ≤ l4 then some l3 else ((t_width us l3).bind fun r2 => t_charPlace_l us n l1 l2 (l3 + r2) (l4 + 1)))
theorem t_charPlace_l_ok (t : tx h o w us ov) : ∀ (n : Nat) (l1 : Int32) (l2 : Int32) (l3 : Int32) (l4 : Int32) (v : Int32), t_charPlace_l us n l1 l2 l3 l4 = some v → mE (d + 2) mm100 (7, [some (.ref o), some (.int l1), some (.int l2), some (.int l3), some (.int l4)], [], (h, q)) (.returned (some (.int v)), (h, q)) := by
  intro n
  induction n with
  | zero => intro l1 l2 l3 l4 v hv; cases hv
  | succ n ih =>
    intro l1 l2 l3 l4 v hv
    unfold t_charPlace_l at hv
    refine mE.sn 2 (g' := (10, [some (.ref o), some (.int l1), some (.int l2), some (.int l3), some (.int l4)], [.int l2, .int l4], (h, q))) rfl ?_
    refine mE.br (g1 := (27, [some (.ref o), some (.int l1), some (.int l2), some (.int l3), some (.int l4)], [], (h, q))) (g2 := (13, [some (.ref o), some (.int l1), some (.int l2), some (.int l3), some (.int l4)], [], (h, q))) (c := l2 ≤ l4) rfl (fun hc1 => ?_) (fun hc1 => ?_)
    · rw [if_pos hc1] at hv
      refine mE.sn 1 (g' := (28, [some (.ref o), some (.int l1), some (.int l2), some (.int l3), some (.int l4)], [.int l3], (h, q))) rfl ?_
      cases hv
      exact m_ev.fin rfl
    · rw [if_neg hc1] at hv
      refine mE.sn 3 (g' := (16, [some (.ref o), some (.int l1), some (.int l2), some (.int l3), some (.int l4)], [.int l3, .ref o, .int l3], (h, q))) rfl ?_
      cases hr2 : t_width us l3 with
      | none => rw [hr2] at hv; cases hv
      | some r2 =>
        rw [hr2] at hv
        simp only [Option.bind_some] at hv
        refine mE.call rfl rfl rfl rfl (m_rcv_ok t.2.2.1) (x94 t hr2) ?_
        refine mE.sn 4 (g' := (7, [some (.ref o), some (.int l1), some (.int l2), some (.int (l3 + r2)), some (.int (l4 + 1))], [], (h, q))) rfl ?_
        exact ih _ _ _ _ v hv
def t_charPlace (us : List Int32) (p : Int32) (k : Int32) : Option Int32 := t_charPlace_l us 10000 p k (p + 1) 0
theorem x100 (t : tx h o w us ov) {p : Int32} {k : Int32} {v : Int32} (hv : t_charPlace us p k = some v) : mE (d + 2) mm100 (0, [some (.ref o), some (.int p), some (.int k), none, none], [], (h, q)) (.returned (some (.int v)), (h, q)) := by
  unfold t_charPlace at hv
  refine mE.sn 6 (g' := (7, [some (.ref o), some (.int p), some (.int k), some (.int (p + 1)), some (.int 0)], [], (h, q))) rfl ?_
  exact t_charPlace_l_ok t _ _ _ _ _ v hv
def t_items_l (us : List Int32) : Nat → Int32 → Int32 → Int32 → Option Int32
  | 0, _, _, _ => none
  | n + 1, l1, l2, l3 => (if l3 = (-1 : Int32) then some l2 else (if (Int32.ofNat us.length) ≤ l2 then some l2 else ((t_next us l3).bind fun r3 => t_items_l us n l1 (l2 + 1) r3)))
theorem t_items_l_ok (t : tx h o w us ov) : ∀ (n : Nat) (l1 : Int32) (l2 : Int32) (l3 : Int32) (v : Int32), t_items_l us n l1 l2 l3 = some v → mE (d + 3) mm86 (8, [some (.ref o), some (.int l1), some (.int l2), some (.int l3)], [], (h, q)) (.returned (some (.int v)), (h, q)) := by
  intro n
  induction n with
  | zero => intro l1 l2 l3 v hv; cases hv
  | succ n ih =>
    intro l1 l2 l3 v hv
    unfold t_items_l at hv
    refine mE.sn 2 (g' := (10, [some (.ref o), some (.int l1), some (.int l2), some (.int l3)], [.int (-1), .int l3], (h, q))) rfl ?_
    refine mE.br (g1 := (33, [some (.ref o), some (.int l1), some (.int l2), some (.int l3)], [], (h, q))) (g2 := (13, [some (.ref o), some (.int l1), some (.int l2), some (.int l3)], [], (h, q))) (c := l3 = (-1 : Int32)) rfl (fun hc1 => ?_) (fun hc1 => ?_)
    · rw [if_pos hc1] at hv
      refine mE.sn 1 (g' := (34, [some (.ref o), some (.int l1), some (.int l2), some (.int l3)], [.int l2], (h, q))) rfl ?_
      cases hv
      exact m_ev.fin rfl
    · rw [if_neg hc1] at hv
      refine mE.sn 2 (g' := (15, [some (.ref o), some (.int l1), some (.int l2), some (.int l3)], [.ref o, .int l2], (h, q))) rfl ?_
      refine mE.get rfl t.2.2.1 rfl ?_
      refine mE.br (g1 := (33, [some (.ref o), some (.int l1), some (.int l2), some (.int l3)], [], (h, q))) (g2 := (21, [some (.ref o), some (.int l1), some (.int l2), some (.int l3)], [], (h, q))) (c := (Int32.ofNat us.length) ≤ l2) rfl (fun hc2 => ?_) (fun hc2 => ?_)
      · rw [if_pos hc2] at hv
        refine mE.sn 1 (g' := (34, [some (.ref o), some (.int l1), some (.int l2), some (.int l3)], [.int l2], (h, q))) rfl ?_
        cases hv
        exact m_ev.fin rfl
      · rw [if_neg hc2] at hv
        refine mE.sn 3 (g' := (26, [some (.ref o), some (.int l1), some (.int (l2 + 1)), some (.int l3)], [.int l3, .ref o], (h, q))) rfl ?_
        cases hr3 : t_next us l3 with
        | none => rw [hr3] at hv; cases hv
        | some r3 =>
          rw [hr3] at hv
          simp only [Option.bind_some] at hv
          refine mE.call rfl rfl rfl rfl (m_rcv_ok t.2.2.1) (x81 t hr3) ?_
          refine mE.sn 2 (g' := (8, [some (.ref o), some (.int l1), some (.int (l2 + 1)), some (.int r3)], [], (h, q))) rfl ?_
          exact ih _ _ _ v hv
def t_items (us : List Int32) (p : Int32) : Option Int32 := ((t_first us p).bind fun r4 => t_items_l us 10000 p 0 r4)
theorem x86 (t : tx h o w us ov) {p : Int32} {v : Int32} (hv : t_items us p = some v) : mE (d + 3) mm86 (0, [some (.ref o), some (.int p), none, none], [], (h, q)) (.returned (some (.int v)), (h, q)) := by
  unfold t_items at hv
  refine mE.sn 4 (g' := (4, [some (.ref o), some (.int p), some (.int 0), none], [.int p, .ref o], (h, q))) rfl ?_
  cases hr4 : t_first us p with
  | none => rw [hr4] at hv; cases hv
  | some r4 =>
    rw [hr4] at hv
    simp only [Option.bind_some] at hv
    refine mE.call rfl rfl rfl rfl (m_rcv_ok t.2.2.1) (x74 t hr4) ?_
    refine mE.sn 1 (g' := (8, [some (.ref o), some (.int p), some (.int 0), some (.int r4)], [], (h, q))) rfl ?_
    exact t_items_l_ok t _ _ _ _ v hv
def t_item_l (us : List Int32) : Nat → Int32 → Int32 → Int32 → Int32 → Option Int32
  | 0, _, _, _, _ => none
  | n + 1, l1, l2, l3, l4 => (if l2 ≤ l4 then some l3 else (if l3 = (-1 : Int32) then some l3 else ((t_next us l3).bind fun r3 => t_item_l us n l1 l2 r3 (l4 + 1))))
theorem t_item_l_ok (t : tx h o w us ov) : ∀ (n : Nat) (l1 : Int32) (l2 : Int32) (l3 : Int32) (l4 : Int32) (v : Int32), t_item_l us n l1 l2 l3 l4 = some v → mE (d + 3) mm88 (9, [some (.ref o), some (.int l1), some (.int l2), some (.int l3), some (.int l4)], [], (h, q)) (.returned (some (.int v)), (h, q)) := by
  intro n
  induction n with
  | zero => intro l1 l2 l3 l4 v hv; cases hv
  | succ n ih =>
    intro l1 l2 l3 l4 v hv
    unfold t_item_l at hv
    refine mE.sn 2 (g' := (12, [some (.ref o), some (.int l1), some (.int l2), some (.int l3), some (.int l4)], [.int l2, .int l4], (h, q))) rfl ?_
    refine mE.br (g1 := (32, [some (.ref o), some (.int l1), some (.int l2), some (.int l3), some (.int l4)], [], (h, q))) (g2 := (15, [some (.ref o), some (.int l1), some (.int l2), some (.int l3), some (.int l4)], [], (h, q))) (c := l2 ≤ l4) rfl (fun hc1 => ?_) (fun hc1 => ?_)
    · rw [if_pos hc1] at hv
      refine mE.sn 1 (g' := (33, [some (.ref o), some (.int l1), some (.int l2), some (.int l3), some (.int l4)], [.int l3], (h, q))) rfl ?_
      cases hv
      exact m_ev.fin rfl
    · rw [if_neg hc1] at hv
      refine mE.sn 2 (g' := (17, [some (.ref o), some (.int l1), some (.int l2), some (.int l3), some (.int l4)], [.int (-1), .int l3], (h, q))) rfl ?_
      refine mE.br (g1 := (32, [some (.ref o), some (.int l1), some (.int l2), some (.int l3), some (.int l4)], [], (h, q))) (g2 := (20, [some (.ref o), some (.int l1), some (.int l2), some (.int l3), some (.int l4)], [], (h, q))) (c := l3 = (-1 : Int32)) rfl (fun hc2 => ?_) (fun hc2 => ?_)
      · rw [if_pos hc2] at hv
        refine mE.sn 1 (g' := (33, [some (.ref o), some (.int l1), some (.int l2), some (.int l3), some (.int l4)], [.int l3], (h, q))) rfl ?_
        cases hv
        exact m_ev.fin rfl
      · rw [if_neg hc2] at hv
        refine mE.sn 2 (g' := (22, [some (.ref o), some (.int l1), some (.int l2), some (.int l3), some (.int l4)], [.int l3, .ref o], (h, q))) rfl ?_
        cases hr3 : t_next us l3 with
        | none => rw [hr3] at hv; cases hv
        | some r3 =>
          rw [hr3] at hv
          simp only [Option.bind_some] at hv
          refine mE.call rfl rfl rfl rfl (m_rcv_ok t.2.2.1) (x81 t hr3) ?_
          refine mE.sn 3 (g' := (9, [some (.ref o), some (.int l1), some (.int l2), some (.int r3), some (.int (l4 + 1))], [], (h, q))) rfl ?_
          exact ih _ _ _ _ v hv
def t_item (us : List Int32) (p : Int32) (k : Int32) : Option Int32 := ((t_first us p).bind fun r4 => t_item_l us 10000 p k r4 0)
theorem x88 (t : tx h o w us ov) {p : Int32} {k : Int32} {v : Int32} (hv : t_item us p k = some v) : mE (d + 3) mm88 (0, [some (.ref o), some (.int p), some (.int k), none, none], [], (h, q)) (.returned (some (.int v)), (h, q)) := by
  unfold t_item at hv
  refine mE.sn 2 (g' := (2, [some (.ref o), some (.int p), some (.int k), none, none], [.int p, .ref o], (h, q))) rfl ?_
  cases hr4 : t_first us p with
  | none => rw [hr4] at hv; cases hv
  | some r4 =>
    rw [hr4] at hv
    simp only [Option.bind_some] at hv
    refine mE.call rfl rfl rfl rfl (m_rcv_ok t.2.2.1) (x74 t hr4) ?_
    refine mE.sn 3 (g' := (9, [some (.ref o), some (.int p), some (.int k), some (.int r4), some (.int 0)], [], (h, q))) rfl ?_
    exact t_item_l_ok t _ _ _ _ _ v hv
def t_same_l (us : List Int32) (vs : List Int32) : Nat → Int32 → Int32 → Int32 → Int32 → Option Int32
  | 0, _, _, _, _ => none
  | n + 1, l1, l3, l4, l5 => (if (4096 : Int32) ≤ l5 then some 0 else (if (tat us (l1 + l5)) = (tat vs (l3 + l5)) then (if (tat us (l1 + l5)) = (34 : Int32) then (if l4 = 0 then some 1 else (if (tat us (l1 + l5)) = (92 : Int32) then t_same_l us vs n l1 l3 0 (l5 + 1) else t_same_l us vs n l1 l3 0 (l5 + 1))) else (if (tat us (l1 + l5)) = (92 : Int32) then (if l4 = 0 then t_same_l us vs n l1 l3 1 (l5 + 1) else t_same_l us vs n l1 l3 0 (l5 + 1)) else t_same_l us vs n l1 l3 0 (l5 + 1))) else some 0))
theorem t_same_l_ok (t : tx h o w us ov) (t2 : tx h o2 w2 vs ov2) : ∀ (n : Nat) (l1 : Int32) (l3 : Int32) (l4 : Int32) (l5 : Int32) (x6 : Option Value) (v : Int32), t_same_l us vs n l1 l3 l4 l5 = some v → mE (d + 1) mm54 (6, [some (.ref o), some (.int l1), some (.ref o2), some (.int l3), some (.int l4), some (.int l5), x6], [], (h, q)) (.returned (some (.int v)), (h, q)) := by
  intro n
  induction n with
  | zero => intro l1 l3 l4 l5 x6 v hv; cases hv
  | succ n ih =>
    intro l1 l3 l4 l5 x6 v hv
    unfold t_same_l at hv
    refine mE.sn 2 (g' := (11, [some (.ref o), some (.int l1), some (.ref o2), some (.int l3), some (.int l4), some (.int l5), x6], [.int 4096, .int l5], (h, q))) rfl ?_
    refine mE.br (g1 := (78, [some (.ref o), some (.int l1), some (.ref o2), some (.int l3), some (.int l4), some (.int l5), x6], [], (h, q))) (g2 := (14, [some (.ref o), some (.int l1), some (.ref o2), some (.int l3), some (.int l4), some (.int l5), x6], [], (h, q))) (c := (4096 : Int32) ≤ l5) rfl (fun hc1 => ?_) (fun hc1 => ?_)
    · rw [if_pos hc1] at hv
      refine mE.sn 1 (g' := (79, [some (.ref o), some (.int l1), some (.ref o2), some (.int l3), some (.int l4), some (.int l5), x6], [.int 0], (h, q))) rfl ?_
      cases hv
      exact m_ev.fin rfl
    · rw [if_neg hc1] at hv
      refine mE.sn 4 (g' := (19, [some (.ref o), some (.int l1), some (.ref o2), some (.int l3), some (.int l4), some (.int l5), x6], [.int (l1 + l5), .ref o], (h, q))) rfl ?_
      refine mE.call rfl rfl rfl rfl (m_rcv_ok t.2.2.1) (x37 t (l1 + l5)) ?_
      refine mE.sn 6 (g' := (31, [some (.ref o), some (.int l1), some (.ref o2), some (.int l3), some (.int l4), some (.int l5), some (.int (tat us (l1 + l5)))], [.int (l3 + l5), .ref o2, .int (tat us (l1 + l5))], (h, q))) rfl ?_
      refine mE.call rfl rfl rfl rfl (m_rcv_ok t2.2.2.1) (x37 t2 (l3 + l5)) ?_
      refine mE.br (g1 := (39, [some (.ref o), some (.int l1), some (.ref o2), some (.int l3), some (.int l4), some (.int l5), some (.int (tat us (l1 + l5)))], [], (h, q))) (g2 := (37, [some (.ref o), some (.int l1), some (.ref o2), some (.int l3), some (.int l4), some (.int l5), some (.int (tat us (l1 + l5)))], [], (h, q))) (c := (tat us (l1 + l5)) = (tat vs (l3 + l5))) rfl (fun hc2 => ?_) (fun hc2 => ?_)
      · rw [if_pos hc2] at hv
        refine mE.sn 2 (g' := (43, [some (.ref o), some (.int l1), some (.ref o2), some (.int l3), some (.int l4), some (.int l5), some (.int (tat us (l1 + l5)))], [.int 34, .int (tat us (l1 + l5))], (h, q))) rfl ?_
        refine mE.br (g1 := (46, [some (.ref o), some (.int l1), some (.ref o2), some (.int l3), some (.int l4), some (.int l5), some (.int (tat us (l1 + l5)))], [], (h, q))) (g2 := (53, [some (.ref o), some (.int l1), some (.ref o2), some (.int l3), some (.int l4), some (.int l5), some (.int (tat us (l1 + l5)))], [], (h, q))) (c := (tat us (l1 + l5)) = (34 : Int32)) rfl (fun hc3 => ?_) (fun hc3 => ?_)
        · rw [if_pos hc3] at hv
          refine mE.sn 1 (g' := (48, [some (.ref o), some (.int l1), some (.ref o2), some (.int l3), some (.int l4), some (.int l5), some (.int (tat us (l1 + l5)))], [.int l4], (h, q))) rfl ?_
          refine mE.br (g1 := (51, [some (.ref o), some (.int l1), some (.ref o2), some (.int l3), some (.int l4), some (.int l5), some (.int (tat us (l1 + l5)))], [], (h, q))) (g2 := (53, [some (.ref o), some (.int l1), some (.ref o2), some (.int l3), some (.int l4), some (.int l5), some (.int (tat us (l1 + l5)))], [], (h, q))) (c := l4 = 0) rfl (fun hc4 => ?_) (fun hc4 => ?_)
          · rw [if_pos hc4] at hv
            refine mE.sn 1 (g' := (52, [some (.ref o), some (.int l1), some (.ref o2), some (.int l3), some (.int l4), some (.int l5), some (.int (tat us (l1 + l5)))], [.int 1], (h, q))) rfl ?_
            cases hv
            exact m_ev.fin rfl
          · rw [if_neg hc4] at hv
            refine mE.sn 2 (g' := (57, [some (.ref o), some (.int l1), some (.ref o2), some (.int l3), some (.int l4), some (.int l5), some (.int (tat us (l1 + l5)))], [.int 92, .int (tat us (l1 + l5))], (h, q))) rfl ?_
            refine mE.br (g1 := (60, [some (.ref o), some (.int l1), some (.ref o2), some (.int l3), some (.int l4), some (.int l5), some (.int (tat us (l1 + l5)))], [], (h, q))) (g2 := (69, [some (.ref o), some (.int l1), some (.ref o2), some (.int l3), some (.int l4), some (.int l5), some (.int (tat us (l1 + l5)))], [], (h, q))) (c := (tat us (l1 + l5)) = (92 : Int32)) rfl (fun hc5 => ?_) (fun hc5 => ?_)
            · rw [if_pos hc5] at hv
              refine mE.sn 1 (g' := (62, [some (.ref o), some (.int l1), some (.ref o2), some (.int l3), some (.int l4), some (.int l5), some (.int (tat us (l1 + l5)))], [.int l4], (h, q))) rfl ?_
              refine mE.no (g1 := (65, [some (.ref o), some (.int l1), some (.ref o2), some (.int l3), some (.int l4), some (.int l5), some (.int (tat us (l1 + l5)))], [], (h, q))) (g2 := (69, [some (.ref o), some (.int l1), some (.ref o2), some (.int l3), some (.int l4), some (.int l5), some (.int (tat us (l1 + l5)))], [], (h, q))) (c := l4 = 0) rfl hc4 ?_
              refine mE.sn 4 (g' := (6, [some (.ref o), some (.int l1), some (.ref o2), some (.int l3), some (.int 0), some (.int (l5 + 1)), some (.int (tat us (l1 + l5)))], [], (h, q))) rfl ?_
              exact ih _ _ _ _ _ v hv
            · rw [if_neg hc5] at hv
              refine mE.sn 4 (g' := (6, [some (.ref o), some (.int l1), some (.ref o2), some (.int l3), some (.int 0), some (.int (l5 + 1)), some (.int (tat us (l1 + l5)))], [], (h, q))) rfl ?_
              exact ih _ _ _ _ _ v hv
        · rw [if_neg hc3] at hv
          refine mE.sn 2 (g' := (57, [some (.ref o), some (.int l1), some (.ref o2), some (.int l3), some (.int l4), some (.int l5), some (.int (tat us (l1 + l5)))], [.int 92, .int (tat us (l1 + l5))], (h, q))) rfl ?_
          refine mE.br (g1 := (60, [some (.ref o), some (.int l1), some (.ref o2), some (.int l3), some (.int l4), some (.int l5), some (.int (tat us (l1 + l5)))], [], (h, q))) (g2 := (69, [some (.ref o), some (.int l1), some (.ref o2), some (.int l3), some (.int l4), some (.int l5), some (.int (tat us (l1 + l5)))], [], (h, q))) (c := (tat us (l1 + l5)) = (92 : Int32)) rfl (fun hc6 => ?_) (fun hc6 => ?_)
          · rw [if_pos hc6] at hv
            refine mE.sn 1 (g' := (62, [some (.ref o), some (.int l1), some (.ref o2), some (.int l3), some (.int l4), some (.int l5), some (.int (tat us (l1 + l5)))], [.int l4], (h, q))) rfl ?_
            refine mE.br (g1 := (65, [some (.ref o), some (.int l1), some (.ref o2), some (.int l3), some (.int l4), some (.int l5), some (.int (tat us (l1 + l5)))], [], (h, q))) (g2 := (69, [some (.ref o), some (.int l1), some (.ref o2), some (.int l3), some (.int l4), some (.int l5), some (.int (tat us (l1 + l5)))], [], (h, q))) (c := l4 = 0) rfl (fun hc7 => ?_) (fun hc7 => ?_)
            · rw [if_pos hc7] at hv
              refine mE.sn 5 (g' := (6, [some (.ref o), some (.int l1), some (.ref o2), some (.int l3), some (.int 1), some (.int (l5 + 1)), some (.int (tat us (l1 + l5)))], [], (h, q))) rfl ?_
              exact ih _ _ _ _ _ v hv
            · rw [if_neg hc7] at hv
              refine mE.sn 4 (g' := (6, [some (.ref o), some (.int l1), some (.ref o2), some (.int l3), some (.int 0), some (.int (l5 + 1)), some (.int (tat us (l1 + l5)))], [], (h, q))) rfl ?_
              exact ih _ _ _ _ _ v hv
          · rw [if_neg hc6] at hv
            refine mE.sn 4 (g' := (6, [some (.ref o), some (.int l1), some (.ref o2), some (.int l3), some (.int 0), some (.int (l5 + 1)), some (.int (tat us (l1 + l5)))], [], (h, q))) rfl ?_
            exact ih _ _ _ _ _ v hv
      · rw [if_neg hc2] at hv
        refine mE.sn 1 (g' := (38, [some (.ref o), some (.int l1), some (.ref o2), some (.int l3), some (.int l4), some (.int l5), some (.int (tat us (l1 + l5)))], [.int 0], (h, q))) rfl ?_
        cases hv
        exact m_ev.fin rfl
def t_same (us : List Int32) (vs : List Int32) (p : Int32) (p2 : Int32) : Option Int32 := t_same_l us vs 10000 p p2 0 1
theorem x54 (t : tx h o w us ov) (t2 : tx h o2 w2 vs ov2) {p : Int32} {p2 : Int32} {v : Int32} (hv : t_same us vs p p2 = some v) : mE (d + 1) mm54 (0, [some (.ref o), some (.int p), some (.ref o2), some (.int p2), none, none, none], [], (h, q)) (.returned (some (.int v)), (h, q)) := by
  unfold t_same at hv
  refine mE.sn 4 (g' := (6, [some (.ref o), some (.int p), some (.ref o2), some (.int p2), some (.int 0), some (.int 1), none], [], (h, q))) rfl ?_
  exact t_same_l_ok t t2 _ _ _ _ _ _ v hv
def t_named_l (us : List Int32) (vs : List Int32) : Nat → Int32 → Int32 → Int32 → Int32 → Option Int32
  | 0, _, _, _, _ => none
  | n + 1, l1, l3, l4, l5 => (if (Int32.ofNat us.length) ≤ l5 then some (-1) else (if l4 = (-1 : Int32) then some (-1) else ((t_same us vs l4 l3).bind fun r3 => (if r3 = 0 then ((t_next us l4).bind fun r5 => t_named_l us vs n l1 l3 r5 (l5 + 1)) else some l4))))
theorem t_named_l_ok (t : tx h o w us ov) (t2 : tx h o2 w2 vs ov2) : ∀ (n : Nat) (l1 : Int32) (l3 : Int32) (l4 : Int32) (l5 : Int32) (v : Int32), t_named_l us vs n l1 l3 l4 l5 = some v → mE (d + 3) mm80 (10, [some (.ref o), some (.int l1), some (.ref o2), some (.int l3), some (.int l4), some (.int l5)], [], (h, q)) (.returned (some (.int v)), (h, q)) := by
  intro n
  induction n with
  | zero => intro l1 l3 l4 l5 v hv; cases hv
  | succ n ih =>
    intro l1 l3 l4 l5 v hv
    unfold t_named_l at hv
    refine mE.sn 2 (g' := (13, [some (.ref o), some (.int l1), some (.ref o2), some (.int l3), some (.int l4), some (.int l5)], [.ref o, .int l5], (h, q))) rfl ?_
    refine mE.get rfl t.2.2.1 rfl ?_
    refine mE.br (g1 := (53, [some (.ref o), some (.int l1), some (.ref o2), some (.int l3), some (.int l4), some (.int l5)], [], (h, q))) (g2 := (19, [some (.ref o), some (.int l1), some (.ref o2), some (.int l3), some (.int l4), some (.int l5)], [], (h, q))) (c := (Int32.ofNat us.length) ≤ l5) rfl (fun hc1 => ?_) (fun hc1 => ?_)
    · rw [if_pos hc1] at hv
      refine mE.sn 1 (g' := (54, [some (.ref o), some (.int l1), some (.ref o2), some (.int l3), some (.int l4), some (.int l5)], [.int (-1)], (h, q))) rfl ?_
      cases hv
      exact m_ev.fin rfl
    · rw [if_neg hc1] at hv
      refine mE.sn 2 (g' := (22, [some (.ref o), some (.int l1), some (.ref o2), some (.int l3), some (.int l4), some (.int l5)], [.int (-1), .int l4], (h, q))) rfl ?_
      refine mE.br (g1 := (53, [some (.ref o), some (.int l1), some (.ref o2), some (.int l3), some (.int l4), some (.int l5)], [], (h, q))) (g2 := (25, [some (.ref o), some (.int l1), some (.ref o2), some (.int l3), some (.int l4), some (.int l5)], [], (h, q))) (c := l4 = (-1 : Int32)) rfl (fun hc2 => ?_) (fun hc2 => ?_)
      · rw [if_pos hc2] at hv
        refine mE.sn 1 (g' := (54, [some (.ref o), some (.int l1), some (.ref o2), some (.int l3), some (.int l4), some (.int l5)], [.int (-1)], (h, q))) rfl ?_
        cases hv
        exact m_ev.fin rfl
      · rw [if_neg hc2] at hv
        refine mE.sn 4 (g' := (30, [some (.ref o), some (.int l1), some (.ref o2), some (.int l3), some (.int l4), some (.int l5)], [.int l3, .ref o2, .int l4, .ref o], (h, q))) rfl ?_
        cases hr3 : t_same us vs l4 l3 with
        | none => rw [hr3] at hv; cases hv
        | some r3 =>
          rw [hr3] at hv
          simp only [Option.bind_some] at hv
          refine mE.call rfl rfl rfl rfl (m_rcv_ok t.2.2.1) (x54 t t2 hr3) ?_
          refine mE.br (g1 := (39, [some (.ref o), some (.int l1), some (.ref o2), some (.int l3), some (.int l4), some (.int l5)], [], (h, q))) (g2 := (36, [some (.ref o), some (.int l1), some (.ref o2), some (.int l3), some (.int l4), some (.int l5)], [], (h, q))) (c := r3 = 0) rfl (fun hc4 => ?_) (fun hc4 => ?_)
          · rw [if_pos hc4] at hv
            refine mE.sn 2 (g' := (42, [some (.ref o), some (.int l1), some (.ref o2), some (.int l3), some (.int l4), some (.int l5)], [.int l4, .ref o], (h, q))) rfl ?_
            cases hr5 : t_next us l4 with
            | none => rw [hr5] at hv; cases hv
            | some r5 =>
              rw [hr5] at hv
              simp only [Option.bind_some] at hv
              refine mE.call rfl rfl rfl rfl (m_rcv_ok t.2.2.1) (x81 t hr5) ?_
              refine mE.sn 3 (g' := (10, [some (.ref o), some (.int l1), some (.ref o2), some (.int l3), some (.int r5), some (.int (l5 + 1))], [], (h, q))) rfl ?_
              exact ih _ _ _ _ v hv
          · rw [if_neg hc4] at hv
            refine mE.sn 1 (g' := (38, [some (.ref o), some (.int l1), some (.ref o2), some (.int l3), some (.int l4), some (.int l5)], [.int l4], (h, q))) rfl ?_
            cases hv
            exact m_ev.fin rfl
def t_named (us : List Int32) (vs : List Int32) (p : Int32) (p2 : Int32) : Option Int32 := ((t_first us p).bind fun r6 => t_named_l us vs 10000 p p2 r6 0)
theorem x80 (t : tx h o w us ov) (t2 : tx h o2 w2 vs ov2) {p : Int32} {p2 : Int32} {v : Int32} (hv : t_named us vs p p2 = some v) : mE (d + 3) mm80 (0, [some (.ref o), some (.int p), some (.ref o2), some (.int p2), none, none], [], (h, q)) (.returned (some (.int v)), (h, q)) := by
  unfold t_named at hv
  refine mE.sn 2 (g' := (2, [some (.ref o), some (.int p), some (.ref o2), some (.int p2), none, none], [.int p, .ref o], (h, q))) rfl ?_
  cases hr6 : t_first us p with
  | none => rw [hr6] at hv; cases hv
  | some r6 =>
    rw [hr6] at hv
    simp only [Option.bind_some] at hv
    refine mE.call rfl rfl rfl rfl (m_rcv_ok t.2.2.1) (x74 t hr6) ?_
    refine mE.sn 3 (g' := (10, [some (.ref o), some (.int p), some (.ref o2), some (.int p2), some (.int r6), some (.int 0)], [], (h, q))) rfl ?_
    exact t_named_l_ok t t2 _ _ _ _ _ v hv
def t_begins_l (us : List Int32) (bs : List Int32) : Nat → Int32 → Int32 → Option Int32
  | 0, _, _ => none
  | n + 1, l1, l3 => (if (Int32.ofNat bs.length) ≤ l3 then some 1 else ((sch bs l3).bind fun r2 => (if (tat us (l1 + l3)) = r2 then t_begins_l us bs n l1 (l3 + 1) else some 0)))
theorem t_begins_l_ok (t : tx h o w us ov) (s : sx h a t' bs) : ∀ (n : Nat) (l1 : Int32) (l3 : Int32) (v : Int32), t_begins_l us bs n l1 l3 = some v → mE (d + 4) mm91 (2, [some (.ref o), some (.int l1), some (.ref a), some (.int l3)], [], (h, q)) (.returned (some (.int v)), (h, q)) := by
  intro n
  induction n with
  | zero => intro l1 l3 v hv; cases hv
  | succ n ih =>
    intro l1 l3 v hv
    unfold t_begins_l at hv
    refine mE.sn 2 (g' := (4, [some (.ref o), some (.int l1), some (.ref a), some (.int l3)], [.ref a, .int l3], (h, q))) rfl ?_
    refine mE.call rfl rfl rfl rfl (m_rcv_ok s.1) (x4 s) ?_
    refine mE.br (g1 := (33, [some (.ref o), some (.int l1), some (.ref a), some (.int l3)], [], (h, q))) (g2 := (10, [some (.ref o), some (.int l1), some (.ref a), some (.int l3)], [], (h, q))) (c := (Int32.ofNat bs.length) ≤ l3) rfl (fun hc1 => ?_) (fun hc1 => ?_)
    · rw [if_pos hc1] at hv
      refine mE.sn 1 (g' := (34, [some (.ref o), some (.int l1), some (.ref a), some (.int l3)], [.int 1], (h, q))) rfl ?_
      cases hv
      exact m_ev.fin rfl
    · rw [if_neg hc1] at hv
      refine mE.sn 4 (g' := (14, [some (.ref o), some (.int l1), some (.ref a), some (.int l3)], [.int (l1 + l3), .ref o], (h, q))) rfl ?_
      refine mE.call rfl rfl rfl rfl (m_rcv_ok t.2.2.1) (x37 t (l1 + l3)) ?_
      refine mE.sn 2 (g' := (19, [some (.ref o), some (.int l1), some (.ref a), some (.int l3)], [.int l3, .ref a, .int (tat us (l1 + l3))], (h, q))) rfl ?_
      cases hr2 : sch bs l3 with
      | none => rw [hr2] at hv; cases hv
      | some r2 =>
        rw [hr2] at hv
        simp only [Option.bind_some] at hv
        refine mE.call rfl rfl rfl rfl (m_rcv_ok s.1) (x6o s hr2) ?_
        refine mE.br (g1 := (27, [some (.ref o), some (.int l1), some (.ref a), some (.int l3)], [], (h, q))) (g2 := (25, [some (.ref o), some (.int l1), some (.ref a), some (.int l3)], [], (h, q))) (c := (tat us (l1 + l3)) = r2) rfl (fun hc3 => ?_) (fun hc3 => ?_)
        · rw [if_pos hc3] at hv
          refine mE.sn 2 (g' := (2, [some (.ref o), some (.int l1), some (.ref a), some (.int (l3 + 1))], [], (h, q))) rfl ?_
          exact ih _ _ v hv
        · rw [if_neg hc3] at hv
          refine mE.sn 1 (g' := (26, [some (.ref o), some (.int l1), some (.ref a), some (.int l3)], [.int 0], (h, q))) rfl ?_
          cases hv
          exact m_ev.fin rfl
def t_begins (us : List Int32) (bs : List Int32) (p : Int32) : Option Int32 := t_begins_l us bs 10000 p 0
theorem x91 (t : tx h o w us ov) (s : sx h a t' bs) {p : Int32} {v : Int32} (hv : t_begins us bs p = some v) : mE (d + 4) mm91 (0, [some (.ref o), some (.int p), some (.ref a), none], [], (h, q)) (.returned (some (.int v)), (h, q)) := by
  unfold t_begins at hv
  refine mE.sn 2 (g' := (2, [some (.ref o), some (.int p), some (.ref a), some (.int 0)], [], (h, q))) rfl ?_
  exact t_begins_l_ok t s _ _ _ v hv
def t_itemBy_l (us : List Int32) (bs : List Int32) : Nat → Int32 → Int32 → Int32 → Option Int32
  | 0, _, _, _ => none
  | n + 1, l1, l3, l4 => (if (Int32.ofNat us.length) ≤ l4 then some (-1) else (if l3 = (-1 : Int32) then some (-1) else ((t_begins us bs l3).bind fun r3 => (if r3 = 0 then ((t_next us l3).bind fun r5 => t_itemBy_l us bs n l1 r5 (l4 + 1)) else some l3))))
theorem t_itemBy_l_ok (t : tx h o w us ov) (s : sx h a t' bs) : ∀ (n : Nat) (l1 : Int32) (l3 : Int32) (l4 : Int32) (v : Int32), t_itemBy_l us bs n l1 l3 l4 = some v → mE (d + 5) mm90 (9, [some (.ref o), some (.int l1), some (.ref a), some (.int l3), some (.int l4)], [], (h, q)) (.returned (some (.int v)), (h, q)) := by
  intro n
  induction n with
  | zero => intro l1 l3 l4 v hv; cases hv
  | succ n ih =>
    intro l1 l3 l4 v hv
    unfold t_itemBy_l at hv
    refine mE.sn 2 (g' := (12, [some (.ref o), some (.int l1), some (.ref a), some (.int l3), some (.int l4)], [.ref o, .int l4], (h, q))) rfl ?_
    refine mE.get rfl t.2.2.1 rfl ?_
    refine mE.br (g1 := (46, [some (.ref o), some (.int l1), some (.ref a), some (.int l3), some (.int l4)], [], (h, q))) (g2 := (18, [some (.ref o), some (.int l1), some (.ref a), some (.int l3), some (.int l4)], [], (h, q))) (c := (Int32.ofNat us.length) ≤ l4) rfl (fun hc1 => ?_) (fun hc1 => ?_)
    · rw [if_pos hc1] at hv
      refine mE.sn 1 (g' := (47, [some (.ref o), some (.int l1), some (.ref a), some (.int l3), some (.int l4)], [.int (-1)], (h, q))) rfl ?_
      cases hv
      exact m_ev.fin rfl
    · rw [if_neg hc1] at hv
      refine mE.sn 2 (g' := (20, [some (.ref o), some (.int l1), some (.ref a), some (.int l3), some (.int l4)], [.int (-1), .int l3], (h, q))) rfl ?_
      refine mE.br (g1 := (46, [some (.ref o), some (.int l1), some (.ref a), some (.int l3), some (.int l4)], [], (h, q))) (g2 := (23, [some (.ref o), some (.int l1), some (.ref a), some (.int l3), some (.int l4)], [], (h, q))) (c := l3 = (-1 : Int32)) rfl (fun hc2 => ?_) (fun hc2 => ?_)
      · rw [if_pos hc2] at hv
        refine mE.sn 1 (g' := (47, [some (.ref o), some (.int l1), some (.ref a), some (.int l3), some (.int l4)], [.int (-1)], (h, q))) rfl ?_
        cases hv
        exact m_ev.fin rfl
      · rw [if_neg hc2] at hv
        refine mE.sn 3 (g' := (26, [some (.ref o), some (.int l1), some (.ref a), some (.int l3), some (.int l4)], [.ref a, .int l3, .ref o], (h, q))) rfl ?_
        cases hr3 : t_begins us bs l3 with
        | none => rw [hr3] at hv; cases hv
        | some r3 =>
          rw [hr3] at hv
          simp only [Option.bind_some] at hv
          refine mE.call rfl rfl rfl rfl (m_rcv_ok t.2.2.1) (x91 t s hr3) ?_
          refine mE.br (g1 := (34, [some (.ref o), some (.int l1), some (.ref a), some (.int l3), some (.int l4)], [], (h, q))) (g2 := (32, [some (.ref o), some (.int l1), some (.ref a), some (.int l3), some (.int l4)], [], (h, q))) (c := r3 = 0) rfl (fun hc4 => ?_) (fun hc4 => ?_)
          · rw [if_pos hc4] at hv
            refine mE.sn 2 (g' := (36, [some (.ref o), some (.int l1), some (.ref a), some (.int l3), some (.int l4)], [.int l3, .ref o], (h, q))) rfl ?_
            cases hr5 : t_next us l3 with
            | none => rw [hr5] at hv; cases hv
            | some r5 =>
              rw [hr5] at hv
              simp only [Option.bind_some] at hv
              refine mE.call rfl rfl rfl rfl (m_rcv_ok t.2.2.1) (x81 t hr5) ?_
              refine mE.sn 3 (g' := (9, [some (.ref o), some (.int l1), some (.ref a), some (.int r5), some (.int (l4 + 1))], [], (h, q))) rfl ?_
              exact ih _ _ _ v hv
          · rw [if_neg hc4] at hv
            refine mE.sn 1 (g' := (33, [some (.ref o), some (.int l1), some (.ref a), some (.int l3), some (.int l4)], [.int l3], (h, q))) rfl ?_
            cases hv
            exact m_ev.fin rfl
def t_itemBy (us : List Int32) (bs : List Int32) (p : Int32) : Option Int32 := ((t_first us p).bind fun r6 => t_itemBy_l us bs 10000 p r6 0)
theorem x90 (t : tx h o w us ov) (s : sx h a t' bs) {p : Int32} {v : Int32} (hv : t_itemBy us bs p = some v) : mE (d + 5) mm90 (0, [some (.ref o), some (.int p), some (.ref a), none, none], [], (h, q)) (.returned (some (.int v)), (h, q)) := by
  unfold t_itemBy at hv
  refine mE.sn 2 (g' := (2, [some (.ref o), some (.int p), some (.ref a), none, none], [.int p, .ref o], (h, q))) rfl ?_
  cases hr6 : t_first us p with
  | none => rw [hr6] at hv; cases hv
  | some r6 =>
    rw [hr6] at hv
    simp only [Option.bind_some] at hv
    refine mE.call rfl rfl rfl rfl (m_rcv_ok t.2.2.1) (x74 t hr6) ?_
    refine mE.sn 3 (g' := (9, [some (.ref o), some (.int p), some (.ref a), some (.int r6), some (.int 0)], [], (h, q))) rfl ?_
    exact t_itemBy_l_ok t s _ _ _ _ v hv
end Read91
end

section
/-! A run that never looks at the script goes alike whatever the script is. -/
section Blank
/-- a cell that nothing can be done with -/
def m_bl : mC := (500, [])
variable {h h1 : mH} {c : mC}
theorem bl_get (hb : h[0]? = some m_bl) {r : Nat} {x : mC} (hr : h[r]? = some x) (hx : x ≠ m_bl) : (h.set 0 c)[r]? = some x := by
  by_cases e : r = 0
  · subst e
    exact absurd (Option.some.inj (hr.symm.trans hb)) hx
  · rw [List.getElem?_set_ne (fun z => e z.symm)]
    exact hr
theorem bl_set {r : Nat} {x : mC} (hr : 41 ≤ r) : (h.set r x).set 0 c = (h.set 0 c).set r x := List.set_comm _ _ (by omega)
theorem bl_set0 {r : Nat} {x : mC} (hb : h[0]? = some m_bl) (hr : 41 ≤ r) : (h.set r x)[0]? = some m_bl := by
  rw [List.getElem?_set_ne (by omega)]
  exact hb
theorem bl_app {l : List mC} (hb : h[0]? = some m_bl) : (h ++ l).set 0 c = h.set 0 c ++ l ∧ (h ++ l)[0]? = some m_bl ∧ (h.set 0 c).length = h.length := by
  cases h with
  | nil => cases hb
  | cons y r => exact ⟨rfl, hb, by simp⟩
/-- the one kind of result: the same, with the script in its place -/
def bl_R (c : mC) (x y : Option mG) : Prop := ∀ (pc : Nat) (ml : mL) (st : List Value) (h1 : mH) (K : Nat × Nat), x = some (pc, ml, st, (h1, K)) → h1[0]? = some m_bl ∧ y = some (pc, ml, st, (h1.set 0 c, K))
theorem bl_same {pc : Nat} {ml : mL} {st : List Value} {K : Nat × Nat} (hb : h[0]? = some m_bl) : bl_R c (some (pc, ml, st, (h, K))) (some (pc, ml, st, (h.set 0 c, K))) := by
  intro pc' ml' st' h1 K' e
  cases e
  exact ⟨hb, rfl⟩
theorem bl_none {y : Option mG} : bl_R c none y := by
  intro pc' ml' st' h1 K' e
  cases e
theorem bl_ite {p : Prop} [Decidable p] {x y x' y' : Option mG} (h1 : bl_R c x x') (h2 : bl_R c y y') : bl_R c (if p then x else y) (if p then x' else y') := by
  by_cases e : p
  · rw [if_pos e, if_pos e]; exact h1
  · rw [if_neg e, if_neg e]; exact h2
theorem bl_ald (hb : h[0]? = some m_bl) {k pc : Nat} {ml : mL} {st : List Value} {K : Nat × Nat} : bl_R c (m_ald pc ml st (h, K) k) (m_ald pc ml st (h.set 0 c, K) k) := by
  unfold m_ald
  split
  · next j r rest =>
    simp only
    cases hr : h[r]? with
    | none => exact bl_none
    | some x =>
      obtain ⟨t, fs⟩ := x
      simp only
      by_cases ht : t = k
      · rw [if_pos ht]
        cases hf : m_ix j fs with
        | none => exact bl_none
        | some v =>
          have hne : (t, fs) ≠ m_bl := fun e => by
            cases e
            unfold m_ix at hf
            split at hf <;> cases hf
          rw [bl_get hb hr hne]
          simp only
          rw [if_pos ht, hf]
          exact bl_same hb
      · rw [if_neg ht]; exact bl_none
  · exact bl_none
theorem bl_ast (hb : h[0]? = some m_bl) {k pc : Nat} {f : Int32 → Int32} {ml : mL} {st : List Value} {K : Nat × Nat} : bl_R c (m_ast pc ml st (h, K) 41 k f) (m_ast pc ml st (h.set 0 c, K) 41 k f) := by
  unfold m_ast
  split
  · next v j r rest =>
    simp only
    cases hr : h[r]? with
    | none => exact bl_none
    | some x =>
      obtain ⟨t, fs⟩ := x
      simp only
      by_cases ht : t = k ∧ 41 ≤ r ∧ ¬ j < 0 ∧ j.toNatClampNeg < fs.length
      · rw [if_pos ht, bl_get hb hr (fun e => by cases e; exact absurd ht.2.2.2 (Nat.not_lt_zero _))]
        simp only
        rw [if_pos ht, ← bl_set ht.2.1]
        exact bl_same (bl_set0 hb ht.2.1)
      · rw [if_neg ht]; exact bl_none
  · exact bl_none
theorem bl_mk (hb : h[0]? = some m_bl) {x : mC} {n : Nat} {K : Nat × Nat} {r : Nat} {S' : mS} (hm : m_mk (h, K) x n = some (r, S')) : S'.1[0]? = some m_bl ∧ m_mk (h.set 0 c, K) x n = some (r, (S'.1.set 0 c, S'.2)) := by
  unfold m_mk at hm ⊢
  simp only at hm ⊢
  split at hm
  · next q =>
    cases hm
    rw [if_pos q, (bl_app (c := c) (l := [x]) hb).2.2]
    exact ⟨(bl_app (c := c) hb).2.1, by rw [(bl_app hb).1]⟩
  · cases hm
theorem bl_nwa (hb : h[0]? = some m_bl) {k n pc : Nat} {v : Value} {ml : mL} {st : List Value} {K : Nat × Nat} : bl_R c (m_nwa pc ml st (h, K) k n v) (m_nwa pc ml st (h.set 0 c, K) k n v) := by
  unfold m_nwa
  split
  · next j rest =>
    refine bl_ite ?_ bl_none
    cases hm : m_mk (h, K) (k, List.replicate j.toNatClampNeg v) j.toNatClampNeg with
    | none => exact bl_none
    | some z =>
      obtain ⟨r, S'⟩ := z
      obtain ⟨g1, g2⟩ := bl_mk (c := c) hb hm
      rw [g2]
      exact bl_same g1
  · exact bl_none
theorem bl_new (hb : h[0]? = some m_bl) {a n pc : Nat} {fs : List Value} {ml : mL} {st : List Value} {K : Nat × Nat} : bl_R c (m_new pc ml st (h, K) a n fs) (m_new pc ml st (h.set 0 c, K) a n fs) := by
  unfold m_new
  cases hm : m_mk (h, K) (a, fs) n with
  | none => exact bl_none
  | some z =>
    obtain ⟨r, S'⟩ := z
    obtain ⟨g1, g2⟩ := bl_mk (c := c) hb hm
    rw [g2]
    exact bl_same g1
set_option maxHeartbeats 4000000 in
theorem bl_one (hb : h[0]? = some m_bl) {i : ClassFile.Instr} {a b k pc : Nat} {ml : mL} {st : List Value} {K : Nat × Nat} (hb5 : b ≠ 500) : bl_R c (m_one 41 i a b k pc ml st (h, K)) (m_one 41 i a b k pc ml st (h.set 0 c, K)) := by
  have hl : (h.set 0 c).length = h.length := List.length_set
  cases i with
  | getfield _ =>
    simp only [m_one, m_get]
    split
    · next r rest =>
      cases hr : h[r]? with
      | none => exact bl_none
      | some x =>
        obtain ⟨t, fs⟩ := x
        simp only
        by_cases ht : t = a
        · rw [if_pos ht]
          cases hf : fs[b]? with
          | none => exact bl_none
          | some v =>
            rw [bl_get hb hr (fun e => by cases e; cases hf)]
            simp only
            rw [if_pos ht, hf]
            exact bl_same hb
        · rw [if_neg ht]; exact bl_none
    · exact bl_none
  | putfield _ =>
    simp only [m_one, m_put]
    split
    · next v r rest =>
      cases hr : h[r]? with
      | none => exact bl_none
      | some x =>
        obtain ⟨t, fs⟩ := x
        simp only
        by_cases ht : t = a ∧ 41 ≤ r ∧ b < fs.length ∧ m_fit k v = true
        · rw [if_pos ht, bl_get hb hr (fun e => by cases e; exact absurd ht.2.2.1 (Nat.not_lt_zero _))]
          simp only
          rw [if_pos ht, ← bl_set ht.2.1]
          exact bl_same (bl_set0 hb ht.2.1)
        · rw [if_neg ht]; exact bl_none
    · exact bl_none
  | iaload => exact bl_ald hb
  | baload => exact bl_ald hb
  | laload => exact bl_ald hb
  | aaload => exact bl_ald hb
  | iastore => exact bl_ast hb
  | bastore => exact bl_ast hb
  | lastore =>
    simp only [m_one, m_lst]
    split
    · next v j r rest =>
      cases hr : h[r]? with
      | none => exact bl_none
      | some x =>
        obtain ⟨t, fs⟩ := x
        simp only
        by_cases ht : t = 1002 ∧ 41 ≤ r ∧ ¬ j < 0 ∧ j.toNatClampNeg < fs.length
        · rw [if_pos ht, bl_get hb hr (fun e => by cases e; exact absurd ht.2.2.2 (Nat.not_lt_zero _))]
          simp only
          rw [if_pos ht, ← bl_set ht.2.1]
          exact bl_same (bl_set0 hb ht.2.1)
        · rw [if_neg ht]; exact bl_none
    · exact bl_none
  | aastore =>
    simp only [m_one, m_rst]
    split
    · next x j r rest =>
      cases hr : h[r]? with
      | none => exact bl_none
      | some y =>
        cases hx : h[x]? with
        | none => exact bl_none
        | some z =>
          obtain ⟨t, fs⟩ := y
          obtain ⟨t2, fs2⟩ := z
          simp only
          by_cases ht : t = a ∧ t2 = b ∧ 41 ≤ r ∧ ¬ j < 0 ∧ j.toNatClampNeg < fs.length
          · rw [if_pos ht, bl_get hb hr (fun e => by cases e; exact absurd ht.2.2.2.2 (Nat.not_lt_zero _)), bl_get hb hx (fun e => by cases e; exact hb5 ht.2.1.symm)]
            simp only
            rw [if_pos ht, ← bl_set ht.2.2.1]
            exact bl_same (bl_set0 hb ht.2.2.1)
          · rw [if_neg ht]; exact bl_none
    · exact bl_none
  | arraylength =>
    simp only [m_one, m_aln]
    split
    · next r rest =>
      cases hr : h[r]? with
      | none => exact bl_none
      | some x =>
        obtain ⟨t, fs⟩ := x
        simp only
        by_cases ht : 1000 ≤ t
        · rw [if_pos ht, bl_get hb hr (fun e => by cases e; exact absurd ht (by decide))]
          simp only
          rw [if_pos ht]
          exact bl_same hb
        · rw [if_neg ht]; exact bl_none
    · exact bl_none
  | newarray t => cases t <;> first | exact bl_none | exact bl_nwa hb
  | anewarray _ => exact bl_nwa hb
  | multianewarray _ _ =>
    simp only [m_one, m_mul]
    split
    · next j i' rest =>
      rw [hl]
      refine bl_ite ?_ bl_none
      intro pc' ml' st' h1 K' e
      cases e
      exact ⟨(bl_app (c := c) hb).2.1, by rw [(bl_app hb).1]⟩
    · exact bl_none
  | ifCond q _ =>
    simp only [m_one, m_if]
    split
    · cases q <;> exact bl_ite (bl_same hb) (bl_same hb)
    · exact bl_none
  | if_icmp q _ =>
    simp only [m_one, m_icmp]
    split
    · cases q <;> exact bl_ite (bl_same hb) (bl_same hb)
    · exact bl_none
  | iconst _ => exact bl_same hb
  | bipush _ => exact bl_same hb
  | sipush _ => exact bl_same hb
  | lconst _ => exact bl_same hb
  | ldc _ => exact bl_same hb
  | ldc2_w _ => exact bl_same hb
  | goto _ => exact bl_same hb
  | getstatic _ => exact bl_same hb
  | iinc _ _ =>
    simp only [m_one, m_inc]
    split
    · exact bl_ite (bl_same hb) bl_none
    · exact bl_none
  | _ =>
    simp only [m_one, m_ldI, m_ldL, m_ldA, m_stI, m_stL, m_stA, m_i2, m_l2, m_div2, m_divL2, m_cI, m_cL, m_lsh, m_lcmp, m_dup, m_pop, m_sw]
    first
    | exact bl_none
    | (split <;> first | exact bl_same hb | exact bl_none | exact bl_ite (bl_same hb) bl_none | exact bl_ite bl_none (bl_same hb))
end Blank
end

section
/-! A whole run that never looks at the script goes alike whatever the script is. -/
section Blank2
variable {h : mH} {c : mC}
theorem bl_cpy (hb : h[0]? = some m_bl) {pc : Nat} {ml : mL} {st : List Value} {K : Nat × Nat} : bl_R c (m_cpy pc ml st (h, K) 41) (m_cpy pc ml st (h.set 0 c, K) 41) := by
  unfold m_cpy
  split
  · next n dp y sp x rest =>
    simp only
    cases hx : h[x]? with
    | none => exact bl_none
    | some u =>
      cases hy : h[y]? with
      | none => exact bl_none
      | some v =>
        obtain ⟨t, vs⟩ := u
        obtain ⟨t2, ws⟩ := v
        simp only
        by_cases ht : t = 1000 ∧ t2 = 1000 ∧ 41 ≤ y ∧ ¬ sp < 0 ∧ ¬ dp < 0 ∧ ¬ n < 0 ∧ sp.toNatClampNeg + n.toNatClampNeg ≤ vs.length ∧ dp.toNatClampNeg + n.toNatClampNeg ≤ ws.length
        · rw [if_pos ht, bl_get hb hx (fun e => by cases e; exact absurd ht.1 (by decide)), bl_get hb hy (fun e => by cases e; exact absurd ht.2.1 (by decide))]
          simp only
          rw [if_pos ht, ← bl_set ht.2.2.1]
          exact bl_same (bl_set0 hb ht.2.2.1)
        · rw [if_neg ht]; exact bl_none
  · exact bl_none
variable {FL : Nat → List Value} {PG : List mM}
set_option maxHeartbeats 4000000 in
theorem bl_run (hT : ∀ M ∈ PG, ∀ (pc : Nat) (i : ClassFile.Instr) (len a b k : Nat), M.2.2.2.2.2[pc]? = some (some (i, len, a, b, k)) → b ≠ 500 ∧ k ≠ 501) : ∀ (n d : Nat) (M : mM) (pc : Nat) (ml : mL) (st : List Value) (h : mH) (K : Nat × Nat) (o : Outcome) (h1 : mH) (K1 : Nat × Nat), M ∈ PG → h[0]? = some m_bl →
    m_run 41 FL PG n d M (pc, ml, st, (h, K)) = some (o, (h1, K1)) → h1[0]? = some m_bl ∧ m_run 41 FL PG n d M (pc, ml, st, (h.set 0 c, K)) = some (o, (h1.set 0 c, K1)) := by
  intro n
  induction n with
  | zero => intro d M pc ml st h K o h1 K1 _ _ hr; cases hr
  | succ n ih =>
    intro d M pc ml st h K o h1 K1 hM hb hr
    rw [m_run_succ] at hr ⊢
    unfold m_turn at hr ⊢
    simp only at hr ⊢
    cases hc : M.2.2.2.2.2[pc]? with
    | none => rw [hc] at hr; cases hr
    | some z =>
      cases z with
      | none => rw [hc] at hr; cases hr
      | some q =>
        obtain ⟨i, len, a, b, k⟩ := q
        obtain ⟨hb5, hk5⟩ := hT M hM pc i len a b k hc
        rw [hc] at hr
        have one : (match m_one 41 i a b k pc ml st (h, K) with | some g' => m_run 41 FL PG n d M g' | none => none) = some (o, (h1, K1)) → h1[0]? = some m_bl ∧ (match m_one 41 i a b k pc ml st (h.set 0 c, K) with | some g' => m_run 41 FL PG n d M g' | none => none) = some (o, (h1.set 0 c, K1)) := by
          intro hr
          cases hq : m_one 41 i a b k pc ml st (h, K) with
          | none => rw [hq] at hr; cases hr
          | some g' =>
            obtain ⟨pc', ml', st', h', K'⟩ := g'
            rw [hq] at hr
            obtain ⟨g1, g2⟩ := bl_one (c := c) hb hb5 _ _ _ _ _ hq
            rw [g2]
            exact ih d M pc' ml' st' h' K' o h1 K1 hM g1 hr
        have back : ∀ (rest : List Value) (o2 : Outcome) (h2 : mH) (K2 : Nat × Nat), h2[0]? = some m_bl → m_back (m_run 41 FL PG n) d M pc ml rest (some (o2, (h2, K2))) = some (o, (h1, K1)) → h1[0]? = some m_bl ∧ m_back (m_run 41 FL PG n) d M pc ml rest (some (o2, (h2.set 0 c, K2))) = some (o, (h1.set 0 c, K1)) := by
          intro rest o2 h2 K2 hb2 hr
          cases o2 with
          | returned v => exact ih d M _ ml _ h2 K2 o h1 K1 hM hb2 hr
          | threw x =>
            unfold m_back at hr ⊢
            simp only at hr ⊢
            cases hx : h2[x]? with
            | none => rw [hx] at hr; cases hr
            | some y =>
              obtain ⟨t, fs⟩ := y
              rw [hx] at hr
              simp only at hr
              obtain ⟨t', fs', hx', htt⟩ : ∃ t' fs', (h2.set 0 c)[x]? = some (t', fs') ∧ (t < 4 → t' = t) := by
                by_cases e : x = 0
                · subst e
                  cases hb2.symm.trans hx
                  refine ⟨c.1, c.2, ?_, fun z => absurd z (by decide)⟩
                  rw [List.getElem?_set_self (List.getElem?_eq_some_iff.mp hb2).1]
                · exact ⟨t, fs, by rw [List.getElem?_set_ne (fun z => e z.symm)]; exact hx, fun _ => rfl⟩
              rw [hx']
              simp only
              by_cases he : M.2.2.2.2.1.isEmpty = true
              · rw [if_pos he] at hr ⊢
                cases hr
                exact ⟨hb2, rfl⟩
              · rw [if_neg he] at hr ⊢
                by_cases ht : t < 4
                · rw [if_pos ht] at hr
                  rw [htt ht, if_pos ht]
                  cases hh : m_hnd M.2.2.2.2.1 pc t with
                  | none => rw [hh] at hr; cases hr
                  | some hp => rw [hh] at hr; exact ih d M hp ml _ h2 K2 o h1 K1 hM hb2 hr
                · rw [if_neg ht] at hr; cases hr
        have call : m_call PG (m_run 41 FL PG n) d M a b k pc ml st (h, K) = some (o, (h1, K1)) → h1[0]? = some m_bl ∧ m_call PG (m_run 41 FL PG n) d M a b k pc ml st (h.set 0 c, K) = some (o, (h1.set 0 c, K1)) := by
          intro hr
          unfold m_call at hr ⊢
          cases d with
          | zero => cases hr
          | succ d =>
            simp only at hr ⊢
            cases hM' : PG[a]? with
            | none => rw [hM'] at hr; cases hr
            | some M' =>
              rw [hM'] at hr
              simp only at hr ⊢
              split at hr
              · next hq =>
                have hrc : m_rcv k (st.take b).reverse (h.set 0 c) = true := by
                  have hq4 := hq.2.2.2
                  unfold m_rcv at hq4 ⊢
                  cases k with
                  | zero => rfl
                  | succ k' =>
                    simp only at hq4 ⊢
                    split at hq4
                    · next r vs hvs =>
                      cases hr0 : h[r]? with
                      | none => rw [hr0] at hq4; cases hq4
                      | some y =>
                        obtain ⟨t, fs⟩ := y
                        rw [hr0] at hq4
                        simp only [beq_iff_eq] at hq4
                        rw [bl_get hb hr0 (fun e => by cases e; exact hk5 (by rw [← hq4]))]
                        simp only [beq_iff_eq]
                        exact hq4
                    · cases hq4
                rw [if_pos ⟨hq.1, hq.2.1, hq.2.2.1, hrc⟩]
                cases hrun : m_run 41 FL PG n d M' (0, m_ent (st.take b).reverse M'.2.2.1, [], (h, K)) with
                | none => rw [hrun] at hr; cases hr
                | some y =>
                  obtain ⟨o2, h2, K2⟩ := y
                  rw [hrun] at hr
                  obtain ⟨g1, g2⟩ := ih d M' 0 _ [] h K o2 h2 K2 (List.mem_of_getElem? hM') hb hrun
                  rw [g2]
                  exact back _ o2 h2 K2 g1 hr
              · cases hr
        cases i with
        | invokevirtual _ => exact call hr
        | invokespecial _ =>
          simp only at hr ⊢
          by_cases ha : a = 999999
          · rw [if_pos ha] at hr ⊢
            split at hr
            · next rest =>
              split at hr
              · next hs =>
                rw [if_pos hs]
                exact ih _ M _ ml _ h K o h1 K1 hM hb hr
              · cases hr
            · cases hr
          · rw [if_neg ha] at hr ⊢
            exact call hr
        | invokestatic _ =>
          simp only at hr ⊢
          by_cases ha : a = 999998
          · rw [if_pos ha] at hr ⊢
            cases hq : m_cpy pc ml st (h, K) 41 with
            | none =>
              rw [hq] at hr
              cases d with
              | zero => cases hr
              | succ d => cases hr
            | some g' =>
              obtain ⟨pc', ml', st', h', K'⟩ := g'
              obtain ⟨g1, g2⟩ := bl_cpy (c := c) hb _ _ _ _ _ hq
              rw [hq] at hr
              rw [g2]
              cases d with
              | zero => cases hr
              | succ d =>
                simp only at hr ⊢
                split at hr
                · next hs =>
                  rw [if_pos hs]
                  exact ih _ M pc' ml' st' h' K' o h1 K1 hM g1 hr
                · cases hr
          · rw [if_neg ha] at hr ⊢
            exact call hr
        | ireturn =>
          simp only at hr ⊢
          split at hr
          · cases hr; exact ⟨hb, rfl⟩
          · cases hr
        | lreturn =>
          simp only at hr ⊢
          split at hr
          · cases hr; exact ⟨hb, rfl⟩
          · cases hr
        | return_ =>
          simp only at hr ⊢
          split at hr
          · cases hr; exact ⟨hb, rfl⟩
          · cases hr
        | new _ =>
          simp only at hr ⊢
          by_cases hk0 : k = 0
          · rw [if_pos hk0] at hr ⊢
            cases hq : m_new pc ml st (h, K) a b (FL a) with
            | none => rw [hq] at hr; cases hr
            | some g' =>
              obtain ⟨pc', ml', st', h', K'⟩ := g'
              obtain ⟨g1, g2⟩ := bl_new (c := c) hb _ _ _ _ _ hq
              rw [hq] at hr
              rw [g2]
              exact ih d M pc' ml' st' h' K' o h1 K1 hM g1 hr
          · rw [if_neg hk0] at hr ⊢
            cases hq : m_mk (h, K) (a, []) b with
            | none =>
              rw [hq] at hr
              cases hh : M.2.2.2.2.1 with
              | cons y l => rw [hh] at hr; cases hr
              | nil => rw [hh] at hr; cases hr
            | some y =>
              obtain ⟨r, S'⟩ := y
              obtain ⟨g1, g2⟩ := bl_mk (c := c) hb hq
              rw [hq] at hr
              rw [g2]
              cases hh : M.2.2.2.2.1 with
              | cons y l => rw [hh] at hr; cases hr
              | nil =>
                rw [hh] at hr
                simp only at hr ⊢
                split at hr
                · next hs =>
                  rw [if_pos hs]
                  cases hr
                  exact ⟨g1, rfl⟩
                · cases hr
        | _ => exact one hr
theorem bl_tab : (mp_PG.all fun M => M.2.2.2.2.2.all fun z => match z with
  | some (_, _, _, b, k) => decide (b ≠ 500 ∧ k ≠ 501)
  | none => true) = true := by decide +kernel
/-- a closed run of a method of the program, with any script -/
theorem mE.blank {n d : Nat} {M : mM} {pc : Nat} {ml : mL} {st : List Value} {h : mH} {K : Nat × Nat} {o : Outcome} {h1 : mH} {K1 : Nat × Nat} (c : mC) (hM : M ∈ mp_PG) (hb : h[0]? = some m_bl) (hr : m_run 41 mp_FL mp_PG n d M (pc, ml, st, (h, K)) = some (o, (h1, K1))) : h1[0]? = some m_bl ∧ mE d M (pc, ml, st, (h.set 0 c, K)) (o, (h1.set 0 c, K1)) := by
  have hT : ∀ M ∈ mp_PG, ∀ (pc : Nat) (i : ClassFile.Instr) (len a b k : Nat), M.2.2.2.2.2[pc]? = some (some (i, len, a, b, k)) → b ≠ 500 ∧ k ≠ 501 := by
    intro M hM pc i len a b k hc
    have h1 := List.all_eq_true.mp (List.all_eq_true.mp bl_tab M hM) _ (List.mem_of_getElem? hc)
    exact of_decide_eq_true h1
  obtain ⟨g1, g2⟩ := bl_run (c := c) hT n d M pc ml st h K o h1 K1 hM hb hr
  exact ⟨g1, n, g2⟩
end Blank2
end
