/-! PRINTED BY wip/whole/t89.py: the signs. -/
section Signs89
variable {d : Nat} {h : mH} {q : Nat × Nat} {o w : Nat} {us : List Int32} {ov : Int32}
theorem m_tsw_out (pc : Nat) (df lo hi : Int) (offs : Array Int) (x : Int32) (h : x.toInt < lo ∨ hi < x.toInt) : m_tsw pc df lo hi offs x = ((pc : Int) + df).toNat := by
  unfold m_tsw
  rw [if_pos h]
def sg_blank (b : Int32) : Int32 := (if b = (9 : Int32) then 1 else (if b = (10 : Int32) then 1 else (if b = (13 : Int32) then 1 else (if b = (32 : Int32) then 1 else 0))))
theorem x38 (b : Int32) : mE d mm38 (0, [some (.int b)], [], (h, q)) (.returned (some (.int (sg_blank b))), (h, q)) := by
  refine mE.sn 2 (g' := (3, [some (.int b)], [.int 9, .int b], (h, q))) rfl ?_
  refine mE.br (g1 := (24, [some (.int b)], [], (h, q))) (g2 := (6, [some (.int b)], [], (h, q))) (c := b = (9 : Int32)) rfl (fun hc1 => ?_) (fun hc1 => ?_)
  · refine mE.sn 2 (g' := (29, [some (.int b)], [.int 1], (h, q))) rfl ?_
    rw [show sg_blank b = (1 : Int32) by unfold sg_blank; rw [if_pos hc1]]
    exact m_ev.fin rfl
  · refine mE.sn 2 (g' := (9, [some (.int b)], [.int 10, .int b], (h, q))) rfl ?_
    refine mE.br (g1 := (24, [some (.int b)], [], (h, q))) (g2 := (12, [some (.int b)], [], (h, q))) (c := b = (10 : Int32)) rfl (fun hc2 => ?_) (fun hc2 => ?_)
    · refine mE.sn 2 (g' := (29, [some (.int b)], [.int 1], (h, q))) rfl ?_
      rw [show sg_blank b = (1 : Int32) by unfold sg_blank; rw [if_neg hc1, if_pos hc2]]
      exact m_ev.fin rfl
    · refine mE.sn 2 (g' := (15, [some (.int b)], [.int 13, .int b], (h, q))) rfl ?_
      refine mE.br (g1 := (24, [some (.int b)], [], (h, q))) (g2 := (18, [some (.int b)], [], (h, q))) (c := b = (13 : Int32)) rfl (fun hc3 => ?_) (fun hc3 => ?_)
      · refine mE.sn 2 (g' := (29, [some (.int b)], [.int 1], (h, q))) rfl ?_
        rw [show sg_blank b = (1 : Int32) by unfold sg_blank; rw [if_neg hc1, if_neg hc2, if_pos hc3]]
        exact m_ev.fin rfl
      · refine mE.sn 2 (g' := (21, [some (.int b)], [.int 32, .int b], (h, q))) rfl ?_
        refine mE.br (g1 := (24, [some (.int b)], [], (h, q))) (g2 := (28, [some (.int b)], [], (h, q))) (c := b = (32 : Int32)) rfl (fun hc4 => ?_) (fun hc4 => ?_)
        · refine mE.sn 2 (g' := (29, [some (.int b)], [.int 1], (h, q))) rfl ?_
          rw [show sg_blank b = (1 : Int32) by unfold sg_blank; rw [if_neg hc1, if_neg hc2, if_neg hc3, if_pos hc4]]
          exact m_ev.fin rfl
        · refine mE.sn 1 (g' := (29, [some (.int b)], [.int 0], (h, q))) rfl ?_
          rw [show sg_blank b = (0 : Int32) by unfold sg_blank; rw [if_neg hc1, if_neg hc2, if_neg hc3, if_neg hc4]]
          exact m_ev.fin rfl
def sg_meaning (b : Int32) : Int32 := (if b = 34 then b else (if b = 47 then b else (if b = 92 then b else (if b = 98 then 8 else (if b = 102 then 12 else (if b = 110 then 10 else (if b = 114 then 13 else (if b = 116 then 9 else (-1)))))))))
theorem x47 (b : Int32) : mE d mm47 (0, [some (.int b)], [], (h, q)) (.returned (some (.int (sg_meaning b))), (h, q)) := by
  refine mE.sn 1 (g' := (1, [some (.int b)], [.int b], (h, q))) rfl ?_
  by_cases hc1 : b = 34
  · refine mE.sn 1 (g' := (76, [some (.int b)], [], (h, q))) (by rw [hc1]; rfl) ?_
    refine mE.sn 1 (g' := (77, [some (.int b)], [.int b], (h, q))) rfl ?_
    rw [show sg_meaning b = (b : Int32) by unfold sg_meaning; rw [if_pos hc1]]
    exact m_ev.fin rfl
  by_cases hc2 : b = 47
  · refine mE.sn 1 (g' := (76, [some (.int b)], [], (h, q))) (by rw [hc2]; rfl) ?_
    refine mE.sn 1 (g' := (77, [some (.int b)], [.int b], (h, q))) rfl ?_
    rw [show sg_meaning b = (b : Int32) by unfold sg_meaning; rw [if_pos hc2, if_neg hc1]]
    exact m_ev.fin rfl
  by_cases hc3 : b = 92
  · refine mE.sn 1 (g' := (76, [some (.int b)], [], (h, q))) (by rw [hc3]; rfl) ?_
    refine mE.sn 1 (g' := (77, [some (.int b)], [.int b], (h, q))) rfl ?_
    rw [show sg_meaning b = (b : Int32) by unfold sg_meaning; rw [if_pos hc3, if_neg hc1, if_neg hc2]]
    exact m_ev.fin rfl
  by_cases hc4 : b = 98
  · refine mE.sn 1 (g' := (78, [some (.int b)], [], (h, q))) (by rw [hc4]; rfl) ?_
    refine mE.sn 1 (g' := (80, [some (.int b)], [.int 8], (h, q))) rfl ?_
    rw [show sg_meaning b = (8 : Int32) by unfold sg_meaning; rw [if_pos hc4, if_neg hc1, if_neg hc2, if_neg hc3]]
    exact m_ev.fin rfl
  by_cases hc5 : b = 102
  · refine mE.sn 1 (g' := (87, [some (.int b)], [], (h, q))) (by rw [hc5]; rfl) ?_
    refine mE.sn 1 (g' := (89, [some (.int b)], [.int 12], (h, q))) rfl ?_
    rw [show sg_meaning b = (12 : Int32) by unfold sg_meaning; rw [if_pos hc5, if_neg hc1, if_neg hc2, if_neg hc3, if_neg hc4]]
    exact m_ev.fin rfl
  by_cases hc6 : b = 110
  · refine mE.sn 1 (g' := (84, [some (.int b)], [], (h, q))) (by rw [hc6]; rfl) ?_
    refine mE.sn 1 (g' := (86, [some (.int b)], [.int 10], (h, q))) rfl ?_
    rw [show sg_meaning b = (10 : Int32) by unfold sg_meaning; rw [if_pos hc6, if_neg hc1, if_neg hc2, if_neg hc3, if_neg hc4, if_neg hc5]]
    exact m_ev.fin rfl
  by_cases hc7 : b = 114
  · refine mE.sn 1 (g' := (90, [some (.int b)], [], (h, q))) (by rw [hc7]; rfl) ?_
    refine mE.sn 1 (g' := (92, [some (.int b)], [.int 13], (h, q))) rfl ?_
    rw [show sg_meaning b = (13 : Int32) by unfold sg_meaning; rw [if_pos hc7, if_neg hc1, if_neg hc2, if_neg hc3, if_neg hc4, if_neg hc5, if_neg hc6]]
    exact m_ev.fin rfl
  by_cases hc8 : b = 116
  · refine mE.sn 1 (g' := (81, [some (.int b)], [], (h, q))) (by rw [hc8]; rfl) ?_
    refine mE.sn 1 (g' := (83, [some (.int b)], [.int 9], (h, q))) rfl ?_
    rw [show sg_meaning b = (9 : Int32) by unfold sg_meaning; rw [if_pos hc8, if_neg hc1, if_neg hc2, if_neg hc3, if_neg hc4, if_neg hc5, if_neg hc6, if_neg hc7]]
    exact m_ev.fin rfl
  have hd8 : m_lsw 1 92 #[(34, 75), (47, 75), (92, 75), (98, 77), (102, 86), (110, 83), (114, 89), (116, 80)] b = 93 := by
    have n1 : ¬ (34 : Int) = b.toInt := fun e => hc1 (Int32.toInt_inj.mp (e.symm.trans rfl))
    have n2 : ¬ (47 : Int) = b.toInt := fun e => hc2 (Int32.toInt_inj.mp (e.symm.trans rfl))
    have n3 : ¬ (92 : Int) = b.toInt := fun e => hc3 (Int32.toInt_inj.mp (e.symm.trans rfl))
    have n4 : ¬ (98 : Int) = b.toInt := fun e => hc4 (Int32.toInt_inj.mp (e.symm.trans rfl))
    have n5 : ¬ (102 : Int) = b.toInt := fun e => hc5 (Int32.toInt_inj.mp (e.symm.trans rfl))
    have n6 : ¬ (110 : Int) = b.toInt := fun e => hc6 (Int32.toInt_inj.mp (e.symm.trans rfl))
    have n7 : ¬ (114 : Int) = b.toInt := fun e => hc7 (Int32.toInt_inj.mp (e.symm.trans rfl))
    have n8 : ¬ (116 : Int) = b.toInt := fun e => hc8 (Int32.toInt_inj.mp (e.symm.trans rfl))
    simp [m_lsw, Op.lookupswitch.offset_cons, Op.lookupswitch.offset_nil, n1, n2, n3, n4, n5, n6, n7, n8]
  refine mE.sn 1 (g' := (93, [some (.int b)], [], (h, q))) (by rw [← hd8]; rfl) ?_
  refine mE.sn 1 (g' := (94, [some (.int b)], [.int (-1)], (h, q))) rfl ?_
  rw [show sg_meaning b = (-1 : Int32) by unfold sg_meaning; rw [if_neg hc1, if_neg hc2, if_neg hc3, if_neg hc4, if_neg hc5, if_neg hc6, if_neg hc7, if_neg hc8]]
  exact m_ev.fin rfl
def sg_hexv (b : Int32) : Int32 := (if b < (48 : Int32) then (if b < (97 : Int32) then (if b < (65 : Int32) then (-1) else (if (70 : Int32) < b then (-1) else ((b - 65) + 10))) else (if (102 : Int32) < b then (if b < (65 : Int32) then (-1) else (if (70 : Int32) < b then (-1) else ((b - 65) + 10))) else ((b - 97) + 10))) else (if (57 : Int32) < b then (if b < (97 : Int32) then (if b < (65 : Int32) then (-1) else (if (70 : Int32) < b then (-1) else ((b - 65) + 10))) else (if (102 : Int32) < b then (if b < (65 : Int32) then (-1) else (if (70 : Int32) < b then (-1) else ((b - 65) + 10))) else ((b - 97) + 10))) else (b - 48)))
theorem x48 (b : Int32) : mE d mm48 (0, [some (.int b)], [], (h, q)) (.returned (some (.int (sg_hexv b))), (h, q)) := by
  refine mE.sn 2 (g' := (3, [some (.int b)], [.int 48, .int b], (h, q))) rfl ?_
  refine mE.br (g1 := (17, [some (.int b)], [], (h, q))) (g2 := (6, [some (.int b)], [], (h, q))) (c := b < (48 : Int32)) rfl (fun hc1 => ?_) (fun hc1 => ?_)
  · refine mE.sn 2 (g' := (20, [some (.int b)], [.int 97, .int b], (h, q))) rfl ?_
    refine mE.br (g1 := (37, [some (.int b)], [], (h, q))) (g2 := (23, [some (.int b)], [], (h, q))) (c := b < (97 : Int32)) rfl (fun hc2 => ?_) (fun hc2 => ?_)
    · refine mE.sn 2 (g' := (40, [some (.int b)], [.int 65, .int b], (h, q))) rfl ?_
      refine mE.br (g1 := (59, [some (.int b)], [], (h, q))) (g2 := (43, [some (.int b)], [], (h, q))) (c := b < (65 : Int32)) rfl (fun hc3 => ?_) (fun hc3 => ?_)
      · refine mE.sn 1 (g' := (60, [some (.int b)], [.int (-1)], (h, q))) rfl ?_
        rw [show sg_hexv b = (-1 : Int32) by unfold sg_hexv; rw [if_pos hc1, if_pos hc2, if_pos hc3]]
        exact m_ev.fin rfl
      · refine mE.sn 2 (g' := (46, [some (.int b)], [.int 70, .int b], (h, q))) rfl ?_
        refine mE.br (g1 := (59, [some (.int b)], [], (h, q))) (g2 := (49, [some (.int b)], [], (h, q))) (c := (70 : Int32) < b) rfl (fun hc4 => ?_) (fun hc4 => ?_)
        · refine mE.sn 1 (g' := (60, [some (.int b)], [.int (-1)], (h, q))) rfl ?_
          rw [show sg_hexv b = (-1 : Int32) by unfold sg_hexv; rw [if_pos hc1, if_pos hc2, if_neg hc3, if_pos hc4]]
          exact m_ev.fin rfl
        · refine mE.sn 6 (g' := (60, [some (.int b)], [.int ((b - 65) + 10)], (h, q))) rfl ?_
          rw [show sg_hexv b = ((b - 65) + 10 : Int32) by unfold sg_hexv; rw [if_pos hc1, if_pos hc2, if_neg hc3, if_neg hc4]]
          exact m_ev.fin rfl
    · refine mE.sn 2 (g' := (26, [some (.int b)], [.int 102, .int b], (h, q))) rfl ?_
      refine mE.br (g1 := (37, [some (.int b)], [], (h, q))) (g2 := (29, [some (.int b)], [], (h, q))) (c := (102 : Int32) < b) rfl (fun hc5 => ?_) (fun hc5 => ?_)
      · refine mE.sn 2 (g' := (40, [some (.int b)], [.int 65, .int b], (h, q))) rfl ?_
        refine mE.br (g1 := (59, [some (.int b)], [], (h, q))) (g2 := (43, [some (.int b)], [], (h, q))) (c := b < (65 : Int32)) rfl (fun hc6 => ?_) (fun hc6 => ?_)
        · refine mE.sn 1 (g' := (60, [some (.int b)], [.int (-1)], (h, q))) rfl ?_
          rw [show sg_hexv b = (-1 : Int32) by unfold sg_hexv; rw [if_pos hc1, if_neg hc2, if_pos hc5, if_pos hc6]]
          exact m_ev.fin rfl
        · refine mE.sn 2 (g' := (46, [some (.int b)], [.int 70, .int b], (h, q))) rfl ?_
          refine mE.br (g1 := (59, [some (.int b)], [], (h, q))) (g2 := (49, [some (.int b)], [], (h, q))) (c := (70 : Int32) < b) rfl (fun hc7 => ?_) (fun hc7 => ?_)
          · refine mE.sn 1 (g' := (60, [some (.int b)], [.int (-1)], (h, q))) rfl ?_
            rw [show sg_hexv b = (-1 : Int32) by unfold sg_hexv; rw [if_pos hc1, if_neg hc2, if_pos hc5, if_neg hc6, if_pos hc7]]
            exact m_ev.fin rfl
          · refine mE.sn 6 (g' := (60, [some (.int b)], [.int ((b - 65) + 10)], (h, q))) rfl ?_
            rw [show sg_hexv b = ((b - 65) + 10 : Int32) by unfold sg_hexv; rw [if_pos hc1, if_neg hc2, if_pos hc5, if_neg hc6, if_neg hc7]]
            exact m_ev.fin rfl
      · refine mE.sn 5 (g' := (36, [some (.int b)], [.int ((b - 97) + 10)], (h, q))) rfl ?_
        rw [show sg_hexv b = ((b - 97) + 10 : Int32) by unfold sg_hexv; rw [if_pos hc1, if_neg hc2, if_neg hc5]]
        exact m_ev.fin rfl
  · refine mE.sn 2 (g' := (9, [some (.int b)], [.int 57, .int b], (h, q))) rfl ?_
    refine mE.br (g1 := (17, [some (.int b)], [], (h, q))) (g2 := (12, [some (.int b)], [], (h, q))) (c := (57 : Int32) < b) rfl (fun hc8 => ?_) (fun hc8 => ?_)
    · refine mE.sn 2 (g' := (20, [some (.int b)], [.int 97, .int b], (h, q))) rfl ?_
      refine mE.br (g1 := (37, [some (.int b)], [], (h, q))) (g2 := (23, [some (.int b)], [], (h, q))) (c := b < (97 : Int32)) rfl (fun hc9 => ?_) (fun hc9 => ?_)
      · refine mE.sn 2 (g' := (40, [some (.int b)], [.int 65, .int b], (h, q))) rfl ?_
        refine mE.br (g1 := (59, [some (.int b)], [], (h, q))) (g2 := (43, [some (.int b)], [], (h, q))) (c := b < (65 : Int32)) rfl (fun hc10 => ?_) (fun hc10 => ?_)
        · refine mE.sn 1 (g' := (60, [some (.int b)], [.int (-1)], (h, q))) rfl ?_
          rw [show sg_hexv b = (-1 : Int32) by unfold sg_hexv; rw [if_neg hc1, if_pos hc8, if_pos hc9, if_pos hc10]]
          exact m_ev.fin rfl
        · refine mE.sn 2 (g' := (46, [some (.int b)], [.int 70, .int b], (h, q))) rfl ?_
          refine mE.br (g1 := (59, [some (.int b)], [], (h, q))) (g2 := (49, [some (.int b)], [], (h, q))) (c := (70 : Int32) < b) rfl (fun hc11 => ?_) (fun hc11 => ?_)
          · refine mE.sn 1 (g' := (60, [some (.int b)], [.int (-1)], (h, q))) rfl ?_
            rw [show sg_hexv b = (-1 : Int32) by unfold sg_hexv; rw [if_neg hc1, if_pos hc8, if_pos hc9, if_neg hc10, if_pos hc11]]
            exact m_ev.fin rfl
          · refine mE.sn 6 (g' := (60, [some (.int b)], [.int ((b - 65) + 10)], (h, q))) rfl ?_
            rw [show sg_hexv b = ((b - 65) + 10 : Int32) by unfold sg_hexv; rw [if_neg hc1, if_pos hc8, if_pos hc9, if_neg hc10, if_neg hc11]]
            exact m_ev.fin rfl
      · refine mE.sn 2 (g' := (26, [some (.int b)], [.int 102, .int b], (h, q))) rfl ?_
        refine mE.br (g1 := (37, [some (.int b)], [], (h, q))) (g2 := (29, [some (.int b)], [], (h, q))) (c := (102 : Int32) < b) rfl (fun hc12 => ?_) (fun hc12 => ?_)
        · refine mE.sn 2 (g' := (40, [some (.int b)], [.int 65, .int b], (h, q))) rfl ?_
          refine mE.br (g1 := (59, [some (.int b)], [], (h, q))) (g2 := (43, [some (.int b)], [], (h, q))) (c := b < (65 : Int32)) rfl (fun hc13 => ?_) (fun hc13 => ?_)
          · refine mE.sn 1 (g' := (60, [some (.int b)], [.int (-1)], (h, q))) rfl ?_
            rw [show sg_hexv b = (-1 : Int32) by unfold sg_hexv; rw [if_neg hc1, if_pos hc8, if_neg hc9, if_pos hc12, if_pos hc13]]
            exact m_ev.fin rfl
          · refine mE.sn 2 (g' := (46, [some (.int b)], [.int 70, .int b], (h, q))) rfl ?_
            refine mE.br (g1 := (59, [some (.int b)], [], (h, q))) (g2 := (49, [some (.int b)], [], (h, q))) (c := (70 : Int32) < b) rfl (fun hc14 => ?_) (fun hc14 => ?_)
            · refine mE.sn 1 (g' := (60, [some (.int b)], [.int (-1)], (h, q))) rfl ?_
              rw [show sg_hexv b = (-1 : Int32) by unfold sg_hexv; rw [if_neg hc1, if_pos hc8, if_neg hc9, if_pos hc12, if_neg hc13, if_pos hc14]]
              exact m_ev.fin rfl
            · refine mE.sn 6 (g' := (60, [some (.int b)], [.int ((b - 65) + 10)], (h, q))) rfl ?_
              rw [show sg_hexv b = ((b - 65) + 10 : Int32) by unfold sg_hexv; rw [if_neg hc1, if_pos hc8, if_neg hc9, if_pos hc12, if_neg hc13, if_neg hc14]]
              exact m_ev.fin rfl
        · refine mE.sn 5 (g' := (36, [some (.int b)], [.int ((b - 97) + 10)], (h, q))) rfl ?_
          rw [show sg_hexv b = ((b - 97) + 10 : Int32) by unfold sg_hexv; rw [if_neg hc1, if_pos hc8, if_neg hc9, if_neg hc12]]
          exact m_ev.fin rfl
    · refine mE.sn 3 (g' := (16, [some (.int b)], [.int (b - 48)], (h, q))) rfl ?_
      rw [show sg_hexv b = (b - 48 : Int32) by unfold sg_hexv; rw [if_neg hc1, if_neg hc8]]
      exact m_ev.fin rfl
def sg_letter (b : Int32) : Int32 := (if b = 8 then 98 else (if b = 9 then 116 else (if b = 10 then 110 else (if b = 12 then 102 else (if b = 13 then 114 else (if b = 34 then b else (if b = 92 then b else (-1))))))))
theorem x51 (b : Int32) : mE d mm51 (0, [some (.int b)], [], (h, q)) (.returned (some (.int (sg_letter b))), (h, q)) := by
  refine mE.sn 1 (g' := (1, [some (.int b)], [.int b], (h, q))) rfl ?_
  by_cases hc1 : b = 8
  · refine mE.sn 1 (g' := (70, [some (.int b)], [], (h, q))) (by rw [hc1]; rfl) ?_
    refine mE.sn 1 (g' := (72, [some (.int b)], [.int 98], (h, q))) rfl ?_
    rw [show sg_letter b = (98 : Int32) by unfold sg_letter; rw [if_pos hc1]]
    exact m_ev.fin rfl
  by_cases hc2 : b = 9
  · refine mE.sn 1 (g' := (73, [some (.int b)], [], (h, q))) (by rw [hc2]; rfl) ?_
    refine mE.sn 1 (g' := (75, [some (.int b)], [.int 116], (h, q))) rfl ?_
    rw [show sg_letter b = (116 : Int32) by unfold sg_letter; rw [if_pos hc2, if_neg hc1]]
    exact m_ev.fin rfl
  by_cases hc3 : b = 10
  · refine mE.sn 1 (g' := (76, [some (.int b)], [], (h, q))) (by rw [hc3]; rfl) ?_
    refine mE.sn 1 (g' := (78, [some (.int b)], [.int 110], (h, q))) rfl ?_
    rw [show sg_letter b = (110 : Int32) by unfold sg_letter; rw [if_pos hc3, if_neg hc1, if_neg hc2]]
    exact m_ev.fin rfl
  by_cases hc4 : b = 12
  · refine mE.sn 1 (g' := (79, [some (.int b)], [], (h, q))) (by rw [hc4]; rfl) ?_
    refine mE.sn 1 (g' := (81, [some (.int b)], [.int 102], (h, q))) rfl ?_
    rw [show sg_letter b = (102 : Int32) by unfold sg_letter; rw [if_pos hc4, if_neg hc1, if_neg hc2, if_neg hc3]]
    exact m_ev.fin rfl
  by_cases hc5 : b = 13
  · refine mE.sn 1 (g' := (82, [some (.int b)], [], (h, q))) (by rw [hc5]; rfl) ?_
    refine mE.sn 1 (g' := (84, [some (.int b)], [.int 114], (h, q))) rfl ?_
    rw [show sg_letter b = (114 : Int32) by unfold sg_letter; rw [if_pos hc5, if_neg hc1, if_neg hc2, if_neg hc3, if_neg hc4]]
    exact m_ev.fin rfl
  by_cases hc6 : b = 34
  · refine mE.sn 1 (g' := (68, [some (.int b)], [], (h, q))) (by rw [hc6]; rfl) ?_
    refine mE.sn 1 (g' := (69, [some (.int b)], [.int b], (h, q))) rfl ?_
    rw [show sg_letter b = (b : Int32) by unfold sg_letter; rw [if_pos hc6, if_neg hc1, if_neg hc2, if_neg hc3, if_neg hc4, if_neg hc5]]
    exact m_ev.fin rfl
  by_cases hc7 : b = 92
  · refine mE.sn 1 (g' := (68, [some (.int b)], [], (h, q))) (by rw [hc7]; rfl) ?_
    refine mE.sn 1 (g' := (69, [some (.int b)], [.int b], (h, q))) rfl ?_
    rw [show sg_letter b = (b : Int32) by unfold sg_letter; rw [if_pos hc7, if_neg hc1, if_neg hc2, if_neg hc3, if_neg hc4, if_neg hc5, if_neg hc6]]
    exact m_ev.fin rfl
  have hd7 : m_lsw 1 84 #[(8, 69), (9, 72), (10, 75), (12, 78), (13, 81), (34, 67), (92, 67)] b = 85 := by
    have n1 : ¬ (8 : Int) = b.toInt := fun e => hc1 (Int32.toInt_inj.mp (e.symm.trans rfl))
    have n2 : ¬ (9 : Int) = b.toInt := fun e => hc2 (Int32.toInt_inj.mp (e.symm.trans rfl))
    have n3 : ¬ (10 : Int) = b.toInt := fun e => hc3 (Int32.toInt_inj.mp (e.symm.trans rfl))
    have n4 : ¬ (12 : Int) = b.toInt := fun e => hc4 (Int32.toInt_inj.mp (e.symm.trans rfl))
    have n5 : ¬ (13 : Int) = b.toInt := fun e => hc5 (Int32.toInt_inj.mp (e.symm.trans rfl))
    have n6 : ¬ (34 : Int) = b.toInt := fun e => hc6 (Int32.toInt_inj.mp (e.symm.trans rfl))
    have n7 : ¬ (92 : Int) = b.toInt := fun e => hc7 (Int32.toInt_inj.mp (e.symm.trans rfl))
    simp [m_lsw, Op.lookupswitch.offset_cons, Op.lookupswitch.offset_nil, n1, n2, n3, n4, n5, n6, n7]
  refine mE.sn 1 (g' := (85, [some (.int b)], [], (h, q))) (by rw [← hd7]; rfl) ?_
  refine mE.sn 1 (g' := (86, [some (.int b)], [.int (-1)], (h, q))) rfl ?_
  rw [show sg_letter b = (-1 : Int32) by unfold sg_letter; rw [if_neg hc1, if_neg hc2, if_neg hc3, if_neg hc4, if_neg hc5, if_neg hc6, if_neg hc7]]
  exact m_ev.fin rfl
def sg_hexd (b : Int32) : Int32 := (if (10 : Int32) ≤ (b &&& 15) then ((97 + (b &&& 15)) - 10) else (48 + (b &&& 15)))
theorem x52 (b : Int32) : mE d mm52 (0, [some (.int b), none], [], (h, q)) (.returned (some (.int (sg_hexd b))), (h, q)) := by
  refine mE.sn 6 (g' := (8, [some (.int b), some (.int (b &&& 15))], [.int 10, .int (b &&& 15)], (h, q))) rfl ?_
  refine mE.br (g1 := (18, [some (.int b), some (.int (b &&& 15))], [], (h, q))) (g2 := (11, [some (.int b), some (.int (b &&& 15))], [], (h, q))) (c := (10 : Int32) ≤ (b &&& 15)) rfl (fun hc1 => ?_) (fun hc1 => ?_)
  · refine mE.sn 5 (g' := (25, [some (.int b), some (.int (b &&& 15))], [.int ((97 + (b &&& 15)) - 10)], (h, q))) rfl ?_
    rw [show sg_hexd b = ((97 + (b &&& 15)) - 10 : Int32) by unfold sg_hexd; rw [if_pos hc1]]
    exact m_ev.fin rfl
  · refine mE.sn 4 (g' := (25, [some (.int b), some (.int (b &&& 15))], [.int (48 + (b &&& 15))], (h, q))) rfl ?_
    rw [show sg_hexd b = (48 + (b &&& 15) : Int32) by unfold sg_hexd; rw [if_neg hc1]]
    exact m_ev.fin rfl
def sg_digit (b : Int32) : Int32 := (if b < (48 : Int32) then 0 else (if (57 : Int32) < b then 0 else 1))
theorem x59 (b : Int32) : mE d mm59 (0, [some (.int b)], [], (h, q)) (.returned (some (.int (sg_digit b))), (h, q)) := by
  refine mE.sn 2 (g' := (3, [some (.int b)], [.int 48, .int b], (h, q))) rfl ?_
  refine mE.br (g1 := (16, [some (.int b)], [], (h, q))) (g2 := (6, [some (.int b)], [], (h, q))) (c := b < (48 : Int32)) rfl (fun hc1 => ?_) (fun hc1 => ?_)
  · refine mE.sn 1 (g' := (17, [some (.int b)], [.int 0], (h, q))) rfl ?_
    rw [show sg_digit b = (0 : Int32) by unfold sg_digit; rw [if_pos hc1]]
    exact m_ev.fin rfl
  · refine mE.sn 2 (g' := (9, [some (.int b)], [.int 57, .int b], (h, q))) rfl ?_
    refine mE.br (g1 := (16, [some (.int b)], [], (h, q))) (g2 := (12, [some (.int b)], [], (h, q))) (c := (57 : Int32) < b) rfl (fun hc2 => ?_) (fun hc2 => ?_)
    · refine mE.sn 1 (g' := (17, [some (.int b)], [.int 0], (h, q))) rfl ?_
      rw [show sg_digit b = (0 : Int32) by unfold sg_digit; rw [if_neg hc1, if_pos hc2]]
      exact m_ev.fin rfl
    · refine mE.sn 2 (g' := (17, [some (.int b)], [.int 1], (h, q))) rfl ?_
      rw [show sg_digit b = (1 : Int32) by unfold sg_digit; rw [if_neg hc1, if_neg hc2]]
      exact m_ev.fin rfl
end Signs89
