/-! PRINTED BY wip/whole/t113p.py: each call in the law: what it asks of the two programs. -/
section LawOps
set_option maxRecDepth 100000
variable {h : mH} {K : Nat × Nat} {S : SS}
theorem lgc_self (x : Int64) : lg_cmp x x = 0 := by simp [lg_cmp]
set_option maxHeartbeats 2000000 in
theorem law_op0 {i : Nat} {y p0 p1 p2 p3 p4 : Int32} {c : SS × Int32} {w : SS × Int32} (hs : cs h S) (hK : 1 ≤ K.1 ∧ 6 ≤ K.2) (hl : (S 0).length ≤ 3072) (hy : (S 0)[i]? = some y) (hy1 : y &&& 15 = 0) (a0 : (S 0)[i + 1]? = some p0) (a1 : (S 0)[i + 2]? = some p1) (a2 : (S 0)[i + 3]? = some p2) (a3 : (S 0)[i + 4]? = some p3) (a4 : (S 0)[i + 5]? = some p4) (hc : h_feed S p0 p1 p2 p3 p4 = some c) (h00 : c.1 0 = S 0) (hr : b_feed c.1 p0 p1 p2 p3 p4 = some w)  : ∃ h' K', law_S i h K h' K' ∧ cs h' w.1 ∧ K.1 ≤ K'.1 + 1 ∧ K.2 ≤ K'.2 + 6 := by
  have b := ix_scr hl hy
  have b0 := ix_scr hl a0
  rw [show Int32.ofNat (i + 1) = Int32.ofNat i + 1 from Int32.ofNat_add i 1] at b0
  have b1 := ix_scr hl a1
  rw [show Int32.ofNat (i + 2) = Int32.ofNat i + 2 from Int32.ofNat_add i 2] at b1
  have b2 := ix_scr hl a2
  rw [show Int32.ofNat (i + 3) = Int32.ofNat i + 3 from Int32.ofNat_add i 3] at b2
  have b3 := ix_scr hl a3
  rw [show Int32.ofNat (i + 4) = Int32.ofNat i + 4 from Int32.ofNat_add i 4] at b3
  have b4 := ix_scr hl a4
  rw [show Int32.ofNat (i + 5) = Int32.ofNat i + 5 from Int32.ofNat_add i 5] at b4
  have hd : m_tsw 40 539 0 10 #[60, 136, 164, 192, 220, 269, 330, 379, 416, 456, 511] (y &&& 15) = 100 := by rw [hy1]; rfl
  obtain ⟨o1, ⟨h1, K1⟩, E1, p1⟩ := s22 (d := 1990) (q := K) hs hK hc
  obtain ⟨c1, rfl, q1, q2⟩ := p1
  obtain ⟨o2, ⟨h2, K2⟩, E2, p2⟩ := s159 (d := 1998) (q := K1) c1 hr
  obtain ⟨rfl, k2, c2⟩ := p2
  have k2 : K2 = K1 := k2
  subst k2
  have z0 : h[0]? = some (1001, (S 0).map Value.int) := hs.ar (by decide)
  have z1 : h1[0]? = some (1001, (S 0).map Value.int) := by rw [← h00]; exact c1.ar (by decide)
  refine ⟨h2, K2, fun r k x5 x6 x7 => ?_, c2, q1, q2⟩
  refine mE.sn 2 (g' := (36, [some (.ref 0), some (.ref 41), some (.ref 78), some (.ref 101), some (.int (Int32.ofNat i)), x5, x6, x7], [.int (Int32.ofNat i), .ref 0], (h, K))) rfl ?_
  refine mE.iald (v := .int y) rfl z0 b ?_
  refine mE.sn 2 (g' := (40, [some (.ref 0), some (.ref 41), some (.ref 78), some (.ref 101), some (.int (Int32.ofNat i)), x5, x6, x7], [.int (y &&& 15)], (h, K))) rfl ?_
  refine mE.sn 1 (g' := (100, [some (.ref 0), some (.ref 41), some (.ref 78), some (.ref 101), some (.int (Int32.ofNat i)), x5, x6, x7], [], (h, K))) (by rw [← hd]; rfl) ?_
  refine mE.sn 5 (g' := (106, [some (.ref 0), some (.ref 41), some (.ref 78), some (.ref 101), some (.int (Int32.ofNat i)), x5, x6, x7], [.int ((Int32.ofNat i) + 1), .ref 0, .ref 41], (h, K))) rfl ?_
  refine mE.iald (v := .int p0) rfl z0 b0 ?_
  refine mE.sn 4 (g' := (112, [some (.ref 0), some (.ref 41), some (.ref 78), some (.ref 101), some (.int (Int32.ofNat i)), x5, x6, x7], [.int ((Int32.ofNat i) + 2), .ref 0, .int p0, .ref 41], (h, K))) rfl ?_
  refine mE.iald (v := .int p1) rfl z0 b1 ?_
  refine mE.sn 4 (g' := (118, [some (.ref 0), some (.ref 41), some (.ref 78), some (.ref 101), some (.int (Int32.ofNat i)), x5, x6, x7], [.int ((Int32.ofNat i) + 3), .ref 0, .int p1, .int p0, .ref 41], (h, K))) rfl ?_
  refine mE.iald (v := .int p2) rfl z0 b2 ?_
  refine mE.sn 4 (g' := (124, [some (.ref 0), some (.ref 41), some (.ref 78), some (.ref 101), some (.int (Int32.ofNat i)), x5, x6, x7], [.int ((Int32.ofNat i) + 4), .ref 0, .int p2, .int p1, .int p0, .ref 41], (h, K))) rfl ?_
  refine mE.iald (v := .int p3) rfl z0 b3 ?_
  refine mE.sn 4 (g' := (130, [some (.ref 0), some (.ref 41), some (.ref 78), some (.ref 101), some (.int (Int32.ofNat i)), x5, x6, x7], [.int ((Int32.ofNat i) + 5), .ref 0, .int p3, .int p2, .int p1, .int p0, .ref 41], (h, K))) rfl ?_
  refine mE.iald (v := .int p4) rfl z0 b4 ?_
  refine mE.sn 1 (g' := (132, [some (.ref 0), some (.ref 41), some (.ref 78), some (.ref 101), some (.int (Int32.ofNat i)), x5, x6, x7], [.ref 101, .int p4, .int p3, .int p2, .int p1, .int p0, .ref 41], (h, K))) rfl ?_
  refine mE.call rfl rfl rfl rfl rfl E1 ?_
  refine mE.sn 6 (g' := (143, [some (.ref 0), some (.ref 41), some (.ref 78), some (.ref 101), some (.int (Int32.ofNat i)), some (.int c.2), x6, x7], [.int ((Int32.ofNat i) + 1), .ref 0, .ref 78], (h1, K2))) rfl ?_
  refine mE.iald (v := .int p0) rfl z1 b0 ?_
  refine mE.sn 4 (g' := (149, [some (.ref 0), some (.ref 41), some (.ref 78), some (.ref 101), some (.int (Int32.ofNat i)), some (.int c.2), x6, x7], [.int ((Int32.ofNat i) + 2), .ref 0, .int p0, .ref 78], (h1, K2))) rfl ?_
  refine mE.iald (v := .int p1) rfl z1 b1 ?_
  refine mE.sn 4 (g' := (155, [some (.ref 0), some (.ref 41), some (.ref 78), some (.ref 101), some (.int (Int32.ofNat i)), some (.int c.2), x6, x7], [.int ((Int32.ofNat i) + 3), .ref 0, .int p1, .int p0, .ref 78], (h1, K2))) rfl ?_
  refine mE.iald (v := .int p2) rfl z1 b2 ?_
  refine mE.sn 4 (g' := (161, [some (.ref 0), some (.ref 41), some (.ref 78), some (.ref 101), some (.int (Int32.ofNat i)), some (.int c.2), x6, x7], [.int ((Int32.ofNat i) + 4), .ref 0, .int p2, .int p1, .int p0, .ref 78], (h1, K2))) rfl ?_
  refine mE.iald (v := .int p3) rfl z1 b3 ?_
  refine mE.sn 4 (g' := (167, [some (.ref 0), some (.ref 41), some (.ref 78), some (.ref 101), some (.int (Int32.ofNat i)), some (.int c.2), x6, x7], [.int ((Int32.ofNat i) + 5), .ref 0, .int p3, .int p2, .int p1, .int p0, .ref 78], (h1, K2))) rfl ?_
  refine mE.iald (v := .int p4) rfl z1 b4 ?_
  refine mE.call rfl rfl rfl rfl (c1.rcv o78) E2 ?_
  refine mE.sn 2 (g' := (579, [some (.ref 0), some (.ref 41), some (.ref 78), some (.ref 101), some (.int (Int32.ofNat i)), some (.int c.2), some (.int w.2), x7], [], (h2, K2))) rfl ?_
  exact law_next (k _ _ _)
set_option maxHeartbeats 2000000 in
theorem law_op1 {i : Nat} {y p0 : Int32} {c : SS × Int32} {w : SS × Int32} (hs : cs h S) (hK : 1 ≤ K.1 ∧ 6 ≤ K.2) (hl : (S 0).length ≤ 3072) (hy : (S 0)[i]? = some y) (hy1 : y &&& 15 = 1) (a0 : (S 0)[i + 1]? = some p0) (hc : h_end S p0 = some c) (h00 : c.1 0 = S 0) (hr : b_end c.1 p0 = some w)  : ∃ h' K', law_S i h K h' K' ∧ cs h' w.1 ∧ K.1 ≤ K'.1 + 1 ∧ K.2 ≤ K'.2 + 6 := by
  have b := ix_scr hl hy
  have b0 := ix_scr hl a0
  rw [show Int32.ofNat (i + 1) = Int32.ofNat i + 1 from Int32.ofNat_add i 1] at b0
  have hd : m_tsw 40 539 0 10 #[60, 136, 164, 192, 220, 269, 330, 379, 416, 456, 511] (y &&& 15) = 176 := by rw [hy1]; rfl
  obtain ⟨o1, ⟨h1, K1⟩, E1, p1⟩ := s26 (d := 1990) (q := K) hs hK hc
  obtain ⟨c1, rfl, q1, q2⟩ := p1
  obtain ⟨o2, ⟨h2, K2⟩, E2, p2⟩ := s162 (d := 1998) (q := K1) c1 hr
  obtain ⟨rfl, k2, c2⟩ := p2
  have k2 : K2 = K1 := k2
  subst k2
  have z0 : h[0]? = some (1001, (S 0).map Value.int) := hs.ar (by decide)
  have z1 : h1[0]? = some (1001, (S 0).map Value.int) := by rw [← h00]; exact c1.ar (by decide)
  refine ⟨h2, K2, fun r k x5 x6 x7 => ?_, c2, q1, q2⟩
  refine mE.sn 2 (g' := (36, [some (.ref 0), some (.ref 41), some (.ref 78), some (.ref 101), some (.int (Int32.ofNat i)), x5, x6, x7], [.int (Int32.ofNat i), .ref 0], (h, K))) rfl ?_
  refine mE.iald (v := .int y) rfl z0 b ?_
  refine mE.sn 2 (g' := (40, [some (.ref 0), some (.ref 41), some (.ref 78), some (.ref 101), some (.int (Int32.ofNat i)), x5, x6, x7], [.int (y &&& 15)], (h, K))) rfl ?_
  refine mE.sn 1 (g' := (176, [some (.ref 0), some (.ref 41), some (.ref 78), some (.ref 101), some (.int (Int32.ofNat i)), x5, x6, x7], [], (h, K))) (by rw [← hd]; rfl) ?_
  refine mE.sn 5 (g' := (182, [some (.ref 0), some (.ref 41), some (.ref 78), some (.ref 101), some (.int (Int32.ofNat i)), x5, x6, x7], [.int ((Int32.ofNat i) + 1), .ref 0, .ref 41], (h, K))) rfl ?_
  refine mE.iald (v := .int p0) rfl z0 b0 ?_
  refine mE.sn 1 (g' := (184, [some (.ref 0), some (.ref 41), some (.ref 78), some (.ref 101), some (.int (Int32.ofNat i)), x5, x6, x7], [.ref 101, .int p0, .ref 41], (h, K))) rfl ?_
  refine mE.call rfl rfl rfl rfl rfl E1 ?_
  refine mE.sn 6 (g' := (195, [some (.ref 0), some (.ref 41), some (.ref 78), some (.ref 101), some (.int (Int32.ofNat i)), some (.int c.2), x6, x7], [.int ((Int32.ofNat i) + 1), .ref 0, .ref 78], (h1, K2))) rfl ?_
  refine mE.iald (v := .int p0) rfl z1 b0 ?_
  refine mE.call rfl rfl rfl rfl (c1.rcv o78) E2 ?_
  refine mE.sn 2 (g' := (579, [some (.ref 0), some (.ref 41), some (.ref 78), some (.ref 101), some (.int (Int32.ofNat i)), some (.int c.2), some (.int w.2), x7], [], (h2, K2))) rfl ?_
  exact law_next (k _ _ _)
set_option maxHeartbeats 2000000 in
theorem law_op2 {i : Nat} {y p0 : Int32} {c : SS × Int32} {w : SS × Int32} (hs : cs h S) (hK : 1 ≤ K.1 ∧ 6 ≤ K.2) (hl : (S 0).length ≤ 3072) (hy : (S 0)[i]? = some y) (hy1 : y &&& 15 = 2) (a0 : (S 0)[i + 1]? = some p0) (hc : h_read S p0 = some c) (h00 : c.1 0 = S 0) (hr : b_read c.1 p0 = some w)  : ∃ h' K', law_S i h K h' K' ∧ cs h' w.1 ∧ K.1 ≤ K'.1 + 1 ∧ K.2 ≤ K'.2 + 6 := by
  have b := ix_scr hl hy
  have b0 := ix_scr hl a0
  rw [show Int32.ofNat (i + 1) = Int32.ofNat i + 1 from Int32.ofNat_add i 1] at b0
  have hd : m_tsw 40 539 0 10 #[60, 136, 164, 192, 220, 269, 330, 379, 416, 456, 511] (y &&& 15) = 204 := by rw [hy1]; rfl
  obtain ⟨o1, ⟨h1, K1⟩, E1, p1⟩ := s31 (d := 1396) (q := K) hs hK hc
  obtain ⟨c1, rfl, q1, q2⟩ := p1
  obtain ⟨o2, ⟨h2, K2⟩, E2, p2⟩ := s163 (d := 653) (q := K1) c1 hr
  obtain ⟨rfl, k2, c2⟩ := p2
  have k2 : K2 = K1 := k2
  subst k2
  have z0 : h[0]? = some (1001, (S 0).map Value.int) := hs.ar (by decide)
  have z1 : h1[0]? = some (1001, (S 0).map Value.int) := by rw [← h00]; exact c1.ar (by decide)
  refine ⟨h2, K2, fun r k x5 x6 x7 => ?_, c2, q1, q2⟩
  refine mE.sn 2 (g' := (36, [some (.ref 0), some (.ref 41), some (.ref 78), some (.ref 101), some (.int (Int32.ofNat i)), x5, x6, x7], [.int (Int32.ofNat i), .ref 0], (h, K))) rfl ?_
  refine mE.iald (v := .int y) rfl z0 b ?_
  refine mE.sn 2 (g' := (40, [some (.ref 0), some (.ref 41), some (.ref 78), some (.ref 101), some (.int (Int32.ofNat i)), x5, x6, x7], [.int (y &&& 15)], (h, K))) rfl ?_
  refine mE.sn 1 (g' := (204, [some (.ref 0), some (.ref 41), some (.ref 78), some (.ref 101), some (.int (Int32.ofNat i)), x5, x6, x7], [], (h, K))) (by rw [← hd]; rfl) ?_
  refine mE.sn 5 (g' := (210, [some (.ref 0), some (.ref 41), some (.ref 78), some (.ref 101), some (.int (Int32.ofNat i)), x5, x6, x7], [.int ((Int32.ofNat i) + 1), .ref 0, .ref 41], (h, K))) rfl ?_
  refine mE.iald (v := .int p0) rfl z0 b0 ?_
  refine mE.sn 1 (g' := (212, [some (.ref 0), some (.ref 41), some (.ref 78), some (.ref 101), some (.int (Int32.ofNat i)), x5, x6, x7], [.ref 101, .int p0, .ref 41], (h, K))) rfl ?_
  refine mE.call rfl rfl rfl rfl rfl E1 ?_
  refine mE.sn 6 (g' := (223, [some (.ref 0), some (.ref 41), some (.ref 78), some (.ref 101), some (.int (Int32.ofNat i)), some (.int c.2), x6, x7], [.int ((Int32.ofNat i) + 1), .ref 0, .ref 78], (h1, K2))) rfl ?_
  refine mE.iald (v := .int p0) rfl z1 b0 ?_
  refine mE.call rfl rfl rfl rfl (c1.rcv o78) E2 ?_
  refine mE.sn 2 (g' := (579, [some (.ref 0), some (.ref 41), some (.ref 78), some (.ref 101), some (.int (Int32.ofNat i)), some (.int c.2), some (.int w.2), x7], [], (h2, K2))) rfl ?_
  exact law_next (k _ _ _)
set_option maxHeartbeats 2000000 in
theorem law_op3 {i : Nat} {y p0 : Int32} {c : SS × Int32} {w : SS × Int32} (hs : cs h S) (hK : 1 ≤ K.1 ∧ 6 ≤ K.2) (hl : (S 0).length ≤ 3072) (hy : (S 0)[i]? = some y) (hy1 : y &&& 15 = 3) (a0 : (S 0)[i + 1]? = some p0) (hc : h_print S p0 = some c) (h00 : c.1 0 = S 0) (hr : b_print c.1 p0 = some w)  : ∃ h' K', law_S i h K h' K' ∧ cs h' w.1 ∧ K.1 ≤ K'.1 + 1 ∧ K.2 ≤ K'.2 + 6 := by
  have b := ix_scr hl hy
  have b0 := ix_scr hl a0
  rw [show Int32.ofNat (i + 1) = Int32.ofNat i + 1 from Int32.ofNat_add i 1] at b0
  have hd : m_tsw 40 539 0 10 #[60, 136, 164, 192, 220, 269, 330, 379, 416, 456, 511] (y &&& 15) = 232 := by rw [hy1]; rfl
  obtain ⟨o1, ⟨h1, K1⟩, E1, p1⟩ := s65 (d := 1989) (q := K) hs hK hc
  obtain ⟨c1, rfl, q1, q2⟩ := p1
  obtain ⟨o2, ⟨h2, K2⟩, E2, p2⟩ := s212 (d := 654) (q := K1) c1 hr
  obtain ⟨rfl, k2, c2⟩ := p2
  have k2 : K2 = K1 := k2
  subst k2
  have z0 : h[0]? = some (1001, (S 0).map Value.int) := hs.ar (by decide)
  have z1 : h1[0]? = some (1001, (S 0).map Value.int) := by rw [← h00]; exact c1.ar (by decide)
  refine ⟨h2, K2, fun r k x5 x6 x7 => ?_, c2, q1, q2⟩
  refine mE.sn 2 (g' := (36, [some (.ref 0), some (.ref 41), some (.ref 78), some (.ref 101), some (.int (Int32.ofNat i)), x5, x6, x7], [.int (Int32.ofNat i), .ref 0], (h, K))) rfl ?_
  refine mE.iald (v := .int y) rfl z0 b ?_
  refine mE.sn 2 (g' := (40, [some (.ref 0), some (.ref 41), some (.ref 78), some (.ref 101), some (.int (Int32.ofNat i)), x5, x6, x7], [.int (y &&& 15)], (h, K))) rfl ?_
  refine mE.sn 1 (g' := (232, [some (.ref 0), some (.ref 41), some (.ref 78), some (.ref 101), some (.int (Int32.ofNat i)), x5, x6, x7], [], (h, K))) (by rw [← hd]; rfl) ?_
  refine mE.sn 5 (g' := (238, [some (.ref 0), some (.ref 41), some (.ref 78), some (.ref 101), some (.int (Int32.ofNat i)), x5, x6, x7], [.int ((Int32.ofNat i) + 1), .ref 0, .ref 41], (h, K))) rfl ?_
  refine mE.iald (v := .int p0) rfl z0 b0 ?_
  refine mE.sn 1 (g' := (240, [some (.ref 0), some (.ref 41), some (.ref 78), some (.ref 101), some (.int (Int32.ofNat i)), x5, x6, x7], [.ref 101, .int p0, .ref 41], (h, K))) rfl ?_
  refine mE.call rfl rfl rfl rfl rfl E1 ?_
  refine mE.sn 6 (g' := (251, [some (.ref 0), some (.ref 41), some (.ref 78), some (.ref 101), some (.int (Int32.ofNat i)), some (.int c.2), x6, x7], [.int ((Int32.ofNat i) + 1), .ref 0, .ref 78], (h1, K2))) rfl ?_
  refine mE.iald (v := .int p0) rfl z1 b0 ?_
  refine mE.call rfl rfl rfl rfl (c1.rcv o78) E2 ?_
  refine mE.sn 2 (g' := (579, [some (.ref 0), some (.ref 41), some (.ref 78), some (.ref 101), some (.int (Int32.ofNat i)), some (.int c.2), some (.int w.2), x7], [], (h2, K2))) rfl ?_
  exact law_next (k _ _ _)
set_option maxHeartbeats 2000000 in
theorem law_op4 {i : Nat} {y p0 p1 p2 : Int32} {c : SS × Int32} {w : SS} (hs : cs h S) (hK : 1 ≤ K.1 ∧ 6 ≤ K.2) (hl : (S 0).length ≤ 3072) (hy : (S 0)[i]? = some y) (hy1 : y &&& 15 = 4) (a0 : (S 0)[i + 1]? = some p0) (a1 : (S 0)[i + 2]? = some p1) (a2 : (S 0)[i + 3]? = some p2) (hc : h_get S p0 p1 p2 = some c) (h00 : c.1 0 = S 0) (hr : b_get c.1 p0 p1 p2 = some w)  : ∃ h' K', law_S i h K h' K' ∧ cs h' w ∧ K.1 ≤ K'.1 + 1 ∧ K.2 ≤ K'.2 + 6 := by
  have b := ix_scr hl hy
  have b0 := ix_scr hl a0
  rw [show Int32.ofNat (i + 1) = Int32.ofNat i + 1 from Int32.ofNat_add i 1] at b0
  have b1 := ix_scr hl a1
  rw [show Int32.ofNat (i + 2) = Int32.ofNat i + 2 from Int32.ofNat_add i 2] at b1
  have b2 := ix_scr hl a2
  rw [show Int32.ofNat (i + 3) = Int32.ofNat i + 3 from Int32.ofNat_add i 3] at b2
  have hd : m_tsw 40 539 0 10 #[60, 136, 164, 192, 220, 269, 330, 379, 416, 456, 511] (y &&& 15) = 260 := by rw [hy1]; rfl
  obtain ⟨o1, ⟨h1, K1⟩, E1, p1⟩ := s68 (d := 1989) (q := K) hs hK hc
  obtain ⟨c1, rfl, q1, q2⟩ := p1
  obtain ⟨o2, ⟨h2, K2⟩, E2, p2⟩ := s226 (d := 652) (q := K1) c1 hr
  obtain ⟨rfl, k2, c2⟩ := p2
  have k2 : K2 = K1 := k2
  subst k2
  have z0 : h[0]? = some (1001, (S 0).map Value.int) := hs.ar (by decide)
  have z1 : h1[0]? = some (1001, (S 0).map Value.int) := by rw [← h00]; exact c1.ar (by decide)
  refine ⟨h2, K2, fun r k x5 x6 x7 => ?_, c2, q1, q2⟩
  refine mE.sn 2 (g' := (36, [some (.ref 0), some (.ref 41), some (.ref 78), some (.ref 101), some (.int (Int32.ofNat i)), x5, x6, x7], [.int (Int32.ofNat i), .ref 0], (h, K))) rfl ?_
  refine mE.iald (v := .int y) rfl z0 b ?_
  refine mE.sn 2 (g' := (40, [some (.ref 0), some (.ref 41), some (.ref 78), some (.ref 101), some (.int (Int32.ofNat i)), x5, x6, x7], [.int (y &&& 15)], (h, K))) rfl ?_
  refine mE.sn 1 (g' := (260, [some (.ref 0), some (.ref 41), some (.ref 78), some (.ref 101), some (.int (Int32.ofNat i)), x5, x6, x7], [], (h, K))) (by rw [← hd]; rfl) ?_
  refine mE.sn 5 (g' := (266, [some (.ref 0), some (.ref 41), some (.ref 78), some (.ref 101), some (.int (Int32.ofNat i)), x5, x6, x7], [.int ((Int32.ofNat i) + 1), .ref 0, .ref 41], (h, K))) rfl ?_
  refine mE.iald (v := .int p0) rfl z0 b0 ?_
  refine mE.sn 4 (g' := (272, [some (.ref 0), some (.ref 41), some (.ref 78), some (.ref 101), some (.int (Int32.ofNat i)), x5, x6, x7], [.int ((Int32.ofNat i) + 2), .ref 0, .int p0, .ref 41], (h, K))) rfl ?_
  refine mE.iald (v := .int p1) rfl z0 b1 ?_
  refine mE.sn 4 (g' := (278, [some (.ref 0), some (.ref 41), some (.ref 78), some (.ref 101), some (.int (Int32.ofNat i)), x5, x6, x7], [.int ((Int32.ofNat i) + 3), .ref 0, .int p1, .int p0, .ref 41], (h, K))) rfl ?_
  refine mE.iald (v := .int p2) rfl z0 b2 ?_
  refine mE.call rfl rfl rfl rfl rfl E1 ?_
  refine mE.sn 6 (g' := (290, [some (.ref 0), some (.ref 41), some (.ref 78), some (.ref 101), some (.int (Int32.ofNat i)), some (.int c.2), x6, x7], [.int ((Int32.ofNat i) + 1), .ref 0, .ref 78], (h1, K2))) rfl ?_
  refine mE.iald (v := .int p0) rfl z1 b0 ?_
  refine mE.sn 4 (g' := (296, [some (.ref 0), some (.ref 41), some (.ref 78), some (.ref 101), some (.int (Int32.ofNat i)), some (.int c.2), x6, x7], [.int ((Int32.ofNat i) + 2), .ref 0, .int p0, .ref 78], (h1, K2))) rfl ?_
  refine mE.iald (v := .int p1) rfl z1 b1 ?_
  refine mE.sn 4 (g' := (302, [some (.ref 0), some (.ref 41), some (.ref 78), some (.ref 101), some (.int (Int32.ofNat i)), some (.int c.2), x6, x7], [.int ((Int32.ofNat i) + 3), .ref 0, .int p1, .int p0, .ref 78], (h1, K2))) rfl ?_
  refine mE.iald (v := .int p2) rfl z1 b2 ?_
  refine mE.call rfl rfl rfl rfl (c1.rcv o78) E2 ?_
  refine mE.sn 1 (g' := (579, [some (.ref 0), some (.ref 41), some (.ref 78), some (.ref 101), some (.int (Int32.ofNat i)), some (.int c.2), x6, x7], [], (h2, K2))) rfl ?_
  exact law_next (k _ _ _)
set_option maxHeartbeats 2000000 in
theorem law_op5 {i : Nat} {y p0 p1 p2 p3 : Int32} {c : SS × Int32} {w : SS} (hs : cs h S) (hK : 1 ≤ K.1 ∧ 6 ≤ K.2) (hl : (S 0).length ≤ 3072) (hy : (S 0)[i]? = some y) (hy1 : y &&& 15 = 5) (a0 : (S 0)[i + 1]? = some p0) (a1 : (S 0)[i + 2]? = some p1) (a2 : (S 0)[i + 3]? = some p2) (a3 : (S 0)[i + 4]? = some p3) (hc : h_set S p0 p1 p2 p3 = some c) (h00 : c.1 0 = S 0) (hr : b_set c.1 p0 p1 p2 p3 = some w)  : ∃ h' K', law_S i h K h' K' ∧ cs h' w ∧ K.1 ≤ K'.1 + 1 ∧ K.2 ≤ K'.2 + 6 := by
  have b := ix_scr hl hy
  have b0 := ix_scr hl a0
  rw [show Int32.ofNat (i + 1) = Int32.ofNat i + 1 from Int32.ofNat_add i 1] at b0
  have b1 := ix_scr hl a1
  rw [show Int32.ofNat (i + 2) = Int32.ofNat i + 2 from Int32.ofNat_add i 2] at b1
  have b2 := ix_scr hl a2
  rw [show Int32.ofNat (i + 3) = Int32.ofNat i + 3 from Int32.ofNat_add i 3] at b2
  have b3 := ix_scr hl a3
  rw [show Int32.ofNat (i + 4) = Int32.ofNat i + 4 from Int32.ofNat_add i 4] at b3
  have hd : m_tsw 40 539 0 10 #[60, 136, 164, 192, 220, 269, 330, 379, 416, 456, 511] (y &&& 15) = 309 := by rw [hy1]; rfl
  obtain ⟨o1, ⟨h1, K1⟩, E1, p1⟩ := s101 (d := 1988) (q := K) hs hK hc
  obtain ⟨c1, rfl, q1, q2⟩ := p1
  obtain ⟨o2, ⟨h2, K2⟩, E2, p2⟩ := s238 (d := 652) (q := K1) c1 hr
  obtain ⟨rfl, k2, c2⟩ := p2
  have k2 : K2 = K1 := k2
  subst k2
  have z0 : h[0]? = some (1001, (S 0).map Value.int) := hs.ar (by decide)
  have z1 : h1[0]? = some (1001, (S 0).map Value.int) := by rw [← h00]; exact c1.ar (by decide)
  refine ⟨h2, K2, fun r k x5 x6 x7 => ?_, c2, q1, q2⟩
  refine mE.sn 2 (g' := (36, [some (.ref 0), some (.ref 41), some (.ref 78), some (.ref 101), some (.int (Int32.ofNat i)), x5, x6, x7], [.int (Int32.ofNat i), .ref 0], (h, K))) rfl ?_
  refine mE.iald (v := .int y) rfl z0 b ?_
  refine mE.sn 2 (g' := (40, [some (.ref 0), some (.ref 41), some (.ref 78), some (.ref 101), some (.int (Int32.ofNat i)), x5, x6, x7], [.int (y &&& 15)], (h, K))) rfl ?_
  refine mE.sn 1 (g' := (309, [some (.ref 0), some (.ref 41), some (.ref 78), some (.ref 101), some (.int (Int32.ofNat i)), x5, x6, x7], [], (h, K))) (by rw [← hd]; rfl) ?_
  refine mE.sn 5 (g' := (315, [some (.ref 0), some (.ref 41), some (.ref 78), some (.ref 101), some (.int (Int32.ofNat i)), x5, x6, x7], [.int ((Int32.ofNat i) + 1), .ref 0, .ref 41], (h, K))) rfl ?_
  refine mE.iald (v := .int p0) rfl z0 b0 ?_
  refine mE.sn 4 (g' := (321, [some (.ref 0), some (.ref 41), some (.ref 78), some (.ref 101), some (.int (Int32.ofNat i)), x5, x6, x7], [.int ((Int32.ofNat i) + 2), .ref 0, .int p0, .ref 41], (h, K))) rfl ?_
  refine mE.iald (v := .int p1) rfl z0 b1 ?_
  refine mE.sn 4 (g' := (327, [some (.ref 0), some (.ref 41), some (.ref 78), some (.ref 101), some (.int (Int32.ofNat i)), x5, x6, x7], [.int ((Int32.ofNat i) + 3), .ref 0, .int p1, .int p0, .ref 41], (h, K))) rfl ?_
  refine mE.iald (v := .int p2) rfl z0 b2 ?_
  refine mE.sn 4 (g' := (333, [some (.ref 0), some (.ref 41), some (.ref 78), some (.ref 101), some (.int (Int32.ofNat i)), x5, x6, x7], [.int ((Int32.ofNat i) + 4), .ref 0, .int p2, .int p1, .int p0, .ref 41], (h, K))) rfl ?_
  refine mE.iald (v := .int p3) rfl z0 b3 ?_
  refine mE.call rfl rfl rfl rfl rfl E1 ?_
  refine mE.sn 6 (g' := (345, [some (.ref 0), some (.ref 41), some (.ref 78), some (.ref 101), some (.int (Int32.ofNat i)), some (.int c.2), x6, x7], [.int ((Int32.ofNat i) + 1), .ref 0, .ref 78], (h1, K2))) rfl ?_
  refine mE.iald (v := .int p0) rfl z1 b0 ?_
  refine mE.sn 4 (g' := (351, [some (.ref 0), some (.ref 41), some (.ref 78), some (.ref 101), some (.int (Int32.ofNat i)), some (.int c.2), x6, x7], [.int ((Int32.ofNat i) + 2), .ref 0, .int p0, .ref 78], (h1, K2))) rfl ?_
  refine mE.iald (v := .int p1) rfl z1 b1 ?_
  refine mE.sn 4 (g' := (357, [some (.ref 0), some (.ref 41), some (.ref 78), some (.ref 101), some (.int (Int32.ofNat i)), some (.int c.2), x6, x7], [.int ((Int32.ofNat i) + 3), .ref 0, .int p1, .int p0, .ref 78], (h1, K2))) rfl ?_
  refine mE.iald (v := .int p2) rfl z1 b2 ?_
  refine mE.sn 4 (g' := (363, [some (.ref 0), some (.ref 41), some (.ref 78), some (.ref 101), some (.int (Int32.ofNat i)), some (.int c.2), x6, x7], [.int ((Int32.ofNat i) + 4), .ref 0, .int p2, .int p1, .int p0, .ref 78], (h1, K2))) rfl ?_
  refine mE.iald (v := .int p3) rfl z1 b3 ?_
  refine mE.call rfl rfl rfl rfl (c1.rcv o78) E2 ?_
  refine mE.sn 1 (g' := (579, [some (.ref 0), some (.ref 41), some (.ref 78), some (.ref 101), some (.int (Int32.ofNat i)), some (.int c.2), x6, x7], [], (h2, K2))) rfl ?_
  exact law_next (k _ _ _)
set_option maxHeartbeats 2000000 in
theorem law_op6 {i : Nat} {y p0 p1 p2 : Int32} {c : SS × Int32} {w : SS} (hs : cs h S) (hK : 1 ≤ K.1 ∧ 6 ≤ K.2) (hl : (S 0).length ≤ 3072) (hy : (S 0)[i]? = some y) (hy1 : y &&& 15 = 6) (a0 : (S 0)[i + 1]? = some p0) (a1 : (S 0)[i + 2]? = some p1) (a2 : (S 0)[i + 3]? = some p2) (hc : h_del S p0 p1 p2 = some c) (h00 : c.1 0 = S 0) (hr : b_del c.1 p0 p1 p2 = some w)  : ∃ h' K', law_S i h K h' K' ∧ cs h' w ∧ K.1 ≤ K'.1 + 1 ∧ K.2 ≤ K'.2 + 6 := by
  have b := ix_scr hl hy
  have b0 := ix_scr hl a0
  rw [show Int32.ofNat (i + 1) = Int32.ofNat i + 1 from Int32.ofNat_add i 1] at b0
  have b1 := ix_scr hl a1
  rw [show Int32.ofNat (i + 2) = Int32.ofNat i + 2 from Int32.ofNat_add i 2] at b1
  have b2 := ix_scr hl a2
  rw [show Int32.ofNat (i + 3) = Int32.ofNat i + 3 from Int32.ofNat_add i 3] at b2
  have hd : m_tsw 40 539 0 10 #[60, 136, 164, 192, 220, 269, 330, 379, 416, 456, 511] (y &&& 15) = 370 := by rw [hy1]; rfl
  obtain ⟨o1, ⟨h1, K1⟩, E1, p1⟩ := s129 (d := 1496) (q := K) hs hK hc
  obtain ⟨c1, rfl, q1, q2⟩ := p1
  obtain ⟨o2, ⟨h2, K2⟩, E2, p2⟩ := s246 (d := 652) (q := K1) c1 hr
  obtain ⟨rfl, k2, c2⟩ := p2
  have k2 : K2 = K1 := k2
  subst k2
  have z0 : h[0]? = some (1001, (S 0).map Value.int) := hs.ar (by decide)
  have z1 : h1[0]? = some (1001, (S 0).map Value.int) := by rw [← h00]; exact c1.ar (by decide)
  refine ⟨h2, K2, fun r k x5 x6 x7 => ?_, c2, q1, q2⟩
  refine mE.sn 2 (g' := (36, [some (.ref 0), some (.ref 41), some (.ref 78), some (.ref 101), some (.int (Int32.ofNat i)), x5, x6, x7], [.int (Int32.ofNat i), .ref 0], (h, K))) rfl ?_
  refine mE.iald (v := .int y) rfl z0 b ?_
  refine mE.sn 2 (g' := (40, [some (.ref 0), some (.ref 41), some (.ref 78), some (.ref 101), some (.int (Int32.ofNat i)), x5, x6, x7], [.int (y &&& 15)], (h, K))) rfl ?_
  refine mE.sn 1 (g' := (370, [some (.ref 0), some (.ref 41), some (.ref 78), some (.ref 101), some (.int (Int32.ofNat i)), x5, x6, x7], [], (h, K))) (by rw [← hd]; rfl) ?_
  refine mE.sn 5 (g' := (376, [some (.ref 0), some (.ref 41), some (.ref 78), some (.ref 101), some (.int (Int32.ofNat i)), x5, x6, x7], [.int ((Int32.ofNat i) + 1), .ref 0, .ref 41], (h, K))) rfl ?_
  refine mE.iald (v := .int p0) rfl z0 b0 ?_
  refine mE.sn 4 (g' := (382, [some (.ref 0), some (.ref 41), some (.ref 78), some (.ref 101), some (.int (Int32.ofNat i)), x5, x6, x7], [.int ((Int32.ofNat i) + 2), .ref 0, .int p0, .ref 41], (h, K))) rfl ?_
  refine mE.iald (v := .int p1) rfl z0 b1 ?_
  refine mE.sn 4 (g' := (388, [some (.ref 0), some (.ref 41), some (.ref 78), some (.ref 101), some (.int (Int32.ofNat i)), x5, x6, x7], [.int ((Int32.ofNat i) + 3), .ref 0, .int p1, .int p0, .ref 41], (h, K))) rfl ?_
  refine mE.iald (v := .int p2) rfl z0 b2 ?_
  refine mE.call rfl rfl rfl rfl rfl E1 ?_
  refine mE.sn 6 (g' := (400, [some (.ref 0), some (.ref 41), some (.ref 78), some (.ref 101), some (.int (Int32.ofNat i)), some (.int c.2), x6, x7], [.int ((Int32.ofNat i) + 1), .ref 0, .ref 78], (h1, K2))) rfl ?_
  refine mE.iald (v := .int p0) rfl z1 b0 ?_
  refine mE.sn 4 (g' := (406, [some (.ref 0), some (.ref 41), some (.ref 78), some (.ref 101), some (.int (Int32.ofNat i)), some (.int c.2), x6, x7], [.int ((Int32.ofNat i) + 2), .ref 0, .int p0, .ref 78], (h1, K2))) rfl ?_
  refine mE.iald (v := .int p1) rfl z1 b1 ?_
  refine mE.sn 4 (g' := (412, [some (.ref 0), some (.ref 41), some (.ref 78), some (.ref 101), some (.int (Int32.ofNat i)), some (.int c.2), x6, x7], [.int ((Int32.ofNat i) + 3), .ref 0, .int p1, .int p0, .ref 78], (h1, K2))) rfl ?_
  refine mE.iald (v := .int p2) rfl z1 b2 ?_
  refine mE.call rfl rfl rfl rfl (c1.rcv o78) E2 ?_
  refine mE.sn 1 (g' := (579, [some (.ref 0), some (.ref 41), some (.ref 78), some (.ref 101), some (.int (Int32.ofNat i)), some (.int c.2), x6, x7], [], (h2, K2))) rfl ?_
  exact law_next (k _ _ _)
set_option maxHeartbeats 2000000 in
theorem law_op7 {i : Nat} {y p0 p1 : Int32} {c : SS × Int32} {w : SS} (hs : cs h S) (hK : 1 ≤ K.1 ∧ 6 ≤ K.2) (hl : (S 0).length ≤ 3072) (hy : (S 0)[i]? = some y) (hy1 : y &&& 15 = 7) (a0 : (S 0)[i + 1]? = some p0) (a1 : (S 0)[i + 2]? = some p1) (hc : h_all S p0 p1 = some c) (h00 : c.1 0 = S 0) (hr : b_all c.1 p0 p1 = some w)  : ∃ h' K', law_S i h K h' K' ∧ cs h' w ∧ K.1 ≤ K'.1 + 1 ∧ K.2 ≤ K'.2 + 6 := by
  have b := ix_scr hl hy
  have b0 := ix_scr hl a0
  rw [show Int32.ofNat (i + 1) = Int32.ofNat i + 1 from Int32.ofNat_add i 1] at b0
  have b1 := ix_scr hl a1
  rw [show Int32.ofNat (i + 2) = Int32.ofNat i + 2 from Int32.ofNat_add i 2] at b1
  have hd : m_tsw 40 539 0 10 #[60, 136, 164, 192, 220, 269, 330, 379, 416, 456, 511] (y &&& 15) = 419 := by rw [hy1]; rfl
  obtain ⟨o1, ⟨h1, K1⟩, E1, p1⟩ := s146 (d := 1596) (q := K) hs hK hc
  obtain ⟨c1, rfl, q1, q2⟩ := p1
  obtain ⟨o2, ⟨h2, K2⟩, E2, p2⟩ := s252 (d := 652) (q := K1) c1 hr
  obtain ⟨rfl, k2, c2⟩ := p2
  have k2 : K2 = K1 := k2
  subst k2
  have z0 : h[0]? = some (1001, (S 0).map Value.int) := hs.ar (by decide)
  have z1 : h1[0]? = some (1001, (S 0).map Value.int) := by rw [← h00]; exact c1.ar (by decide)
  refine ⟨h2, K2, fun r k x5 x6 x7 => ?_, c2, q1, q2⟩
  refine mE.sn 2 (g' := (36, [some (.ref 0), some (.ref 41), some (.ref 78), some (.ref 101), some (.int (Int32.ofNat i)), x5, x6, x7], [.int (Int32.ofNat i), .ref 0], (h, K))) rfl ?_
  refine mE.iald (v := .int y) rfl z0 b ?_
  refine mE.sn 2 (g' := (40, [some (.ref 0), some (.ref 41), some (.ref 78), some (.ref 101), some (.int (Int32.ofNat i)), x5, x6, x7], [.int (y &&& 15)], (h, K))) rfl ?_
  refine mE.sn 1 (g' := (419, [some (.ref 0), some (.ref 41), some (.ref 78), some (.ref 101), some (.int (Int32.ofNat i)), x5, x6, x7], [], (h, K))) (by rw [← hd]; rfl) ?_
  refine mE.sn 5 (g' := (425, [some (.ref 0), some (.ref 41), some (.ref 78), some (.ref 101), some (.int (Int32.ofNat i)), x5, x6, x7], [.int ((Int32.ofNat i) + 1), .ref 0, .ref 41], (h, K))) rfl ?_
  refine mE.iald (v := .int p0) rfl z0 b0 ?_
  refine mE.sn 4 (g' := (431, [some (.ref 0), some (.ref 41), some (.ref 78), some (.ref 101), some (.int (Int32.ofNat i)), x5, x6, x7], [.int ((Int32.ofNat i) + 2), .ref 0, .int p0, .ref 41], (h, K))) rfl ?_
  refine mE.iald (v := .int p1) rfl z0 b1 ?_
  refine mE.call rfl rfl rfl rfl rfl E1 ?_
  refine mE.sn 6 (g' := (443, [some (.ref 0), some (.ref 41), some (.ref 78), some (.ref 101), some (.int (Int32.ofNat i)), some (.int c.2), x6, x7], [.int ((Int32.ofNat i) + 1), .ref 0, .ref 78], (h1, K2))) rfl ?_
  refine mE.iald (v := .int p0) rfl z1 b0 ?_
  refine mE.sn 4 (g' := (449, [some (.ref 0), some (.ref 41), some (.ref 78), some (.ref 101), some (.int (Int32.ofNat i)), some (.int c.2), x6, x7], [.int ((Int32.ofNat i) + 2), .ref 0, .int p0, .ref 78], (h1, K2))) rfl ?_
  refine mE.iald (v := .int p1) rfl z1 b1 ?_
  refine mE.call rfl rfl rfl rfl (c1.rcv o78) E2 ?_
  refine mE.sn 1 (g' := (579, [some (.ref 0), some (.ref 41), some (.ref 78), some (.ref 101), some (.int (Int32.ofNat i)), some (.int c.2), x6, x7], [], (h2, K2))) rfl ?_
  exact law_next (k _ _ _)
set_option maxHeartbeats 2000000 in
theorem law_op8 {i : Nat} {y p0 p1 : Int32} {c : SS × Int32} {w : SS × Int32} (hs : cs h S) (hK : 1 ≤ K.1 ∧ 6 ≤ K.2) (hl : (S 0).length ≤ 3072) (hy : (S 0)[i]? = some y) (hy1 : y &&& 15 = 8) (a0 : (S 0)[i + 1]? = some p0) (a1 : (S 0)[i + 2]? = some p1) (hc : h_same S p0 p1 = some c) (h00 : c.1 0 = S 0) (hr : b_same c.1 p0 p1 = some w)  : ∃ h' K', law_S i h K h' K' ∧ cs h' w.1 ∧ K.1 ≤ K'.1 + 1 ∧ K.2 ≤ K'.2 + 6 := by
  have b := ix_scr hl hy
  have b0 := ix_scr hl a0
  rw [show Int32.ofNat (i + 1) = Int32.ofNat i + 1 from Int32.ofNat_add i 1] at b0
  have b1 := ix_scr hl a1
  rw [show Int32.ofNat (i + 2) = Int32.ofNat i + 2 from Int32.ofNat_add i 2] at b1
  have hd : m_tsw 40 539 0 10 #[60, 136, 164, 192, 220, 269, 330, 379, 416, 456, 511] (y &&& 15) = 456 := by rw [hy1]; rfl
  obtain ⟨o1, ⟨h1, K1⟩, E1, p1⟩ := s152 (d := 1497) (q := K) hs hK hc
  obtain ⟨c1, rfl, q1, q2⟩ := p1
  obtain ⟨o2, ⟨h2, K2⟩, E2, p2⟩ := s213 (d := 1717) (q := K1) c1 hr
  obtain ⟨rfl, k2, c2⟩ := p2
  have k2 : K2 = K1 := k2
  subst k2
  have z0 : h[0]? = some (1001, (S 0).map Value.int) := hs.ar (by decide)
  have z1 : h1[0]? = some (1001, (S 0).map Value.int) := by rw [← h00]; exact c1.ar (by decide)
  refine ⟨h2, K2, fun r k x5 x6 x7 => ?_, c2, q1, q2⟩
  refine mE.sn 2 (g' := (36, [some (.ref 0), some (.ref 41), some (.ref 78), some (.ref 101), some (.int (Int32.ofNat i)), x5, x6, x7], [.int (Int32.ofNat i), .ref 0], (h, K))) rfl ?_
  refine mE.iald (v := .int y) rfl z0 b ?_
  refine mE.sn 2 (g' := (40, [some (.ref 0), some (.ref 41), some (.ref 78), some (.ref 101), some (.int (Int32.ofNat i)), x5, x6, x7], [.int (y &&& 15)], (h, K))) rfl ?_
  refine mE.sn 1 (g' := (456, [some (.ref 0), some (.ref 41), some (.ref 78), some (.ref 101), some (.int (Int32.ofNat i)), x5, x6, x7], [], (h, K))) (by rw [← hd]; rfl) ?_
  refine mE.sn 5 (g' := (462, [some (.ref 0), some (.ref 41), some (.ref 78), some (.ref 101), some (.int (Int32.ofNat i)), x5, x6, x7], [.int ((Int32.ofNat i) + 1), .ref 0, .ref 41], (h, K))) rfl ?_
  refine mE.iald (v := .int p0) rfl z0 b0 ?_
  refine mE.sn 4 (g' := (468, [some (.ref 0), some (.ref 41), some (.ref 78), some (.ref 101), some (.int (Int32.ofNat i)), x5, x6, x7], [.int ((Int32.ofNat i) + 2), .ref 0, .int p0, .ref 41], (h, K))) rfl ?_
  refine mE.iald (v := .int p1) rfl z0 b1 ?_
  refine mE.sn 1 (g' := (470, [some (.ref 0), some (.ref 41), some (.ref 78), some (.ref 101), some (.int (Int32.ofNat i)), x5, x6, x7], [.ref 101, .int p1, .int p0, .ref 41], (h, K))) rfl ?_
  refine mE.call rfl rfl rfl rfl rfl E1 ?_
  refine mE.sn 6 (g' := (481, [some (.ref 0), some (.ref 41), some (.ref 78), some (.ref 101), some (.int (Int32.ofNat i)), some (.int c.2), x6, x7], [.int ((Int32.ofNat i) + 1), .ref 0, .ref 78], (h1, K2))) rfl ?_
  refine mE.iald (v := .int p0) rfl z1 b0 ?_
  refine mE.sn 4 (g' := (487, [some (.ref 0), some (.ref 41), some (.ref 78), some (.ref 101), some (.int (Int32.ofNat i)), some (.int c.2), x6, x7], [.int ((Int32.ofNat i) + 2), .ref 0, .int p0, .ref 78], (h1, K2))) rfl ?_
  refine mE.iald (v := .int p1) rfl z1 b1 ?_
  refine mE.call rfl rfl rfl rfl (c1.rcv o78) E2 ?_
  refine mE.sn 2 (g' := (579, [some (.ref 0), some (.ref 41), some (.ref 78), some (.ref 101), some (.int (Int32.ofNat i)), some (.int c.2), some (.int w.2), x7], [], (h2, K2))) rfl ?_
  exact law_next (k _ _ _)
set_option maxHeartbeats 2000000 in
theorem law_op9 {i : Nat} {y p0 : Int32} {c : SS × Int32} {w : SS × Int64} (hs : cs h S) (hK : 1 ≤ K.1 ∧ 6 ≤ K.2) (hl : (S 0).length ≤ 3072) (hy : (S 0)[i]? = some y) (hy1 : y &&& 15 = 9) (a0 : (S 0)[i + 1]? = some p0) (hc : h_word S p0 = some c) (h00 : c.1 0 = S 0) (hr : b_word c.1 p0 = some w) (ht : rd w.1 78 0 = c.2) (hv : c.2 = 0 → lg (w.1 101) = w.2) : ∃ h' K', law_S i h K h' K' ∧ cs h' w.1 ∧ K.1 ≤ K'.1 + 1 ∧ K.2 ≤ K'.2 + 6 := by
  have b := ix_scr hl hy
  have b0 := ix_scr hl a0
  rw [show Int32.ofNat (i + 1) = Int32.ofNat i + 1 from Int32.ofNat_add i 1] at b0
  have hd : m_tsw 40 539 0 10 #[60, 136, 164, 192, 220, 269, 330, 379, 416, 456, 511] (y &&& 15) = 496 := by rw [hy1]; rfl
  obtain ⟨o1, ⟨h1, K1⟩, E1, p1⟩ := s154 (d := 1990) (q := K) hs hK hc
  obtain ⟨c1, rfl, q1, q2⟩ := p1
  obtain ⟨o2, ⟨h2, K2⟩, E2, p2⟩ := s220 (d := 1998) (q := K1) c1 hr
  obtain ⟨rfl, k2, c2⟩ := p2
  have k2 : K2 = K1 := k2
  subst k2
  obtain ⟨o3, ⟨h3, K3⟩, E3, p3⟩ := s158 (d := 1999) (q := K2) (v := rd w.1 78 0) c2 rfl
  obtain ⟨rfl, k3, c3⟩ := p3
  have k3 : K3 = K2 := k3
  subst k3
  have z0 : h[0]? = some (1001, (S 0).map Value.int) := hs.ar (by decide)
  have z1 : h1[0]? = some (1001, (S 0).map Value.int) := by rw [← h00]; exact c1.ar (by decide)
  refine ⟨h3, K3, fun r k x5 x6 x7 => ?_, c3, q1, q2⟩
  refine mE.sn 2 (g' := (36, [some (.ref 0), some (.ref 41), some (.ref 78), some (.ref 101), some (.int (Int32.ofNat i)), x5, x6, x7], [.int (Int32.ofNat i), .ref 0], (h, K))) rfl ?_
  refine mE.iald (v := .int y) rfl z0 b ?_
  refine mE.sn 2 (g' := (40, [some (.ref 0), some (.ref 41), some (.ref 78), some (.ref 101), some (.int (Int32.ofNat i)), x5, x6, x7], [.int (y &&& 15)], (h, K))) rfl ?_
  refine mE.sn 1 (g' := (496, [some (.ref 0), some (.ref 41), some (.ref 78), some (.ref 101), some (.int (Int32.ofNat i)), x5, x6, x7], [], (h, K))) (by rw [← hd]; rfl) ?_
  refine mE.sn 5 (g' := (502, [some (.ref 0), some (.ref 41), some (.ref 78), some (.ref 101), some (.int (Int32.ofNat i)), x5, x6, x7], [.int ((Int32.ofNat i) + 1), .ref 0, .ref 41], (h, K))) rfl ?_
  refine mE.iald (v := .int p0) rfl z0 b0 ?_
  refine mE.sn 1 (g' := (504, [some (.ref 0), some (.ref 41), some (.ref 78), some (.ref 101), some (.int (Int32.ofNat i)), x5, x6, x7], [.ref 101, .int p0, .ref 41], (h, K))) rfl ?_
  refine mE.call rfl rfl rfl rfl rfl E1 ?_
  refine mE.sn 6 (g' := (515, [some (.ref 0), some (.ref 41), some (.ref 78), some (.ref 101), some (.int (Int32.ofNat i)), some (.int c.2), x6, x7], [.int ((Int32.ofNat i) + 1), .ref 0, .ref 78], (h1, K3))) rfl ?_
  refine mE.iald (v := .int p0) rfl z1 b0 ?_
  refine mE.call rfl rfl rfl rfl (c1.rcv o78) E2 ?_
  refine mE.sn 2 (g' := (522, [some (.ref 0), some (.ref 41), some (.ref 78), some (.ref 101), some (.int (Int32.ofNat i)), some (.int c.2), some (.long w.2), none], [.ref 78], (h2, K3))) rfl ?_
  refine mE.call rfl rfl rfl rfl (c2.rcv o78) E3 ?_
  refine mE.sn 1 (g' := (527, [some (.ref 0), some (.ref 41), some (.ref 78), some (.ref 101), some (.int (Int32.ofNat i)), some (.int c.2), some (.long w.2), none], [.int c.2, .int (rd w.1 78 0)], (h3, K3))) rfl ?_
  refine mE.yes (g1 := (532, [some (.ref 0), some (.ref 41), some (.ref 78), some (.ref 101), some (.int (Int32.ofNat i)), some (.int c.2), some (.long w.2), none], [], (h3, K3))) (g2 := (530, [some (.ref 0), some (.ref 41), some (.ref 78), some (.ref 101), some (.int (Int32.ofNat i)), some (.int c.2), some (.long w.2), none], [], (h3, K3))) (c := (rd w.1 78 0) = c.2) rfl ht ?_
  refine mE.sn 1 (g' := (534, [some (.ref 0), some (.ref 41), some (.ref 78), some (.ref 101), some (.int (Int32.ofNat i)), some (.int c.2), some (.long w.2), none], [.int c.2], (h3, K3))) rfl ?_
  refine mE.br (g1 := (537, [some (.ref 0), some (.ref 41), some (.ref 78), some (.ref 101), some (.int (Int32.ofNat i)), some (.int c.2), some (.long w.2), none], [], (h3, K3))) (g2 := (548, [some (.ref 0), some (.ref 41), some (.ref 78), some (.ref 101), some (.int (Int32.ofNat i)), some (.int c.2), some (.long w.2), none], [], (h3, K3))) (c := c.2 = 0) rfl (fun hz => ?_) (fun hz => ?_)
  · refine mE.sn 2 (g' := (539, [some (.ref 0), some (.ref 41), some (.ref 78), some (.ref 101), some (.int (Int32.ofNat i)), some (.int c.2), some (.long w.2), none], [.int 0, .ref 101], (h3, K3))) rfl ?_
    refine mE.lald (v := .long (lg (w.1 101))) rfl c3.2.2.2 rfl ?_
    refine mE.sn 2 (g' := (543, [some (.ref 0), some (.ref 41), some (.ref 78), some (.ref 101), some (.int (Int32.ofNat i)), some (.int c.2), some (.long w.2), none], [.int (lg_cmp (lg (w.1 101)) w.2)], (h3, K3))) rfl ?_
    refine mE.yes (g1 := (548, [some (.ref 0), some (.ref 41), some (.ref 78), some (.ref 101), some (.int (Int32.ofNat i)), some (.int c.2), some (.long w.2), none], [], (h3, K3))) (g2 := (546, [some (.ref 0), some (.ref 41), some (.ref 78), some (.ref 101), some (.int (Int32.ofNat i)), some (.int c.2), some (.long w.2), none], [], (h3, K3))) (c := (lg_cmp (lg (w.1 101)) w.2) = 0) rfl (by rw [hv hz]; exact lgc_self _) ?_
    refine mE.sn 1 (g' := (579, [some (.ref 0), some (.ref 41), some (.ref 78), some (.ref 101), some (.int (Int32.ofNat i)), some (.int c.2), some (.long w.2), none], [], (h3, K3))) rfl ?_
    exact law_next (k _ _ _)
  · refine mE.sn 1 (g' := (579, [some (.ref 0), some (.ref 41), some (.ref 78), some (.ref 101), some (.int (Int32.ofNat i)), some (.int c.2), some (.long w.2), none], [], (h3, K3))) rfl ?_
    exact law_next (k _ _ _)
set_option maxHeartbeats 2000000 in
theorem law_op10 {i : Nat} {y p0 : Int32} {c : SS × Int32} {w : SS × Int32} (hs : cs h S) (hK : 1 ≤ K.1 ∧ 6 ≤ K.2) (hl : (S 0).length ≤ 3072) (hy : (S 0)[i]? = some y) (hy1 : y &&& 15 = 10) (a0 : (S 0)[i + 1]? = some p0) (hc : h_count S p0 = some c) (h00 : c.1 0 = S 0) (hr : b_count c.1 p0 = some w)  : ∃ h' K', law_S i h K h' K' ∧ cs h' w.1 ∧ K.1 ≤ K'.1 + 1 ∧ K.2 ≤ K'.2 + 6 := by
  have b := ix_scr hl hy
  have b0 := ix_scr hl a0
  rw [show Int32.ofNat (i + 1) = Int32.ofNat i + 1 from Int32.ofNat_add i 1] at b0
  have hd : m_tsw 40 539 0 10 #[60, 136, 164, 192, 220, 269, 330, 379, 416, 456, 511] (y &&& 15) = 551 := by rw [hy1]; rfl
  obtain ⟨o1, ⟨h1, K1⟩, E1, p1⟩ := s156 (d := 1990) (q := K) hs hK hc
  obtain ⟨c1, rfl, q1, q2⟩ := p1
  obtain ⟨o2, ⟨h2, K2⟩, E2, p2⟩ := s221 (d := 1998) (q := K1) c1 hr
  obtain ⟨rfl, k2, c2⟩ := p2
  have k2 : K2 = K1 := k2
  subst k2
  have z0 : h[0]? = some (1001, (S 0).map Value.int) := hs.ar (by decide)
  have z1 : h1[0]? = some (1001, (S 0).map Value.int) := by rw [← h00]; exact c1.ar (by decide)
  refine ⟨h2, K2, fun r k x5 x6 x7 => ?_, c2, q1, q2⟩
  refine mE.sn 2 (g' := (36, [some (.ref 0), some (.ref 41), some (.ref 78), some (.ref 101), some (.int (Int32.ofNat i)), x5, x6, x7], [.int (Int32.ofNat i), .ref 0], (h, K))) rfl ?_
  refine mE.iald (v := .int y) rfl z0 b ?_
  refine mE.sn 2 (g' := (40, [some (.ref 0), some (.ref 41), some (.ref 78), some (.ref 101), some (.int (Int32.ofNat i)), x5, x6, x7], [.int (y &&& 15)], (h, K))) rfl ?_
  refine mE.sn 1 (g' := (551, [some (.ref 0), some (.ref 41), some (.ref 78), some (.ref 101), some (.int (Int32.ofNat i)), x5, x6, x7], [], (h, K))) (by rw [← hd]; rfl) ?_
  refine mE.sn 5 (g' := (557, [some (.ref 0), some (.ref 41), some (.ref 78), some (.ref 101), some (.int (Int32.ofNat i)), x5, x6, x7], [.int ((Int32.ofNat i) + 1), .ref 0, .ref 41], (h, K))) rfl ?_
  refine mE.iald (v := .int p0) rfl z0 b0 ?_
  refine mE.sn 1 (g' := (559, [some (.ref 0), some (.ref 41), some (.ref 78), some (.ref 101), some (.int (Int32.ofNat i)), x5, x6, x7], [.ref 101, .int p0, .ref 41], (h, K))) rfl ?_
  refine mE.call rfl rfl rfl rfl rfl E1 ?_
  refine mE.sn 6 (g' := (570, [some (.ref 0), some (.ref 41), some (.ref 78), some (.ref 101), some (.int (Int32.ofNat i)), some (.int c.2), x6, x7], [.int ((Int32.ofNat i) + 1), .ref 0, .ref 78], (h1, K2))) rfl ?_
  refine mE.iald (v := .int p0) rfl z1 b0 ?_
  refine mE.call rfl rfl rfl rfl (c1.rcv o78) E2 ?_
  refine mE.sn 2 (g' := (579, [some (.ref 0), some (.ref 41), some (.ref 78), some (.ref 101), some (.int (Int32.ofNat i)), some (.int c.2), some (.int w.2), x7], [], (h2, K2))) rfl ?_
  exact law_next (k _ _ _)
end LawOps
