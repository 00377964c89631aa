/-! The first call on a new object. -/
section First200
theorem vNull_c : cV vNull = [0, 2] := rfl
theorem tat_nil : tat [] 0 = -1 := by decide
theorem I0.reg {S : SS} (h : I0 S) {n : Nat} (hn : n < 8) : vat (tT S (([51, 53, 55, 57, 59, 61, 63, 65] : List Nat).getD n 0)) 0 vNull ∧ cat (S (82 + n)) 0 vNull := reg_vat (h.2.2.2.2.2.2.2.2 n hn)
/-- read: the tape is empty, both tell the place 0 -/
theorem fst2 {S : SS} (p0 : Int32) (hc : ∃ h, cs h S) (hI : I0 S) : ∃ (c : SS × Int32) (w : SS × Int32), h_read S p0 = some c ∧ c.1 0 = S 0 ∧ b_read c.1 p0 = some w ∧ rd w.1 78 0 = c.2 ∧ (c.2 = 0 → lg (w.1 101) = w.2.toInt64) ∧ w.1 0 = S 0 := by
  obtain ⟨l78, l41, l90, l96, l67, l68, -⟩ := cs.l78 hc
  obtain ⟨i1, i2, ⟨q1, q2, q3, q4, q5, q6⟩, i4, ⟨g1, g2, g3, g4, g5⟩⟩ := hI
  have l91 : (S 91).length = 9000 := i1.2.2.2.2.2.2.2.1
  by_cases hp : ¬ p0 < 0 ∧ p0 < 8
  rotate_left
  · obtain ⟨a1, a2⟩ := reg_bad S hp
    obtain ⟨S1, b1, b2, b3, b4, b5, b6, b7⟩ := begin_val l78 l90 l91
    refine ⟨(S, 1), (wr S1 78 0 1, 0), ?_, rfl, ?_, rd_wr (by rw [b6]; decide), fun e => absurd e (show ¬ (1 : Int32) = 0 by decide), ?_⟩
    · unfold h_read a_read
      rw [a1, o_bind, if_neg (show ¬ (2 : Nat) = 0 by decide), o_bind, if_neg (show ¬ (2 : Nat) = 0 by decide), if_pos rfl]
    · show b_read S p0 = _
      unfold b_read b_fail
      rw [b1, o_bind, (reg_bad S1 hp).2, o_bind, if_neg (by decide), o_bind]
    · show wr S1 78 0 1 0 = S 0
      rw [wr_ne (by decide), b2 0 (by decide) (by decide)]
  obtain ⟨a1, a2, n, hn, rfl⟩ := reg_ok S hp
  have e9 : (rd S 41 9).toNatClampNeg = 49 := by rw [g4]; rfl
  -- the class
  obtain ⟨X, hX⟩ : ∃ X, X = wr (wr (up (wr S 68 1 (Int32.ofNat 49)) 49 [0]) 68 2 0) 68 3 (-1) := ⟨_, rfl⟩
  have lX0 : (up (wr S 68 1 (Int32.ofNat 49)) 49 [0] 68).length = 4 := by rw [up_ne (by decide), wr_len]; exact l68
  have x42 : tT X 42 = [] := by unfold tT; rw [hX, wr_ne (by decide), wr_ne (by decide), up_ne (by decide), wr_ne (by decide), q1]; rfl
  have x2 : rd X 68 2 = 0 := by rw [hX, rd_wr_j (by decide), rd_wr (by rw [lX0]; decide)]
  have x3 : rd X 68 3 = -1 := by rw [hX, rd_wr (by rw [wr_len, lX0]; decide)]
  have lX : (X 68).length = 4 := by rw [hX, wr_len, wr_len]; exact lX0
  have bX : c_blanks X = some X := by
    show (if Int32.ofNat (tT X 42).length ≤ rd X 68 2 then some X else _) = _
    rw [x42, x2, if_pos (by decide)]
  obtain ⟨Y, hY⟩ : ∃ Y, Y = wr X 68 3 0 := ⟨_, rfl⟩
  have y42 : tT Y 42 = [] := by unfold tT at *; rw [hY, wr_ne (by decide)]; exact x42
  have y2 : rd Y 68 2 = 0 := by rw [hY, rd_wr_j (by decide)]; exact x2
  have y3 : rd Y 68 3 = 0 := by rw [hY, rd_wr (by rw [lX]; decide)]
  have nX : c_number X = some Y := by
    unfold c_number c_break
    rw [x42, x2, tat_nil, if_neg (by decide), if_pos (by decide), x3, if_pos rfl, o_bind, hY]
  have vX : c_value 100 X 0 = some Y := by
    show c_valueB X _ 0 = _
    unfold c_valueB
    rw [x42, x2, tat_nil, if_neg (by decide), if_neg (by decide), if_neg (by decide), if_neg (by decide), if_neg (by decide), if_neg (by decide), nX, o_bind]
  have bY : c_blanks Y = some Y := by
    show (if Int32.ofNat (tT Y 42).length ≤ rd Y 68 2 then some Y else _) = _
    rw [y42, y2, if_pos (by decide)]
  have eP : c_parse S 49 = some (Y, 0) := by
    unfold c_parse
    have e1 : (rd (wr S 68 1 (Int32.ofNat 49)) 68 1).toNatClampNeg = 49 := by rw [rd_wr (by rw [l68]; decide)]; rfl
    rw [e1, ← hX, bX, o_bind, vX, o_bind, bY, o_bind, y42, y2, if_pos (by decide), y3]
  obtain ⟨Z, hZ⟩ : ∃ Z, Z = up (wr Y 41 10 0) 42 [0] := ⟨_, rfl⟩
  have oth : ∀ a, a ≠ 68 → a ≠ 49 → a ≠ 41 → a ≠ 42 → Z a = S a := fun a n1 n2 n3 n4 => by
    rw [hZ, up_ne n4, wr_ne n3, hY, wr_ne n1, hX, wr_ne n1, wr_ne n1, up_ne n2, wr_ne n1]
  have y41 : (Y 41).length = 12 := by rw [hY, wr_ne (by decide), hX, wr_ne (by decide), wr_ne (by decide), up_ne (by decide), wr_ne (by decide)]; exact l41
  have z10 : rd Z 41 10 = 0 := by rw [hZ, rd_up (by decide), rd_wr (by rw [y41]; decide)]
  have eA : a_read S (Int32.ofNat n) = some (Z, 3, 0) := by
    unfold a_read
    rw [a1, o_bind, if_pos rfl, e9, eP, o_bind, ← hZ, z10, if_neg (by decide)]
  -- the reference
  obtain ⟨S1, b1, b2, b3, b4, b5, b6, b7⟩ := begin_val (S := Z) (by rw [oth 78 (by decide) (by decide) (by decide) (by decide)]; exact l78) (by rw [oth 90 (by decide) (by decide) (by decide) (by decide)]; exact l90) (by rw [oth 91 (by decide) (by decide) (by decide) (by decide)]; exact l91)
  have r1 : rd S1 78 1 = 0 := by
    rw [b3 1 (by decide) (by decide)]
    unfold rd
    rw [oth 78 (by decide) (by decide) (by decide) (by decide)]
    exact q6
  have lS96 : (wr S1 78 1 0 96).length = 5 := by
    rw [wr_ne (by decide), b2 96 (by decide) (by decide), oth 96 (by decide) (by decide) (by decide) (by decide)]; exact l96
  obtain ⟨E, hE⟩ : ∃ E, E = wr (wr (wr (wr (wr (wr S1 78 1 0) 96 0 (Int32.ofNat 79)) 96 1 0) 96 2 0) 96 4 90) 96 3 (-1) := ⟨_, rfl⟩
  have e1 : rd E 96 1 = 0 := by rw [hE, rd_wr_j (by decide), rd_wr_j (by decide), rd_wr_j (by decide), rd_wr (by rw [wr_len, lS96]; decide)]
  have e2 : rd E 96 2 = 0 := by rw [hE, rd_wr_j (by decide), rd_wr_j (by decide), rd_wr (by rw [wr_len, wr_len, lS96]; decide)]
  have lE : (E 96).length = 5 := by rw [hE, wr_len, wr_len, wr_len, wr_len, wr_len]; exact lS96
  have eAt : e_at E 0 = some (-1) := by
    unfold e_at
    rw [e1, if_pos (by decide)]
  have bE : e_blanks E = some E := by
    show ((e_at E (rd E 96 2)).bind fun r1 => _) = _
    rw [e2, eAt, o_bind, if_neg (by decide), if_neg (by decide), if_neg (by decide), if_neg (by decide)]
  have dE : e_digit E = some 0 := by
    unfold e_digit
    rw [e2, eAt, o_bind, if_pos (by decide)]
  have nE : e_number E = some (wr E 96 3 0, 0) := by
    unfold e_number e_fail
    rw [e2, eAt, o_bind, if_neg (by decide), dE, o_bind, if_pos rfl, o_bind]
    rw [show ((wr E 96 3 0, (0 : Int32)).2 &&& 1) = 0 from by show (0 : Int32) &&& 1 = 0; decide]
  have vE : e_value 64 E 0 = some (wr E 96 3 0, 0) := by
    show e_valueB E _ 0 = _
    unfold e_valueB
    rw [e2, eAt, o_bind, if_neg (by decide), if_neg (by decide), if_neg (by decide), if_neg (by decide), if_neg (by decide), if_neg (by decide), nE, o_bind]
    rw [show ((wr E 96 3 0, (0 : Int32)).2 &&& 1) = 0 from by show (0 : Int32) &&& 1 = 0; decide]
  have rE : e_read (wr S1 78 1 0) 79 0 = some (wr E 96 3 0, 0) := by
    unfold e_read
    rw [← hE, bE, o_bind, vE, o_bind, if_pos rfl, rd_wr (by rw [lE]; decide)]
  have l78b : (wr E 96 3 0 78).length = 22 := by
    rw [wr_ne (by decide), hE, wr_ne (by decide), wr_ne (by decide), wr_ne (by decide), wr_ne (by decide), wr_ne (by decide), wr_len]; exact b6
  refine ⟨(Z, 2), (wr (wr (wr E 96 3 0) 78 3 0) 78 0 2, 0), ?_, oth 0 (by decide) (by decide) (by decide) (by decide), ?_, rd_wr (by rw [wr_len, l78b]; decide), fun e => absurd e (show ¬ (2 : Int32) = 0 by decide), ?_⟩
  · unfold h_read
    rw [eA, o_bind, if_neg (show ¬ (3 : Nat) = 0 by decide), if_neg (show ¬ (3 : Nat) = 2 by decide), if_pos rfl]
  · show b_read Z (Int32.ofNat n) = _
    unfold b_read b_fail
    rw [b1, o_bind, (reg_ok S1 hp).2.1, o_bind, if_pos rfl, r1, rE, o_bind, rd_wr (by rw [l78b]; decide), if_neg (show ¬ (0 : Int32) = -1 by decide), o_bind]
  · show wr (wr (wr E 96 3 0) 78 3 0) 78 0 2 0 = S 0
    rw [wr_ne (by decide), wr_ne (by decide), wr_ne (by decide), hE, wr_ne (by decide), wr_ne (by decide), wr_ne (by decide), wr_ne (by decide), wr_ne (by decide), wr_ne (by decide), b2 0 (by decide) (by decide)]
    exact oth 0 (by decide) (by decide) (by decide) (by decide)
/-- set: null is no path -/
theorem fst5 {S : SS} (p0 p1 p2 p3 : Int32) (hc : ∃ h, cs h S) (hI : I0 S) : ∃ (c : SS × Int32) (w : SS), h_set S p0 p1 p2 p3 = some c ∧ c.1 0 = S 0 ∧ b_set c.1 p0 p1 p2 p3 = some w ∧ rd w 78 0 = c.2 ∧ w 0 = S 0 := by
  obtain ⟨l78, l41, l90, l96, l67, l68, -⟩ := cs.l78 hc
  have hr := @I0.reg S hI
  obtain ⟨i1, i2, -, i4, ⟨g1, g2, g3, g4, g5⟩⟩ := hI
  have l91 : (S 91).length = 9000 := i1.2.2.2.2.2.2.2.1
  have bad : a_set S p0 p1 p2 p3 = some (S, 2) → (∀ S1, b_begin S = some S1 → b_set S p0 p1 p2 p3 = some (wr S1 78 0 1)) → ∃ (c : SS × Int32) (w : SS), h_set S p0 p1 p2 p3 = some c ∧ c.1 0 = S 0 ∧ b_set c.1 p0 p1 p2 p3 = some w ∧ rd w 78 0 = c.2 ∧ w 0 = S 0 := by
    intro e1 e2
    obtain ⟨S1, b1, b2, b3, b4, b5, b6, b7⟩ := begin_val l78 l90 l91
    refine ⟨(S, 1), wr S1 78 0 1, ?_, rfl, e2 S1 b1, rd_wr (by rw [b6]; decide), by rw [wr_ne (by decide), b2 0 (by decide) (by decide)]⟩
    unfold h_set
    rw [e1, o_bind, if_neg (show ¬ (2 : Nat) = 0 by decide), if_pos rfl]
  by_cases h0 : ¬ p0 < 0 ∧ p0 < 8
  rotate_left
  · refine bad ?_ fun S1 b1 => ?_
    · unfold a_set; rw [(reg_bad S h0).1, o_bind, if_neg (show ¬ (2 : Nat) = 0 by decide)]
    · unfold b_set; rw [b1, o_bind, (reg_bad S1 h0).2, o_bind, if_neg (by decide)]
  by_cases h1 : ¬ p1 < 0 ∧ p1 < 8
  rotate_left
  · refine bad ?_ fun S1 b1 => ?_
    · unfold a_set; rw [(reg_ok S h0).1, o_bind, if_pos rfl, (reg_bad S h1).1, o_bind, if_neg (show ¬ (2 : Nat) = 0 by decide)]
    · unfold b_set; rw [b1, o_bind, (reg_ok S1 h0).2.1, o_bind, if_pos rfl, (reg_bad S1 h1).2, o_bind, if_neg (by decide)]
  by_cases h2 : ¬ p2 < 0 ∧ p2 < 8
  rotate_left
  · refine bad ?_ fun S1 b1 => ?_
    · unfold a_set; rw [(reg_ok S h0).1, o_bind, if_pos rfl, (reg_ok S h1).1, o_bind, if_pos rfl, (reg_bad S h2).1, o_bind, if_neg (show ¬ (2 : Nat) = 0 by decide)]
    · unfold b_set; rw [b1, o_bind, (reg_ok S1 h0).2.1, o_bind, if_pos rfl, (reg_ok S1 h1).2.1, o_bind, if_pos rfl, (reg_bad S1 h2).2, o_bind, if_neg (by decide)]
  by_cases h3 : ¬ p3 < 0 ∧ p3 < 8
  rotate_left
  · refine bad ?_ fun S1 b1 => ?_
    · unfold a_set; rw [(reg_ok S h0).1, o_bind, if_pos rfl, (reg_ok S h1).1, o_bind, if_pos rfl, (reg_ok S h2).1, o_bind, if_pos rfl, (reg_bad S h3).1, o_bind, if_neg (show ¬ (2 : Nat) = 0 by decide)]
    · unfold b_set; rw [b1, o_bind, (reg_ok S1 h0).2.1, o_bind, if_pos rfl, (reg_ok S1 h1).2.1, o_bind, if_pos rfl, (reg_ok S1 h2).2.1, o_bind, if_pos rfl, (reg_bad S1 h3).2, o_bind, if_neg (by decide)]
  obtain ⟨a0, -, n0, hn0, rfl⟩ := reg_ok S h0
  obtain ⟨a1, -, n1, hn1, rfl⟩ := reg_ok S h1
  obtain ⟨a2, -, n2, hn2, rfl⟩ := reg_ok S h2
  obtain ⟨a3, -, n3, hn3, rfl⟩ := reg_ok S h3
  have lt9 : ∀ n, n < 8 → ([51, 53, 55, 57, 59, 61, 63, 65] : List Nat).getD n 0 < 1000 := by decide
  obtain ⟨c1, c1'⟩ := get46 g1 g2 hn1 (lt9 n1 hn1)
  obtain ⟨c2, c2'⟩ := get46 g1 g2 hn2 (lt9 n2 hn2)
  obtain ⟨c3, c3'⟩ := get46 g1 g2 hn3 (lt9 n3 hn3)
  obtain ⟨d2, d2'⟩ := get81 n2 hn2
  obtain ⟨d3, d3'⟩ := get81 n3 hn3
  have k2 := (hr hn2).1.kind
  have eU : ∀ b1 b3 d, u_put S b1 (([51, 53, 55, 57, 59, 61, 63, 65] : List Nat).getD n2 0) b3 d = some (S, 1) := by
    intro b1 b3 d
    unfold u_put
    rw [show (0 : Int32) = Int32.ofNat 0 from rfl, k2, o_bind, if_neg (by decide)]
  have eA : a_set S (Int32.ofNat n0) (Int32.ofNat n1) (Int32.ofNat n2) (Int32.ofNat n3) = some (wr S 41 11 1, 4) := by
    unfold a_set
    rw [a0, o_bind, if_pos rfl, a1, o_bind, if_pos rfl, a2, o_bind, if_pos rfl, a3, o_bind, if_pos rfl, c1, o_bind, c2, o_bind, c3, o_bind, c2', eU, o_bind, (refuse_a 1).2 (by decide), o_bind, if_neg (show ¬ (4 : Nat) = 0 by decide)]
  obtain ⟨Z, hZ⟩ : ∃ Z, Z = wr S 41 11 1 := ⟨_, rfl⟩
  have oth : ∀ a, a ≠ 41 → Z a = S a := fun a n1 => by rw [hZ, wr_ne n1]
  obtain ⟨S1, b1, b2, b3, b4, b5, b6, b7⟩ := begin_val (S := Z) (by rw [oth 78 (by decide)]; exact l78) (by rw [oth 90 (by decide)]; exact l90) (by rw [oth 91 (by decide)]; exact l91)
  obtain ⟨T, hT⟩ : ∃ T, T = wr (wr S1 78 19 (Int32.ofNat (82 + n2))) 78 20 (Int32.ofNat (82 + n3)) := ⟨_, rfl⟩
  have t19 : rd T 78 19 = Int32.ofNat (82 + n2) := by rw [hT, rd_wr_j (by decide), rd_wr (by rw [b6]; decide)]
  have t12 : rd T 78 12 = 0 := by rw [hT, rd_wr_j (by decide), rd_wr_j (by decide)]; exact b5
  have lT : (T 78).length = 22 := by rw [hT, wr_len, wr_len]; exact b6
  have tc : iget (T (82 + n2)) 0 = some 0 := by
    rw [hT, wr_ne (by omega), wr_ne (by omega), b2 _ (by omega) (by omega), oth _ (by omega)]
    exact (hr hn2).2.kind
  obtain ⟨U, hU⟩ : ∃ U, U = wr T 78 12 1 := ⟨_, rfl⟩
  obtain ⟨W, w1, w2, w3, w4, w5⟩ := finish_ref (S := U) (Int32.ofNat n0) 2 3 (by rw [hU, rd_wr (by rw [lT]; decide)]) (by rw [hU, wr_len]; exact lT)
  refine ⟨(Z, 2), W, ?_, oth 0 (by decide), ?_, w3, ?_⟩
  · unfold h_set
    rw [eA, ← hZ, o_bind, if_neg (show ¬ (4 : Nat) = 0 by decide), if_neg (show ¬ (4 : Nat) = 2 by decide), if_pos rfl]
  · show b_set Z _ _ _ _ = _
    unfold b_set b_refuse
    rw [b1, o_bind, (reg_ok S1 h0).2.1, o_bind, if_pos rfl, (reg_ok S1 h1).2.1, o_bind, if_pos rfl, (reg_ok S1 h2).2.1, o_bind, if_pos rfl, (reg_ok S1 h3).2.1, o_bind, if_pos rfl, d2, o_bind, d3, o_bind, d2', d3', ← hT, t19, if_neg (by rw [show (0 : Int32) = Int32.ofNat 0 from rfl, i_inj (by omega) (by omega)]; omega), d2', tc, o_bind, if_neg (by decide), t12, if_pos rfl, o_bind, ← hU, w1, o_bind]
  · rw [w2 0 (by decide), hU, wr_ne (by decide), hT, wr_ne (by decide), wr_ne (by decide), b2 0 (by decide) (by decide), oth 0 (by decide)]
/-- del: null is no array of paths -/
theorem fst6 {S : SS} (p0 p1 p2 : Int32) (hc : ∃ h, cs h S) (hI : I0 S) : ∃ (c : SS × Int32) (w : SS), h_del S p0 p1 p2 = some c ∧ c.1 0 = S 0 ∧ b_del c.1 p0 p1 p2 = some w ∧ rd w 78 0 = c.2 ∧ w 0 = S 0 := by
  obtain ⟨l78, l41, l90, l96, l67, l68, -⟩ := cs.l78 hc
  have hr := @I0.reg S hI
  obtain ⟨i1, i2, -, i4, ⟨g1, g2, g3, g4, g5⟩⟩ := hI
  have l91 : (S 91).length = 9000 := i1.2.2.2.2.2.2.2.1
  have bad : a_del S p0 p1 p2 = some (S, 2) → (∀ S1, b_begin S = some S1 → b_del S p0 p1 p2 = some (wr S1 78 0 1)) → ∃ (c : SS × Int32) (w : SS), h_del S p0 p1 p2 = some c ∧ c.1 0 = S 0 ∧ b_del c.1 p0 p1 p2 = some w ∧ rd w 78 0 = c.2 ∧ w 0 = S 0 := by
    intro e1 e2
    obtain ⟨S1, b1, b2, b3, b4, b5, b6, b7⟩ := begin_val l78 l90 l91
    refine ⟨(S, 1), wr S1 78 0 1, ?_, rfl, e2 S1 b1, rd_wr (by rw [b6]; decide), by rw [wr_ne (by decide), b2 0 (by decide) (by decide)]⟩
    unfold h_del
    rw [e1, o_bind, if_neg (show ¬ (2 : Nat) = 0 by decide), if_pos rfl]
  by_cases h0 : ¬ p0 < 0 ∧ p0 < 8
  rotate_left
  · refine bad ?_ fun S1 b1 => ?_
    · unfold a_del; rw [(reg_bad S h0).1, o_bind, if_neg (show ¬ (2 : Nat) = 0 by decide)]
    · unfold b_del; rw [b1, o_bind, (reg_bad S1 h0).2, o_bind, if_neg (by decide)]
  by_cases h1 : ¬ p1 < 0 ∧ p1 < 8
  rotate_left
  · refine bad ?_ fun S1 b1 => ?_
    · unfold a_del; rw [(reg_ok S h0).1, o_bind, if_pos rfl, (reg_bad S h1).1, o_bind, if_neg (show ¬ (2 : Nat) = 0 by decide)]
    · unfold b_del; rw [b1, o_bind, (reg_ok S1 h0).2.1, o_bind, if_pos rfl, (reg_bad S1 h1).2, o_bind, if_neg (by decide)]
  by_cases h2 : ¬ p2 < 0 ∧ p2 < 8
  rotate_left
  · refine bad ?_ fun S1 b1 => ?_
    · unfold a_del; rw [(reg_ok S h0).1, o_bind, if_pos rfl, (reg_ok S h1).1, o_bind, if_pos rfl, (reg_bad S h2).1, o_bind, if_neg (show ¬ (2 : Nat) = 0 by decide)]
    · unfold b_del; rw [b1, o_bind, (reg_ok S1 h0).2.1, o_bind, if_pos rfl, (reg_ok S1 h1).2.1, o_bind, if_pos rfl, (reg_bad S1 h2).2, o_bind, if_neg (by decide)]
  obtain ⟨a0, -, n0, hn0, rfl⟩ := reg_ok S h0
  obtain ⟨a1, -, n1, hn1, rfl⟩ := reg_ok S h1
  obtain ⟨a2, -, n2, hn2, rfl⟩ := reg_ok S h2
  have lt9 : ∀ n, n < 8 → ([51, 53, 55, 57, 59, 61, 63, 65] : List Nat).getD n 0 < 1000 ∧ ([51, 53, 55, 57, 59, 61, 63, 65] : List Nat).getD n 0 ≠ 72 := by decide
  obtain ⟨c2, c2'⟩ := get46 g1 g2 hn2 (lt9 n2 hn2).1
  obtain ⟨d1, d1'⟩ := get81 n1 hn1
  obtain ⟨d2, d2'⟩ := get81 n2 hn2
  have k2 := (hr hn2).1.kind
  obtain ⟨Z0, hZ0⟩ : ∃ Z, Z = wr (wr S 72 4 0) 72 5 0 := ⟨_, rfl⟩
  have eK : k_lookAt S (([51, 53, 55, 57, 59, 61, 63, 65] : List Nat).getD n2 0) = some (Z0, 1) := by
    unfold k_lookAt
    rw [← hZ0]
    have : tT Z0 (([51, 53, 55, 57, 59, 61, 63, 65] : List Nat).getD n2 0) = tT S (([51, 53, 55, 57, 59, 61, 63, 65] : List Nat).getD n2 0) := by
      unfold tT; rw [hZ0, wr_ne (lt9 n2 hn2).2, wr_ne (lt9 n2 hn2).2]
    rw [this, show (0 : Int32) = Int32.ofNat 0 from rfl, k2, o_bind, if_neg (by decide)]
  obtain ⟨Z, hZ⟩ : ∃ Z, Z = wr Z0 41 11 1 := ⟨_, rfl⟩
  have eA : a_del S (Int32.ofNat n0) (Int32.ofNat n1) (Int32.ofNat n2) = some (Z, 4) := by
    unfold a_del
    rw [a0, o_bind, if_pos rfl, a1, o_bind, if_pos rfl, a2, o_bind, if_pos rfl, c2, o_bind, c2', eK, o_bind, (refuse_a 1).2 (by decide), o_bind, if_neg (show ¬ (4 : Nat) = 0 by decide), hZ]
  have oth : ∀ a, a ≠ 41 → a ≠ 72 → Z a = S a := fun a n1 n2 => by rw [hZ, wr_ne n1, hZ0, wr_ne n2, wr_ne n2]
  obtain ⟨S1, b1, b2, b3, b4, b5, b6, b7⟩ := begin_val (S := Z) (by rw [oth 78 (by decide) (by decide)]; exact l78) (by rw [oth 90 (by decide) (by decide)]; exact l90) (by rw [oth 91 (by decide) (by decide)]; exact l91)
  have t82 : ∀ n, n < 8 → S1 (82 + n) = S (82 + n) := fun n hn => by rw [b2 _ (by omega) (by omega), oth _ (by omega) (by omega)]
  have tc : iget (S1 (82 + n2)) 0 = some 0 := by
    rw [t82 n2 hn2]
    exact (hr hn2).2.kind
  obtain ⟨U, hU⟩ : ∃ U, U = wr S1 78 12 1 := ⟨_, rfl⟩
  have u12 : rd U 78 12 = 1 := by rw [hU, rd_wr (by rw [b6]; decide)]
  have uO : OutV U [] := by
    unfold OutV rd at b7 ⊢
    rw [hU, wr_ne (by decide), wr_ne (by decide)]
    exact b7
  have u90 : rd U 90 2 = 0 := (uO.2.2.1 (by decide)).2.2
  obtain ⟨h9, hw, r, hd⟩ := (hr hn1).2
  have u82 : U (82 + n1) = S (82 + n1) := by rw [hU, wr_ne (by omega), t82 n1 hn1]
  obtain ⟨V, v1, v2, v3⟩ := ocopy (S := U) (aa := 82 + n1) (p := 0) (w := cV vNull) (r := r) (C := []) (by omega) (cV_h (by decide)) uO (by rw [u82]; exact h9) (by rw [u82]; exact hd)
  have lV : (V 78).length = 22 := by rw [v3 78 (by decide) (by decide), hU, wr_len]; exact b6
  have v12 : rd V 78 12 = 1 := by unfold rd; rw [v3 78 (by decide) (by decide)]; exact u12
  obtain ⟨W, w1, w2, w3, w4, w5⟩ := finish_ref (S := V) (Int32.ofNat n0) 2 3 v12 lV
  have z0 : (0 : Int32) ≤ 0 := by decide
  have z1 : ¬ (100 : Int32) < 0 := by decide
  have z2 : (0 : Int32) ≤ 100 := by decide
  have eL : b_del_l75 10000 U (Int32.ofNat n0) (Int32.ofNat n1) (82 + n2) 0 0 = some W := by
    show (if (0 : Int32) ≤ 0 then b_del_l112 (b_del_l75 9999) 10000 U (Int32.ofNat n0) (Int32.ofNat n1) (82 + n2) 0 0 else _) = _
    rw [if_pos z0]
    show (if (0 : Int32) ≤ 0 then b_del_l162 (b_del_l75 9999) (b_del_l112 (b_del_l75 9999) 9999) 10000 U (Int32.ofNat n0) (Int32.ofNat n1) (82 + n2) 0 0 0 else _) = _
    rw [if_pos z0]
    show (if (0 : Int32) ≤ 0 then (if (100 : Int32) < 0 then _ else (if (0 : Int32) ≤ 100 then b_del_l236 (b_del_l75 9999) (b_del_l112 (b_del_l75 9999) 9999) (b_del_l162 (b_del_l75 9999) (b_del_l112 (b_del_l75 9999) 9999) 9999) 10000 U (Int32.ofNat n0) (Int32.ofNat n1) (82 + n2) 0 0 else _)) else _) = _
    rw [if_pos z0, if_neg z1, if_pos z2]
    show (if (0 : Int32) ≤ 0 then (if (rd U 90 2) = 0 then ((iget sh81 (Int32.ofNat n1)).bind fun b25 => ((q_copy U b25.toNatClampNeg 0).bind fun r26 => _)) else _) else _) = _
    rw [if_pos z0, u90, if_pos rfl, d1, o_bind, d1', show (0 : Int32) = Int32.ofNat 0 from rfl, v1, o_bind]
    show (if (0 : Int32) ≤ 0 then ((b_finish V (Int32.ofNat n0) 2 3).bind fun r29 => some r29) else _) = _
    rw [if_pos z0, w1, o_bind]
  refine ⟨(Z, 2), W, ?_, oth 0 (by decide) (by decide), ?_, w3, ?_⟩
  · unfold h_del
    rw [eA, o_bind, if_neg (show ¬ (4 : Nat) = 0 by decide), if_neg (show ¬ (4 : Nat) = 2 by decide), if_pos rfl]
  · show b_del Z _ _ _ = _
    unfold b_del b_refuse
    rw [b1, o_bind, (reg_ok S1 h0).2.1, o_bind, if_pos rfl, (reg_ok S1 h1).2.1, o_bind, if_pos rfl, (reg_ok S1 h2).2.1, o_bind, if_pos rfl, d2, o_bind, d2', tc, o_bind, if_neg (by decide), b5, if_pos rfl, o_bind, ← hU, eL]
  · rw [w2 0 (by decide), v3 0 (by decide) (by decide), hU, wr_ne (by decide), b2 0 (by decide) (by decide), oth 0 (by decide) (by decide)]
/-- same: null and null -/
theorem fst8 {S : SS} (p0 p1 : Int32) (hc : ∃ h, cs h S) (hI : I0 S) : ∃ (c : SS × Int32) (w : SS × Int32), h_same S p0 p1 = some c ∧ c.1 0 = S 0 ∧ b_same c.1 p0 p1 = some w ∧ rd w.1 78 0 = c.2 ∧ (c.2 = 0 → lg (w.1 101) = if w.2 = 0 then 0 else 1) ∧ w.1 0 = S 0 := by
  obtain ⟨l78, l41, -⟩ := cs.l78 hc
  have hr := @I0.reg S hI
  obtain ⟨i1, i2, -, i4, ⟨g1, g2, g3, g4, g5⟩⟩ := hI
  have bad : h_same S p0 p1 = some (S, 1) → b_same S p0 p1 = some (wr S 78 0 1, 0) → ∃ (c : SS × Int32) (w : SS × Int32), h_same S p0 p1 = some c ∧ c.1 0 = S 0 ∧ b_same c.1 p0 p1 = some w ∧ rd w.1 78 0 = c.2 ∧ (c.2 = 0 → lg (w.1 101) = if w.2 = 0 then 0 else 1) ∧ w.1 0 = S 0 := fun e1 e2 =>
    ⟨(S, 1), (wr S 78 0 1, 0), e1, rfl, e2, rd_wr (by rw [l78]; decide), fun e => absurd e (show ¬ (1 : Int32) = 0 by decide), (show wr S 78 0 1 0 = S 0 from wr_ne (by decide))⟩
  have w1 : ¬ rd (wr S 78 0 1) 78 0 = 0 := by rw [rd_wr (by rw [l78]; decide)]; decide
  by_cases hp : ¬ p0 < 0 ∧ p0 < 8
  rotate_left
  · obtain ⟨a1, a2⟩ := reg_bad S hp
    apply bad
    · unfold h_same a_same
      rw [a1, o_bind, if_neg (show ¬ (2 : Nat) = 0 by decide), o_bind, if_neg (show ¬ (2 : Nat) = 0 by decide), if_pos rfl]
    · unfold b_same
      rw [a2, o_bind, if_neg (by decide), if_neg w1]
  obtain ⟨a1, a2, n, hn, rfl⟩ := reg_ok S hp
  by_cases hp' : ¬ p1 < 0 ∧ p1 < 8
  rotate_left
  · obtain ⟨b1, b2⟩ := reg_bad S hp'
    apply bad
    · unfold h_same a_same
      rw [a1, o_bind, if_pos rfl, b1, o_bind, if_neg (show ¬ (2 : Nat) = 0 by decide), o_bind, if_neg (show ¬ (2 : Nat) = 0 by decide), if_pos rfl]
    · unfold b_same
      rw [a2, o_bind, if_pos rfl, b2, o_bind, if_neg (by decide), if_neg w1]
  obtain ⟨b1, b2, n', hn', rfl⟩ := reg_ok S hp'
  have lt9 : ∀ n, n < 8 → ([51, 53, 55, 57, 59, 61, 63, 65] : List Nat).getD n 0 < 1000 := by decide
  obtain ⟨e46, e46'⟩ := get46 g1 g2 hn (lt9 n hn)
  obtain ⟨f46, f46'⟩ := get46 g1 g2 hn' (lt9 n' hn')
  obtain ⟨e81, e81'⟩ := get81 n hn
  obtain ⟨f81, f81'⟩ := get81 n' hn'
  have eC : o_cmp 100 S (([51, 53, 55, 57, 59, 61, 63, 65] : List Nat).getD n 0) 0 (([51, 53, 55, 57, 59, 61, 63, 65] : List Nat).getD n' 0) 0 0 = some (S, 0) := by
    show o_cmpB S _ _ _ 0 0 0 = _
    unfold o_cmpB
    rw [show t_kind (tT S (([51, 53, 55, 57, 59, 61, 63, 65] : List Nat).getD n 0)) 0 = some 0 from (hr hn).1.kind, o_bind, show t_kind (tT S (([51, 53, 55, 57, 59, 61, 63, 65] : List Nat).getD n' 0)) 0 = some 0 from (hr hn').1.kind, o_bind, if_pos rfl, if_pos (by decide), if_neg (by decide), if_neg (by decide), if_neg (by decide), if_neg (by decide)]
  obtain ⟨T, hT⟩ : ∃ T, T = up S 101 (lgE 1) := ⟨_, rfl⟩
  have oth : ∀ a, a ≠ 101 → T a = S a := fun a h => by rw [hT, up_ne h]
  have w0 : rd (wr T 78 0 0) 78 0 = 0 := by rw [rd_wr (by rw [oth 78 (by decide), l78]; decide)]
  have s82 : ∀ k, k < 8 → wr T 78 0 0 (82 + k) = S (82 + k) := fun k hk => by rw [wr_ne (by omega), oth _ (by omega)]
  have eR : r_cmp (S (82 + n)) (S (82 + n')) 70 0 0 = some 0 := by
    show r_compareB _ _ _ 0 0 = _
    unfold r_compareB
    rw [show iget (S (82 + n)) 0 = some 0 from (hr hn).2.kind, o_bind, show iget (S (82 + n')) 0 = some 0 from (hr hn').2.kind, o_bind, if_pos rfl, if_neg (by decide), if_neg (by decide), if_neg (by decide), if_neg (by decide)]
  refine ⟨(T, 0), (wr T 78 0 0, 1), ?_, oth 0 (by decide), ?_, w0, fun _ => ?_, ?_⟩
  · unfold h_same a_same
    rw [a1, o_bind, if_pos rfl, b1, o_bind, if_pos rfl, e46, o_bind, f46, o_bind, e46', f46', eC, o_bind, if_pos rfl, o_bind, if_pos rfl, if_neg (show ¬ (1 : Int32) = 0 by decide), hT]
  · show b_same T _ _ = _
    unfold b_same b_same2
    rw [(reg_ok T hp).2.1, o_bind, if_pos rfl, (reg_ok T hp').2.1, o_bind, if_pos rfl, if_pos w0, e81, o_bind, f81, o_bind, e81', f81', s82 n hn, s82 n' hn', eR, o_bind, if_pos rfl, o_bind, if_neg (by decide)]
  · show lg (wr T 78 0 0 101) = _
    rw [wr_ne (by decide), hT, up_same, lg_E]
    show (1 : Int64) = if (1 : Int32) = 0 then 0 else 1
    decide
  · show wr T 78 0 0 0 = S 0
    rw [wr_ne (by decide), oth 0 (by decide)]
end First200
