/-! The reference's put: a place. -/
section RPut164
theorem j64 {j : Nat} (hj : j ≤ 100000) : ((Int32.ofNat j).toInt64).toInt = j := by rw [l_32 j (by omega), l_of (by omega) (by omega)]
theorem nul_blk (k : Nat) : (blks false (List.replicate (k + 1) nulM)).flatten = (blks false (List.replicate k nulM)).flatten ++ [0, 2] := by
  rw [List.replicate_succ', blks_app, List.flatten_append]
  rfl
/-- from null: an array filled with null -/
theorem pplace_0l {aa pb vb N dp i : Nat} {pt vt : Vl} {m : Mb} {ls : List Mb} {C : List Int32} {p0 at_ : Int32} {l9 : Int64} {X : Nat} {rec : SS → Nat → Int32 → Int32 → Int32 → Option SS} (ha : C.length ≤ 9000 → at_ = Int32.ofNat C.length) (hX : l9.toInt = X) (hX2 : X ≤ 1000) (hrec : recO rec aa pb vb N dp pt vt ls) : ∀ (k j n : Nat) (S : SS), j + k = X → k < n → prP S aa pb vb pt vt → atP S pb i N (m :: ls) → rd S 78 12 = 0 → OutV S (C ++ 5 :: 0 :: (blks false (List.replicate j nulM)).flatten) → ∃ S' C', b_putPlace_l123 aa rec n S p0 0 (Int32.ofNat i) (Int32.ofNat dp) 0 0 l9 at_ 0 (Int32.ofNat j) = some S' ∧ fr3 S S' ∧ OutV S' (C ++ (5 :: Int32.ofNat (((blks false (List.replicate X nulM)).flatten ++ (C' ++ [])).length + 2) :: ((blks false (List.replicate X nulM)).flatten ++ (C' ++ [])))) ∧ (∀ U, putS (ls.map fun m => m.2) vNull none vt = some U → rd S' 78 12 = 0 ∧ wV U ∧ (C' = cV U ∨ (9000 < C'.length ∧ 64 < dp + 1 + dV U))) ∧ (putS (ls.map fun m => m.2) vNull none vt = none → ¬ rd S' 78 12 ≤ 0) := by
  intro k
  induction k with
  | zero =>
    intro j n S hj hn hP hA hr ho
    obtain ⟨n, rfl⟩ : ∃ j, n = j + 1 := ⟨n - 1, by omega⟩
    have hjX : j = X := by omega
    subst hjX
    obtain ⟨p1, p2, -, -⟩ := hP.p
    obtain ⟨-, -, cp, cv, h39, h40, h78, b1, b2, b3⟩ := id hP
    obtain ⟨c1, c2, c3, c4⟩ := hA.cons cp.1
    obtain ⟨S2, d1, d2, C', d3, d4, d5⟩ := hrec S _ (-1) vNull (i + (cV m.2).length) hP c4 ho hr (Or.inl ⟨rfl, rfl⟩) (fun c => absurd rfl c)
    have o2 : OutV S2 (C ++ 5 :: 0 :: ((blks false (List.replicate j nulM)).flatten ++ (C' ++ []))) := by simpa using d3
    obtain ⟨S3, z1, z2, z3⟩ := oclose (C := C) (k := 5) (at_ := at_) o2 ha
    refine ⟨S3, C', ?_, d2.trans (fr3_O z3), z2, fun U hU => by rw [frO_12 z3]; exact d4 U hU, fun hn => by rw [frO_12 z3]; exact d5 hn⟩
    unfold b_putPlace_l123 b_putPlace_l229
    rw [if_pos ((lg_ge _ _).mpr (by rw [hX, j64 (by omega)]; omega)), if_pos ((lg_ge _ _).mpr (by rw [hX, show (0 : Int32) = Int32.ofNat 0 from rfl, j64 (by omega)]; omega)), if_neg p1, p2, c3, o_bind, i_a1, d1, o_bind, if_neg (by decide), z1, o_bind]
  | succ k ih =>
    intro j n S hj hn hP hA hr ho
    obtain ⟨n, rfl⟩ : ∃ j, n = j + 1 := ⟨n - 1, by omega⟩
    obtain ⟨-, -, cp, cv, h39, h40, h78, b1, b2, b3⟩ := id hP
    obtain ⟨S1, q1, q2, q3⟩ := osimple ho 0
    have f1 := fr3_O q3
    obtain ⟨S', C', j1, j2, j3, j4, j5⟩ := ih (j + 1) n S1 (by omega) (by omega) (hP.fr f1) (hA.fr b2 f1) (by rw [frO_12 q3]; exact hr) (by rw [nul_blk]; simpa using q2)
    refine ⟨S', C', ?_, f1.trans j2, j3, j4, j5⟩
    unfold b_putPlace_l123
    rw [if_neg (by rw [lg_ge, hX, j64 (by omega)]; omega), if_pos (by rw [show (0 : Int32) = Int32.ofNat 0 from rfl, i_le' (by omega) (by omega)]; omega), q1, o_bind, i_a1]
    exact j1
theorem pplace_0 {S : SS} {aa pb vb N dp i : Nat} {pt vt : Vl} {m : Mb} {ls : List Mb} {C : List Int32} {p0 : Int32} {rec : SS → Nat → Int32 → Int32 → Int32 → Option SS} (hP : prP S aa pb vb pt vt) (ho : OutV S C) (hr : rd S 78 12 = 0) (hA : atP S pb i N (m :: ls)) (e3 : m.2.1 = 3) (hrec : recO rec aa pb vb N dp pt vt ls) : ∃ S', b_putPlace S aa rec p0 0 (Int32.ofNat i) (Int32.ofNat dp) = some S' ∧ rpO S S' C (if 0 ≤ m.2.2.1 ∧ m.2.2.1 ≤ 1000 then (putS (ls.map fun m => m.2) vNull none vt).map (fun u => (5, 0, [], ofL (List.replicate m.2.2.1.toNat nulM ++ [([], u)]))) else none) dp := by
  obtain ⟨p1, p2, -, -⟩ := hP.p
  obtain ⟨-, -, cp, -, -, -, h78, b1, b2, b3⟩ := id hP
  obtain ⟨-, c2, -, -⟩ := hA.cons cp.1
  have c2' := c2
  rw [vl3 e3] at c2'
  have hx := c2.2.1.2.1 e3
  have l1 := l_of (z := m.2.2.1) (by omega) (by omega)
  have z0 : (0 : Int64).toInt = 0 := rfl
  have z1 : (1000 : Int64).toInt = 1000 := rfl
  have z00 : ((0 : Int32).toInt64).toInt = 0 := rfl
  have la : (Int64.ofInt m.2.2.1 + (0 : Int32).toInt64).toInt = m.2.2.1 := by rw [l_add (by rw [l1]; omega) (by rw [z00]; omega), l1, z00]; omega
  obtain ⟨Sr, y1, y2⟩ := rref (v := 2) (dp := dp) h78 ho (by decide) hr
  have ref : b_putPlace_l85 aa rec S = some Sr := by unfold b_putPlace_l85; exact y1
  unfold b_putPlace
  rw [if_pos rfl, if_neg p1, p2, c2'.number, o_bind]
  by_cases ok : 0 ≤ m.2.2.1 ∧ m.2.2.1 ≤ 1000
  · obtain ⟨S1, at_, o1, o2, o3, o4⟩ := oopen ho 5
    have f1 := fr3_O o3
    obtain ⟨S2, C', z1', z2, z3, z4, z5⟩ := pplace_0l (p0 := p0) (X := m.2.2.1.toNat) (l9 := Int64.ofInt m.2.2.1) o4 (by rw [l1]; omega) (by omega) hrec m.2.2.1.toNat 0 10000 S1 (by omega) (by omega) (hP.fr f1) (hA.fr b2 f1) (by rw [frO_12 o3]; exact hr) o2
    rw [if_pos ok]
    refine ⟨S2, ?_, rbox (k := 5) (L := fun u => List.replicate m.2.2.1.toNat nulM ++ [([], u)]) (Or.inl rfl) (f1.trans z2) z3 z4 z5 (fun U hU => ⟨wV_arr1 _ hU, ⟨([], U), by simp, rfl⟩, ?_⟩)⟩
    · rw [if_pos ((lg_ge _ _).mpr (by rw [l1, z0]; omega)), if_neg (by rw [lg_lt, l1, z0]; omega), if_pos ((lg_le _ _).mpr (by rw [l1, z1]; omega)), o1, o_bind, if_neg (by decide)]
      exact z1'
    · show (blks false (List.replicate m.2.2.1.toNat nulM ++ [([], U)])).flatten = _
      rw [blks_app, List.flatten_append, (blks_m _ _).2]
      rfl
  · rw [if_neg ok]
    refine ⟨Sr, ?_, y2⟩
    rw [ref]
    by_cases c : 0 ≤ m.2.2.1
    · rw [if_pos ((lg_ge _ _).mpr (by rw [l1, z0]; omega)), if_neg (by rw [lg_lt, l1, z0]; omega), if_neg (by rw [lg_le, l1, z1]; omega)]
    · rw [if_neg (by rw [lg_ge, l1, z0]; omega), if_pos ((lg_lt _ _).mpr (by rw [la, z0]; omega))]
/-- how an array's place ends -/
theorem pp229 {S : SS} {aa p E : Nat} {v0 : Int} {s0 : List Int32} {l : List Mb} {C D : List Int32} {at_ : Int32} {rec : SS → Nat → Int32 → Int32 → Int32 → Option SS} {k123 : SS → Int32 → Int32 → Int32 → Int32 → Int32 → Int32 → Int64 → Int32 → Int32 → Int32 → Option SS} (haa : aa ≠ 90 ∧ aa ≠ 91) (ha : C.length ≤ 9000 → at_ = Int32.ofNat C.length) (hc : cat (S aa) p (5, v0, s0, ofL l)) (hE : E ≤ l.length) (ho : OutV S (C ++ 5 :: 0 :: D)) : ∃ S', b_putPlace_l229 aa rec k123 S (Int32.ofNat p) 5 (Int32.ofNat (pos (5, v0, s0, ofL l) p E)) at_ = some S' ∧ frO S S' ∧ OutV S' (C ++ (5 :: Int32.ofNat ((D ++ (blks false (l.drop E)).flatten).length + 2) :: (D ++ (blks false (l.drop E)).flatten))) := by
  obtain ⟨S1, v1, v2, v3⟩ := cellsQ (i := E) (j := l.length) haa hc hE (Nat.le_refl _) ho
  have epn : pos (5, v0, s0, ofL l) p l.length = p + (cV (5, v0, s0, ofL l)).length := by
    obtain ⟨y1, y2, -⟩ := pos_in hc (Nat.le_refl l.length)
    rw [y1, y2, List.take_of_length_le (Nat.le_refl _)]
    omega
  rw [epn] at v1
  rw [List.take_of_length_le (show (l.drop E).length ≤ l.length - E by rw [List.length_drop]; exact Nat.le_refl _)] at v2
  obtain ⟨S2, z1, z2, z3⟩ := oclose (C := C) (k := 5) (at_ := at_) (body := D ++ (blks false (l.drop E)).flatten) (by simpa using v2) ha
  refine ⟨S2, ?_, v3.trans z3, z2⟩
  unfold b_putPlace_l229
  rw [if_pos rfl, (hc.next).1, o_bind, v1, o_bind, z1, o_bind]
/-- what the loop over an array's place has written -/
def ppD (l : List Mb) (A n j : Nat) : List Mb := l.take (A + min j n) ++ List.replicate (j - n) nulM
theorem pplace_5l {aa pb vb N dp i p A n E : Nat} {pt vt : Vl} {m : Mb} {ls : List Mb} {C : List Int32} {at_ : Int32} {l9 : Int64} {X : Nat} {v0 : Int} {s0 : List Int32} {l : List Mb} {rec : SS → Nat → Int32 → Int32 → Int32 → Option SS} (ha : C.length ≤ 9000 → at_ = Int32.ofNat C.length) (hX : l9.toInt = X) (hX2 : X ≤ 1000) (hAE : E = A + n) (hEl : E ≤ l.length) (hp9 : p < 9000) (hdp : dV (5, v0, s0, ofL l) + dp ≤ 60) (hrec : recO rec aa pb vb N dp pt vt ls) : ∀ (k j n2 : Nat) (S : SS), j + k = X → k < n2 → prP S aa pb vb pt vt → atP S pb i N (m :: ls) → rd S 78 12 = 0 → cat (S aa) p (5, v0, s0, ofL l) → OutV S (C ++ 5 :: 0 :: (blks false (ppD l A n j)).flatten) → ∃ S' D Z C', b_putPlace_l123 aa rec n2 S (Int32.ofNat p) 5 (Int32.ofNat i) (Int32.ofNat dp) (Int32.ofNat (pos (5, v0, s0, ofL l) p E)) (Int32.ofNat n) l9 at_ (Int32.ofNat (pos (5, v0, s0, ofL l) p (A + min j n))) (Int32.ofNat j) = some S' ∧ fr3 S S' ∧ OutV S' (C ++ (5 :: Int32.ofNat ((D ++ (C' ++ Z)).length + 2) :: (D ++ (C' ++ Z)))) ∧ (∀ U, putS (ls.map fun m => m.2) (if X < n then (l.getD (A + X) nulM).2 else vNull) none vt = some U → rd S' 78 12 = 0 ∧ wV U ∧ (C' = cV U ∨ (9000 < C'.length ∧ 64 < dp + 1 + dV U))) ∧ (putS (ls.map fun m => m.2) (if X < n then (l.getD (A + X) nulM).2 else vNull) none vt = none → ¬ rd S' 78 12 ≤ 0) ∧ D = (blks false (ppD l A n X)).flatten ∧ Z = (blks false (if X < n then l.drop (A + X + 1) else l.drop E)).flatten := by
  intro k
  induction k with
  | zero =>
    intro j n2 S hj hn hP hA hr hc ho
    obtain ⟨n2, rfl⟩ : ∃ j, n2 = j + 1 := ⟨n2 - 1, by omega⟩
    have hjX : j = X := by omega
    subst hjX
    obtain ⟨p1, p2, -, -⟩ := hP.p
    obtain ⟨-, -, cp, cv, h39, h40, h78, b1, b2, b3⟩ := id hP
    obtain ⟨c1, c2, c3, c4⟩ := hA.cons cp.1
    have hn2 := hc.next.2
    have h9 := hc.1
    have hlen : l.length ≤ 9000 := by
      obtain ⟨y1, y2, -⟩ := pos_in hc (Nat.le_refl l.length)
      have hbl := blks_len false l
      have hfl := flat2 _ (blks_h (b := false) hc.2.1.kids)
      simp only [Bool.false_eq_true, if_false] at hbl
      omega
    unfold b_putPlace_l123
    rw [if_pos ((lg_ge _ _).mpr (by rw [hX, j64 (by omega)]; omega))]
    by_cases hin : j < n
    · rw [if_pos hin, if_pos hin]
      have hjl : A + j < l.length := by omega
      have emn : A + min j n = A + j := by omega
      have egd : l.getD (A + j) nulM = l[A + j] := getD_in _ hjl
      rw [egd, emn]
      have hce : cat (S aa) (pos (5, v0, s0, ofL l) p (A + j)) (l[A + j]).2 := by
        have := hc.elem hjl
        have e1 : pos (5, v0, s0, ofL l) p (A + j) = bp (p + 2) (blks false l) (A + j) := by
          unfold pos
          rw [if_neg (show ¬ (5 : Nat) = 4 by decide)]
          show bp (p + 2) (blks false (toL (ofL l))) (A + j) = _
          rw [toL_ofL]
        rw [e1]
        exact this
      have hpl : pos (5, v0, s0, ofL l) p (A + j) < 9000 := by
        have := hce.next.2
        omega
      have hdk := dV_kid (k := 5) (v := v0) (s := s0) (Or.inl rfl) (List.getElem_mem hjl)
      obtain ⟨S2, d1, d2, C', d3, d4, d5⟩ := hrec S _ (Int32.ofNat (pos (5, v0, s0, ofL l) p (A + j))) (l[A + j]).2 (i + (cV m.2).length) hP c4 ho hr (Or.inr ⟨_, rfl, hpl, hce⟩) (fun _ => by omega)
      have ea2 : S2 aa = S aa := d2.1 aa (by omega) (by omega) (by omega)
      have hc2 : cat (S2 aa) p (5, v0, s0, ofL l) := by rw [ea2]; exact hc
      have enx : r_next (S2 aa) (Int32.ofNat (pos (5, v0, s0, ofL l) p (A + j))) = some (Int32.ofNat (pos (5, v0, s0, ofL l) p (A + j + 1))) := by
        rw [ea2, hce.next.1]
        congr 2
        obtain ⟨y1, -, -⟩ := pos_in hc (show A + j ≤ l.length by omega)
        obtain ⟨y2, -, -⟩ := pos_in hc (show A + j + 1 ≤ l.length by omega)
        rw [y1, y2, List.take_succ_eq_append_getElem hjl, blks_app, List.flatten_append, List.length_append, (blks_m _ _).2]
        show _ = p + 2 + (_ + (cV _ ++ []).length)
        rw [List.append_nil]
        omega
      obtain ⟨S3, v1, v2, v3⟩ := cellsQ (i := A + j + 1) (j := E) (by omega) hc2 (by omega) hEl d3
      have hc3 : cat (S3 aa) p (5, v0, s0, ofL l) := by rw [v3 aa (by omega) (by omega)]; exact hc2
      obtain ⟨S4, w1, w2, w3⟩ := pp229 (rec := rec) (k123 := b_putPlace_l123 aa rec n2) (D := (blks false (ppD l A n j)).flatten ++ (C' ++ (blks false ((l.drop (A + j + 1)).take (E - (A + j + 1)))).flatten)) (by omega) ha hc3 hEl (by simpa using v2)
      have ez : (blks false ((l.drop (A + j + 1)).take (E - (A + j + 1)))).flatten ++ (blks false (l.drop E)).flatten = (blks false (l.drop (A + j + 1))).flatten := by
        rw [← List.flatten_append, ← blks_app]
        congr 2
        have : l.drop E = (l.drop (A + j + 1)).drop (E - (A + j + 1)) := by rw [List.drop_drop]; congr 1; omega
        rw [this, List.take_append_drop]
      refine ⟨S4, (blks false (ppD l A n j)).flatten, (blks false (l.drop (A + j + 1))).flatten, C', ?_, (d2.trans (fr3_O v3)).trans (fr3_O w2), ?_, fun U hU => by rw [frO_12 w2, frO_12 v3]; exact d4 U hU, fun hn => by rw [frO_12 w2, frO_12 v3]; exact d5 hn, rfl, rfl⟩
      · rw [if_neg (by rw [lg_ge, hX, j64 (by omega)]; omega), if_neg p1, p2, c3, o_bind, i_a1, d1, o_bind, enx, o_bind, v1, o_bind, w1]
      · rw [← ez]
        simpa using w3
    · rw [if_neg hin, if_neg hin]
      obtain ⟨S2, d1, d2, C', d3, d4, d5⟩ := hrec S _ (-1) vNull (i + (cV m.2).length) hP c4 ho hr (Or.inl ⟨rfl, rfl⟩) (fun c => absurd rfl c)
      have ea2 : S2 aa = S aa := d2.1 aa (by omega) (by omega) (by omega)
      have hc2 : cat (S2 aa) p (5, v0, s0, ofL l) := by rw [ea2]; exact hc
      obtain ⟨S4, w1, w2, w3⟩ := pp229 (rec := rec) (k123 := b_putPlace_l123 aa rec n2) (D := (blks false (ppD l A n j)).flatten ++ C') (by omega) ha hc2 hEl (by simpa using d3)
      refine ⟨S4, (blks false (ppD l A n j)).flatten, (blks false (l.drop E)).flatten, C', ?_, d2.trans (fr3_O w2), by simpa using w3, fun U hU => by rw [frO_12 w2]; exact d4 U hU, fun hn => by rw [frO_12 w2]; exact d5 hn, rfl, rfl⟩
      rw [if_pos ((lg_ge _ _).mpr (by rw [hX, j64 (by omega)]; omega)), if_neg p1, p2, c3, o_bind, i_a1, d1, o_bind, w1]
  | succ k ih =>
    intro j n2 S hj hn hP hA hr hc ho
    obtain ⟨n2, rfl⟩ : ∃ j, n2 = j + 1 := ⟨n2 - 1, by omega⟩
    obtain ⟨-, -, cp, cv, h39, h40, h78, b1, b2, b3⟩ := id hP
    have h9 := hc.1
    have hn9 := hc.next.2
    have hlen : l.length ≤ 9000 := by
      obtain ⟨y1, y2, -⟩ := pos_in hc (Nat.le_refl l.length)
      have hbl := blks_len false l
      have hfl := flat2 _ (blks_h (b := false) hc.2.1.kids)
      simp only [Bool.false_eq_true, if_false] at hbl
      omega
    by_cases hin : n ≤ j
    · obtain ⟨S1, q1, q2, q3⟩ := osimple ho 0
      have f1 := fr3_O q3
      have eD : (blks false (ppD l A n (j + 1))).flatten = (blks false (ppD l A n j)).flatten ++ [0, 2] := by
        unfold ppD
        rw [show j + 1 - n = (j - n) + 1 by omega, show min (j + 1) n = min j n by omega, blks_app, blks_app, List.flatten_append, List.flatten_append, nul_blk, List.append_assoc]
      obtain ⟨S', D, Z, C', j1, j2, j3⟩ := ih (j + 1) n2 S1 (by omega) (by omega) (hP.fr f1) (hA.fr b2 f1) (by rw [frO_12 q3]; exact hr) (by rw [q3 aa (by omega) (by omega)]; exact hc) (by rw [eD]; simpa using q2)
      refine ⟨S', D, Z, C', ?_, f1.trans j2, j3⟩
      rw [show min (j + 1) n = min j n by omega] at j1
      unfold b_putPlace_l123
      rw [if_neg (by rw [lg_ge, hX, j64 (by omega)]; omega), if_pos ((i_le' (by omega) (by omega)).mpr hin), q1, o_bind, i_a1]
      exact j1
    · have hjl : A + j < l.length := by omega
      have emn : A + min j n = A + j := by omega
      have hce : cat (S aa) (pos (5, v0, s0, ofL l) p (A + j)) (l[A + j]).2 := by
        have := hc.elem hjl
        have e1 : pos (5, v0, s0, ofL l) p (A + j) = bp (p + 2) (blks false l) (A + j) := by
          unfold pos
          rw [if_neg (show ¬ (5 : Nat) = 4 by decide)]
          show bp (p + 2) (blks false (toL (ofL l))) (A + j) = _
          rw [toL_ofL]
        rw [e1]
        exact this
      obtain ⟨-, wk, rk, dk⟩ := id hce
      obtain ⟨S1, q1, q2, q3⟩ := ocopy (aa := aa) (by omega) (cV_h wk.1) ho h9 dk
      have f1 := fr3_O q3
      have ea1 : S1 aa = S aa := q3 aa (by omega) (by omega)
      have enx : r_next (S1 aa) (Int32.ofNat (pos (5, v0, s0, ofL l) p (A + j))) = some (Int32.ofNat (pos (5, v0, s0, ofL l) p (A + j + 1))) := by
        rw [ea1, hce.next.1]
        congr 2
        obtain ⟨y1, -, -⟩ := pos_in hc (show A + j ≤ l.length by omega)
        obtain ⟨y2, -, -⟩ := pos_in hc (show A + j + 1 ≤ l.length by omega)
        rw [y1, y2, List.take_succ_eq_append_getElem hjl, blks_app, List.flatten_append, List.length_append, (blks_m _ _).2]
        show _ = p + 2 + (_ + (cV _ ++ []).length)
        rw [List.append_nil]
        omega
      have eD : (blks false (ppD l A n (j + 1))).flatten = (blks false (ppD l A n j)).flatten ++ cV (l[A + j]).2 := by
        unfold ppD
        rw [show j + 1 - n = 0 by omega, show j - n = 0 by omega, show A + min (j + 1) n = A + j + 1 by omega, emn, List.take_succ_eq_append_getElem hjl]
        simp only [List.replicate_zero, List.append_nil]
        rw [blks_app, List.flatten_append, (blks_m _ _).2]
        show _ ++ (cV _ ++ []) = _
        rw [List.append_nil]
      obtain ⟨S', D, Z, C', j1, j2, j3⟩ := ih (j + 1) n2 S1 (by omega) (by omega) (hP.fr f1) (hA.fr b2 f1) (by rw [frO_12 q3]; exact hr) (by rw [ea1]; exact hc) (by rw [eD]; simpa using q2)
      refine ⟨S', D, Z, C', ?_, f1.trans j2, j3⟩
      rw [show A + min (j + 1) n = A + j + 1 by omega] at j1
      unfold b_putPlace_l123
      rw [if_neg (by rw [lg_ge, hX, j64 (by omega)]; omega), if_neg (by rw [i_le' (by omega) (by omega)]; omega), emn, q1, o_bind, enx, o_bind, i_a1]
      exact j1
/-- a place of an array -/
theorem pplace_5 {S : SS} {aa pb vb N dp i p : Nat} {pt vt : Vl} {m : Mb} {ls : List Mb} {C : List Int32} {v0 : Int} {s0 : List Int32} {l : List Mb} {w : Option (Nat × Nat)} {rec : SS → Nat → Int32 → Int32 → Int32 → Option SS} (hP : prP S aa pb vb pt vt) (ho : OutV S C) (hr : rd S 78 12 = 0) (hA : atP S pb i N (m :: ls)) (e3 : m.2.1 = 3) (hs : spR S aa (5, v0, s0, ofL l) w (Int32.ofNat p)) (hp9 : p < 9000) (hdp : dV (5, v0, s0, ofL l) + dp ≤ 60) (hrec : recO rec aa pb vb N dp pt vt ls) : ∃ S', b_putPlace S aa rec (Int32.ofNat p) 5 (Int32.ofNat i) (Int32.ofNat dp) = some S' ∧ rpO S S' C (putS (m.2 :: ls.map fun m => m.2) (5, v0, s0, ofL l) w vt) dp := by
  obtain ⟨p1, p2, -, -⟩ := hP.p
  obtain ⟨-, -, cp, -, -, -, h78, b1, b2, b3⟩ := id hP
  obtain ⟨-, c2, -, -⟩ := hA.cons cp.1
  have c2' := c2
  rw [vl3 e3] at c2'
  have hx := c2.2.1.2.1 e3
  obtain ⟨g1, g2⟩ := between_val hs rfl
  obtain ⟨p', ep, hp', hc, hwo, -, hwb⟩ := hs
  have epp : p = p' := (i_inj (by omega) (by omega)).mp ep
  subst epp
  obtain ⟨x1, x2⟩ := hwb (Or.inr rfl)
  obtain ⟨wl1, wl2, wl3⟩ := win_le hwo
  have hsz : size (5, v0, s0, ofL l) = l.length := by unfold size; rw [if_neg (show ¬ (5 : Nat) = 4 by decide)]; exact congrArg List.length (toL_ofL l)
  rw [hsz] at wl2
  obtain ⟨A, hAd⟩ : ∃ A, A = winA (5, v0, s0, ofL l) w := ⟨_, rfl⟩
  obtain ⟨E, hEd⟩ : ∃ E, E = winE (5, v0, s0, ofL l) w := ⟨_, rfl⟩
  obtain ⟨n, hnd⟩ : ∃ n, n = winN (5, v0, s0, ofL l) w := ⟨_, rfl⟩
  rw [← hAd] at x1 wl1 wl3
  rw [← hEd] at x2 wl1 wl2 wl3
  rw [← hnd] at g1 g2 wl3
  have l1 := l_of (z := m.2.2.1) (by omega) (by omega)
  have z0 : (0 : Int64).toInt = 0 := rfl
  have z1 : (1000 : Int64).toInt = 1000 := rfl
  have hnt : ((Int32.ofNat n).toInt64).toInt = n := j64 (by omega)
  have la : (Int64.ofInt m.2.2.1 + (Int32.ofNat n).toInt64).toInt = m.2.2.1 + n := by rw [l_add (by rw [l1]; omega) (by rw [hnt]; omega), l1, hnt]
  obtain ⟨Sr, y1, y2⟩ := rref (v := 2) (dp := dp) h78 ho (by decide) hr
  have ref : b_putPlace_l85 aa rec S = some Sr := by unfold b_putPlace_l85; exact y1
  obtain ⟨X, hX⟩ : ∃ X, X = atX m.2.2.1 n := ⟨_, rfl⟩
  have eS : putS (m.2 :: ls.map fun m => m.2) (5, v0, s0, ofL l) w vt = if 0 ≤ X ∧ X ≤ 1000 then (if X < n then (putS (ls.map fun m => m.2) ((l.getD (A + X.toNat) nulM).2) none vt).map (fun u => (5, v0, s0, ofL (l.set (A + X.toNat) ((l.getD (A + X.toNat) nulM).1, u)))) else (putS (ls.map fun m => m.2) vNull none vt).map (fun u => (5, v0, s0, ofL (l.take E ++ (List.replicate (X.toNat - n) nulM ++ ([], u) :: l.drop E))))) else none := by
    rw [hX, hAd, hEd, hnd]
    show (if m.2.1 = 6 then _ else if m.2.1 = 4 then _ else if m.2.1 = 3 then (if (5 : Nat) = 5 then _ else _) else _) = _
    rw [if_neg (by omega), if_neg (by omega), if_pos e3, if_pos rfl]
    simp only [toL_ofL]
  rw [eS]
  -- once the place is known
  have fin : ∀ l9 : Int64, l9.toInt = X → 0 ≤ X ∧ X ≤ 1000 → ∃ S', ((q_open S 5).bind fun r62 => (if (5 : Int32) = (5 : Int32) then ((b_cells r62.1 aa (Int32.ofNat p + 2) (rd S 78 17)).bind fun r65 => b_putPlace_l123 aa rec 10000 r65 (Int32.ofNat p) 5 (Int32.ofNat i) (Int32.ofNat dp) (rd S 78 18) (Int32.ofNat n) l9 r62.2 (rd S 78 17) 0) else b_putPlace_l123 aa rec 10000 r62.1 (Int32.ofNat p) 5 (Int32.ofNat i) (Int32.ofNat dp) (rd S 78 18) (Int32.ofNat n) l9 r62.2 (rd S 78 17) 0)) = some S' ∧ rpO S S' C (if X < n then (putS (ls.map fun m => m.2) ((l.getD (A + X.toNat) nulM).2) none vt).map (fun u => (5, v0, s0, ofL (l.set (A + X.toNat) ((l.getD (A + X.toNat) nulM).1, u)))) else (putS (ls.map fun m => m.2) vNull none vt).map (fun u => (5, v0, s0, ofL (l.take E ++ (List.replicate (X.toNat - n) nulM ++ ([], u) :: l.drop E))))) dp := by
    intro l9 h9 hok
    obtain ⟨S1, at_, o1, o2, o3, o4⟩ := oopen ho 5
    have f1 := fr3_O o3
    have hc1 : cat (S1 aa) p (5, v0, s0, ofL l) := by rw [o3 aa (by omega) (by omega)]; exact hc
    have ep0 : pos (5, v0, s0, ofL l) p 0 = p + 2 := by
      obtain ⟨y1, -, -⟩ := pos_in hc (Nat.zero_le l.length)
      rw [y1]
      show p + 2 + 0 = _
      omega
    obtain ⟨S2, q1, q2, q3⟩ := cellsQ (i := 0) (j := A) (by omega) hc1 (Nat.zero_le _) (by omega) o2
    rw [ep0] at q1
    have f2 := f1.trans (fr3_O q3)
    have eD0 : (blks false (ppD l A n 0)).flatten = (blks false ((l.drop 0).take (A - 0))).flatten := by
      unfold ppD
      simp
    obtain ⟨S3, D, Z, C', t1, t2, t3, t4, t5, t6, t7⟩ := pplace_5l (p := p) (A := A) (n := n) (E := E) (l9 := l9) (X := X.toNat) (v0 := v0) (s0 := s0) (l := l) o4 (by rw [h9]; omega) (by omega) wl3 wl2 hp9 hdp hrec X.toNat 0 10000 S2 (by omega) (by omega) (hP.fr f2) (hA.fr b2 f2) (by rw [frO_12 q3, frO_12 o3]; exact hr) (by rw [q3 aa (by omega) (by omega)]; exact hc1) (by rw [eD0]; simpa using q2)
    refine ⟨S3, ?_, ?_⟩
    · rw [o1, o_bind, if_pos rfl, show Int32.ofNat p + 2 = Int32.ofNat (p + 2) from (Int32.ofNat_add p 2).symm, x1, q1, o_bind, x2]
      have : A + min 0 n = A := by omega
      rw [this] at t1
      exact t1
    · by_cases hin : X < n
      · have hin' : X.toNat < n := by omega
        have hjl : A + X.toNat < l.length := by omega
        rw [if_pos hin', getD_in _ hjl] at t4 t5
        rw [if_pos hin'] at t7
        rw [if_pos hin, getD_in _ hjl]
        refine rbox (k := 5) (L := fun u => l.set (A + X.toNat) ((l[A + X.toNat]).1, u)) (Or.inl rfl) (f2.trans t2) t3 t4 t5 (fun U hU => ⟨wV_5 hc.2.1.2.2.1 (fun x hx => ?_), ⟨_, List.mem_set hjl _, rfl⟩, ?_⟩)
        · rcases List.mem_or_eq_of_mem_set hx with c | c
          · exact hc.2.1.kids x c
          · rw [c]; exact ⟨(hc.2.1.kids _ (List.getElem_mem hjl)).1, hU⟩
        · show (blks false (l.set (A + X.toNat) ((l[A + X.toNat]).1, U))).flatten = _
          rw [List.set_eq_take_append_cons_drop, if_pos hjl, blks_app, List.flatten_append, (blks_m _ _).2, t6, t7]
          unfold ppD
          rw [show X.toNat - n = 0 by omega, show A + min X.toNat n = A + X.toNat by omega]
          simp
      · have hin' : ¬ X.toNat < n := by omega
        rw [if_neg hin'] at t4 t5 t7
        rw [if_neg hin]
        refine rbox (k := 5) (L := fun u => l.take E ++ (List.replicate (X.toNat - n) nulM ++ ([], u) :: l.drop E)) (Or.inl rfl) (f2.trans t2) t3 t4 t5 (fun U hU => ⟨wV_5 hc.2.1.2.2.1 (fun x hx => ?_), ⟨([], U), by simp, rfl⟩, ?_⟩)
        · rcases List.mem_append.mp hx with c | c
          · exact hc.2.1.kids x (List.mem_of_mem_take c)
          · rcases List.mem_append.mp c with c | c
            · exact okL_nul _ x c
            · rcases List.mem_cons.mp c with c | c
              · rw [c]; exact ⟨(fun c hc => by cases hc), hU⟩
              · exact hc.2.1.kids x (List.mem_of_mem_drop c)
        · show (blks false (l.take E ++ (List.replicate (X.toNat - n) nulM ++ ([], U) :: l.drop E))).flatten = _
          rw [blks_app, blks_app, List.flatten_append, List.flatten_append, (blks_m _ _).2, t6, t7]
          unfold ppD
          rw [show A + min X.toNat n = E by omega, blks_app, List.flatten_append]
          simp
  unfold b_putPlace
  rw [if_neg (by decide), g1, o_bind, if_neg p1, p2, c2'.number, o_bind]
  by_cases ok : 0 ≤ X ∧ X ≤ 1000
  · rw [if_pos ok]
    by_cases c : 0 ≤ m.2.2.1
    · have hXe : X = m.2.2.1 := by rw [hX]; unfold atX; rw [if_neg (by omega)]
      obtain ⟨S', s1, s2⟩ := fin (Int64.ofInt m.2.2.1) (by rw [l1, hXe]) ok
      refine ⟨S', ?_, s2⟩
      rw [if_pos ((lg_ge _ _).mpr (by rw [l1, z0]; omega)), if_neg (by rw [lg_lt, l1, z0]; omega), if_pos ((lg_le _ _).mpr (by rw [l1, z1]; omega))]
      exact s1
    · have hXe : X = m.2.2.1 + n := by rw [hX]; unfold atX; rw [if_pos (by omega)]
      obtain ⟨S', s1, s2⟩ := fin (Int64.ofInt m.2.2.1 + (Int32.ofNat n).toInt64) (by rw [la, hXe]) ok
      refine ⟨S', ?_, s2⟩
      rw [if_neg (by rw [lg_ge, l1, z0]; omega), if_neg (by rw [lg_lt, la, z0]; omega), if_pos ((lg_le _ _).mpr (by rw [la, z1]; omega))]
      exact s1
  · rw [if_neg ok]
    refine ⟨Sr, ?_, y2⟩
    rw [ref]
    by_cases c : 0 ≤ m.2.2.1
    · have hXe : X = m.2.2.1 := by rw [hX]; unfold atX; rw [if_neg (by omega)]
      rw [if_pos ((lg_ge _ _).mpr (by rw [l1, z0]; omega)), if_neg (by rw [lg_lt, l1, z0]; omega), if_neg (by rw [lg_le, l1, z1]; omega)]
    · have hXe : X = m.2.2.1 + n := by rw [hX]; unfold atX; rw [if_pos (by omega)]
      rw [if_neg (by rw [lg_ge, l1, z0]; omega)]
      by_cases d : X < 0
      · rw [if_pos ((lg_lt _ _).mpr (by rw [la, z0]; omega))]
      · rw [if_neg (by rw [lg_lt, la, z0]; omega), if_neg (by rw [lg_le, la, z1]; omega)]
end RPut164
