/-! The reference's take, whole. -/
section RTake174
theorem cutM_nod {ms : List Mb} {s : List Int32} {ps : List Vl} {L : List Mb} (h : nod ms) (e : cutM ms s ps = some L) : nod L := by
  unfold cutM at e
  by_cases hj : ms.findIdx (fun m => m.1 == s) < ms.length
  · rw [if_pos hj] at e
    by_cases hp : ps.isEmpty = true
    · rw [if_pos hp] at e
      cases e
      exact drop_nod h _
    · rw [if_neg hp, getD_in _ hj] at e
      cases ho : cutV ps (ms[ms.findIdx (fun m => m.1 == s)]).2 none with
      | none => rw [ho] at e; cases e
      | some U =>
        rw [ho] at e
        cases e
        unfold nod at h ⊢
        have e2 : (ms.map fun m => m.1).set (ms.findIdx (fun m => m.1 == s)) (ms[ms.findIdx (fun m => m.1 == s)]).1 = ms.map fun m => m.1 := by
          have := List.set_getElem_self (as := ms.map fun m => m.1) (i := ms.findIdx (fun m => m.1 == s)) (by rw [List.length_map]; exact hj)
          rw [List.getElem_map] at this
          exact this
        rw [List.map_set]
        show ((ms.map fun m => m.1).set (ms.findIdx (fun m => m.1 == s)) (ms[ms.findIdx (fun m => m.1 == s)]).1).Nodup
        rw [e2]
        exact h
  · rw [if_neg hj] at e
    cases e
    exact h
theorem cutV_64 {pi : Vl} (e4 : pi.1 = 4) (ps : List Vl) (v : Int) (s : List Int32) (l : List Mb) : cutV (pi :: ps) (6, v, s, ofL l) none = (cutM l pi.2.2.1 ps).map (fun L => (6, v, s, ofL L)) := by
  show (if (6 : Nat) = 0 then _ else if pi.1 = 3 then _ else if pi.1 = 4 then (if (6 : Nat) = 6 then _ else none) else _) = _
  rw [if_neg (by decide), if_neg (by omega), if_pos e4, if_pos rfl]
  simp only [toL_ofL]
  unfold cutM
  by_cases hj : l.findIdx (fun m => m.1 == pi.2.2.1) < l.length
  · rw [if_pos hj, if_pos hj]
    by_cases hp : ps.isEmpty = true
    · rw [if_pos hp, if_pos hp]
      rfl
    · rw [if_neg hp, if_neg hp, Option.map_map]
      rfl
  · rw [if_neg hj, if_neg hj]
    rfl
theorem tname_6 {S : SS} {aa pb E d i p : Nat} {m : Mb} {ls : List Mb} {C : List Int32} {v : Int} {s0 : List Int32} {l : List Mb} {rec : SS → Nat → Int32 → Int32 → Option SS} (hP : prT S aa pb E) (ho : OutV S C) (hr : rd S 78 12 = 0) (hA : atT S pb i E (m :: ls)) (e4 : m.2.1 = 4) (hc : cat (S aa) p (6, v, s0, ofL l)) (hp : p < 9000) (hdp : dV (6, v, s0, ofL l) ≤ d) (hrec : ls ≠ [] → recT rec aa pb E d ls) : ∃ S', ((b_takeName S aa rec (Int32.ofNat p) (Int32.ofNat i)).bind fun r => some r) = some S' ∧ rtO S S' C (cutV (m.2 :: ls.map fun m => m.2) (6, v, s0, ofL l) none) := by
  obtain ⟨S1, at_, o1, o2, o3, o4⟩ := oopen ho 6
  have f1 := fr3_O o3
  obtain ⟨-, -, -, -, -, -, haa, hpb, -⟩ := id hP
  have ea : S1 aa = S aa := o3 aa (by omega) (by omega)
  obtain ⟨n1, n2, n3⟩ := hc.next
  obtain ⟨h9, hw, r, hd⟩ := id hc
  obtain ⟨k1, k2⟩ := cbox_in (Or.inr rfl) hd
  have e6 : (6 == 6) = true := rfl
  rw [e6] at k1 k2
  have hbl := blks_len true l
  have hfl := flat2 _ (blks_h (b := true) hw.kids)
  simp only [if_true] at hbl
  obtain ⟨S2, X, z1, z2, z3, z4, z5⟩ := tname_l (d := d) (Ee := p + (cV (6, v, s0, ofL l)).length) (p := p) (r := r) o4 (by omega) e4 hrec l 10000 (p + 2) S1 [] hw.kids hw.nod (fun x hx => by
    have := dV_kid (k := 6) (v := v) (s := s0) (Or.inr rfl) hx
    omega) (hP.fr f1) (hA.fr hpb f1) (by rw [frO_12 o3]; exact hr) o2 (by rw [ea]; exact h9) (by rw [ea]; exact n1) (by rw [ea]; exact k1) (by omega) (by omega)
  refine ⟨S2, ?_, f1.trans z2, _, z3, fun T hT => ?_, fun hn => ?_⟩
  · unfold b_takeName
    rw [o1, o_bind, show Int32.ofNat p + 2 = Int32.ofNat (p + 2) from (Int32.ofNat_add p 2).symm, z1, o_bind]
  · rw [cutV_64 e4] at hT
    cases hM : cutM l m.2.2.2.1 (ls.map fun m => m.2) with
    | none => rw [hM] at hT; cases hT
    | some L =>
      rw [hM] at hT
      cases hT
      obtain ⟨y1, y2, y3⟩ := z4 L hM
      refine ⟨y1, wV_6 hw.2.2.1 y3 (cutM_nod hw.nod hM), ?_⟩
      rw [cV_6, y2]
      rfl
  · rw [cutV_64 e4] at hn
    cases hM : cutM l m.2.2.2.1 (ls.map fun m => m.2) with
    | none => exact z5 hM
    | some L => rw [hM] at hn; cases hn
/-- one element of an array: without it, or with another value -/
theorem tplace {S : SS} {aa pb E d i p j : Nat} {m : Mb} {ls : List Mb} {C : List Int32} {v0 : Int} {s0 : List Int32} {l : List Mb} {rec : SS → Nat → Int32 → Int32 → Option SS} (hP : prT S aa pb E) (ho : OutV S C) (hr : rd S 78 12 = 0) (hA : atT S pb i E (m :: ls)) (hc : cat (S aa) p (5, v0, s0, ofL l)) (hp : p < 9000) (hdp : dV (5, v0, s0, ofL l) ≤ d) (hrec : ls ≠ [] → recT rec aa pb E d ls) (hj : j < l.length) : ∃ S', ((b_isLast S (Int32.ofNat i)).bind fun r30 => (if r30 = 0 then ((iget (S aa) (Int32.ofNat (pos (5, v0, s0, ofL l) p j))).bind fun b33 => (if b33 = 0 then ((q_copy S aa (Int32.ofNat p)).bind fun r35 => some r35) else ((q_open S 5).bind fun r38 => ((b_cells r38.1 aa (Int32.ofNat p + 2) (Int32.ofNat (pos (5, v0, s0, ofL l) p j))).bind fun r40 => (if rd r40 78 19 = 0 then none else ((r_next (r40 ((rd r40 78 19).toNatClampNeg)) (Int32.ofNat i)).bind fun r43 => ((rec r40 aa (Int32.ofNat (pos (5, v0, s0, ofL l) p j)) r43).bind fun r45 => ((r_next (r45 aa) (Int32.ofNat (pos (5, v0, s0, ofL l) p j))).bind fun r47 => ((r_next (r45 aa) (Int32.ofNat p)).bind fun r49 => ((b_cells r45 aa r47 r49).bind fun r51 => ((q_close r51 r38.2).bind fun r53 => some r53))))))))))) else ((r_next (S aa) (Int32.ofNat (pos (5, v0, s0, ofL l) p j))).bind fun r56 => ((b_around S aa (Int32.ofNat p) (Int32.ofNat (pos (5, v0, s0, ofL l) p j)) r56).bind fun r58 => some r58)))) = some S' ∧ rtO S S' C (if (ls.map fun m => m.2).isEmpty then some (5, v0, s0, ofL (l.take j ++ l.drop (j + 1))) else (cutV (ls.map fun m => m.2) (l[j]).2 none).map (fun u => (5, v0, s0, ofL (l.set j ((l[j]).1, u))))) := by
  obtain ⟨c1, c2, c3, c4, c5⟩ := hA.cons hP
  obtain ⟨-, -, -, -, -, h78, haa, hpb, -⟩ := id hP
  have hn9 := hc.next.2
  have h9 := hc.1
  have hce : cat (S aa) (pos (5, v0, s0, ofL l) p j) (l[j]).2 := by
    have := hc.elem hj
    have e1 : pos (5, v0, s0, ofL l) p j = bp (p + 2) (blks false l) j := by
      unfold pos
      rw [if_neg (show ¬ (5 : Nat) = 4 by decide)]
      show bp (p + 2) (blks false (toL (ofL l))) j = _
      rw [toL_ofL]
    rw [e1]
    exact this
  have hpl : pos (5, v0, s0, ofL l) p j < 9000 := by
    have := hce.next.2
    omega
  have enx : r_next (S aa) (Int32.ofNat (pos (5, v0, s0, ofL l) p j)) = some (Int32.ofNat (pos (5, v0, s0, ofL l) p (j + 1))) := by
    rw [hce.next.1]
    congr 2
    obtain ⟨y1, -, -⟩ := pos_in hc (show j ≤ l.length by omega)
    obtain ⟨y2, -, -⟩ := pos_in hc (show j + 1 ≤ l.length by omega)
    rw [y1, y2, List.take_succ_eq_append_getElem hj, blks_app, List.flatten_append, List.length_append, (blks_m _ _).2]
    show _ = p + 2 + (_ + (cV _ ++ []).length)
    rw [List.append_nil]
    omega
  rw [c5, o_bind]
  by_cases hls : ls = []
  · rw [if_pos hls, if_neg (by decide), enx, o_bind, hls]
    obtain ⟨S', t1, t2⟩ := tround haa ho hr hc (show j ≤ j + 1 by omega) (by omega)
    exact ⟨S', t1, t2⟩
  · rw [if_neg hls, if_pos rfl, hce.kind, o_bind]
    have hemp : ¬ (ls.map fun m => m.2).isEmpty = true := by rw [List.isEmpty_iff, List.map_eq_nil_iff]; exact hls
    rw [if_neg hemp]
    have k6 := hce.2.1.1
    by_cases t0 : (l[j]).2.1 = 0
    · rw [if_pos (by rw [t0]; rfl)]
      obtain ⟨S', t1, t2⟩ := tcopy haa.2 ho hr hc
      obtain ⟨m', ls', rfl⟩ : ∃ a b, ls = a :: b := by
        cases ls with
        | nil => exact absurd rfl hls
        | cons a b => exact ⟨a, b, rfl⟩
      rw [List.map_cons, cutV_null t0]
      have : (some (l[j]).2).map (fun u => ((5, v0, s0, ofL (l.set j ((l[j]).1, u))) : Vl)) = some (5, v0, s0, ofL l) := by
        show some ((5, v0, s0, ofL (l.set j ((l[j]).1, (l[j]).2))) : Vl) = _
        rw [show (((l[j]).1, (l[j]).2) : Mb) = l[j] from rfl, List.set_getElem_self]
      rw [this]
      exact ⟨S', t1, t2⟩
    · rw [if_neg (kne0 k6 t0)]
      have ep0 : pos (5, v0, s0, ofL l) p 0 = p + 2 := by
        obtain ⟨y1, -, -⟩ := pos_in hc (Nat.zero_le l.length)
        rw [y1]
        show p + 2 + 0 = _
        omega
      have epn : pos (5, v0, s0, ofL l) p l.length = p + (cV (5, v0, s0, ofL l)).length := by
        obtain ⟨y1, y2, -⟩ := pos_in hc (Nat.le_refl l.length)
        rw [y1, y2, List.take_of_length_le (Nat.le_refl _)]
        omega
      obtain ⟨S1, at_, o1, o2, o3, o4⟩ := oopen ho 5
      have hc1 : cat (S1 aa) p (5, v0, s0, ofL l) := by rw [o3 aa haa.2.1 haa.2.2]; exact hc
      obtain ⟨S2, q1, q2, q3⟩ := cellsQ (i := 0) (j := j) haa.2 hc1 (Nat.zero_le _) (by omega) o2
      rw [ep0] at q1
      have f2 := (fr3_O o3).trans (fr3_O q3)
      have hP2 := hP.fr f2
      obtain ⟨p1, p2⟩ := hP2.p
      have ea2 : S2 aa = S aa := f2.1 aa haa.1 haa.2.1 haa.2.2
      have ep2 : S2 pb = S pb := f2.1 pb (by omega) (by omega) (by omega)
      have hdk := dV_kid (k := 5) (v := v0) (s := s0) (Or.inl rfl) (List.getElem_mem hj)
      obtain ⟨S3, d1, d2, C', d3, d4, d5⟩ := hrec hls S2 _ (pos (5, v0, s0, ofL l) p j) (l[j]).2 (i + (cV m.2).length) hP2 (c4.fr hpb f2) q2 (by rw [frO_12 q3, frO_12 o3]; exact hr) (by rw [ea2]; exact hce) hpl (by omega)
      have ea3 : S3 aa = S aa := (d2.1 aa haa.1 haa.2.1 haa.2.2).trans ea2
      obtain ⟨S4, v1, v2, v3⟩ := cellsQ (i := j + 1) (j := l.length) haa.2 (show cat (S3 aa) p _ by rw [ea3]; exact hc) (by omega) (Nat.le_refl _) d3
      rw [epn] at v1
      obtain ⟨S5, z1, z2, z3⟩ := oclose (C := C) (k := 5) (at_ := at_) (body := (blks false (l.take j)).flatten ++ (C' ++ (blks false (l.drop (j + 1))).flatten)) (by
        rw [List.take_of_length_le (show (l.drop (j + 1)).length ≤ l.length - (j + 1) by rw [List.length_drop]; exact Nat.le_refl _)] at v2
        rw [List.drop_zero, Nat.sub_zero] at v2
        simpa using v2) o4
      refine ⟨S5, ?_, (f2.trans d2).trans ((fr3_O v3).trans (fr3_O z3)), _, z2, fun T hT => ?_, fun hn => ?_⟩
      · rw [o1, o_bind, show Int32.ofNat p + 2 = Int32.ofNat (p + 2) from (Int32.ofNat_add p 2).symm, q1, o_bind, if_neg p1, p2, ep2, c3, o_bind, d1, o_bind, ea3, enx, o_bind, (hc.next).1, o_bind, v1, o_bind, z1, o_bind]
      · cases hU : cutV (ls.map fun m => m.2) (l[j]).2 none with
        | none => rw [hU] at hT; cases hT
        | some U =>
          rw [hU] at hT
          cases hT
          obtain ⟨y1, y2, y3⟩ := d4 U hU
          refine ⟨by rw [frO_12 z3, frO_12 v3]; exact y1, wV_5 hc.2.1.2.2.1 (fun x hx => ?_), ?_⟩
          · rcases List.mem_or_eq_of_mem_set hx with c | c
            · exact hc.2.1.kids x c
            · rw [c]; exact ⟨(hc.2.1.kids _ (List.getElem_mem hj)).1, y2⟩
          · rw [cV_5, List.set_eq_take_append_cons_drop, if_pos hj, blks_app, List.flatten_append, (blks_m _ _).2, y3]
      · cases hU : cutV (ls.map fun m => m.2) (l[j]).2 none with
        | none => rw [frO_12 z3, frO_12 v3]; exact d5 hU
        | some U => rw [hU] at hn; cases hn
theorem cutV_53 {pi : Vl} (e3 : pi.1 = 3) (ps : List Vl) (v : Int) (s : List Int32) (l : List Mb) (w : Option (Nat × Nat)) : cutV (pi :: ps) (5, v, s, ofL l) w = if 0 ≤ atX pi.2.1 (winN (5, v, s, ofL l) w) ∧ atX pi.2.1 (winN (5, v, s, ofL l) w) < winN (5, v, s, ofL l) w then (if ps.isEmpty then some (5, v, s, ofL (l.take (winA (5, v, s, ofL l) w + (atX pi.2.1 (winN (5, v, s, ofL l) w)).toNat) ++ l.drop (winA (5, v, s, ofL l) w + (atX pi.2.1 (winN (5, v, s, ofL l) w)).toNat + 1))) else (cutV ps ((l.getD (winA (5, v, s, ofL l) w + (atX pi.2.1 (winN (5, v, s, ofL l) w)).toNat) nulM).2) none).map (fun u => (5, v, s, ofL (l.set (winA (5, v, s, ofL l) w + (atX pi.2.1 (winN (5, v, s, ofL l) w)).toNat) ((l.getD (winA (5, v, s, ofL l) w + (atX pi.2.1 (winN (5, v, s, ofL l) w)).toNat) nulM).1, u))))) else some (5, v, s, ofL l) := by
  show (if (5 : Nat) = 0 then _ else if pi.1 = 3 then (if (5 : Nat) = 5 then _ else none) else _) = _
  rw [if_neg (by decide), if_pos e3, if_pos rfl]
  simp only [toL_ofL]
theorem cutV_56 {pi : Vl} (e6 : pi.1 = 6) (ok : okBd pi) (ps : List Vl) (v : Int) (s : List Int32) (l : List Mb) (w : Option (Nat × Nat)) : cutV (pi :: ps) (5, v, s, ofL l) w = cutV ps (5, v, s, ofL l) (some (nwA pi (winA (5, v, s, ofL l) w) (winE (5, v, s, ofL l) w), nwB pi (winA (5, v, s, ofL l) w) (winE (5, v, s, ofL l) w))) := by
  show (if (5 : Nat) = 0 then _ else if pi.1 = 3 then _ else if pi.1 = 4 then _ else if pi.1 = 6 then (if _ then (if (5 : Nat) = 5 then _ else none) else none) else _) = _
  rw [if_neg (by decide), if_neg (by omega), if_neg (by omega), if_pos e6, if_pos (@decide_eq_true _ (Classical.propDecidable _) ok), if_pos rfl]
theorem cutV_5x {pi : Vl} (e3 : pi.1 ≠ 3) (e6 : pi.1 = 6 → ¬ okBd pi) (ps : List Vl) (v : Int) (s : List Int32) (l : List Mb) (w : Option (Nat × Nat)) : cutV (pi :: ps) (5, v, s, ofL l) w = none := by
  show (if (5 : Nat) = 0 then _ else if pi.1 = 3 then _ else if pi.1 = 4 then (if (5 : Nat) = 6 then _ else none) else if pi.1 = 6 then (if _ then (if (5 : Nat) = 5 then _ else none) else none) else none) = _
  rw [if_neg (by decide), if_neg e3]
  by_cases e4 : pi.1 = 4
  · rw [if_pos e4, if_neg (by decide)]
  rw [if_neg e4]
  by_cases h6 : pi.1 = 6
  · rw [if_pos h6, if_neg (fun c => e6 h6 (@of_decide_eq_true _ (Classical.propDecidable _) c))]
  · rw [if_neg h6]
theorem tstep {aa pb E d p : Nat} {v0 : Int} {s0 : List Int32} {l : List Mb} {C : List Int32} {rec : SS → Nat → Int32 → Int32 → Option SS} (hp9 : p < 9000) (hdp : dV (5, v0, s0, ofL l) ≤ d) (hrec : ∀ ls, ls ≠ [] → recT rec aa pb E d ls) {ls : List Mb} {m : Mb} {n i : Nat} {S : SS} {w : Option (Nat × Nat)} (hP : prT S aa pb E) (hA : atT S pb i E (m :: ls)) (hr : rd S 78 12 = 0) (ho : OutV S C) (hs : spR S aa (5, v0, s0, ofL l) w (Int32.ofNat p)) (ih : ls ≠ [] → ∀ (i : Nat) (S : SS) (w : Option (Nat × Nat)), prT S aa pb E → atT S pb i E ls → rd S 78 12 = 0 → OutV S C → spR S aa (5, v0, s0, ofL l) w (Int32.ofNat p) → ∃ S', b_takeB_l76 aa rec n S (Int32.ofNat p) (Int32.ofNat i) = some S' ∧ rtO S S' C (cutV (ls.map fun m => m.2) (5, v0, s0, ofL l) w)) : ∃ S', b_takeB_l76 aa rec (n + 1) S (Int32.ofNat p) (Int32.ofNat i) = some S' ∧ rtO S S' C (cutV (m.2 :: ls.map fun m => m.2) (5, v0, s0, ofL l) w) := by
  obtain ⟨p1, p2⟩ := hP.p
  obtain ⟨-, -, -, h39, h40, h78, haa, hpb, -⟩ := id hP
  obtain ⟨c1, c2, c3, c4, c5⟩ := hA.cons hP
  obtain ⟨p', e, hp', hc, hw, hn0, hb⟩ := id hs
  have epp : p = p' := (i_inj (by omega) (by omega)).mp e
  subst epp
  have k6 := c2.2.1.1
  obtain ⟨Sr, y1, y2⟩ := tref h78 ho hr
  unfold b_takeB_l76
  rw [if_neg p1, p2, c2.kind, o_bind]
  by_cases e6 : m.2.1 = 6
  · obtain ⟨g1, g2⟩ := part_val c2 e6 h39 h40
    rw [if_pos (by rw [e6]; rfl)]
    by_cases ok : okBd m.2
    · rw [g1 ok, o_bind, if_neg (by decide), cutV_56 e6 ok]
      obtain ⟨S1, q1, q2, q3⟩ := rnarrow_val (ab := pb) (i := i) h78 haa.1 h39 h40 hs c2 e6 ⟨Or.inr rfl, ok.1, ok.2⟩
      rw [if_pos rfl] at q1
      have f1 := fr3_N q2
      have hP1 := hP.fr f1
      obtain ⟨p1', p2'⟩ := hP1.p
      have hA1 := hA.fr hpb f1
      obtain ⟨-, -, d3, d4, d5⟩ := hA1.cons hP1
      have hO1 : OutV S1 C := by
        unfold OutV rd at ho ⊢
        rw [q2.1 91 (by decide), q2.1 90 (by decide)]
        exact ho
      have hr1 : rd S1 78 12 = 0 := by rw [q2.2.1 12 (by decide) (by decide)]; exact hr
      rw [q1, o_bind, d5, o_bind]
      by_cases hls : ls = []
      · rw [if_pos hls, if_neg (by decide), hls]
        obtain ⟨p', e', hp'', hc', hw', -, hb'⟩ := id q3
        have epp : p = p' := (i_inj (by omega) (by omega)).mp e'
        subst epp
        obtain ⟨r1, r2⟩ := hb' (Or.inr rfl)
        obtain ⟨w1, w2, w3⟩ := win_le hw'
        have hsz : size (5, v0, s0, ofL l) = l.length := by unfold size; rw [if_neg (show ¬ (5 : Nat) = 4 by decide)]; exact congrArg List.length (toL_ofL l)
        rw [hsz] at w2
        obtain ⟨S', t1, t2, t3⟩ := tround haa hO1 hr1 hc' w1 w2
        rw [← r1, ← r2] at t1
        refine ⟨S', t1, f1.trans t2, ?_⟩
        have nwo := nw_ok m.2 (win_le hw).1
        have eE : winE (5, v0, s0, ofL l) (some (nwA m.2 (winA (5, v0, s0, ofL l) w) (winE (5, v0, s0, ofL l) w), nwB m.2 (winA (5, v0, s0, ofL l) w) (winE (5, v0, s0, ofL l) w))) = nwB m.2 (winA (5, v0, s0, ofL l) w) (winE (5, v0, s0, ofL l) w) := by
          show nwA _ _ _ + (nwB _ _ _ - nwA _ _ _) = _
          omega
        rw [eE] at t3
        show ∃ C', OutV S' (C ++ C') ∧ (∀ T, some ((5, v0, s0, ofL ((toL (ofL l)).take _ ++ (toL (ofL l)).drop _)) : Vl) = some T → _) ∧ _
        rw [toL_ofL]
        obtain ⟨C', x1, x2, x3⟩ := t3
        exact ⟨C', x1, x2, fun hn => by cases hn⟩
      · rw [if_neg hls, if_pos rfl, if_neg p1', p2', d3, o_bind]
        obtain ⟨S', j1, j2, j3⟩ := ih hls (i + (cV m.2).length) S1 _ hP1 d4 hr1 hO1 q3
        exact ⟨S', j1, f1.trans j2, j3⟩
    · rw [g2 ok, o_bind, if_pos rfl, if_neg (by rw [e6]; decide), cutV_5x (by omega) (fun _ => ok)]
      exact ⟨Sr, y1, y2⟩
  rw [if_neg (kne6 k6 e6)]
  by_cases e3 : m.2.1 = 3
  · have c2' := c2
    rw [vl3 e3] at c2'
    obtain ⟨u1, u2⟩ := rplace_pos hp9 hs (c2.2.1.2.1 e3)
    rw [if_pos (by rw [e3]; rfl), c2'.number, o_bind, u1, o_bind, cutV_53 e3]
    by_cases hin : 0 ≤ atX m.2.2.1 (winN (5, v0, s0, ofL l) w) ∧ atX m.2.2.1 (winN (5, v0, s0, ofL l) w) < winN (5, v0, s0, ofL l) w
    · have hj : winA (5, v0, s0, ofL l) w + (atX m.2.2.1 (winN (5, v0, s0, ofL l) w)).toNat < l.length := by omega
      rw [if_pos hin, if_pos hin, getD_in _ hj, if_neg (i_ne1 (by
        have := hc.1
        obtain ⟨y1, y2, -⟩ := pos_in hc (Nat.le_of_lt hj)
        obtain ⟨y3, -, -⟩ := pos_in hc (Nat.le_refl l.length)
        have n2 := hc.next.2.1
        have : (blks false (l.take (winA (5, v0, s0, ofL l) w + (atX m.2.2.1 (winN (5, v0, s0, ofL l) w)).toNat))).flatten.length ≤ (blks false l).flatten.length := by
          conv => rhs; rw [← List.take_append_drop (winA (5, v0, s0, ofL l) w + (atX m.2.2.1 (winN (5, v0, s0, ofL l) w)).toNat) l, blks_app, List.flatten_append, List.length_append]
          omega
        omega))]
      exact tplace hP ho hr hA hc hp9 hdp (hrec ls) hj
    · rw [if_neg hin, if_neg hin, if_pos rfl]
      exact tcopy haa.2 ho hr hc
  · rw [if_neg (kne3 k6 e3), cutV_5x e3 (fun c => absurd c e6)]
    exact ⟨Sr, y1, y2⟩
theorem tloop {aa pb E d p : Nat} {v0 : Int} {s0 : List Int32} {l : List Mb} {C : List Int32} {rec : SS → Nat → Int32 → Int32 → Option SS} (hp9 : p < 9000) (hdp : dV (5, v0, s0, ofL l) ≤ d) (hrec : ∀ ls, ls ≠ [] → recT rec aa pb E d ls) : ∀ (ls : List Mb) (n i : Nat) (S : SS) (w : Option (Nat × Nat)), ls ≠ [] → ls.length < n → prT S aa pb E → atT S pb i E ls → rd S 78 12 = 0 → OutV S C → spR S aa (5, v0, s0, ofL l) w (Int32.ofNat p) → ∃ S', b_takeB_l76 aa rec n S (Int32.ofNat p) (Int32.ofNat i) = some S' ∧ rtO S S' C (cutV (ls.map fun m => m.2) (5, v0, s0, ofL l) w) := by
  intro ls
  induction ls with
  | nil => intro n i S w h; exact absurd rfl h
  | cons m ls ih =>
    intro n i S w _ hn hP hA hr ho hs
    obtain ⟨n, rfl⟩ : ∃ j, n = j + 1 := ⟨n - 1, by omega⟩
    exact tstep hp9 hdp hrec hP hA hr ho hs (fun hne i' S' w' => ih n i' S' w' hne (by simp only [List.length_cons] at hn; omega))
theorem cutV_6x {pi : Vl} (e4 : pi.1 ≠ 4) (ps : List Vl) (v : Int) (s : List Int32) (l : List Mb) (w : Option (Nat × Nat)) : cutV (pi :: ps) (6, v, s, ofL l) w = none := by
  show (if (6 : Nat) = 0 then _ else if pi.1 = 3 then (if (6 : Nat) = 5 then _ else none) else if pi.1 = 4 then _ else if pi.1 = 6 then (if _ then (if (6 : Nat) = 5 then _ else none) else none) else none) = _
  rw [if_neg (by decide), if_neg e4, if_neg (show ¬ (6 : Nat) = 5 by decide), if_neg (show ¬ (6 : Nat) = 5 by decide)]
  simp
/-- take, by the reference -/
theorem take_val {aa pb E : Nat} : ∀ (n : Nat) (ls : List Mb), ls ≠ [] → recT (b_take n) aa pb E n ls := by
  intro n
  induction n with
  | zero => intro ls _ S C p t' i _ _ _ _ _ _ h; omega
  | succ n ih =>
    intro ls hne S C p t i hP hA ho hr hc hp9 hd
    obtain ⟨-, -, hpl, h39, h40, h78, haa, hpb, hE⟩ := id hP
    obtain ⟨p1, p2⟩ := hP.p
    have hll : ls.length < 10000 := by
      obtain ⟨a1, a2, -⟩ := hA
      have hbl := blks_len false ls
      have hfl := flat2 _ (blks_h (b := false) a1)
      simp only [Bool.false_eq_true, if_false] at hbl
      omega
    obtain ⟨m, ls', rfl⟩ : ∃ a b, ls = a :: b := by
      cases ls with
      | nil => exact absurd rfl hne
      | cons a b => exact ⟨a, b, rfl⟩
    obtain ⟨c1, c2, c3, c4, c5⟩ := hA.cons hP
    have k6 := hc.2.1.1
    have km := c2.2.1.1
    obtain ⟨Sr, y1, y2⟩ := tref h78 ho hr
    rw [List.map_cons]
    show ∃ S', b_takeB S aa (b_take n) (Int32.ofNat p) (Int32.ofNat i) = some S' ∧ _
    unfold b_takeB
    rw [hc.kind, o_bind]
    by_cases t0 : t.1 = 0
    · rw [if_pos (by rw [t0]; rfl), cutV_null t0]
      exact tcopy haa.2 ho hr hc
    rw [if_neg (kne0 k6 t0)]
    by_cases t6 : t.1 = 6
    · rw [if_pos (by rw [t6]; rfl), if_neg p1, p2, c2.kind, o_bind]
      obtain ⟨kt, v0, s0, ft⟩ := t
      obtain ⟨l, rfl⟩ : ∃ l, ft = ofL l := ⟨toL ft, (ofL_toL ft).symm⟩
      have t6 : kt = 6 := t6
      subst t6
      by_cases e4 : m.2.1 = 4
      · rw [if_pos (by rw [e4]; rfl)]
        exact tname_6 hP ho hr hA e4 hc hp9 (by omega) (ih ls')
      · rw [if_neg (kne4 km e4), if_neg (show ¬ Int32.ofNat ((6, v0, s0, ofL l) : Vl).1 = 5 from (by decide : ¬ (6 : Int32) = 5)), cutV_6x e4]
        exact ⟨Sr, y1, y2⟩
    rw [if_neg (kne6 k6 t6)]
    by_cases t5 : t.1 = 5
    · rw [if_pos (by rw [t5]; rfl), wr_ne haa.1, (hc.next).1, o_bind]
      have hsp := spR_all h78 haa.1 hp9 hc t5
      have fN := frN_wr S (Int32.ofNat p + 2) (Int32.ofNat (p + (cV t).length))
      obtain ⟨S2, hS2⟩ : ∃ S2, S2 = wr (wr S 78 17 (Int32.ofNat p + 2)) 78 18 (Int32.ofNat (p + (cV t).length)) := ⟨_, rfl⟩
      rw [← hS2] at hsp fN
      rw [← hS2]
      have f1 := fr3_N fN
      have hO1 : OutV S2 C := by
        unfold OutV rd at ho ⊢
        rw [fN.1 91 (by decide), fN.1 90 (by decide)]
        exact ho
      obtain ⟨kt, v0, s0, ft⟩ := t
      obtain ⟨l, rfl⟩ : ∃ l, ft = ofL l := ⟨toL ft, (ofL_toL ft).symm⟩
      have t5 : kt = 5 := t5
      subst t5
      obtain ⟨S', j1, j2, j3⟩ := tloop (C := C) hp9 (by omega) ih (m :: ls') 10000 i S2 none hne hll (hP.fr f1) (hA.fr hpb f1) (by rw [fN.2.1 12 (by decide) (by decide)]; exact hr) hO1 hsp
      exact ⟨S', j1, f1.trans j2, j3⟩
    · rw [if_neg (kne5 k6 t5), show cutV (m.2 :: ls'.map fun m => m.2) t none = none from ?_]
      · exact ⟨Sr, y1, y2⟩
      · unfold cutV
        rw [if_neg t0, if_neg t5, if_neg t6, if_neg t5]
        simp
end RTake174
