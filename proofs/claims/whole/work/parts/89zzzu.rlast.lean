/-! The reference's put: the end of the path, and a path too deep. -/
section RPut162
theorem ior : ((0 : Int32) ||| 0 = 0) ∧ ((1 : Int32) ||| 0 = 1) ∧ ((0 : Int32) ||| 1 = 1) ∧ ((1 : Int32) ||| 1 = 1) := by decide
theorem i_or0 {x : Int32} (h : x = 0 ∨ x = 1) : x ||| 0 = x := by
  rcases h with e | e <;> rw [e] <;> decide
theorem i_or1 {x : Int32} (h : x = 0 ∨ x = 1) : x ||| 1 = 1 := by
  rcases h with e | e <;> rw [e] <;> decide
theorem putS_4 {pi : Vl} {ps : List Vl} {w : Option (Nat × Nat)} {v : Vl} (e4 : pi.1 = 4) : putS (pi :: ps) vNull w v = if w.isSome then none else (putS ps vNull none v).map (fun u => (6, 0, [], ofL [(pi.2.2.1, u)])) := by
  show (if pi.1 = 6 then _ else if pi.1 = 4 then _ else _) = _
  rw [if_neg (by omega), if_pos e4, if_neg (show ¬ vNull.1 = 6 by decide), if_pos (show vNull.1 = 0 from rfl)]
theorem putS_3 {pi : Vl} {ps : List Vl} {w : Option (Nat × Nat)} {v : Vl} (e3 : pi.1 = 3) : putS (pi :: ps) vNull w v = if 0 ≤ pi.2.1 ∧ pi.2.1 ≤ 1000 then (putS ps vNull none v).map (fun u => (5, 0, [], ofL (List.replicate pi.2.1.toNat nulM ++ [([], u)]))) else none := by
  show (if pi.1 = 6 then _ else if pi.1 = 4 then _ else if pi.1 = 3 then _ else _) = _
  rw [if_neg (by omega), if_neg (by omega), if_pos e3, if_neg (show ¬ vNull.1 = 5 by decide), if_pos (show vNull.1 = 0 from rfl)]
theorem putS_6 {pi : Vl} {ps : List Vl} {w : Option (Nat × Nat)} {v : Vl} (e6 : pi.1 = 6) : putS (pi :: ps) vNull w v = if @decide (okBd pi) (Classical.propDecidable _) = true then putS ps vNull (some (0, 0)) v else none := by
  show (if pi.1 = 6 then _ else _) = _
  rw [if_pos e6, if_neg (show ¬ vNull.1 = 5 by decide), if_pos (show vNull.1 = 0 from rfl)]
theorem putS_x {pi t : Vl} {ps : List Vl} {w : Option (Nat × Nat)} {v : Vl} (e3 : pi.1 ≠ 3) (e4 : pi.1 ≠ 4) (e6 : pi.1 ≠ 6) : putS (pi :: ps) t w v = none := by
  show (if pi.1 = 6 then _ else if pi.1 = 4 then _ else if pi.1 = 3 then _ else none) = _
  rw [if_neg e6, if_neg e4, if_neg e3]
theorem wV_obj1 {s : List Int32} {u : Vl} (hs : okS s) (hu : wV u) : wV (6, 0, [], ofL [(s, u)]) := wV_6 (fun c hc => by cases hc) (fun m hm => by rw [List.mem_singleton.mp hm]; exact ⟨hs, hu⟩) (by unfold nod; simp)
theorem wV_arr1 {u : Vl} (k : Nat) (hu : wV u) : wV (5, 0, [], ofL (List.replicate k nulM ++ [([], u)])) := wV_5 (fun c hc => by cases hc) (fun m hm => by
  rcases List.mem_append.mp hm with c | c
  · exact okL_nul k m c
  · rw [List.mem_singleton.mp c]; exact ⟨(fun c hc => by cases hc), hu⟩)
/-- a kind is one of seven -/
theorem kne {k j : Nat} (hk : k ≤ 6) (hj : j < 10) (h : k ≠ j) : ¬ Int32.ofNat k = Int32.ofNat j := by rw [i_inj (by omega) (by omega)]; exact h
theorem kne0 {k : Nat} (hk : k ≤ 6) (h : k ≠ 0) : ¬ Int32.ofNat k = 0 := kne hk (by decide) h
theorem kne3 {k : Nat} (hk : k ≤ 6) (h : k ≠ 3) : ¬ Int32.ofNat k = 3 := kne hk (by decide) h
theorem kne4 {k : Nat} (hk : k ≤ 6) (h : k ≠ 4) : ¬ Int32.ofNat k = 4 := kne hk (by decide) h
theorem kne5 {k : Nat} (hk : k ≤ 6) (h : k ≠ 5) : ¬ Int32.ofNat k = 5 := kne hk (by decide) h
theorem kne6 {k : Nat} (hk : k ≤ 6) (h : k ≠ 6) : ¬ Int32.ofNat k = 6 := kne hk (by decide) h
theorem rest_l {aa pb vb N : Nat} {pt vt : Vl} : ∀ (ls : List Mb) (n i : Nat) (S : SS) (l4 l5 : Int32), prP S aa pb vb pt vt → atP S pb i N ls → ls.length < n → rd S 78 12 = 0 → (l4 = 0 ∨ l4 = 1) → (l5 = 0 ∨ l5 = 1) → ∃ S', b_rest_l11 n S 0 l4 l5 (Int32.ofNat i) = some S' ∧ ((S' = S ∧ l5 = 0 ∧ ∃ T, putS (ls.map fun m => m.2) vNull (wB l4) vt = some T ∧ wV T) ∨ ((∃ v, S' = wr S 78 12 v ∧ ¬ v ≤ 0) ∧ (l5 = 1 ∨ putS (ls.map fun m => m.2) vNull (wB l4) vt = none))) := by
  intro ls
  induction ls with
  | nil =>
    intro n i S l4 l5 hP hA hn hr h4 h5
    obtain ⟨n, rfl⟩ : ∃ j, n = j + 1 := ⟨n - 1, by omega⟩
    obtain ⟨a1, a2, a3, a4, r, a5⟩ := hA
    have z : (blks false []).flatten.length = 0 := rfl
    obtain ⟨p1, p2, p3, p4⟩ := hP.p
    obtain ⟨-, -, -, cv, -⟩ := id hP
    have k6 := cv.2.1.1
    have ref : ((b_refuse S 1).bind fun r => some r) = some (wr S 78 12 1) := by unfold b_refuse; rw [hr, if_pos rfl, o_bind]
    unfold b_rest_l11
    rw [if_neg p1, p2, a2, o_bind, if_pos ((i_le' (by omega) (by omega)).mpr (by omega))]
    rcases h5 with e | e
    · subst e
      rw [if_pos rfl]
      rcases h4 with e | e
      · subst e
        rw [if_pos rfl]
        exact ⟨S, rfl, Or.inl ⟨rfl, rfl, vt, rfl, cv.2.1⟩⟩
      · subst e
        rw [if_neg (by decide), if_neg p3, p4, show (0 : Int32) = Int32.ofNat 0 from rfl, cv.kind, o_bind]
        by_cases e5 : vt.1 = 5
        · rw [if_pos (by rw [e5]; rfl)]
          refine ⟨S, rfl, Or.inl ⟨rfl, rfl, vt, ?_, cv.2.1⟩⟩
          show (if vt.1 = 5 then (if vNull.1 = 5 then _ else some vt) else none) = _
          rw [if_pos e5, if_neg (by decide)]
        · rw [if_neg (kne5 k6 e5)]
          refine ⟨_, ref, Or.inr ⟨⟨1, rfl, by decide⟩, Or.inr ?_⟩⟩
          show (if vt.1 = 5 then _ else none) = _
          rw [if_neg e5]
    · subst e
      rw [if_neg (by decide)]
      exact ⟨_, ref, Or.inr ⟨⟨1, rfl, by decide⟩, Or.inl rfl⟩⟩
  | cons m ls ih =>
    intro n i S l4 l5 hP hA hn hr h4 h5
    obtain ⟨n, rfl⟩ : ∃ j, n = j + 1 := ⟨n - 1, by omega⟩
    obtain ⟨p1, p2, p3, p4⟩ := hP.p
    obtain ⟨-, -, cp, cv, h39, h40, -⟩ := id hP
    obtain ⟨c1, c2, c3, c4⟩ := hA.cons cp.1
    obtain ⟨a1, a2, a3, -⟩ := id hA
    have k6 := c2.2.1.1
    have hn' : ls.length < n := by simp only [List.length_cons] at hn; omega
    rw [List.map_cons]
    have refuse : ∀ v : Int32, ¬ v ≤ 0 → ((b_refuse S v).bind fun r => some r) = some (wr S 78 12 v) := fun v _ => by unfold b_refuse; rw [hr, if_pos rfl, o_bind]
    -- how it goes on
    have l137 : ∀ k11, b_rest_l137 k11 S 0 l4 l5 (Int32.ofNat i) = k11 S 0 (if m.2.1 = 6 then 1 else 0) (if l4 = 1 ∧ m.2.1 = 4 then 1 else l5) (Int32.ofNat (i + (cV m.2).length)) := by
      intro k11
      unfold b_rest_l137
      rcases h4 with e | e
      · subst e
        rw [if_pos rfl, if_neg p1, p2, c2.kind, o_bind, c3, o_bind, o_bind, i_or0 h5, if_neg (show ¬ ((0 : Int32) = 1 ∧ m.2.1 = 4) from fun c => absurd c.1 (by decide))]
        by_cases e6 : m.2.1 = 6
        · rw [if_pos (by rw [e6]; rfl), if_pos e6]
        · rw [if_neg (kne6 k6 e6), if_neg e6]
      · subst e
        rw [if_neg (by decide), if_neg p1, p2, c2.kind, o_bind, c3, o_bind, o_bind, o_bind, o_bind, i_or0 h5, i_or1 h5]
        by_cases e4 : m.2.1 = 4
        · rw [if_pos (by rw [e4]; rfl), if_neg (by rw [e4]; decide), if_neg (show ¬ m.2.1 = 6 by omega), if_pos ⟨rfl, e4⟩]
        · rw [if_neg (kne4 k6 e4), if_neg (show ¬ ((1 : Int32) = 1 ∧ m.2.1 = 4) from fun c => e4 c.2)]
          by_cases e6 : m.2.1 = 6
          · rw [if_pos (by rw [e6]; rfl), if_pos e6]
          · rw [if_neg (kne6 k6 e6), if_neg e6]
    have l84 : ∀ k11, b_rest_l84 k11 S = some (wr S 78 12 1) := fun k11 => by unfold b_rest_l84; exact refuse 1 (by decide)
    have z0 : (0 : Int64).toInt = 0 := rfl
    have z1 : (1000 : Int64).toInt = 1000 := rfl
    unfold b_rest_l11
    rw [if_neg p1, p2, a2, o_bind, if_neg (by rw [i_le' (by omega) (by omega)]; omega), c2.kind, o_bind]
    by_cases e4 : m.2.1 = 4
    · rw [if_pos (by rw [e4]; rfl), if_pos rfl, if_neg (by rw [e4]; decide), l137, if_neg (show ¬ m.2.1 = 6 by omega)]
      obtain ⟨S', j1, j2⟩ := ih n (i + (cV m.2).length) S 0 (if l4 = 1 ∧ m.2.1 = 4 then 1 else l5) hP c4 hn' hr (Or.inl rfl) (by
        by_cases c : l4 = 1 ∧ m.2.1 = 4
        · rw [if_pos c]; exact Or.inr rfl
        · rw [if_neg c]; exact h5)
      refine ⟨S', j1, ?_⟩
      rw [putS_4 e4]
      rcases h4 with e | e
      · subst e
        rw [if_neg (show ¬ ((0 : Int32) = 1 ∧ m.2.1 = 4) from fun c => absurd c.1 (by decide))] at j2
        rw [if_neg (by decide)]
        rcases j2 with ⟨y1, y2, T, y3, y4⟩ | ⟨y1, y2⟩
        · have y3 : putS (ls.map fun m => m.2) vNull none vt = some T := y3
          exact Or.inl ⟨y1, y2, _, by rw [y3]; rfl, wV_obj1 c2.2.1.2.2.1 y4⟩
        · refine Or.inr ⟨y1, ?_⟩
          rcases y2 with y2 | y2
          · exact Or.inl y2
          · have y2 : putS (ls.map fun m => m.2) vNull none vt = none := y2
            exact Or.inr (by rw [y2]; rfl)
      · subst e
        rw [if_pos ⟨rfl, e4⟩] at j2
        rw [if_pos (by decide)]
        rcases j2 with ⟨y1, y2, -⟩ | ⟨y1, -⟩
        · exact absurd y2 (by decide)
        · exact Or.inr ⟨y1, Or.inr rfl⟩
    rw [if_neg (kne4 k6 e4)]
    have nw : ¬ (l4 = 1 ∧ m.2.1 = 4) := fun c => e4 c.2
    by_cases e3 : m.2.1 = 3
    · have c2' := c2
      rw [vl3 e3] at c2'
      have hx := c2.2.1.2.1 e3
      have l1 := l_of (z := m.2.2.1) (by omega) (by omega)
      rw [if_pos (by rw [e3]; rfl), if_pos rfl, c2'.number, o_bind, putS_3 e3]
      by_cases ok : 0 ≤ m.2.2.1 ∧ m.2.2.1 ≤ 1000
      · rw [if_neg (by rw [lg_lt, l1, z0]; omega), if_pos ((lg_le _ _).mpr (by rw [l1, z1]; omega)), l137, if_neg (show ¬ m.2.1 = 6 by omega), if_neg nw, if_pos ok]
        obtain ⟨S', j1, j2⟩ := ih n (i + (cV m.2).length) S 0 l5 hP c4 hn' hr (Or.inl rfl) h5
        refine ⟨S', j1, ?_⟩
        rcases j2 with ⟨y1, y2, T, y3, y4⟩ | ⟨y1, y2⟩
        · have y3 : putS (ls.map fun m => m.2) vNull none vt = some T := y3
          exact Or.inl ⟨y1, y2, _, by rw [y3]; rfl, wV_arr1 _ y4⟩
        · refine Or.inr ⟨y1, ?_⟩
          rcases y2 with y2 | y2
          · exact Or.inl y2
          · have y2 : putS (ls.map fun m => m.2) vNull none vt = none := y2
            exact Or.inr (by rw [y2]; rfl)
      · rw [if_neg ok, refuse 2 (by decide)]
        refine ⟨wr S 78 12 2, ?_, Or.inr ⟨⟨2, rfl, by decide⟩, Or.inr rfl⟩⟩
        by_cases c : m.2.2.1 < 0
        · rw [if_pos ((lg_lt _ _).mpr (by rw [l1, z0]; exact c))]
        · rw [if_neg (by rw [lg_lt, l1, z0]; exact c), if_neg (by rw [lg_le, l1, z1]; omega)]
    rw [if_neg (kne3 k6 e3)]
    by_cases e6 : m.2.1 = 6
    · obtain ⟨b1, b2⟩ := part_val c2 e6 h39 h40
      rw [if_pos (by rw [e6]; rfl), putS_6 e6]
      by_cases ok : okBd m.2
      · rw [b1 ok, o_bind, if_neg (by decide), if_pos rfl, l137, if_pos e6, if_neg nw, if_pos (@decide_eq_true _ (Classical.propDecidable _) ok)]
        obtain ⟨S', j1, j2⟩ := ih n (i + (cV m.2).length) S 1 l5 hP c4 hn' hr (Or.inr rfl) h5
        exact ⟨S', j1, j2⟩
      · rw [b2 ok, o_bind, if_pos rfl, l84, if_neg (fun c => ok (@of_decide_eq_true _ (Classical.propDecidable _) c))]
        exact ⟨_, rfl, Or.inr ⟨⟨1, rfl, by decide⟩, Or.inr rfl⟩⟩
    · rw [if_neg (kne6 k6 e6), l84, putS_x e3 e4 e6]
      exact ⟨_, rfl, Or.inr ⟨⟨1, rfl, by decide⟩, Or.inr rfl⟩⟩
theorem blks_f (l : List Mb) : blks false l = l.map fun m => cV m.2 := by
  induction l with
  | nil => rfl
  | cons m l ih =>
    have e : blks false (m :: l) = cV m.2 :: blks false l := rfl
    rw [e, ih]
    rfl
theorem pos_in {as : List Int32} {p i : Nat} {v : Int} {s : List Int32} {l : List Mb} (h : cat as p (5, v, s, ofL l)) (hi : i ≤ l.length) : pos (5, v, s, ofL l) p i = p + 2 + (blks false (l.take i)).flatten.length ∧ (cV (5, v, s, ofL l)).length = (blks false l).flatten.length + 2 ∧ ∃ r, as.drop (pos (5, v, s, ofL l) p i) = (blks false (l.drop i)).flatten ++ r ∧ as.drop (p + 2) = (blks false l).flatten ++ r := by
  obtain ⟨h1, h2, r, h3⟩ := h
  obtain ⟨c1, c2⟩ := cbox_in (Or.inl rfl) h3
  have e5 : (5 == 6) = false := rfl
  rw [e5] at c1 c2
  have ep : pos (5, v, s, ofL l) p i = bp (p + 2) (blks false l) i := by
    unfold pos
    rw [if_neg (show ¬ (5 : Nat) = 4 by decide)]
    show bp (p + 2) (blks false (toL (ofL l))) i = _
    rw [toL_ofL]
  have et : (blks false l).take i = blks false (l.take i) := by rw [blks_f, blks_f, List.map_take]
  have ed : (blks false l).drop i = blks false (l.drop i) := by rw [blks_f, blks_f, List.map_drop]
  have hlen : (blks false l).length = l.length := by rw [blks_f, List.length_map]
  refine ⟨by rw [ep]; unfold bp; rw [et], c2, r, ?_, c1⟩
  rw [ep, bp_drop c1 (by omega), ed]
/-- cells of elements i to before j -/
theorem cellsQ {S : SS} {aa p i j : Nat} {v : Int} {s : List Int32} {l : List Mb} {C : List Int32} (haa : aa ≠ 90 ∧ aa ≠ 91) (h : cat (S aa) p (5, v, s, ofL l)) (hij : i ≤ j) (hj : j ≤ l.length) (ho : OutV S C) : ∃ S', b_cells S aa (Int32.ofNat (pos (5, v, s, ofL l) p i)) (Int32.ofNat (pos (5, v, s, ofL l) p j)) = some S' ∧ OutV S' (C ++ (blks false ((l.drop i).take (j - i))).flatten) ∧ frO S S' := by
  obtain ⟨a1, a2, r, a3, a4⟩ := pos_in h (by omega : i ≤ l.length)
  obtain ⟨b1, -, -⟩ := pos_in h hj
  have hn := h.next.2
  have h9 := h.1
  have e1 : l.take j = l.take i ++ (l.drop i).take (j - i) := by
    rw [← List.take_add]
    congr 1
    omega
  have e2 : l.drop i = (l.drop i).take (j - i) ++ (l.drop i).drop (j - i) := (List.take_append_drop _ _).symm
  have e3 : pos (5, v, s, ofL l) p j = pos (5, v, s, ofL l) p i + (blks false ((l.drop i).take (j - i))).flatten.length := by
    rw [a1, b1, e1, blks_app, List.flatten_append, List.length_append]
    omega
  rw [e2, blks_app, List.flatten_append, List.append_assoc] at a3
  have hle : pos (5, v, s, ofL l) p i ≤ 9000 := by
    have : (blks false (l.take i)).flatten.length ≤ (blks false l).flatten.length := by
      conv => rhs; rw [← List.take_append_drop i l]
      rw [blks_app, List.flatten_append, List.length_append]
      omega
    omega
  rw [e3]
  exact ocells haa ho h9 a3 hle
/-- the end of the path -/
theorem last_val {S : SS} {aa pb vb dp : Nat} {pt vt t : Vl} {C : List Int32} {p0 : Int32} {w : Option (Nat × Nat)} (hP : prP S aa pb vb pt vt) (ho : OutV S C) (hr : rd S 78 12 = 0) (hw : w.isSome → t.1 = 5 ∨ t.1 = 0) (h5 : t.1 = 5 → spR S aa t w p0) (hk : t.1 ≤ 6) : ∃ S', ((b_last S aa p0 (Int32.ofNat t.1) (if w.isSome then 1 else 0)).bind fun r => some r) = some S' ∧ rpO S S' C (putS [] t w vt) dp := by
  obtain ⟨p1, p2, p3, p4⟩ := hP.p
  obtain ⟨-, -, cp, cv, h39, h40, h78, b1, b2, b3⟩ := id hP
  have k6 := cv.2.1.1
  obtain ⟨-, -, rv, dv⟩ := id cv
  obtain ⟨S1, c1, c2, c3⟩ := ocopy (aa := vb) (p := 0) (w := cV vt) (r := rv) (by omega) (cV_h k6) ho cv.1 dv
  have copied : ∃ S', q_copy S vb 0 = some S' ∧ ∀ o, o = some vt → rpO S S' C o dp := by
    refine ⟨S1, c1, fun o ho' => ⟨fr3_O c3, _, c2, fun T hT => ?_, fun hn => by rw [ho'] at hn; cases hn⟩⟩
    rw [ho'] at hT
    cases hT
    exact ⟨by rw [frO_12 c3]; exact hr, cv.2.1, Or.inl rfl⟩
  obtain ⟨S2, d1, d2⟩ := copied
  unfold b_last
  cases w with
  | none =>
    rw [if_pos (show (if (none : Option (Nat × Nat)).isSome = true then (1 : Int32) else 0) = 0 from rfl), if_neg p3, p4, d1, o_bind, o_bind]
    exact ⟨S2, rfl, d2 _ rfl⟩
  | some ab =>
    obtain ⟨a, b⟩ := ab
    rw [if_neg (show ¬ (if (some (a, b) : Option (Nat × Nat)).isSome = true then (1 : Int32) else 0) = 0 from fun e => absurd e (show ¬ (1 : Int32) = 0 by decide)), if_neg p3, p4, show iget (S vb) 0 = some (Int32.ofNat vt.1) from cv.kind, o_bind]
    have eS : putS [] t (some (a, b)) vt = if vt.1 = 5 then (if t.1 = 5 then some (5, t.2.1, t.2.2.1, ofL ((toL t.2.2.2).take a ++ (toL vt.2.2.2 ++ (toL t.2.2.2).drop b))) else some vt) else none := rfl
    rw [eS]
    by_cases e5 : vt.1 = 5
    · rw [if_pos (by rw [e5]; rfl), if_pos e5]
      by_cases t5 : t.1 = 5
      · obtain ⟨kt, v0, s0, ft⟩ := t
        obtain ⟨l, rfl⟩ : ∃ l, ft = ofL l := ⟨toL ft, (ofL_toL ft).symm⟩
        have t5 : kt = 5 := t5
        subst t5
        obtain ⟨kv, vv, sv, fv⟩ := vt
        obtain ⟨lv, rfl⟩ : ∃ l, fv = ofL l := ⟨toL fv, (ofL_toL fv).symm⟩
        have e5 : kv = 5 := e5
        subst e5
        obtain ⟨p, ep, hp9, hc, hwo, -, hwb⟩ := h5 rfl
        obtain ⟨x1, x2⟩ := hwb (Or.inr rfl)
        obtain ⟨w1, w2, -⟩ := hwo a b rfl
        have hsz : size (5, v0, s0, ofL l) = l.length := by unfold size; rw [if_neg (show ¬ (5 : Nat) = 4 by decide)]; exact congrArg List.length (toL_ofL l)
        rw [hsz] at w2
        have eA : winA (5, v0, s0, ofL l) (some (a, b)) = a := rfl
        have eE : winE (5, v0, s0, ofL l) (some (a, b)) = b := by unfold winE winA winN; simp only; omega
        rw [eA] at x1
        rw [eE] at x2
        rw [if_neg (show ¬ Int32.ofNat 5 = 0 by decide), if_pos rfl]
        obtain ⟨S3, at_, o1, o2, o3, o4⟩ := oopen ho 5
        have f3 := fr3_O o3
        have hc3 : cat (S3 aa) p (5, v0, s0, ofL l) := by rw [o3 aa (by omega) (by omega)]; exact hc
        have ep0 : pos (5, v0, s0, ofL l) p 0 = p + 2 := by
          obtain ⟨y1, -, -⟩ := pos_in hc (Nat.zero_le l.length)
          rw [y1]
          show p + 2 + 0 = _
          omega
        have epn : pos (5, v0, s0, ofL l) p l.length = p + (cV (5, v0, s0, ofL l)).length := by
          obtain ⟨y1, y2, -⟩ := pos_in hc (Nat.le_refl l.length)
          rw [y1, y2, List.take_of_length_le (Nat.le_refl _)]
          omega
        obtain ⟨S4, q1, q2, q3⟩ := cellsQ (i := 0) (j := a) (by omega) hc3 (Nat.zero_le _) (by omega) o2
        rw [ep0] at q1
        have f4 := f3.trans (fr3_O q3)
        have cv4 : cat (S4 vb) 0 (5, vv, sv, ofL lv) := by rw [f4.1 vb (by omega) (by omega) (by omega)]; exact cv
        have hP4 := hP.fr f4
        obtain ⟨-, -, p3', p4'⟩ := hP4.p
        have ev0 : pos (5, vv, sv, ofL lv) 0 0 = 2 := by
          obtain ⟨y1, -, -⟩ := pos_in cv4 (Nat.zero_le lv.length)
          rw [y1]
          rfl
        have evn : pos (5, vv, sv, ofL lv) 0 lv.length = (cV (5, vv, sv, ofL lv)).length := by
          obtain ⟨y1, y2, -⟩ := pos_in cv4 (Nat.le_refl lv.length)
          rw [y1, y2, List.take_of_length_le (Nat.le_refl _)]
          omega
        have ig1 : iget (S4 vb) 1 = some (Int32.ofNat (cV (5, vv, sv, ofL lv)).length) := by
          have hd4 := cv4.2.2
          obtain ⟨r4, hd4⟩ := hd4
          rw [cV_5] at hd4
          have := iget_drop (p := 1) (r := (blks false lv).flatten ++ r4) cv4.1 (x := Int32.ofNat ((blks false lv).flatten.length + 2)) (by
            have := drop_more (w := [(5 : Int32)]) (p := 0) (r := Int32.ofNat ((blks false lv).flatten.length + 2) :: ((blks false lv).flatten ++ r4)) (us := S4 vb) (by simpa using hd4)
            simpa using this)
          rw [cV_5]
          simp only [List.length_cons]
          exact this
        obtain ⟨S5, u1, u2, u3⟩ := cellsQ (i := 0) (j := lv.length) (by omega) cv4 (Nat.zero_le _) (Nat.le_refl _) q2
        rw [ev0, evn] at u1
        have f5 := f4.trans (fr3_O u3)
        have hc5 : cat (S5 aa) p (5, v0, s0, ofL l) := by rw [f5.1 aa (by omega) (by omega) (by omega)]; exact hc
        obtain ⟨S6, v1, v2, v3⟩ := cellsQ (i := b) (j := l.length) (by omega) hc5 w2 (Nat.le_refl _) u2
        rw [epn] at v1
        have f6 := f5.trans (fr3_O v3)
        have er3 : rd S3 78 17 = Int32.ofNat (pos (5, v0, s0, ofL l) p a) := by rw [frO_12 o3]; exact x1
        have er5 : rd S5 78 18 = Int32.ofNat (pos (5, v0, s0, ofL l) p b) := by rw [frO_12 u3, frO_12 q3, frO_12 o3]; exact x2
        have body : (blks false ((l.drop 0).take (a - 0))).flatten ++ ((blks false ((lv.drop 0).take (lv.length - 0))).flatten ++ (blks false ((l.drop b).take (l.length - b))).flatten) = (blks false (l.take a ++ (lv ++ l.drop b))).flatten := by
          rw [blks_app, blks_app, List.flatten_append, List.flatten_append, List.drop_zero, List.drop_zero, Nat.sub_zero, Nat.sub_zero, List.take_of_length_le (Nat.le_refl lv.length), List.take_of_length_le (show (l.drop b).length ≤ l.length - b by rw [List.length_drop]; exact Nat.le_refl _)]
        have ofin : OutV S6 (C ++ 5 :: 0 :: (blks false (l.take a ++ (lv ++ l.drop b))).flatten) := by
          rw [← body]
          simpa using v2
        obtain ⟨S7, z1, z2, z3⟩ := oclose (C := C) (k := 5) (at_ := at_) ofin o4
        refine ⟨S7, ?_, f6.trans (fr3_O z3), _, z2, fun T hT => ?_, fun hn => by cases hn⟩
        · rw [o1, o_bind, ep, show Int32.ofNat p + 2 = Int32.ofNat (p + 2) from (Int32.ofNat_add p 2).symm, er3, q1, o_bind, if_neg p3', p4', ig1, o_bind, show (2 : Int32) = Int32.ofNat 2 from rfl, u1, o_bind, (hc5.next).1, o_bind, er5, v1, o_bind, z1, o_bind, o_bind]
        · have hT : some (5, v0, s0, ofL ((toL (ofL l)).take a ++ (toL (ofL lv) ++ (toL (ofL l)).drop b))) = some T := hT
          rw [toL_ofL, toL_ofL] at hT
          cases hT
          refine ⟨by rw [frO_12 z3, frO_12 v3, frO_12 u3, frO_12 q3, frO_12 o3]; exact hr, wV_5 hc.2.1.2.2.1 ?_, Or.inl ?_⟩
          · intro x hx
            rcases List.mem_append.mp hx with c | c
            · exact hc.2.1.kids x (List.mem_of_mem_take c)
            · rcases List.mem_append.mp c with c | c
              · exact cv.2.1.kids x c
              · exact hc.2.1.kids x (List.mem_of_mem_drop c)
          · rw [cV_5]
      · have t0 : t.1 = 0 := (hw rfl).resolve_left t5
        rw [if_pos (by rw [t0]; rfl), d1, o_bind, o_bind, if_neg t5]
        exact ⟨S2, rfl, d2 _ rfl⟩
    · rw [if_neg (kne5 k6 e5), if_neg e5]
      obtain ⟨S', y1, y2⟩ := rref (v := 1) (dp := dp) h78 ho (by decide) hr
      rw [y1, o_bind]
      exact ⟨S', rfl, y2⟩
end RPut162
