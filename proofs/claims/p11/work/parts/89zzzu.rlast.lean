section
/-! The reference's put: the end of the path, and a path too deep. -/
section RPut162
theorem ior : ((0 : Int32) ||| 0 = 0) ∧ ((1 : Int32) ||| 0 = 1) ∧ ((0 : Int32) ||| 1 = 1) ∧ ((1 : Int32) ||| 1 = 1) := by decide
theorem i_or0 {x : Int32} (h : x = 0 ∨ x = 1) : x ||| 0 = x := by
  rcases h with e | e <;> rw [e] <;> decide
theorem i_or1 {x : Int32} (h : x = 0 ∨ x = 1) : x ||| 1 = 1 := by
  rcases h with e | e <;> rw [e] <;> decide
theorem putS_4 {pi : Vl} {ps : List Vl} {w : Option (Nat × Nat)} {v : Vl} (e4 : pi.1 = 4) : putS (pi :: ps) vNull w v = if w.isSome then none else (putS ps vNull none v).map (fun u => (6, 0, [], ofL [(pi.2.2.1, u)])) := by
  show (if pi.1 = 6 then _ else if pi.1 = 4 then _ else _) = _
  rw [if_neg (by omega), if_pos e4, if_neg (show ¬ vNull.1 = 6 by decide), if_pos (show vNull.1 = 0 from rfl)]
theorem putS_3 {pi : Vl} {ps : List Vl} {w : Option (Nat × Nat)} {v : Vl} (e3 : pi.1 = 3) : putS (pi :: ps) vNull w v = if 0 ≤ pi.2.1 ∧ pi.2.1 ≤ 1000 then (putS ps vNull none v).map (fun u => (5, 0, [], ofL (List.replicate pi.2.1.toNat nulM ++ [([], u)]))) else none := by
  show (if pi.1 = 6 then _ else if pi.1 = 4 then _ else if pi.1 = 3 then _ else _) = _
  rw [if_neg (by omega), if_neg (by omega), if_pos e3, if_neg (show ¬ vNull.1 = 5 by decide), if_pos (show vNull.1 = 0 from rfl)]
theorem putS_6 {pi : Vl} {ps : List Vl} {w : Option (Nat × Nat)} {v : Vl} (e6 : pi.1 = 6) : putS (pi :: ps) vNull w v = if @decide (okBd pi) (Classical.propDecidable _) = true then putS ps vNull (some (0, 0)) v else none := by
  show (if pi.1 = 6 then _ else _) = _
  rw [if_pos e6, if_neg (show ¬ vNull.1 = 5 by decide), if_pos (show vNull.1 = 0 from rfl)]
theorem putS_x {pi t : Vl} {ps : List Vl} {w : Option (Nat × Nat)} {v : Vl} (e3 : pi.1 ≠ 3) (e4 : pi.1 ≠ 4) (e6 : pi.1 ≠ 6) : putS (pi :: ps) t w v = none := by
  show (if pi.1 = 6 then _ else if pi.1 = 4 then _ else if pi.1 = 3 then _ else none) = _
  rw [if_neg e6, if_neg e4, if_neg e3]
theorem wV_obj1 {s : List Int32} {u : Vl} (hs : okS s) (hu : wV u) : wV (6, 0, [], ofL [(s, u)]) := wV_6 (fun c hc => by cases hc) (fun m hm => by rw [List.mem_singleton.mp hm]; exact ⟨hs, hu⟩) (by unfold nod; simp)
theorem wV_arr1 {u : Vl} (k : Nat) (hu : wV u) : wV (5, 0, [], ofL (List.replicate k nulM ++ [([], u)])) := wV_5 (fun c hc => by cases hc) (fun m hm => by
  rcases List.mem_append.mp hm with c | c
  · exact okL_nul k m c
  · rw [List.mem_singleton.mp c]; exact ⟨(fun c hc => by cases hc), hu⟩)
/-- a kind is one of seven -/
theorem kne {k j : Nat} (hk : k ≤ 6) (hj : j < 10) (h : k ≠ j) : ¬ Int32.ofNat k = Int32.ofNat j := by rw [i_inj (by omega) (by omega)]; exact h
theorem kne0 {k : Nat} (hk : k ≤ 6) (h : k ≠ 0) : ¬ Int32.ofNat k = 0 := kne hk (by decide) h
theorem kne3 {k : Nat} (hk : k ≤ 6) (h : k ≠ 3) : ¬ Int32.ofNat k = 3 := kne hk (by decide) h
theorem kne4 {k : Nat} (hk : k ≤ 6) (h : k ≠ 4) : ¬ Int32.ofNat k = 4 := kne hk (by decide) h
theorem kne5 {k : Nat} (hk : k ≤ 6) (h : k ≠ 5) : ¬ Int32.ofNat k = 5 := kne hk (by decide) h
theorem kne6 {k : Nat} (hk : k ≤ 6) (h : k ≠ 6) : ¬ Int32.ofNat k = 6 := kne hk (by decide) h
theorem rest_l {aa pb vb N : Nat} {pt vt : Vl} : ∀ (ls : List Mb) (n i : Nat) (S : SS) (l4 l5 : Int32), prP S aa pb vb pt vt → atP S pb i N ls → ls.length < n → rd S 78 12 = 0 → (l4 = 0 ∨ l4 = 1) → (l5 = 0 ∨ l5 = 1) → ∃ S', b_rest_l11 n S 0 l4 l5 (Int32.ofNat i) = some S' ∧ ((S' = S ∧ l5 = 0 ∧ ∃ T, putS (ls.map fun m => m.2) vNull (wB l4) vt = some T ∧ wV T) ∨ ((∃ v, S' = wr S 78 12 v ∧ ¬ v ≤ 0) ∧ (l5 = 1 ∨ putS (ls.map fun m => m.2) vNull (wB l4) vt = none))) := by
  intro ls
  induction ls with
  | nil =>
    intro n i S l4 l5 hP hA hn hr h4 h5
    obtain ⟨n, rfl⟩ : ∃ j, n = j + 1 := ⟨n - 1, by omega⟩
    obtain ⟨a1, a2, a3, a4, r, a5⟩ := hA
    have z : (blks false []).flatten.length = 0 := rfl
    obtain ⟨p1, p2, p3, p4⟩ := hP.p
    obtain ⟨-, -, -, cv, -⟩ := id hP
    have k6 := cv.2.1.1
    have ref : ((b_refuse S 1).bind fun r => some r) = some (wr S 78 12 1) := by unfold b_refuse; rw [hr, if_pos rfl, o_bind]
    unfold b_rest_l11
    rw [if_neg p1, p2, a2, o_bind, if_pos ((i_le' (by omega) (by omega)).mpr (by omega))]
    rcases h5 with e | e
    · subst e
      rw [if_pos rfl]
      rcases h4 with e | e
      · subst e
        rw [if_pos rfl]
        exact ⟨S, rfl, Or.inl ⟨rfl, rfl, vt, rfl, cv.2.1⟩⟩
      · subst e
        rw [if_neg (by decide), if_neg p3, p4, show (0 : Int32) = Int32.ofNat 0 from rfl, cv.kind, o_bind]
        by_cases e5 : vt.1 = 5
        · rw [if_pos (by rw [e5]; rfl)]
          refine ⟨S, rfl, Or.inl ⟨rfl, rfl, vt, ?_, cv.2.1⟩⟩
          show (if vt.1 = 5 then (if vNull.1 = 5 then _ else some vt) else none) = _
          rw [if_pos e5, if_neg (by decide)]
        · rw [if_neg (kne5 k6 e5)]
          refine ⟨_, ref, Or.inr ⟨⟨1, rfl, by decide⟩, Or.inr ?_⟩⟩
          show (if vt.1 = 5 then _ else none) = _
          rw [if_neg e5]
    · subst e
      rw [if_neg (by decide)]
      exact ⟨_, ref, Or.inr ⟨⟨1, rfl, by decide⟩, Or.inl rfl⟩⟩
  | cons m ls ih =>
    intro n i S l4 l5 hP hA hn hr h4 h5
    obtain ⟨n, rfl⟩ : ∃ j, n = j + 1 := ⟨n - 1, by omega⟩
    obtain ⟨p1, p2, p3, p4⟩ := hP.p
    obtain ⟨-, -, cp, cv, h39, h40, -⟩ := id hP
    obtain ⟨c1, c2, c3, c4⟩ := hA.cons cp.1
    obtain ⟨a1, a2, a3, -⟩ := id hA
    have k6 := c2.2.1.1
    have hn' : ls.length < n := by simp only [List.length_cons] at hn; omega
    rw [List.map_cons]
    have refuse : ∀ v : Int32, ¬ v ≤ 0 → ((b_refuse S v).bind fun r => some r) = some (wr S 78 12 v) := fun v _ => by unfold b_refuse; rw [hr, if_pos rfl, o_bind]
    -- how it goes on
    have l137 : ∀ k11, b_rest_l137 k11 S 0 l4 l5 (Int32.ofNat i) = k11 S 0 (if m.2.1 = 6 then 1 else 0) (if l4 = 1 ∧ m.2.1 = 4 then 1 else l5) (Int32.ofNat (i + (cV m.2).length)) := by
      intro k11
      unfold b_rest_l137
      rcases h4 with e | e
      · subst e
        rw [if_pos rfl, if_neg p1, p2, c2.kind, o_bind, c3, o_bind, o_bind, i_or0 h5, if_neg (show ¬ ((0 : Int32) = 1 ∧ m.2.1 = 4) from fun c => absurd c.1 (by decide))]
        by_cases e6 : m.2.1 = 6
        · rw [if_pos (by rw [e6]; rfl), if_pos e6]
        · rw [if_neg (kne6 k6 e6), if_neg e6]
      · subst e
        rw [if_neg (by decide), if_neg p1, p2, c2.kind, o_bind, c3, o_bind, o_bind, o_bind, o_bind, i_or0 h5, i_or1 h5]
        by_cases e4 : m.2.1 = 4
        · rw [if_pos (by rw [e4]; rfl), if_neg (by rw [e4]; decide), if_neg (show ¬ m.2.1 = 6 by omega), if_pos ⟨rfl, e4⟩]
        · rw [if_neg (kne4 k6 e4), if_neg (show ¬ ((1 : Int32) = 1 ∧ m.2.1 = 4) from fun c => e4 c.2)]
          by_cases e6 : m.2.1 = 6
          · rw [if_pos (by rw [e6]; rfl), if_pos e6]
          · rw [if_neg (kne6 k6 e6), if_neg e6]
    have l84 : ∀ k11, b_rest_l84 k11 S = some (wr S 78 12 1) := fun k11 => by unfold b_rest_l84; exact refuse 1 (by decide)
    have z0 : (0 : Int64).toInt = 0 := rfl
    have z1 : (1000 : Int64).toInt = 1000 := rfl
    unfold b_rest_l11
    rw [if_neg p1, p2, a2, o_bind, if_neg (by rw [i_le' (by omega) (by omega)]; omega), c2.kind, o_bind]
    by_cases e4 : m.2.1 = 4
    · rw [if_pos (by rw [e4]; rfl), if_pos rfl, if_neg (by rw [e4]; decide), l137, if_neg (show ¬ m.2.1 = 6 by omega)]
      obtain ⟨S', j1, j2⟩ := ih n (i + (cV m.2).length) S 0 (if l4 = 1 ∧ m.2.1 = 4 then 1 else l5) hP c4 hn' hr (Or.inl rfl) (by
        by_cases c : l4 = 1 ∧ m.2.1 = 4
        · rw [if_pos c]; exact Or.inr rfl
        · rw [if_neg c]; exact h5)
      refine ⟨S', j1, ?_⟩
      rw [putS_4 e4]
      rcases h4 with e | e
      · subst e
        rw [if_neg (show ¬ ((0 : Int32) = 1 ∧ m.2.1 = 4) from fun c => absurd c.1 (by decide))] at j2
        rw [if_neg (by decide)]
        rcases j2 with ⟨y1, y2, T, y3, y4⟩ | ⟨y1, y2⟩
        · have y3 : putS (ls.map fun m => m.2) vNull none vt = some T := y3
          exact Or.inl ⟨y1, y2, _, by rw [y3]; rfl, wV_obj1 c2.2.1.2.2.1 y4⟩
        · refine Or.inr ⟨y1, ?_⟩
          rcases y2 with y2 | y2
          · exact Or.inl y2
          · have y2 : putS (ls.map fun m => m.2) vNull none vt = none := y2
            exact Or.inr (by rw [y2]; rfl)
      · subst e
        rw [if_pos ⟨rfl, e4⟩] at j2
        rw [if_pos (by decide)]
        rcases j2 with ⟨y1, y2, -⟩ | ⟨y1, -⟩
        · exact absurd y2 (by decide)
        · exact Or.inr ⟨y1, Or.inr rfl⟩
    rw [if_neg (kne4 k6 e4)]
    have nw : ¬ (l4 = 1 ∧ m.2.1 = 4) := fun c => e4 c.2
    by_cases e3 : m.2.1 = 3
    · have c2' := c2
      rw [vl3 e3] at c2'
      have hx := c2.2.1.2.1 e3
      have l1 := l_of (z := m.2.2.1) (by omega) (by omega)
      rw [if_pos (by rw [e3]; rfl), if_pos rfl, c2'.number, o_bind, putS_3 e3]
      by_cases ok : 0 ≤ m.2.2.1 ∧ m.2.2.1 ≤ 1000
      · rw [if_neg (by rw [lg_lt, l1, z0]; omega), if_pos ((lg_le _ _).mpr (by rw [l1, z1]; omega)), l137, if_neg (show ¬ m.2.1 = 6 by omega), if_neg nw, if_pos ok]
        obtain ⟨S', j1, j2⟩ := ih n (i + (cV m.2).length) S 0 l5 hP c4 hn' hr (Or.inl rfl) h5
        refine ⟨S', j1, ?_⟩
        rcases j2 with ⟨y1, y2, T, y3, y4⟩ | ⟨y1, y2⟩
        · have y3 : putS (ls.map fun m => m.2) vNull none vt = some T := y3
          exact Or.inl ⟨y1, y2, _, by rw [y3]; rfl, wV_arr1 _ y4⟩
        · refine Or.inr ⟨y1, ?_⟩
          rcases y2 with y2 | y2
          · exact Or.inl y2
          · have y2 : putS (ls.map fun m => m.2) vNull none vt = none := y2
            exact Or.inr (by rw [y2]; rfl)
      · rw [if_neg ok, refuse 2 (by decide)]
        refine ⟨wr S 78 12 2, ?_, Or.inr ⟨⟨2, rfl, by decide⟩, Or.inr rfl⟩⟩
        by_cases c : m.2.2.1 < 0
        · rw [if_pos ((lg_lt _ _).mpr (by rw [l1, z0]; exact c))]
        · rw [if_neg (by rw [lg_lt, l1, z0]; exact c), if_neg (by rw [lg_le, l1, z1]; omega)]
    rw [if_neg (kne3 k6 e3)]
    by_cases e6 : m.2.1 = 6
    · obtain ⟨b1, b2⟩ := part_val c2 e6 h39 h40
      rw [if_pos (by rw [e6]; rfl), putS_6 e6]
      by_cases ok : okBd m.2
      · rw [b1 ok, o_bind, if_neg (by decide), if_pos rfl, l137, if_pos e6, if_neg nw, if_pos (@decide_eq_true _ (Classical.propDecidable _) ok)]
        obtain ⟨S', j1, j2⟩ := ih n (i + (cV m.2).length) S 1 l5 hP c4 hn' hr (Or.inr rfl) h5
        exact ⟨S', j1, j2⟩
      · rw [b2 ok, o_bind, if_pos rfl, l84, if_neg (fun c => ok (@of_decide_eq_true _ (Classical.propDecidable _) c))]
        exact ⟨_, rfl, Or.inr ⟨⟨1, rfl, by decide⟩, Or.inr rfl⟩⟩
    · rw [if_neg (kne6 k6 e6), l84, putS_x e3 e4 e6]
      exact ⟨_, rfl, Or.inr ⟨⟨1, rfl, by decide⟩, Or.inr rfl⟩⟩
theorem blks_f (l : List Mb) : blks false l = l.map fun m => cV m.2 := by
  induction l with
  | nil => rfl
  | cons m l ih =>
    have e : blks false (m :: l) = cV m.2 :: blks false l := rfl
    rw [e, ih]
    rfl
theorem pos_in {as : List Int32} {p i : Nat} {v : Int} {s : List Int32} {l : List Mb} (h : cat as p (5, v, s, ofL l)) (hi : i ≤ l.length) : pos (5, v, s, ofL l) p i = p + 2 + (blks false (l.take i)).flatten.length ∧ (cV (5, v, s, ofL l)).length = (blks false l).flatten.length + 2 ∧ ∃ r, as.drop (pos (5, v, s, ofL l) p i) = (blks false (l.drop i)).flatten ++ r ∧ as.drop (p + 2) = (blks false l).flatten ++ r := by
  obtain ⟨h1, h2, r, h3⟩ := h
  obtain ⟨c1, c2⟩ := cbox_in (Or.inl rfl) h3
  have e5 : (5 == 6) = false := rfl
  rw [e5] at c1 c2
  have ep : pos (5, v, s, ofL l) p i = bp (p + 2) (blks false l) i := by
    unfold pos
    rw [if_neg (show ¬ (5 : Nat) = 4 by decide)]
    show bp (p + 2) (blks false (toL (ofL l))) i = _
    rw [toL_ofL]
  have et : (blks false l).take i = blks false (l.take i) := by rw [blks_f, blks_f, List.map_take]
  have ed : (blks false l).drop i = blks false (l.drop i) := by rw [blks_f, blks_f, List.map_drop]
  have hlen : (blks false l).length = l.length := by rw [blks_f, List.length_map]
  refine ⟨by rw [ep]; unfold bp; rw [et], c2, r, ?_, c1⟩
  rw [ep, bp_drop c1 (by omega), ed]
/-- cells of elements i to before j -/
theorem cellsQ {S : SS} {aa p i j : Nat} {v : Int} {s : List Int32} {l : List Mb} {C : List Int32} (haa : aa ≠ 90 ∧ aa ≠ 91) (h : cat (S aa) p (5, v, s, ofL l)) (hij : i ≤ j) (hj : j ≤ l.length) (ho : OutV S C) : ∃ S', b_cells S aa (Int32.ofNat (pos (5, v, s, ofL l) p i)) (Int32.ofNat (pos (5, v, s, ofL l) p j)) = some S' ∧ OutV S' (C ++ (blks false ((l.drop i).take (j - i))).flatten) ∧ frO S S' := by
  obtain ⟨a1, a2, r, a3, a4⟩ := pos_in h (by omega : i ≤ l.length)
  obtain ⟨b1, -, -⟩ := pos_in h hj
  have hn := h.next.2
  have h9 := h.1
  have e1 : l.take j = l.take i ++ (l.drop i).take (j - i) := by
    rw [← List.take_add]
    congr 1
    omega
  have e2 : l.drop i = (l.drop i).take (j - i) ++ (l.drop i).drop (j - i) := (List.take_append_drop _ _).symm
  have e3 : pos (5, v, s, ofL l) p j = pos (5, v, s, ofL l) p i + (blks false ((l.drop i).take (j - i))).flatten.length := by
    rw [a1, b1, e1, blks_app, List.flatten_append, List.length_append]
    omega
  rw [e2, blks_app, List.flatten_append, List.append_assoc] at a3
  have hle : pos (5, v, s, ofL l) p i ≤ 9000 := by
    have : (blks false (l.take i)).flatten.length ≤ (blks false l).flatten.length := by
      conv => rhs; rw [← List.take_append_drop i l]
      rw [blks_app, List.flatten_append, List.length_append]
      omega
    omega
  rw [e3]
  exact ocells haa ho h9 a3 hle
/-- the end of the path -/
theorem last_val {S : SS} {aa pb vb dp : Nat} {pt vt t : Vl} {C : List Int32} {p0 : Int32} {w : Option (Nat × Nat)} (hP : prP S aa pb vb pt vt) (ho : OutV S C) (hr : rd S 78 12 = 0) (hw : w.isSome → t.1 = 5 ∨ t.1 = 0) (h5 : t.1 = 5 → spR S aa t w p0) (hk : t.1 ≤ 6) : ∃ S', ((b_last S aa p0 (Int32.ofNat t.1) (if w.isSome then 1 else 0)).bind fun r => some r) = some S' ∧ rpO S S' C (putS [] t w vt) dp := by
  obtain ⟨p1, p2, p3, p4⟩ := hP.p
  obtain ⟨-, -, cp, cv, h39, h40, h78, b1, b2, b3⟩ := id hP
  have k6 := cv.2.1.1
  obtain ⟨-, -, rv, dv⟩ := id cv
  obtain ⟨S1, c1, c2, c3⟩ := ocopy (aa := vb) (p := 0) (w := cV vt) (r := rv) (by omega) (cV_h k6) ho cv.1 dv
  have copied : ∃ S', q_copy S vb 0 = some S' ∧ ∀ o, o = some vt → rpO S S' C o dp := by
    refine ⟨S1, c1, fun o ho' => ⟨fr3_O c3, _, c2, fun T hT => ?_, fun hn => by rw [ho'] at hn; cases hn⟩⟩
    rw [ho'] at hT
    cases hT
    exact ⟨by rw [frO_12 c3]; exact hr, cv.2.1, Or.inl rfl⟩
  obtain ⟨S2, d1, d2⟩ := copied
  unfold b_last
  cases w with
  | none =>
    rw [if_pos (show (if (none : Option (Nat × Nat)).isSome = true then (1 : Int32) else 0) = 0 from rfl), if_neg p3, p4, d1, o_bind, o_bind]
    exact ⟨S2, rfl, d2 _ rfl⟩
  | some ab =>
    obtain ⟨a, b⟩ := ab
    rw [if_neg (show ¬ (if (some (a, b) : Option (Nat × Nat)).isSome = true then (1 : Int32) else 0) = 0 from fun e => absurd e (show ¬ (1 : Int32) = 0 by decide)), if_neg p3, p4, show iget (S vb) 0 = some (Int32.ofNat vt.1) from cv.kind, o_bind]
    have eS : putS [] t (some (a, b)) vt = if vt.1 = 5 then (if t.1 = 5 then some (5, t.2.1, t.2.2.1, ofL ((toL t.2.2.2).take a ++ (toL vt.2.2.2 ++ (toL t.2.2.2).drop b))) else some vt) else none := rfl
    rw [eS]
    by_cases e5 : vt.1 = 5
    · rw [if_pos (by rw [e5]; rfl), if_pos e5]
      by_cases t5 : t.1 = 5
      · obtain ⟨kt, v0, s0, ft⟩ := t
        obtain ⟨l, rfl⟩ : ∃ l, ft = ofL l := ⟨toL ft, (ofL_toL ft).symm⟩
        have t5 : kt = 5 := t5
        subst t5
        obtain ⟨kv, vv, sv, fv⟩ := vt
        obtain ⟨lv, rfl⟩ : ∃ l, fv = ofL l := ⟨toL fv, (ofL_toL fv).symm⟩
        have e5 : kv = 5 := e5
        subst e5
        obtain ⟨p, ep, hp9, hc, hwo, -, hwb⟩ := h5 rfl
        obtain ⟨x1, x2⟩ := hwb (Or.inr rfl)
        obtain ⟨w1, w2, -⟩ := hwo a b rfl
        have hsz : size (5, v0, s0, ofL l) = l.length := by unfold size; rw [if_neg (show ¬ (5 : Nat) = 4 by decide)]; exact congrArg List.length (toL_ofL l)
        rw [hsz] at w2
        have eA : winA (5, v0, s0, ofL l) (some (a, b)) = a := rfl
        have eE : winE (5, v0, s0, ofL l) (some (a, b)) = b := by unfold winE winA winN; simp only; omega
        rw [eA] at x1
        rw [eE] at x2
        rw [if_neg (show ¬ Int32.ofNat 5 = 0 by decide), if_pos rfl]
        obtain ⟨S3, at_, o1, o2, o3, o4⟩ := oopen ho 5
        have f3 := fr3_O o3
        have hc3 : cat (S3 aa) p (5, v0, s0, ofL l) := by rw [o3 aa (by omega) (by omega)]; exact hc
        have ep0 : pos (5, v0, s0, ofL l) p 0 = p + 2 := by
          obtain ⟨y1, -, -⟩ := pos_in hc (Nat.zero_le l.length)
          rw [y1]
          show p + 2 + 0 = _
          omega
        have epn : pos (5, v0, s0, ofL l) p l.length = p + (cV (5, v0, s0, ofL l)).length := by
          obtain ⟨y1, y2, -⟩ := pos_in hc (Nat.le_refl l.length)
          rw [y1, y2, List.take_of_length_le (Nat.le_refl _)]
          omega
        obtain ⟨S4, q1, q2, q3⟩ := cellsQ (i := 0) (j := a) (by omega) hc3 (Nat.zero_le _) (by omega) o2
        rw [ep0] at q1
        have f4 := f3.trans (fr3_O q3)
        have cv4 : cat (S4 vb) 0 (5, vv, sv, ofL lv) := by rw [f4.1 vb (by omega) (by omega) (by omega)]; exact cv
        have hP4 := hP.fr f4
        obtain ⟨-, -, p3', p4'⟩ := hP4.p
        have ev0 : pos (5, vv, sv, ofL lv) 0 0 = 2 := by
          obtain ⟨y1, -, -⟩ := pos_in cv4 (Nat.zero_le lv.length)
          rw [y1]
          rfl
        have evn : pos (5, vv, sv, ofL lv) 0 lv.length = (cV (5, vv, sv, ofL lv)).length := by
          obtain ⟨y1, y2, -⟩ := pos_in cv4 (Nat.le_refl lv.length)
          rw [y1, y2, List.take_of_length_le (Nat.le_refl _)]
          omega
        have ig1 : iget (S4 vb) 1 = some (Int32.ofNat (cV (5, vv, sv, ofL lv)).length) := by
          have hd4 := cv4.2.2
          obtain ⟨r4, hd4⟩ := hd4
          rw [cV_5] at hd4
          have := iget_drop (p := 1) (r := (blks false lv).flatten ++ r4) cv4.1 (x := Int32.ofNat ((blks false lv).flatten.length + 2)) (by
            have := drop_more (w := [(5 : Int32)]) (p := 0) (r := Int32.ofNat ((blks false lv).flatten.length + 2) :: ((blks false lv).flatten ++ r4)) (us := S4 vb) (by simpa using hd4)
            simpa using this)
          rw [cV_5]
          simp only [List.length_cons]
          exact this
        obtain ⟨S5, u1, u2, u3⟩ := cellsQ (i := 0) (j := lv.length) (by omega) cv4 (Nat.zero_le _) (Nat.le_refl _) q2
        rw [ev0, evn] at u1
        have f5 := f4.trans (fr3_O u3)
        have hc5 : cat (S5 aa) p (5, v0, s0, ofL l) := by rw [f5.1 aa (by omega) (by omega) (by omega)]; exact hc
        obtain ⟨S6, v1, v2, v3⟩ := cellsQ (i := b) (j := l.length) (by omega) hc5 w2 (Nat.le_refl _) u2
        rw [epn] at v1
        have f6 := f5.trans (fr3_O v3)
        have er3 : rd S3 78 17 = Int32.ofNat (pos (5, v0, s0, ofL l) p a) := by rw [frO_12 o3]; exact x1
        have er5 : rd S5 78 18 = Int32.ofNat (pos (5, v0, s0, ofL l) p b) := by rw [frO_12 u3, frO_12 q3, frO_12 o3]; exact x2
        have body : (blks false ((l.drop 0).take (a - 0))).flatten ++ ((blks false ((lv.drop 0).take (lv.length - 0))).flatten ++ (blks false ((l.drop b).take (l.length - b))).flatten) = (blks false (l.take a ++ (lv ++ l.drop b))).flatten := by
          rw [blks_app, blks_app, List.flatten_append, List.flatten_append, List.drop_zero, List.drop_zero, Nat.sub_zero, Nat.sub_zero, List.take_of_length_le (Nat.le_refl lv.length), List.take_of_length_le (show (l.drop b).length ≤ l.length - b by rw [List.length_drop]; exact Nat.le_refl _)]
        have ofin : OutV S6 (C ++ 5 :: 0 :: (blks false (l.take a ++ (lv ++ l.drop b))).flatten) := by
          rw [← body]
          simpa using v2
        obtain ⟨S7, z1, z2, z3⟩ := oclose (C := C) (k := 5) (at_ := at_) ofin o4
        refine ⟨S7, ?_, f6.trans (fr3_O z3), _, z2, fun T hT => ?_, fun hn => by cases hn⟩
        · rw [o1, o_bind, ep, show Int32.ofNat p + 2 = Int32.ofNat (p + 2) from (Int32.ofNat_add p 2).symm, er3, q1, o_bind, if_neg p3', p4', ig1, o_bind, show (2 : Int32) = Int32.ofNat 2 from rfl, u1, o_bind, (hc5.next).1, o_bind, er5, v1, o_bind, z1, o_bind, o_bind]
        · have hT : some (5, v0, s0, ofL ((toL (ofL l)).take a ++ (toL (ofL lv) ++ (toL (ofL l)).drop b))) = some T := hT
          rw [toL_ofL, toL_ofL] at hT
          cases hT
          refine ⟨by rw [frO_12 z3, frO_12 v3, frO_12 u3, frO_12 q3, frO_12 o3]; exact hr, wV_5 hc.2.1.2.2.1 ?_, Or.inl ?_⟩
          · intro x hx
            rcases List.mem_append.mp hx with c | c
            · exact hc.2.1.kids x (List.mem_of_mem_take c)
            · rcases List.mem_append.mp c with c | c
              · exact cv.2.1.kids x c
              · exact hc.2.1.kids x (List.mem_of_mem_drop c)
          · rw [cV_5]
      · have t0 : t.1 = 0 := (hw rfl).resolve_left t5
        rw [if_pos (by rw [t0]; rfl), d1, o_bind, o_bind, if_neg t5]
        exact ⟨S2, rfl, d2 _ rfl⟩
    · rw [if_neg (kne5 k6 e5), if_neg e5]
      obtain ⟨S', y1, y2⟩ := rref (v := 1) (dp := dp) h78 ho (by decide) hr
      rw [y1, o_bind]
      exact ⟨S', rfl, y2⟩
end RPut162
end

section
/-! The reference's put: a name. -/
section RPut163
/-- what the call within does -/
def recO (rec : SS → Nat → Int32 → Int32 → Int32 → Option SS) (aa pb vb N dp : Nat) (pt vt : Vl) (ls : List Mb) : Prop := ∀ (S : SS) (C : List Int32) (p0 : Int32) (t' : Vl) (i : Nat), prP S aa pb vb pt vt → atP S pb i N ls → OutV S C → rd S 78 12 = 0 → tgt S aa p0 t' → (t'.1 ≠ 0 → dV t' + (dp + 1) ≤ 60) → ∃ S', rec S aa p0 (Int32.ofNat i) (Int32.ofNat (dp + 1)) = some S' ∧ rpO S S' C (putS (ls.map fun m => m.2) t' none vt) (dp + 1)
theorem cV_4 {t : Vl} (h : t.1 = 4) : cV t = cstr t.2.2.1 := by
  conv => lhs; rw [vl4 h]
  rfl
theorem setM_ok {v : Int} {s0 s : List Int32} {l : List Mb} {U : Vl} (h : wV (6, v, s0, ofL l)) (hs : okS s) (hU : wV U) : wV (6, v, s0, ofL (setM l s U)) ∧ ∃ m ∈ setM l s U, m.2 = U := by
  by_cases hj : l.findIdx (fun m => m.1 == s) < l.length
  · have e := setM_in U hj
    have e1 : (l[l.findIdx (fun m => m.1 == s)]).1 = s := eq_of_beq (List.findIdx_getElem (w := hj))
    rw [e]
    refine ⟨wV_6 h.2.2.1 (fun m hm => ?_) ?_, _, List.mem_set hj _, rfl⟩
    · rcases List.mem_or_eq_of_mem_set hm with c | c
      · exact h.kids m c
      · rw [c, e1]; exact ⟨hs, hU⟩
    · have := h.nod
      unfold nod at this ⊢
      have e2 : (l.map fun m => m.1).set (l.findIdx (fun m => m.1 == s)) (l[l.findIdx (fun m => m.1 == s)]).1 = l.map fun m => m.1 := by
        have := List.set_getElem_self (as := l.map fun m => m.1) (i := l.findIdx (fun m => m.1 == s)) (by rw [List.length_map]; exact hj)
        rw [List.getElem_map] at this
        exact this
      rw [List.map_set]
      show ((l.map fun m => m.1).set (l.findIdx (fun m => m.1 == s)) (l[l.findIdx (fun m => m.1 == s)]).1).Nodup
      rw [e2]
      exact this
  · have e : setM l s U = l ++ [(s, U)] := by unfold setM; rw [if_neg hj]
    have hnot : ∀ x ∈ l, x.1 ≠ s := fun x hx c => hj (List.findIdx_lt_length_of_exists ⟨x, hx, by rw [c]; exact beq_self_eq_true _⟩)
    rw [e]
    refine ⟨wV_6 h.2.2.1 (fun m hm => ?_) ?_, (s, U), by simp, rfl⟩
    · rcases List.mem_append.mp hm with c | c
      · exact h.kids m c
      · rw [List.mem_singleton.mp c]; exact ⟨hs, hU⟩
    · have := h.nod
      unfold nod at this ⊢
      rw [List.map_append, List.nodup_append]
      refine ⟨this, by simp, ?_⟩
      intro a ha b hb e
      obtain ⟨m, hm, rfl⟩ := List.mem_map.mp ha
      have : b = s := by simpa using hb
      exact hnot m hm (e.trans this)
/-- the path's name goes out, and what comes behind it -/
theorem pname_new {S : SS} {aa pb vb N dp i : Nat} {pt vt : Vl} {m : Mb} {ls : List Mb} {C D : List Int32} {at_ : Int32} {rec : SS → Nat → Int32 → Int32 → Int32 → Option SS} (hP : prP S aa pb vb pt vt) (ho : OutV S (C ++ 6 :: 0 :: D)) (ha : C.length ≤ 9000 → at_ = Int32.ofNat C.length) (hr : rd S 78 12 = 0) (hA : atP S pb i N (m :: ls)) (e4 : m.2.1 = 4) (hrec : recO rec aa pb vb N dp pt vt ls) : ∃ S' C', (if rd S 78 19 = 0 then none else ((q_copy S ((rd S 78 19).toNatClampNeg) (Int32.ofNat i)).bind fun r46 => (if rd r46 78 19 = 0 then none else ((r_next (r46 ((rd r46 78 19).toNatClampNeg)) (Int32.ofNat i)).bind fun r49 => ((rec r46 aa (-1) r49 (Int32.ofNat dp + 1)).bind fun r51 => ((q_close r51 at_).bind fun r53 => some r53)))))) = some S' ∧ fr3 S S' ∧ OutV S' (C ++ (6 :: Int32.ofNat (((D ++ cstr m.2.2.2.1) ++ (C' ++ [])).length + 2) :: ((D ++ cstr m.2.2.2.1) ++ (C' ++ [])))) ∧ (∀ U, putS (ls.map fun m => m.2) vNull none vt = some U → rd S' 78 12 = 0 ∧ wV U ∧ (C' = cV U ∨ (9000 < C'.length ∧ 64 < dp + 1 + dV U))) ∧ (putS (ls.map fun m => m.2) vNull none vt = none → ¬ rd S' 78 12 ≤ 0) := by
  obtain ⟨p1, p2, -, -⟩ := hP.p
  obtain ⟨-, -, cp, cv, h39, h40, h78, b1, b2, b3⟩ := id hP
  obtain ⟨c1, c2, c3, c4⟩ := hA.cons cp.1
  obtain ⟨-, -, rr, dd⟩ := id c2
  rw [cV_4 e4] at dd
  obtain ⟨S1, q1, q2, q3⟩ := ocopy (aa := pb) (p := i) (w := cstr m.2.2.2.1) (r := rr) (by omega) (cstr_hdd _) ho cp.1 dd
  have f1 := fr3_O q3
  have hP1 := hP.fr f1
  obtain ⟨p1', p2', -, -⟩ := hP1.p
  have c3' : r_next (S1 pb) (Int32.ofNat i) = some (Int32.ofNat (i + (cV m.2).length)) := by rw [f1.1 pb (by omega) (by omega) (by omega)]; exact c3
  obtain ⟨S2, d1, d2, C', d3, d4, d5⟩ := hrec S1 _ (-1) vNull (i + (cV m.2).length) hP1 (c4.fr b2 f1) q2 (by rw [frO_12 q3]; exact hr) (Or.inl ⟨rfl, rfl⟩) (fun c => absurd rfl c)
  have o2 : OutV S2 (C ++ 6 :: 0 :: ((D ++ cstr m.2.2.2.1) ++ (C' ++ []))) := by simpa using d3
  obtain ⟨S3, z1, z2, z3⟩ := oclose (C := C) (k := 6) (at_ := at_) o2 ha
  refine ⟨S3, C', ?_, (f1.trans d2).trans (fr3_O z3), z2, fun U hU => ?_, fun hn => ?_⟩
  · rw [if_neg p1, p2, q1, o_bind, if_neg p1', p2', c3', o_bind, i_a1, d1, o_bind, z1, o_bind]
  · rw [frO_12 z3]; exact d4 U hU
  · rw [frO_12 z3]; exact d5 hn
theorem pname_0 {S : SS} {aa pb vb N dp i : Nat} {pt vt : Vl} {m : Mb} {ls : List Mb} {C : List Int32} {p0 : Int32} {rec : SS → Nat → Int32 → Int32 → Int32 → Option SS} (hP : prP S aa pb vb pt vt) (ho : OutV S C) (hr : rd S 78 12 = 0) (hA : atP S pb i N (m :: ls)) (e4 : m.2.1 = 4) (hrec : recO rec aa pb vb N dp pt vt ls) : ∃ S', b_putName S aa rec p0 0 (Int32.ofNat i) (Int32.ofNat dp) = some S' ∧ rpO S S' C ((putS (ls.map fun m => m.2) vNull none vt).map (fun u => (6, 0, [], ofL [(m.2.2.2.1, u)]))) dp := by
  obtain ⟨S1, at_, o1, o2, o3, o4⟩ := oopen ho 6
  have f1 := fr3_O o3
  obtain ⟨-, -, cp, -, -, -, -, b1, b2, b3⟩ := id hP
  obtain ⟨-, c2, -, -⟩ := hA.cons cp.1
  obtain ⟨S2, C', z1, z2, z3, z4, z5⟩ := pname_new (C := C) (D := []) (hP.fr f1) o2 o4 (by rw [frO_12 o3]; exact hr) (hA.fr b2 f1) e4 hrec
  refine ⟨S2, ?_, rbox (k := 6) (L := fun u => [(m.2.2.2.1, u)]) (Or.inr rfl) (f1.trans z2) z3 z4 z5 (fun U hU => ⟨wV_obj1 c2.2.1.2.2.1 hU, ⟨_, List.mem_singleton.mpr rfl, rfl⟩, ?_⟩)⟩
  · unfold b_putName
    rw [o1, o_bind]
    show (if (0 : Int32) = 6 then _ else (if (0 : Int32) = 0 then _ else _)) = _
    rw [if_neg (by decide), if_pos rfl]
    exact z1
  · show (blks true [(m.2.2.2.1, U)]).flatten = _
    rw [(blks_m _ _).1]
    rfl
/-- the members behind the one that was set -/
theorem pname_r {aa pb vb dp i p E : Nat} {pt vt : Vl} {s r rr C : List Int32} {at_ : Int32} {rec : SS → Nat → Int32 → Int32 → Int32 → Option SS} (ha : C.length ≤ 9000 → at_ = Int32.ofNat C.length) (hE : E ≤ 9000) : ∀ (ms : List Mb) (n q : Nat) (S : SS) (D : List Int32), okL ms → (∀ m ∈ ms, m.1 ≠ s) → prP S aa pb vb pt vt → (S pb).drop i = cstr s ++ rr → OutV S (C ++ 6 :: 0 :: D) → (S aa).length ≤ 9000 → r_next (S aa) (Int32.ofNat p) = some (Int32.ofNat E) → (S aa).drop q = (blks true ms).flatten ++ r → q + (blks true ms).flatten.length = E → ms.length < n → ∃ S', b_putName_l19 aa rec n S (Int32.ofNat p) 6 (Int32.ofNat i) (Int32.ofNat dp) at_ 1 (Int32.ofNat q) = some S' ∧ OutV S' (C ++ (6 :: Int32.ofNat ((D ++ (blks true ms).flatten).length + 2) :: (D ++ (blks true ms).flatten))) ∧ frO S S' := by
  intro ms
  induction ms with
  | nil =>
    intro n q S D _ _ hP hs ho hl hn0 hd he hn
    obtain ⟨n, rfl⟩ : ∃ j, n = j + 1 := ⟨n - 1, by omega⟩
    have z : (blks true []).flatten = [] := rfl
    rw [z, List.length_nil] at he
    obtain ⟨S1, z1, z2, z3⟩ := oclose (C := C) (k := 6) (at_ := at_) ho ha
    refine ⟨S1, ?_, by rw [z, List.append_nil]; exact z2, z3⟩
    unfold b_putName_l19
    rw [if_pos rfl, hn0, o_bind, if_pos ((i_le' (by omega) (by omega)).mpr (by omega)), if_neg (by decide), z1, o_bind]
  | cons m ms ih =>
    intro n q S D hw hne hP hs ho hl hn0 hd he hn
    obtain ⟨n, rfl⟩ : ∃ j, n = j + 1 := ⟨n - 1, by omega⟩
    obtain ⟨p1, p2, -, -⟩ := hP.p
    obtain ⟨-, -, cp, cv, h39, h40, h78, b1, b2, b3⟩ := id hP
    have eb : blks true (m :: ms) = cstr m.1 :: cV m.2 :: blks true ms := rfl
    rw [eb] at hd he
    have hh : ∀ x ∈ cstr m.1 :: cV m.2 :: blks true ms, hdd x := by rw [← eb]; exact blks_h hw
    obtain ⟨s1, s2, s3, s4⟩ := blk_step hl hh hd
    obtain ⟨u1, u2, u3, u4⟩ := blk_step hl (fun x hx => hh x (List.mem_cons_of_mem _ hx)) s2
    rw [List.flatten_cons, List.length_append, List.flatten_cons, List.length_append] at he
    rw [List.flatten_cons, List.append_assoc] at hd
    rw [List.flatten_cons, List.append_assoc] at s2
    obtain ⟨S1, q1, q2, q3⟩ := ocopy (aa := aa) (by omega) (cstr_hdd m.1) ho hl hd
    have ea : S1 aa = S aa := q3 aa (by omega) (by omega)
    have ep : S1 pb = S pb := q3 pb (by omega) (by omega)
    have hP1 := hP.fr (fr3_O q3)
    obtain ⟨p1', p2', -, -⟩ := hP1.p
    obtain ⟨S2, v1, v2, v3⟩ := ocopy (S := S1) (aa := aa) (w := cV m.2) (by omega) (cV_h (hw m List.mem_cons_self).2.1) q2 (by rw [ea]; exact hl) (by rw [ea]; exact s2)
    have ea2 : S2 aa = S aa := (v3 aa (by omega) (by omega)).trans ea
    have ep2 : S2 pb = S pb := (v3 pb (by omega) (by omega)).trans ep
    obtain ⟨S', j1, j2, j3⟩ := ih n (q + (cstr m.1).length + (cV m.2).length) S2 (D ++ (cstr m.1 ++ cV m.2)) hw.tail (fun x hx => hne x (List.mem_cons_of_mem _ hx)) (hP1.fr (fr3_O v3)) (by rw [ep2]; exact hs) (by simpa using v2) (by rw [ea2]; exact hl) (by rw [ea2]; exact hn0) (by rw [ea2]; exact u2) (by omega) (by simp only [List.length_cons] at hn; omega)
    refine ⟨S', ?_, ?_, (q3.trans v3).trans j3⟩
    · unfold b_putName_l19
      rw [if_pos rfl, hn0, o_bind, if_neg (by rw [i_le' (by omega) (by omega)]; omega), q1, o_bind, if_neg p1', p2', ea, ep, rstr_val hl cp.1 hd hs, o_bind, if_neg (fun c => hne m List.mem_cons_self ((cmpS_0 _ _).mp c)), s1, o_bind, v1, o_bind, ea2, s1, o_bind, u1, o_bind]
      exact j1
    · rw [(blks_m m ms).1]
      simpa using j2
/-- the members up to the one that is set, or all -/
theorem pname_l {aa pb vb N dp i p E : Nat} {pt vt : Vl} {r C : List Int32} {pm : Mb} {ls : List Mb} {at_ : Int32} {rec : SS → Nat → Int32 → Int32 → Int32 → Option SS} (ha : C.length ≤ 9000 → at_ = Int32.ofNat C.length) (hE : E ≤ 9000) (e4 : pm.2.1 = 4) (hrec : recO rec aa pb vb N dp pt vt ls) : ∀ (ms : List Mb) (n q : Nat) (S : SS) (D : List Int32), okL ms → nod ms → (∀ m ∈ ms, m.2.1 ≠ 0 → dV m.2 + (dp + 1) ≤ 60) → prP S aa pb vb pt vt → atP S pb i N (pm :: ls) → rd S 78 12 = 0 → OutV S (C ++ 6 :: 0 :: D) → (S aa).length ≤ 9000 → r_next (S aa) (Int32.ofNat p) = some (Int32.ofNat E) → (S aa).drop q = (blks true ms).flatten ++ r → q + (blks true ms).flatten.length = E → ms.length < n → ∃ S' A Z C', b_putName_l19 aa rec n S (Int32.ofNat p) 6 (Int32.ofNat i) (Int32.ofNat dp) at_ 0 (Int32.ofNat q) = some S' ∧ fr3 S S' ∧ OutV S' (C ++ (6 :: Int32.ofNat (((D ++ A) ++ (C' ++ Z)).length + 2) :: ((D ++ A) ++ (C' ++ Z)))) ∧ (∀ U, putS (ls.map fun m => m.2) (if h : ms.findIdx (fun m => m.1 == pm.2.2.2.1) < ms.length then (ms[ms.findIdx (fun m => m.1 == pm.2.2.2.1)]).2 else vNull) none vt = some U → rd S' 78 12 = 0 ∧ wV U ∧ (C' = cV U ∨ (9000 < C'.length ∧ 64 < dp + 1 + dV U))) ∧ (putS (ls.map fun m => m.2) (if h : ms.findIdx (fun m => m.1 == pm.2.2.2.1) < ms.length then (ms[ms.findIdx (fun m => m.1 == pm.2.2.2.1)]).2 else vNull) none vt = none → ¬ rd S' 78 12 ≤ 0) ∧ ∀ U, (blks true (setM ms pm.2.2.2.1 U)).flatten = A ++ (cV U ++ Z) := by
  intro ms
  induction ms with
  | nil =>
    intro n q S D _ _ _ hP hA hr ho hl hn0 hd he hn
    obtain ⟨n, rfl⟩ : ∃ j, n = j + 1 := ⟨n - 1, by omega⟩
    have z : (blks true []).flatten = [] := rfl
    rw [z, List.length_nil] at he
    obtain ⟨S', C', z1, z2, z3, z4, z5⟩ := pname_new hP ho ha hr hA e4 hrec
    refine ⟨S', cstr pm.2.2.2.1, [], C', ?_, z2, z3, z4, z5, fun U => ?_⟩
    · unfold b_putName_l19
      rw [if_pos rfl, hn0, o_bind, if_pos ((i_le' (by omega) (by omega)).mpr (by omega)), if_pos rfl]
      exact z1
    · have e : setM [] pm.2.2.2.1 U = [(pm.2.2.2.1, U)] := rfl
      rw [e, (blks_m _ _).1]
      rfl
  | cons m ms ih =>
    intro n q S D hw hnd hdp hP hA hr ho hl hn0 hd he hn
    obtain ⟨n, rfl⟩ : ∃ j, n = j + 1 := ⟨n - 1, by omega⟩
    obtain ⟨p1, p2, -, -⟩ := hP.p
    obtain ⟨-, -, cp, cv, h39, h40, h78, b1, b2, b3⟩ := id hP
    obtain ⟨c1, c2, c3, c4⟩ := hA.cons cp.1
    obtain ⟨-, -, rr, dd⟩ := id c2
    rw [cV_4 e4] at dd
    have eb : blks true (m :: ms) = cstr m.1 :: cV m.2 :: blks true ms := rfl
    rw [eb] at hd he
    have hh : ∀ x ∈ cstr m.1 :: cV m.2 :: blks true ms, hdd x := by rw [← eb]; exact blks_h hw
    obtain ⟨s1, s2, s3, s4⟩ := blk_step hl hh hd
    obtain ⟨u1, u2, u3, u4⟩ := blk_step hl (fun x hx => hh x (List.mem_cons_of_mem _ hx)) s2
    rw [List.flatten_cons, List.length_append, List.flatten_cons, List.length_append] at he
    rw [List.flatten_cons, List.append_assoc] at hd
    rw [List.flatten_cons, List.append_assoc] at s2
    obtain ⟨S1, q1, q2, q3⟩ := ocopy (aa := aa) (by omega) (cstr_hdd m.1) ho hl hd
    have ea : S1 aa = S aa := q3 aa (by omega) (by omega)
    have ep : S1 pb = S pb := q3 pb (by omega) (by omega)
    have f1 := fr3_O q3
    have hP1 := hP.fr f1
    obtain ⟨p1', p2', -, -⟩ := hP1.p
    have hnd' : nod ms ∧ ∀ x ∈ ms, x.1 ≠ m.1 := by
      unfold nod at hnd ⊢
      rw [List.map_cons, List.nodup_cons] at hnd
      exact ⟨hnd.2, fun x hx c => hnd.1 (by rw [← c]; exact List.mem_map_of_mem hx)⟩
    by_cases em : m.1 = pm.2.2.2.1
    · -- it is this one
      have ef : (m :: ms).findIdx (fun x => x.1 == pm.2.2.2.1) = 0 := by rw [List.findIdx_cons]; simp [em]
      have et : (if h : (m :: ms).findIdx (fun x => x.1 == pm.2.2.2.1) < (m :: ms).length then ((m :: ms)[(m :: ms).findIdx (fun x => x.1 == pm.2.2.2.1)]).2 else vNull) = m.2 := by
        rw [dif_pos (by rw [ef]; simp)]
        simp only [ef]
        rfl
      have cm : cat (S1 aa) (q + (cstr m.1).length) m.2 := by rw [ea]; exact ⟨hl, (hw m List.mem_cons_self).2, _, s2⟩
      have c3' : r_next (S1 pb) (Int32.ofNat i) = some (Int32.ofNat (i + (cV pm.2).length)) := by rw [ep]; exact c3
      obtain ⟨S2, d1, d2, C', d3, d4, d5⟩ := hrec S1 _ (Int32.ofNat (q + (cstr m.1).length)) m.2 (i + (cV pm.2).length) hP1 (c4.fr b2 f1) q2 (by rw [frO_12 q3]; exact hr) (Or.inr ⟨_, rfl, by omega, cm⟩) (hdp m List.mem_cons_self)
      have ea2 : S2 aa = S aa := (d2.1 aa (by omega) (by omega) (by omega)).trans ea
      have ep2 : S2 pb = S pb := (d2.1 pb (by omega) (by omega) (by omega)).trans ep
      obtain ⟨S3, j1, j2, j3⟩ := pname_r (s := pm.2.2.2.1) (rr := rr) (dp := dp) (rec := rec) ha hE ms n (q + (cstr m.1).length + (cV m.2).length) S2 (D ++ (cstr m.1 ++ C')) hw.tail (fun x hx => by rw [← em]; exact hnd'.2 x hx) (hP1.fr d2) (by rw [ep2]; exact dd) (by simpa using d3) (by rw [ea2]; exact hl) (by rw [ea2]; exact hn0) (by rw [ea2]; exact u2) (by omega) (by simp only [List.length_cons] at hn; omega)
      rw [et]
      refine ⟨S3, cstr m.1, (blks true ms).flatten, C', ?_, (f1.trans d2).trans (fr3_O j3), by simpa using j2, fun U hU => by rw [frO_12 j3]; exact d4 U hU, fun hn => by rw [frO_12 j3]; exact d5 hn, fun U => ?_⟩
      · unfold b_putName_l19
        rw [if_pos rfl, hn0, o_bind, if_neg (by rw [i_le' (by omega) (by omega)]; omega), q1, o_bind, if_neg p1', p2', ea, ep, rstr_val hl cp.1 hd dd, o_bind, if_pos ((cmpS_0 _ _).mpr em), s1, o_bind, c3, o_bind, i_a1, d1, o_bind, ea2, s1, o_bind, u1, o_bind]
        exact j1
      · have e : setM (m :: ms) pm.2.2.2.1 U = (pm.2.2.2.1, U) :: ms := by
          unfold setM
          rw [ef, if_pos (by simp)]
          rfl
        rw [e, (blks_m _ _).1, em]
    · obtain ⟨S2, v1, v2, v3⟩ := ocopy (S := S1) (aa := aa) (w := cV m.2) (by omega) (cV_h (hw m List.mem_cons_self).2.1) q2 (by rw [ea]; exact hl) (by rw [ea]; exact s2)
      have ea2 : S2 aa = S aa := (v3 aa (by omega) (by omega)).trans ea
      have f2 := f1.trans (fr3_O v3)
      have ef : (m :: ms).findIdx (fun x => x.1 == pm.2.2.2.1) = ms.findIdx (fun x => x.1 == pm.2.2.2.1) + 1 := by
        rw [List.findIdx_cons, show (m.1 == pm.2.2.2.1) = false by simp [em]]; rfl
      have et : (if h : (m :: ms).findIdx (fun x => x.1 == pm.2.2.2.1) < (m :: ms).length then ((m :: ms)[(m :: ms).findIdx (fun x => x.1 == pm.2.2.2.1)]).2 else vNull) = (if h : ms.findIdx (fun x => x.1 == pm.2.2.2.1) < ms.length then (ms[ms.findIdx (fun x => x.1 == pm.2.2.2.1)]).2 else vNull) := by
        by_cases hj : ms.findIdx (fun x => x.1 == pm.2.2.2.1) < ms.length
        · rw [dif_pos hj, dif_pos (by rw [ef]; simp only [List.length_cons]; omega)]
          simp only [ef, List.getElem_cons_succ]
        · rw [dif_neg hj, dif_neg (by rw [ef]; simp only [List.length_cons]; omega)]
      obtain ⟨S', A, Z, C', j1, j2, j3, j4, j5, j6⟩ := ih n (q + (cstr m.1).length + (cV m.2).length) S2 (D ++ (cstr m.1 ++ cV m.2)) hw.tail hnd'.1 (fun x hx => hdp x (List.mem_cons_of_mem _ hx)) (hP.fr f2) (hA.fr b2 f2) (by rw [frO_12 v3, frO_12 q3]; exact hr) (by simpa using v2) (by rw [ea2]; exact hl) (by rw [ea2]; exact hn0) (by rw [ea2]; exact u2) (by omega) (by simp only [List.length_cons] at hn; omega)
      rw [et]
      refine ⟨S', cstr m.1 ++ (cV m.2 ++ A), Z, C', ?_, f2.trans j2, by simpa using j3, j4, j5, fun U => ?_⟩
      · unfold b_putName_l19
        rw [if_pos rfl, hn0, o_bind, if_neg (by rw [i_le' (by omega) (by omega)]; omega), q1, o_bind, if_neg p1', p2', ea, ep, rstr_val hl cp.1 hd dd, o_bind, if_neg (fun c => em ((cmpS_0 _ _).mp c)), s1, o_bind, v1, o_bind, ea2, s1, o_bind, u1, o_bind]
        exact j1
      · have e : setM (m :: ms) pm.2.2.2.1 U = m :: setM ms pm.2.2.2.1 U := by
          unfold setM
          rw [ef]
          by_cases hj : ms.findIdx (fun x => x.1 == pm.2.2.2.1) < ms.length
          · rw [if_pos hj, if_pos (by simp only [List.length_cons]; omega), List.set_cons_succ]
          · rw [if_neg hj, if_neg (by simp only [List.length_cons]; omega), List.cons_append]
        rw [e, (blks_m _ _).1, j6]
        simp
/-- a name of an object -/
theorem pname_6 {S : SS} {aa pb vb N dp i p : Nat} {pt vt : Vl} {m : Mb} {ls : List Mb} {C : List Int32} {v : Int} {s0 : List Int32} {l : List Mb} {rec : SS → Nat → Int32 → Int32 → Int32 → Option SS} (hP : prP S aa pb vb pt vt) (ho : OutV S C) (hr : rd S 78 12 = 0) (hA : atP S pb i N (m :: ls)) (e4 : m.2.1 = 4) (hc : cat (S aa) p (6, v, s0, ofL l)) (hp : p < 9000) (hdp : dV (6, v, s0, ofL l) + dp ≤ 60) (hrec : recO rec aa pb vb N dp pt vt ls) : ∃ S', b_putName S aa rec (Int32.ofNat p) 6 (Int32.ofNat i) (Int32.ofNat dp) = some S' ∧ rpO S S' C ((putS (ls.map fun m => m.2) ((byN (6, v, s0, ofL l) m.2.2.2.1).getD vNull) none vt).map (fun u => (6, v, s0, ofL (setM l m.2.2.2.1 u)))) dp := by
  obtain ⟨S1, at_, o1, o2, o3, o4⟩ := oopen ho 6
  have f1 := fr3_O o3
  obtain ⟨-, -, cp, -, -, -, -, b1, b2, b3⟩ := id hP
  obtain ⟨-, c2, -, -⟩ := hA.cons cp.1
  have ea : S1 aa = S aa := o3 aa (by omega) (by omega)
  obtain ⟨n1, n2, n3⟩ := hc.next
  obtain ⟨h9, hw, r, hd⟩ := id hc
  obtain ⟨k1, k2⟩ := cbox_in (Or.inr rfl) hd
  have e6 : (6 == 6) = true := rfl
  rw [e6] at k1 k2
  have hbl := blks_len true l
  have hfl := flat2 _ (blks_h (b := true) hw.kids)
  simp only [if_true] at hbl
  have hN : (byN (6, v, s0, ofL l) m.2.2.2.1).getD vNull = (if h : l.findIdx (fun x => x.1 == m.2.2.2.1) < l.length then (l[l.findIdx (fun x => x.1 == m.2.2.2.1)]).2 else vNull) := by
    unfold byN
    simp only [toL_ofL]
    by_cases hj : l.findIdx (fun x => x.1 == m.2.2.2.1) < l.length
    · rw [dif_pos hj, dif_pos hj]; rfl
    · rw [dif_neg hj, dif_neg hj]; rfl
  obtain ⟨S2, A, Z, C', z1, z2, z3, z4, z5, z6⟩ := pname_l (N := N) (E := p + (cV (6, v, s0, ofL l)).length) (p := p) (r := r) o4 (by omega) e4 hrec l 10000 (p + 2) S1 [] hw.kids hw.nod (fun x hx _ => by
    have := dV_kid (k := 6) (v := v) (s := s0) (Or.inr rfl) hx
    omega) (hP.fr f1) (hA.fr b2 f1) (by rw [frO_12 o3]; exact hr) o2 (by rw [ea]; exact h9) (by rw [ea]; exact n1) (by rw [ea]; exact k1) (by omega) (by omega)
  rw [hN]
  refine ⟨S2, ?_, rbox (k := 6) (L := fun u => setM l m.2.2.2.1 u) (Or.inr rfl) (f1.trans z2) z3 z4 z5 (fun U hU => ⟨(setM_ok hw c2.2.1.2.2.1 hU).1, (setM_ok hw c2.2.1.2.2.1 hU).2, z6 U⟩)⟩
  unfold b_putName
  rw [o1, o_bind, show Int32.ofNat p + 2 = Int32.ofNat (p + 2) from (Int32.ofNat_add p 2).symm]
  exact z1
end RPut163
end

section
/-! The reference's put: a place. -/
section RPut164
theorem j64 {j : Nat} (hj : j ≤ 100000) : ((Int32.ofNat j).toInt64).toInt = j := by rw [l_32 j (by omega), l_of (by omega) (by omega)]
theorem nul_blk (k : Nat) : (blks false (List.replicate (k + 1) nulM)).flatten = (blks false (List.replicate k nulM)).flatten ++ [0, 2] := by
  rw [List.replicate_succ', blks_app, List.flatten_append]
  rfl
/-- from null: an array filled with null -/
theorem pplace_0l {aa pb vb N dp i : Nat} {pt vt : Vl} {m : Mb} {ls : List Mb} {C : List Int32} {p0 at_ : Int32} {l9 : Int64} {X : Nat} {rec : SS → Nat → Int32 → Int32 → Int32 → Option SS} (ha : C.length ≤ 9000 → at_ = Int32.ofNat C.length) (hX : l9.toInt = X) (hX2 : X ≤ 1000) (hrec : recO rec aa pb vb N dp pt vt ls) : ∀ (k j n : Nat) (S : SS), j + k = X → k < n → prP S aa pb vb pt vt → atP S pb i N (m :: ls) → rd S 78 12 = 0 → OutV S (C ++ 5 :: 0 :: (blks false (List.replicate j nulM)).flatten) → ∃ S' C', b_putPlace_l123 aa rec n S p0 0 (Int32.ofNat i) (Int32.ofNat dp) 0 0 l9 at_ 0 (Int32.ofNat j) = some S' ∧ fr3 S S' ∧ OutV S' (C ++ (5 :: Int32.ofNat (((blks false (List.replicate X nulM)).flatten ++ (C' ++ [])).length + 2) :: ((blks false (List.replicate X nulM)).flatten ++ (C' ++ [])))) ∧ (∀ U, putS (ls.map fun m => m.2) vNull none vt = some U → rd S' 78 12 = 0 ∧ wV U ∧ (C' = cV U ∨ (9000 < C'.length ∧ 64 < dp + 1 + dV U))) ∧ (putS (ls.map fun m => m.2) vNull none vt = none → ¬ rd S' 78 12 ≤ 0) := by
  intro k
  induction k with
  | zero =>
    intro j n S hj hn hP hA hr ho
    obtain ⟨n, rfl⟩ : ∃ j, n = j + 1 := ⟨n - 1, by omega⟩
    have hjX : j = X := by omega
    subst hjX
    obtain ⟨p1, p2, -, -⟩ := hP.p
    obtain ⟨-, -, cp, cv, h39, h40, h78, b1, b2, b3⟩ := id hP
    obtain ⟨c1, c2, c3, c4⟩ := hA.cons cp.1
    obtain ⟨S2, d1, d2, C', d3, d4, d5⟩ := hrec S _ (-1) vNull (i + (cV m.2).length) hP c4 ho hr (Or.inl ⟨rfl, rfl⟩) (fun c => absurd rfl c)
    have o2 : OutV S2 (C ++ 5 :: 0 :: ((blks false (List.replicate j nulM)).flatten ++ (C' ++ []))) := by simpa using d3
    obtain ⟨S3, z1, z2, z3⟩ := oclose (C := C) (k := 5) (at_ := at_) o2 ha
    refine ⟨S3, C', ?_, d2.trans (fr3_O z3), z2, fun U hU => by rw [frO_12 z3]; exact d4 U hU, fun hn => by rw [frO_12 z3]; exact d5 hn⟩
    unfold b_putPlace_l123 b_putPlace_l229
    rw [if_pos ((lg_ge _ _).mpr (by rw [hX, j64 (by omega)]; omega)), if_pos ((lg_ge _ _).mpr (by rw [hX, show (0 : Int32) = Int32.ofNat 0 from rfl, j64 (by omega)]; omega)), if_neg p1, p2, c3, o_bind, i_a1, d1, o_bind, if_neg (by decide), z1, o_bind]
  | succ k ih =>
    intro j n S hj hn hP hA hr ho
    obtain ⟨n, rfl⟩ : ∃ j, n = j + 1 := ⟨n - 1, by omega⟩
    obtain ⟨-, -, cp, cv, h39, h40, h78, b1, b2, b3⟩ := id hP
    obtain ⟨S1, q1, q2, q3⟩ := osimple ho 0
    have f1 := fr3_O q3
    obtain ⟨S', C', j1, j2, j3, j4, j5⟩ := ih (j + 1) n S1 (by omega) (by omega) (hP.fr f1) (hA.fr b2 f1) (by rw [frO_12 q3]; exact hr) (by rw [nul_blk]; simpa using q2)
    refine ⟨S', C', ?_, f1.trans j2, j3, j4, j5⟩
    unfold b_putPlace_l123
    rw [if_neg (by rw [lg_ge, hX, j64 (by omega)]; omega), if_pos (by rw [show (0 : Int32) = Int32.ofNat 0 from rfl, i_le' (by omega) (by omega)]; omega), q1, o_bind, i_a1]
    exact j1
theorem pplace_0 {S : SS} {aa pb vb N dp i : Nat} {pt vt : Vl} {m : Mb} {ls : List Mb} {C : List Int32} {p0 : Int32} {rec : SS → Nat → Int32 → Int32 → Int32 → Option SS} (hP : prP S aa pb vb pt vt) (ho : OutV S C) (hr : rd S 78 12 = 0) (hA : atP S pb i N (m :: ls)) (e3 : m.2.1 = 3) (hrec : recO rec aa pb vb N dp pt vt ls) : ∃ S', b_putPlace S aa rec p0 0 (Int32.ofNat i) (Int32.ofNat dp) = some S' ∧ rpO S S' C (if 0 ≤ m.2.2.1 ∧ m.2.2.1 ≤ 1000 then (putS (ls.map fun m => m.2) vNull none vt).map (fun u => (5, 0, [], ofL (List.replicate m.2.2.1.toNat nulM ++ [([], u)]))) else none) dp := by
  obtain ⟨p1, p2, -, -⟩ := hP.p
  obtain ⟨-, -, cp, -, -, -, h78, b1, b2, b3⟩ := id hP
  obtain ⟨-, c2, -, -⟩ := hA.cons cp.1
  have c2' := c2
  rw [vl3 e3] at c2'
  have hx := c2.2.1.2.1 e3
  have l1 := l_of (z := m.2.2.1) (by omega) (by omega)
  have z0 : (0 : Int64).toInt = 0 := rfl
  have z1 : (1000 : Int64).toInt = 1000 := rfl
  have z00 : ((0 : Int32).toInt64).toInt = 0 := rfl
  have la : (Int64.ofInt m.2.2.1 + (0 : Int32).toInt64).toInt = m.2.2.1 := by rw [l_add (by rw [l1]; omega) (by rw [z00]; omega), l1, z00]; omega
  obtain ⟨Sr, y1, y2⟩ := rref (v := 2) (dp := dp) h78 ho (by decide) hr
  have ref : b_putPlace_l85 aa rec S = some Sr := by unfold b_putPlace_l85; exact y1
  unfold b_putPlace
  rw [if_pos rfl, if_neg p1, p2, c2'.number, o_bind]
  by_cases ok : 0 ≤ m.2.2.1 ∧ m.2.2.1 ≤ 1000
  · obtain ⟨S1, at_, o1, o2, o3, o4⟩ := oopen ho 5
    have f1 := fr3_O o3
    obtain ⟨S2, C', z1', z2, z3, z4, z5⟩ := pplace_0l (p0 := p0) (X := m.2.2.1.toNat) (l9 := Int64.ofInt m.2.2.1) o4 (by rw [l1]; omega) (by omega) hrec m.2.2.1.toNat 0 10000 S1 (by omega) (by omega) (hP.fr f1) (hA.fr b2 f1) (by rw [frO_12 o3]; exact hr) o2
    rw [if_pos ok]
    refine ⟨S2, ?_, rbox (k := 5) (L := fun u => List.replicate m.2.2.1.toNat nulM ++ [([], u)]) (Or.inl rfl) (f1.trans z2) z3 z4 z5 (fun U hU => ⟨wV_arr1 _ hU, ⟨([], U), by simp, rfl⟩, ?_⟩)⟩
    · rw [if_pos ((lg_ge _ _).mpr (by rw [l1, z0]; omega)), if_neg (by rw [lg_lt, l1, z0]; omega), if_pos ((lg_le _ _).mpr (by rw [l1, z1]; omega)), o1, o_bind, if_neg (by decide)]
      exact z1'
    · show (blks false (List.replicate m.2.2.1.toNat nulM ++ [([], U)])).flatten = _
      rw [blks_app, List.flatten_append, (blks_m _ _).2]
      rfl
  · rw [if_neg ok]
    refine ⟨Sr, ?_, y2⟩
    rw [ref]
    by_cases c : 0 ≤ m.2.2.1
    · rw [if_pos ((lg_ge _ _).mpr (by rw [l1, z0]; omega)), if_neg (by rw [lg_lt, l1, z0]; omega), if_neg (by rw [lg_le, l1, z1]; omega)]
    · rw [if_neg (by rw [lg_ge, l1, z0]; omega), if_pos ((lg_lt _ _).mpr (by rw [la, z0]; omega))]
/-- how an array's place ends -/
theorem pp229 {S : SS} {aa p E : Nat} {v0 : Int} {s0 : List Int32} {l : List Mb} {C D : List Int32} {at_ : Int32} {rec : SS → Nat → Int32 → Int32 → Int32 → Option SS} {k123 : SS → Int32 → Int32 → Int32 → Int32 → Int32 → Int32 → Int64 → Int32 → Int32 → Int32 → Option SS} (haa : aa ≠ 90 ∧ aa ≠ 91) (ha : C.length ≤ 9000 → at_ = Int32.ofNat C.length) (hc : cat (S aa) p (5, v0, s0, ofL l)) (hE : E ≤ l.length) (ho : OutV S (C ++ 5 :: 0 :: D)) : ∃ S', b_putPlace_l229 aa rec k123 S (Int32.ofNat p) 5 (Int32.ofNat (pos (5, v0, s0, ofL l) p E)) at_ = some S' ∧ frO S S' ∧ OutV S' (C ++ (5 :: Int32.ofNat ((D ++ (blks false (l.drop E)).flatten).length + 2) :: (D ++ (blks false (l.drop E)).flatten))) := by
  obtain ⟨S1, v1, v2, v3⟩ := cellsQ (i := E) (j := l.length) haa hc hE (Nat.le_refl _) ho
  have epn : pos (5, v0, s0, ofL l) p l.length = p + (cV (5, v0, s0, ofL l)).length := by
    obtain ⟨y1, y2, -⟩ := pos_in hc (Nat.le_refl l.length)
    rw [y1, y2, List.take_of_length_le (Nat.le_refl _)]
    omega
  rw [epn] at v1
  rw [List.take_of_length_le (show (l.drop E).length ≤ l.length - E by rw [List.length_drop]; exact Nat.le_refl _)] at v2
  obtain ⟨S2, z1, z2, z3⟩ := oclose (C := C) (k := 5) (at_ := at_) (body := D ++ (blks false (l.drop E)).flatten) (by simpa using v2) ha
  refine ⟨S2, ?_, v3.trans z3, z2⟩
  unfold b_putPlace_l229
  rw [if_pos rfl, (hc.next).1, o_bind, v1, o_bind, z1, o_bind]
/-- what the loop over an array's place has written -/
def ppD (l : List Mb) (A n j : Nat) : List Mb := l.take (A + min j n) ++ List.replicate (j - n) nulM
theorem pplace_5l {aa pb vb N dp i p A n E : Nat} {pt vt : Vl} {m : Mb} {ls : List Mb} {C : List Int32} {at_ : Int32} {l9 : Int64} {X : Nat} {v0 : Int} {s0 : List Int32} {l : List Mb} {rec : SS → Nat → Int32 → Int32 → Int32 → Option SS} (ha : C.length ≤ 9000 → at_ = Int32.ofNat C.length) (hX : l9.toInt = X) (hX2 : X ≤ 1000) (hAE : E = A + n) (hEl : E ≤ l.length) (hp9 : p < 9000) (hdp : dV (5, v0, s0, ofL l) + dp ≤ 60) (hrec : recO rec aa pb vb N dp pt vt ls) : ∀ (k j n2 : Nat) (S : SS), j + k = X → k < n2 → prP S aa pb vb pt vt → atP S pb i N (m :: ls) → rd S 78 12 = 0 → cat (S aa) p (5, v0, s0, ofL l) → OutV S (C ++ 5 :: 0 :: (blks false (ppD l A n j)).flatten) → ∃ S' D Z C', b_putPlace_l123 aa rec n2 S (Int32.ofNat p) 5 (Int32.ofNat i) (Int32.ofNat dp) (Int32.ofNat (pos (5, v0, s0, ofL l) p E)) (Int32.ofNat n) l9 at_ (Int32.ofNat (pos (5, v0, s0, ofL l) p (A + min j n))) (Int32.ofNat j) = some S' ∧ fr3 S S' ∧ OutV S' (C ++ (5 :: Int32.ofNat ((D ++ (C' ++ Z)).length + 2) :: (D ++ (C' ++ Z)))) ∧ (∀ U, putS (ls.map fun m => m.2) (if X < n then (l.getD (A + X) nulM).2 else vNull) none vt = some U → rd S' 78 12 = 0 ∧ wV U ∧ (C' = cV U ∨ (9000 < C'.length ∧ 64 < dp + 1 + dV U))) ∧ (putS (ls.map fun m => m.2) (if X < n then (l.getD (A + X) nulM).2 else vNull) none vt = none → ¬ rd S' 78 12 ≤ 0) ∧ D = (blks false (ppD l A n X)).flatten ∧ Z = (blks false (if X < n then l.drop (A + X + 1) else l.drop E)).flatten := by
  intro k
  induction k with
  | zero =>
    intro j n2 S hj hn hP hA hr hc ho
    obtain ⟨n2, rfl⟩ : ∃ j, n2 = j + 1 := ⟨n2 - 1, by omega⟩
    have hjX : j = X := by omega
    subst hjX
    obtain ⟨p1, p2, -, -⟩ := hP.p
    obtain ⟨-, -, cp, cv, h39, h40, h78, b1, b2, b3⟩ := id hP
    obtain ⟨c1, c2, c3, c4⟩ := hA.cons cp.1
    have hn2 := hc.next.2
    have h9 := hc.1
    have hlen : l.length ≤ 9000 := by
      obtain ⟨y1, y2, -⟩ := pos_in hc (Nat.le_refl l.length)
      have hbl := blks_len false l
      have hfl := flat2 _ (blks_h (b := false) hc.2.1.kids)
      simp only [Bool.false_eq_true, if_false] at hbl
      omega
    unfold b_putPlace_l123
    rw [if_pos ((lg_ge _ _).mpr (by rw [hX, j64 (by omega)]; omega))]
    by_cases hin : j < n
    · rw [if_pos hin, if_pos hin]
      have hjl : A + j < l.length := by omega
      have emn : A + min j n = A + j := by omega
      have egd : l.getD (A + j) nulM = l[A + j] := getD_in _ hjl
      rw [egd, emn]
      have hce : cat (S aa) (pos (5, v0, s0, ofL l) p (A + j)) (l[A + j]).2 := by
        have := hc.elem hjl
        have e1 : pos (5, v0, s0, ofL l) p (A + j) = bp (p + 2) (blks false l) (A + j) := by
          unfold pos
          rw [if_neg (show ¬ (5 : Nat) = 4 by decide)]
          show bp (p + 2) (blks false (toL (ofL l))) (A + j) = _
          rw [toL_ofL]
        rw [e1]
        exact this
      have hpl : pos (5, v0, s0, ofL l) p (A + j) < 9000 := by
        have := hce.next.2
        omega
      have hdk := dV_kid (k := 5) (v := v0) (s := s0) (Or.inl rfl) (List.getElem_mem hjl)
      obtain ⟨S2, d1, d2, C', d3, d4, d5⟩ := hrec S _ (Int32.ofNat (pos (5, v0, s0, ofL l) p (A + j))) (l[A + j]).2 (i + (cV m.2).length) hP c4 ho hr (Or.inr ⟨_, rfl, hpl, hce⟩) (fun _ => by omega)
      have ea2 : S2 aa = S aa := d2.1 aa (by omega) (by omega) (by omega)
      have hc2 : cat (S2 aa) p (5, v0, s0, ofL l) := by rw [ea2]; exact hc
      have enx : r_next (S2 aa) (Int32.ofNat (pos (5, v0, s0, ofL l) p (A + j))) = some (Int32.ofNat (pos (5, v0, s0, ofL l) p (A + j + 1))) := by
        rw [ea2, hce.next.1]
        congr 2
        obtain ⟨y1, -, -⟩ := pos_in hc (show A + j ≤ l.length by omega)
        obtain ⟨y2, -, -⟩ := pos_in hc (show A + j + 1 ≤ l.length by omega)
        rw [y1, y2, List.take_succ_eq_append_getElem hjl, blks_app, List.flatten_append, List.length_append, (blks_m _ _).2]
        show _ = p + 2 + (_ + (cV _ ++ []).length)
        rw [List.append_nil]
        omega
      obtain ⟨S3, v1, v2, v3⟩ := cellsQ (i := A + j + 1) (j := E) (by omega) hc2 (by omega) hEl d3
      have hc3 : cat (S3 aa) p (5, v0, s0, ofL l) := by rw [v3 aa (by omega) (by omega)]; exact hc2
      obtain ⟨S4, w1, w2, w3⟩ := pp229 (rec := rec) (k123 := b_putPlace_l123 aa rec n2) (D := (blks false (ppD l A n j)).flatten ++ (C' ++ (blks false ((l.drop (A + j + 1)).take (E - (A + j + 1)))).flatten)) (by omega) ha hc3 hEl (by simpa using v2)
      have ez : (blks false ((l.drop (A + j + 1)).take (E - (A + j + 1)))).flatten ++ (blks false (l.drop E)).flatten = (blks false (l.drop (A + j + 1))).flatten := by
        rw [← List.flatten_append, ← blks_app]
        congr 2
        have : l.drop E = (l.drop (A + j + 1)).drop (E - (A + j + 1)) := by rw [List.drop_drop]; congr 1; omega
        rw [this, List.take_append_drop]
      refine ⟨S4, (blks false (ppD l A n j)).flatten, (blks false (l.drop (A + j + 1))).flatten, C', ?_, (d2.trans (fr3_O v3)).trans (fr3_O w2), ?_, fun U hU => by rw [frO_12 w2, frO_12 v3]; exact d4 U hU, fun hn => by rw [frO_12 w2, frO_12 v3]; exact d5 hn, rfl, rfl⟩
      · rw [if_neg (by rw [lg_ge, hX, j64 (by omega)]; omega), if_neg p1, p2, c3, o_bind, i_a1, d1, o_bind, enx, o_bind, v1, o_bind, w1]
      · rw [← ez]
        simpa using w3
    · rw [if_neg hin, if_neg hin]
      obtain ⟨S2, d1, d2, C', d3, d4, d5⟩ := hrec S _ (-1) vNull (i + (cV m.2).length) hP c4 ho hr (Or.inl ⟨rfl, rfl⟩) (fun c => absurd rfl c)
      have ea2 : S2 aa = S aa := d2.1 aa (by omega) (by omega) (by omega)
      have hc2 : cat (S2 aa) p (5, v0, s0, ofL l) := by rw [ea2]; exact hc
      obtain ⟨S4, w1, w2, w3⟩ := pp229 (rec := rec) (k123 := b_putPlace_l123 aa rec n2) (D := (blks false (ppD l A n j)).flatten ++ C') (by omega) ha hc2 hEl (by simpa using d3)
      refine ⟨S4, (blks false (ppD l A n j)).flatten, (blks false (l.drop E)).flatten, C', ?_, d2.trans (fr3_O w2), by simpa using w3, fun U hU => by rw [frO_12 w2]; exact d4 U hU, fun hn => by rw [frO_12 w2]; exact d5 hn, rfl, rfl⟩
      rw [if_pos ((lg_ge _ _).mpr (by rw [hX, j64 (by omega)]; omega)), if_neg p1, p2, c3, o_bind, i_a1, d1, o_bind, w1]
  | succ k ih =>
    intro j n2 S hj hn hP hA hr hc ho
    obtain ⟨n2, rfl⟩ : ∃ j, n2 = j + 1 := ⟨n2 - 1, by omega⟩
    obtain ⟨-, -, cp, cv, h39, h40, h78, b1, b2, b3⟩ := id hP
    have h9 := hc.1
    have hn9 := hc.next.2
    have hlen : l.length ≤ 9000 := by
      obtain ⟨y1, y2, -⟩ := pos_in hc (Nat.le_refl l.length)
      have hbl := blks_len false l
      have hfl := flat2 _ (blks_h (b := false) hc.2.1.kids)
      simp only [Bool.false_eq_true, if_false] at hbl
      omega
    by_cases hin : n ≤ j
    · obtain ⟨S1, q1, q2, q3⟩ := osimple ho 0
      have f1 := fr3_O q3
      have eD : (blks false (ppD l A n (j + 1))).flatten = (blks false (ppD l A n j)).flatten ++ [0, 2] := by
        unfold ppD
        rw [show j + 1 - n = (j - n) + 1 by omega, show min (j + 1) n = min j n by omega, blks_app, blks_app, List.flatten_append, List.flatten_append, nul_blk, List.append_assoc]
      obtain ⟨S', D, Z, C', j1, j2, j3⟩ := ih (j + 1) n2 S1 (by omega) (by omega) (hP.fr f1) (hA.fr b2 f1) (by rw [frO_12 q3]; exact hr) (by rw [q3 aa (by omega) (by omega)]; exact hc) (by rw [eD]; simpa using q2)
      refine ⟨S', D, Z, C', ?_, f1.trans j2, j3⟩
      rw [show min (j + 1) n = min j n by omega] at j1
      unfold b_putPlace_l123
      rw [if_neg (by rw [lg_ge, hX, j64 (by omega)]; omega), if_pos ((i_le' (by omega) (by omega)).mpr hin), q1, o_bind, i_a1]
      exact j1
    · have hjl : A + j < l.length := by omega
      have emn : A + min j n = A + j := by omega
      have hce : cat (S aa) (pos (5, v0, s0, ofL l) p (A + j)) (l[A + j]).2 := by
        have := hc.elem hjl
        have e1 : pos (5, v0, s0, ofL l) p (A + j) = bp (p + 2) (blks false l) (A + j) := by
          unfold pos
          rw [if_neg (show ¬ (5 : Nat) = 4 by decide)]
          show bp (p + 2) (blks false (toL (ofL l))) (A + j) = _
          rw [toL_ofL]
        rw [e1]
        exact this
      obtain ⟨-, wk, rk, dk⟩ := id hce
      obtain ⟨S1, q1, q2, q3⟩ := ocopy (aa := aa) (by omega) (cV_h wk.1) ho h9 dk
      have f1 := fr3_O q3
      have ea1 : S1 aa = S aa := q3 aa (by omega) (by omega)
      have enx : r_next (S1 aa) (Int32.ofNat (pos (5, v0, s0, ofL l) p (A + j))) = some (Int32.ofNat (pos (5, v0, s0, ofL l) p (A + j + 1))) := by
        rw [ea1, hce.next.1]
        congr 2
        obtain ⟨y1, -, -⟩ := pos_in hc (show A + j ≤ l.length by omega)
        obtain ⟨y2, -, -⟩ := pos_in hc (show A + j + 1 ≤ l.length by omega)
        rw [y1, y2, List.take_succ_eq_append_getElem hjl, blks_app, List.flatten_append, List.length_append, (blks_m _ _).2]
        show _ = p + 2 + (_ + (cV _ ++ []).length)
        rw [List.append_nil]
        omega
      have eD : (blks false (ppD l A n (j + 1))).flatten = (blks false (ppD l A n j)).flatten ++ cV (l[A + j]).2 := by
        unfold ppD
        rw [show j + 1 - n = 0 by omega, show j - n = 0 by omega, show A + min (j + 1) n = A + j + 1 by omega, emn, List.take_succ_eq_append_getElem hjl]
        simp only [List.replicate_zero, List.append_nil]
        rw [blks_app, List.flatten_append, (blks_m _ _).2]
        show _ ++ (cV _ ++ []) = _
        rw [List.append_nil]
      obtain ⟨S', D, Z, C', j1, j2, j3⟩ := ih (j + 1) n2 S1 (by omega) (by omega) (hP.fr f1) (hA.fr b2 f1) (by rw [frO_12 q3]; exact hr) (by rw [ea1]; exact hc) (by rw [eD]; simpa using q2)
      refine ⟨S', D, Z, C', ?_, f1.trans j2, j3⟩
      rw [show A + min (j + 1) n = A + j + 1 by omega] at j1
      unfold b_putPlace_l123
      rw [if_neg (by rw [lg_ge, hX, j64 (by omega)]; omega), if_neg (by rw [i_le' (by omega) (by omega)]; omega), emn, q1, o_bind, enx, o_bind, i_a1]
      exact j1
/-- a place of an array -/
theorem pplace_5 {S : SS} {aa pb vb N dp i p : Nat} {pt vt : Vl} {m : Mb} {ls : List Mb} {C : List Int32} {v0 : Int} {s0 : List Int32} {l : List Mb} {w : Option (Nat × Nat)} {rec : SS → Nat → Int32 → Int32 → Int32 → Option SS} (hP : prP S aa pb vb pt vt) (ho : OutV S C) (hr : rd S 78 12 = 0) (hA : atP S pb i N (m :: ls)) (e3 : m.2.1 = 3) (hs : spR S aa (5, v0, s0, ofL l) w (Int32.ofNat p)) (hp9 : p < 9000) (hdp : dV (5, v0, s0, ofL l) + dp ≤ 60) (hrec : recO rec aa pb vb N dp pt vt ls) : ∃ S', b_putPlace S aa rec (Int32.ofNat p) 5 (Int32.ofNat i) (Int32.ofNat dp) = some S' ∧ rpO S S' C (putS (m.2 :: ls.map fun m => m.2) (5, v0, s0, ofL l) w vt) dp := by
  obtain ⟨p1, p2, -, -⟩ := hP.p
  obtain ⟨-, -, cp, -, -, -, h78, b1, b2, b3⟩ := id hP
  obtain ⟨-, c2, -, -⟩ := hA.cons cp.1
  have c2' := c2
  rw [vl3 e3] at c2'
  have hx := c2.2.1.2.1 e3
  obtain ⟨g1, g2⟩ := between_val hs rfl
  obtain ⟨p', ep, hp', hc, hwo, -, hwb⟩ := hs
  have epp : p = p' := (i_inj (by omega) (by omega)).mp ep
  subst epp
  obtain ⟨x1, x2⟩ := hwb (Or.inr rfl)
  obtain ⟨wl1, wl2, wl3⟩ := win_le hwo
  have hsz : size (5, v0, s0, ofL l) = l.length := by unfold size; rw [if_neg (show ¬ (5 : Nat) = 4 by decide)]; exact congrArg List.length (toL_ofL l)
  rw [hsz] at wl2
  obtain ⟨A, hAd⟩ : ∃ A, A = winA (5, v0, s0, ofL l) w := ⟨_, rfl⟩
  obtain ⟨E, hEd⟩ : ∃ E, E = winE (5, v0, s0, ofL l) w := ⟨_, rfl⟩
  obtain ⟨n, hnd⟩ : ∃ n, n = winN (5, v0, s0, ofL l) w := ⟨_, rfl⟩
  rw [← hAd] at x1 wl1 wl3
  rw [← hEd] at x2 wl1 wl2 wl3
  rw [← hnd] at g1 g2 wl3
  have l1 := l_of (z := m.2.2.1) (by omega) (by omega)
  have z0 : (0 : Int64).toInt = 0 := rfl
  have z1 : (1000 : Int64).toInt = 1000 := rfl
  have hnt : ((Int32.ofNat n).toInt64).toInt = n := j64 (by omega)
  have la : (Int64.ofInt m.2.2.1 + (Int32.ofNat n).toInt64).toInt = m.2.2.1 + n := by rw [l_add (by rw [l1]; omega) (by rw [hnt]; omega), l1, hnt]
  obtain ⟨Sr, y1, y2⟩ := rref (v := 2) (dp := dp) h78 ho (by decide) hr
  have ref : b_putPlace_l85 aa rec S = some Sr := by unfold b_putPlace_l85; exact y1
  obtain ⟨X, hX⟩ : ∃ X, X = atX m.2.2.1 n := ⟨_, rfl⟩
  have eS : putS (m.2 :: ls.map fun m => m.2) (5, v0, s0, ofL l) w vt = if 0 ≤ X ∧ X ≤ 1000 then (if X < n then (putS (ls.map fun m => m.2) ((l.getD (A + X.toNat) nulM).2) none vt).map (fun u => (5, v0, s0, ofL (l.set (A + X.toNat) ((l.getD (A + X.toNat) nulM).1, u)))) else (putS (ls.map fun m => m.2) vNull none vt).map (fun u => (5, v0, s0, ofL (l.take E ++ (List.replicate (X.toNat - n) nulM ++ ([], u) :: l.drop E))))) else none := by
    rw [hX, hAd, hEd, hnd]
    show (if m.2.1 = 6 then _ else if m.2.1 = 4 then _ else if m.2.1 = 3 then (if (5 : Nat) = 5 then _ else _) else _) = _
    rw [if_neg (by omega), if_neg (by omega), if_pos e3, if_pos rfl]
    simp only [toL_ofL]
  rw [eS]
  -- once the place is known
  have fin : ∀ l9 : Int64, l9.toInt = X → 0 ≤ X ∧ X ≤ 1000 → ∃ S', ((q_open S 5).bind fun r62 => (if (5 : Int32) = (5 : Int32) then ((b_cells r62.1 aa (Int32.ofNat p + 2) (rd S 78 17)).bind fun r65 => b_putPlace_l123 aa rec 10000 r65 (Int32.ofNat p) 5 (Int32.ofNat i) (Int32.ofNat dp) (rd S 78 18) (Int32.ofNat n) l9 r62.2 (rd S 78 17) 0) else b_putPlace_l123 aa rec 10000 r62.1 (Int32.ofNat p) 5 (Int32.ofNat i) (Int32.ofNat dp) (rd S 78 18) (Int32.ofNat n) l9 r62.2 (rd S 78 17) 0)) = some S' ∧ rpO S S' C (if X < n then (putS (ls.map fun m => m.2) ((l.getD (A + X.toNat) nulM).2) none vt).map (fun u => (5, v0, s0, ofL (l.set (A + X.toNat) ((l.getD (A + X.toNat) nulM).1, u)))) else (putS (ls.map fun m => m.2) vNull none vt).map (fun u => (5, v0, s0, ofL (l.take E ++ (List.replicate (X.toNat - n) nulM ++ ([], u) :: l.drop E))))) dp := by
    intro l9 h9 hok
    obtain ⟨S1, at_, o1, o2, o3, o4⟩ := oopen ho 5
    have f1 := fr3_O o3
    have hc1 : cat (S1 aa) p (5, v0, s0, ofL l) := by rw [o3 aa (by omega) (by omega)]; exact hc
    have ep0 : pos (5, v0, s0, ofL l) p 0 = p + 2 := by
      obtain ⟨y1, -, -⟩ := pos_in hc (Nat.zero_le l.length)
      rw [y1]
      show p + 2 + 0 = _
      omega
    obtain ⟨S2, q1, q2, q3⟩ := cellsQ (i := 0) (j := A) (by omega) hc1 (Nat.zero_le _) (by omega) o2
    rw [ep0] at q1
    have f2 := f1.trans (fr3_O q3)
    have eD0 : (blks false (ppD l A n 0)).flatten = (blks false ((l.drop 0).take (A - 0))).flatten := by
      unfold ppD
      simp
    obtain ⟨S3, D, Z, C', t1, t2, t3, t4, t5, t6, t7⟩ := pplace_5l (p := p) (A := A) (n := n) (E := E) (l9 := l9) (X := X.toNat) (v0 := v0) (s0 := s0) (l := l) o4 (by rw [h9]; omega) (by omega) wl3 wl2 hp9 hdp hrec X.toNat 0 10000 S2 (by omega) (by omega) (hP.fr f2) (hA.fr b2 f2) (by rw [frO_12 q3, frO_12 o3]; exact hr) (by rw [q3 aa (by omega) (by omega)]; exact hc1) (by rw [eD0]; simpa using q2)
    refine ⟨S3, ?_, ?_⟩
    · rw [o1, o_bind, if_pos rfl, show Int32.ofNat p + 2 = Int32.ofNat (p + 2) from (Int32.ofNat_add p 2).symm, x1, q1, o_bind, x2]
      have : A + min 0 n = A := by omega
      rw [this] at t1
      exact t1
    · by_cases hin : X < n
      · have hin' : X.toNat < n := by omega
        have hjl : A + X.toNat < l.length := by omega
        rw [if_pos hin', getD_in _ hjl] at t4 t5
        rw [if_pos hin'] at t7
        rw [if_pos hin, getD_in _ hjl]
        refine rbox (k := 5) (L := fun u => l.set (A + X.toNat) ((l[A + X.toNat]).1, u)) (Or.inl rfl) (f2.trans t2) t3 t4 t5 (fun U hU => ⟨wV_5 hc.2.1.2.2.1 (fun x hx => ?_), ⟨_, List.mem_set hjl _, rfl⟩, ?_⟩)
        · rcases List.mem_or_eq_of_mem_set hx with c | c
          · exact hc.2.1.kids x c
          · rw [c]; exact ⟨(hc.2.1.kids _ (List.getElem_mem hjl)).1, hU⟩
        · show (blks false (l.set (A + X.toNat) ((l[A + X.toNat]).1, U))).flatten = _
          rw [List.set_eq_take_append_cons_drop, if_pos hjl, blks_app, List.flatten_append, (blks_m _ _).2, t6, t7]
          unfold ppD
          rw [show X.toNat - n = 0 by omega, show A + min X.toNat n = A + X.toNat by omega]
          simp
      · have hin' : ¬ X.toNat < n := by omega
        rw [if_neg hin'] at t4 t5 t7
        rw [if_neg hin]
        refine rbox (k := 5) (L := fun u => l.take E ++ (List.replicate (X.toNat - n) nulM ++ ([], u) :: l.drop E)) (Or.inl rfl) (f2.trans t2) t3 t4 t5 (fun U hU => ⟨wV_5 hc.2.1.2.2.1 (fun x hx => ?_), ⟨([], U), by simp, rfl⟩, ?_⟩)
        · rcases List.mem_append.mp hx with c | c
          · exact hc.2.1.kids x (List.mem_of_mem_take c)
          · rcases List.mem_append.mp c with c | c
            · exact okL_nul _ x c
            · rcases List.mem_cons.mp c with c | c
              · rw [c]; exact ⟨(fun c hc => by cases hc), hU⟩
              · exact hc.2.1.kids x (List.mem_of_mem_drop c)
        · show (blks false (l.take E ++ (List.replicate (X.toNat - n) nulM ++ ([], U) :: l.drop E))).flatten = _
          rw [blks_app, blks_app, List.flatten_append, List.flatten_append, (blks_m _ _).2, t6, t7]
          unfold ppD
          rw [show A + min X.toNat n = E by omega, blks_app, List.flatten_append]
          simp
  unfold b_putPlace
  rw [if_neg (by decide), g1, o_bind, if_neg p1, p2, c2'.number, o_bind]
  by_cases ok : 0 ≤ X ∧ X ≤ 1000
  · rw [if_pos ok]
    by_cases c : 0 ≤ m.2.2.1
    · have hXe : X = m.2.2.1 := by rw [hX]; unfold atX; rw [if_neg (by omega)]
      obtain ⟨S', s1, s2⟩ := fin (Int64.ofInt m.2.2.1) (by rw [l1, hXe]) ok
      refine ⟨S', ?_, s2⟩
      rw [if_pos ((lg_ge _ _).mpr (by rw [l1, z0]; omega)), if_neg (by rw [lg_lt, l1, z0]; omega), if_pos ((lg_le _ _).mpr (by rw [l1, z1]; omega))]
      exact s1
    · have hXe : X = m.2.2.1 + n := by rw [hX]; unfold atX; rw [if_pos (by omega)]
      obtain ⟨S', s1, s2⟩ := fin (Int64.ofInt m.2.2.1 + (Int32.ofNat n).toInt64) (by rw [la, hXe]) ok
      refine ⟨S', ?_, s2⟩
      rw [if_neg (by rw [lg_ge, l1, z0]; omega), if_neg (by rw [lg_lt, la, z0]; omega), if_pos ((lg_le _ _).mpr (by rw [la, z1]; omega))]
      exact s1
  · rw [if_neg ok]
    refine ⟨Sr, ?_, y2⟩
    rw [ref]
    by_cases c : 0 ≤ m.2.2.1
    · have hXe : X = m.2.2.1 := by rw [hX]; unfold atX; rw [if_neg (by omega)]
      rw [if_pos ((lg_ge _ _).mpr (by rw [l1, z0]; omega)), if_neg (by rw [lg_lt, l1, z0]; omega), if_neg (by rw [lg_le, l1, z1]; omega)]
    · have hXe : X = m.2.2.1 + n := by rw [hX]; unfold atX; rw [if_pos (by omega)]
      rw [if_neg (by rw [lg_ge, l1, z0]; omega)]
      by_cases d : X < 0
      · rw [if_pos ((lg_lt _ _).mpr (by rw [la, z0]; omega))]
      · rw [if_neg (by rw [lg_lt, la, z0]; omega), if_neg (by rw [lg_le, la, z1]; omega)]
end RPut164
end

section
/-! The reference puts a value at the end of a path. -/
section RPut165
theorem rpO.ref {S S1 : SS} {C : List Int32} {o : Option Vl} {dp : Nat} (h78 : (S 78).length = 22) (h : rpO S S1 C o dp) : ∃ S2, ((b_refuse S1 1).bind fun r => some r) = some S2 ∧ rpO S S2 C none dp := by
  obtain ⟨f, C', h1, h2, h3⟩ := h
  by_cases h0 : rd S1 78 12 = 0
  · refine ⟨wr S1 78 12 1, by unfold b_refuse; rw [h0, if_pos rfl, o_bind], ⟨fun a a1 a2 a3 => by rw [wr_ne a1, f.1 a a1 a2 a3], fun k k1 k2 k3 => by rw [rd_wr_j (fun e => k1 e.symm), f.2.1 k k1 k2 k3], by rw [wr_len, f.2.2]⟩, C', ?_, fun T hT => (by cases hT), fun _ => ?_⟩
    · unfold OutV rd at h1 ⊢
      rw [wr_ne (by decide), wr_ne (by decide)]
      exact h1
    · rw [rd_wr (by rw [f.2.2, h78]; decide)]
      decide
  · refine ⟨S1, by unfold b_refuse; rw [if_neg h0, o_bind], f, C', h1, fun T hT => (by cases hT), fun _ => ?_⟩
    cases o with
    | none => exact h3 rfl
    | some T => exact absurd (h2 T rfl).1 h0
theorem l66_val {aa pb vb N dp : Nat} {pt vt t : Vl} {C : List Int32} {p0 : Int32} {rec : SS → Nat → Int32 → Int32 → Int32 → Option SS} (hk6 : t.1 ≤ 6) (hdp : t.1 ≠ 0 → dV t + dp ≤ 60) (hrec : ∀ ls', recO rec aa pb vb N dp pt vt ls') : ∀ (ls : List Mb) (n i : Nat) (S : SS) (w : Option (Nat × Nat)), prP S aa pb vb pt vt → atP S pb i N ls → rd S 78 12 = 0 → OutV S C → ls.length < n → (w.isSome → t.1 = 5 ∨ t.1 = 0) → (t.1 = 5 → spR S aa t w p0) → (t.1 = 6 → ∃ p, p0 = Int32.ofNat p ∧ p < 9000 ∧ cat (S aa) p t) → ∃ S', b_putB_l66 aa rec n S p0 (Int32.ofNat dp) (Int32.ofNat t.1) (Int32.ofNat i) (if w.isSome then 1 else 0) = some S' ∧ rpO S S' C (putS (ls.map fun m => m.2) t w vt) dp := by
  intro ls
  induction ls with
  | nil =>
    intro n i S w hP hA hr ho hn hw h5 h6
    obtain ⟨n, rfl⟩ : ∃ j, n = j + 1 := ⟨n - 1, by omega⟩
    obtain ⟨p1, p2, -, -⟩ := hP.p
    obtain ⟨a1, a2, a3, a4, r, a5⟩ := hA
    have z : (blks false []).flatten.length = 0 := rfl
    have hiN : i = N := by omega
    obtain ⟨S', y1, y2⟩ := last_val (dp := dp) hP ho hr hw h5 hk6
    refine ⟨S', ?_, y2⟩
    unfold b_putB_l66
    rw [if_neg p1, p2, a2, o_bind, if_pos ((i_le' (by omega) (by omega)).mpr (by omega)), if_pos (by rw [hiN]), y1]
  | cons m ls ih =>
    intro n i S w hP hA hr ho hn hw h5 h6
    obtain ⟨n, rfl⟩ : ∃ j, n = j + 1 := ⟨n - 1, by omega⟩
    obtain ⟨p1, p2, -, -⟩ := hP.p
    obtain ⟨-, -, cp, cv, h39, h40, h78, b1, b2, b3⟩ := id hP
    obtain ⟨c1, c2, c3, c4⟩ := hA.cons cp.1
    obtain ⟨a1, a2, a3, -⟩ := id hA
    have k6 := c2.2.1.1
    have hn' : ls.length < n := by simp only [List.length_cons] at hn; omega
    obtain ⟨Sr, y1, y2⟩ := rref (v := 1) (dp := dp) h78 ho (by decide) hr
    have ne : ¬ Int32.ofNat i = Int32.ofNat N := by rw [i_inj (by omega) (by omega)]; omega
    rw [List.map_cons]
    unfold b_putB_l66
    rw [if_neg p1, p2, a2, o_bind, if_neg (by rw [i_le' (by omega) (by omega)]; omega), c2.kind, o_bind]
    by_cases e6 : m.2.1 = 6
    · obtain ⟨g1, g2⟩ := part_val c2 e6 h39 h40
      rw [if_pos (by rw [e6]; rfl)]
      have eS : putS (m.2 :: ls.map fun m => m.2) t w vt = if @decide (okBd m.2) (Classical.propDecidable _) = true then (if t.1 = 5 then putS (ls.map fun m => m.2) t (some (nwA m.2 (winA t w) (winE t w), nwB m.2 (winA t w) (winE t w))) vt else if t.1 = 0 then putS (ls.map fun m => m.2) vNull (some (0, 0)) vt else none) else none := by
        show (if m.2.1 = 6 then _ else _) = _
        rw [if_pos e6]
      by_cases ok : okBd m.2
      · rw [g1 ok, o_bind, if_neg (by decide)]
        rw [if_pos (@decide_eq_true _ (Classical.propDecidable _) ok)] at eS
        by_cases t5 : t.1 = 5
        · obtain ⟨S1, q1, q2, q3⟩ := rnarrow_val (ab := pb) (i := i) h78 (by omega) h39 h40 (h5 t5) c2 e6 ⟨Or.inr t5, ok.1, ok.2⟩
          rw [if_pos t5] at q1
          have f1 := fr3_N q2
          have hP1 := hP.fr f1
          obtain ⟨p1', p2', -, -⟩ := hP1.p
          have hO1 : OutV S1 C := by
            unfold OutV rd at ho ⊢
            rw [q2.1 91 (by decide), q2.1 90 (by decide)]
            exact ho
          obtain ⟨S', j1, j2, j3⟩ := ih n (i + (cV m.2).length) S1 _ hP1 (c4.fr b2 f1) (by rw [q2.2.1 12 (by decide) (by decide)]; exact hr) hO1 hn' (fun _ => Or.inl t5) (fun _ => q3) (fun c => by omega)
          rw [if_pos t5] at eS
          rw [eS]
          refine ⟨S', ?_, f1.trans j2, j3⟩
          rw [if_pos (by rw [t5]; rfl)]
          unfold b_putB_l118
          rw [if_pos (by rw [t5]; rfl), if_neg p1, p2, q1, o_bind, if_neg p1', p2', q2.1 pb (by omega), c3, o_bind]
          exact j1
        · rw [if_neg (kne5 hk6 t5)]
          rw [if_neg t5] at eS
          by_cases t0 : t.1 = 0
          · rw [if_pos t0, ← putS_null t0] at eS
            obtain ⟨S', j1, j2⟩ := ih n (i + (cV m.2).length) S (some (0, 0)) hP c4 hr ho hn' (fun _ => Or.inr t0) (fun c => absurd c t5) (fun c => by omega)
            rw [eS]
            refine ⟨S', ?_, j2⟩
            rw [if_pos (by rw [t0]; rfl)]
            unfold b_putB_l118
            rw [if_neg (kne5 hk6 t5), if_neg p1, p2, c3, o_bind]
            exact j1
          · rw [if_neg t0] at eS
            rw [eS, if_neg (kne0 hk6 t0), y1]
            exact ⟨Sr, rfl, y2⟩
      · rw [if_neg (fun c => ok (@of_decide_eq_true _ (Classical.propDecidable _) c))] at eS
        rw [eS, g2 ok, o_bind, if_pos rfl, y1]
        exact ⟨Sr, rfl, y2⟩
    rw [if_neg (kne6 k6 e6), if_neg ne]
    by_cases e4 : m.2.1 = 4
    · rw [if_pos (by rw [e4]; rfl)]
      by_cases t6 : t.1 = 6
      · have hwn : w = none := by
          cases w with
          | none => rfl
          | some ab => rcases hw rfl with c | c <;> omega
        subst hwn
        obtain ⟨p, ep, hp9, hc⟩ := h6 t6
        obtain ⟨kt, v0, s0, ft⟩ := t
        obtain ⟨l, rfl⟩ : ∃ l, ft = ofL l := ⟨toL ft, (ofL_toL ft).symm⟩
        have t6 : kt = 6 := t6
        subst t6
        obtain ⟨S', j1, j2⟩ := pname_6 hP ho hr hA e4 hc hp9 (hdp (show ¬ (6 : Nat) = 0 by decide)) (hrec ls)
        have eS : putS (m.2 :: ls.map fun m => m.2) (6, v0, s0, ofL l) none vt = (putS (ls.map fun m => m.2) ((byN (6, v0, s0, ofL l) m.2.2.2.1).getD vNull) none vt).map (fun u => (6, v0, s0, ofL (setM l m.2.2.2.1 u))) := by
          show (if m.2.1 = 6 then _ else if m.2.1 = 4 then (if (none : Option (Nat × Nat)).isSome = true then none else if (6 : Nat) = 6 then _ else _) else _) = _
          rw [if_neg (by omega), if_pos e4, if_neg (by decide), if_pos rfl]
          simp only [toL_ofL]
        rw [eS]
        refine ⟨S', ?_, j2⟩
        rw [if_pos (show Int32.ofNat ((6, v0, s0, ofL l) : Vl).1 = 6 from rfl), ep]
        show ((b_putName S aa rec (Int32.ofNat p) 6 (Int32.ofNat i) (Int32.ofNat dp)).bind fun r68 => (if (0 : Int32) = 0 then some r68 else _)) = _
        rw [j1, o_bind, if_pos rfl]
      · rw [if_neg (kne6 hk6 t6)]
        by_cases t0 : t.1 = 0
        · rw [if_pos (by rw [t0]; rfl), putS_null t0, putS_4 e4, show Int32.ofNat t.1 = 0 by rw [t0]; rfl]
          obtain ⟨S', j1, j2⟩ := pname_0 (p0 := p0) hP ho hr hA e4 (hrec ls)
          rw [j1, o_bind]
          cases w with
          | none =>
            rw [if_pos (show (if (none : Option (Nat × Nat)).isSome = true then (1 : Int32) else 0) = 0 from rfl), if_neg (by decide)]
            exact ⟨S', rfl, j2⟩
          | some ab =>
            obtain ⟨S2, z1, z2⟩ := j2.ref h78
            rw [if_neg (show ¬ (if (some ab : Option (Nat × Nat)).isSome = true then (1 : Int32) else 0) = 0 from fun e => absurd e (show ¬ (1 : Int32) = 0 by decide)), z1, if_pos (show (some ab : Option (Nat × Nat)).isSome = true from rfl)]
            exact ⟨S2, rfl, z2⟩
        · rw [if_neg (kne0 hk6 t0), if_neg (by rw [e4]; decide), y1]
          have eS : putS (m.2 :: ls.map fun m => m.2) t w vt = none := by
            show (if m.2.1 = 6 then _ else if m.2.1 = 4 then (if w.isSome = true then none else if t.1 = 6 then _ else if t.1 = 0 then _ else none) else _) = _
            rw [if_neg e6, if_pos e4, if_neg t6, if_neg t0]
            split <;> rfl
          rw [eS]
          exact ⟨Sr, rfl, y2⟩
    rw [if_neg (kne4 k6 e4)]
    by_cases e3 : m.2.1 = 3
    · rw [if_pos (by rw [e3]; rfl)]
      by_cases t5 : t.1 = 5
      · obtain ⟨p, ep, hp9, -⟩ := id (h5 t5)
        obtain ⟨kt, v0, s0, ft⟩ := t
        obtain ⟨l, rfl⟩ : ∃ l, ft = ofL l := ⟨toL ft, (ofL_toL ft).symm⟩
        have t5 : kt = 5 := t5
        subst t5
        obtain ⟨S', j1, j2⟩ := pplace_5 (p := p) hP ho hr hA e3 (by rw [← ep]; exact h5 rfl) hp9 (hdp (show ¬ (5 : Nat) = 0 by decide)) (hrec ls)
        refine ⟨S', ?_, j2⟩
        rw [if_pos (show Int32.ofNat ((5, v0, s0, ofL l) : Vl).1 = 5 from rfl), ep]
        show ((b_putPlace S aa rec (Int32.ofNat p) 5 (Int32.ofNat i) (Int32.ofNat dp)).bind fun r33 => some r33) = _
        rw [j1, o_bind]
      · rw [if_neg (kne5 hk6 t5)]
        by_cases t0 : t.1 = 0
        · rw [if_pos (by rw [t0]; rfl), putS_null t0, putS_3 e3, show Int32.ofNat t.1 = 0 by rw [t0]; rfl]
          obtain ⟨S', j1, j2⟩ := pplace_0 (p0 := p0) hP ho hr hA e3 (hrec ls)
          rw [j1, o_bind]
          exact ⟨S', rfl, j2⟩
        · rw [if_neg (kne0 hk6 t0), y1]
          have eS : putS (m.2 :: ls.map fun m => m.2) t w vt = none := by
            show (if m.2.1 = 6 then _ else if m.2.1 = 4 then _ else if m.2.1 = 3 then (if t.1 = 5 then _ else if t.1 = 0 then _ else none) else _) = _
            rw [if_neg e6, if_neg e4, if_pos e3, if_neg t5, if_neg t0]
          rw [eS]
          exact ⟨Sr, rfl, y2⟩
    · rw [if_neg (kne3 k6 e3), y1, putS_x e3 e4 e6]
      exact ⟨Sr, rfl, y2⟩
/-- the window of a whole array -/
theorem spR_all {S : SS} {aa p : Nat} {t : Vl} (h78 : (S 78).length = 22) (haa : aa ≠ 78) (hp9 : p < 9000) (hc : cat (S aa) p t) (t5 : t.1 = 5) : spR (wr (wr S 78 17 (Int32.ofNat p + 2)) 78 18 (Int32.ofNat (p + (cV t).length))) aa t none (Int32.ofNat p) := by
  obtain ⟨kt, v0, s0, ft⟩ := t
  obtain ⟨l, rfl⟩ : ∃ l, ft = ofL l := ⟨toL ft, (ofL_toL ft).symm⟩
  have t5 : kt = 5 := t5
  subst t5
  obtain ⟨r1, r2⟩ := rd_win S (Int32.ofNat p + 2) (Int32.ofNat (p + (cV (5, v0, s0, ofL l)).length)) h78
  have e2 : Int32.ofNat p + 2 = Int32.ofNat (p + 2) := (Int32.ofNat_add p 2).symm
  have ep0 : pos (5, v0, s0, ofL l) p 0 = p + 2 := by
    obtain ⟨y1, -, -⟩ := pos_in hc (Nat.zero_le l.length)
    rw [y1]
    show p + 2 + 0 = _
    omega
  have epn : pos (5, v0, s0, ofL l) p l.length = p + (cV (5, v0, s0, ofL l)).length := by
    obtain ⟨y1, y2, -⟩ := pos_in hc (Nat.le_refl l.length)
    rw [y1, y2, List.take_of_length_le (Nat.le_refl _)]
    omega
  have hsz : size (5, v0, s0, ofL l) = l.length := by unfold size; rw [if_neg (show ¬ (5 : Nat) = 4 by decide)]; exact congrArg List.length (toL_ofL l)
  have eE : winE (5, v0, s0, ofL l) none = l.length := by
    show 0 + size (5, v0, s0, ofL l) = _
    omega
  refine ⟨p, rfl, hp9, by rw [wr_ne haa, wr_ne haa]; exact hc, (fun _ _ e => by cases e), fun _ => ⟨by rw [r1, e2], r2⟩, fun _ => ⟨?_, ?_⟩⟩
  · rw [r1, e2, show winA (5, v0, s0, ofL l) none = 0 from rfl, ep0]
  · rw [r2, eE, epn]
/-- put, by the reference -/
theorem put_val {aa pb vb N : Nat} {pt vt : Vl} : ∀ (n dp : Nat), dp + n = 70 → dp ≤ 65 → ∀ (ls : List Mb) (S : SS) (C : List Int32) (p0 : Int32) (t : Vl) (i : Nat), prP S aa pb vb pt vt → atP S pb i N ls → OutV S C → rd S 78 12 = 0 → tgt S aa p0 t → (t.1 ≠ 0 → dV t + dp ≤ 60) → ∃ S', b_put n S aa p0 (Int32.ofNat i) (Int32.ofNat dp) = some S' ∧ rpO S S' C (putS (ls.map fun m => m.2) t none vt) dp := by
  intro n
  induction n with
  | zero => intro dp h1 h2; omega
  | succ n ih =>
    intro dp hdn hd65 ls S C p0 t i hP hA ho hr ht hdV
    obtain ⟨-, -, cp, cv, h39, h40, h78, b1, b2, b3⟩ := id hP
    have hll : ls.length < 10000 := by
      obtain ⟨a1, a2, a3, a4, -⟩ := hA
      have hbl := blks_len false ls
      have hfl := flat2 _ (blks_h (b := false) a1)
      simp only [Bool.false_eq_true, if_false] at hbl
      omega
    have hrec : dp ≤ 64 → ∀ ls', recO (b_put n) aa pb vb N dp pt vt ls' := fun h64 ls' S C p0 t' i hP hA ho hr ht hd => ih (dp + 1) (by omega) (by omega) ls' S C p0 t' i hP hA ho hr ht hd
    have c64 : dp ≤ 64 → Int32.ofNat dp ≤ 64 := fun h => by rw [show (64 : Int32) = Int32.ofNat 64 from rfl, i_le' (by omega) (by omega)]; exact h
    have n64 : ¬ dp ≤ 64 → ¬ Int32.ofNat dp ≤ 64 := fun h => by rw [show (64 : Int32) = Int32.ofNat 64 from rfl, i_le' (by omega) (by omega)]; exact h
    -- too deep
    have deep : ¬ dp ≤ 64 → t.1 = 0 → ∃ S', ((b_rest (wr S 90 2 1) 0 (Int32.ofNat i)).bind fun r99 => some r99) = some S' ∧ rpO S S' C (putS (ls.map fun m => m.2) t none vt) dp := by
      intro hdeep t0
      have l90 : (S 90).length = 3 := ho.2.1
      have f1 : fr3 S (wr S 90 2 1) := ⟨fun a _ a2 _ => wr_ne a2, fun k _ _ _ => rd_wr_ne (by decide), by rw [wr_ne (by decide)]⟩
      obtain ⟨S', j1, j2⟩ := rest_l ls 10000 i (wr S 90 2 1) 0 0 (hP.fr f1) (hA.fr b2 f1) hll (by rw [rd_wr_ne (by decide)]; exact hr) (Or.inl rfl) (Or.inl rfl)
      have big : ∀ X : SS, X 91 = S 91 → X 90 = wr S 90 2 1 90 → OutV X (C ++ List.replicate 9001 0) := by
        intro X h1 h2
        refine ⟨by rw [h1]; exact ho.1, by rw [h2, wr_len]; exact l90, fun c => ?_, fun _ => ?_⟩
        · rw [List.length_append, List.length_replicate] at c; omega
        · have : rd X 90 2 = rd (wr S 90 2 1) 90 2 := by unfold rd; rw [h2]
          rw [this, rd_wr (by rw [l90]; decide)]
      rw [putS_null t0]
      have e0 : b_rest (wr S 90 2 1) 0 (Int32.ofNat i) = some S' := j1
      refine ⟨S', by rw [e0, o_bind], ?_⟩
      rcases j2 with ⟨y1, -, T, y2, y3⟩ | ⟨⟨v, y1, y2⟩, y3⟩
      · subst y1
        have y2 : putS (ls.map fun m => m.2) vNull none vt = some T := y2
        refine ⟨f1, List.replicate 9001 0, big _ (wr_ne (by decide)) rfl, fun T' hT' => ?_, fun hn => by rw [y2] at hn; cases hn⟩
        rw [y2] at hT'
        cases hT'
        refine ⟨by rw [rd_wr_ne (by decide)]; exact hr, y3, Or.inr ⟨by rw [List.length_replicate]; omega, by omega⟩⟩
      · subst y1
        refine ⟨⟨fun a a1 a2 _ => by rw [wr_ne a1, wr_ne a2], fun k k1 _ _ => by rw [rd_wr_j (fun e => k1 e.symm), rd_wr_ne (by decide)], by rw [wr_len, wr_ne (by decide)]⟩, List.replicate 9001 0, big _ (by rw [wr_ne (by decide), wr_ne (by decide)]) (by rw [wr_ne (by decide)]), fun T hT => ?_, fun _ => ?_⟩
        · rcases y3 with c | c
          · exact absurd c (by decide)
          · have c : putS (ls.map fun m => m.2) vNull none vt = none := c
            rw [c] at hT
            cases hT
        · rw [rd_wr (by rw [wr_ne (by decide), h78]; decide)]
          exact y2
    show ∃ S', b_putB S aa (b_put n) p0 (Int32.ofNat i) (Int32.ofNat dp) = some S' ∧ _
    unfold b_putB
    rcases ht with ⟨e1, e2⟩ | ⟨p, ep, hp9, hc⟩
    · subst e1
      subst e2
      rw [if_pos rfl]
      by_cases h64 : dp ≤ 64
      · rw [if_pos (c64 h64)]
        exact l66_val (t := vNull) (show (0 : Nat) ≤ 6 by decide) (fun c => absurd rfl c) (hrec h64) ls 10000 i S none hP hA hr ho hll (fun c => by cases c) (fun c => absurd c (show ¬ (0 : Nat) = 5 by decide)) (fun c => absurd c (show ¬ (0 : Nat) = 6 by decide))
      · rw [if_neg (n64 h64)]
        exact deep h64 rfl
    · subst ep
      rw [if_neg (i_ne1 (by omega)), hc.kind, o_bind]
      have k6 := hc.2.1.1
      by_cases h64 : dp ≤ 64
      · rw [if_pos (c64 h64)]
        by_cases t5 : t.1 = 5
        · rw [if_pos (by rw [t5]; rfl), wr_ne (show aa ≠ 78 by omega), (hc.next).1, o_bind]
          obtain ⟨S2, hS2⟩ : ∃ S2, S2 = wr (wr S 78 17 (Int32.ofNat p + 2)) 78 18 (Int32.ofNat (p + (cV t).length)) := ⟨_, rfl⟩
          have hsp := spR_all h78 (show aa ≠ 78 by omega) hp9 hc t5
          have fN := frN_wr S (Int32.ofNat p + 2) (Int32.ofNat (p + (cV t).length))
          rw [← hS2] at hsp fN
          rw [← hS2]
          have f1 := fr3_N fN
          have hO1 : OutV S2 C := by
            unfold OutV rd at ho ⊢
            rw [fN.1 91 (by decide), fN.1 90 (by decide)]
            exact ho
          obtain ⟨S', j1, j2, j3⟩ := l66_val k6 hdV (hrec h64) ls 10000 i S2 none (hP.fr f1) (hA.fr b2 f1) (by rw [fN.2.1 12 (by decide) (by decide)]; exact hr) hO1 hll (fun c => by cases c) (fun _ => hsp) (fun c => by omega)
          exact ⟨S', j1, f1.trans j2, j3⟩
        · rw [if_neg (kne5 k6 t5)]
          exact l66_val k6 hdV (hrec h64) ls 10000 i S none hP hA hr ho hll (fun c => by cases c) (fun c => absurd c t5) (fun _ => ⟨p, rfl, hp9, hc⟩)
      · have t0 : t.1 = 0 := by
          apply Classical.byContradiction
          intro c
          have := hdV c
          omega
        rw [if_neg (n64 h64), t0]
        exact deep h64 t0
end RPut165
end
