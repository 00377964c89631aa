/-! The reference's put: a name. -/
section RPut163
/-- what the call within does -/
def recO (rec : SS → Nat → Int32 → Int32 → Int32 → Option SS) (aa pb vb N dp : Nat) (pt vt : Vl) (ls : List Mb) : Prop := ∀ (S : SS) (C : List Int32) (p0 : Int32) (t' : Vl) (i : Nat), prP S aa pb vb pt vt → atP S pb i N ls → OutV S C → rd S 78 12 = 0 → tgt S aa p0 t' → (t'.1 ≠ 0 → dV t' + (dp + 1) ≤ 60) → ∃ S', rec S aa p0 (Int32.ofNat i) (Int32.ofNat (dp + 1)) = some S' ∧ rpO S S' C (putS (ls.map fun m => m.2) t' none vt) (dp + 1)
theorem cV_4 {t : Vl} (h : t.1 = 4) : cV t = cstr t.2.2.1 := by
  conv => lhs; rw [vl4 h]
  rfl
theorem setM_ok {v : Int} {s0 s : List Int32} {l : List Mb} {U : Vl} (h : wV (6, v, s0, ofL l)) (hs : okS s) (hU : wV U) : wV (6, v, s0, ofL (setM l s U)) ∧ ∃ m ∈ setM l s U, m.2 = U := by
  by_cases hj : l.findIdx (fun m => m.1 == s) < l.length
  · have e := setM_in U hj
    have e1 : (l[l.findIdx (fun m => m.1 == s)]).1 = s := eq_of_beq (List.findIdx_getElem (w := hj))
    rw [e]
    refine ⟨wV_6 h.2.2.1 (fun m hm => ?_) ?_, _, List.mem_set hj _, rfl⟩
    · rcases List.mem_or_eq_of_mem_set hm with c | c
      · exact h.kids m c
      · rw [c, e1]; exact ⟨hs, hU⟩
    · have := h.nod
      unfold nod at this ⊢
      have e2 : (l.map fun m => m.1).set (l.findIdx (fun m => m.1 == s)) (l[l.findIdx (fun m => m.1 == s)]).1 = l.map fun m => m.1 := by
        have := List.set_getElem_self (as := l.map fun m => m.1) (i := l.findIdx (fun m => m.1 == s)) (by rw [List.length_map]; exact hj)
        rw [List.getElem_map] at this
        exact this
      rw [List.map_set]
      show ((l.map fun m => m.1).set (l.findIdx (fun m => m.1 == s)) (l[l.findIdx (fun m => m.1 == s)]).1).Nodup
      rw [e2]
      exact this
  · have e : setM l s U = l ++ [(s, U)] := by unfold setM; rw [if_neg hj]
    have hnot : ∀ x ∈ l, x.1 ≠ s := fun x hx c => hj (List.findIdx_lt_length_of_exists ⟨x, hx, by rw [c]; exact beq_self_eq_true _⟩)
    rw [e]
    refine ⟨wV_6 h.2.2.1 (fun m hm => ?_) ?_, (s, U), by simp, rfl⟩
    · rcases List.mem_append.mp hm with c | c
      · exact h.kids m c
      · rw [List.mem_singleton.mp c]; exact ⟨hs, hU⟩
    · have := h.nod
      unfold nod at this ⊢
      rw [List.map_append, List.nodup_append]
      refine ⟨this, by simp, ?_⟩
      intro a ha b hb e
      obtain ⟨m, hm, rfl⟩ := List.mem_map.mp ha
      have : b = s := by simpa using hb
      exact hnot m hm (e.trans this)
/-- the path's name goes out, and what comes behind it -/
theorem pname_new {S : SS} {aa pb vb N dp i : Nat} {pt vt : Vl} {m : Mb} {ls : List Mb} {C D : List Int32} {at_ : Int32} {rec : SS → Nat → Int32 → Int32 → Int32 → Option SS} (hP : prP S aa pb vb pt vt) (ho : OutV S (C ++ 6 :: 0 :: D)) (ha : C.length ≤ 9000 → at_ = Int32.ofNat C.length) (hr : rd S 78 12 = 0) (hA : atP S pb i N (m :: ls)) (e4 : m.2.1 = 4) (hrec : recO rec aa pb vb N dp pt vt ls) : ∃ S' C', (if rd S 78 19 = 0 then none else ((q_copy S ((rd S 78 19).toNatClampNeg) (Int32.ofNat i)).bind fun r46 => (if rd r46 78 19 = 0 then none else ((r_next (r46 ((rd r46 78 19).toNatClampNeg)) (Int32.ofNat i)).bind fun r49 => ((rec r46 aa (-1) r49 (Int32.ofNat dp + 1)).bind fun r51 => ((q_close r51 at_).bind fun r53 => some r53)))))) = some S' ∧ fr3 S S' ∧ OutV S' (C ++ (6 :: Int32.ofNat (((D ++ cstr m.2.2.2.1) ++ (C' ++ [])).length + 2) :: ((D ++ cstr m.2.2.2.1) ++ (C' ++ [])))) ∧ (∀ U, putS (ls.map fun m => m.2) vNull none vt = some U → rd S' 78 12 = 0 ∧ wV U ∧ (C' = cV U ∨ (9000 < C'.length ∧ 64 < dp + 1 + dV U))) ∧ (putS (ls.map fun m => m.2) vNull none vt = none → ¬ rd S' 78 12 ≤ 0) := by
  obtain ⟨p1, p2, -, -⟩ := hP.p
  obtain ⟨-, -, cp, cv, h39, h40, h78, b1, b2, b3⟩ := id hP
  obtain ⟨c1, c2, c3, c4⟩ := hA.cons cp.1
  obtain ⟨-, -, rr, dd⟩ := id c2
  rw [cV_4 e4] at dd
  obtain ⟨S1, q1, q2, q3⟩ := ocopy (aa := pb) (p := i) (w := cstr m.2.2.2.1) (r := rr) (by omega) (cstr_hdd _) ho cp.1 dd
  have f1 := fr3_O q3
  have hP1 := hP.fr f1
  obtain ⟨p1', p2', -, -⟩ := hP1.p
  have c3' : r_next (S1 pb) (Int32.ofNat i) = some (Int32.ofNat (i + (cV m.2).length)) := by rw [f1.1 pb (by omega) (by omega) (by omega)]; exact c3
  obtain ⟨S2, d1, d2, C', d3, d4, d5⟩ := hrec S1 _ (-1) vNull (i + (cV m.2).length) hP1 (c4.fr b2 f1) q2 (by rw [frO_12 q3]; exact hr) (Or.inl ⟨rfl, rfl⟩) (fun c => absurd rfl c)
  have o2 : OutV S2 (C ++ 6 :: 0 :: ((D ++ cstr m.2.2.2.1) ++ (C' ++ []))) := by simpa using d3
  obtain ⟨S3, z1, z2, z3⟩ := oclose (C := C) (k := 6) (at_ := at_) o2 ha
  refine ⟨S3, C', ?_, (f1.trans d2).trans (fr3_O z3), z2, fun U hU => ?_, fun hn => ?_⟩
  · rw [if_neg p1, p2, q1, o_bind, if_neg p1', p2', c3', o_bind, i_a1, d1, o_bind, z1, o_bind]
  · rw [frO_12 z3]; exact d4 U hU
  · rw [frO_12 z3]; exact d5 hn
theorem pname_0 {S : SS} {aa pb vb N dp i : Nat} {pt vt : Vl} {m : Mb} {ls : List Mb} {C : List Int32} {p0 : Int32} {rec : SS → Nat → Int32 → Int32 → Int32 → Option SS} (hP : prP S aa pb vb pt vt) (ho : OutV S C) (hr : rd S 78 12 = 0) (hA : atP S pb i N (m :: ls)) (e4 : m.2.1 = 4) (hrec : recO rec aa pb vb N dp pt vt ls) : ∃ S', b_putName S aa rec p0 0 (Int32.ofNat i) (Int32.ofNat dp) = some S' ∧ rpO S S' C ((putS (ls.map fun m => m.2) vNull none vt).map (fun u => (6, 0, [], ofL [(m.2.2.2.1, u)]))) dp := by
  obtain ⟨S1, at_, o1, o2, o3, o4⟩ := oopen ho 6
  have f1 := fr3_O o3
  obtain ⟨-, -, cp, -, -, -, -, b1, b2, b3⟩ := id hP
  obtain ⟨-, c2, -, -⟩ := hA.cons cp.1
  obtain ⟨S2, C', z1, z2, z3, z4, z5⟩ := pname_new (C := C) (D := []) (hP.fr f1) o2 o4 (by rw [frO_12 o3]; exact hr) (hA.fr b2 f1) e4 hrec
  refine ⟨S2, ?_, rbox (k := 6) (L := fun u => [(m.2.2.2.1, u)]) (Or.inr rfl) (f1.trans z2) z3 z4 z5 (fun U hU => ⟨wV_obj1 c2.2.1.2.2.1 hU, ⟨_, List.mem_singleton.mpr rfl, rfl⟩, ?_⟩)⟩
  · unfold b_putName
    rw [o1, o_bind]
    show (if (0 : Int32) = 6 then _ else (if (0 : Int32) = 0 then _ else _)) = _
    rw [if_neg (by decide), if_pos rfl]
    exact z1
  · show (blks true [(m.2.2.2.1, U)]).flatten = _
    rw [(blks_m _ _).1]
    rfl
/-- the members behind the one that was set -/
theorem pname_r {aa pb vb dp i p E : Nat} {pt vt : Vl} {s r rr C : List Int32} {at_ : Int32} {rec : SS → Nat → Int32 → Int32 → Int32 → Option SS} (ha : C.length ≤ 9000 → at_ = Int32.ofNat C.length) (hE : E ≤ 9000) : ∀ (ms : List Mb) (n q : Nat) (S : SS) (D : List Int32), okL ms → (∀ m ∈ ms, m.1 ≠ s) → prP S aa pb vb pt vt → (S pb).drop i = cstr s ++ rr → OutV S (C ++ 6 :: 0 :: D) → (S aa).length ≤ 9000 → r_next (S aa) (Int32.ofNat p) = some (Int32.ofNat E) → (S aa).drop q = (blks true ms).flatten ++ r → q + (blks true ms).flatten.length = E → ms.length < n → ∃ S', b_putName_l19 aa rec n S (Int32.ofNat p) 6 (Int32.ofNat i) (Int32.ofNat dp) at_ 1 (Int32.ofNat q) = some S' ∧ OutV S' (C ++ (6 :: Int32.ofNat ((D ++ (blks true ms).flatten).length + 2) :: (D ++ (blks true ms).flatten))) ∧ frO S S' := by
  intro ms
  induction ms with
  | nil =>
    intro n q S D _ _ hP hs ho hl hn0 hd he hn
    obtain ⟨n, rfl⟩ : ∃ j, n = j + 1 := ⟨n - 1, by omega⟩
    have z : (blks true []).flatten = [] := rfl
    rw [z, List.length_nil] at he
    obtain ⟨S1, z1, z2, z3⟩ := oclose (C := C) (k := 6) (at_ := at_) ho ha
    refine ⟨S1, ?_, by rw [z, List.append_nil]; exact z2, z3⟩
    unfold b_putName_l19
    rw [if_pos rfl, hn0, o_bind, if_pos ((i_le' (by omega) (by omega)).mpr (by omega)), if_neg (by decide), z1, o_bind]
  | cons m ms ih =>
    intro n q S D hw hne hP hs ho hl hn0 hd he hn
    obtain ⟨n, rfl⟩ : ∃ j, n = j + 1 := ⟨n - 1, by omega⟩
    obtain ⟨p1, p2, -, -⟩ := hP.p
    obtain ⟨-, -, cp, cv, h39, h40, h78, b1, b2, b3⟩ := id hP
    have eb : blks true (m :: ms) = cstr m.1 :: cV m.2 :: blks true ms := rfl
    rw [eb] at hd he
    have hh : ∀ x ∈ cstr m.1 :: cV m.2 :: blks true ms, hdd x := by rw [← eb]; exact blks_h hw
    obtain ⟨s1, s2, s3, s4⟩ := blk_step hl hh hd
    obtain ⟨u1, u2, u3, u4⟩ := blk_step hl (fun x hx => hh x (List.mem_cons_of_mem _ hx)) s2
    rw [List.flatten_cons, List.length_append, List.flatten_cons, List.length_append] at he
    rw [List.flatten_cons, List.append_assoc] at hd
    rw [List.flatten_cons, List.append_assoc] at s2
    obtain ⟨S1, q1, q2, q3⟩ := ocopy (aa := aa) (by omega) (cstr_hdd m.1) ho hl hd
    have ea : S1 aa = S aa := q3 aa (by omega) (by omega)
    have ep : S1 pb = S pb := q3 pb (by omega) (by omega)
    have hP1 := hP.fr (fr3_O q3)
    obtain ⟨p1', p2', -, -⟩ := hP1.p
    obtain ⟨S2, v1, v2, v3⟩ := ocopy (S := S1) (aa := aa) (w := cV m.2) (by omega) (cV_h (hw m List.mem_cons_self).2.1) q2 (by rw [ea]; exact hl) (by rw [ea]; exact s2)
    have ea2 : S2 aa = S aa := (v3 aa (by omega) (by omega)).trans ea
    have ep2 : S2 pb = S pb := (v3 pb (by omega) (by omega)).trans ep
    obtain ⟨S', j1, j2, j3⟩ := ih n (q + (cstr m.1).length + (cV m.2).length) S2 (D ++ (cstr m.1 ++ cV m.2)) hw.tail (fun x hx => hne x (List.mem_cons_of_mem _ hx)) (hP1.fr (fr3_O v3)) (by rw [ep2]; exact hs) (by simpa using v2) (by rw [ea2]; exact hl) (by rw [ea2]; exact hn0) (by rw [ea2]; exact u2) (by omega) (by simp only [List.length_cons] at hn; omega)
    refine ⟨S', ?_, ?_, (q3.trans v3).trans j3⟩
    · unfold b_putName_l19
      rw [if_pos rfl, hn0, o_bind, if_neg (by rw [i_le' (by omega) (by omega)]; omega), q1, o_bind, if_neg p1', p2', ea, ep, rstr_val hl cp.1 hd hs, o_bind, if_neg (fun c => hne m List.mem_cons_self ((cmpS_0 _ _).mp c)), s1, o_bind, v1, o_bind, ea2, s1, o_bind, u1, o_bind]
      exact j1
    · rw [(blks_m m ms).1]
      simpa using j2
/-- the members up to the one that is set, or all -/
theorem pname_l {aa pb vb N dp i p E : Nat} {pt vt : Vl} {r C : List Int32} {pm : Mb} {ls : List Mb} {at_ : Int32} {rec : SS → Nat → Int32 → Int32 → Int32 → Option SS} (ha : C.length ≤ 9000 → at_ = Int32.ofNat C.length) (hE : E ≤ 9000) (e4 : pm.2.1 = 4) (hrec : recO rec aa pb vb N dp pt vt ls) : ∀ (ms : List Mb) (n q : Nat) (S : SS) (D : List Int32), okL ms → nod ms → (∀ m ∈ ms, m.2.1 ≠ 0 → dV m.2 + (dp + 1) ≤ 60) → prP S aa pb vb pt vt → atP S pb i N (pm :: ls) → rd S 78 12 = 0 → OutV S (C ++ 6 :: 0 :: D) → (S aa).length ≤ 9000 → r_next (S aa) (Int32.ofNat p) = some (Int32.ofNat E) → (S aa).drop q = (blks true ms).flatten ++ r → q + (blks true ms).flatten.length = E → ms.length < n → ∃ S' A Z C', b_putName_l19 aa rec n S (Int32.ofNat p) 6 (Int32.ofNat i) (Int32.ofNat dp) at_ 0 (Int32.ofNat q) = some S' ∧ fr3 S S' ∧ OutV S' (C ++ (6 :: Int32.ofNat (((D ++ A) ++ (C' ++ Z)).length + 2) :: ((D ++ A) ++ (C' ++ Z)))) ∧ (∀ U, putS (ls.map fun m => m.2) (if h : ms.findIdx (fun m => m.1 == pm.2.2.2.1) < ms.length then (ms[ms.findIdx (fun m => m.1 == pm.2.2.2.1)]).2 else vNull) none vt = some U → rd S' 78 12 = 0 ∧ wV U ∧ (C' = cV U ∨ (9000 < C'.length ∧ 64 < dp + 1 + dV U))) ∧ (putS (ls.map fun m => m.2) (if h : ms.findIdx (fun m => m.1 == pm.2.2.2.1) < ms.length then (ms[ms.findIdx (fun m => m.1 == pm.2.2.2.1)]).2 else vNull) none vt = none → ¬ rd S' 78 12 ≤ 0) ∧ ∀ U, (blks true (setM ms pm.2.2.2.1 U)).flatten = A ++ (cV U ++ Z) := by
  intro ms
  induction ms with
  | nil =>
    intro n q S D _ _ _ hP hA hr ho hl hn0 hd he hn
    obtain ⟨n, rfl⟩ : ∃ j, n = j + 1 := ⟨n - 1, by omega⟩
    have z : (blks true []).flatten = [] := rfl
    rw [z, List.length_nil] at he
    obtain ⟨S', C', z1, z2, z3, z4, z5⟩ := pname_new hP ho ha hr hA e4 hrec
    refine ⟨S', cstr pm.2.2.2.1, [], C', ?_, z2, z3, z4, z5, fun U => ?_⟩
    · unfold b_putName_l19
      rw [if_pos rfl, hn0, o_bind, if_pos ((i_le' (by omega) (by omega)).mpr (by omega)), if_pos rfl]
      exact z1
    · have e : setM [] pm.2.2.2.1 U = [(pm.2.2.2.1, U)] := rfl
      rw [e, (blks_m _ _).1]
      rfl
  | cons m ms ih =>
    intro n q S D hw hnd hdp hP hA hr ho hl hn0 hd he hn
    obtain ⟨n, rfl⟩ : ∃ j, n = j + 1 := ⟨n - 1, by omega⟩
    obtain ⟨p1, p2, -, -⟩ := hP.p
    obtain ⟨-, -, cp, cv, h39, h40, h78, b1, b2, b3⟩ := id hP
    obtain ⟨c1, c2, c3, c4⟩ := hA.cons cp.1
    obtain ⟨-, -, rr, dd⟩ := id c2
    rw [cV_4 e4] at dd
    have eb : blks true (m :: ms) = cstr m.1 :: cV m.2 :: blks true ms := rfl
    rw [eb] at hd he
    have hh : ∀ x ∈ cstr m.1 :: cV m.2 :: blks true ms, hdd x := by rw [← eb]; exact blks_h hw
    obtain ⟨s1, s2, s3, s4⟩ := blk_step hl hh hd
    obtain ⟨u1, u2, u3, u4⟩ := blk_step hl (fun x hx => hh x (List.mem_cons_of_mem _ hx)) s2
    rw [List.flatten_cons, List.length_append, List.flatten_cons, List.length_append] at he
    rw [List.flatten_cons, List.append_assoc] at hd
    rw [List.flatten_cons, List.append_assoc] at s2
    obtain ⟨S1, q1, q2, q3⟩ := ocopy (aa := aa) (by omega) (cstr_hdd m.1) ho hl hd
    have ea : S1 aa = S aa := q3 aa (by omega) (by omega)
    have ep : S1 pb = S pb := q3 pb (by omega) (by omega)
    have f1 := fr3_O q3
    have hP1 := hP.fr f1
    obtain ⟨p1', p2', -, -⟩ := hP1.p
    have hnd' : nod ms ∧ ∀ x ∈ ms, x.1 ≠ m.1 := by
      unfold nod at hnd ⊢
      rw [List.map_cons, List.nodup_cons] at hnd
      exact ⟨hnd.2, fun x hx c => hnd.1 (by rw [← c]; exact List.mem_map_of_mem hx)⟩
    by_cases em : m.1 = pm.2.2.2.1
    · -- it is this one
      have ef : (m :: ms).findIdx (fun x => x.1 == pm.2.2.2.1) = 0 := by rw [List.findIdx_cons]; simp [em]
      have et : (if h : (m :: ms).findIdx (fun x => x.1 == pm.2.2.2.1) < (m :: ms).length then ((m :: ms)[(m :: ms).findIdx (fun x => x.1 == pm.2.2.2.1)]).2 else vNull) = m.2 := by
        rw [dif_pos (by rw [ef]; simp)]
        simp only [ef]
        rfl
      have cm : cat (S1 aa) (q + (cstr m.1).length) m.2 := by rw [ea]; exact ⟨hl, (hw m List.mem_cons_self).2, _, s2⟩
      have c3' : r_next (S1 pb) (Int32.ofNat i) = some (Int32.ofNat (i + (cV pm.2).length)) := by rw [ep]; exact c3
      obtain ⟨S2, d1, d2, C', d3, d4, d5⟩ := hrec S1 _ (Int32.ofNat (q + (cstr m.1).length)) m.2 (i + (cV pm.2).length) hP1 (c4.fr b2 f1) q2 (by rw [frO_12 q3]; exact hr) (Or.inr ⟨_, rfl, by omega, cm⟩) (hdp m List.mem_cons_self)
      have ea2 : S2 aa = S aa := (d2.1 aa (by omega) (by omega) (by omega)).trans ea
      have ep2 : S2 pb = S pb := (d2.1 pb (by omega) (by omega) (by omega)).trans ep
      obtain ⟨S3, j1, j2, j3⟩ := pname_r (s := pm.2.2.2.1) (rr := rr) (dp := dp) (rec := rec) ha hE ms n (q + (cstr m.1).length + (cV m.2).length) S2 (D ++ (cstr m.1 ++ C')) hw.tail (fun x hx => by rw [← em]; exact hnd'.2 x hx) (hP1.fr d2) (by rw [ep2]; exact dd) (by simpa using d3) (by rw [ea2]; exact hl) (by rw [ea2]; exact hn0) (by rw [ea2]; exact u2) (by omega) (by simp only [List.length_cons] at hn; omega)
      rw [et]
      refine ⟨S3, cstr m.1, (blks true ms).flatten, C', ?_, (f1.trans d2).trans (fr3_O j3), by simpa using j2, fun U hU => by rw [frO_12 j3]; exact d4 U hU, fun hn => by rw [frO_12 j3]; exact d5 hn, fun U => ?_⟩
      · unfold b_putName_l19
        rw [if_pos rfl, hn0, o_bind, if_neg (by rw [i_le' (by omega) (by omega)]; omega), q1, o_bind, if_neg p1', p2', ea, ep, rstr_val hl cp.1 hd dd, o_bind, if_pos ((cmpS_0 _ _).mpr em), s1, o_bind, c3, o_bind, i_a1, d1, o_bind, ea2, s1, o_bind, u1, o_bind]
        exact j1
      · have e : setM (m :: ms) pm.2.2.2.1 U = (pm.2.2.2.1, U) :: ms := by
          unfold setM
          rw [ef, if_pos (by simp)]
          rfl
        rw [e, (blks_m _ _).1, em]
    · obtain ⟨S2, v1, v2, v3⟩ := ocopy (S := S1) (aa := aa) (w := cV m.2) (by omega) (cV_h (hw m List.mem_cons_self).2.1) q2 (by rw [ea]; exact hl) (by rw [ea]; exact s2)
      have ea2 : S2 aa = S aa := (v3 aa (by omega) (by omega)).trans ea
      have f2 := f1.trans (fr3_O v3)
      have ef : (m :: ms).findIdx (fun x => x.1 == pm.2.2.2.1) = ms.findIdx (fun x => x.1 == pm.2.2.2.1) + 1 := by
        rw [List.findIdx_cons, show (m.1 == pm.2.2.2.1) = false by simp [em]]; rfl
      have et : (if h : (m :: ms).findIdx (fun x => x.1 == pm.2.2.2.1) < (m :: ms).length then ((m :: ms)[(m :: ms).findIdx (fun x => x.1 == pm.2.2.2.1)]).2 else vNull) = (if h : ms.findIdx (fun x => x.1 == pm.2.2.2.1) < ms.length then (ms[ms.findIdx (fun x => x.1 == pm.2.2.2.1)]).2 else vNull) := by
        by_cases hj : ms.findIdx (fun x => x.1 == pm.2.2.2.1) < ms.length
        · rw [dif_pos hj, dif_pos (by rw [ef]; simp only [List.length_cons]; omega)]
          simp only [ef, List.getElem_cons_succ]
        · rw [dif_neg hj, dif_neg (by rw [ef]; simp only [List.length_cons]; omega)]
      obtain ⟨S', A, Z, C', j1, j2, j3, j4, j5, j6⟩ := ih n (q + (cstr m.1).length + (cV m.2).length) S2 (D ++ (cstr m.1 ++ cV m.2)) hw.tail hnd'.1 (fun x hx => hdp x (List.mem_cons_of_mem _ hx)) (hP.fr f2) (hA.fr b2 f2) (by rw [frO_12 v3, frO_12 q3]; exact hr) (by simpa using v2) (by rw [ea2]; exact hl) (by rw [ea2]; exact hn0) (by rw [ea2]; exact u2) (by omega) (by simp only [List.length_cons] at hn; omega)
      rw [et]
      refine ⟨S', cstr m.1 ++ (cV m.2 ++ A), Z, C', ?_, f2.trans j2, by simpa using j3, j4, j5, fun U => ?_⟩
      · unfold b_putName_l19
        rw [if_pos rfl, hn0, o_bind, if_neg (by rw [i_le' (by omega) (by omega)]; omega), q1, o_bind, if_neg p1', p2', ea, ep, rstr_val hl cp.1 hd dd, o_bind, if_neg (fun c => em ((cmpS_0 _ _).mp c)), s1, o_bind, v1, o_bind, ea2, s1, o_bind, u1, o_bind]
        exact j1
      · have e : setM (m :: ms) pm.2.2.2.1 U = m :: setM ms pm.2.2.2.1 U := by
          unfold setM
          rw [ef]
          by_cases hj : ms.findIdx (fun x => x.1 == pm.2.2.2.1) < ms.length
          · rw [if_pos hj, if_pos (by simp only [List.length_cons]; omega), List.set_cons_succ]
          · rw [if_neg hj, if_neg (by simp only [List.length_cons]; omega), List.cons_append]
        rw [e, (blks_m _ _).1, j6]
        simp
/-- a name of an object -/
theorem pname_6 {S : SS} {aa pb vb N dp i p : Nat} {pt vt : Vl} {m : Mb} {ls : List Mb} {C : List Int32} {v : Int} {s0 : List Int32} {l : List Mb} {rec : SS → Nat → Int32 → Int32 → Int32 → Option SS} (hP : prP S aa pb vb pt vt) (ho : OutV S C) (hr : rd S 78 12 = 0) (hA : atP S pb i N (m :: ls)) (e4 : m.2.1 = 4) (hc : cat (S aa) p (6, v, s0, ofL l)) (hp : p < 9000) (hdp : dV (6, v, s0, ofL l) + dp ≤ 60) (hrec : recO rec aa pb vb N dp pt vt ls) : ∃ S', b_putName S aa rec (Int32.ofNat p) 6 (Int32.ofNat i) (Int32.ofNat dp) = some S' ∧ rpO S S' C ((putS (ls.map fun m => m.2) ((byN (6, v, s0, ofL l) m.2.2.2.1).getD vNull) none vt).map (fun u => (6, v, s0, ofL (setM l m.2.2.2.1 u)))) dp := by
  obtain ⟨S1, at_, o1, o2, o3, o4⟩ := oopen ho 6
  have f1 := fr3_O o3
  obtain ⟨-, -, cp, -, -, -, -, b1, b2, b3⟩ := id hP
  obtain ⟨-, c2, -, -⟩ := hA.cons cp.1
  have ea : S1 aa = S aa := o3 aa (by omega) (by omega)
  obtain ⟨n1, n2, n3⟩ := hc.next
  obtain ⟨h9, hw, r, hd⟩ := id hc
  obtain ⟨k1, k2⟩ := cbox_in (Or.inr rfl) hd
  have e6 : (6 == 6) = true := rfl
  rw [e6] at k1 k2
  have hbl := blks_len true l
  have hfl := flat2 _ (blks_h (b := true) hw.kids)
  simp only [if_true] at hbl
  have hN : (byN (6, v, s0, ofL l) m.2.2.2.1).getD vNull = (if h : l.findIdx (fun x => x.1 == m.2.2.2.1) < l.length then (l[l.findIdx (fun x => x.1 == m.2.2.2.1)]).2 else vNull) := by
    unfold byN
    simp only [toL_ofL]
    by_cases hj : l.findIdx (fun x => x.1 == m.2.2.2.1) < l.length
    · rw [dif_pos hj, dif_pos hj]; rfl
    · rw [dif_neg hj, dif_neg hj]; rfl
  obtain ⟨S2, A, Z, C', z1, z2, z3, z4, z5, z6⟩ := pname_l (N := N) (E := p + (cV (6, v, s0, ofL l)).length) (p := p) (r := r) o4 (by omega) e4 hrec l 10000 (p + 2) S1 [] hw.kids hw.nod (fun x hx _ => by
    have := dV_kid (k := 6) (v := v) (s := s0) (Or.inr rfl) hx
    omega) (hP.fr f1) (hA.fr b2 f1) (by rw [frO_12 o3]; exact hr) o2 (by rw [ea]; exact h9) (by rw [ea]; exact n1) (by rw [ea]; exact k1) (by omega) (by omega)
  rw [hN]
  refine ⟨S2, ?_, rbox (k := 6) (L := fun u => setM l m.2.2.2.1 u) (Or.inr rfl) (f1.trans z2) z3 z4 z5 (fun U hU => ⟨(setM_ok hw c2.2.1.2.2.1 hU).1, (setM_ok hw c2.2.1.2.2.1 hU).2, z6 U⟩)⟩
  unfold b_putName
  rw [o1, o_bind, show Int32.ofNat p + 2 = Int32.ofNat (p + 2) from (Int32.ofNat_add p 2).symm]
  exact z1
end RPut163
