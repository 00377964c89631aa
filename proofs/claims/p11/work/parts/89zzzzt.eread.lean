section
/-! The reference reads: arrays, objects, values, the whole text. -/
section ERead186
/-- what a reader of values does -/
def RE (S : SS) (ts : List Int32) (rec : SS → Int32 → Option (SS × Int32)) (d : Int32) (pr : Nat → Option (Vl × Nat)) : Prop := ∀ k C T, k ≤ ts.length → C.length ≤ 2 * k → ek S T ts k C → (∀ t e, pr k = some (t, e) → gdE S ts (rec T d) e (C ++ cV t)) ∧ (pr k = none → bdE S (rec T d))
theorem earr_end {S T : SS} {ts : List Int32} {k n : Nat} {C body : List Int32} {rec : SS → Int32 → Option (SS × Int32)} {l1 row : Int32} (hrow : C.length ≤ 9000 → row = Int32.ofNat C.length) (hT : ek S T ts k (C ++ 5 :: 0 :: body)) : gdE S ts (e_array_l42 rec (n + 1) T l1 row 0) (k + 1) (C ++ 5 :: Int32.ofNat (body.length + 2) :: body) := by
  have hT1 := hT.w2 (k + 1)
  obtain ⟨T2, p1, p2, p3⟩ := oclose (k := 5) hT1.2.2 hrow
  unfold e_array_l42
  rw [if_pos rfl, hT.rr.2.2.1, i_a1, hT1.rr.2.2.2, if_neg (show ¬ (90 : Int32) = 0 by decide), p1, o_bind]
  exact ⟨T2, rfl, hT1.out p2 p3⟩
theorem cb2 {t : Vl} {k e : Nat} {ts : List Int32} (h : rdV ts k t e) : (cV t).length + 2 * k ≤ 2 * e + 2 := by
  have := cbound t h.1
  have := h.2.1
  omega
theorem earr_l {S : SS} {ts : List Int32} {nv d : Nat} {C : List Int32} {rec : SS → Int32 → Option (SS × Int32)} {row : Int32} (E : EK S ts) (hrec : RE S ts rec (Int32.ofNat d + 1) (pVal ts nv)) (hrow : C.length ≤ 9000 → row = Int32.ofNat C.length) : ∀ (m k : Nat) (L : List Mb) (j n : Nat) (T : SS), m + j = 5000 → j < k → k ≤ ts.length → n + j = 10000 → (C ++ 5 :: 0 :: (blks false L).flatten).length ≤ 2 * k → ek S T ts k (C ++ 5 :: 0 :: (blks false L).flatten) → (∀ l e, pEl ts (pVal ts nv) m k = some (l, e) → gdE S ts (e_array_l42 rec n T (Int32.ofNat d) row 1) e (C ++ cV (5, 0, [], ofL (L ++ l)))) ∧ (pEl ts (pVal ts nv) m k = none → bdE S (e_array_l42 rec n T (Int32.ofNat d) row 1)) := by
  have hl := E.2.2.1
  intro m
  induction m with
  | zero => intro k L j n T h1 h2 h3 _ _ _; omega
  | succ m ih =>
    intro k L j n T h1 h2 h3 h4 h5 hT
    obtain ⟨n, rfl⟩ : ∃ n', n = n' + 2 := ⟨n - 2, by omega⟩
    rw [pEl, show n + 2 = n + 1 + 1 from rfl, e_array_l42, if_neg (show ¬ (1 : Int32) = 0 by decide)]
    obtain ⟨r1, r2⟩ := hrec k _ T h3 h5 hT
    cases hv : pVal ts nv k with
    | none =>
      obtain ⟨T1, y1, y2⟩ := r2 hv
      rw [y1, o_bind]
      rw [if_pos rfl]
      exact ⟨fun l e h => (by cases h), fun _ => ⟨T1, rfl, y2⟩⟩
    | some x =>
      obtain ⟨t, e1⟩ := x
      have hrd := pVal_ok hl nv k t e1 h3 hv
      obtain ⟨a1, a2, a3⟩ := id hrd
      have cb := cb2 hrd
      obtain ⟨T1, y1, y2⟩ := r1 t e1 hv
      obtain ⟨s1, s2⟩ := skp_le ts e1
      have s2 := s2 a3
      obtain ⟨T2, z1, z2⟩ := eblanks E y2 (by omega)
      have eb : C ++ 5 :: 0 :: (blks false L).flatten ++ cV t = C ++ 5 :: 0 :: (blks false (L ++ [([], t)])).flatten := by
        rw [blks_app, List.flatten_append, (blks_m ([], t) []).2]
        simp [blks]
      rw [eb] at z2
      rw [y1, o_bind, o_bind]
      simp only
      rw [if_neg (show ¬ (1 : Int32) = 0 by decide), z1, o_bind, z2.rr.2.2.1, eat E z2 (by omega), o_bind, i_a1]
      by_cases c : atP' ts (skp ts e1) = 44
      · obtain ⟨l1, -, -⟩ := at_lt hl (by omega) c (by decide)
        obtain ⟨s3, s4⟩ := skp_le ts (skp ts e1 + 1)
        have s4 := s4 (by omega)
        obtain ⟨T3, w1, w2⟩ := eblanks E (z2.w2 (skp ts e1 + 1)) (by omega)
        rw [if_pos c, if_pos c, w1, o_bind]
        obtain ⟨i1, i2⟩ := ih (skp ts (skp ts e1 + 1)) (L ++ [([], t)]) (j + 1) (n + 1) T3 (by omega) (by omega) s4 (by omega) (by rw [← eb, List.length_append]; omega) w2
        refine ⟨fun l e h => ?_, fun h => i2 ?_⟩
        · obtain ⟨⟨l', e'⟩, q1, q2⟩ := map_some h
          cases q2
          have := i1 l' e' q1
          rw [List.append_assoc] at this
          exact this
        · cases hp : pEl ts (pVal ts nv) m (skp ts (skp ts e1 + 1)) with
          | none => rfl
          | some x => rw [hp] at h; cases h
      · rw [if_neg c, if_neg c]
        by_cases c2 : atP' ts (skp ts e1) = 93
        · rw [if_pos c2, if_pos c2]
          refine ⟨fun l e h => ?_, fun h => by cases h⟩
          cases h
          have := earr_end (rec := rec) (n := n) (l1 := Int32.ofNat d) hrow z2
          rw [cV_5]
          exact this
        · rw [if_neg c2, if_neg c2]
          exact ⟨fun l e h => (by cases h), fun _ => z2.bad (i_ne1 (by omega))⟩
theorem earr_v {S T : SS} {ts : List Int32} {nv d k : Nat} {C : List Int32} {rec : SS → Int32 → Option (SS × Int32)} (E : EK S ts) (hn : nv ≠ 0) (hrec : RE S ts rec (Int32.ofNat d + 1) (pVal ts nv)) (h : atP' ts k = 91) (hk : k ≤ ts.length) (hC : C.length ≤ 2 * k) (hT : ek S T ts k C) : (∀ t e, pVal ts (nv + 1) k = some (t, e) → gdE S ts (e_array T rec (Int32.ofNat d)) e (C ++ cV t)) ∧ (pVal ts (nv + 1) k = none → bdE S (e_array T rec (Int32.ofNat d))) := by
  have hl := E.2.2.1
  obtain ⟨lk, -, -⟩ := at_lt hl (by omega) h (by decide)
  obtain ⟨T1, row, p1, p2, p3, p4⟩ := oopen hT.2.2 5
  have hT1 := hT.out p2 p3
  obtain ⟨s1, s2⟩ := skp_le ts (k + 1)
  have s2 := s2 (by omega)
  obtain ⟨T2, z1, z2⟩ := eblanks E (hT1.w2 (k + 1)) (by omega)
  rw [pVal, if_pos h, if_neg hn]
  unfold e_array
  rw [hT.rr.2.2.2, if_neg (show ¬ (90 : Int32) = 0 by decide), p1, o_bind]
  simp only
  rw [hT1.rr.2.2.1, i_a1, z1, o_bind, z2.rr.2.2.1, eat E z2 (by omega), o_bind]
  by_cases c : atP' ts (skp ts (k + 1)) = 93
  · rw [if_pos c, if_pos c]
    refine ⟨fun t e h => ?_, fun h => by cases h⟩
    cases h
    exact earr_end (rec := rec) (n := 9999) (body := []) (l1 := Int32.ofNat d) p4 z2
  · rw [if_neg c, if_neg c]
    obtain ⟨i1, i2⟩ := earr_l (C := C) (row := row) E hrec p4 5000 (skp ts (k + 1)) [] 0 10000 T2 rfl (by omega) s2 rfl (by show (C ++ [5, 0]).length ≤ _; rw [List.length_append]; show C.length + 2 ≤ _; omega) z2
    refine ⟨fun t e h => ?_, fun h => i2 ?_⟩
    · obtain ⟨⟨l, e'⟩, q1, q2⟩ := map_some h
      cases q2
      exact i1 l e' q1
    · cases hp : pEl ts (pVal ts nv) 5000 (skp ts (k + 1)) with
      | none => rfl
      | some x => rw [hp] at h; cases h
/-- what comes behind a name -/
def eob (rec : SS → Int32 → Option (SS × Int32)) (k43 : SS → Int32 → Int32 → Int32 → Option (SS × Int32)) (S : SS) (l1 l2 : Int32) : Option (SS × Int32) := ((e_blanks S).bind fun r23 => ((e_at r23 (rd r23 96 2)).bind fun r25 => (if r25 = (58 : Int32) then ((e_blanks (wr r23 96 2 ((rd r23 96 2) + 1))).bind fun r29 => ((rec r29 (l1 + 1)).bind fun r31 => (if r31.2 = 0 then some (r31.1, 0) else ((e_blanks r31.1).bind fun r34 => ((e_at r34 (rd r34 96 2)).bind fun r36 => (if r36 = (44 : Int32) then ((e_blanks (wr r34 96 2 ((rd r34 96 2) + 1))).bind fun r41 => k43 r41 l1 l2 1) else (if r36 = (125 : Int32) then k43 r34 l1 l2 0 else ((e_fail r34 (rd r34 96 2)).bind fun r46 => some (r46.1, r46.2 &&& 1))))))))) else ((e_fail r23 (rd r23 96 2)).bind fun r48 => some (r48.1, r48.2 &&& 1)))))
theorem eob_l {rec : SS → Int32 → Option (SS × Int32)} {k43 : SS → Int32 → Int32 → Int32 → Option (SS × Int32)} {T : SS} {l1 l2 l4 : Int32} {s r : List Int32} {nm : Nat} (h4 : rd T 96 4 = 90) (h9 : (T 91).length ≤ 9000) (hnm : (T 91).drop nm = cstr s ++ r) (hn9 : nm ≤ 9000) : ∀ (L : List Mb) (n q : Nat), okL L → (T 91).drop q = (blks true L).flatten ++ (cstr s ++ r) → q + (blks true L).flatten.length = nm → L.length < n → e_object_l98 rec k43 n T l1 l2 l4 (Int32.ofNat nm) (Int32.ofNat q) = if s ∈ L.map (fun m => m.1) then ((e_fail T l4).bind fun r54 => some (r54.1, r54.2 &&& 1)) else eob rec k43 T l1 l2 := by
  intro L
  induction L with
  | nil =>
    intro n q _ hd hq hn
    obtain ⟨n, rfl⟩ : ∃ n', n = n' + 1 := ⟨n - 1, by simp at hn; omega⟩
    have hq : q = nm := by simpa [blks] using hq
    rw [e_object_l98, if_pos ((i_le' (by omega) (by omega)).mpr (by omega)), if_neg (show ¬ s ∈ ([] : List Mb).map (fun m => m.1) by simp)]
    rfl
  | cons m L ih =>
    intro n q hok hd hq hn
    obtain ⟨n, rfl⟩ : ∃ n', n = n' + 1 := ⟨n - 1, by omega⟩
    have hm := hok m List.mem_cons_self
    rw [(blks_m m L).1] at hd hq
    simp only [List.length_append] at hq
    have hd1 : (T 91).drop q = cstr m.1 ++ (cV m.2 ++ ((blks true L).flatten ++ (cstr s ++ r))) := by rw [hd]; simp only [List.append_assoc]
    have c1 := (cstr_hdd m.1).len
    rw [e_object_l98, if_neg (by rw [i_le' (by omega) (by omega)]; omega), h4, if_neg (show ¬ (90 : Int32) = 0 by decide), rstr_val h9 h9 hd1 hnm, o_bind]
    by_cases c : m.1 = s
    · rw [if_pos ((cmpS_0 _ _).mpr c), if_pos (by rw [List.map_cons, c]; exact List.mem_cons_self)]
    · have hd2 := drop_more hd1
      have hd3 := drop_more hd2
      obtain ⟨x1, x2⟩ := rnext_at h9 (cstr_hdd m.1) hd1
      obtain ⟨x3, x4⟩ := rnext_at h9 (cV_h hm.2.1) hd2
      rw [if_neg (fun x => c ((cmpS_0 _ _).mp x)), x1, o_bind, x3, o_bind, ih n _ hok.tail hd3 (by omega) (by simp at hn; omega)]
      by_cases c2 : s ∈ L.map (fun m => m.1)
      · rw [if_pos c2, if_pos (by rw [List.map_cons]; exact List.mem_cons_of_mem _ c2)]
      · rw [if_neg c2, if_neg (by
          rw [List.map_cons]
          intro x
          rcases List.mem_cons.mp x with y | y
          · exact c y.symm
          · exact c2 y)]
theorem eobj_end {S T : SS} {ts : List Int32} {k n : Nat} {C body : List Int32} {rec : SS → Int32 → Option (SS × Int32)} {l1 row : Int32} (hrow : C.length ≤ 9000 → row = Int32.ofNat C.length) (hT : ek S T ts k (C ++ 6 :: 0 :: body)) : gdE S ts (e_object_l43 rec (n + 1) T l1 row 0) (k + 1) (C ++ 6 :: Int32.ofNat (body.length + 2) :: body) := by
  have hT1 := hT.w2 (k + 1)
  obtain ⟨T2, p1, p2, p3⟩ := oclose (k := 6) hT1.2.2 hrow
  rw [e_object_l43, if_pos rfl, hT.rr.2.2.1, i_a1, hT1.rr.2.2.2, if_neg (show ¬ (90 : Int32) = 0 by decide), p1, o_bind]
  exact ⟨T2, rfl, hT1.out p2 p3⟩
theorem cstr_len (s : List Int32) : (cstr s).length = s.length + 2 := rfl
theorem eobj_l {S : SS} {ts : List Int32} {nv d : Nat} {C : List Int32} {rec : SS → Int32 → Option (SS × Int32)} {row : Int32} (E : EK S ts) (hrec : RE S ts rec (Int32.ofNat d + 1) (pVal ts nv)) (hrow : C.length ≤ 9000 → row = Int32.ofNat C.length) : ∀ (m k : Nat) (L : List Mb) (j n : Nat) (T : SS), m + j = 5000 → j < k → k ≤ ts.length → n + j = 10000 → okL L → (C ++ 6 :: 0 :: (blks true L).flatten).length ≤ 2 * k → ek S T ts k (C ++ 6 :: 0 :: (blks true L).flatten) → (∀ l e, pMe ts (pVal ts nv) m (L.map fun m => m.1) k = some (l, e) → gdE S ts (e_object_l43 rec n T (Int32.ofNat d) row 1) e (C ++ cV (6, 0, [], ofL (L ++ l)))) ∧ (pMe ts (pVal ts nv) m (L.map fun m => m.1) k = none → bdE S (e_object_l43 rec n T (Int32.ofNat d) row 1)) := by
  have hl := E.2.2.1
  intro m
  induction m with
  | zero => intro k L j n T h1 h2 h3 _ _ _ _; omega
  | succ m ih =>
    intro k L j n T h1 h2 h3 h4 hL h5 hT
    obtain ⟨n, rfl⟩ : ∃ n', n = n' + 2 := ⟨n - 2, by omega⟩
    rw [pMe, show n + 2 = n + 1 + 1 from rfl, e_object_l43, if_neg (show ¬ (1 : Int32) = 0 by decide), hT.rr.2.2.2, if_neg (show ¬ (90 : Int32) = 0 by decide), hT.rr.2.2.1, eat E hT (by omega), o_bind]
    by_cases h34 : atP' ts k = 34
    rotate_left
    · rw [if_neg h34, if_neg h34]
      exact ⟨fun l e h => (by cases h), fun _ => hT.bad (i_ne1 (by omega))⟩
    obtain ⟨l34, -, -⟩ := at_lt hl (by omega) h34 (by decide)
    rw [if_pos h34, if_pos h34]
    obtain ⟨st1, st2⟩ := estring_v E hT l34
    cases hs : pStr ts 5000 (k + 1) with
    | none =>
      obtain ⟨T1, y1, y2⟩ := st2 hs
      rw [y1, o_bind]
      rw [if_pos rfl]
      exact ⟨fun l e h => (by cases h), fun _ => ⟨T1, rfl, y2⟩⟩
    | some sx =>
      obtain ⟨s, e0⟩ := sx
      obtain ⟨c1, c2, c3⟩ := pStr_ok hl 5000 (k + 1) s e0 (by omega) hs
      have fl := flat_len c1
      obtain ⟨T1, y1, y2⟩ := st1 s e0 hs
      have hCl : (C ++ 6 :: 0 :: (blks true L).flatten).length ≤ 9000 := by omega
      have e90 : rd T 90 1 = Int32.ofNat (C ++ 6 :: 0 :: (blks true L).flatten).length := (hT.2.2.2.2.1 hCl).2.1
      have hrow' : row = Int32.ofNat C.length := hrow (by rw [List.length_append] at hCl; omega)
      have hC2 : (C ++ 6 :: 0 :: (blks true L).flatten ++ cstr s).length ≤ 9000 := by
        rw [List.length_append, cstr_len]
        omega
      obtain ⟨⟨r, e91⟩, -, -⟩ := y2.2.2.2.2.1 hC2
      have hnm : (T1 91).drop (C ++ 6 :: 0 :: (blks true L).flatten).length = cstr s ++ r := by
        rw [e91, List.append_assoc, List.drop_left]
      have hq : (T1 91).drop (C.length + 2) = (blks true L).flatten ++ (cstr s ++ r) := by
        rw [e91, show C ++ 6 :: 0 :: (blks true L).flatten ++ cstr s ++ r = (C ++ [6, 0]) ++ ((blks true L).flatten ++ (cstr s ++ r)) by simp, show C.length + 2 = (C ++ [6, 0]).length by simp, List.drop_left]
      have hbl : L.length ≤ (blks true L).flatten.length := by
        have x1 := flat2 _ (blks_h (b := true) hL)
        have x2 := blks_len true L
        simp only [if_true] at x2
        omega
      have lC : (C ++ 6 :: 0 :: (blks true L).flatten).length = C.length + 2 + (blks true L).flatten.length := by simp; omega
      have ob := eob_l (rec := rec) (k43 := e_object_l43 rec (n + 1)) (l1 := Int32.ofNat d) (l2 := row) (l4 := Int32.ofNat k) y2.rr.2.2.2 (by rw [y2.2.2.1]; omega) hnm hCl L 10000 (C.length + 2) hL hq (by omega) (by omega)
      have i2' : row + 2 = Int32.ofNat (C.length + 2) := by rw [hrow']; exact (Int32.ofNat_add C.length 2).symm
      rw [y1, o_bind, o_bind]
      simp only
      rw [if_neg (show ¬ (1 : Int32) = 0 by decide), e90, i2', ob]
      by_cases hn : s ∈ L.map fun m => m.1
      · rw [if_pos hn, if_pos hn]
        exact ⟨fun l e h => (by cases h), fun _ => y2.bad (i_ne1 (by omega))⟩
      rw [if_neg hn, if_neg hn]
      unfold eob
      obtain ⟨u1, u2⟩ := skp_le ts e0
      have u2 := u2 c3
      obtain ⟨T2, z1, z2⟩ := eblanks E y2 (by omega)
      rw [z1, o_bind, z2.rr.2.2.1, eat E z2 (by omega), o_bind, i_a1]
      by_cases h58 : atP' ts (skp ts e0) = 58
      rotate_left
      · rw [if_neg h58, if_neg h58]
        exact ⟨fun l e h => (by cases h), fun _ => z2.bad (i_ne1 (by omega))⟩
      rw [if_pos h58, if_pos h58]
      obtain ⟨l58, -, -⟩ := at_lt hl (by omega) h58 (by decide)
      obtain ⟨u3, u4⟩ := skp_le ts (skp ts e0 + 1)
      have u4 := u4 (by omega)
      obtain ⟨T3, w1, w2⟩ := eblanks E (z2.w2 (skp ts e0 + 1)) (by omega)
      rw [w1, o_bind]
      obtain ⟨r1, r2⟩ := hrec _ _ T3 u4 (by rw [List.length_append, cstr_len]; omega) w2
      cases hv : pVal ts nv (skp ts (skp ts e0 + 1)) with
      | none =>
        obtain ⟨T4, y3, y4⟩ := r2 hv
        rw [y3, o_bind]
        rw [if_pos rfl]
        exact ⟨fun l e h => (by cases h), fun _ => ⟨T4, rfl, y4⟩⟩
      | some x =>
        obtain ⟨t, e1⟩ := x
        have hrd := pVal_ok hl nv _ t e1 u4 hv
        obtain ⟨a1, a2, a3⟩ := id hrd
        have cb := cb2 hrd
        obtain ⟨T4, y3, y4⟩ := r1 t e1 hv
        obtain ⟨s1, s2⟩ := skp_le ts e1
        have s2 := s2 a3
        obtain ⟨T5, z3, z4⟩ := eblanks E y4 (by omega)
        have eb : C ++ 6 :: 0 :: (blks true L).flatten ++ cstr s ++ cV t = C ++ 6 :: 0 :: (blks true (L ++ [(s, t)])).flatten := by
          rw [blks_app, List.flatten_append, (blks_m (s, t) []).1]
          simp [blks]
        have lb : (C ++ 6 :: 0 :: (blks true (L ++ [(s, t)])).flatten).length = (C ++ 6 :: 0 :: (blks true L).flatten).length + (s.length + 2) + (cV t).length := by
          rw [← eb, List.length_append, List.length_append, cstr_len]
        rw [eb] at z4
        rw [y3, o_bind, o_bind]
        simp only
        rw [if_neg (show ¬ (1 : Int32) = 0 by decide), z3, o_bind, z4.rr.2.2.1, eat E z4 (by omega), o_bind, i_a1]
        have hL' : okL (L ++ [(s, t)]) := fun x hx => by
          rcases List.mem_append.mp hx with y | y
          · exact hL x y
          · rw [List.mem_singleton.mp y]; exact ⟨c1, a1⟩
        by_cases c : atP' ts (skp ts e1) = 44
        · obtain ⟨l1, -, -⟩ := at_lt hl (by omega) c (by decide)
          obtain ⟨s3, s4⟩ := skp_le ts (skp ts e1 + 1)
          have s4 := s4 (by omega)
          obtain ⟨T6, w3, w4⟩ := eblanks E (z4.w2 (skp ts e1 + 1)) (by omega)
          have eN : (L.map fun m => m.1) ++ [s] = (L ++ [(s, t)]).map fun m => m.1 := by
            rw [List.map_append]
            rfl
          rw [if_pos c, if_pos c, w3, o_bind, eN]
          obtain ⟨i1, i2⟩ := ih (skp ts (skp ts e1 + 1)) (L ++ [(s, t)]) (j + 1) (n + 1) T6 (by omega) (by omega) s4 (by omega) hL' (by omega) w4
          refine ⟨fun l e h => ?_, fun h => i2 ?_⟩
          · obtain ⟨⟨l', e'⟩, q1, q2⟩ := map_some h
            cases q2
            have := i1 l' e' q1
            rw [List.append_assoc] at this
            exact this
          · cases hp : pMe ts (pVal ts nv) m ((L ++ [(s, t)]).map fun m => m.1) (skp ts (skp ts e1 + 1)) with
            | none => rfl
            | some x => rw [hp] at h; cases h
        · rw [if_neg c, if_neg c]
          by_cases c2 : atP' ts (skp ts e1) = 125
          · rw [if_pos c2, if_pos c2]
            refine ⟨fun l e h => ?_, fun h => by cases h⟩
            cases h
            have := eobj_end (rec := rec) (n := n) (l1 := Int32.ofNat d) hrow z4
            rw [cV_6]
            exact this
          · rw [if_neg c2, if_neg c2]
            exact ⟨fun l e h => (by cases h), fun _ => z4.bad (i_ne1 (by omega))⟩
theorem eobj_v {S T : SS} {ts : List Int32} {nv d k : Nat} {C : List Int32} {rec : SS → Int32 → Option (SS × Int32)} (E : EK S ts) (hn : nv ≠ 0) (hrec : RE S ts rec (Int32.ofNat d + 1) (pVal ts nv)) (h : atP' ts k = 123) (hk : k ≤ ts.length) (hC : C.length ≤ 2 * k) (hT : ek S T ts k C) : (∀ t e, pVal ts (nv + 1) k = some (t, e) → gdE S ts (e_object T rec (Int32.ofNat d)) e (C ++ cV t)) ∧ (pVal ts (nv + 1) k = none → bdE S (e_object T rec (Int32.ofNat d))) := by
  have hl := E.2.2.1
  obtain ⟨lk, -, -⟩ := at_lt hl (by omega) h (by decide)
  obtain ⟨T1, row, p1, p2, p3, p4⟩ := oopen hT.2.2 6
  have hT1 := hT.out p2 p3
  obtain ⟨s1, s2⟩ := skp_le ts (k + 1)
  have s2 := s2 (by omega)
  obtain ⟨T2, z1, z2⟩ := eblanks E (hT1.w2 (k + 1)) (by omega)
  rw [pVal, if_neg (by rw [h]; decide), if_pos h, if_neg hn]
  unfold e_object
  rw [hT.rr.2.2.2, if_neg (show ¬ (90 : Int32) = 0 by decide), p1, o_bind]
  simp only
  rw [hT1.rr.2.2.1, i_a1, z1, o_bind, z2.rr.2.2.1, eat E z2 (by omega), o_bind]
  by_cases c : atP' ts (skp ts (k + 1)) = 125
  · rw [if_pos c, if_pos c]
    refine ⟨fun t e h => ?_, fun h => by cases h⟩
    cases h
    exact eobj_end (rec := rec) (n := 9999) (body := []) (l1 := Int32.ofNat d) p4 z2
  · rw [if_neg c, if_neg c]
    obtain ⟨i1, i2⟩ := eobj_l (C := C) (row := row) E hrec p4 5000 (skp ts (k + 1)) [] 0 10000 T2 rfl (by omega) s2 rfl (fun m hm => by cases hm) (by show (C ++ [6, 0]).length ≤ _; rw [List.length_append]; show C.length + 2 ≤ _; omega) z2
    refine ⟨fun t e h => ?_, fun h => i2 ?_⟩
    · obtain ⟨⟨l, e'⟩, q1, q2⟩ := map_some h
      cases q2
      exact i1 l e' q1
    · cases hp : pMe ts (pVal ts nv) 5000 [] (skp ts (k + 1)) with
      | none => exact hp
      | some x => rw [hp] at h; cases h
/-- a call's answer, handed on -/
theorem gd1 {S : SS} {ts : List Int32} {r : Option (SS × Int32)} {e : Nat} {C : List Int32} (h : gdE S ts r e C) : gdE S ts (r.bind fun x => some (x.1, x.2 &&& 1)) e C := by
  obtain ⟨T, h1, h2⟩ := h
  rw [h1, o_bind]
  refine ⟨T, ?_, h2⟩
  show some (T, (1 : Int32) &&& 1) = _
  rw [show (1 : Int32) &&& 1 = 1 from by decide]
theorem bd1 {S : SS} {r : Option (SS × Int32)} (h : bdE S r) : bdE S (r.bind fun x => some (x.1, x.2 &&& 1)) := by
  obtain ⟨T, h1, h2⟩ := h
  rw [h1, o_bind]
  refine ⟨T, ?_, h2⟩
  show some (T, (0 : Int32) &&& 1) = _
  rw [show (0 : Int32) &&& 1 = 0 from by decide]
theorem eval_B {S : SS} {nv d : Nat} {ts : List Int32} {rec : SS → Int32 → Option (SS × Int32)} (E : EK S ts) (hd : nv + d = 40) (hrec : nv ≠ 0 → RE S ts rec (Int32.ofNat d + 1) (pVal ts nv)) : RE S ts (fun T p => e_valueB T rec p) (Int32.ofNat d) (pVal ts (nv + 1)) := by
  have hl := E.2.2.1
  intro k C T hk hC hT
  show (∀ t e, _ → gdE S ts (e_valueB T rec (Int32.ofNat d)) _ _) ∧ (_ → bdE S (e_valueB T rec (Int32.ofNat d)))
  have g40 : (40 : Int32) ≤ Int32.ofNat d ↔ 40 ≤ d := by rw [show (40 : Int32) = Int32.ofNat 40 from rfl, i_le' (by omega) (by omega)]
  have lit : ∀ (bs : List Int32) (t0 : Vl) (kd : Int32), bs.length ≤ 100 → (∀ u ∈ bs, u ≠ -1) → cV t0 = [kd, 2] → (∀ t e, ((pLit ts bs k).map fun e => (t0, e)) = some (t, e) → gdE S ts ((e_word T bs kd).bind fun x => some (x.1, x.2 &&& 1)) e (C ++ cV t)) ∧ (((pLit ts bs k).map fun e => (t0, e)) = none → bdE S ((e_word T bs kd).bind fun x => some (x.1, x.2 &&& 1))) := by
    intro bs t0 kd y1 y2 y4
    obtain ⟨q1, q2⟩ := eword_v (kd := kd) E hT hk y1 y2
    refine ⟨fun t e h => ?_, fun h => bd1 (q2 ?_)⟩
    · obtain ⟨e', x1, x2⟩ := map_some h
      cases x2
      rw [y4]
      exact gd1 (q1 e x1)
    · cases hp : pLit ts bs k with
      | none => rfl
      | some x => rw [hp] at h; cases h
  unfold e_valueB
  rw [hT.rr.2.2.1, eat E hT (by omega), o_bind]
  by_cases h110 : atP' ts k = 110
  · rw [if_pos h110, pVal, if_neg (by rw [h110]; decide), if_neg (by rw [h110]; decide), if_neg (by rw [h110]; decide), if_pos h110]
    exact lit k19 vNull 0 (by decide) (by decide) rfl
  rw [if_neg h110]
  by_cases h102 : atP' ts k = 102
  · rw [if_pos h102, pVal, if_neg (by rw [h102]; decide), if_neg (by rw [h102]; decide), if_neg (by rw [h102]; decide), if_neg h110, if_pos h102]
    exact lit k21 (1, 0, [], .leaf) 1 (by decide) (by decide) rfl
  rw [if_neg h102]
  by_cases h116 : atP' ts k = 116
  · rw [if_pos h116, pVal, if_neg (by rw [h116]; decide), if_neg (by rw [h116]; decide), if_neg (by rw [h116]; decide), if_neg h110, if_neg h102, if_pos h116]
    exact lit k23 (2, 0, [], .leaf) 2 (by decide) (by decide) rfl
  rw [if_neg h116]
  by_cases h34 : atP' ts k = 34
  · obtain ⟨l34, -, -⟩ := at_lt hl (by omega) h34 (by decide)
    rw [if_pos h34, pVal, if_neg (by rw [h34]; decide), if_neg (by rw [h34]; decide), if_pos h34]
    obtain ⟨q1, q2⟩ := estring_v E hT l34
    refine ⟨fun t e h => ?_, fun h => bd1 (q2 ?_)⟩
    · obtain ⟨⟨s, e'⟩, x1, x2⟩ := map_some h
      cases x2
      exact gd1 (q1 s e' x1)
    · cases hp : pStr ts 5000 (k + 1) with
      | none => rfl
      | some x => rw [hp] at h; cases h
  rw [if_neg h34]
  by_cases h91 : atP' ts k = 91
  · rw [if_pos h91]
    by_cases hn : nv = 0
    · rw [if_pos (g40.mpr (by omega)), pVal, if_pos h91, if_pos hn]
      exact ⟨fun t e h => (by cases h), fun _ => hT.bad (i_ne1 (by omega))⟩
    · rw [if_neg (by rw [g40]; omega)]
      obtain ⟨q1, q2⟩ := earr_v E hn (hrec hn) h91 hk hC hT
      exact ⟨fun t e h => gd1 (q1 t e h), fun h => bd1 (q2 h)⟩
  rw [if_neg h91]
  by_cases h123 : atP' ts k = 123
  · rw [if_pos h123]
    by_cases hn : nv = 0
    · rw [if_pos (g40.mpr (by omega)), pVal, if_neg h91, if_pos h123, if_pos hn]
      exact ⟨fun t e h => (by cases h), fun _ => hT.bad (i_ne1 (by omega))⟩
    · rw [if_neg (by rw [g40]; omega)]
      obtain ⟨q1, q2⟩ := eobj_v E hn (hrec hn) h123 hk hC hT
      exact ⟨fun t e h => gd1 (q1 t e h), fun h => bd1 (q2 h)⟩
  rw [if_neg h123, pVal, if_neg h91, if_neg h123, if_neg h34, if_neg h110, if_neg h102, if_neg h116]
  obtain ⟨q1, q2⟩ := enum_v E hT hk
  refine ⟨fun t e h => ?_, fun h => bd1 (q2 ?_)⟩
  · obtain ⟨⟨s, e'⟩, x1, x2⟩ := map_some h
    cases x2
    exact gd1 (q1 s e' x1)
  · cases hp : pNum ts k with
    | none => rfl
    | some x => rw [hp] at h; cases h
theorem eval_v {S : SS} {ts : List Int32} (E : EK S ts) : ∀ (nv d m : Nat), nv + d = 40 → nv ≤ m → RE S ts (e_value (m + 1)) (Int32.ofNat d) (pVal ts (nv + 1)) := by
  intro nv
  induction nv with
  | zero =>
    intro d m hd _
    exact eval_B (rec := e_value m) E hd (fun c => absurd rfl c)
  | succ nv ih =>
    intro d m hd hm
    obtain ⟨m, rfl⟩ : ∃ m', m = m' + 1 := ⟨m - 1, by omega⟩
    refine eval_B (rec := e_value (m + 1)) E hd (fun _ => ?_)
    rw [i_a1]
    exact ih (d + 1) m (by omega) (by omega)
theorem eread_v {S : SS} {ts : List Int32} (E : EK S ts) (h96 : (S 96).length = 5) (ho : OutV S []) : (∀ t, pAll ts = some t → ∃ T, e_read S 79 (Int32.ofNat ts.length) = some (T, -1) ∧ frE S T ∧ OutV T (cV t)) ∧ (pAll ts = none → ∃ T f, e_read S 79 (Int32.ofNat ts.length) = some (T, f) ∧ f ≠ -1 ∧ frE S T ∧ (T 91).length = 9000) := by
  have hl := E.2.2.1
  obtain ⟨S0, hS0⟩ : ∃ S0, S0 = wr (wr (wr (wr (wr S 96 0 (Int32.ofNat 79)) 96 1 (Int32.ofNat ts.length)) 96 2 0) 96 4 90) 96 3 (-1) := ⟨_, rfl⟩
  have hk0 : ek S S0 ts 0 [] := by
    refine ⟨fun a h1 h2 h3 => by rw [hS0, wr_ne h1, wr_ne h1, wr_ne h1, wr_ne h1, wr_ne h1], ?_, ho.same (by rw [hS0, wr_ne (by decide), wr_ne (by decide), wr_ne (by decide), wr_ne (by decide), wr_ne (by decide)]) (by rw [hS0, wr_ne (by decide), wr_ne (by decide), wr_ne (by decide), wr_ne (by decide), wr_ne (by decide)])⟩
    obtain ⟨a, b, c, d, e, hS⟩ : ∃ a b c d e, S 96 = [a, b, c, d, e] := by
      match hS : S 96, h96 with
      | [a, b, c, d, e], _ => exact ⟨a, b, c, d, e, rfl⟩
    rw [hS0]
    unfold wr
    simp only [up_same, hS]
    rfl
  obtain ⟨s1, s2⟩ := skp_le ts 0
  have s2 := s2 (by omega)
  obtain ⟨T1, z1, z2⟩ := eblanks E hk0 (by omega)
  obtain ⟨r1, r2⟩ := eval_v E 40 0 63 rfl (by decide) (skp ts 0) [] T1 s2 (by simp) z2
  unfold e_read pAll
  rw [← hS0, z1, o_bind]
  cases hv : pVal ts 41 (skp ts 0) with
  | none =>
    refine ⟨fun t h => (by cases h), fun _ => ?_⟩
    obtain ⟨T2, y1, y2, y3, y4⟩ := r2 hv
    have y1 : e_value 64 T1 0 = some (T2, 0) := y1
    rw [y1, o_bind]
    rw [if_pos rfl]
    exact ⟨T2, _, rfl, y3, y2, y4⟩
  | some x =>
    obtain ⟨t, e⟩ := x
    obtain ⟨a1, a2, a3⟩ := pVal_ok hl 41 _ t e s2 hv
    obtain ⟨T2, y1, y2⟩ := r1 t e hv
    have y1 : e_value 64 T1 0 = some (T2, 1) := y1
    have m1 := (skp_le ts e).2 a3
    obtain ⟨T3, w1, w2⟩ := eblanks E y2 (by omega)
    have w3 : rd T3 96 3 = -1 := by unfold rd; rw [w2.2.1]; rfl
    rw [y1, o_bind, o_bind]
    simp only
    rw [if_neg (show ¬ (1 : Int32) = 0 by decide), w1, o_bind, w2.rr.2.1, w2.rr.2.2.1]
    by_cases c : ts.length ≤ skp ts e
    · rw [if_pos c, if_pos ((i_le' (by omega) (by omega)).mpr c), w3]
      refine ⟨fun t' h => ?_, fun h => by cases h⟩
      cases h
      exact ⟨T3, rfl, w2.1, w2.2.2⟩
    · rw [if_neg c, if_neg (by rw [i_le' (by omega) (by omega)]; exact c)]
      refine ⟨fun t h => (by cases h), fun _ => ⟨_, _, rfl, ?_, fun a h1 h2 h3 => by rw [wr_ne h1]; exact w2.1 a h1 h2 h3, by rw [wr_ne (by decide)]; exact w2.2.2.1⟩⟩
      rw [rd_wr (by rw [w2.2.1]; show 3 < 5; decide)]
      exact i_ne1 (by omega)
end ERead186
end

section
/-! The call read. -/
section Read187
theorem nm_ne {a b : Nat} {l : List Nat} (h : a ∉ l) (hb : b ∈ l) : a ≠ b := fun e => h (e ▸ hb)
theorem fits_val2 {S : SS} {t : Vl} (hw : wV t) (ho : OutV S (cV t)) (h80 : (S 80).length = 9000) : ∃ S', b_fits S = some (S', if good t then 1 else 0) ∧ (∀ a, a ≠ 80 → a ≠ 94 → S' a = S a) ∧ (S' 80).length = 9000 ∧ (good t → S' 94 = pv (bV t)) := by
  obtain ⟨o1, o2, o3, o4⟩ := ho
  have cb := cbound t hw
  unfold b_fits
  by_cases hc : (cV t).length ≤ 9000
  · obtain ⟨⟨j, p1⟩, p2, p3⟩ := o3 hc
    rw [if_pos p3]
    have hs : stk S ([] ++ []) := ⟨h80, by decide, (fun z hz => by cases hz), S 80, rfl⟩
    obtain ⟨f1, f2⟩ := PV_all (N := (cV t).length) t hw 10000 0 S [] [] j hs (fun x hx => by cases hx) (fun e he => by cases he) (by rw [List.drop_zero]; exact p1) (by omega) p2 (by omega) hc (by omega) (by decide)
    simp only [List.length_nil, Nat.zero_add] at f1 f2
    by_cases hd : dV t ≤ 60
    · obtain ⟨n', S', X', g1, g2, g3, g4, g5⟩ := f1 hd
      obtain ⟨n', rfl⟩ : ∃ k, n' = k + 1 := ⟨n' - 1, by omega⟩
      have g1 : b_fits_l16 10000 S 0 0 = b_fits_l16 (n' + 1) S' (Int32.ofNat (X' ++ []).length) (Int32.ofNat (cV t).length) := g1
      rw [g1]
      have r90 : rd S' 90 1 = Int32.ofNat (cV t).length := by unfold rd; rw [g5 90 (by decide)]; exact p2
      have ev := value_pv t hw 64 (by omega) S' 94 91 0 [] j (by decide) (by rw [g5 91 (by decide)]; omega) (by rw [g5 91 (by decide), List.drop_zero]; exact p1)
      rw [List.nil_append] at ev
      have ev : w_value 64 (up S' 94 [0]) 94 91 0 = some (up S' 94 (pv (bV t))) := ev
      show ∃ S'_1, (if rd S' 90 1 ≤ Int32.ofNat (cV t).length then _ else _) = _ ∧ _
      rw [r90, if_pos ((i_le' (by omega) (by omega)).mpr (Nat.le_refl _)), ev, o_bind, (pv_T S' 94 (bV t)).2]
      refine ⟨up S' 94 (pv (bV t)), ?_, fun a n1 n2 => by rw [up_ne n2, g5 a n1], by rw [up_ne (by decide)]; exact g2.1, fun _ => up_same⟩
      by_cases hb : (bV t).length ≤ 4096
      · rw [if_pos hb, if_pos rfl, if_pos ⟨hb, hd⟩]
      · rw [if_neg hb, if_neg (by decide), if_neg (fun e => hb e.1)]
    · obtain ⟨S', g1, g2, g3⟩ := f2 (by omega)
      exact ⟨S', by rw [if_neg (fun e => hd e.2)]; exact g1, fun a n1 _ => g2 a n1, g3, fun c => absurd c.2 hd⟩
  · rw [o4 (by omega), if_neg (by decide), if_neg (fun e => by have := e.1; omega)]
    exact ⟨S, rfl, fun _ _ _ => rfl, h80, fun c => by have := c.1; omega⟩
/-- the reference's read -/
theorem bread_v {T0 : SS} {tape : List Int32} {n0 : Nat} (hn0 : n0 < 8) (l78 : (T0 78).length = 22) (l90 : (T0 90).length = 3) (l91 : (T0 91).length = 9000) (l96 : (T0 96).length = 5) (l80 : (T0 80).length = 9000) (l82 : (T0 (82 + n0)).length = 9000) (E0 : EK T0 tape) (h1 : rd T0 78 1 = Int32.ofNat tape.length) :
    (pAll tape = none → ∃ W v, b_read T0 (Int32.ofNat n0) = some (W, v) ∧ rd W 78 0 = 2 ∧ rd W 78 1 = 0 ∧ (W 91).length = 9000 ∧ ∀ a, a ∉ [78, 90, 91, 96] → W a = T0 a) ∧
    (∀ t, pAll tape = some t → wV t → (good t → ∃ W, b_read T0 (Int32.ofNat n0) = some (W, Int32.ofNat (bV t).length) ∧ rd W 78 0 = 0 ∧ rd W 78 1 = 0 ∧ (W 91).length = 9000 ∧ (W 80).length = 9000 ∧ (W (82 + n0)).length = 9000 ∧ (∃ j, W (82 + n0) = cV t ++ j) ∧ ∀ a, a ∉ [78, 80, 90, 91, 94, 96] → a ≠ 82 + n0 → W a = T0 a) ∧ (¬ good t → ∃ W v, b_read T0 (Int32.ofNat n0) = some (W, v) ∧ rd W 78 0 = 3 ∧ rd W 78 1 = 0 ∧ (W 91).length = 9000 ∧ (W 80).length = 9000 ∧ ∀ a, a ∉ [78, 80, 90, 91, 94, 96] → W a = T0 a)) := by
  obtain ⟨T1, b1, b2, b3, b4, b5, b6, b7⟩ := begin_val l78 l90 l91
  have hno : b_none T1 (Int32.ofNat n0) = some 0 := by
    have : ¬ Int32.ofNat n0 < 0 ∧ Int32.ofNat n0 < 8 := ⟨i_nn (by omega), by rw [show (8 : Int32) = Int32.ofNat 8 from rfl, i_lt' (by omega) (by omega)]; exact hn0⟩
    exact (reg_ok T1 this).2.1
  obtain ⟨S1, hS1⟩ : ∃ S1, S1 = wr T1 78 1 0 := ⟨_, rfl⟩
  have f1 : ∀ a, a ≠ 78 → a ≠ 90 → S1 a = T0 a := fun a x1 x2 => by rw [hS1, wr_ne x1, b2 a x1 x2]
  have E1 : EK S1 tape := by
    unfold EK
    rw [f1 79 (by decide) (by decide)]
    exact E0
  have o1 : OutV S1 [] := b7.same (by rw [hS1, wr_ne (by decide)]) (by rw [hS1, wr_ne (by decide)])
  have s78 : (S1 78).length = 22 := by rw [hS1, wr_len]; exact b6
  have s0 : rd S1 78 0 = 0 := by rw [hS1, rd_wr_j (by decide)]; exact b4
  have s1 : rd S1 78 1 = 0 := by rw [hS1, rd_wr (by rw [b6]; decide)]
  obtain ⟨x1, x2⟩ := eread_v E1 (by rw [f1 96 (by decide) (by decide)]; exact l96) o1
  have rl : rd T1 78 1 = Int32.ofNat tape.length := by rw [b3 1 (by decide) (by decide)]; exact h1
  refine ⟨fun hp => ?_, fun t hp hw => ?_⟩
  · obtain ⟨T, f, y1, y2, y3, y4⟩ := x2 hp
    have t78 : (T 78).length = 22 := by rw [y3 78 (by decide) (by decide) (by decide)]; exact s78
    refine ⟨wr (wr T 78 3 f) 78 0 2, 0, ?_, rd_wr (by rw [wr_len, t78]; decide), ?_, by rw [wr_ne (by decide), wr_ne (by decide)]; exact y4, fun a ha => ?_⟩
    · unfold b_read
      rw [b1, o_bind, hno, o_bind, if_pos rfl, rl, ← hS1, y1, o_bind]
      simp only
      rw [rd_wr (by rw [t78]; decide), if_neg y2]
      unfold b_fail
      rw [o_bind]
    · rw [rd_wr_j (by decide), rd_wr_j (by decide)]
      unfold rd
      rw [y3 78 (by decide) (by decide) (by decide)]
      exact s1
    · have d78 : a ≠ 78 := nm_ne ha (by decide)
      have d90 : a ≠ 90 := nm_ne ha (by decide)
      have d91 : a ≠ 91 := nm_ne ha (by decide)
      have d96 : a ≠ 96 := nm_ne ha (by decide)
      rw [wr_ne d78, wr_ne d78, y3 a d96 d90 d91, f1 a d78 d90]
  · obtain ⟨T, y1, y3, y4⟩ := x1 t hp
    have t78 : (T 78).length = 22 := by rw [y3 78 (by decide) (by decide) (by decide)]; exact s78
    obtain ⟨U, hU⟩ : ∃ U, U = wr T 78 3 (-1) := ⟨_, rfl⟩
    have oU : OutV U (cV t) := y4.same (by rw [hU, wr_ne (by decide)]) (by rw [hU, wr_ne (by decide)])
    have fU : ∀ a, a ∉ [78, 90, 91, 96] → U a = T0 a := fun a ha => by
      have d78 : a ≠ 78 := nm_ne ha (by decide)
      have d90 : a ≠ 90 := nm_ne ha (by decide)
      have d91 : a ≠ 91 := nm_ne ha (by decide)
      have d96 : a ≠ 96 := nm_ne ha (by decide)
      rw [hU, wr_ne d78, y3 a d96 d90 d91, f1 a d78 d90]
    have u78 : (U 78).length = 22 := by rw [hU, wr_len]; exact t78
    have uk : ∀ k, k ≠ 3 → rd U 78 k = rd S1 78 k := fun k hk => by
      rw [hU, rd_wr_j (fun e => hk e.symm)]
      unfold rd
      rw [y3 78 (by decide) (by decide) (by decide)]
    obtain ⟨V, v1, v2, v3, v4⟩ := fits_val2 hw oU (by rw [fU 80 (by decide)]; exact l80)
    have eq : b_read T0 (Int32.ofNat n0) = (if (if good t then (1 : Int32) else 0) = 0 then ((b_fail V 3).bind fun r14 => some (r14.1, r14.2)) else ((b_keep V (Int32.ofNat n0)).bind fun r16 => some (r16, Int32.ofNat (tT r16 94).length))) := by
      unfold b_read
      rw [b1, o_bind, hno, o_bind, if_pos rfl, rl, ← hS1, y1, o_bind]
      simp only
      rw [rd_wr (by rw [t78]; decide), if_pos rfl, ← hU, v1, o_bind]
    have v78 : V 78 = U 78 := v2 78 (by decide) (by decide)
    have v91 : (V 91).length = 9000 := by rw [v2 91 (by decide) (by decide)]; exact oU.1
    refine ⟨fun hg => ?_, fun hg => ?_⟩
    · have oV : OutV V (cV t) := oU.same (v2 90 (by decide) (by decide)) (v2 91 (by decide) (by decide))
      have hc : (cV t).length ≤ 9000 := by
        have := cbound t hw
        have := hg.1
        omega
      obtain ⟨W, w1, w2, w3, w4⟩ := bkeep_val hn0 hc oV (by
        rw [v2 _ (by omega) (by omega), fU _ (fun c => by simp at c; omega)]
        exact l82)
      refine ⟨W, ?_, ?_, ?_, by rw [w2 91 (by omega)]; exact v91, by rw [w2 80 (by omega)]; exact v3, w3, w4, fun a ha hne => ?_⟩
      · rw [eq, if_pos hg, if_neg (by decide), w1, o_bind]
        congr 3
        unfold tT
        rw [w2 94 (by omega), v4 hg, pv_fit hg.1]
        rfl
      · unfold rd
        rw [w2 78 (by omega), v78]
        exact (uk 0 (by decide)).trans s0
      · unfold rd
        rw [w2 78 (by omega), v78]
        exact (uk 1 (by decide)).trans s1
      · rw [w2 a hne, v2 a (nm_ne ha (by decide)) (nm_ne ha (by decide)), fU a (fun c => ha (by simp at c ⊢; omega))]
    · refine ⟨wr V 78 0 3, 0, ?_, rd_wr (by rw [v78, u78]; decide), ?_, by rw [wr_ne (by decide)]; exact v91, by rw [wr_ne (by decide)]; exact v3, fun a ha => ?_⟩
      · rw [eq, if_neg hg, if_pos rfl]
        unfold b_fail
        rw [o_bind]
      · rw [rd_wr_j (by decide)]
        unfold rd
        rw [v78]
        exact (uk 1 (by decide)).trans s1
      · rw [wr_ne (nm_ne ha (by decide)), v2 a (nm_ne ha (by decide)) (nm_ne ha (by decide)), fU a (fun c => ha (by simp at c ⊢; omega))]
theorem op2 : stp2 Inv := by
  intro S p0 hcs hI
  obtain ⟨l78, l41, l90, l96, -, l68, -⟩ := cs.l78 hcs
  obtain ⟨i1, i2, ⟨tape, i3⟩, ⟨res, i4⟩, ts, dr, ra, i5⟩ := id hI
  obtain ⟨g1, g2, g3, g4, g5⟩ := id i5
  have l91 : (S 91).length = 9000 := i1.2.2.2.2.2.2.2.1
  have l80 : (S 80).length = 9000 := i1.2.2.2.2.2.2.1
  by_cases h0 : ¬ p0 < 0 ∧ p0 < 8
  rotate_left
  · obtain ⟨S1, b1, b2, b3, b4, b5, b6, b7⟩ := begin_val l78 l90 l91
    obtain ⟨z1, z2, z3⟩ := bad_begin hI b6 b2 b3
    refine ⟨(S, 1), (wr S1 78 0 1, 0), ?_, rfl, ?_, z1, fun c => absurd c (show ¬ (1 : Int32) = 0 by decide), z2, z3⟩
    · unfold h_read a_read
      rw [(reg_bad S h0).1, o_bind, if_neg (show ¬ (2 : Nat) = 0 by decide), o_bind, if_neg (show ¬ (2 : Nat) = 0 by decide), if_pos rfl]
    · show b_read S p0 = _
      unfold b_read
      rw [b1, o_bind, (reg_bad S1 h0).2, o_bind, if_neg (by decide)]
      unfold b_fail
      rw [o_bind]
  obtain ⟨a0, -, n0, hn0, rfl⟩ := reg_ok S h0
  have hdn : dr ∈ nine := g3.mem_iff.mp List.mem_cons_self
  have md := nine_lt dr hdn
  have n9 : ∀ a, a ∉ nine → a ≠ dr := fun a ha e => ha (e ▸ hdn)
  have dd : ∀ a ∈ nine, a ∉ [41, 42, 46, 68, 78, 80, 90, 91, 94, 96, 101] ∧ a < 82 := by decide
  have d8 : ∀ r, r < 8 → 82 + r ∉ [41, 42, 46, 68, 78, 80, 90, 91, 94, 96, 101] ∧ 82 + r ∉ nine := by decide
  have ed : (rd S 41 9).toNatClampNeg = dr := by rw [g4, i_cl (by omega)]
  obtain ⟨q1, q2, q3, q4, q5, q6⟩ := id i3
  have H : CK S dr tape := ⟨by unfold tT; rw [q1]; rfl, q2, by omega, md.2.2.2.1, md.1⟩
  obtain ⟨c1, c2⟩ := cparse_v H l68
  -- what the class leaves
  have hck : ∀ k B b, ∀ a, a ≠ 68 → a ≠ dr → ck S dr k B b a = S a := fun k B b a x1 x2 => by
    unfold ck
    rw [up_ne x2, up_ne x1]
  have hSp : ∀ k B b, ∀ a, a ∉ [41, 42, 68] → a ≠ dr → up (wr (ck S dr k B b) 41 10 b) 42 [0] a = S a := fun k B b a x1 x2 => by
    rw [up_ne (nm_ne x1 (by decide)), wr_ne (nm_ne x1 (by decide)), hck k B b a (nm_ne x1 (by decide)) x2]
  have k41 : ∀ k B b, ck S dr k B b 41 = S 41 := fun k B b => hck k B b 41 (by decide) (n9 41 (by decide))
  have hS10 : ∀ k B b, rd (up (wr (ck S dr k B b) 41 10 b) 42 [0]) 41 10 = b := fun k B b => by
    rw [rd_up (by decide), rd_wr (by rw [k41, l41]; decide)]
  have hS9 : ∀ k B b, rd (up (wr (ck S dr k B b) 41 10 b) 42 [0]) 41 9 = Int32.ofNat dr := fun k B b => by
    rw [rd_up (by decide), rd_wr_j (by decide)]
    unfold rd
    rw [k41]
    exact g4
  -- the state with the tape empty
  obtain ⟨Z, hZ⟩ : ∃ Z, Z = up (wr S 78 1 0) 42 [0] := ⟨_, rfl⟩
  have fZ : ∀ a, a ≠ 42 → a ≠ 78 → Z a = S a := fun a x1 x2 => by rw [hZ, up_ne x1, wr_ne x2]
  have Z42 : Z 42 = [0] := by rw [hZ, up_same]
  have Z78 : rd Z 78 1 = 0 := by rw [hZ, rd_up (by decide), rd_wr (by rw [l78]; decide)]
  have j3 : InvT Z [] := ⟨Z42, by decide, (fun u hu => by cases hu), by rw [fZ 79 (by decide) (by decide)]; exact q4, ⟨Z 79, rfl⟩, Z78⟩
  have j4 : InvP Z res := i4.move (fZ 44 (by decide) (by decide)) (fZ 92 (by decide) (by decide))
  have j5 : InvG Z ts dr ra := i5.move (fZ 46 (by decide) (by decide)) (by unfold rd; rw [fZ 41 (by decide) (by decide)]) (fun a ha => fZ a (nm_ne (dd a ha).1 (by decide)) (nm_ne (dd a ha).1 (by decide))) (fun r hr => fZ _ (by omega) (by omega))
  obtain ⟨v1, v2, v3, v4, v5, v6, v7, v8, v9, v10, v11, v12, v13, v14⟩ := id i1
  have mkL : ∀ W : SS, (∀ a, a ∈ [47, 48, 71, 74, 76, 77, 97, 98, 99, 100, 39, 40] → W a = S a) → (W 80).length = 9000 → (W 91).length = 9000 → InvL W := fun W hW w80 w91 =>
    ⟨by unfold rd; rw [hW 47 (by decide)]; exact v1, by rw [hW 48 (by decide)]; exact v2, by rw [hW 71 (by decide)]; exact v3, by rw [hW 74 (by decide)]; exact v4, by rw [hW 76 (by decide)]; exact v5, by rw [hW 77 (by decide)]; exact v6, w80, w91, by rw [hW 97 (by decide)]; exact v9, by rw [hW 98 (by decide)]; exact v10, by rw [hW 99 (by decide)]; exact v11, by rw [hW 100 (by decide)]; exact v12, by rw [hW 39 (by decide)]; exact v13, by rw [hW 40 (by decide)]; exact v14⟩
  have rT : ∀ T0 : SS, (∀ a, a ∉ [41, 42, 46, 68, 101] → a ≠ dr → T0 a = S a) → _ := fun T0 hT0 =>
    bread_v (T0 := T0) (tape := tape) hn0 (by rw [hT0 78 (by decide) (n9 78 (by decide))]; exact l78) (by rw [hT0 90 (by decide) (n9 90 (by decide))]; exact l90) (by rw [hT0 91 (by decide) (n9 91 (by decide))]; exact l91) (by rw [hT0 96 (by decide) (n9 96 (by decide))]; exact l96) (by rw [hT0 80 (by decide) (n9 80 (by decide))]; exact l80) (by
      rw [hT0 _ (fun c => by simp at c; omega) (n9 _ (d8 n0 hn0).2)]
      exact (g5 n0 hn0).2.2.2.2.1) (by
      unfold EK
      rw [hT0 79 (by decide) (n9 79 (by decide))]
      exact ⟨q5, q4, q2, q3⟩) (by
      unfold rd
      rw [hT0 78 (by decide) (n9 78 (by decide))]
      exact q6)
  cases hpa : pAll tape with
  | none =>
    obtain ⟨k, B, b, e1, e2⟩ := c2 hpa
    obtain ⟨Sc, hSc⟩ : ∃ Sc, Sc = up (wr (ck S dr k B b) 41 10 b) 42 [0] := ⟨_, rfl⟩
    have fc : ∀ a, a ∉ [41, 42, 68] → a ≠ dr → Sc a = S a := fun a x1 x2 => by rw [hSc]; exact hSp k B b a x1 x2
    obtain ⟨W, v, w1, w2, w3, w4, w5⟩ := (rT Sc (fun a x1 x2 => fc a (fun c => x1 (by simp at c ⊢; omega)) x2)).1 hpa
    have WS : ∀ a, a ∉ [78, 90, 91, 96] → a ∉ [41, 42, 68] → a ≠ dr → W a = S a := fun a x1 x2 x3 => (w5 a x1).trans (fc a x2 x3)
    refine ⟨(Sc, 2), (W, v), ?_, fc 0 (by decide) (n9 0 (by decide)), w1, w2, fun c => absurd c (show ¬ (2 : Int32) = 0 by decide), WS 0 (by decide) (by decide) (n9 0 (by decide)), ?_⟩
    · unfold h_read a_read
      rw [a0, o_bind, if_pos rfl, ed, e1, o_bind]
      simp only
      rw [hS10, if_neg e2, o_bind, if_neg (show ¬ (3 : Nat) = 0 by decide), if_neg (show ¬ (3 : Nat) = 2 by decide), if_pos rfl, hSc]
    · show Inv W
      refine finA j3 j4 j5 (mkL W (fun a ha => ?_) (by rw [WS 80 (by decide) (by decide) (n9 80 (by decide))]; exact l80) w4) ⟨fun c => c.elim, fun c => c.elim⟩ ?_ ?_ (by rw [Z78]; exact w3) ?_ ?_ ?_ ?_ (fun a ha hne => ?_) (fun r hr => ?_)
      · have d : ∀ a ∈ [47, 48, 71, 74, 76, 77, 97, 98, 99, 100, 39, 40], a ∉ [78, 90, 91, 96] ∧ a ∉ [41, 42, 68] ∧ a ∉ nine := by decide
        obtain ⟨x1, x2, x3⟩ := d a ha
        exact WS a x1 x2 (n9 a x3)
      · rw [Z42, w5 42 (by decide), hSc, up_same]
      · rw [fZ 79 (by decide) (by decide)]; exact WS 79 (by decide) (by decide) (n9 79 (by decide))
      · rw [fZ 44 (by decide) (by decide)]; exact WS 44 (by decide) (by decide) (n9 44 (by decide))
      · rw [fZ 92 (by decide) (by decide)]; exact WS 92 (by decide) (by decide) (n9 92 (by decide))
      · rw [fZ 46 (by decide) (by decide)]; exact WS 46 (by decide) (by decide) (n9 46 (by decide))
      · have : rd W 41 9 = rd Sc 41 9 := by unfold rd; rw [w5 41 (by decide)]
        rw [this, hSc, hS9]
        unfold rd
        rw [fZ 41 (by decide) (by decide)]
        exact g4.symm
      · rw [fZ a (nm_ne (dd a ha).1 (by decide)) (nm_ne (dd a ha).1 (by decide))]
        exact WS a (fun c => (dd a ha).1 (by simp at c ⊢; omega)) (fun c => (dd a ha).1 (by simp at c ⊢; omega)) hne
      · rw [fZ _ (by omega) (by omega)]
        exact WS _ (fun c => by simp at c; omega) (fun c => by simp at c; omega) (n9 _ (d8 r hr).2)
  | some t =>
    obtain ⟨hw, k, e1⟩ := c1 t hpa
    obtain ⟨Sc, hSc⟩ : ∃ Sc, Sc = up (wr (ck S dr k (bV t) (-1)) 41 10 (-1)) 42 [0] := ⟨_, rfl⟩
    have fc : ∀ a, a ∉ [41, 42, 68] → a ≠ dr → Sc a = S a := fun a x1 x2 => by rw [hSc]; exact hSp k (bV t) (-1) a x1 x2
    have s9 : rd Sc 41 9 = Int32.ofNat dr := by rw [hSc]; exact hS9 _ _ _
    have s46 : Sc 46 = ra.map Int32.ofNat := (fc 46 (by decide) (n9 46 (by decide))).trans g1
    have sd : Sc dr = pv (bV t) := by
      have x := (dd dr hdn).1
      rw [hSc, up_ne (nm_ne x (by decide)), wr_ne (nm_ne x (by decide))]
      unfold ck
      rw [up_same]
    have ak := akeep_val (S := Sc) (t := t) (dr := dr) (ra := ra) (n := n0) hw s9 s46 g2 g3 sd hn0
    have hh : ∀ (r : SS × Nat), a_keep Sc (Int32.ofNat n0) = some r → a_read S (Int32.ofNat n0) = if r.2 = 0 then ((iget (r.1 46) (Int32.ofNat n0)).bind fun b10 => some (r.1, 0, Int32.ofNat (tT r.1 b10.toNatClampNeg).length)) else some (r.1, r.2, 0) := by
      intro r hr
      unfold a_read
      rw [a0, o_bind, if_pos rfl, ed, e1, o_bind]
      simp only
      rw [hS10, if_pos rfl, ← hSc, hr, o_bind]
    by_cases hg : good t
    · rw [if_pos hg] at ak
      obtain ⟨Sg, hSg⟩ : ∃ Sg, Sg = wr (up Sc 46 ((ra.set n0 dr).map Int32.ofNat)) 41 9 (Int32.ofNat (ra.getD n0 0)) := ⟨_, rfl⟩
      rw [← hSg] at ak
      have fg : ∀ a, a ≠ 41 → a ≠ 46 → Sg a = Sc a := fun a x1 x2 => by rw [hSg, wr_ne x1, up_ne x2]
      have g46 : Sg 46 = (ra.set n0 dr).map Int32.ofNat := by rw [hSg, wr_ne (by decide), up_same]
      have gd : Sg dr = 0 :: bV t := by
        have x := (dd dr hdn).1
        rw [fg dr (nm_ne x (by decide)) (nm_ne x (by decide)), sd, pv_fit hg.1]
      have ig : iget (Sg 46) (Int32.ofNat n0) = some (Int32.ofNat dr) := by
        have y : (ra.set n0 dr).getD n0 0 = dr := by
          rw [List.getD_eq_getElem?_getD, List.getElem?_set_self (by omega)]
          rfl
        have := (get46 (S := Sg) (ra := ra.set n0 dr) (n := n0) g46 (by rw [List.length_set]; exact g2) hn0 (by rw [y]; omega)).1
        rw [y] at this
        exact this
      have aq := hh _ ak
      simp only [if_true] at aq
      rw [ig, o_bind, i_cl (by omega)] at aq
      have tl : tT Sg dr = bV t := by unfold tT; rw [gd]; rfl
      rw [tl] at aq
      obtain ⟨Tc, hTc⟩ : ∃ Tc, Tc = up Sg 101 (lgE (Int32.ofNat (bV t).length).toInt64) := ⟨_, rfl⟩
      have ft : ∀ a, a ∉ [41, 42, 46, 68, 101] → a ≠ dr → Tc a = S a := fun a x1 x2 => by
        rw [hTc, up_ne (nm_ne x1 (by decide)), fg a (nm_ne x1 (by decide)) (nm_ne x1 (by decide)), fc a (fun c => x1 (by simp at c ⊢; omega)) x2]
      obtain ⟨W, w1, w2, w3, w4, w6, w7, w8, w5⟩ := ((rT Tc ft).2 t hpa hw).1 hg
      have WS : ∀ a, a ∉ [78, 80, 90, 91, 94, 96] → a ≠ 82 + n0 → a ∉ [41, 42, 46, 68, 101] → a ≠ dr → W a = S a := fun a x1 x2 x3 x4 => (w5 a x1 x2).trans (ft a x3 x4)
      have tg : ∀ a, a ≠ 101 → Tc a = Sg a := fun a x => by rw [hTc, up_ne x]
      refine ⟨(Tc, 0), (W, Int32.ofNat (bV t).length), ?_, ft 0 (by decide) (n9 0 (by decide)), w1, w2, fun _ => ?_, WS 0 (by decide) (by omega) (by decide) (n9 0 (by decide)), ?_⟩
      · unfold h_read
        rw [aq, o_bind, if_pos rfl, hTc]
      · show lg (W 101) = _
        rw [w5 101 (by decide) (by omega), hTc, up_same, lg_E]
      · show Inv W
        refine finB j3 j4 j5 hn0 hw hg (mkL W (fun a ha => ?_) w6 w4) ⟨fun c => c.elim, fun c => c.elim⟩ ?_ ?_ (by rw [Z78]; exact w3) ?_ ?_ ?_ ?_ (fun a ha hne => ?_) ?_ (fun r hr hne => ?_) ⟨w7, w8⟩
        · have d : ∀ a ∈ [47, 48, 71, 74, 76, 77, 97, 98, 99, 100, 39, 40], a ∉ [78, 80, 90, 91, 94, 96] ∧ (a < 82 ∨ 89 < a) ∧ a ∉ [41, 42, 46, 68, 101] ∧ a ∉ nine := by decide
          obtain ⟨x1, x2, x3, x4⟩ := d a ha
          exact WS a x1 (by omega) x3 (n9 a x4)
        · rw [Z42, w5 42 (by decide) (by omega), tg 42 (by decide), fg 42 (by decide) (by decide), hSc, up_same]
        · rw [fZ 79 (by decide) (by decide)]; exact WS 79 (by decide) (by omega) (by decide) (n9 79 (by decide))
        · rw [fZ 44 (by decide) (by decide)]; exact WS 44 (by decide) (by omega) (by decide) (n9 44 (by decide))
        · rw [fZ 92 (by decide) (by decide)]; exact WS 92 (by decide) (by omega) (by decide) (n9 92 (by decide))
        · rw [w5 46 (by decide) (by omega), tg 46 (by decide), g46]
        · have : rd W 41 9 = rd Sg 41 9 := by unfold rd; rw [w5 41 (by decide) (by omega), tg 41 (by decide)]
          rw [this, hSg, rd_wr (by
            rw [up_ne (by decide), hSc, up_ne (by decide), wr_len, k41, l41]
            decide)]
        · rw [fZ a (nm_ne (dd a ha).1 (by decide)) (nm_ne (dd a ha).1 (by decide))]
          have := (dd a ha).2
          exact WS a (fun c => (dd a ha).1 (by simp at c ⊢; omega)) (by omega) (fun c => (dd a ha).1 (by simp at c ⊢; omega)) hne
        · have x := (dd dr hdn).1
          have y := (dd dr hdn).2
          rw [w5 dr (fun c => x (by simp at c ⊢; omega)) (by omega), tg dr (nm_ne x (by decide)), gd]
        · rw [fZ _ (by omega) (by omega)]
          exact WS _ (fun c => by simp at c; omega) (by omega) (fun c => by simp at c; omega) (n9 _ (d8 r hr).2)
    · rw [if_neg hg] at ak
      have aq := hh _ ak
      simp only [show ¬ (1 : Nat) = 0 by decide, if_false] at aq
      obtain ⟨W, v, w1, w2, w3, w4, w6, w5⟩ := ((rT Sc (fun a x1 x2 => fc a (fun c => x1 (by simp at c ⊢; omega)) x2)).2 t hpa hw).2 hg
      have WS : ∀ a, a ∉ [78, 80, 90, 91, 94, 96] → a ∉ [41, 42, 68] → a ≠ dr → W a = S a := fun a x1 x2 x3 => (w5 a x1).trans (fc a x2 x3)
      refine ⟨(Sc, 3), (W, v), ?_, fc 0 (by decide) (n9 0 (by decide)), w1, w2, fun c => absurd c (show ¬ (3 : Int32) = 0 by decide), WS 0 (by decide) (by decide) (n9 0 (by decide)), ?_⟩
      · unfold h_read
        rw [aq, o_bind, if_neg (show ¬ (1 : Nat) = 0 by decide), if_neg (show ¬ (1 : Nat) = 2 by decide), if_neg (show ¬ (1 : Nat) = 3 by decide), if_pos rfl]
      · show Inv W
        refine finA j3 j4 j5 (mkL W (fun a ha => ?_) w6 w4) ⟨fun c => c.elim, fun c => c.elim⟩ ?_ ?_ (by rw [Z78]; exact w3) ?_ ?_ ?_ ?_ (fun a ha hne => ?_) (fun r hr => ?_)
        · have d : ∀ a ∈ [47, 48, 71, 74, 76, 77, 97, 98, 99, 100, 39, 40], a ∉ [78, 80, 90, 91, 94, 96] ∧ a ∉ [41, 42, 68] ∧ a ∉ nine := by decide
          obtain ⟨x1, x2, x3⟩ := d a ha
          exact WS a x1 x2 (n9 a x3)
        · rw [Z42, w5 42 (by decide), hSc, up_same]
        · rw [fZ 79 (by decide) (by decide)]; exact WS 79 (by decide) (by decide) (n9 79 (by decide))
        · rw [fZ 44 (by decide) (by decide)]; exact WS 44 (by decide) (by decide) (n9 44 (by decide))
        · rw [fZ 92 (by decide) (by decide)]; exact WS 92 (by decide) (by decide) (n9 92 (by decide))
        · rw [fZ 46 (by decide) (by decide)]; exact WS 46 (by decide) (by decide) (n9 46 (by decide))
        · have : rd W 41 9 = rd Sc 41 9 := by unfold rd; rw [w5 41 (by decide)]
          rw [this, s9]
          unfold rd
          rw [fZ 41 (by decide) (by decide)]
          exact g4.symm
        · rw [fZ a (nm_ne (dd a ha).1 (by decide)) (nm_ne (dd a ha).1 (by decide))]
          exact WS a (fun c => (dd a ha).1 (by simp at c ⊢; omega)) (fun c => (dd a ha).1 (by simp at c ⊢; omega)) hne
        · rw [fZ _ (by omega) (by omega)]
          exact WS _ (fun c => by simp at c; omega) (fun c => by simp at c; omega) (n9 _ (d8 r hr).2)
end Read187
end

section
/-! The law, by what holds between two calls. -/
section Goal302
set_option maxHeartbeats 2000000 in
theorem goal_p {xs : List Int32} (hl : xs.length ≤ 3072) :
    ∃ S' : mS, mE 2000 mm254 (0, m_ent [.ref 0] 8, [], (mp_h0 xs, 601024, 7293034)) (.returned (some (.int 1)), S') := by
  refine law_all hl (fun i h K => ∃ S, cs h S ∧ S 0 = xs ∧ Inv S ∧ 600963 ≤ K.1 + i ∧ 7129857 ≤ K.2 + i) ?_ ?_ ?_
  · intro h hm
    refine ⟨S_of h, cs_of hm, ?_, inv_start hm, by omega, by omega⟩
    have h0 : h[0]? = some (1001, xs.map Value.int) := by
      have := congrArg (fun l => l[0]?) hm.2.1
      replace this : (h.take 41)[0]? = (mp_h0 xs)[0]? := this

      rw [List.getElem?_take_of_lt (by decide)] at this
      exact this
    unfold S_of
    rw [if_neg (by decide), if_neg (by decide), if_neg (by decide), h0]
    simp only [Option.map_some, Option.getD_some, List.map_map]
    exact List.map_id'' (fun _ => rfl) xs
  · rintro i h K ⟨S, hs, h0, -⟩
    rw [← h0]
    exact hs.ar (by decide)
  · rintro i h K ⟨S, hs, h0, hI, k1, k2⟩ hn
    have hS : (S 0).length ≤ 3072 := by rw [h0]; exact hl
    have hK : 1 ≤ K.1 ∧ 6 ≤ K.2 := by omega
    have at_ : ∀ j, j < 6 → ∃ y, (S 0)[i + j]? = some y := fun j hj => ⟨_, List.getElem?_eq_getElem (by rw [h0]; omega)⟩
    obtain ⟨y, hy⟩ := at_ 0 (by decide)
    obtain ⟨p0, a0⟩ := at_ 1 (by decide)
    obtain ⟨p1, a1⟩ := at_ 2 (by decide)
    obtain ⟨p2, a2⟩ := at_ 3 (by decide)
    obtain ⟨p3, a3⟩ := at_ 4 (by decide)
    obtain ⟨p4, a4⟩ := at_ 5 (by decide)
    rw [Nat.add_zero] at hy
    have ha := and15 y
    by_cases hb : 10 < (y &&& 15).toInt
    · exact ⟨h, K, ⟨S, hs, h0, hI, by omega, by omega⟩, law_idle (xs := S 0) (hs.ar (by decide)) hS hy hb⟩
    have hk : y &&& 15 = Int32.ofNat (y &&& 15).toInt.toNat := i_ofnn (by omega) (by omega)
    have hk2 : (y &&& 15).toInt.toNat ≤ 10 := by omega
    generalize (y &&& 15).toInt.toNat = k at hk hk2
    have fin : ∀ (S' : SS) (h' : mH) (K' : Nat × Nat), law_S i h K h' K' → cs h' S' → K.1 ≤ K'.1 + 1 → K.2 ≤ K'.2 + 6 → S' 0 = S 0 → Inv S' → ∃ h' K', (∃ S, cs h' S ∧ S 0 = xs ∧ Inv S ∧ 600963 ≤ K'.1 + (i + 6) ∧ 7129857 ≤ K'.2 + (i + 6)) ∧ law_S i h K h' K' := fun S' h' K' l1 l2 l3 l4 l5 l6 => ⟨h', K', ⟨S', l2, l5.trans h0, l6, by omega, by omega⟩, l1⟩
    have : k = 0 ∨ k = 1 ∨ k = 2 ∨ k = 3 ∨ k = 4 ∨ k = 5 ∨ k = 6 ∨ k = 7 ∨ k = 8 ∨ k = 9 ∨ k = 10 := by omega
    rcases this with rfl | rfl | rfl | rfl | rfl | rfl | rfl | rfl | rfl | rfl | rfl
    · obtain ⟨c, w, e1, e2, e3, e4, e5, e6, e7⟩ := op0 S p0 p1 p2 p3 p4 ⟨h, hs⟩ hI
      obtain ⟨h', K', l1, l2, l3, l4⟩ := law_op0 hs hK hS hy hk a0 a1 a2 a3 a4 e1 e2 e3
      exact fin _ h' K' l1 l2 l3 l4 e6 e7
    · obtain ⟨c, w, e1, e2, e3, e4, e5, e6, e7⟩ := op1 S p0 ⟨h, hs⟩ hI
      obtain ⟨h', K', l1, l2, l3, l4⟩ := law_op1 hs hK hS hy hk a0 e1 e2 e3
      exact fin _ h' K' l1 l2 l3 l4 e6 e7
    · obtain ⟨c, w, e1, e2, e3, e4, e5, e6, e7⟩ := op2 S p0 ⟨h, hs⟩ hI
      obtain ⟨h', K', l1, l2, l3, l4⟩ := law_op2 hs hK hS hy hk a0 e1 e2 e3
      exact fin _ h' K' l1 l2 l3 l4 e6 e7
    · obtain ⟨c, w, e1, e2, e3, e4, e5, e6, e7⟩ := op3 S p0 ⟨h, hs⟩ hI
      obtain ⟨h', K', l1, l2, l3, l4⟩ := law_op3 hs hK hS hy hk a0 e1 e2 e3
      exact fin _ h' K' l1 l2 l3 l4 e6 e7
    · obtain ⟨c, w, e1, e2, e3, e4, e6, e7⟩ := op4 S p0 p1 p2 ⟨h, hs⟩ hI
      obtain ⟨h', K', l1, l2, l3, l4⟩ := law_op4 hs hK hS hy hk a0 a1 a2 e1 e2 e3
      exact fin _ h' K' l1 l2 l3 l4 e6 e7
    · obtain ⟨c, w, e1, e2, e3, e4, e6, e7⟩ := op5 S p0 p1 p2 p3 ⟨h, hs⟩ hI
      obtain ⟨h', K', l1, l2, l3, l4⟩ := law_op5 hs hK hS hy hk a0 a1 a2 a3 e1 e2 e3
      exact fin _ h' K' l1 l2 l3 l4 e6 e7
    · obtain ⟨c, w, e1, e2, e3, e4, e6, e7⟩ := op6 S p0 p1 p2 ⟨h, hs⟩ hI
      obtain ⟨h', K', l1, l2, l3, l4⟩ := law_op6 hs hK hS hy hk a0 a1 a2 e1 e2 e3
      exact fin _ h' K' l1 l2 l3 l4 e6 e7
    · obtain ⟨c, w, e1, e2, e3, e4, e6, e7⟩ := op7 S p0 p1 ⟨h, hs⟩ hI
      obtain ⟨h', K', l1, l2, l3, l4⟩ := law_op7 hs hK hS hy hk a0 a1 e1 e2 e3
      exact fin _ h' K' l1 l2 l3 l4 e6 e7
    · obtain ⟨c, w, e1, e2, e3, e4, e5, e6, e7⟩ := op8 S p0 p1 ⟨h, hs⟩ hI
      obtain ⟨h', K', l1, l2, l3, l4⟩ := law_op8 hs hK hS hy hk a0 a1 e1 e2 e3
      exact fin _ h' K' l1 l2 l3 l4 e6 e7
    · obtain ⟨c, w, e1, e2, e3, e4, e5, e6, e7⟩ := op9 S p0 ⟨h, hs⟩ hI
      obtain ⟨h', K', l1, l2, l3, l4⟩ := law_op9 hs hK hS hy hk a0 e1 e2 e3 e4 e5
      exact fin _ h' K' l1 l2 l3 l4 e6 e7
    · obtain ⟨c, w, e1, e2, e3, e6, e7⟩ := oq10 S p0 ⟨h, hs⟩ hI
      obtain ⟨h', K', l1, l2, l3, l4⟩ := law_op10 hs hK hS hy hk a0 e1 e2 e3
      exact fin _ h' K' l1 l2 l3 l4 e6 e7
end Goal302
end
