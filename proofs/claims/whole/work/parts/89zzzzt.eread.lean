/-! The reference reads: arrays, objects, values, the whole text. -/
section ERead186
/-- what a reader of values does -/
def RE (S : SS) (ts : List Int32) (rec : SS → Int32 → Option (SS × Int32)) (d : Int32) (pr : Nat → Option (Vl × Nat)) : Prop := ∀ k C T, k ≤ ts.length → C.length ≤ 2 * k → ek S T ts k C → (∀ t e, pr k = some (t, e) → gdE S ts (rec T d) e (C ++ cV t)) ∧ (pr k = none → bdE S (rec T d))
theorem earr_end {S T : SS} {ts : List Int32} {k n : Nat} {C body : List Int32} {rec : SS → Int32 → Option (SS × Int32)} {l1 row : Int32} (hrow : C.length ≤ 9000 → row = Int32.ofNat C.length) (hT : ek S T ts k (C ++ 5 :: 0 :: body)) : gdE S ts (e_array_l42 rec (n + 1) T l1 row 0) (k + 1) (C ++ 5 :: Int32.ofNat (body.length + 2) :: body) := by
  have hT1 := hT.w2 (k + 1)
  obtain ⟨T2, p1, p2, p3⟩ := oclose (k := 5) hT1.2.2 hrow
  unfold e_array_l42
  rw [if_pos rfl, hT.rr.2.2.1, i_a1, hT1.rr.2.2.2, if_neg (show ¬ (90 : Int32) = 0 by decide), p1, o_bind]
  exact ⟨T2, rfl, hT1.out p2 p3⟩
theorem cb2 {t : Vl} {k e : Nat} {ts : List Int32} (h : rdV ts k t e) : (cV t).length + 2 * k ≤ 2 * e + 2 := by
  have := cbound t h.1
  have := h.2.1
  omega
theorem earr_l {S : SS} {ts : List Int32} {nv d : Nat} {C : List Int32} {rec : SS → Int32 → Option (SS × Int32)} {row : Int32} (E : EK S ts) (hrec : RE S ts rec (Int32.ofNat d + 1) (pVal ts nv)) (hrow : C.length ≤ 9000 → row = Int32.ofNat C.length) : ∀ (m k : Nat) (L : List Mb) (j n : Nat) (T : SS), m + j = 5000 → j < k → k ≤ ts.length → n + j = 10000 → (C ++ 5 :: 0 :: (blks false L).flatten).length ≤ 2 * k → ek S T ts k (C ++ 5 :: 0 :: (blks false L).flatten) → (∀ l e, pEl ts (pVal ts nv) m k = some (l, e) → gdE S ts (e_array_l42 rec n T (Int32.ofNat d) row 1) e (C ++ cV (5, 0, [], ofL (L ++ l)))) ∧ (pEl ts (pVal ts nv) m k = none → bdE S (e_array_l42 rec n T (Int32.ofNat d) row 1)) := by
  have hl := E.2.2.1
  intro m
  induction m with
  | zero => intro k L j n T h1 h2 h3 _ _ _; omega
  | succ m ih =>
    intro k L j n T h1 h2 h3 h4 h5 hT
    obtain ⟨n, rfl⟩ : ∃ n', n = n' + 2 := ⟨n - 2, by omega⟩
    rw [pEl, show n + 2 = n + 1 + 1 from rfl, e_array_l42, if_neg (show ¬ (1 : Int32) = 0 by decide)]
    obtain ⟨r1, r2⟩ := hrec k _ T h3 h5 hT
    cases hv : pVal ts nv k with
    | none =>
      obtain ⟨T1, y1, y2⟩ := r2 hv
      rw [y1, o_bind]
      rw [if_pos rfl]
      exact ⟨fun l e h => (by cases h), fun _ => ⟨T1, rfl, y2⟩⟩
    | some x =>
      obtain ⟨t, e1⟩ := x
      have hrd := pVal_ok hl nv k t e1 h3 hv
      obtain ⟨a1, a2, a3⟩ := id hrd
      have cb := cb2 hrd
      obtain ⟨T1, y1, y2⟩ := r1 t e1 hv
      obtain ⟨s1, s2⟩ := skp_le ts e1
      have s2 := s2 a3
      obtain ⟨T2, z1, z2⟩ := eblanks E y2 (by omega)
      have eb : C ++ 5 :: 0 :: (blks false L).flatten ++ cV t = C ++ 5 :: 0 :: (blks false (L ++ [([], t)])).flatten := by
        rw [blks_app, List.flatten_append, (blks_m ([], t) []).2]
        simp [blks]
      rw [eb] at z2
      rw [y1, o_bind, o_bind]
      simp only
      rw [if_neg (show ¬ (1 : Int32) = 0 by decide), z1, o_bind, z2.rr.2.2.1, eat E z2 (by omega), o_bind, i_a1]
      by_cases c : atP' ts (skp ts e1) = 44
      · obtain ⟨l1, -, -⟩ := at_lt hl (by omega) c (by decide)
        obtain ⟨s3, s4⟩ := skp_le ts (skp ts e1 + 1)
        have s4 := s4 (by omega)
        obtain ⟨T3, w1, w2⟩ := eblanks E (z2.w2 (skp ts e1 + 1)) (by omega)
        rw [if_pos c, if_pos c, w1, o_bind]
        obtain ⟨i1, i2⟩ := ih (skp ts (skp ts e1 + 1)) (L ++ [([], t)]) (j + 1) (n + 1) T3 (by omega) (by omega) s4 (by omega) (by rw [← eb, List.length_append]; omega) w2
        refine ⟨fun l e h => ?_, fun h => i2 ?_⟩
        · obtain ⟨⟨l', e'⟩, q1, q2⟩ := map_some h
          cases q2
          have := i1 l' e' q1
          rw [List.append_assoc] at this
          exact this
        · cases hp : pEl ts (pVal ts nv) m (skp ts (skp ts e1 + 1)) with
          | none => rfl
          | some x => rw [hp] at h; cases h
      · rw [if_neg c, if_neg c]
        by_cases c2 : atP' ts (skp ts e1) = 93
        · rw [if_pos c2, if_pos c2]
          refine ⟨fun l e h => ?_, fun h => by cases h⟩
          cases h
          have := earr_end (rec := rec) (n := n) (l1 := Int32.ofNat d) hrow z2
          rw [cV_5]
          exact this
        · rw [if_neg c2, if_neg c2]
          exact ⟨fun l e h => (by cases h), fun _ => z2.bad (i_ne1 (by omega))⟩
theorem earr_v {S T : SS} {ts : List Int32} {nv d k : Nat} {C : List Int32} {rec : SS → Int32 → Option (SS × Int32)} (E : EK S ts) (hn : nv ≠ 0) (hrec : RE S ts rec (Int32.ofNat d + 1) (pVal ts nv)) (h : atP' ts k = 91) (hk : k ≤ ts.length) (hC : C.length ≤ 2 * k) (hT : ek S T ts k C) : (∀ t e, pVal ts (nv + 1) k = some (t, e) → gdE S ts (e_array T rec (Int32.ofNat d)) e (C ++ cV t)) ∧ (pVal ts (nv + 1) k = none → bdE S (e_array T rec (Int32.ofNat d))) := by
  have hl := E.2.2.1
  obtain ⟨lk, -, -⟩ := at_lt hl (by omega) h (by decide)
  obtain ⟨T1, row, p1, p2, p3, p4⟩ := oopen hT.2.2 5
  have hT1 := hT.out p2 p3
  obtain ⟨s1, s2⟩ := skp_le ts (k + 1)
  have s2 := s2 (by omega)
  obtain ⟨T2, z1, z2⟩ := eblanks E (hT1.w2 (k + 1)) (by omega)
  rw [pVal, if_pos h, if_neg hn]
  unfold e_array
  rw [hT.rr.2.2.2, if_neg (show ¬ (90 : Int32) = 0 by decide), p1, o_bind]
  simp only
  rw [hT1.rr.2.2.1, i_a1, z1, o_bind, z2.rr.2.2.1, eat E z2 (by omega), o_bind]
  by_cases c : atP' ts (skp ts (k + 1)) = 93
  · rw [if_pos c, if_pos c]
    refine ⟨fun t e h => ?_, fun h => by cases h⟩
    cases h
    exact earr_end (rec := rec) (n := 9999) (body := []) (l1 := Int32.ofNat d) p4 z2
  · rw [if_neg c, if_neg c]
    obtain ⟨i1, i2⟩ := earr_l (C := C) (row := row) E hrec p4 5000 (skp ts (k + 1)) [] 0 10000 T2 rfl (by omega) s2 rfl (by show (C ++ [5, 0]).length ≤ _; rw [List.length_append]; show C.length + 2 ≤ _; omega) z2
    refine ⟨fun t e h => ?_, fun h => i2 ?_⟩
    · obtain ⟨⟨l, e'⟩, q1, q2⟩ := map_some h
      cases q2
      exact i1 l e' q1
    · cases hp : pEl ts (pVal ts nv) 5000 (skp ts (k + 1)) with
      | none => rfl
      | some x => rw [hp] at h; cases h
/-- what comes behind a name -/
def eob (rec : SS → Int32 → Option (SS × Int32)) (k43 : SS → Int32 → Int32 → Int32 → Option (SS × Int32)) (S : SS) (l1 l2 : Int32) : Option (SS × Int32) := ((e_blanks S).bind fun r23 => ((e_at r23 (rd r23 96 2)).bind fun r25 => (if r25 = (58 : Int32) then ((e_blanks (wr r23 96 2 ((rd r23 96 2) + 1))).bind fun r29 => ((rec r29 (l1 + 1)).bind fun r31 => (if r31.2 = 0 then some (r31.1, 0) else ((e_blanks r31.1).bind fun r34 => ((e_at r34 (rd r34 96 2)).bind fun r36 => (if r36 = (44 : Int32) then ((e_blanks (wr r34 96 2 ((rd r34 96 2) + 1))).bind fun r41 => k43 r41 l1 l2 1) else (if r36 = (125 : Int32) then k43 r34 l1 l2 0 else ((e_fail r34 (rd r34 96 2)).bind fun r46 => some (r46.1, r46.2 &&& 1))))))))) else ((e_fail r23 (rd r23 96 2)).bind fun r48 => some (r48.1, r48.2 &&& 1)))))
theorem eob_l {rec : SS → Int32 → Option (SS × Int32)} {k43 : SS → Int32 → Int32 → Int32 → Option (SS × Int32)} {T : SS} {l1 l2 l4 : Int32} {s r : List Int32} {nm : Nat} (h4 : rd T 96 4 = 90) (h9 : (T 91).length ≤ 9000) (hnm : (T 91).drop nm = cstr s ++ r) (hn9 : nm ≤ 9000) : ∀ (L : List Mb) (n q : Nat), okL L → (T 91).drop q = (blks true L).flatten ++ (cstr s ++ r) → q + (blks true L).flatten.length = nm → L.length < n → e_object_l98 rec k43 n T l1 l2 l4 (Int32.ofNat nm) (Int32.ofNat q) = if s ∈ L.map (fun m => m.1) then ((e_fail T l4).bind fun r54 => some (r54.1, r54.2 &&& 1)) else eob rec k43 T l1 l2 := by
  intro L
  induction L with
  | nil =>
    intro n q _ hd hq hn
    obtain ⟨n, rfl⟩ : ∃ n', n = n' + 1 := ⟨n - 1, by simp at hn; omega⟩
    have hq : q = nm := by simpa [blks] using hq
    rw [e_object_l98, if_pos ((i_le' (by omega) (by omega)).mpr (by omega)), if_neg (show ¬ s ∈ ([] : List Mb).map (fun m => m.1) by simp)]
    rfl
  | cons m L ih =>
    intro n q hok hd hq hn
    obtain ⟨n, rfl⟩ : ∃ n', n = n' + 1 := ⟨n - 1, by omega⟩
    have hm := hok m List.mem_cons_self
    rw [(blks_m m L).1] at hd hq
    simp only [List.length_append] at hq
    have hd1 : (T 91).drop q = cstr m.1 ++ (cV m.2 ++ ((blks true L).flatten ++ (cstr s ++ r))) := by rw [hd]; simp only [List.append_assoc]
    have c1 := (cstr_hdd m.1).len
    rw [e_object_l98, if_neg (by rw [i_le' (by omega) (by omega)]; omega), h4, if_neg (show ¬ (90 : Int32) = 0 by decide), rstr_val h9 h9 hd1 hnm, o_bind]
    by_cases c : m.1 = s
    · rw [if_pos ((cmpS_0 _ _).mpr c), if_pos (by rw [List.map_cons, c]; exact List.mem_cons_self)]
    · have hd2 := drop_more hd1
      have hd3 := drop_more hd2
      obtain ⟨x1, x2⟩ := rnext_at h9 (cstr_hdd m.1) hd1
      obtain ⟨x3, x4⟩ := rnext_at h9 (cV_h hm.2.1) hd2
      rw [if_neg (fun x => c ((cmpS_0 _ _).mp x)), x1, o_bind, x3, o_bind, ih n _ hok.tail hd3 (by omega) (by simp at hn; omega)]
      by_cases c2 : s ∈ L.map (fun m => m.1)
      · rw [if_pos c2, if_pos (by rw [List.map_cons]; exact List.mem_cons_of_mem _ c2)]
      · rw [if_neg c2, if_neg (by
          rw [List.map_cons]
          intro x
          rcases List.mem_cons.mp x with y | y
          · exact c y.symm
          · exact c2 y)]
theorem eobj_end {S T : SS} {ts : List Int32} {k n : Nat} {C body : List Int32} {rec : SS → Int32 → Option (SS × Int32)} {l1 row : Int32} (hrow : C.length ≤ 9000 → row = Int32.ofNat C.length) (hT : ek S T ts k (C ++ 6 :: 0 :: body)) : gdE S ts (e_object_l43 rec (n + 1) T l1 row 0) (k + 1) (C ++ 6 :: Int32.ofNat (body.length + 2) :: body) := by
  have hT1 := hT.w2 (k + 1)
  obtain ⟨T2, p1, p2, p3⟩ := oclose (k := 6) hT1.2.2 hrow
  rw [e_object_l43, if_pos rfl, hT.rr.2.2.1, i_a1, hT1.rr.2.2.2, if_neg (show ¬ (90 : Int32) = 0 by decide), p1, o_bind]
  exact ⟨T2, rfl, hT1.out p2 p3⟩
theorem cstr_len (s : List Int32) : (cstr s).length = s.length + 2 := rfl
theorem eobj_l {S : SS} {ts : List Int32} {nv d : Nat} {C : List Int32} {rec : SS → Int32 → Option (SS × Int32)} {row : Int32} (E : EK S ts) (hrec : RE S ts rec (Int32.ofNat d + 1) (pVal ts nv)) (hrow : C.length ≤ 9000 → row = Int32.ofNat C.length) : ∀ (m k : Nat) (L : List Mb) (j n : Nat) (T : SS), m + j = 5000 → j < k → k ≤ ts.length → n + j = 10000 → okL L → (C ++ 6 :: 0 :: (blks true L).flatten).length ≤ 2 * k → ek S T ts k (C ++ 6 :: 0 :: (blks true L).flatten) → (∀ l e, pMe ts (pVal ts nv) m (L.map fun m => m.1) k = some (l, e) → gdE S ts (e_object_l43 rec n T (Int32.ofNat d) row 1) e (C ++ cV (6, 0, [], ofL (L ++ l)))) ∧ (pMe ts (pVal ts nv) m (L.map fun m => m.1) k = none → bdE S (e_object_l43 rec n T (Int32.ofNat d) row 1)) := by
  have hl := E.2.2.1
  intro m
  induction m with
  | zero => intro k L j n T h1 h2 h3 _ _ _ _; omega
  | succ m ih =>
    intro k L j n T h1 h2 h3 h4 hL h5 hT
    obtain ⟨n, rfl⟩ : ∃ n', n = n' + 2 := ⟨n - 2, by omega⟩
    rw [pMe, show n + 2 = n + 1 + 1 from rfl, e_object_l43, if_neg (show ¬ (1 : Int32) = 0 by decide), hT.rr.2.2.2, if_neg (show ¬ (90 : Int32) = 0 by decide), hT.rr.2.2.1, eat E hT (by omega), o_bind]
    by_cases h34 : atP' ts k = 34
    rotate_left
    · rw [if_neg h34, if_neg h34]
      exact ⟨fun l e h => (by cases h), fun _ => hT.bad (i_ne1 (by omega))⟩
    obtain ⟨l34, -, -⟩ := at_lt hl (by omega) h34 (by decide)
    rw [if_pos h34, if_pos h34]
    obtain ⟨st1, st2⟩ := estring_v E hT l34
    cases hs : pStr ts 5000 (k + 1) with
    | none =>
      obtain ⟨T1, y1, y2⟩ := st2 hs
      rw [y1, o_bind]
      rw [if_pos rfl]
      exact ⟨fun l e h => (by cases h), fun _ => ⟨T1, rfl, y2⟩⟩
    | some sx =>
      obtain ⟨s, e0⟩ := sx
      obtain ⟨c1, c2, c3⟩ := pStr_ok hl 5000 (k + 1) s e0 (by omega) hs
      have fl := flat_len c1
      obtain ⟨T1, y1, y2⟩ := st1 s e0 hs
      have hCl : (C ++ 6 :: 0 :: (blks true L).flatten).length ≤ 9000 := by omega
      have e90 : rd T 90 1 = Int32.ofNat (C ++ 6 :: 0 :: (blks true L).flatten).length := (hT.2.2.2.2.1 hCl).2.1
      have hrow' : row = Int32.ofNat C.length := hrow (by rw [List.length_append] at hCl; omega)
      have hC2 : (C ++ 6 :: 0 :: (blks true L).flatten ++ cstr s).length ≤ 9000 := by
        rw [List.length_append, cstr_len]
        omega
      obtain ⟨⟨r, e91⟩, -, -⟩ := y2.2.2.2.2.1 hC2
      have hnm : (T1 91).drop (C ++ 6 :: 0 :: (blks true L).flatten).length = cstr s ++ r := by
        rw [e91, List.append_assoc, List.drop_left]
      have hq : (T1 91).drop (C.length + 2) = (blks true L).flatten ++ (cstr s ++ r) := by
        rw [e91, show C ++ 6 :: 0 :: (blks true L).flatten ++ cstr s ++ r = (C ++ [6, 0]) ++ ((blks true L).flatten ++ (cstr s ++ r)) by simp, show C.length + 2 = (C ++ [6, 0]).length by simp, List.drop_left]
      have hbl : L.length ≤ (blks true L).flatten.length := by
        have x1 := flat2 _ (blks_h (b := true) hL)
        have x2 := blks_len true L
        simp only [if_true] at x2
        omega
      have lC : (C ++ 6 :: 0 :: (blks true L).flatten).length = C.length + 2 + (blks true L).flatten.length := by simp; omega
      have ob := eob_l (rec := rec) (k43 := e_object_l43 rec (n + 1)) (l1 := Int32.ofNat d) (l2 := row) (l4 := Int32.ofNat k) y2.rr.2.2.2 (by rw [y2.2.2.1]; omega) hnm hCl L 10000 (C.length + 2) hL hq (by omega) (by omega)
      have i2' : row + 2 = Int32.ofNat (C.length + 2) := by rw [hrow']; exact (Int32.ofNat_add C.length 2).symm
      rw [y1, o_bind, o_bind]
      simp only
      rw [if_neg (show ¬ (1 : Int32) = 0 by decide), e90, i2', ob]
      by_cases hn : s ∈ L.map fun m => m.1
      · rw [if_pos hn, if_pos hn]
        exact ⟨fun l e h => (by cases h), fun _ => y2.bad (i_ne1 (by omega))⟩
      rw [if_neg hn, if_neg hn]
      unfold eob
      obtain ⟨u1, u2⟩ := skp_le ts e0
      have u2 := u2 c3
      obtain ⟨T2, z1, z2⟩ := eblanks E y2 (by omega)
      rw [z1, o_bind, z2.rr.2.2.1, eat E z2 (by omega), o_bind, i_a1]
      by_cases h58 : atP' ts (skp ts e0) = 58
      rotate_left
      · rw [if_neg h58, if_neg h58]
        exact ⟨fun l e h => (by cases h), fun _ => z2.bad (i_ne1 (by omega))⟩
      rw [if_pos h58, if_pos h58]
      obtain ⟨l58, -, -⟩ := at_lt hl (by omega) h58 (by decide)
      obtain ⟨u3, u4⟩ := skp_le ts (skp ts e0 + 1)
      have u4 := u4 (by omega)
      obtain ⟨T3, w1, w2⟩ := eblanks E (z2.w2 (skp ts e0 + 1)) (by omega)
      rw [w1, o_bind]
      obtain ⟨r1, r2⟩ := hrec _ _ T3 u4 (by rw [List.length_append, cstr_len]; omega) w2
      cases hv : pVal ts nv (skp ts (skp ts e0 + 1)) with
      | none =>
        obtain ⟨T4, y3, y4⟩ := r2 hv
        rw [y3, o_bind]
        rw [if_pos rfl]
        exact ⟨fun l e h => (by cases h), fun _ => ⟨T4, rfl, y4⟩⟩
      | some x =>
        obtain ⟨t, e1⟩ := x
        have hrd := pVal_ok hl nv _ t e1 u4 hv
        obtain ⟨a1, a2, a3⟩ := id hrd
        have cb := cb2 hrd
        obtain ⟨T4, y3, y4⟩ := r1 t e1 hv
        obtain ⟨s1, s2⟩ := skp_le ts e1
        have s2 := s2 a3
        obtain ⟨T5, z3, z4⟩ := eblanks E y4 (by omega)
        have eb : C ++ 6 :: 0 :: (blks true L).flatten ++ cstr s ++ cV t = C ++ 6 :: 0 :: (blks true (L ++ [(s, t)])).flatten := by
          rw [blks_app, List.flatten_append, (blks_m (s, t) []).1]
          simp [blks]
        have lb : (C ++ 6 :: 0 :: (blks true (L ++ [(s, t)])).flatten).length = (C ++ 6 :: 0 :: (blks true L).flatten).length + (s.length + 2) + (cV t).length := by
          rw [← eb, List.length_append, List.length_append, cstr_len]
        rw [eb] at z4
        rw [y3, o_bind, o_bind]
        simp only
        rw [if_neg (show ¬ (1 : Int32) = 0 by decide), z3, o_bind, z4.rr.2.2.1, eat E z4 (by omega), o_bind, i_a1]
        have hL' : okL (L ++ [(s, t)]) := fun x hx => by
          rcases List.mem_append.mp hx with y | y
          · exact hL x y
          · rw [List.mem_singleton.mp y]; exact ⟨c1, a1⟩
        by_cases c : atP' ts (skp ts e1) = 44
        · obtain ⟨l1, -, -⟩ := at_lt hl (by omega) c (by decide)
          obtain ⟨s3, s4⟩ := skp_le ts (skp ts e1 + 1)
          have s4 := s4 (by omega)
          obtain ⟨T6, w3, w4⟩ := eblanks E (z4.w2 (skp ts e1 + 1)) (by omega)
          have eN : (L.map fun m => m.1) ++ [s] = (L ++ [(s, t)]).map fun m => m.1 := by
            rw [List.map_append]
            rfl
          rw [if_pos c, if_pos c, w3, o_bind, eN]
          obtain ⟨i1, i2⟩ := ih (skp ts (skp ts e1 + 1)) (L ++ [(s, t)]) (j + 1) (n + 1) T6 (by omega) (by omega) s4 (by omega) hL' (by omega) w4
          refine ⟨fun l e h => ?_, fun h => i2 ?_⟩
          · obtain ⟨⟨l', e'⟩, q1, q2⟩ := map_some h
            cases q2
            have := i1 l' e' q1
            rw [List.append_assoc] at this
            exact this
          · cases hp : pMe ts (pVal ts nv) m ((L ++ [(s, t)]).map fun m => m.1) (skp ts (skp ts e1 + 1)) with
            | none => rfl
            | some x => rw [hp] at h; cases h
        · rw [if_neg c, if_neg c]
          by_cases c2 : atP' ts (skp ts e1) = 125
          · rw [if_pos c2, if_pos c2]
            refine ⟨fun l e h => ?_, fun h => by cases h⟩
            cases h
            have := eobj_end (rec := rec) (n := n) (l1 := Int32.ofNat d) hrow z4
            rw [cV_6]
            exact this
          · rw [if_neg c2, if_neg c2]
            exact ⟨fun l e h => (by cases h), fun _ => z4.bad (i_ne1 (by omega))⟩
theorem eobj_v {S T : SS} {ts : List Int32} {nv d k : Nat} {C : List Int32} {rec : SS → Int32 → Option (SS × Int32)} (E : EK S ts) (hn : nv ≠ 0) (hrec : RE S ts rec (Int32.ofNat d + 1) (pVal ts nv)) (h : atP' ts k = 123) (hk : k ≤ ts.length) (hC : C.length ≤ 2 * k) (hT : ek S T ts k C) : (∀ t e, pVal ts (nv + 1) k = some (t, e) → gdE S ts (e_object T rec (Int32.ofNat d)) e (C ++ cV t)) ∧ (pVal ts (nv + 1) k = none → bdE S (e_object T rec (Int32.ofNat d))) := by
  have hl := E.2.2.1
  obtain ⟨lk, -, -⟩ := at_lt hl (by omega) h (by decide)
  obtain ⟨T1, row, p1, p2, p3, p4⟩ := oopen hT.2.2 6
  have hT1 := hT.out p2 p3
  obtain ⟨s1, s2⟩ := skp_le ts (k + 1)
  have s2 := s2 (by omega)
  obtain ⟨T2, z1, z2⟩ := eblanks E (hT1.w2 (k + 1)) (by omega)
  rw [pVal, if_neg (by rw [h]; decide), if_pos h, if_neg hn]
  unfold e_object
  rw [hT.rr.2.2.2, if_neg (show ¬ (90 : Int32) = 0 by decide), p1, o_bind]
  simp only
  rw [hT1.rr.2.2.1, i_a1, z1, o_bind, z2.rr.2.2.1, eat E z2 (by omega), o_bind]
  by_cases c : atP' ts (skp ts (k + 1)) = 125
  · rw [if_pos c, if_pos c]
    refine ⟨fun t e h => ?_, fun h => by cases h⟩
    cases h
    exact eobj_end (rec := rec) (n := 9999) (body := []) (l1 := Int32.ofNat d) p4 z2
  · rw [if_neg c, if_neg c]
    obtain ⟨i1, i2⟩ := eobj_l (C := C) (row := row) E hrec p4 5000 (skp ts (k + 1)) [] 0 10000 T2 rfl (by omega) s2 rfl (fun m hm => by cases hm) (by show (C ++ [6, 0]).length ≤ _; rw [List.length_append]; show C.length + 2 ≤ _; omega) z2
    refine ⟨fun t e h => ?_, fun h => i2 ?_⟩
    · obtain ⟨⟨l, e'⟩, q1, q2⟩ := map_some h
      cases q2
      exact i1 l e' q1
    · cases hp : pMe ts (pVal ts nv) 5000 [] (skp ts (k + 1)) with
      | none => exact hp
      | some x => rw [hp] at h; cases h
/-- a call's answer, handed on -/
theorem gd1 {S : SS} {ts : List Int32} {r : Option (SS × Int32)} {e : Nat} {C : List Int32} (h : gdE S ts r e C) : gdE S ts (r.bind fun x => some (x.1, x.2 &&& 1)) e C := by
  obtain ⟨T, h1, h2⟩ := h
  rw [h1, o_bind]
  refine ⟨T, ?_, h2⟩
  show some (T, (1 : Int32) &&& 1) = _
  rw [show (1 : Int32) &&& 1 = 1 from by decide]
theorem bd1 {S : SS} {r : Option (SS × Int32)} (h : bdE S r) : bdE S (r.bind fun x => some (x.1, x.2 &&& 1)) := by
  obtain ⟨T, h1, h2⟩ := h
  rw [h1, o_bind]
  refine ⟨T, ?_, h2⟩
  show some (T, (0 : Int32) &&& 1) = _
  rw [show (0 : Int32) &&& 1 = 0 from by decide]
theorem eval_B {S : SS} {nv d : Nat} {ts : List Int32} {rec : SS → Int32 → Option (SS × Int32)} (E : EK S ts) (hd : nv + d = 40) (hrec : nv ≠ 0 → RE S ts rec (Int32.ofNat d + 1) (pVal ts nv)) : RE S ts (fun T p => e_valueB T rec p) (Int32.ofNat d) (pVal ts (nv + 1)) := by
  have hl := E.2.2.1
  intro k C T hk hC hT
  show (∀ t e, _ → gdE S ts (e_valueB T rec (Int32.ofNat d)) _ _) ∧ (_ → bdE S (e_valueB T rec (Int32.ofNat d)))
  have g40 : (40 : Int32) ≤ Int32.ofNat d ↔ 40 ≤ d := by rw [show (40 : Int32) = Int32.ofNat 40 from rfl, i_le' (by omega) (by omega)]
  have lit : ∀ (bs : List Int32) (t0 : Vl) (kd : Int32), bs.length ≤ 100 → (∀ u ∈ bs, u ≠ -1) → cV t0 = [kd, 2] → (∀ t e, ((pLit ts bs k).map fun e => (t0, e)) = some (t, e) → gdE S ts ((e_word T bs kd).bind fun x => some (x.1, x.2 &&& 1)) e (C ++ cV t)) ∧ (((pLit ts bs k).map fun e => (t0, e)) = none → bdE S ((e_word T bs kd).bind fun x => some (x.1, x.2 &&& 1))) := by
    intro bs t0 kd y1 y2 y4
    obtain ⟨q1, q2⟩ := eword_v (kd := kd) E hT hk y1 y2
    refine ⟨fun t e h => ?_, fun h => bd1 (q2 ?_)⟩
    · obtain ⟨e', x1, x2⟩ := map_some h
      cases x2
      rw [y4]
      exact gd1 (q1 e x1)
    · cases hp : pLit ts bs k with
      | none => rfl
      | some x => rw [hp] at h; cases h
  unfold e_valueB
  rw [hT.rr.2.2.1, eat E hT (by omega), o_bind]
  by_cases h110 : atP' ts k = 110
  · rw [if_pos h110, pVal, if_neg (by rw [h110]; decide), if_neg (by rw [h110]; decide), if_neg (by rw [h110]; decide), if_pos h110]
    exact lit k19 vNull 0 (by decide) (by decide) rfl
  rw [if_neg h110]
  by_cases h102 : atP' ts k = 102
  · rw [if_pos h102, pVal, if_neg (by rw [h102]; decide), if_neg (by rw [h102]; decide), if_neg (by rw [h102]; decide), if_neg h110, if_pos h102]
    exact lit k21 (1, 0, [], .leaf) 1 (by decide) (by decide) rfl
  rw [if_neg h102]
  by_cases h116 : atP' ts k = 116
  · rw [if_pos h116, pVal, if_neg (by rw [h116]; decide), if_neg (by rw [h116]; decide), if_neg (by rw [h116]; decide), if_neg h110, if_neg h102, if_pos h116]
    exact lit k23 (2, 0, [], .leaf) 2 (by decide) (by decide) rfl
  rw [if_neg h116]
  by_cases h34 : atP' ts k = 34
  · obtain ⟨l34, -, -⟩ := at_lt hl (by omega) h34 (by decide)
    rw [if_pos h34, pVal, if_neg (by rw [h34]; decide), if_neg (by rw [h34]; decide), if_pos h34]
    obtain ⟨q1, q2⟩ := estring_v E hT l34
    refine ⟨fun t e h => ?_, fun h => bd1 (q2 ?_)⟩
    · obtain ⟨⟨s, e'⟩, x1, x2⟩ := map_some h
      cases x2
      exact gd1 (q1 s e' x1)
    · cases hp : pStr ts 5000 (k + 1) with
      | none => rfl
      | some x => rw [hp] at h; cases h
  rw [if_neg h34]
  by_cases h91 : atP' ts k = 91
  · rw [if_pos h91]
    by_cases hn : nv = 0
    · rw [if_pos (g40.mpr (by omega)), pVal, if_pos h91, if_pos hn]
      exact ⟨fun t e h => (by cases h), fun _ => hT.bad (i_ne1 (by omega))⟩
    · rw [if_neg (by rw [g40]; omega)]
      obtain ⟨q1, q2⟩ := earr_v E hn (hrec hn) h91 hk hC hT
      exact ⟨fun t e h => gd1 (q1 t e h), fun h => bd1 (q2 h)⟩
  rw [if_neg h91]
  by_cases h123 : atP' ts k = 123
  · rw [if_pos h123]
    by_cases hn : nv = 0
    · rw [if_pos (g40.mpr (by omega)), pVal, if_neg h91, if_pos h123, if_pos hn]
      exact ⟨fun t e h => (by cases h), fun _ => hT.bad (i_ne1 (by omega))⟩
    · rw [if_neg (by rw [g40]; omega)]
      obtain ⟨q1, q2⟩ := eobj_v E hn (hrec hn) h123 hk hC hT
      exact ⟨fun t e h => gd1 (q1 t e h), fun h => bd1 (q2 h)⟩
  rw [if_neg h123, pVal, if_neg h91, if_neg h123, if_neg h34, if_neg h110, if_neg h102, if_neg h116]
  obtain ⟨q1, q2⟩ := enum_v E hT hk
  refine ⟨fun t e h => ?_, fun h => bd1 (q2 ?_)⟩
  · obtain ⟨⟨s, e'⟩, x1, x2⟩ := map_some h
    cases x2
    exact gd1 (q1 s e' x1)
  · cases hp : pNum ts k with
    | none => rfl
    | some x => rw [hp] at h; cases h
theorem eval_v {S : SS} {ts : List Int32} (E : EK S ts) : ∀ (nv d m : Nat), nv + d = 40 → nv ≤ m → RE S ts (e_value (m + 1)) (Int32.ofNat d) (pVal ts (nv + 1)) := by
  intro nv
  induction nv with
  | zero =>
    intro d m hd _
    exact eval_B (rec := e_value m) E hd (fun c => absurd rfl c)
  | succ nv ih =>
    intro d m hd hm
    obtain ⟨m, rfl⟩ : ∃ m', m = m' + 1 := ⟨m - 1, by omega⟩
    refine eval_B (rec := e_value (m + 1)) E hd (fun _ => ?_)
    rw [i_a1]
    exact ih (d + 1) m (by omega) (by omega)
theorem eread_v {S : SS} {ts : List Int32} (E : EK S ts) (h96 : (S 96).length = 5) (ho : OutV S []) : (∀ t, pAll ts = some t → ∃ T, e_read S 79 (Int32.ofNat ts.length) = some (T, -1) ∧ frE S T ∧ OutV T (cV t)) ∧ (pAll ts = none → ∃ T f, e_read S 79 (Int32.ofNat ts.length) = some (T, f) ∧ f ≠ -1 ∧ frE S T ∧ (T 91).length = 9000) := by
  have hl := E.2.2.1
  obtain ⟨S0, hS0⟩ : ∃ S0, S0 = wr (wr (wr (wr (wr S 96 0 (Int32.ofNat 79)) 96 1 (Int32.ofNat ts.length)) 96 2 0) 96 4 90) 96 3 (-1) := ⟨_, rfl⟩
  have hk0 : ek S S0 ts 0 [] := by
    refine ⟨fun a h1 h2 h3 => by rw [hS0, wr_ne h1, wr_ne h1, wr_ne h1, wr_ne h1, wr_ne h1], ?_, ho.same (by rw [hS0, wr_ne (by decide), wr_ne (by decide), wr_ne (by decide), wr_ne (by decide), wr_ne (by decide)]) (by rw [hS0, wr_ne (by decide), wr_ne (by decide), wr_ne (by decide), wr_ne (by decide), wr_ne (by decide)])⟩
    obtain ⟨a, b, c, d, e, hS⟩ : ∃ a b c d e, S 96 = [a, b, c, d, e] := by
      match hS : S 96, h96 with
      | [a, b, c, d, e], _ => exact ⟨a, b, c, d, e, rfl⟩
    rw [hS0]
    unfold wr
    simp only [up_same, hS]
    rfl
  obtain ⟨s1, s2⟩ := skp_le ts 0
  have s2 := s2 (by omega)
  obtain ⟨T1, z1, z2⟩ := eblanks E hk0 (by omega)
  obtain ⟨r1, r2⟩ := eval_v E 40 0 63 rfl (by decide) (skp ts 0) [] T1 s2 (by simp) z2
  unfold e_read pAll
  rw [← hS0, z1, o_bind]
  cases hv : pVal ts 41 (skp ts 0) with
  | none =>
    refine ⟨fun t h => (by cases h), fun _ => ?_⟩
    obtain ⟨T2, y1, y2, y3, y4⟩ := r2 hv
    have y1 : e_value 64 T1 0 = some (T2, 0) := y1
    rw [y1, o_bind]
    rw [if_pos rfl]
    exact ⟨T2, _, rfl, y3, y2, y4⟩
  | some x =>
    obtain ⟨t, e⟩ := x
    obtain ⟨a1, a2, a3⟩ := pVal_ok hl 41 _ t e s2 hv
    obtain ⟨T2, y1, y2⟩ := r1 t e hv
    have y1 : e_value 64 T1 0 = some (T2, 1) := y1
    have m1 := (skp_le ts e).2 a3
    obtain ⟨T3, w1, w2⟩ := eblanks E y2 (by omega)
    have w3 : rd T3 96 3 = -1 := by unfold rd; rw [w2.2.1]; rfl
    rw [y1, o_bind, o_bind]
    simp only
    rw [if_neg (show ¬ (1 : Int32) = 0 by decide), w1, o_bind, w2.rr.2.1, w2.rr.2.2.1]
    by_cases c : ts.length ≤ skp ts e
    · rw [if_pos c, if_pos ((i_le' (by omega) (by omega)).mpr c), w3]
      refine ⟨fun t' h => ?_, fun h => by cases h⟩
      cases h
      exact ⟨T3, rfl, w2.1, w2.2.2⟩
    · rw [if_neg c, if_neg (by rw [i_le' (by omega) (by omega)]; exact c)]
      refine ⟨fun t h => (by cases h), fun _ => ⟨_, _, rfl, ?_, fun a h1 h2 h3 => by rw [wr_ne h1]; exact w2.1 a h1 h2 h3, by rw [wr_ne (by decide)]; exact w2.2.2.1⟩⟩
      rw [rd_wr (by rw [w2.2.1]; show 3 < 5; decide)]
      exact i_ne1 (by omega)
end ERead186
