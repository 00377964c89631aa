/-! The class reads: arrays, objects, values, the whole text. -/
section CRead184
/-- what a reader of values does -/
def RC (S : SS) (dr : Nat) (ts : List Int32) (rec : SS → Int32 → Option SS) (d : Int32) (pr : Nat → Option (Vl × Nat)) : Prop := ∀ k B, k ≤ ts.length → asc B → B.length ≤ k → (∀ t e, pr k = some (t, e) → rec (ck S dr k B (-1)) d = some (ck S dr e (B ++ bV t) (-1))) ∧ (pr k = none → badC S dr ts (rec (ck S dr k B (-1)) d))
theorem cit_end {rec : SS → Int32 → Option SS} {n : Nat} {T : SS} {l1 l2 l3 l4 l6 : Int32} : c_items_l73 rec (n + 1) T l1 l2 l3 l4 0 l6 = ((c_take T l4).bind fun r => some r) := by
  unfold c_items_l73
  by_cases h : 4096 ≤ l6
  · rw [if_pos h]
  · rw [if_neg h, if_pos rfl]
/-- a value, and what is behind it -/
def cit (rec : SS → Int32 → Option SS) (n : Nat) (T : SS) (l1 l2 l3 l4 l6 : Int32) : Option SS := ((rec T (l2 + 1)).bind fun r40 => ((c_blanks r40).bind fun r42 => ((c_fine r42).bind fun r44 => (if r44 = 0 then c_items_l73 rec n r42 l1 l2 l3 l4 0 (l6 + 1) else (if (tat (tT r42 42) (rd r42 68 2)) = (44 : Int32) then ((c_take r42 44).bind fun r49 => ((c_blanks r49).bind fun r51 => c_items_l73 rec n r51 l1 l2 l3 l4 1 (l6 + 1))) else c_items_l73 rec n r42 l1 l2 l3 l4 0 (l6 + 1))))))
theorem g4096 {j : Nat} (h : j < 4096) : ¬ (4096 : Int32) ≤ Int32.ofNat j := by
  rw [show (4096 : Int32) = Int32.ofNat 4096 from rfl, i_le' (by omega) (by omega)]
  omega
theorem cit_a {S : SS} {dr k j : Nat} {B ts : List Int32} {rec : SS → Int32 → Option SS} {n : Nat} {l2 l3 l4 : Int32} (H : CK S dr ts) (hj : j < 4096) : c_items_l73 rec (n + 1) (ck S dr k B (-1)) 91 l2 l3 l4 1 (Int32.ofNat j) = cit rec n (ck S dr k B (-1)) 91 l2 l3 l4 (Int32.ofNat j) := by
  rw [c_items_l73, if_neg (g4096 hj), if_neg (show ¬ (1 : Int32) = 0 by decide), if_neg (show ¬ (91 : Int32) = 123 by decide), cfine_y H, o_bind, if_neg (show ¬ (1 : Int32) = 0 by decide)]
  rfl
theorem cit_o {S : SS} {dr k j k' : Nat} {B B' ts : List Int32} {rec : SS → Int32 → Option SS} {n : Nat} {l2 l3 l4 : Int32} (H : CK S dr ts) (hj : j < 4096) (hN : c_name (ck S dr k B (-1)) l3 = some (ck S dr k' B' (-1))) : c_items_l73 rec (n + 1) (ck S dr k B (-1)) 123 l2 l3 l4 1 (Int32.ofNat j) = cit rec n (ck S dr k' B' (-1)) 123 l2 l3 l4 (Int32.ofNat j) := by
  rw [c_items_l73, if_neg (g4096 hj), if_neg (show ¬ (1 : Int32) = 0 by decide), if_pos rfl, hN, o_bind, cfine_y H, o_bind, if_neg (show ¬ (1 : Int32) = 0 by decide)]
  rfl
theorem cit_ob {S : SS} {dr k j : Nat} {B ts : List Int32} {rec : SS → Int32 → Option SS} {n : Nat} {l2 l3 l4 : Int32} (H : CK S dr ts) (hj : j < 4096) (h4 : l4 ≠ -1) (hN : badC S dr ts (c_name (ck S dr k B (-1)) l3)) : badC S dr ts (c_items_l73 rec (n + 2) (ck S dr k B (-1)) 123 l2 l3 l4 1 (Int32.ofNat j)) := by
  obtain ⟨k', B', b', e1, e2, e3⟩ := hN
  obtain ⟨k2, B2, b2, f1, f2, f3⟩ := bad_take (B := B') H e2 e3 h4
  rw [show n + 2 = n + 1 + 1 from rfl, c_items_l73, if_neg (g4096 hj), if_neg (show ¬ (1 : Int32) = 0 by decide), if_pos rfl, e1, o_bind, cfine_n H e2, o_bind, if_pos rfl, cit_end, f1, o_bind]
  exact ⟨_, _, _, rfl, f2, f3⟩
theorem cit_y {S : SS} {dr k e : Nat} {B B' ts : List Int32} {rec : SS → Int32 → Option SS} {n : Nat} {l1 l2 l3 l4 l6 : Int32} (H : CK S dr ts) (he : e ≤ ts.length) (hr : rec (ck S dr k B (-1)) (l2 + 1) = some (ck S dr e B' (-1))) : cit rec n (ck S dr k B (-1)) l1 l2 l3 l4 l6 = if atP' ts (skp ts e) = 44 then c_items_l73 rec n (ck S dr (skp ts (skp ts e + 1)) (B' ++ [44]) (-1)) l1 l2 l3 l4 1 (l6 + 1) else c_items_l73 rec n (ck S dr (skp ts e) B' (-1)) l1 l2 l3 l4 0 (l6 + 1) := by
  have hl := H.2.1
  have m1 := (skp_le ts e).2 he
  unfold cit
  rw [hr, o_bind, cblanks H (by omega), o_bind, cfine_y H, o_bind, if_neg (show ¬ (1 : Int32) = 0 by decide), ck_t H, (ck_rd H).2.1]
  by_cases c : atP' ts (skp ts e) = 44
  · have c' : tat ts (Int32.ofNat (skp ts e)) = 44 := c
    rw [if_pos c, if_pos c', ctake_y H c, o_bind, cblanks H (by omega), o_bind]
    rfl
  · have c' : ¬ tat ts (Int32.ofNat (skp ts e)) = 44 := c
    rw [if_neg c, if_neg c']
theorem cit_n {S : SS} {dr k : Nat} {B ts : List Int32} {rec : SS → Int32 → Option SS} {n : Nat} {l1 l2 l3 l4 l6 : Int32} (H : CK S dr ts) (h4 : l4 ≠ -1) (hr : badC S dr ts (rec (ck S dr k B (-1)) (l2 + 1))) : badC S dr ts (cit rec (n + 1) (ck S dr k B (-1)) l1 l2 l3 l4 l6) := by
  have hl := H.2.1
  obtain ⟨k', B', b', e1, e2, e3⟩ := hr
  have m1 := skp_mx ts k'
  obtain ⟨k2, B2, b2, f1, f2, f3⟩ := bad_take (B := B') H e2 (show skp ts k' ≤ ts.length + 8 by omega) h4
  unfold cit
  rw [e1, o_bind, cblanks H (by omega), o_bind, cfine_n H e2, o_bind, if_pos rfl, cit_end, f1, o_bind]
  exact ⟨_, _, _, rfl, f2, f3⟩
/-- the closing sign -/
theorem cit_close {S : SS} {dr k : Nat} {B ts : List Int32} {rec : SS → Int32 → Option SS} {n : Nat} {l1 l2 l3 z l6 : Int32} (H : CK S dr ts) (hk : k ≤ ts.length) (hz : z &&& 255 = z) : (atP' ts k = z → c_items_l73 rec (n + 1) (ck S dr k B (-1)) l1 l2 l3 z 0 l6 = some (ck S dr (k + 1) (B ++ [z]) (-1))) ∧ (atP' ts k ≠ z → badC S dr ts (c_items_l73 rec (n + 1) (ck S dr k B (-1)) l1 l2 l3 z 0 l6)) := by
  rw [cit_end]
  refine ⟨fun h => ?_, fun h => ?_⟩
  · rw [ctake_y H h, o_bind, hz]
  · obtain ⟨k', B', b', e1, e2, e3⟩ := bad_no (B := B) H (show k ≤ ts.length + 8 by omega) h
    rw [e1, o_bind]
    exact ⟨_, _, _, rfl, e2, e3⟩
theorem carr_l {S : SS} {dr nv d : Nat} {ts : List Int32} {rec : SS → Int32 → Option SS} {l3 : Int32} (H : CK S dr ts) (hrec : RC S dr ts rec (Int32.ofNat d + 1) (pVal ts nv)) : ∀ (m k : Nat) (B : List Int32) (j n : Nat), m + j = 5000 → j < k → k ≤ ts.length → asc B → B.length ≤ k → n + j = 10000 → (∀ l e, pEl ts (pVal ts nv) m k = some (l, e) → c_items_l73 rec n (ck S dr k B (-1)) 91 (Int32.ofNat d) l3 93 1 (Int32.ofNat j) = some (ck S dr e (B ++ (jn (l.map (bM false)) ++ [93])) (-1))) ∧ (pEl ts (pVal ts nv) m k = none → badC S dr ts (c_items_l73 rec n (ck S dr k B (-1)) 91 (Int32.ofNat d) l3 93 1 (Int32.ofNat j))) := by
  have hl := H.2.1
  intro m
  induction m with
  | zero => intro k B j n h1 h2 h3 _ _ _; omega
  | succ m ih =>
    intro k B j n h1 h2 h3 hA hB h4
    obtain ⟨n, rfl⟩ : ∃ n', n = n' + 2 := ⟨n - 2, by omega⟩
    rw [pEl, cit_a H (by omega)]
    obtain ⟨r1, r2⟩ := hrec k B h3 hA hB
    cases hv : pVal ts nv k with
    | none =>
      refine ⟨fun l e h => (by cases h), fun _ => cit_n H (by decide) (r2 hv)⟩
    | some x =>
      obtain ⟨t, e1⟩ := x
      obtain ⟨a1, a2, a3⟩ := pVal_ok hl nv k t e1 h3 hv
      rw [cit_y H a3 (r1 t e1 hv), o_bind]
      obtain ⟨s1, s2⟩ := skp_le ts e1
      have s2 := s2 a3
      have hA' : asc (B ++ bV t) := hA.app (bV_pass t a1).2
      simp only
      by_cases c : atP' ts (skp ts e1) = 44
      · rw [if_pos c, if_pos c, i_a1]
        obtain ⟨l1, -, -⟩ := at_lt hl (by omega) c (by decide)
        obtain ⟨s3, s4⟩ := skp_le ts (skp ts e1 + 1)
        have s4 := s4 (by omega)
        obtain ⟨i1, i2⟩ := ih (skp ts (skp ts e1 + 1)) (B ++ bV t ++ [44]) (j + 1) (n + 1) (by omega) (by omega) s4 (hA'.app (asc.cons (by decide) asc.nil)) (by simp only [List.length_append, List.length_cons, List.length_nil]; omega) (by omega)
        refine ⟨fun l e h => ?_, fun h => i2 ?_⟩
        · obtain ⟨⟨l', e'⟩, q1, q2⟩ := map_some h
          cases q2
          obtain ⟨b1, -⟩ := pEl_ok hl (pVal_ok hl nv) _ _ l' e' s4 q1
          rw [i1 l' e' q1, jn_more false _ b1]
          simp only [List.append_assoc, List.cons_append, List.nil_append]
          rfl
        · cases hp : pEl ts (pVal ts nv) m (skp ts (skp ts e1 + 1)) with
          | none => rfl
          | some x => rw [hp] at h; cases h
      · rw [if_neg c, if_neg c]
        obtain ⟨q1, q2⟩ := cit_close (rec := rec) (n := n) (B := B ++ bV t) (l1 := 91) (l2 := Int32.ofNat d) (l3 := l3) (l6 := Int32.ofNat j + 1) (z := 93) H s2 (by decide)
        by_cases c2 : atP' ts (skp ts e1) = 93
        · rw [if_pos c2, q1 c2]
          refine ⟨fun l e h => ?_, fun h => by cases h⟩
          cases h
          rw [jn_one]
          simp only [List.append_assoc]
          rfl
        · rw [if_neg c2]
          exact ⟨fun l e h => (by cases h), fun _ => q2 c2⟩
theorem cobj_l {S : SS} {dr nv d : Nat} {ts B0 : List Int32} {rec : SS → Int32 → Option SS} (H : CK S dr ts) (hrec : RC S dr ts rec (Int32.ofNat d + 1) (pVal ts nv)) (h0 : asc B0) : ∀ (m k : Nat) (L : List Mb) (j n : Nat), m + j = 5000 → j < k → k ≤ ts.length → okL L → (B0 ++ 123 :: pj L).length ≤ k → n + j = 10000 → (∀ l e, pMe ts (pVal ts nv) m (L.map fun m => m.1) k = some (l, e) → c_items_l73 rec n (ck S dr k (B0 ++ 123 :: pj L) (-1)) 123 (Int32.ofNat d) (Int32.ofNat B0.length) 125 1 (Int32.ofNat j) = some (ck S dr e (B0 ++ 123 :: (pj L ++ (jn (l.map (bM true)) ++ [125]))) (-1))) ∧ (pMe ts (pVal ts nv) m (L.map fun m => m.1) k = none → badC S dr ts (c_items_l73 rec n (ck S dr k (B0 ++ 123 :: pj L) (-1)) 123 (Int32.ofNat d) (Int32.ofNat B0.length) 125 1 (Int32.ofNat j))) := by
  have hl := H.2.1
  intro m
  induction m with
  | zero => intro k L j n h1 h2 h3 _ _ _; omega
  | succ m ih =>
    intro k L j n h1 h2 h3 hL hB h4
    obtain ⟨n, rfl⟩ : ∃ n', n = n' + 2 := ⟨n - 2, by omega⟩
    rw [pMe]
    obtain ⟨n1, n2⟩ := cname_v (S := S) (dr := dr) H h0 hL h3 hB
    by_cases h34 : atP' ts k = 34
    rotate_left
    · rw [if_neg h34]
      exact ⟨fun l e h => (by cases h), fun _ => cit_ob H (by omega) (by decide) (n1 h34)⟩
    rw [if_pos h34]
    obtain ⟨n3, n4⟩ := n2 h34
    obtain ⟨l34, -, -⟩ := at_lt hl (by omega) h34 (by decide)
    cases hs : pStr ts 5000 (k + 1) with
    | none => exact ⟨fun l e h => (by cases h), fun _ => cit_ob H (by omega) (by decide) (n3 hs)⟩
    | some sx =>
      obtain ⟨s, e0⟩ := sx
      obtain ⟨n5, n6⟩ := n4 s e0 hs
      obtain ⟨c1, c2, c3⟩ := pStr_ok hl 5000 (k + 1) s e0 (by omega) hs
      rw [o_bind]
      simp only
      by_cases hn : s ∈ L.map fun m => m.1
      · rw [if_pos hn]
        exact ⟨fun l e h => (by cases h), fun _ => cit_ob H (by omega) (by decide) (n5 (Or.inl hn))⟩
      rw [if_neg hn]
      obtain ⟨u1, u2⟩ := skp_le ts e0
      have u2 := u2 c3
      by_cases h58 : atP' ts (skp ts e0) = 58
      rotate_left
      · rw [if_neg h58]
        exact ⟨fun l e h => (by cases h), fun _ => cit_ob H (by omega) (by decide) (n5 (Or.inr h58))⟩
      rw [if_pos h58]
      obtain ⟨l58, -, -⟩ := at_lt hl (by omega) h58 (by decide)
      obtain ⟨u3, u4⟩ := skp_le ts (skp ts e0 + 1)
      have u4 := u4 (by omega)
      rw [cit_o H (by omega) (n6 hn h58)]
      have hA1 : asc (B0 ++ 123 :: pj L ++ (pstr s ++ [58])) := (h0.app (asc.cons (by decide) (asc_pj hL))).app ((pstr_pass c1).2.app (asc.cons (by decide) asc.nil))
      have hB1 : (B0 ++ 123 :: pj L ++ (pstr s ++ [58])).length ≤ skp ts (skp ts e0 + 1) := by
        unfold pstr
        simp only [List.length_cons, List.length_append, List.length_nil] at hB ⊢
        omega
      obtain ⟨r1, r2⟩ := hrec _ _ u4 hA1 hB1
      cases hv : pVal ts nv (skp ts (skp ts e0 + 1)) with
      | none => exact ⟨fun l e h => (by cases h), fun _ => cit_n H (by decide) (r2 hv)⟩
      | some x =>
        obtain ⟨t, e1⟩ := x
        obtain ⟨a1, a2, a3⟩ := pVal_ok hl nv _ t e1 u4 hv
        rw [cit_y H a3 (r1 t e1 hv), o_bind]
        obtain ⟨s1, s2⟩ := skp_le ts e1
        have s2 := s2 a3
        have eM : B0 ++ 123 :: pj L ++ (pstr s ++ [58]) ++ bV t = B0 ++ 123 :: (pj L ++ bM true (s, t)) := by
          unfold bM
          simp only [if_true, List.append_assoc, List.cons_append]
        have lM := bM_len s t
        simp only
        rw [eM]
        by_cases c : atP' ts (skp ts e1) = 44
        · rw [if_pos c, if_pos c, i_a1]
          obtain ⟨l1, -, -⟩ := at_lt hl (by omega) c (by decide)
          obtain ⟨s3, s4⟩ := skp_le ts (skp ts e1 + 1)
          have s4 := s4 (by omega)
          have eP : B0 ++ 123 :: (pj L ++ bM true (s, t)) ++ [44] = B0 ++ 123 :: pj (L ++ [(s, t)]) := by
            rw [pj_app]
            simp only [List.append_assoc, List.cons_append]
          have eN : (L.map fun m => m.1) ++ [s] = (L ++ [(s, t)]).map fun m => m.1 := by
            rw [List.map_append]
            rfl
          rw [eP, eN]
          obtain ⟨i1, i2⟩ := ih (skp ts (skp ts e1 + 1)) (L ++ [(s, t)]) (j + 1) (n + 1) (by omega) (by omega) s4 (fun x hx => by
            rcases List.mem_append.mp hx with y | y
            · exact hL x y
            · rw [List.mem_singleton.mp y]; exact ⟨c1, a1⟩) (by
            rw [← eP]
            simp only [List.length_append, List.length_cons, List.length_nil, lM] at hB ⊢
            omega) (by omega)
          refine ⟨fun l e h => ?_, fun h => i2 ?_⟩
          · obtain ⟨⟨l', e'⟩, q1, q2⟩ := map_some h
            cases q2
            obtain ⟨b1, -⟩ := pMe_ok hl (pVal_ok hl nv) _ _ _ l' e' s4 q1
            rw [i1 l' e' q1, jn_more true _ b1, pj_app]
            simp only [List.append_assoc, List.cons_append, List.nil_append]
          · cases hp : pMe ts (pVal ts nv) m ((L ++ [(s, t)]).map fun m => m.1) (skp ts (skp ts e1 + 1)) with
            | none => rfl
            | some x => rw [hp] at h; cases h
        · rw [if_neg c, if_neg c]
          obtain ⟨q1, q2⟩ := cit_close (rec := rec) (n := n) (B := B0 ++ 123 :: (pj L ++ bM true (s, t))) (l1 := 123) (l2 := Int32.ofNat d) (l3 := Int32.ofNat B0.length) (l6 := Int32.ofNat j + 1) (z := 125) H s2 (by decide)
          by_cases c2 : atP' ts (skp ts e1) = 125
          · rw [if_pos c2, q1 c2]
            refine ⟨fun l e h => ?_, fun h => by cases h⟩
            cases h
            rw [jn_one]
            simp only [List.append_assoc, List.cons_append]
          · rw [if_neg c2]
            exact ⟨fun l e h => (by cases h), fun _ => q2 c2⟩
theorem bind_id {α : Type} (o : Option α) : (o.bind fun r => some r) = o := by cases o <;> rfl
theorem citems_5 {S : SS} {dr nv d k : Nat} {B ts : List Int32} {rec : SS → Int32 → Option SS} (H : CK S dr ts) (hd : nv + d = 40) (hrec : nv ≠ 0 → RC S dr ts rec (Int32.ofNat d + 1) (pVal ts nv)) (h : atP' ts k = 91) (hA : asc B) (hB : B.length ≤ k) (hk : k ≤ ts.length) : (∀ t e, pVal ts (nv + 1) k = some (t, e) → c_items (ck S dr k B (-1)) rec 91 (Int32.ofNat d) = some (ck S dr e (B ++ bV t) (-1))) ∧ (pVal ts (nv + 1) k = none → badC S dr ts (c_items (ck S dr k B (-1)) rec 91 (Int32.ofNat d))) := by
  have hl := H.2.1
  obtain ⟨lk, -, -⟩ := at_lt hl (by omega) h (by decide)
  rw [pVal, if_pos h]
  unfold c_items
  have g40 : Int32.ofNat d < 40 ↔ d < 40 := by rw [show (40 : Int32) = Int32.ofNat 40 from rfl, i_lt' (by omega) (by omega)]
  by_cases hn : nv = 0
  · rw [if_pos hn, if_neg (by rw [g40]; omega), (ck_rd H).2.1, cbreak H, o_bind, if_pos rfl]
    exact ⟨fun t e h => (by cases h), fun _ => ⟨_, _, _, rfl, i_ne1 (by omega), by omega⟩⟩
  obtain ⟨s1, s2⟩ := skp_le ts (k + 1)
  have s2 := s2 (by omega)
  rw [if_neg hn, if_pos (g40.mpr (by omega)), if_pos rfl, ctake_y H h, o_bind, cblanks H (by omega), o_bind, ck_t H, (ck_rd H).2.1]
  rw [show (91 : Int32) &&& 255 = 91 from by decide]
  by_cases c : atP' ts (skp ts (k + 1)) = 93
  · have c' : tat ts (Int32.ofNat (skp ts (k + 1))) = 93 := c
    rw [if_pos c, if_pos c']
    obtain ⟨q1, q2⟩ := cit_close (rec := rec) (n := 9999) (B := B ++ [91]) (l1 := 91) (l2 := Int32.ofNat d) (l3 := Int32.ofNat (tT (ck S dr k B (-1)) ((rd (ck S dr k B (-1)) 68 1).toNatClampNeg)).length) (l6 := 0) (z := 93) H s2 (by decide)
    rw [q1 c]
    refine ⟨fun t e h => ?_, fun h => by cases h⟩
    cases h
    rw [bV_5, List.append_assoc]
    rfl
  · have c' : ¬ tat ts (Int32.ofNat (skp ts (k + 1))) = 93 := c
    rw [if_neg c, if_neg c']
    obtain ⟨i1, i2⟩ := carr_l (l3 := Int32.ofNat (tT (ck S dr k B (-1)) ((rd (ck S dr k B (-1)) 68 1).toNatClampNeg)).length) H (hrec hn) 5000 (skp ts (k + 1)) (B ++ [91]) 0 10000 rfl (by omega) s2 (hA.app (asc.cons (by decide) asc.nil)) (by simp only [List.length_append, List.length_cons, List.length_nil]; omega) rfl
    refine ⟨fun t e h => ?_, fun h => i2 ?_⟩
    · obtain ⟨⟨l, e'⟩, q1, q2⟩ := map_some h
      cases q2
      have := i1 l e' q1
      rw [bV_5]
      rw [List.append_assoc] at this
      exact this
    · cases hp : pEl ts (pVal ts nv) 5000 (skp ts (k + 1)) with
      | none => rfl
      | some x => rw [hp] at h; cases h
theorem citems_6 {S : SS} {dr nv d k : Nat} {B ts : List Int32} {rec : SS → Int32 → Option SS} (H : CK S dr ts) (hd : nv + d = 40) (hrec : nv ≠ 0 → RC S dr ts rec (Int32.ofNat d + 1) (pVal ts nv)) (h : atP' ts k = 123) (hA : asc B) (hB : B.length ≤ k) (hk : k ≤ ts.length) : (∀ t e, pVal ts (nv + 1) k = some (t, e) → c_items (ck S dr k B (-1)) rec 123 (Int32.ofNat d) = some (ck S dr e (B ++ bV t) (-1))) ∧ (pVal ts (nv + 1) k = none → badC S dr ts (c_items (ck S dr k B (-1)) rec 123 (Int32.ofNat d))) := by
  have hl := H.2.1
  obtain ⟨lk, -, -⟩ := at_lt hl (by omega) h (by decide)
  rw [pVal, if_neg (by rw [h]; decide), if_pos h]
  unfold c_items
  have eT : tT (ck S dr k B (-1)) ((rd (ck S dr k B (-1)) 68 1).toNatClampNeg) = B := by rw [(ck_rd H).1, ck_T, List.take_of_length_le (by omega)]
  have g40 : Int32.ofNat d < 40 ↔ d < 40 := by rw [show (40 : Int32) = Int32.ofNat 40 from rfl, i_lt' (by omega) (by omega)]
  by_cases hn : nv = 0
  · rw [if_pos hn, if_neg (by rw [g40]; omega), (ck_rd H).2.1, cbreak H, o_bind, if_pos rfl]
    exact ⟨fun t e h => (by cases h), fun _ => ⟨_, _, _, rfl, i_ne1 (by omega), by omega⟩⟩
  obtain ⟨s1, s2⟩ := skp_le ts (k + 1)
  have s2 := s2 (by omega)
  rw [if_neg hn, if_pos (g40.mpr (by omega)), if_neg (show ¬ (123 : Int32) = 91 by decide), eT, ctake_y H h, o_bind, cblanks H (by omega), o_bind, ck_t H, (ck_rd H).2.1]
  rw [show (123 : Int32) &&& 255 = 123 from by decide]
  by_cases c : atP' ts (skp ts (k + 1)) = 125
  · have c' : tat ts (Int32.ofNat (skp ts (k + 1))) = 125 := c
    rw [if_pos c, if_pos c']
    obtain ⟨q1, q2⟩ := cit_close (rec := rec) (n := 9999) (B := B ++ [123]) (l1 := 123) (l2 := Int32.ofNat d) (l3 := Int32.ofNat B.length) (l6 := 0) (z := 125) H s2 (by decide)
    rw [q1 c]
    refine ⟨fun t e h => ?_, fun h => by cases h⟩
    cases h
    rw [bV_6, List.append_assoc]
    rfl
  · have c' : ¬ tat ts (Int32.ofNat (skp ts (k + 1))) = 125 := c
    rw [if_neg c, if_neg c']
    obtain ⟨i1, i2⟩ := cobj_l (B0 := B) H (hrec hn) hA 5000 (skp ts (k + 1)) [] 0 10000 rfl (by omega) s2 (fun m hm => by cases hm) (by show (B ++ [123]).length ≤ _; simp only [List.length_append, List.length_cons, List.length_nil]; omega) rfl
    refine ⟨fun t e h => ?_, fun h => i2 ?_⟩
    · obtain ⟨⟨l, e'⟩, q1, q2⟩ := map_some h
      cases q2
      rw [bV_6]
      exact i1 l e' q1
    · cases hp : pMe ts (pVal ts nv) 5000 [] (skp ts (k + 1)) with
      | none => exact hp
      | some x => rw [hp] at h; cases h
theorem cval_B {S : SS} {dr nv d : Nat} {ts : List Int32} {rec : SS → Int32 → Option SS} (H : CK S dr ts) (hd : nv + d = 40) (hrec : nv ≠ 0 → RC S dr ts rec (Int32.ofNat d + 1) (pVal ts nv)) : RC S dr ts (fun T p => c_valueB T rec p) (Int32.ofNat d) (pVal ts (nv + 1)) := by
  have hl := H.2.1
  intro k B hk hA hB
  show (∀ t e, _ → c_valueB (ck S dr k B (-1)) rec (Int32.ofNat d) = _) ∧ (_ → badC S dr ts (c_valueB (ck S dr k B (-1)) rec (Int32.ofNat d)))
  have fold : ∀ x, tat ts (Int32.ofNat k) = x ↔ atP' ts k = x := fun x => Iff.rfl
  unfold c_valueB
  simp only [bind_id]
  rw [ck_t H, (ck_rd H).2.1]
  by_cases h91 : atP' ts k = 91
  · rw [if_pos ((fold _).mpr h91), (fold _).mpr h91]
    exact citems_5 H hd hrec h91 hA hB hk
  rw [if_neg (fun c => h91 ((fold _).mp c))]
  by_cases h123 : atP' ts k = 123
  · rw [if_pos ((fold _).mpr h123), (fold _).mpr h123]
    exact citems_6 H hd hrec h123 hA hB hk
  rw [if_neg (fun c => h123 ((fold _).mp c))]
  rw [pVal, if_neg h91, if_neg h123]
  by_cases h34 : atP' ts k = 34
  · rw [if_pos ((fold _).mpr h34), if_pos h34]
    obtain ⟨q1, q2⟩ := cstring_v (B := B) H h34 (by omega)
    refine ⟨fun t e h => ?_, fun h => q2 ?_⟩
    · obtain ⟨⟨s, e'⟩, x1, x2⟩ := map_some h
      cases x2
      exact q1 s e' x1
    · cases hp : pStr ts 5000 (k + 1) with
      | none => rfl
      | some x => rw [hp] at h; cases h
  rw [if_neg (fun c => h34 ((fold _).mp c)), if_neg h34]
  have lit : ∀ (bs : List Int32) (t0 : Vl), bs.length ≤ 100 → (∀ u ∈ bs, u ≠ -1) → byt bs → bV t0 = bs → (∀ t e, ((pLit ts bs k).map fun e => (t0, e)) = some (t, e) → c_literal (ck S dr k B (-1)) bs = some (ck S dr e (B ++ bV t) (-1))) ∧ (((pLit ts bs k).map fun e => (t0, e)) = none → badC S dr ts (c_literal (ck S dr k B (-1)) bs)) := by
    intro bs t0 y1 y2 y3 y4
    obtain ⟨q1, q2⟩ := clit_v (B := B) H hk y1 y2 y3
    refine ⟨fun t e h => ?_, fun h => q2 ?_⟩
    · obtain ⟨e', x1, x2⟩ := map_some h
      cases x2
      rw [y4]
      exact q1 e x1
    · cases hp : pLit ts bs k with
      | none => rfl
      | some x => rw [hp] at h; cases h
  by_cases h110 : atP' ts k = 110
  · rw [if_pos ((fold _).mpr h110), if_pos h110]
    exact lit k3 vNull (by decide) (by decide) (by unfold byt; decide) rfl
  rw [if_neg (fun c => h110 ((fold _).mp c)), if_neg h110]
  by_cases h102 : atP' ts k = 102
  · rw [if_pos ((fold _).mpr h102), if_pos h102]
    exact lit k5 (1, 0, [], .leaf) (by decide) (by decide) (by unfold byt; decide) rfl
  rw [if_neg (fun c => h102 ((fold _).mp c)), if_neg h102]
  by_cases h116 : atP' ts k = 116
  · rw [if_pos ((fold _).mpr h116), if_pos h116]
    exact lit k7 (2, 0, [], .leaf) (by decide) (by decide) (by unfold byt; decide) rfl
  rw [if_neg (fun c => h116 ((fold _).mp c)), if_neg h116]
  obtain ⟨q1, q2⟩ := cnum_v (B := B) H hk
  refine ⟨fun t e h => ?_, fun h => q2 ?_⟩
  · obtain ⟨⟨s, e'⟩, x1, x2⟩ := map_some h
    cases x2
    exact q1 s e' x1
  · cases hp : pNum ts k with
    | none => rfl
    | some x => rw [hp] at h; cases h
theorem cval_v {S : SS} {dr : Nat} {ts : List Int32} (H : CK S dr ts) : ∀ (nv d m : Nat), nv + d = 40 → nv ≤ m → RC S dr ts (c_value (m + 1)) (Int32.ofNat d) (pVal ts (nv + 1)) := by
  intro nv
  induction nv with
  | zero =>
    intro d m hd _
    exact cval_B (rec := c_value m) H hd (fun c => absurd rfl c)
  | succ nv ih =>
    intro d m hd hm
    obtain ⟨m, rfl⟩ : ∃ m', m = m' + 1 := ⟨m - 1, by omega⟩
    refine cval_B (rec := c_value (m + 1)) H hd (fun _ => ?_)
    rw [i_a1]
    exact ih (d + 1) m (by omega) (by omega)
/-- what is read from a whole text -/
def pAll (ts : List Int32) : Option Vl := (pVal ts 41 (skp ts 0)).bind fun x => if ts.length ≤ skp ts x.2 then some x.1 else none
theorem ck_start {S : SS} {dr : Nat} (h68 : (S 68).length = 4) (h : dr ≠ 68) (hd : dr < 1000) : wr (wr (up (wr S 68 1 (Int32.ofNat dr)) ((rd (wr S 68 1 (Int32.ofNat dr)) 68 1).toNatClampNeg) [0]) 68 2 0) 68 3 (-1) = ck S dr 0 [] (-1) := by
  have e1 : (rd (wr S 68 1 (Int32.ofNat dr)) 68 1).toNatClampNeg = dr := by rw [rd_wr (by rw [h68]; decide), i_ad hd]
  obtain ⟨a, b, c, d, e⟩ : ∃ a b c d, S 68 = [a, b, c, d] := by
    match hS : S 68, h68 with
    | [a, b, c, d], _ => exact ⟨a, b, c, d, rfl⟩
  rw [e1]
  funext x
  unfold ck wr
  by_cases x1 : x = 68
  · rw [x1, up_same, up_same, up_ne (fun c => h c.symm), up_same, up_ne (fun c => h c.symm), up_same, e]
    unfold rd
    rw [e]
    rfl
  · by_cases x2 : x = dr
    · rw [x2, up_ne h, up_ne h, up_same, up_same]
      rfl
    · rw [up_ne x1, up_ne x1, up_ne x2, up_ne x1, up_ne x2, up_ne x1]
theorem cparse_v {S : SS} {dr : Nat} {ts : List Int32} (H : CK S dr ts) (h68 : (S 68).length = 4) : (∀ t, pAll ts = some t → wV t ∧ ∃ k, c_parse S dr = some (ck S dr k (bV t) (-1), -1)) ∧ (pAll ts = none → ∃ k B b, c_parse S dr = some (ck S dr k B b, b) ∧ b ≠ -1) := by
  have hl := H.2.1
  obtain ⟨s1, s2⟩ := skp_le ts 0
  have s2 := s2 (by omega)
  obtain ⟨r1, r2⟩ := cval_v H 40 0 99 rfl (by decide) (skp ts 0) [] s2 asc.nil (by simp)
  unfold c_parse pAll
  rw [ck_start h68 H.2.2.1 H.2.2.2.2, cblanks H (by omega), o_bind]
  cases hv : pVal ts 41 (skp ts 0) with
  | none =>
    refine ⟨fun t h => (by cases h), fun _ => ?_⟩
    obtain ⟨k, B, b, e1, e2, e3⟩ := r2 hv
    have e1 : c_value 100 (ck S dr (skp ts 0) [] (-1)) 0 = some (ck S dr k B b) := e1
    have m1 := skp_mx ts k
    rw [e1, o_bind, cblanks H (by omega), o_bind, ck_t H, (ck_rd H).2.1, (ck_rd H).2.2, cbreak H, o_bind, if_neg e2, (ck_rd H).2.2]
    refine ⟨skp ts k, B, b, ?_, e2⟩
    split <;> rfl
  | some x =>
    obtain ⟨t, e⟩ := x
    obtain ⟨a1, a2, a3⟩ := pVal_ok hl 41 _ t e s2 hv
    have e1 : c_value 100 (ck S dr (skp ts 0) [] (-1)) 0 = some (ck S dr e (bV t) (-1)) := r1 t e hv
    have m1 := (skp_le ts e).2 a3
    rw [e1, o_bind, o_bind, cblanks H (by omega), o_bind, ck_t H, (ck_rd H).2.1, (ck_rd H).2.2, cbreak H, o_bind, if_pos rfl, (ck_rd H).2.2]
    simp only
    by_cases c : ts.length ≤ skp ts e
    · rw [if_pos c, if_pos ((i_le' (by omega) (by omega)).mpr c)]
      refine ⟨fun t' h => ?_, fun h => by cases h⟩
      cases h
      exact ⟨a1, _, rfl⟩
    · rw [if_neg c, if_neg (by rw [i_le' (by omega) (by omega)]; exact c)]
      exact ⟨fun t h => (by cases h), fun _ => ⟨_, _, _, rfl, i_ne1 (by omega)⟩⟩
end CRead184
