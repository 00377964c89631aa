/-! What a path has led to, written by the class. -/
section Write133
def outV (c : Cu) : Vl := match c with
  | none => vNull
  | some (t, none) => t
  | some (t, some (a, b)) => if t.1 = 4 then (4, t.2.1, (t.2.2.1.drop a).take (b - a), t.2.2.2) else (5, t.2.1, t.2.2.1, ofL (((toL t.2.2.2).drop a).take (b - a)))
theorem slice {us w r : List Int32} {p : Nat} (hl : us.length ≤ 4096) (h : us.drop p = w ++ r) (hp : p ≤ us.length) : tcut us (Int32.ofNat p) (Int32.ofNat (p + w.length)) = w := by
  have := congrArg List.length h
  rw [List.length_drop, List.length_append] at this
  unfold tcut
  rw [i_cl (by omega), i_cl (by omega), List.drop_take, h, show p + w.length - p = w.length by omega, List.take_left']
  rfl
theorem jn_app {b : Bool} : ∀ (X Y : List Mb), X ≠ [] → jn ((X ++ Y).map (bM b)) = jn (X.map (bM b)) ++ tl b Y := by
  intro X
  induction X with
  | nil => intro Y h; exact absurd rfl h
  | cons m X ih =>
    intro Y _
    rw [List.cons_append, jn_tl, jn_tl, List.append_assoc]
    congr 1
    by_cases e : X = []
    · rw [e]; unfold tl; simp
    · have : tl b (X ++ Y) = 44 :: jn ((X ++ Y).map (bM b)) := by unfold tl; rw [if_neg (by simp [e])]
      rw [this, ih Y e]
      unfold tl
      rw [if_neg e]
      rfl
theorem ip_last {b : Bool} {q : Nat} {l : List Mb} {i j : Nat} (hij : i < j) (hj : j ≤ l.length) : ip b q l (j - 1) + (bM b (l[j - 1]'(by omega))).length = ip b q l i + (jn (((l.drop i).take (j - i)).map (bM b))).length := by
  have hne : (l.drop i).take (j - i) ≠ [] := by
    intro e
    have := congrArg List.length e
    rw [List.length_take, List.length_drop, List.length_nil] at this
    omega
  have js := jn_sum (b := b) _ hne
  have e1 : ip b q l j = ip b q l (j - 1) + ((bM b (l[j - 1]'(by omega))).length + 1) := by
    have e : l.take j = l.take (j - 1) ++ [l[j - 1]'(by omega)] := by
      have := List.take_succ_eq_append_getElem (l := l) (i := j - 1) (by omega)
      rw [show j - 1 + 1 = j by omega] at this
      exact this
    unfold ip
    rw [e, List.map_append, List.sum_append]
    simp only [List.map_cons, List.map_nil, List.sum_cons, List.sum_nil]
    omega
  have e2 : ip b q l j = ip b q l i + (((l.drop i).take (j - i)).map fun m => (bM b m).length + 1).sum := by
    unfold ip
    have : l.take j = l.take i ++ (l.drop i).take (j - i) := by
      rw [show j = i + (j - i) by omega, List.take_add]
      simp
    rw [this, List.map_append, List.sum_append]
    omega
  omega
theorem write_val {S : SS} {ta o : Nat} {c : Cu} (hta : ta < 1000 ∧ ta ≠ 67) (ho : o ≠ ta ∧ o ≠ 67) (h : spU S ta c) (hS : S o = pv []) : p_writeTo S o = some (up S o (pv (bV (outV c)))) := by
  have e0 : S = up S o (pv []) := by rw [← hS, up_self]
  have tt : ∀ B, tT (up S o (pv B)) ta = tT S ta := fun B => by unfold tT; rw [up_ne (fun e => ho.1 e.symm)]
  have r6 : ∀ B k, rd (up S o (pv B)) 67 k = rd S 67 k := fun B k => rd_up (fun e => ho.2 e.symm)
  have sp1 : ∀ B v, v &&& 255 = v → sput (up S o (pv B)) o v = up S o (pv (B ++ [v])) := fun B v hv => by rw [sput_pv, hv]
  unfold p_writeTo p_nothing
  cases c with
  | none =>
    obtain ⟨it, lo, hi, e⟩ := h
    have e1 : rd S 67 1 = -1 := by unfold rd; rw [e]; rfl
    rw [e1, if_pos rfl, o_bind, if_neg (by decide)]
    conv => lhs; rw [e0]
    rw [sputs_pv _ _ _ _ (by unfold byt; decide)]
    rfl
  | some tw =>
    obtain ⟨t, w⟩ := tw
    have hk := spC.kind hta.1 h
    obtain ⟨q, it, lo, hi, h1, h2, h3, h4⟩ := h
    have lt := h2.lt
    have l4 := h2.1
    have k6 := h2.2.2.1.1
    have e0' : (rd S 67 0).toNatClampNeg = ta := by unfold rd; rw [h1]; exact i_cl (by omega)
    have e1 : rd S 67 1 = Int32.ofNat q := by unfold rd; rw [h1]; rfl
    have e3 : rd S 67 3 = if w.isSome then 1 else 0 := by unfold rd; rw [h1]; rfl
    have e4 : rd S 67 4 = lo := by unfold rd; rw [h1]; rfl
    have e5 : rd S 67 5 = hi := by unfold rd; rw [h1]; rfl
    have sm0 : ∀ k : Nat, k < 2147483648 → ¬ Int32.ofNat k < -10000 := fun k hk' => by
      rw [show (-10000 : Int32) = Int32.ofInt (-10000) from rfl, i_lt, i_ofInt (by decide) (by decide), i_of (by omega)]; omega
    have sm1 : ∀ k : Nat, k ≤ 100000 → ¬ (100000 : Int32) < Int32.ofNat k := fun k hk' => by
      rw [show (100000 : Int32) = Int32.ofNat 100000 from rfl, i_lt' (by omega) (by omega)]; omega
    rw [e1, if_neg (i_ne1 (by omega)), o_bind, if_pos rfl, e3, e0']
    cases w with
    | none =>
      rw [if_pos (show (if (none : Option (Nat × Nat)).isSome = true then (1 : Int32) else 0) = 0 from rfl), h2.past, o_bind]
      obtain ⟨-, -, -, r, d1, -⟩ := h2
      have := spart_pv (S := S) (o := o) (p := ta) (B := []) (f := Int32.ofNat q) (w := Int32.ofNat (q + (bV t).length)) ho.1 (sm0 _ (by omega)) (sm1 _ (by omega))
      rw [← e0] at this
      rw [this, o_bind, slice l4 d1 (by omega)]
      rfl
    | some ab =>
      obtain ⟨a, b⟩ := ab
      obtain ⟨w1, w2, w3⟩ := h3 a b rfl
      obtain ⟨x1, x2⟩ := h4 a b rfl
      have p34 : sput S o 34 = up S o (pv [34]) := by conv => lhs; rw [e0]
                                                      rw [sp1 _ _ (by decide)]; rfl
      have p91 : sput S o 91 = up S o (pv [91]) := by conv => lhs; rw [e0]
                                                      rw [sp1 _ _ (by decide)]; rfl
      rw [if_neg (show ¬ (if (some (a, b) : Option (Nat × Nat)).isSome = true then (1 : Int32) else 0) = 0 from fun e => absurd e (show ¬ (1 : Int32) = 0 by decide)), hk, o_bind]
      by_cases k4 : t.1 = 4
      · have hsz : size t = t.2.2.1.length := by unfold size; rw [if_pos k4]
        obtain ⟨-, -, w0, r, d1, -⟩ := h2
        have d1' : (tT S ta).drop q = pstr t.2.2.1 ++ r := by
          rw [d1]
          congr 1
          conv => lhs; rw [vl4 k4]
          rfl
        have c1 := charPlace_val l4 w0.2.2.1 d1' (k := a) (by omega)
        have c2 := charPlace_val l4 w0.2.2.1 d1' (k := b) (by omega)
        have dd : (tT S ta).drop (q + 1) = t.2.2.1.flatMap esc ++ 34 :: r := drop_more (w := [34]) (by rw [d1', pstr]; simp)
        have sp : t.2.2.1.flatMap esc = (t.2.2.1.take a).flatMap esc ++ (((t.2.2.1.drop a).take (b - a)).flatMap esc ++ (t.2.2.1.drop b).flatMap esc) := by
          rw [← List.flatMap_append, ← List.flatMap_append]
          congr 1
          rw [show t.2.2.1.drop b = (t.2.2.1.drop a).drop (b - a) by rw [List.drop_drop]; congr 1; omega, List.take_append_drop, List.take_append_drop]
        have sb : (t.2.2.1.take b).flatMap esc = (t.2.2.1.take a).flatMap esc ++ ((t.2.2.1.drop a).take (b - a)).flatMap esc := by
          rw [← List.flatMap_append]
          congr 1
          rw [show b = a + (b - a) by omega, List.take_add]
          simp
        rw [sp, List.append_assoc, List.append_assoc] at dd
        have dl := congrArg List.length dd
        rw [List.length_drop, List.length_append, List.length_append] at dl
        have dd2 := drop_more dd
        have cut := slice l4 dd2 (by omega)
        have ebl : q + 1 + ((t.2.2.1.take b).flatMap esc).length = q + 1 + ((t.2.2.1.take a).flatMap esc).length + (((t.2.2.1.drop a).take (b - a)).flatMap esc).length := by rw [sb, List.length_append]; omega
        have spv := spart_pv (S := S) (o := o) (p := ta) (B := [34]) (f := Int32.ofNat (q + 1 + ((t.2.2.1.take a).flatMap esc).length)) (w := Int32.ofNat (q + 1 + ((t.2.2.1.take b).flatMap esc).length)) ho.1 (sm0 _ (by omega)) (sm1 _ (by omega))
        rw [k4, if_pos (by decide), p34, r6, r6, r6, r6, e0', e1, e4, e5, x1, x2, tt, c1, o_bind, c2, o_bind, spv, o_bind, sp1 _ _ (by decide), ebl, cut]
        congr 3
        show _ = bV (outV (some (t, some (a, b))))
        unfold outV
        simp only
        rw [if_pos k4]
        show _ = pstr _
        unfold pstr
        simp
      · have k5 : t.1 = 5 := w3.resolve_left k4
        have hsz : size t = (toL t.2.2.2).length := by unfold size; rw [if_neg k4]
        have h2' := h2
        rw [vl5 k5] at h2'
        obtain ⟨it1, it2⟩ := h2'.items (Or.inl rfl)
        have eout : bV (outV (some (t, some (a, b)))) = 91 :: (jn ((((toL t.2.2.2).drop a).take (b - a)).map (bM false)) ++ [93]) := by
          unfold outV
          simp only
          rw [if_neg k4]
          show 91 :: (bF false (ofL _) ++ [93]) = _
          rw [bF_ofL]
        rw [if_neg (by rw [show (4 : Int32) = Int32.ofNat 4 from rfl, i_inj (by omega) (by omega)]; exact k4), p91, r6, r6, r6, r6, e0', e1, e4, e5, x1, x2, tt, eout]
        by_cases hab : a < b
        · obtain ⟨i1, ⟨z, r, hz, d1⟩, i3⟩ := h2'.item (Or.inl rfl) (j := a) (by omega)
          obtain ⟨j1, ⟨z', r', hz', d2⟩, j3⟩ := h2'.item (Or.inl rfl) (j := b - 1) (by omega)
          rw [show (5 == 6) = false from rfl] at i1 d1 i3 j1 d2 j3
          rw [List.drop_eq_getElem_cons (show b - 1 < (toL t.2.2.2).length by omega)] at d2
          obtain ⟨-, nend, -, -⟩ := nx l4 h2.2.1 (h2'.2.2.1.kids _ (List.getElem_mem (by omega))) hz' d2
          have ea : (toL t.2.2.2).drop a = ((toL t.2.2.2).drop a).take (b - a) ++ (toL t.2.2.2).drop b := by
            rw [show (toL t.2.2.2).drop b = ((toL t.2.2.2).drop a).drop (b - a) by rw [List.drop_drop]; congr 1; omega, List.take_append_drop]
          have hne : ((toL t.2.2.2).drop a).take (b - a) ≠ [] := by
            intro e
            have := congrArg List.length e
            rw [List.length_take, List.length_drop, List.length_nil] at this
            omega
          rw [ea, jn_app _ _ hne, List.append_assoc] at d1
          have cut := slice l4 d1 (by omega)
          have el := ip_last (b := false) (q := q + 1) (l := toL t.2.2.2) hab (by omega)
          have dl := congrArg List.length d1
          rw [List.length_drop, List.length_append] at dl
          have bm1 : Int32.ofNat b - 1 = Int32.ofNat (b - 1) := by
            apply Int32.toInt_inj.mp
            have a1 : (Int32.ofNat b).toInt = b := i_of (by omega)
            have z1 : (1 : Int32).toInt = 1 := rfl
            rw [i_sub (by omega) (by omega), a1, z1, i_of (by omega)]
            omega
          have spv := spart_pv (S := S) (o := o) (p := ta) (B := [91]) (f := Int32.ofNat (ip false (q + 1) (toL t.2.2.2) a)) (w := Int32.ofNat (ip false (q + 1) (toL t.2.2.2) a + (jn ((((toL t.2.2.2).drop a).take (b - a)).map (bM false))).length)) ho.1 (sm0 _ (by omega)) (sm1 _ (by omega))
          rw [if_neg (by rw [i_le' (by omega) (by omega)]; omega), i1, o_bind, bm1, j1, o_bind, nend, o_bind, el, spv, o_bind, sp1 _ _ (by decide), cut]
          simp
        · rw [if_pos ((i_le' (by omega) (by omega)).mpr (by omega)), sp1 _ _ (by decide), show b - a = 0 by omega, List.take_zero]
          rfl
end Write133
