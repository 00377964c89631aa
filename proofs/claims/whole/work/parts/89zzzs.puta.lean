/-! The class puts a value at the end of a path. -/
section PutA160
theorem sizeQ {S : SS} {ta q : Nat} {it : Int32} {k : Nat} {v : Int} {s : List Int32} {l : List Mb} {w : Option (Nat × Nat)} (hta : ta < 1000) (hk : k = 5 ∨ k = 6) (h : spQ S ta q it (k, v, s, ofL l) w) : p_size S = some (Int32.ofNat (winN (k, v, s, ofL l) w)) ∧ p_behind S = some (Int32.ofNat (winE (k, v, s, ofL l) w)) ∧ winE (k, v, s, ofL l) w ≤ l.length ∧ l.length < 4096 := by
  obtain ⟨lo, hi, h1, h2, h3, h4⟩ := h
  obtain ⟨i1, i2⟩ := h2.items hk
  have e0 : (rd S 67 0).toNatClampNeg = ta := by unfold rd; rw [h1]; exact i_cl (by omega)
  have e1 : rd S 67 1 = Int32.ofNat q := by unfold rd; rw [h1]; rfl
  have e3 : rd S 67 3 = if w.isSome then 1 else 0 := by unfold rd; rw [h1]; rfl
  have e4 : rd S 67 4 = lo := by unfold rd; rw [h1]; rfl
  have e5 : rd S 67 5 = hi := by unfold rd; rw [h1]; rfl
  have hsz : size (k, v, s, ofL l) = l.length := by
    unfold size
    rw [if_neg (show ¬ ((k, v, s, ofL l) : Vl).1 = 4 by show ¬ k = 4; omega)]
    exact congrArg List.length (toL_ofL l)
  unfold p_size p_behind
  cases w with
  | none =>
    rw [e3, if_pos (show (if (none : Option (Nat × Nat)).isSome = true then (1 : Int32) else 0) = 0 from rfl), e0, e1, i1, o_bind, if_pos (show (if (none : Option (Nat × Nat)).isSome = true then (1 : Int32) else 0) = 0 from rfl)]
    have : winN (k, v, s, ofL l) none = l.length := hsz
    unfold winE winA
    simp only [this, Nat.zero_add]
    exact ⟨trivial, trivial, Nat.le_refl _, i2⟩
  | some ab =>
    obtain ⟨a, b⟩ := ab
    obtain ⟨w1, w2, -⟩ := h3 a b rfl
    obtain ⟨x1, x2⟩ := h4 a b rfl
    rw [hsz] at w2
    rw [e3, if_neg (show ¬ (if (some (a, b) : Option (Nat × Nat)).isSome = true then (1 : Int32) else 0) = 0 from fun e => absurd e (show ¬ (1 : Int32) = 0 by decide)), e4, e5, x1, x2, i_subN (by omega) (by omega), if_neg (show ¬ (if (some (a, b) : Option (Nat × Nat)).isSome = true then (1 : Int32) else 0) = 0 from fun e => absurd e (show ¬ (1 : Int32) = 0 by decide))]
    unfold winE winA winN
    simp only
    refine ⟨trivial, ?_, by omega, i2⟩
    rw [show a + (b - a) = b by omega]
theorem fromQ {S : SS} {k : Int} {n : Nat} (hk : -9007199254740991 ≤ k ∧ k ≤ 9007199254740991) (hn : n ≤ 9000) : ∃ r, p_fromStart S (Int64.ofInt k) (Int32.ofNat n) = some r ∧ r.toInt = atX k n := by
  have z0 : (0 : Int64).toInt = 0 := rfl
  have l1 := l_of (z := k) (by omega) (by omega)
  have hnt : ((Int32.ofNat n).toInt64).toInt = n := by rw [l_32 n (by omega), l_of (by omega) (by omega)]
  unfold p_fromStart atX
  by_cases hs : k < 0
  · refine ⟨_, if_neg (by rw [lg_ge, l1, z0]; omega), ?_⟩
    rw [l_add (by rw [l1]; omega) (by rw [hnt]; omega), l1, hnt, if_pos hs]
  · exact ⟨_, if_pos ((lg_ge _ _).mpr (by rw [l1, z0]; omega)), by rw [l1, if_neg hs]⟩
theorem nothQ {S : SS} {ta q : Nat} {it : Int32} {t : Vl} {w : Option (Nat × Nat)} (h : spQ S ta q it t w) : p_nothing S = some 0 := by
  obtain ⟨lo, hi, h1, h2, -⟩ := h
  have := h2.lt
  have := h2.1
  have e1 : rd S 67 1 = Int32.ofNat q := by unfold rd; rw [h1]; rfl
  unfold p_nothing
  rw [e1, if_neg (i_ne1 (by omega))]
theorem nothN {S : SS} {ta : Nat} (h : spN S ta) : p_nothing S = some 1 := by
  obtain ⟨it, lo, hi, h1⟩ := h
  have e1 : rd S 67 1 = -1 := by unfold rd; rw [h1]; rfl
  unfold p_nothing
  rw [e1, if_pos rfl]
theorem partF {S : SS} {ta q : Nat} {it : Int32} {t : Vl} {w : Option (Nat × Nat)} (h : spQ S ta q it t w) : p_isPart S = some (if w.isSome then 1 else 0) := by
  obtain ⟨lo, hi, h1, h2, -⟩ := h
  have e3 : rd S 67 3 = if w.isSome then 1 else 0 := by unfold rd; rw [h1]; rfl
  unfold p_isPart
  rw [e3]
  cases w with
  | none =>
    show some ((0 : Int32) &&& 1) = some 0
    rw [show ((0 : Int32) &&& 1) = 0 by decide]
  | some ab =>
    show some ((1 : Int32) &&& 1) = some 1
    rw [show ((1 : Int32) &&& 1) = 1 by decide]
theorem isNullQ {S : SS} {ta q : Nat} {it : Int32} {t : Vl} {w : Option (Nat × Nat)} (hta : ta < 1000) (h : spQ S ta q it t w) : p_isNull S = some (if t.1 = 0 then 1 else 0) := by
  unfold p_isNull
  rw [h.c.kind hta, o_bind]
  obtain ⟨lo, hi, h1, h2, -⟩ := h
  have k6 := h2.2.2.1.1
  by_cases e : t.1 = 0
  · rw [e, if_pos (by rfl), if_pos rfl]
  · rw [if_neg (by rw [show (0 : Int32) = Int32.ofNat 0 from rfl, i_inj (by omega) (by omega)]; exact e), if_neg e]
theorem putS_null {t : Vl} (h : t.1 = 0) (ss : List Vl) (w : Option (Nat × Nat)) (v : Vl) : putS ss t w v = putS ss vNull w v := by
  cases ss with
  | nil =>
    cases w with
    | none => rfl
    | some ab =>
      obtain ⟨a, b⟩ := ab
      show (if v.1 = 5 then (if t.1 = 5 then _ else _) else _) = (if v.1 = 5 then (if vNull.1 = 5 then _ else _) else _)
      rw [if_neg (show ¬ t.1 = 5 by omega), if_neg (show ¬ vNull.1 = 5 by decide)]
  | cons pi ps =>
    have n5 : ¬ t.1 = 5 := by omega
    have n6 : ¬ t.1 = 6 := by omega
    have m5 : ¬ vNull.1 = 5 := by decide
    have m6 : ¬ vNull.1 = 6 := by decide
    have m0 : vNull.1 = 0 := rfl
    unfold putS
    rw [if_neg n5, if_neg m5, if_pos h, if_pos m0, if_neg n6, if_neg m6, if_pos h, if_pos m0, if_neg n5, if_neg m5, if_pos h, if_pos m0]
theorem setM_in {l : List Mb} {s : List Int32} (u : Vl) (hj : l.findIdx (fun m => m.1 == s) < l.length) : setM l s u = l.set (l.findIdx (fun m => m.1 == s)) ((l[l.findIdx (fun m => m.1 == s)]).1, u) := by
  unfold setM
  rw [if_pos hj]
  have : (l[l.findIdx (fun m => m.1 == s)]).1 = s := eq_of_beq (List.findIdx_getElem (w := hj))
  rw [this]
theorem getD_in {l : List Mb} {j : Nat} (d : Mb) (h : j < l.length) : l.getD j d = l[j] := by
  rw [List.getD_eq_getElem?_getD, List.getElem?_eq_getElem h]
  rfl
theorem placeL {S : SS} {ta q : Nat} {it : Int32} {v0 : Int} {s0 : List Int32} {l : List Mb} {w : Option (Nat × Nat)} {k : Int} (hta : ta < 1000 ∧ ta ≠ 67) (h : spQ S ta q it (5, v0, s0, ofL l) w) (hk : -9007199254740991 ≤ k ∧ k ≤ 9007199254740991) : (0 ≤ atX k (winN (5, v0, s0, ofL l) w) ∧ atX k (winN (5, v0, s0, ofL l) w) < winN (5, v0, s0, ofL l) w → ∃ (S' : SS) (hj : winA (5, v0, s0, ofL l) w + (atX k (winN (5, v0, s0, ofL l) w)).toNat < l.length), p_byPlace S (Int64.ofInt k) = some (S', 0) ∧ fr67 S S' ∧ spQ S' ta (ip false (q + 1) l (winA (5, v0, s0, ofL l) w + (atX k (winN (5, v0, s0, ofL l) w)).toNat)) (Int32.ofNat (ip false (q + 1) l (winA (5, v0, s0, ofL l) w + (atX k (winN (5, v0, s0, ofL l) w)).toNat))) (l[winA (5, v0, s0, ofL l) w + (atX k (winN (5, v0, s0, ofL l) w)).toNat]).2 none) ∧ (¬ (0 ≤ atX k (winN (5, v0, s0, ofL l) w) ∧ atX k (winN (5, v0, s0, ofL l) w) < winN (5, v0, s0, ofL l) w) → ∃ S', p_byPlace S (Int64.ofInt k) = some (S', 0) ∧ fr67 S S' ∧ spN S' ta) := by
  obtain ⟨S', a1, a2, a3⟩ := placeQ hta h hk rfl
  unfold spPX at a3
  refine ⟨fun c => ?_, fun c => ?_⟩
  · rw [if_pos c] at a3
    simp only [toL_ofL] at a3
    obtain ⟨hj, a3⟩ := a3
    exact ⟨S', hj, a1, a2, a3⟩
  · rw [if_neg c] at a3
    exact ⟨S', a1, a2, a3⟩
theorem pstep3 {S : SS} {t1 q2 : Nat} {pi : Vl} (h : vat (tT S t1) q2 pi) (e3 : pi.1 = 3) : p_step S t1 (Int32.ofNat q2) = ((p_byPlace S (Int64.ofInt pi.2.1)).bind fun r6 => some (r6.1, r6.2)) := by
  have h' := h
  rw [vl3 e3] at h'
  unfold p_step
  rw [h.kind, o_bind, if_pos (by rw [e3]; rfl), h'.number, o_bind]
theorem pstep4 {S : SS} {t1 q2 : Nat} {pi : Vl} (h : vat (tT S t1) q2 pi) (e4 : pi.1 = 4) : p_step S t1 (Int32.ofNat q2) = ((p_byName S t1 (Int32.ofNat q2)).bind fun r9 => some (r9.1, r9.2)) := by
  unfold p_step
  rw [h.kind, o_bind, if_neg (by rw [e4]; decide), if_pos (by rw [e4]; rfl)]
theorem pstep6 {S : SS} {t1 q2 : Nat} {pi : Vl} (h : vat (tT S t1) q2 pi) (e6 : pi.1 = 6) : p_step S t1 (Int32.ofNat q2) = ((p_byPart S t1 (Int32.ofNat q2)).bind fun r12 => some (r12.1, r12.2)) := by
  unfold p_step
  rw [h.kind, o_bind, if_neg (by rw [e6]; decide), if_neg (by rw [e6]; decide), if_pos (by rw [e6]; rfl)]
theorem pstepX {S : SS} {t1 q2 : Nat} {pi : Vl} (h : vat (tT S t1) q2 pi) (e3 : pi.1 ≠ 3) (e4 : pi.1 ≠ 4) (e6 : pi.1 ≠ 6) : p_step S t1 (Int32.ofNat q2) = some (S, 1) := by
  have k6 := h.2.2.1.1
  unfold p_step
  rw [h.kind, o_bind, if_neg (by rw [show (3 : Int32) = Int32.ofNat 3 from rfl, i_inj (by omega) (by omega)]; exact e3), if_neg (by rw [show (4 : Int32) = Int32.ofNat 4 from rfl, i_inj (by omega) (by omega)]; exact e4), if_neg (by rw [show (6 : Int32) = Int32.ofNat 6 from rfl, i_inj (by omega) (by omega)]; exact e6)]
theorem str_at {us : List Int32} {q : Nat} {pi : Vl} (h : vat us q pi) (e4 : pi.1 = 4) : us.length ≤ 4096 ∧ asc us ∧ okS pi.2.2.1 ∧ ∃ r, us.drop q = pstr pi.2.2.1 ++ r := by
  obtain ⟨l1, l2, w0, r, d1, -⟩ := h
  refine ⟨l1, l2, w0.2.2.1, r, ?_⟩
  rw [d1]
  congr 1
  conv => lhs; rw [vl4 e4]
  rfl
theorem wE_N (t : Vl) (w : Option (Nat × Nat)) : winE t w = winA t w + winN t w := rfl
theorem putA {ta t1 t2 dr : Nat} {us vs : List Int32} {vt : Vl} {vp : Int} {sp : List Int32} {lp : List Mb} (hp : vat vs 0 (5, vp, sp, ofL lp)) (hlp : lp.length ≤ 100) (hv : vat (bV vt) 0 vt) (hus : us.length ≤ 4096) : ∀ (m j n : Nat) (S : SS) (q : Nat) (it : Int32) (t : Vl) (w : Option (Nat × Nat)) (K : Vl → Vl), j + m = lp.length → m < n → txU S ta t1 t2 dr us vs (bV vt) → goS S ta dr → spQ S ta q it t w → (w.isSome → t.1 = 5) → ctx us q t K → ∃ S' e, u_put_l44 ta t1 t2 dr n S (Int32.ofNat lp.length) (if m = 0 then -1 else Int32.ofNat (ip false 1 lp j)) (Int32.ofNat j) = some (S', e) ∧ frU S S' dr ∧ (S' 71).length = 100 ∧ (e = 0 → ∃ U, putS ((lp.drop j).map fun m => m.2) t w vt = some U ∧ wV (K U) ∧ ∃ Bf, S' dr = pv Bf ∧ eqT Bf (bV (K U))) ∧ (e ≠ 0 → putS ((lp.drop j).map fun m => m.2) t w vt = none) := by
  intro m
  induction m with
  | zero =>
    intro j n S q it t w K hj hn hT hg hq hw hK
    obtain ⟨n, rfl⟩ : ∃ j, n = j + 1 := ⟨n - 1, by omega⟩
    have ej : j = lp.length := by omega
    subst ej
    obtain ⟨h1, h2, h3, h4⟩ := id hg
    obtain ⟨c1, c2, c3, c4⟩ := h1.flag
    obtain ⟨t1', t2', t3', t4', t5', t6', t7', t8', t9', t10'⟩ := id hT
    rw [List.drop_eq_nil_of_le (Nat.le_refl _)]
    show ∃ S' e, (if Int32.ofNat lp.length ≤ Int32.ofNat lp.length then _ else _) = some (S', e) ∧ _
    rw [if_pos ((i_le' (by omega) (by omega)).mpr (Nat.le_refl _)), c2, if_pos rfl, partF hq, o_bind, c4, if_pos rfl]
    cases w with
    | none =>
      obtain ⟨S1, a1, a2, a3⟩ := uvalue_val t7' t4' t8' t1' hq h1 h2 h3 h4
      have hT1 := hT.fr a3
      obtain ⟨g1, g2, g3⟩ := wrS.grow (B' := us.take q ++ bV vt) t7' a2
      have hT2 := hT1.fr g2
      obtain ⟨lo, hi, q1, q2, -⟩ := id hq
      rw [t1'] at q2
      have hlt := q2.lt
      obtain ⟨S', k1, k2, k3, k4⟩ := uclose_val t7' t4'.1 t8' hus (by omega) (Or.inl rfl) (by decide) (fun u hu => by cases hu) hT2.1 g1
      have hl := hv.1
      refine ⟨S', 0, ?_, (a3.trans g2).trans k3, k4, fun _ => ⟨vt, rfl, hK.1 _ hv.2.2.1, _, k2, Or.inl ?_⟩, fun c => absurd rfl c⟩
      · rw [if_pos (show (if (none : Option (Nat × Nat)).isSome = true then (1 : Int32) else 0) = 0 from rfl)]
        unfold u_fill
        rw [c2, if_pos rfl, a1, o_bind, a2.1.dr t7'.1, hT1.2.2.1, show (0 : Int32) = Int32.ofNat 0 from rfl, spart_at a2.2.2.2 (fun e => t10' e.symm) (by omega) (by omega), o_bind, hT1.2.2.1, List.take_of_length_le (Nat.le_refl _), List.drop_zero, o_bind, k1, o_bind]
      · rw [hK.2, if_neg (by decide)]
        simp
    | some ab =>
      obtain ⟨a, b⟩ := ab
      have e5 := hw rfl
      obtain ⟨kt, v0, s0, ft⟩ := t
      obtain ⟨l, rfl⟩ : ∃ l, ft = ofL l := ⟨toL ft, (ofL_toL ft).symm⟩
      have e5 : kt = 5 := e5
      subst e5
      rw [if_neg (show ¬ (if (some (a, b) : Option (Nat × Nat)).isSome = true then (1 : Int32) else 0) = 0 from fun e => absurd e (show ¬ (1 : Int32) = 0 by decide)), t3', show (0 : Int32) = Int32.ofNat 0 from rfl, hv.kind, o_bind]
      have k6 := hv.2.2.1.1
      by_cases e5 : vt.1 = 5
      · obtain ⟨kv, vv, sv, fv⟩ := vt
        obtain ⟨lv, rfl⟩ : ∃ l, fv = ofL l := ⟨toL fv, (ofL_toL fv).symm⟩
        have e5 : kv = 5 := e5
        subst e5
        obtain ⟨S', k1, k2, k3, k4⟩ := fillPart_val t7' t4' t6' t8' t10' t1' t3' hv hq hK hg
        rw [if_pos (show Int32.ofNat 5 = 5 from rfl)]
        refine ⟨S', 0, k1, k2, k3, fun _ => ⟨(5, v0, s0, ofL (l.take a ++ (lv ++ l.drop b))), ?_, ?_, _, k4, Or.inl rfl⟩, fun c => absurd rfl c⟩
        · show (if (5 : Nat) = 5 then (if (5 : Nat) = 5 then some (5, v0, s0, ofL ((toL (ofL l)).take a ++ (toL (ofL lv) ++ (toL (ofL l)).drop b))) else _) else none) = _
          rw [if_pos rfl, if_pos rfl, toL_ofL, toL_ofL]
        · refine hK.1 _ (wV_5 ?_ ?_)
          · obtain ⟨lo, hi, q1, q2, -⟩ := hq
            exact q2.2.2.1.2.2.1
          · obtain ⟨lo, hi, q1, q2, -⟩ := hq
            intro x hx
            rcases List.mem_append.mp hx with c | c
            · exact q2.2.2.1.kids x (List.mem_of_mem_take c)
            · rcases List.mem_append.mp c with c | c
              · exact hv.2.2.1.kids x c
              · exact q2.2.2.1.kids x (List.mem_of_mem_drop c)
      · rw [if_neg (by rw [show (5 : Int32) = Int32.ofNat 5 from rfl, i_inj (by omega) (by omega)]; exact e5)]
        refine ⟨S, 1, rfl, frU.refl _ _, h2, fun c => absurd c (by decide), fun _ => ?_⟩
        show (if vt.1 = 5 then _ else none) = _
        rw [if_neg e5]
  | succ m ih =>
    intro j n S q it t w K hj hn hT hg hq hw hK
    obtain ⟨n, rfl⟩ : ∃ j, n = j + 1 := ⟨n - 1, by omega⟩
    have hjl : j < lp.length := by omega
    obtain ⟨h1, h2, h3, h4⟩ := id hg
    obtain ⟨c1, c2, c3, c4⟩ := h1.flag
    obtain ⟨t1', t2', t3', t4', t5', t6', t7', t8', t9', t10'⟩ := id hT
    obtain ⟨s1, s2⟩ := step_at hp hjl
    have el : (lp.drop j).map (fun m => m.2) = (lp[j]).2 :: (lp.drop (j + 1)).map (fun m => m.2) := by rw [List.drop_eq_getElem_cons hjl, List.map_cons]
    have enx : (if j + 1 < lp.length then Int32.ofNat (ip false 1 lp (j + 1)) else (-1 : Int32)) = if m = 0 then -1 else Int32.ofNat (ip false 1 lp (j + 1)) := by
      by_cases c : m = 0
      · rw [if_pos c, if_neg (by omega)]
      · rw [if_neg c, if_pos (by omega)]
    rw [enx] at s2
    obtain ⟨pi, hpi⟩ : ∃ pi, pi = (lp[j]).2 := ⟨_, rfl⟩
    rw [← hpi] at s1 el
    have k6 := s1.2.2.1.1
    have s1S : vat (tT S t1) (ip false 1 lp j) pi := by rw [t2']; exact s1
    have hk := s1S.kind
    obtain ⟨ps, hps⟩ : ∃ ps, ps = (lp.drop (j + 1)).map (fun m => m.2) := ⟨_, rfl⟩
    rw [if_neg (by omega : ¬ m + 1 = 0), el, ← hps]
    obtain ⟨lo, hi, q1, q2, q3, q4⟩ := id hq
    have q2u := q2
    rw [t1'] at q2u
    have hlt := q2u.lt
    have tk6 := q2.2.2.1.1
    -- how the loop goes on
    have stepG : ∀ X, u_null S t1 (Int32.ofNat (ip false 1 lp j)) = some S → u_goOn S t1 (Int32.ofNat (ip false 1 lp j)) = some X → u_put_l44 ta t1 t2 dr (n + 1) S (Int32.ofNat lp.length) (Int32.ofNat (ip false 1 lp j)) (Int32.ofNat j) = if X.2 = 0 then ((t_next (tT X.1 t1) (Int32.ofNat (ip false 1 lp j))).bind fun r48 => u_put_l44 ta t1 t2 dr n X.1 (Int32.ofNat lp.length) r48 (Int32.ofNat (j + 1))) else some (X.1, X.2) := by
      intro X h0 hX
      show (if Int32.ofNat lp.length ≤ Int32.ofNat j then _ else (if rd S 69 6 = 0 then _ else _)) = _
      rw [if_neg (by rw [i_le' (by omega) (by omega)]; omega), c2, if_pos rfl, h0, o_bind, c2, if_pos rfl, hX, o_bind, i_a1]
    have stepW : ∀ R, u_null S t1 (Int32.ofNat (ip false 1 lp j)) = some R → rd R 69 6 = 1 → u_put_l44 ta t1 t2 dr (n + 1) S (Int32.ofNat lp.length) (Int32.ofNat (ip false 1 lp j)) (Int32.ofNat j) = u_put_l44 ta t1 t2 dr (n + 1) R (Int32.ofNat lp.length) (Int32.ofNat (ip false 1 lp j)) (Int32.ofNat j) := by
      intro R h0 hR
      have nl : ¬ Int32.ofNat lp.length ≤ Int32.ofNat j := by rw [i_le' (by omega) (by omega)]; omega
      show (if Int32.ofNat lp.length ≤ Int32.ofNat j then _ else (if rd S 69 6 = 0 then _ else _)) = _
      rw [if_neg nl, c2, if_pos rfl, h0, o_bind, hR, if_neg (by decide)]
      symm
      show (if Int32.ofNat lp.length ≤ Int32.ofNat j then _ else (if rd R 69 6 = 0 then _ else _)) = _
      rw [if_neg nl, hR, if_neg (by decide)]
    have refuse : ∀ X, u_null S t1 (Int32.ofNat (ip false 1 lp j)) = some S → u_goOn S t1 (Int32.ofNat (ip false 1 lp j)) = some X → X.2 ≠ 0 → frU S X.1 dr → (X.1 71).length = 100 → putS (pi :: ps) t w vt = none → ∃ S' e, u_put_l44 ta t1 t2 dr (n + 1) S (Int32.ofNat lp.length) (Int32.ofNat (ip false 1 lp j)) (Int32.ofNat j) = some (S', e) ∧ frU S S' dr ∧ (S' 71).length = 100 ∧ (e = 0 → ∃ U, putS (pi :: ps) t w vt = some U ∧ wV (K U) ∧ ∃ Bf, S' dr = pv Bf ∧ eqT Bf (bV (K U))) ∧ (e ≠ 0 → putS (pi :: ps) t w vt = none) := by
      intro X h0 hX hx hf hl hn
      exact ⟨X.1, X.2, by rw [stepG X h0 hX, if_neg hx], hf, hl, fun c => absurd c hx, fun _ => hn⟩
    -- it is there
    have found : ∀ (S1 : SS) (q' : Nat) (it' : Int32) (t' : Vl) (w' : Option (Nat × Nat)) (F : Vl → Vl), u_null S t1 (Int32.ofNat (ip false 1 lp j)) = some S → u_goOn S t1 (Int32.ofNat (ip false 1 lp j)) = some (S1, 0) → fr67 S S1 → spQ S1 ta q' it' t' w' → (w'.isSome → t'.1 = 5) → ctx us q' t' (fun u => K (F u)) → putS (pi :: ps) t w vt = (putS ps t' w' vt).map F → ∃ S' e, u_put_l44 ta t1 t2 dr (n + 1) S (Int32.ofNat lp.length) (Int32.ofNat (ip false 1 lp j)) (Int32.ofNat j) = some (S', e) ∧ frU S S' dr ∧ (S' 71).length = 100 ∧ (e = 0 → ∃ U, putS (pi :: ps) t w vt = some U ∧ wV (K U) ∧ ∃ Bf, S' dr = pv Bf ∧ eqT Bf (bV (K U))) ∧ (e ≠ 0 → putS (pi :: ps) t w vt = none) := by
      intro S1 q' it' t' w' F h0 hG hf hq' hw' hc hS
      have hf' := frU_67 dr hf
      have hT1 := hT.fr hf'
      obtain ⟨S', e, j1, j2, j3, j4, j5⟩ := ih (j + 1) n S1 q' it' t' w' _ (by omega) (by omega) hT1 (hg.fr t7' hf) hq' hw' hc
      rw [← hps] at j4 j5
      refine ⟨S', e, ?_, hf'.trans j2, j3, fun he => ?_, fun he => ?_⟩
      · rw [stepG _ h0 hG, if_pos rfl, hT1.2.1, s2, o_bind]
        exact j1
      · obtain ⟨U, z1, z2, Bf, z3, z4⟩ := j4 he
        exact ⟨F U, by rw [hS, z1]; rfl, z2, Bf, z3, z4⟩
      · rw [hS, j5 he]
        rfl
    -- nothing is there: it is written from here on
    have grown : ∀ (S1 : SS) (B B0 : List Int32) (f : Int32) (to : Nat) (cb ch : Int32) (F : Vl → Vl), u_null S t1 (Int32.ofNat (ip false 1 lp j)) = some S → u_goOn S t1 (Int32.ofNat (ip false 1 lp j)) = some (S1, 0) → frU S S1 dr → wrS S1 ta dr 0 0 [] B f (Int32.ofNat to) cb ch → to ≤ us.length → (ch = 0 ∨ ch = 1) → wctx B0 ((if ch = 1 then [44] else []) ++ us.drop to) (fun u => K (F u)) → eqT B B0 → putS (pi :: ps) t w vt = (putS ps vNull none vt).map F → ∃ S' e, u_put_l44 ta t1 t2 dr (n + 1) S (Int32.ofNat lp.length) (Int32.ofNat (ip false 1 lp j)) (Int32.ofNat j) = some (S', e) ∧ frU S S' dr ∧ (S' 71).length = 100 ∧ (e = 0 → ∃ U, putS (pi :: ps) t w vt = some U ∧ wV (K U) ∧ ∃ Bf, S' dr = pv Bf ∧ eqT Bf (bV (K U))) ∧ (e ≠ 0 → putS (pi :: ps) t w vt = none) := by
      intro S1 B B0 f to cb ch F h0 hG hf hW hto hch hc hE hS
      have hT1 := hT.fr hf
      obtain ⟨S', e, j1, j2, j3, j4, j5⟩ := putB hp hlp hv hus hto hch m (j + 1) n S1 B B0 [] 0 0 _ (by omega) (by omega) (by simp) (fun u hu => by cases hu) (Or.inl rfl) (Or.inl rfl) hT1 hW hc hE
      rw [← hps] at j4 j5
      refine ⟨S', e, ?_, hf.trans j2, j3, fun he => ?_, fun he => ?_⟩
      · rw [stepG _ h0 hG, if_pos rfl, hT1.2.1, s2, o_bind]
        exact j1
      · obtain ⟨-, U, z1, z2, Bf, z3, z4⟩ := j4 he
        have z1 : putS ps vNull none vt = some U := z1
        exact ⟨F U, by rw [hS, z1]; rfl, z2, Bf, z3, z4⟩
      · rcases j5 he with c | c
        · exact absurd c (by decide)
        · have c : putS ps vNull none vt = none := c
          rw [hS, c]
          rfl
    -- null
    by_cases e0 : t.1 = 0
    · have hwn : w = none := by
        cases w with
        | none => rfl
        | some ab =>
          have := hw rfl
          omega
      subst hwn
      have f0 : frU S (wr S 69 7 0) dr := fun a n1 n2 n3 n4 n5 => wr_ne n2
      have tt0 : tT (wr S 69 7 0) ta = us := by unfold tT at *; rw [wr_ne t4'.2.2.1]; exact t1'
      obtain ⟨R, b1, b2, b3⟩ := uvalue_val (S := wr S 69 7 0) t7' t4' t8' tt0 (hq.move (wr_ne (by decide)) (wr_ne t4'.2.2.1)) (h1.w7 0) (by rw [wr_ne (by decide)]; exact h2) (by rw [wr_ne (by decide)]; exact h3) (by rw [wr_ne t7'.2.2.1]; exact h4)
      have hn0 : u_null S t1 (Int32.ofNat (ip false 1 lp j)) = some R := by
        unfold u_null
        rw [partF hq, o_bind, if_pos (show (if (none : Option (Nat × Nat)).isSome = true then (1 : Int32) else 0) = 0 from rfl), isNullQ t4'.1 hq, o_bind, if_pos e0, if_neg (by decide), b1, o_bind]
      have hT1 := hT.fr (f0.trans b3)
      obtain ⟨S', e, j1, j2, j3, j4, j5⟩ := putB hp hlp hv hus (to := q + (bV t).length) (by omega) (Or.inl rfl) (m + 1) j (n + 1) R (us.take q) (us.take q) [] 0 0 K (by omega) (by omega) (by simp) (fun u hu => by cases hu) (Or.inl rfl) (Or.inl rfl) hT1 b2 (by rw [if_neg (show ¬ (0 : Int32) = 1 by decide)]; exact hK) (eqT.refl _)
      rw [el, ← hps] at j4 j5
      rw [if_neg (by omega : ¬ m + 1 = 0)] at j1
      refine ⟨S', e, by rw [stepW R hn0 b2.1.flag.2.1]; exact j1, (f0.trans b3).trans j2, j3, fun he => ?_, fun he => ?_⟩
      · obtain ⟨-, U, z1, z2⟩ := j4 he
        exact ⟨U, by rw [putS_null e0]; exact z1, z2⟩
      · rcases j5 he with c | c
        · exact absurd c (by decide)
        · rw [putS_null e0]; exact c
    -- a name behind a part
    by_cases e4p : w.isSome = true ∧ pi.1 = 4
    · obtain ⟨ew, e4⟩ := e4p
      have f0 : frU S (wr S 69 7 1) dr := fun a n1 n2 n3 n4 n5 => wr_ne n2
      have tt0 : tT (wr S 69 7 1) ta = us := by unfold tT at *; rw [wr_ne t4'.2.2.1]; exact t1'
      obtain ⟨R, b1, b2, b3⟩ := uvalue_val (S := wr S 69 7 1) t7' t4' t8' tt0 (hq.move (wr_ne (by decide)) (wr_ne t4'.2.2.1)) (h1.w7 1) (by rw [wr_ne (by decide)]; exact h2) (by rw [wr_ne (by decide)]; exact h3) (by rw [wr_ne t7'.2.2.1]; exact h4)
      have hn0 : u_null S t1 (Int32.ofNat (ip false 1 lp j)) = some R := by
        unfold u_null
        rw [partF hq, o_bind, if_pos ew, if_neg (by decide), hk, o_bind, if_pos (by rw [e4]; rfl), b1, o_bind]
      have hT1 := hT.fr (f0.trans b3)
      obtain ⟨S', e, j1, j2, j3, j4, j5⟩ := putB hp hlp hv hus (to := q + (bV t).length) (by omega) (Or.inl rfl) (m + 1) j (n + 1) R (us.take q) (us.take q) [] 1 0 K (by omega) (by omega) (by simp) (fun u hu => by cases hu) (Or.inr rfl) (Or.inl rfl) hT1 b2 (by rw [if_neg (show ¬ (0 : Int32) = 1 by decide)]; exact hK) (eqT.refl _)
      rw [el, ← hps] at j4 j5
      rw [if_neg (by omega : ¬ m + 1 = 0)] at j1
      have none1 : ∀ t' w', (w' : Option (Nat × Nat)).isSome = true → putS (pi :: ps) t' w' vt = none := fun t' w' h => by
        show (if pi.1 = 6 then _ else if pi.1 = 4 then (if w'.isSome then none else _) else _) = none
        rw [if_neg (by omega), if_pos e4, if_pos h]
      refine ⟨S', e, by rw [stepW R hn0 b2.1.flag.2.1]; exact j1, (f0.trans b3).trans j2, j3, fun he => ?_, fun he => none1 t w ew⟩
      obtain ⟨-, U, z1, -⟩ := j4 he
      rw [none1 vNull (wB 1) rfl] at z1
      cases z1
    have hn0 : u_null S t1 (Int32.ofNat (ip false 1 lp j)) = some S := by
      unfold u_null
      rw [partF hq, o_bind]
      by_cases ew : w.isSome = true
      · have i4 : ¬ Int32.ofNat pi.1 = 4 := by
          rw [show (4 : Int32) = Int32.ofNat 4 from rfl, i_inj (by omega) (by omega)]
          exact fun c => e4p ⟨ew, c⟩
        rw [if_pos ew, if_neg (by decide), hk, o_bind, if_neg i4, isNullQ t4'.1 hq, o_bind, if_neg e0, if_pos rfl]
      · rw [if_neg ew, if_pos rfl, isNullQ t4'.1 hq, o_bind, if_neg e0, if_pos rfl]
    have epl : p_place S = some (Int32.ofNat q) := by
      unfold p_place rd
      rw [q1]
      rfl
    have htk := hq.c.kind t4'.1
    have z0 : (0 : Int64).toInt = 0 := rfl
    have z1 : (1000 : Int64).toInt = 1000 := rfl
    have l00 : ¬ lg_cmp 0 0 < 0 := by rw [lg_lt]; omega
    have l01 : lg_cmp 0 1000 ≤ 0 := by rw [lg_le, z0, z1]; omega
    have hta2 : ta < 1000 ∧ ta ≠ 67 := ⟨t4'.1, t4'.2.1⟩
    by_cases e5 : t.1 = 5
    · obtain ⟨kt, v0, s0, ft⟩ := t
      obtain ⟨l, rfl⟩ : ∃ l, ft = ofL l := ⟨toL ft, (ofL_toL ft).symm⟩
      have e5 : kt = 5 := e5
      subst e5
      obtain ⟨z2, z3, z4, z5⟩ := sizeQ t4'.1 (Or.inl rfl) hq
      have wn : winN (5, v0, s0, ofL l) w ≤ 4096 := by rw [wE_N] at z4; omega
      have eb : ((5 : Nat) == 6) = false := rfl
      by_cases e3 : pi.1 = 3
      · have s1' := s1S
        rw [vl3 e3] at s1'
        have hx := s1.2.2.1.2.1 e3
        obtain ⟨r15, f1, f2⟩ := fromQ (S := S) (n := winN (5, v0, s0, ofL l) w) hx (by omega)
        obtain ⟨X, hX⟩ : ∃ X, X = atX pi.2.1 (winN (5, v0, s0, ofL l) w) := ⟨_, rfl⟩
        have eS : putS (pi :: ps) (5, v0, s0, ofL l) w vt = if 0 ≤ X ∧ X ≤ 1000 then (if X < winN (5, v0, s0, ofL l) w then (putS ps ((l.getD (winA (5, v0, s0, ofL l) w + X.toNat) nulM).2) none vt).map (fun u => (5, v0, s0, ofL (l.set (winA (5, v0, s0, ofL l) w + X.toNat) ((l.getD (winA (5, v0, s0, ofL l) w + X.toNat) nulM).1, u)))) else (putS ps vNull none vt).map (fun u => (5, v0, s0, ofL (l.take (winE (5, v0, s0, ofL l) w) ++ (List.replicate (X.toNat - winN (5, v0, s0, ofL l) w) nulM ++ ([], u) :: l.drop (winE (5, v0, s0, ofL l) w)))))) else none := by
          rw [hX]
          show (if pi.1 = 6 then _ else if pi.1 = 4 then _ else if pi.1 = 3 then (if (5 : Nat) = 5 then _ else _) else _) = _
          rw [if_neg (by omega), if_neg (by omega), if_pos e3, if_pos rfl]
          simp only [toL_ofL]
        rw [← hX] at f2
        have eG : u_goOn S t1 (Int32.ofNat (ip false 1 lp j)) = if (lg_cmp r15 0) < 0 then some (S, 2) else (if (lg_cmp r15 1000) ≤ 0 then ((p_step S t1 (Int32.ofNat (ip false 1 lp j))).bind fun r19 => (if r19.2 = 0 then ((p_nothing r19.1).bind fun r22 => (if r22 = 0 then some (r19.1, r19.2) else ((g_items r19.1 70 ((rd r19.1 69 4).toNatClampNeg) (Int32.ofNat q) (Int32.ofNat (winE (5, v0, s0, ofL l) w)) (Int32.ofNat (winE (5, v0, s0, ofL l) w))).bind fun r25 => ((u_start r25).bind fun r27 => ((u_nulls r27 (r15.toInt32 - (Int32.ofNat (winN (5, v0, s0, ofL l) w)))).bind fun r29 => some (r29, 0)))))) else some (r19.1, r19.2))) else some (S, 2)) := by
          unfold u_goOn
          rw [htk, o_bind, if_pos (show Int32.ofNat ((5, v0, s0, ofL l) : Vl).1 = 5 from rfl), hk, o_bind, if_pos (by rw [e3]; rfl), epl, o_bind, z2, o_bind, z3, o_bind, s1'.number, o_bind, f1, o_bind]
        by_cases ok : 0 ≤ X ∧ X ≤ 1000
        · rw [if_neg (by rw [lg_lt, f2, z0]; omega), if_pos ((lg_le _ _).mpr (by rw [f2, z1]; omega))] at eG
          rw [if_pos ok] at eS
          obtain ⟨p1, p2⟩ := placeL hta2 hq hx
          rw [← hX] at p1 p2
          by_cases hin : X < winN (5, v0, s0, ofL l) w
          · obtain ⟨S1, hj', a1, a2, a3⟩ := p1 ⟨ok.1, hin⟩
            rw [if_pos hin, getD_in _ hj'] at eS
            refine found S1 _ _ _ none _ hn0 ?_ a2 a3 (fun c => by cases c) (hK.elem q2u hj') eS
            rw [eG, pstep3 s1S e3, a1, o_bind, o_bind, if_pos rfl, nothQ a3, o_bind, if_pos rfl]
          · obtain ⟨S1, a1, a2, a3⟩ := p2 (fun c => hin c.2)
            rw [if_neg hin] at eS
            have hT1 := hT.fr (frU_67 dr a2)
            have hg1 := hg.fr t7' a2
            have e4ta : (rd S1 69 4).toNatClampNeg = ta := hg1.1.ta t4'.1
            have kk : X.toNat - winN (5, v0, s0, ofL l) w ≤ 1000 := by omega
            have er : r15.toInt32 - Int32.ofNat (winN (5, v0, s0, ofL l) w) = Int32.ofNat (X.toNat - winN (5, v0, s0, ofL l) w) := by
              rw [l_to32 (n := X.toNat) (by rw [f2]; omega) (by omega), i_subN (by omega) (by omega)]
            have q2s : vat (tT S1 ta) q (5, v0, s0, ofL l) := by rw [hT1.1]; exact q2u
            obtain ⟨-, g2, g3⟩ := gitems_val (g := 70) (lo := winE (5, v0, s0, ofL l) w) (hi := winE (5, v0, s0, ofL l) w) (Or.inl rfl) hg1.2.2.1 q2s z4 z4
            rw [eb] at g2
            obtain ⟨w1, w2⟩ := hK.grow (hi := winE (5, v0, s0, ofL l) w) (k := X.toNat - winN (5, v0, s0, ofL l) w) q2u z4
            have hpre : u_goOn S t1 (Int32.ofNat (ip false 1 lp j)) = ((g_items S1 70 ta (Int32.ofNat q) (Int32.ofNat (winE (5, v0, s0, ofL l) w)) (Int32.ofNat (winE (5, v0, s0, ofL l) w))).bind fun r25 => ((u_start r25).bind fun r27 => ((u_nulls r27 (Int32.ofNat (X.toNat - winN (5, v0, s0, ofL l) w))).bind fun r29 => some (r29, 0)))) := by
              rw [eG, pstep3 s1S e3, a1, o_bind, o_bind, if_pos rfl, nothN a3, o_bind, if_neg (by decide), e4ta, er]
            by_cases hlt' : winE (5, v0, s0, ofL l) w < l.length
            · obtain ⟨-, -, i3⟩ := q2u.item (Or.inl rfl) hlt'
              rw [eb] at i3
              obtain ⟨S2, b1, b2, b3, b4⟩ := gap_start (S := S1) (f := ip false (q + 1) l (winE (5, v0, s0, ofL l) w)) (to := Int32.ofNat (ip false (q + 1) l (winE (5, v0, s0, ofL l) w))) (cb := 0) (ch := 1) t7' t4' t8' (by omega) (Or.inl rfl) hT1.1 hg1.1 hg1.2.1 hg1.2.2.2
              obtain ⟨S3, B3, d1, d2, d3, d4, d5⟩ := unulls_val (k := X.toNat - winN (5, v0, s0, ofL l) w) t7' kk b2
              refine grown S3 B3 _ _ _ _ _ _ hn0 ?_ (((frU_67 dr a2).trans b3).trans d4) d2 (by omega) (Or.inr rfl) (by rw [if_pos rfl]; exact w1 hlt') ?_ eS
              · rw [hpre, g2 (Nat.le_refl _) hlt', o_bind, b1, o_bind, d1, o_bind]
              · rw [if_neg (show ¬ (0 : Int32) = 1 by decide), List.append_nil] at d3
                exact d3
            · have heq : winE (5, v0, s0, ofL l) w = l.length := by omega
              have hb2 : 2 ≤ (bV (5, v0, s0, ofL l)).length := by rw [bV_5]; simp
              have hcb : (if l = [] then (0 : Int32) else 1) = 0 ∨ (if l = [] then (0 : Int32) else 1) = 1 := by
                by_cases hn : l = []
                · rw [if_pos hn]; exact Or.inl rfl
                · rw [if_neg hn]; exact Or.inr rfl
              obtain ⟨S2, b1, b2, b3, b4⟩ := gap_start (S := S1) (f := q + (bV (5, v0, s0, ofL l)).length - 1) (to := Int32.ofNat (q + (bV (5, v0, s0, ofL l)).length - 1)) (cb := if l = [] then 0 else 1) (ch := 0) t7' t4' t8' (by omega) hcb hT1.1 hg1.1 hg1.2.1 hg1.2.2.2
              obtain ⟨S3, B3, d1, d2, d3, d4, d5⟩ := unulls_val (k := X.toNat - winN (5, v0, s0, ofL l) w) t7' kk b2
              refine grown S3 B3 _ _ _ _ _ _ hn0 ?_ (((frU_67 dr a2).trans b3).trans d4) d2 (by omega) (Or.inl rfl) (by rw [if_neg (show ¬ (0 : Int32) = 1 by decide)]; exact w2 heq) ?_ eS
              · rw [hpre, g3 (Nat.le_refl _) heq, o_bind, b1, o_bind, d1, o_bind]
              · rw [List.append_assoc] at d3
                have ec : (if (if l = [] then (0 : Int32) else 1) = 1 then [44] else []) = (if l = [] then [] else [(44 : Int32)]) := by
                  by_cases hn : l = []
                  · rw [if_pos hn, if_pos hn, if_neg (by decide)]
                  · rw [if_neg hn, if_neg hn, if_pos rfl]
                rw [ec] at d3
                exact d3
        · rw [if_neg ok] at eS
          refine refuse (S, 2) hn0 ?_ (show ¬ (2 : Int32) = 0 by decide) (frU.refl _ _) h2 eS
          rw [eG]
          by_cases c : X < 0
          · rw [if_pos ((lg_lt _ _).mpr (by rw [f2, z0]; exact c))]
          · rw [if_neg (by rw [lg_lt, f2, z0]; exact c), if_neg (by rw [lg_le, f2, z1]; omega)]
      have i3 : ¬ Int32.ofNat pi.1 = 3 := by rw [show (3 : Int32) = Int32.ofNat 3 from rfl, i_inj (by omega) (by omega)]; exact e3
      have eG : ∀ X, p_step S t1 (Int32.ofNat (ip false 1 lp j)) = some X → (X.2 ≠ 0 → u_goOn S t1 (Int32.ofNat (ip false 1 lp j)) = some (X.1, X.2)) ∧ (X.2 = 0 → p_nothing X.1 = some 0 → u_goOn S t1 (Int32.ofNat (ip false 1 lp j)) = some (X.1, X.2)) := by
        intro X hX
        unfold u_goOn
        rw [htk, o_bind, if_pos (show Int32.ofNat ((5, v0, s0, ofL l) : Vl).1 = 5 from rfl), hk, o_bind, if_neg i3, epl, o_bind, z2, o_bind, z3, o_bind, if_neg l00, if_pos l01, hX, o_bind]
        refine ⟨fun c => by rw [if_neg c], fun c d => by rw [if_pos c, d, o_bind, if_pos rfl]⟩
      by_cases e4 : pi.1 = 4
      · obtain ⟨x1, x2, x3, r, x4⟩ := str_at s1S e4
        obtain ⟨-, b2⟩ := byName_val hta2 hq.c x1 x3 x4
        have hb := b2 (show ¬ (5 : Nat) = 6 by decide)
        refine refuse (S, 1) hn0 ((eG (S, 1) (by rw [pstep4 s1S e4, hb, o_bind])).1 (show ¬ (1 : Int32) = 0 by decide)) (show ¬ (1 : Int32) = 0 by decide) (frU.refl _ _) h2 ?_
        show (if pi.1 = 6 then _ else if pi.1 = 4 then (if w.isSome then none else if (5 : Nat) = 6 then _ else if (5 : Nat) = 0 then _ else none) else _) = none
        rw [if_neg (by omega), if_pos e4]
        by_cases ew : w.isSome = true
        · rw [if_pos ew]
        · rw [if_neg ew, if_neg (show ¬ (5 : Nat) = 6 by decide), if_neg (show ¬ (5 : Nat) = 0 by decide)]
      by_cases e6 : pi.1 = 6
      · have eS : putS (pi :: ps) (5, v0, s0, ofL l) w vt = if @decide (okBd pi) (Classical.propDecidable _) = true then putS ps (5, v0, s0, ofL l) (some (nwA pi (winA (5, v0, s0, ofL l) w) (winE (5, v0, s0, ofL l) w), nwB pi (winA (5, v0, s0, ofL l) w) (winE (5, v0, s0, ofL l) w))) vt else none := by
          show (if pi.1 = 6 then (if _ then (if (5 : Nat) = 5 then _ else _) else _) else _) = _
          rw [if_pos e6, if_pos rfl]
        obtain ⟨b1, b2⟩ := partQ hta2 t5'.2.1 hq s1S e6
        by_cases ok : okBd pi
        · obtain ⟨S1, a1, a2, a3⟩ := b1 ⟨Or.inr rfl, ok.1, ok.2⟩
          rw [if_pos (@decide_eq_true _ (Classical.propDecidable _) ok)] at eS
          refine found S1 _ _ _ _ (fun u => u) hn0 ((eG (S1, 0) (by rw [pstep6 s1S e6, a1, o_bind])).2 rfl (nothQ a3)) a2 a3 (fun _ => rfl) hK ?_
          rw [eS]
          simp
        · have hb := b2 (fun c => ok ⟨c.2.1, c.2.2⟩)
          rw [if_neg (fun c => ok (@of_decide_eq_true _ (Classical.propDecidable _) c))] at eS
          exact refuse (S, 1) hn0 ((eG (S, 1) (by rw [pstep6 s1S e6, hb, o_bind])).1 (show ¬ (1 : Int32) = 0 by decide)) (show ¬ (1 : Int32) = 0 by decide) (frU.refl _ _) h2 eS
      refine refuse (S, 1) hn0 ((eG (S, 1) (pstepX s1S e3 e4 e6)).1 (show ¬ (1 : Int32) = 0 by decide)) (show ¬ (1 : Int32) = 0 by decide) (frU.refl _ _) h2 ?_
      show (if pi.1 = 6 then _ else if pi.1 = 4 then _ else if pi.1 = 3 then _ else none) = none
      rw [if_neg e6, if_neg e4, if_neg e3]
    have hwn : w = none := by
      cases w with
      | none => rfl
      | some ab => exact absurd (hw rfl) e5
    subst hwn
    by_cases e6t : t.1 = 6
    · obtain ⟨kt, v0, s0, ft⟩ := t
      obtain ⟨l, rfl⟩ : ∃ l, ft = ofL l := ⟨toL ft, (ofL_toL ft).symm⟩
      have e6t : kt = 6 := e6t
      subst e6t
      obtain ⟨z2, z3, z4, z5⟩ := sizeQ t4'.1 (Or.inr rfl) hq
      have hsz : winE (6, v0, s0, ofL l) none = l.length := by
        have : size (6, v0, s0, ofL l) = l.length := congrArg List.length (toL_ofL l)
        show 0 + size (6, v0, s0, ofL l) = _
        omega
      rw [hsz] at z3
      have eb : ((6 : Nat) == 6) = true := rfl
      have eG : ∀ X, p_step S t1 (Int32.ofNat (ip false 1 lp j)) = some X → (X.2 ≠ 0 → u_goOn S t1 (Int32.ofNat (ip false 1 lp j)) = some (X.1, X.2)) ∧ (X.2 = 0 → p_nothing X.1 = some 0 → u_goOn S t1 (Int32.ofNat (ip false 1 lp j)) = some (X.1, X.2)) ∧ (X.2 = 0 → p_nothing X.1 = some 1 → u_goOn S t1 (Int32.ofNat (ip false 1 lp j)) = ((g_items X.1 70 ((rd X.1 69 4).toNatClampNeg) (Int32.ofNat q) (Int32.ofNat l.length) (Int32.ofNat l.length)).bind fun r66 => ((u_start r66).bind fun r68 => ((u_name r68 t1 (Int32.ofNat (ip false 1 lp j))).bind fun r70 => some (r70, 0))))) := by
        intro X hX
        unfold u_goOn
        rw [htk, o_bind, if_neg (show ¬ Int32.ofNat ((6, v0, s0, ofL l) : Vl).1 = 5 from show ¬ Int32.ofNat 6 = 5 by decide), if_pos (show Int32.ofNat ((6, v0, s0, ofL l) : Vl).1 = 6 from rfl), epl, o_bind, z2, o_bind, z3, o_bind, if_neg l00, if_pos l01, hX, o_bind]
        refine ⟨fun c => by rw [if_neg c], fun c d => by rw [if_pos c, d, o_bind, if_pos rfl], fun c d => by rw [if_pos c, d, o_bind, if_neg (by decide)]⟩
      by_cases e4 : pi.1 = 4
      · obtain ⟨x1, x2, x3, r, x4⟩ := str_at s1S e4
        have eS : putS (pi :: ps) (6, v0, s0, ofL l) none vt = (putS ps ((byN (6, v0, s0, ofL l) pi.2.2.1).getD vNull) none vt).map (fun u => (6, v0, s0, ofL (setM l pi.2.2.1 u))) := by
          show (if pi.1 = 6 then _ else if pi.1 = 4 then (if (none : Option (Nat × Nat)).isSome = true then none else if (6 : Nat) = 6 then _ else _) else _) = _
          rw [if_neg (by omega), if_pos e4, if_neg (by decide), if_pos rfl]
          simp only [toL_ofL]
        obtain ⟨b1, b2⟩ := nameQ hta2 hq x1 x3 x4
        by_cases hj' : l.findIdx (fun m => m.1 == pi.2.2.1) < l.length
        · obtain ⟨S1, a1, a2, a3⟩ := b1 hj'
          have eN : (byN (6, v0, s0, ofL l) pi.2.2.1).getD vNull = (l[l.findIdx (fun m => m.1 == pi.2.2.1)]).2 := by
            unfold byN
            simp only [toL_ofL]
            rw [dif_pos hj']
            rfl
          rw [eN] at eS
          refine found S1 _ _ _ none (fun u => (6, v0, s0, ofL (setM l pi.2.2.1 u))) hn0 ((eG (S1, 0) (by rw [pstep4 s1S e4, a1, o_bind])).2.1 rfl (nothQ a3)) a2 a3 (fun c => by cases c) ?_ eS
          have := hK.memb q2u hj'
          simp only [setM_in _ hj']
          exact this
        · obtain ⟨S1, a1, a2, a3⟩ := b2 hj'
          have eN : (byN (6, v0, s0, ofL l) pi.2.2.1).getD vNull = vNull := by
            unfold byN
            simp only [toL_ofL]
            rw [dif_neg hj']
            rfl
          rw [eN] at eS
          have hnot : ∀ x ∈ l, x.1 ≠ pi.2.2.1 := fun x hx c => hj' (List.findIdx_lt_length_of_exists ⟨x, hx, by rw [c]; exact beq_self_eq_true _⟩)
          have eM : ∀ u, setM l pi.2.2.1 u = l ++ [(pi.2.2.1, u)] := fun u => by unfold setM; rw [if_neg hj']
          have hT1 := hT.fr (frU_67 dr a2)
          have hg1 := hg.fr t7' a2
          have e4ta : (rd S1 69 4).toNatClampNeg = ta := hg1.1.ta t4'.1
          have q2s : vat (tT S1 ta) q (6, v0, s0, ofL l) := by rw [hT1.1]; exact q2u
          obtain ⟨-, -, g3⟩ := gitems_val (g := 70) (lo := l.length) (hi := l.length) (Or.inr rfl) hg1.2.2.1 q2s (Nat.le_refl _) (Nat.le_refl _)
          have hb2 : 2 ≤ (bV (6, v0, s0, ofL l)).length := by rw [bV_6]; simp
          have hcb : (if l = [] then (0 : Int32) else 1) = 0 ∨ (if l = [] then (0 : Int32) else 1) = 1 := by
            by_cases hn : l = []
            · rw [if_pos hn]; exact Or.inl rfl
            · rw [if_neg hn]; exact Or.inr rfl
          obtain ⟨S2, b1, b2, b3, b4⟩ := gap_start (S := S1) (f := q + (bV (6, v0, s0, ofL l)).length - 1) (to := Int32.ofNat (q + (bV (6, v0, s0, ofL l)).length - 1)) (cb := if l = [] then 0 else 1) (ch := 0) t7' t4' t8' (by omega) hcb hT1.1 hg1.1 hg1.2.1 hg1.2.2.2
          have hT2 := hT1.fr b3
          obtain ⟨S3, d1, d2, d3, d4⟩ := uname_val (t1 := t1) (q2 := ip false 1 lp j) t7' b2 t9' (by rw [hT2.2.1]; exact s1) e4
          have ec : (if (if l = [] then (0 : Int32) else 1) = 1 then [44] else []) = (if l = [] then [] else [(44 : Int32)]) := by
            by_cases hn : l = []
            · rw [if_pos hn, if_pos hn, if_neg (by decide)]
            · rw [if_neg hn, if_neg hn, if_pos rfl]
          rw [ec, List.append_assoc] at d2
          refine grown S3 _ _ _ _ _ _ (fun u => (6, v0, s0, ofL (setM l pi.2.2.1 u))) hn0 ?_ (((frU_67 dr a2).trans b3).trans d3) d2 (by omega) (Or.inl rfl) ?_ (eqT.refl _) eS
          · rw [(eG (S1, 0) (by rw [pstep4 s1S e4, a1, o_bind])).2.2 rfl (nothN a3), e4ta, g3 (Nat.le_refl _) rfl, o_bind, b1, o_bind, d1, o_bind]
          · rw [if_neg (show ¬ (0 : Int32) = 1 by decide)]
            simp only [eM]
            exact hK.newName q2u x3 hnot
      by_cases e3 : pi.1 = 3
      · obtain ⟨-, b2⟩ := byPlace_val hta2 hq.c (s1.2.2.1.2.1 e3)
        have hb := b2 (show ¬ (6 : Nat) = 5 by decide)
        refine refuse (S, 1) hn0 ((eG (S, 1) (by rw [pstep3 s1S e3, hb, o_bind])).1 (show ¬ (1 : Int32) = 0 by decide)) (show ¬ (1 : Int32) = 0 by decide) (frU.refl _ _) h2 ?_
        show (if pi.1 = 6 then _ else if pi.1 = 4 then _ else if pi.1 = 3 then (if (6 : Nat) = 5 then _ else if (6 : Nat) = 0 then _ else none) else none) = none
        rw [if_neg (by omega), if_neg e4, if_pos e3, if_neg (by decide), if_neg (by decide)]
      by_cases e6 : pi.1 = 6
      · obtain ⟨-, b2⟩ := partQ hta2 t5'.2.1 hq s1S e6
        have hb := b2 (fun c => by rcases c.1 with c | c; exact absurd c (show ¬ (6 : Nat) = 4 by decide); exact absurd c (show ¬ (6 : Nat) = 5 by decide))
        refine refuse (S, 1) hn0 ((eG (S, 1) (by rw [pstep6 s1S e6, hb, o_bind])).1 (show ¬ (1 : Int32) = 0 by decide)) (show ¬ (1 : Int32) = 0 by decide) (frU.refl _ _) h2 ?_
        show (if pi.1 = 6 then (if _ then (if (6 : Nat) = 5 then _ else if (6 : Nat) = 0 then _ else none) else none) else _) = none
        rw [if_pos e6, if_neg (show ¬ (6 : Nat) = 5 by decide), if_neg (show ¬ (6 : Nat) = 0 by decide)]
        split <;> rfl
      refine refuse (S, 1) hn0 ((eG (S, 1) (pstepX s1S e3 e4 e6)).1 (show ¬ (1 : Int32) = 0 by decide)) (show ¬ (1 : Int32) = 0 by decide) (frU.refl _ _) h2 ?_
      show (if pi.1 = 6 then _ else if pi.1 = 4 then _ else if pi.1 = 3 then _ else none) = none
      rw [if_neg e6, if_neg e4, if_neg e3]
    · refine refuse (S, 1) hn0 ?_ (show ¬ (1 : Int32) = 0 by decide) (frU.refl _ _) h2 ?_
      · unfold u_goOn
        rw [htk, o_bind, if_neg (by rw [show (5 : Int32) = Int32.ofNat 5 from rfl, i_inj (by omega) (by omega)]; exact e5), if_neg (by rw [show (6 : Int32) = Int32.ofNat 6 from rfl, i_inj (by omega) (by omega)]; exact e6t)]
      · unfold putS
        rw [if_neg e5, if_neg e0, if_neg e6t, if_neg e0, if_neg e5, if_neg e0]
        simp
/-- the class's set, up to the draft -/
theorem uput_val {S : SS} {ta t1 t2 dr : Nat} {t pt vt : Vl} (hta : nU ta) (ht1 : nU t1) (ht2 : nU t2) (hd : nU dr) (n1 : ta ≠ dr) (n2 : t1 ≠ dr) (n3 : t2 ≠ dr) (ha : tT S ta = bV t) (hva : vat (bV t) 0 t) (hpt : vat (tT S t1) 0 pt) (h2 : tT S t2 = bV vt) (hv : vat (bV vt) 0 vt) (l67 : (S 67).length = 6) (l69 : (S 69).length = 9) (l70 : (S 70).length = 4) (l71 : (S 71).length = 100) : ∃ S' e, u_put S ta t1 t2 dr = some (S', e) ∧ frU S S' dr ∧ (S' 71).length = 100 ∧ (e = 0 → pt.1 = 5 ∧ (toL pt.2.2.2).length ≤ 100 ∧ ∃ U, putS ((toL pt.2.2.2).map fun m => m.2) t none vt = some U ∧ wV U ∧ ∃ Bf, S' dr = pv Bf ∧ eqT Bf (bV U)) ∧ (e ≠ 0 → pt.1 = 5 → (toL pt.2.2.2).length ≤ 100 → putS ((toL pt.2.2.2).map fun m => m.2) t none vt = none) := by
  have k6 := hpt.2.2.1.1
  unfold u_put
  rw [show (0 : Int32) = Int32.ofNat 0 from rfl, hpt.kind, o_bind]
  by_cases e5 : pt.1 = 5
  · obtain ⟨kp, vp, sp, fp⟩ := pt
    obtain ⟨lp, rfl⟩ : ∃ l, fp = ofL l := ⟨toL fp, (ofL_toL fp).symm⟩
    have e5 : kp = 5 := e5
    subst e5
    obtain ⟨i1, i2⟩ := hpt.items (Or.inl rfl)
    rw [if_pos (show Int32.ofNat ((5, vp, sp, ofL lp) : Vl).1 = 5 from rfl), i1, o_bind]
    have etl : toL ((5, vp, sp, ofL lp) : Vl).2.2.2 = lp := toL_ofL lp
    rw [etl]
    by_cases hl : lp.length ≤ 100
    · rw [if_pos (by rw [show (100 : Int32) = Int32.ofNat 100 from rfl, i_le' (by omega) (by omega)]; exact hl)]
      -- begin
      obtain ⟨x0, x1, x2, x3, x4, x5, x6, x7, x8, h69⟩ : ∃ a b c d e f g h i, S 69 = [a, b, c, d, e, f, g, h, i] := by
        match hS : S 69, l69 with
        | [a, b, c, d, e, f, g, h, i], _ => exact ⟨a, b, c, d, e, f, g, h, i, rfl⟩
      obtain ⟨y0, y1, y2, y3, y4, y5, h67⟩ : ∃ a b c d e f, S 67 = [a, b, c, d, e, f] := by
        match hS : S 67, l67 with
        | [a, b, c, d, e, f], _ => exact ⟨a, b, c, d, e, f, rfl⟩
      obtain ⟨R, hR1, hR2, hR3, hR67, hR4, hR5, hR6⟩ : ∃ R, u_begin S ta dr = some R ∧ frU S R dr ∧ pu R ta dr 0 0 0 0 ∧ R 67 = [Int32.ofNat ta, 0, 0, 0, y4, y5] ∧ R dr = pv [] ∧ R 70 = S 70 ∧ R 71 = S 71 := by
        unfold u_begin p_start
        have a1 : wr (wr S 69 4 (Int32.ofNat ta)) 69 5 (Int32.ofNat dr) = up S 69 [x0, x1, x2, x3, Int32.ofNat ta, Int32.ofNat dr, x6, x7, x8] := by rw [wr_eq h69, wr_up]; rfl
        have a2 : (rd (up S 69 [x0, x1, x2, x3, Int32.ofNat ta, Int32.ofNat dr, x6, x7, x8]) 69 5).toNatClampNeg = dr := by unfold rd; rw [up_same]; exact i_cl (by have := hd.1; omega)
        rw [a1, a2, o_bind]
        refine ⟨_, rfl, fun a m1 m2 m3 m4 m5 => ?_, ?_, ?_, ?_, ?_, ?_⟩
        · rw [wr_ne m2, wr_ne m2, wr_ne m2, wr_ne m2, wr_ne m1, wr_ne m1, wr_ne m1, wr_ne m1, up_ne m5, up_ne m2]
        · refine ⟨x0, x1, x2, ?_⟩
          have b1 : (wr (wr (wr (wr (up (up S 69 [x0, x1, x2, x3, Int32.ofNat ta, Int32.ofNat dr, x6, x7, x8]) dr [0]) 67 0 (Int32.ofNat ta)) 67 1 0) 67 2 0) 67 3 0) 69 = [x0, x1, x2, x3, Int32.ofNat ta, Int32.ofNat dr, x6, x7, x8] := by
            rw [wr_ne (by decide), wr_ne (by decide), wr_ne (by decide), wr_ne (by decide), up_ne (fun e => hd.2.2.1 e.symm), up_same]
          rw [wr_eq b1, wr_up, wr_up, wr_up, up_same]
          rfl
        · have b1 : (up (up S 69 [x0, x1, x2, x3, Int32.ofNat ta, Int32.ofNat dr, x6, x7, x8]) dr [0]) 67 = [y0, y1, y2, y3, y4, y5] := by
            rw [up_ne (fun e => hd.2.1 e.symm), up_ne (by decide)]; exact h67
          rw [wr_ne (by decide), wr_ne (by decide), wr_ne (by decide), wr_ne (by decide), wr_eq b1, wr_up, wr_up, wr_up, up_same]
          rfl
        · rw [wr_ne hd.2.2.1, wr_ne hd.2.2.1, wr_ne hd.2.2.1, wr_ne hd.2.2.1, wr_ne hd.2.1, wr_ne hd.2.1, wr_ne hd.2.1, wr_ne hd.2.1, up_same]
          rfl
        · rw [wr_ne (by decide), wr_ne (by decide), wr_ne (by decide), wr_ne (by decide), wr_ne (by decide), wr_ne (by decide), wr_ne (by decide), wr_ne (by decide), up_ne (fun e => hd.2.2.2.1 e.symm), up_ne (by decide)]
        · rw [wr_ne (by decide), wr_ne (by decide), wr_ne (by decide), wr_ne (by decide), wr_ne (by decide), wr_ne (by decide), wr_ne (by decide), wr_ne (by decide), up_ne (fun e => hd.2.2.2.2 e.symm), up_ne (by decide)]
      have hT : txU S ta t1 t2 dr (bV t) (tT S t1) (bV vt) := ⟨ha, rfl, h2, hta, ht1, ht2, hd, n1, n2, n3⟩
      have hTR := hT.fr hR2
      have hgR : goS R ta dr := ⟨hR3, by rw [hR6]; exact l71, by rw [hR5]; exact l70, hR4⟩
      have hqR : spQ R ta 0 0 t none := by
        refine ⟨y4, y5, ?_, by rw [hTR.1]; exact hva, (fun _ _ e => by cases e), (fun _ _ e => by cases e)⟩
        · exact hR67
      obtain ⟨S', e, j1, j2, j3, j4, j5⟩ := putA hpt hl hv hva.1 lp.length 0 10000 R 0 0 t none (fun u => u) (by omega) (by omega) hTR hgR hqR (fun c => by cases c) (ctx_root t)
      rw [List.drop_zero] at j4 j5
      refine ⟨S', e, ?_, hR2.trans j2, j3, fun he => ⟨rfl, hl, j4 he⟩, fun he _ _ => j5 he⟩
      rw [hR1, o_bind, hTR.2.1, hpt.first (Or.inl rfl), o_bind, ← j1, ip_0]
      congr 1
      by_cases hn : lp = []
      · rw [if_pos hn, if_pos (by rw [hn]; rfl)]
      · rw [if_neg hn, if_neg (by intro c; exact hn (List.eq_nil_of_length_eq_zero c))]
    · rw [if_neg (by rw [show (100 : Int32) = Int32.ofNat 100 from rfl, i_le' (by omega) (by omega)]; exact hl)]
      exact ⟨S, 2, rfl, frU.refl _ _, l71, fun c => absurd c (by decide), fun _ _ c => absurd c hl⟩
  · rw [if_neg (by rw [show (5 : Int32) = Int32.ofNat 5 from rfl, i_inj (by omega) (by omega)]; exact e5)]
    exact ⟨S, 1, rfl, frU.refl _ _, l71, fun c => absurd c (by decide), fun _ c => absurd c e5⟩
end PutA160
