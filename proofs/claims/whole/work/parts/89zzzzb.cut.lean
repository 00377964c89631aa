/-! What del means on trees; the class goes along a path. -/
section Cut168
/-- what the steps lead to is cut out; nothing if it can't be -/
noncomputable def cutV : List Vl → Vl → Option (Nat × Nat) → Option Vl
  | [], t, w => match w with
    | none => some t
    | some (a, b) => some (5, t.2.1, t.2.2.1, ofL ((toL t.2.2.2).take a ++ (toL t.2.2.2).drop b))
  | pi :: ps, t, w =>
    if t.1 = 0 then some t
    else if pi.1 = 3 then (if t.1 = 5 then (if 0 ≤ atX pi.2.1 (winN t w) ∧ atX pi.2.1 (winN t w) < winN t w then (if ps.isEmpty then some (5, t.2.1, t.2.2.1, ofL ((toL t.2.2.2).take (winA t w + (atX pi.2.1 (winN t w)).toNat) ++ (toL t.2.2.2).drop (winA t w + (atX pi.2.1 (winN t w)).toNat + 1))) else (cutV ps (((toL t.2.2.2).getD (winA t w + (atX pi.2.1 (winN t w)).toNat) nulM).2) none).map (fun u => (5, t.2.1, t.2.2.1, ofL ((toL t.2.2.2).set (winA t w + (atX pi.2.1 (winN t w)).toNat) (((toL t.2.2.2).getD (winA t w + (atX pi.2.1 (winN t w)).toNat) nulM).1, u))))) else some t) else none)
    else if pi.1 = 4 then (if t.1 = 6 then (if (toL t.2.2.2).findIdx (fun m => m.1 == pi.2.2.1) < (toL t.2.2.2).length then (if ps.isEmpty then some (6, t.2.1, t.2.2.1, ofL ((toL t.2.2.2).take ((toL t.2.2.2).findIdx (fun m => m.1 == pi.2.2.1)) ++ (toL t.2.2.2).drop ((toL t.2.2.2).findIdx (fun m => m.1 == pi.2.2.1) + 1))) else (cutV ps (((toL t.2.2.2).getD ((toL t.2.2.2).findIdx (fun m => m.1 == pi.2.2.1)) nulM).2) none).map (fun u => (6, t.2.1, t.2.2.1, ofL ((toL t.2.2.2).set ((toL t.2.2.2).findIdx (fun m => m.1 == pi.2.2.1)) (((toL t.2.2.2).getD ((toL t.2.2.2).findIdx (fun m => m.1 == pi.2.2.1)) nulM).1, u))))) else some t) else none)
    else if pi.1 = 6 then (if @decide (okBd pi) (Classical.propDecidable _) = true then (if t.1 = 5 then cutV ps t (some (nwA pi (winA t w) (winE t w), nwB pi (winA t w) (winE t w))) else none) else none)
    else none
/-- a path of the array of paths -/
noncomputable def cutP (lp : List Mb) (t : Vl) : Option Vl := if lp = [] then some vNull else cutV (lp.map fun m => m.2) t none
theorem step_ap {vs : List Int32} {p : Nat} {v : Int} {s : List Int32} {lp : List Mb} {j : Nat} (h : vat vs p (5, v, s, ofL lp)) (hj : j < lp.length) : vat vs (ip false (p + 1) lp j) (lp[j]).2 ∧ t_next vs (Int32.ofNat (ip false (p + 1) lp j)) = some (if j + 1 < lp.length then Int32.ofNat (ip false (p + 1) lp (j + 1)) else -1) := by
  obtain ⟨e1, e2⟩ := h.elem hj
  refine ⟨e2, ?_⟩
  obtain ⟨i1, ⟨z, r, hz, i2⟩, i3⟩ := h.item (Or.inl rfl) hj
  have e : (5 == 6) = false := rfl
  rw [e, List.drop_eq_getElem_cons hj] at i2
  obtain ⟨n1, n2, n3, n4⟩ := nx h.1 h.2.1 (h.2.2.1.kids _ (List.getElem_mem hj)) hz i2
  rw [n3]
  by_cases hm : j + 1 < lp.length
  · rw [if_pos hm, if_neg (by rw [List.drop_eq_nil_iff]; omega), ip_1 false (p + 1) lp j hj]
  · rw [if_neg hm, if_pos (by apply List.drop_eq_nil_of_le; omega)]
/-- a span of bytes, and what is left without it and a comma -/
def remT (us : List Int32) (f e : Nat) (X : List Int32) : Prop := 0 < f ∧ f < e ∧ e < us.length ∧ ((tat us (Int32.ofNat e) = 44 ∧ us.take f ++ us.drop (e + 1) = X) ∨ (tat us (Int32.ofNat e) ≠ 44 ∧ tat us (Int32.ofNat (f - 1)) = 44 ∧ us.take (f - 1) ++ us.drop e = X) ∨ (tat us (Int32.ofNat e) ≠ 44 ∧ tat us (Int32.ofNat (f - 1)) ≠ 44 ∧ us.take f ++ us.drop e = X))
theorem remT_of {us r : List Int32} {b : Bool} {ob cl : Int32} {l : List Mb} {q lo hi : Nat} (hob : ob ≠ 44) (hcl : cl ≠ 44) (hl : us.length ≤ 4096) (h1 : lo < hi) (h2 : hi ≤ l.length) (hd : us.drop q = ob :: (jn (l.map (bM b)) ++ cl :: r)) : remT us (ip b (q + 1) l lo) (ip b (q + 1) l (hi - 1) + (bM b (l[hi - 1]'(by omega))).length) (us.take q ++ ob :: (jn ((l.take lo ++ l.drop hi).map (bM b)) ++ cl :: r)) := by
  obtain ⟨k1, k2, k3⟩ := cut_text (f := ip b (q + 1) l lo) (e := ip b (q + 1) l (hi - 1) + (bM b (l[hi - 1]'(by omega))).length) hob hcl hl h1 h2 hd rfl rfl
  refine ⟨k1, ?_, ?_, k3⟩
  · rw [ip_last h1 h2]
    have : jn (((l.drop lo).take (hi - lo)).map (bM b)) ≠ [] := by
      obtain ⟨x, y, hxy⟩ := nil_jn (b := b) (mid_ne h1 h2)
      rw [hxy]
      simp
    have := List.length_pos_iff.mpr this
    omega
  · obtain ⟨-, s2⟩ := span_at h1 h2 hd
    apply Classical.byContradiction
    intro c
    rw [List.drop_eq_nil_of_le (by omega)] at s2
    have := congrArg List.length s2
    simp only [List.length_nil, List.length_append, List.length_cons] at this
    omega
/-- where the class has come to, and what is left when that is cut out -/
def endC (S : SS) (ta : Nat) (us X : List Int32) : Prop := (spN S ta ∧ X = us) ∨ (∃ (q it : Nat) (t : Vl), spQ S ta q (Int32.ofNat it) t none ∧ remT us it (q + (bV t).length) X) ∨ (∃ (q : Nat) (it : Int32) (v : Int) (s : List Int32) (l : List Mb) (a b : Nat), spQ S ta q it (5, v, s, ofL l) (some (a, b)) ∧ X = us.take q ++ 91 :: (jn ((l.take a ++ l.drop b).map (bM false)) ++ 93 :: us.drop (q + (bV (5, v, s, ofL l)).length)))
def strC (S : SS) (ta : Nat) : Prop := ∃ (q : Nat) (it : Int32) (t : Vl) (w : Nat × Nat), spQ S ta q it t (some w) ∧ t.1 = 4
theorem box5 {us : List Int32} {q : Nat} {v : Int} {s : List Int32} {l : List Mb} (h : vat us q (5, v, s, ofL l)) : us.drop q = 91 :: (jn (l.map (bM false)) ++ 93 :: us.drop (q + (bV (5, v, s, ofL l)).length)) := by
  obtain ⟨h1, h2, h3, r, h4, h5⟩ := h
  have : us.drop (q + (bV (5, v, s, ofL l)).length) = r := by rw [← List.drop_drop, h4, List.drop_left]
  rw [this, h4, bV_5]
  simp
theorem box6 {us : List Int32} {q : Nat} {v : Int} {s : List Int32} {l : List Mb} (h : vat us q (6, v, s, ofL l)) : us.drop q = 123 :: (jn (l.map (bM true)) ++ 125 :: us.drop (q + (bV (6, v, s, ofL l)).length)) := by
  obtain ⟨h1, h2, h3, r, h4, h5⟩ := h
  have : us.drop (q + (bV (6, v, s, ofL l)).length) = r := by rw [← List.drop_drop, h4, List.drop_left]
  rw [this, h4, bV_6]
  simp
theorem ctx.t5 {us : List Int32} {q : Nat} {v : Int} {s : List Int32} {l : List Mb} {K : Vl → Vl} (h : ctx us q (5, v, s, ofL l) K) (m : List Mb) : bV (K (5, v, s, ofL m)) = us.take q ++ 91 :: (jn (m.map (bM false)) ++ 93 :: us.drop (q + (bV (5, v, s, ofL l)).length)) := by
  rw [h.2, bV_5]
  simp
theorem ctx.t6 {us : List Int32} {q : Nat} {v : Int} {s : List Int32} {l : List Mb} {K : Vl → Vl} (h : ctx us q (6, v, s, ofL l) K) (m : List Mb) : bV (K (6, v, s, ofL m)) = us.take q ++ 123 :: (jn (m.map (bM true)) ++ 125 :: us.drop (q + (bV (6, v, s, ofL l)).length)) := by
  rw [h.2, bV_6]
  simp
theorem ctx.self {us : List Int32} {q : Nat} {t : Vl} {K : Vl → Vl} (h : ctx us q t K) (hv : vat us q t) : bV (K t) = us := by
  obtain ⟨h1, h2, h3, r, h4, h5⟩ := hv
  have e3 : us.drop (q + (bV t).length) = r := by rw [← List.drop_drop, h4, List.drop_left]
  rw [h.2, e3, ← h4, List.take_append_drop]
theorem cutV_null {t : Vl} (h : t.1 = 0) (pi : Vl) (ps : List Vl) (w : Option (Nat × Nat)) : cutV (pi :: ps) t w = some t := by
  unfold cutV
  rw [if_pos h]
theorem drop_nod {l : List Mb} (h : nod l) (j : Nat) : nod (l.take j ++ l.drop (j + 1)) := by
  have : (l.take j ++ l.drop (j + 1)) = l.eraseIdx j := (List.eraseIdx_eq_take_drop_succ l j).symm
  rw [this]
  unfold nod at h ⊢
  exact List.Nodup.sublist ((List.eraseIdx_sublist l j).map _) h
theorem cutV_4 {t : Vl} (h : t.1 = 4) (pi : Vl) (ps : List Vl) (w : Option (Nat × Nat)) : cutV (pi :: ps) t w = none := by
  unfold cutV
  rw [if_neg (by omega), if_neg (show ¬ t.1 = 5 by omega), if_neg (show ¬ t.1 = 6 by omega), if_neg (show ¬ t.1 = 5 by omega)]
  simp
/-- the class goes along the rest of a path -/
theorem cutA {ta t1 p1 : Nat} {us vs : List Int32} {vp : Int} {sp : List Int32} {lp : List Mb} (hta : ta < 1000 ∧ ta ≠ 67) (ht1 : t1 ≠ 67) (hp : vat vs p1 (5, vp, sp, ofL lp)) (hus : us.length ≤ 4096) : ∀ (m j n c : Nat) (S : SS) (q : Nat) (it : Int32) (t : Vl) (w : Option (Nat × Nat)) (K : Vl → Vl), j + (m + 1) = lp.length → m + 1 < n → c + (m + 1) < 4096 → tT S ta = us → tT S t1 = vs → spQ S ta q it t w → ctx us q t K → ∃ S' e, p_follow_l15 ta t1 n S (Int32.ofNat (ip false (p1 + 1) lp j)) (Int32.ofNat c) = some (S', e) ∧ fr67 S S' ∧ (e ≠ 0 → cutV ((lp.drop j).map fun m => m.2) t w = none ∧ (S' 67).length = 6) ∧ (e = 0 → (∃ T, cutV ((lp.drop j).map fun m => m.2) t w = some T ∧ wV (K T) ∧ endC S' ta us (bV (K T))) ∨ (cutV ((lp.drop j).map fun m => m.2) t w = none ∧ strC S' ta)) := by
  intro m
  induction m using Nat.strongRecOn with
  | _ m ih =>
  intro j n c S q it t w K hj hn hc hu hvs hq hK
  obtain ⟨n, rfl⟩ : ∃ j, n = j + 1 := ⟨n - 1, by omega⟩
  have hjl : j < lp.length := by omega
  obtain ⟨s1, s2⟩ := step_ap hp hjl
  have hipl := s1.lt
  have hvl := s1.1
  have el : (lp.drop j).map (fun m => m.2) = (lp[j]).2 :: (lp.drop (j + 1)).map (fun m => m.2) := by rw [List.drop_eq_getElem_cons hjl, List.map_cons]
  obtain ⟨pi, hpi⟩ : ∃ pi, pi = (lp[j]).2 := ⟨_, rfl⟩
  obtain ⟨ps, hps⟩ : ∃ ps, ps = (lp.drop (j + 1)).map (fun m => m.2) := ⟨_, rfl⟩
  rw [← hpi] at s1 el
  rw [← hps] at el
  rw [el]
  have emp : ps.isEmpty = true ↔ m = 0 := by
    rw [List.isEmpty_iff, hps, List.map_eq_nil_iff, List.drop_eq_nil_iff]
    omega
  have enx : (if j + 1 < lp.length then Int32.ofNat (ip false (p1 + 1) lp (j + 1)) else (-1 : Int32)) = if m = 0 then -1 else Int32.ofNat (ip false (p1 + 1) lp (j + 1)) := by
    by_cases c : m = 0
    · rw [if_pos c, if_neg (by omega)]
    · rw [if_neg c, if_pos (by omega)]
  rw [enx] at s2
  have k6 := s1.2.2.1.1
  have s1S : vat (tT S t1) (ip false (p1 + 1) lp j) pi := by rw [hvs]; exact s1
  obtain ⟨lo, hi, q1, q2, q3, q4⟩ := id hq
  have q2u := q2
  rw [hu] at q2u
  have hw0 := q2.2.2.1
  have tk6 := hw0.1
  have nc : ¬ (4096 : Int32) ≤ Int32.ofNat c := by rw [show (4096 : Int32) = Int32.ofNat 4096 from rfl, i_le' (by omega) (by omega)]; omega
  have fr : ∀ L, fr67 S (up S 67 L) := fun L a ha => up_ne ha
  have ttA : ∀ S1, fr67 S S1 → tT S1 ta = us ∧ tT S1 t1 = vs := fun S1 hf => by
    unfold tT at hu hvs ⊢
    rw [hf ta hta.2, hf t1 ht1]
    exact ⟨hu, hvs⟩
  -- null: nothing behind it
  have stopN : ∀ (S0 : SS) (n0 : Nat) (x c0 : Int32), p_isNull S0 = some 1 → ¬ (4096 : Int32) ≤ c0 → ¬ x = -1 → (∃ T p it' pt lo' hi', S0 67 = [T, p, it', pt, lo', hi'] ∧ T = Int32.ofNat ta) → ∃ S', p_follow_l15 ta t1 (n0 + 1) S0 x c0 = some (S', 0) ∧ fr67 S0 S' ∧ spN S' ta := by
    rintro S0 n0 x c0 hN hc0 hx ⟨T, p, it', pt, lo', hi', h67, hT⟩
    refine ⟨up S0 67 [T, -1, -1, 0, lo', hi'], ?_, fun a ha => up_ne ha, -1, lo', hi', by rw [up_same, hT]⟩
    unfold p_follow_l15
    rw [if_neg hc0, if_neg hx, hN, o_bind, if_neg (by decide), move_val h67, o_bind]
  by_cases t0 : t.1 = 0
  · obtain ⟨S', e1, e2, e3⟩ := stopN S n (Int32.ofNat (ip false (p1 + 1) lp j)) (Int32.ofNat c) (by rw [isNullQ hta.1 hq, if_pos t0]) nc (i_ne1 (by omega)) ⟨_, _, _, _, _, _, q1, rfl⟩
    rw [cutV_null t0]
    exact ⟨S', 0, e1, e2, fun h => absurd rfl h, fun _ => Or.inl ⟨t, rfl, hK.1 t hw0, Or.inl ⟨e3, hK.self q2u⟩⟩⟩
  have hnull : p_isNull S = some 0 := by rw [isNullQ hta.1 hq, if_neg t0]
  have contin : ∀ X, p_step S t1 (Int32.ofNat (ip false (p1 + 1) lp j)) = some X → p_follow_l15 ta t1 (n + 1) S (Int32.ofNat (ip false (p1 + 1) lp j)) (Int32.ofNat c) = if X.2 = 0 then ((t_next (tT X.1 t1) (Int32.ofNat (ip false (p1 + 1) lp j))).bind fun r13 => p_follow_l15 ta t1 n X.1 r13 (Int32.ofNat (c + 1))) else some (X.1, X.2) := by
    intro X hX
    show (if (4096 : Int32) ≤ Int32.ofNat c then _ else if Int32.ofNat (ip false (p1 + 1) lp j) = (-1 : Int32) then _ else _) = _
    rw [if_neg nc, if_neg (i_ne1 (by omega)), hnull, o_bind, if_pos rfl, hX, o_bind, i_a1]
  have lastL : ∀ (S1 : SS) (x : Int32), p_follow_l15 ta t1 n S1 (-1) x = some (S1, 0) := by
    intro S1 x
    obtain ⟨n, rfl⟩ : ∃ j, n = j + 1 := ⟨n - 1, by omega⟩
    unfold p_follow_l15
    by_cases g : (4096 : Int32) ≤ x
    · rw [if_pos g]
    · rw [if_neg g, if_pos rfl]
  have refuse : p_step S t1 (Int32.ofNat (ip false (p1 + 1) lp j)) = some (S, 1) → cutV (pi :: ps) t w = none → ∃ S' e, p_follow_l15 ta t1 (n + 1) S (Int32.ofNat (ip false (p1 + 1) lp j)) (Int32.ofNat c) = some (S', e) ∧ fr67 S S' ∧ (e ≠ 0 → cutV (pi :: ps) t w = none ∧ (S' 67).length = 6) ∧ (e = 0 → (∃ T, cutV (pi :: ps) t w = some T ∧ wV (K T) ∧ endC S' ta us (bV (K T))) ∨ (cutV (pi :: ps) t w = none ∧ strC S' ta)) := by
    intro h1 h2
    exact ⟨S, 1, by rw [contin _ h1, if_neg (show ¬ (1 : Int32) = 0 by decide)], fun _ _ => rfl, fun _ => ⟨h2, by rw [q1]; rfl⟩, fun h => absurd h (by decide)⟩
  have nothing : ∀ S1, p_step S t1 (Int32.ofNat (ip false (p1 + 1) lp j)) = some (S1, 0) → fr67 S S1 → spN S1 ta → cutV (pi :: ps) t w = some t → ∃ S' e, p_follow_l15 ta t1 (n + 1) S (Int32.ofNat (ip false (p1 + 1) lp j)) (Int32.ofNat c) = some (S', e) ∧ fr67 S S' ∧ (e ≠ 0 → cutV (pi :: ps) t w = none ∧ (S' 67).length = 6) ∧ (e = 0 → (∃ T, cutV (pi :: ps) t w = some T ∧ wV (K T) ∧ endC S' ta us (bV (K T))) ∨ (cutV (pi :: ps) t w = none ∧ strC S' ta)) := by
    intro S1 h1 hf hN h2
    obtain ⟨-, tv⟩ := ttA S1 hf
    by_cases hm : m = 0
    · rw [if_pos hm] at s2
      exact ⟨S1, 0, by rw [contin _ h1, if_pos rfl, tv, s2, o_bind, lastL], hf, fun h => absurd rfl h, fun _ => Or.inl ⟨t, h2, hK.1 t hw0, Or.inl ⟨hN, hK.self q2u⟩⟩⟩
    · rw [if_neg hm] at s2
      obtain ⟨n', rfl⟩ : ∃ j, n = j + 1 := ⟨n - 1, by omega⟩
      have hjl2 : j + 1 < lp.length := by omega
      have s12 := (step_ap hp hjl2).1.lt
      obtain ⟨it', lo', hi', h67⟩ := id hN
      obtain ⟨S', e1, e2, e3⟩ := stopN S1 n' (Int32.ofNat (ip false (p1 + 1) lp (j + 1))) (Int32.ofNat (c + 1)) (by unfold p_isNull; rw [hN.kind hta.1, o_bind, if_pos rfl]) (by rw [show (4096 : Int32) = Int32.ofNat 4096 from rfl, i_le' (by omega) (by omega)]; omega) (i_ne1 (by omega)) ⟨_, _, _, _, _, _, h67, rfl⟩
      refine ⟨S', 0, by rw [contin _ h1, if_pos rfl, tv, s2, o_bind, e1], fun a ha => (e2 a ha).trans (hf a ha), fun h => absurd rfl h, fun _ => Or.inl ⟨t, h2, hK.1 t hw0, Or.inl ⟨e3, hK.self q2u⟩⟩⟩
  have found : ∀ (S1 : SS) (q' it' : Nat) (t' R : Vl) (F : Vl → Vl), p_step S t1 (Int32.ofNat (ip false (p1 + 1) lp j)) = some (S1, 0) → fr67 S S1 → spQ S1 ta q' (Int32.ofNat it') t' none → ctx us q' t' (fun u => K (F u)) → remT us it' (q' + (bV t').length) (bV (K R)) → wV R → cutV (pi :: ps) t w = (if ps.isEmpty then some R else (cutV ps t' none).map F) → ∃ S' e, p_follow_l15 ta t1 (n + 1) S (Int32.ofNat (ip false (p1 + 1) lp j)) (Int32.ofNat c) = some (S', e) ∧ fr67 S S' ∧ (e ≠ 0 → cutV (pi :: ps) t w = none ∧ (S' 67).length = 6) ∧ (e = 0 → (∃ T, cutV (pi :: ps) t w = some T ∧ wV (K T) ∧ endC S' ta us (bV (K T))) ∨ (cutV (pi :: ps) t w = none ∧ strC S' ta)) := by
    intro S1 q' it' t' R F h1 hf hq' hc' hrem hR hS
    obtain ⟨tu, tv⟩ := ttA S1 hf
    by_cases hm : m = 0
    · rw [if_pos (emp.mpr hm)] at hS
      rw [if_pos hm] at s2
      exact ⟨S1, 0, by rw [contin _ h1, if_pos rfl, tv, s2, o_bind, lastL], hf, fun h => absurd rfl h, fun _ => Or.inl ⟨R, hS, hK.1 R hR, Or.inr (Or.inl ⟨q', it', t', hq', hrem⟩)⟩⟩
    · rw [if_neg (fun x => hm (emp.mp x))] at hS
      rw [if_neg hm] at s2
      obtain ⟨S', e, j1, j2, j3, j4⟩ := ih (m - 1) (by omega) (j + 1) n (c + 1) S1 q' (Int32.ofNat it') t' none (fun u => K (F u)) (by omega) (by omega) (by omega) tu tv hq' hc'
      rw [← hps] at j3 j4
      refine ⟨S', e, by rw [contin _ h1, if_pos rfl, tv, s2, o_bind]; exact j1, fun a ha => (j2 a ha).trans (hf a ha), fun h => ⟨by rw [hS, (j3 h).1]; rfl, (j3 h).2⟩, fun h => ?_⟩
      rcases j4 h with ⟨T, y1, y2, y3⟩ | ⟨y1, y2⟩
      · exact Or.inl ⟨F T, by rw [hS, y1]; rfl, y2, y3⟩
      · exact Or.inr ⟨by rw [hS, y1]; rfl, y2⟩
  have htk := hq.c.kind hta.1
  by_cases t5 : t.1 = 5
  · obtain ⟨kt, v0, s0, ft⟩ := t
    obtain ⟨l, rfl⟩ : ∃ l, ft = ofL l := ⟨toL ft, (ofL_toL ft).symm⟩
    have t5 : kt = 5 := t5
    subst t5
    have hbox := box5 q2u
    by_cases e3 : pi.1 = 3
    · have hx := s1.2.2.1.2.1 e3
      obtain ⟨X, hX⟩ : ∃ X, X = atX pi.2.1 (winN (5, v0, s0, ofL l) w) := ⟨_, rfl⟩
      have eS : cutV (pi :: ps) (5, v0, s0, ofL l) w = if 0 ≤ X ∧ X < winN (5, v0, s0, ofL l) w then (if ps.isEmpty then some (5, v0, s0, ofL (l.take (winA (5, v0, s0, ofL l) w + X.toNat) ++ l.drop (winA (5, v0, s0, ofL l) w + X.toNat + 1))) else (cutV ps ((l.getD (winA (5, v0, s0, ofL l) w + X.toNat) nulM).2) none).map (fun u => (5, v0, s0, ofL (l.set (winA (5, v0, s0, ofL l) w + X.toNat) ((l.getD (winA (5, v0, s0, ofL l) w + X.toNat) nulM).1, u))))) else some (5, v0, s0, ofL l) := by
        rw [hX]
        show (if (5 : Nat) = 0 then _ else if pi.1 = 3 then (if (5 : Nat) = 5 then _ else _) else _) = _
        rw [if_neg (by decide), if_pos e3, if_pos rfl]
        simp only [toL_ofL]
      obtain ⟨p1', p2'⟩ := placeL hta hq hx
      rw [← hX] at p1' p2'
      by_cases hin : 0 ≤ X ∧ X < winN (5, v0, s0, ofL l) w
      · obtain ⟨S1, hj', a1, a2, a3⟩ := p1' hin
        rw [if_pos hin, getD_in _ hj'] at eS
        refine found S1 _ _ _ _ _ (by rw [pstep3 s1S e3, a1, o_bind]) a2 a3 (hK.elem q2u hj') ?_ (wV_5 hw0.2.2.1 ?_) eS
        · rw [hK.t5]
          have := remT_of (b := false) (lo := winA (5, v0, s0, ofL l) w + X.toNat) (hi := winA (5, v0, s0, ofL l) w + X.toNat + 1) (show (91 : Int32) ≠ 44 by decide) (show (93 : Int32) ≠ 44 by decide) hus (by omega) (by omega) hbox
          exact this
        · intro x hx'
          rcases List.mem_append.mp hx' with g | g
          · exact hw0.kids x (List.mem_of_mem_take g)
          · exact hw0.kids x (List.mem_of_mem_drop g)
      · obtain ⟨S1, a1, a2, a3⟩ := p2' hin
        rw [if_neg hin] at eS
        exact nothing S1 (by rw [pstep3 s1S e3, a1, o_bind]) a2 a3 eS
    by_cases e4 : pi.1 = 4
    · obtain ⟨x1, x2, x3, r, x4⟩ := str_at s1S e4
      obtain ⟨-, b2⟩ := byName_val hta hq.c x1 x3 x4
      refine refuse (by rw [pstep4 s1S e4, b2 (show ¬ (5 : Nat) = 6 by decide), o_bind]) ?_
      show (if (5 : Nat) = 0 then _ else if pi.1 = 3 then _ else if pi.1 = 4 then (if (5 : Nat) = 6 then _ else none) else _) = none
      rw [if_neg (by decide), if_neg e3, if_pos e4, if_neg (by decide)]
    by_cases e6 : pi.1 = 6
    · have eS : cutV (pi :: ps) (5, v0, s0, ofL l) w = if @decide (okBd pi) (Classical.propDecidable _) = true then cutV ps (5, v0, s0, ofL l) (some (nwA pi (winA (5, v0, s0, ofL l) w) (winE (5, v0, s0, ofL l) w), nwB pi (winA (5, v0, s0, ofL l) w) (winE (5, v0, s0, ofL l) w))) else none := by
        show (if (5 : Nat) = 0 then _ else if pi.1 = 3 then _ else if pi.1 = 4 then _ else if pi.1 = 6 then (if _ then (if (5 : Nat) = 5 then _ else _) else _) else _) = _
        rw [if_neg (by decide), if_neg e3, if_neg e4, if_pos e6, if_pos rfl]
      obtain ⟨b1, b2⟩ := partQ hta ht1 hq s1S e6
      by_cases ok : okBd pi
      · obtain ⟨S1, a1, a2, a3⟩ := b1 ⟨Or.inr rfl, ok.1, ok.2⟩
        rw [if_pos (@decide_eq_true _ (Classical.propDecidable _) ok)] at eS
        have hst : p_step S t1 (Int32.ofNat (ip false (p1 + 1) lp j)) = some (S1, 0) := by rw [pstep6 s1S e6, a1, o_bind]
        obtain ⟨tu, tv⟩ := ttA S1 a2
        by_cases hm : m = 0
        · have hpe : ps = [] := List.isEmpty_iff.mp (emp.mpr hm)
          rw [if_pos hm] at s2
          rw [eS, hpe]
          obtain ⟨A, hA⟩ : ∃ A, A = nwA pi (winA (5, v0, s0, ofL l) w) (winE (5, v0, s0, ofL l) w) := ⟨_, rfl⟩
          obtain ⟨B, hB⟩ : ∃ B, B = nwB pi (winA (5, v0, s0, ofL l) w) (winE (5, v0, s0, ofL l) w) := ⟨_, rfl⟩
          rw [← hA, ← hB] at a3
          rw [← hA, ← hB]
          have ec : cutV [] (5, v0, s0, ofL l) (some (A, B)) = some (5, v0, s0, ofL (l.take A ++ l.drop B)) := by
            show some (5, v0, s0, ofL ((toL (ofL l)).take A ++ (toL (ofL l)).drop B)) = _
            rw [toL_ofL]
          refine ⟨S1, 0, by rw [contin _ hst, if_pos rfl, tv, s2, o_bind, lastL], a2, fun h => absurd rfl h, fun _ => Or.inl ⟨_, ec, hK.1 _ (wV_5 hw0.2.2.1 ?_), Or.inr (Or.inr ⟨q, it, v0, s0, l, A, B, a3, hK.t5 _⟩)⟩⟩
          intro x hx'
          rcases List.mem_append.mp hx' with g | g
          · exact hw0.kids x (List.mem_of_mem_take g)
          · exact hw0.kids x (List.mem_of_mem_drop g)
        · rw [if_neg hm] at s2
          obtain ⟨S', e, j1, j2, j3, j4⟩ := ih (m - 1) (by omega) (j + 1) n (c + 1) S1 q it (5, v0, s0, ofL l) _ K (by omega) (by omega) (by omega) tu tv a3 hK
          rw [← hps, ← eS] at j3 j4
          exact ⟨S', e, by rw [contin _ hst, if_pos rfl, tv, s2, o_bind]; exact j1, fun a ha => (j2 a ha).trans (a2 a ha), j3, j4⟩
      · rw [if_neg (fun g => ok (@of_decide_eq_true _ (Classical.propDecidable _) g))] at eS
        exact refuse (by rw [pstep6 s1S e6, b2 (fun g => ok ⟨g.2.1, g.2.2⟩), o_bind]) eS
    · refine refuse (pstepX s1S e3 e4 e6) ?_
      show (if (5 : Nat) = 0 then _ else if pi.1 = 3 then _ else if pi.1 = 4 then _ else if pi.1 = 6 then _ else none) = none
      rw [if_neg (by decide), if_neg e3, if_neg e4, if_neg e6]
  by_cases t6 : t.1 = 6
  · obtain ⟨kt, v0, s0, ft⟩ := t
    obtain ⟨l, rfl⟩ : ∃ l, ft = ofL l := ⟨toL ft, (ofL_toL ft).symm⟩
    have t6 : kt = 6 := t6
    subst t6
    have hbox := box6 q2u
    by_cases e4 : pi.1 = 4
    · obtain ⟨x1, x2, x3, r, x4⟩ := str_at s1S e4
      have eS : cutV (pi :: ps) (6, v0, s0, ofL l) w = if l.findIdx (fun m => m.1 == pi.2.2.1) < l.length then (if ps.isEmpty then some (6, v0, s0, ofL (l.take (l.findIdx (fun m => m.1 == pi.2.2.1)) ++ l.drop (l.findIdx (fun m => m.1 == pi.2.2.1) + 1))) else (cutV ps ((l.getD (l.findIdx (fun m => m.1 == pi.2.2.1)) nulM).2) none).map (fun u => (6, v0, s0, ofL (l.set (l.findIdx (fun m => m.1 == pi.2.2.1)) ((l.getD (l.findIdx (fun m => m.1 == pi.2.2.1)) nulM).1, u))))) else some (6, v0, s0, ofL l) := by
        show (if (6 : Nat) = 0 then _ else if pi.1 = 3 then _ else if pi.1 = 4 then (if (6 : Nat) = 6 then _ else _) else _) = _
        rw [if_neg (by decide), if_neg (by omega), if_pos e4, if_pos rfl]
        simp only [toL_ofL]
      obtain ⟨b1, b2⟩ := nameQ hta hq x1 x3 x4
      by_cases hj' : l.findIdx (fun m => m.1 == pi.2.2.1) < l.length
      · obtain ⟨S1, a1, a2, a3⟩ := b1 hj'
        rw [if_pos hj', getD_in _ hj'] at eS
        refine found S1 _ _ _ _ _ (by rw [pstep4 s1S e4, a1, o_bind]) a2 a3 (hK.memb q2u hj') ?_ (wV_6 hw0.2.2.1 ?_ (drop_nod hw0.nod _)) eS
        · rw [hK.t6]
          have := remT_of (b := true) (lo := l.findIdx (fun m => m.1 == pi.2.2.1)) (hi := l.findIdx (fun m => m.1 == pi.2.2.1) + 1) (show (123 : Int32) ≠ 44 by decide) (show (125 : Int32) ≠ 44 by decide) hus (by omega) (by omega) hbox
          have e2 : ip true (q + 1) l (l.findIdx (fun m => m.1 == pi.2.2.1) + 1 - 1) + (bM true (l[l.findIdx (fun m => m.1 == pi.2.2.1) + 1 - 1]'(by omega))).length = ip true (q + 1) l (l.findIdx (fun m => m.1 == pi.2.2.1)) + (pstr (l[l.findIdx (fun m => m.1 == pi.2.2.1)]).1).length + 1 + (bV (l[l.findIdx (fun m => m.1 == pi.2.2.1)]).2).length := by
            simp only [Nat.add_sub_cancel]
            unfold bM
            simp only [if_true, List.length_append, List.length_cons, List.length_nil]
            omega
          rw [e2] at this
          exact this
        · intro x hx'
          rcases List.mem_append.mp hx' with g | g
          · exact hw0.kids x (List.mem_of_mem_take g)
          · exact hw0.kids x (List.mem_of_mem_drop g)
      · obtain ⟨S1, a1, a2, a3⟩ := b2 hj'
        rw [if_neg hj'] at eS
        exact nothing S1 (by rw [pstep4 s1S e4, a1, o_bind]) a2 a3 eS
    by_cases e3 : pi.1 = 3
    · obtain ⟨-, b2⟩ := byPlace_val hta hq.c (s1.2.2.1.2.1 e3)
      refine refuse (by rw [pstep3 s1S e3, b2 (show ¬ (6 : Nat) = 5 by decide), o_bind]) ?_
      show (if (6 : Nat) = 0 then _ else if pi.1 = 3 then (if (6 : Nat) = 5 then _ else none) else _) = none
      rw [if_neg (by decide), if_pos e3, if_neg (by decide)]
    by_cases e6 : pi.1 = 6
    · obtain ⟨-, b2⟩ := partQ hta ht1 hq s1S e6
      refine refuse (by rw [pstep6 s1S e6, b2 (fun g => by rcases g.1 with g | g; exact absurd g (show ¬ (6 : Nat) = 4 by decide); exact absurd g (show ¬ (6 : Nat) = 5 by decide)), o_bind]) ?_
      show (if (6 : Nat) = 0 then _ else if pi.1 = 3 then _ else if pi.1 = 4 then _ else if pi.1 = 6 then (if _ then (if (6 : Nat) = 5 then _ else none) else none) else _) = none
      rw [if_neg (by decide), if_neg e3, if_neg e4, if_pos e6, if_neg (show ¬ (6 : Nat) = 5 by decide)]
      split <;> rfl
    · refine refuse (pstepX s1S e3 e4 e6) ?_
      show (if (6 : Nat) = 0 then _ else if pi.1 = 3 then _ else if pi.1 = 4 then _ else if pi.1 = 6 then _ else none) = none
      rw [if_neg (by decide), if_neg e3, if_neg e4, if_neg e6]
  by_cases t4 : t.1 = 4
  · have eS := cutV_4 t4 pi ps w
    by_cases e3 : pi.1 = 3
    · obtain ⟨-, b2⟩ := byPlace_val hta hq.c (s1.2.2.1.2.1 e3)
      exact refuse (by rw [pstep3 s1S e3, b2 t5, o_bind]) eS
    by_cases e4 : pi.1 = 4
    · obtain ⟨x1, x2, x3, r, x4⟩ := str_at s1S e4
      obtain ⟨-, b2⟩ := byName_val hta hq.c x1 x3 x4
      exact refuse (by rw [pstep4 s1S e4, b2 t6, o_bind]) eS
    by_cases e6 : pi.1 = 6
    · obtain ⟨b1, b2⟩ := partQ hta ht1 hq s1S e6
      by_cases ok : okBd pi
      · obtain ⟨S1, a1, a2, a3⟩ := b1 ⟨Or.inl t4, ok.1, ok.2⟩
        have hst : p_step S t1 (Int32.ofNat (ip false (p1 + 1) lp j)) = some (S1, 0) := by rw [pstep6 s1S e6, a1, o_bind]
        obtain ⟨tu, tv⟩ := ttA S1 a2
        by_cases hm : m = 0
        · rw [if_pos hm] at s2
          exact ⟨S1, 0, by rw [contin _ hst, if_pos rfl, tv, s2, o_bind, lastL], a2, fun h => absurd rfl h, fun _ => Or.inr ⟨eS, q, it, t, _, a3, t4⟩⟩
        · rw [if_neg hm] at s2
          obtain ⟨S', e, j1, j2, j3, j4⟩ := ih (m - 1) (by omega) (j + 1) n (c + 1) S1 q it t _ K (by omega) (by omega) (by omega) tu tv a3 hK
          have hne : ∃ pi' ps', (lp.drop (j + 1)).map (fun m => m.2) = pi' :: ps' := ⟨_, _, by rw [List.drop_eq_getElem_cons (show j + 1 < lp.length by omega), List.map_cons]⟩
          obtain ⟨pi', ps', hps'⟩ := hne
          rw [hps', cutV_4 t4] at j3 j4
          refine ⟨S', e, by rw [contin _ hst, if_pos rfl, tv, s2, o_bind]; exact j1, fun a ha => (j2 a ha).trans (a2 a ha), fun h => ⟨eS, (j3 h).2⟩, fun h => ?_⟩
          rcases j4 h with ⟨T, y1, -⟩ | ⟨-, y2⟩
          · cases y1
          · exact Or.inr ⟨eS, y2⟩
      · exact refuse (by rw [pstep6 s1S e6, b2 (fun g => ok ⟨g.2.1, g.2.2⟩), o_bind]) eS
    · exact refuse (pstepX s1S e3 e4 e6) eS
  · have eS : cutV (pi :: ps) t w = none := by
      unfold cutV
      rw [if_neg t0, if_neg t5, if_neg t6, if_neg t5]
      simp
    by_cases e3 : pi.1 = 3
    · obtain ⟨-, b2⟩ := byPlace_val hta hq.c (s1.2.2.1.2.1 e3)
      exact refuse (by rw [pstep3 s1S e3, b2 t5, o_bind]) eS
    by_cases e4 : pi.1 = 4
    · obtain ⟨x1, x2, x3, r, x4⟩ := str_at s1S e4
      obtain ⟨-, b2⟩ := byName_val hta hq.c x1 x3 x4
      exact refuse (by rw [pstep4 s1S e4, b2 t6, o_bind]) eS
    by_cases e6 : pi.1 = 6
    · obtain ⟨-, b2⟩ := partQ hta ht1 hq s1S e6
      exact refuse (by rw [pstep6 s1S e6, b2 (fun g => by rcases g.1 with g | g; exact t4 g; exact t5 g), o_bind]) eS
    · exact refuse (pstepX s1S e3 e4 e6) eS
end Cut168
