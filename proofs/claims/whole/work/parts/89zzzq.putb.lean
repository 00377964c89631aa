/-! What set means on trees; the class where nothing is there. -/
section PutB158
/-- bounds of a part -/
def okBd (pi : Vl) : Prop := okD (byN pi stS) ∧ okD (byN pi enS)
/-- a member set, or a new one behind all -/
def setM (l : List Mb) (s : List Int32) (u : Vl) : List Mb := if l.findIdx (fun m => m.1 == s) < l.length then l.set (l.findIdx (fun m => m.1 == s)) (s, u) else l ++ [(s, u)]
/-- the value put at the end of the steps; nothing if it can't be -/
noncomputable def putS : List Vl → Vl → Option (Nat × Nat) → Vl → Option Vl
  | [], t, w, v => match w with
    | none => some v
    | some (a, b) => if v.1 = 5 then (if t.1 = 5 then some (5, t.2.1, t.2.2.1, ofL ((toL t.2.2.2).take a ++ (toL v.2.2.2 ++ (toL t.2.2.2).drop b))) else some v) else none
  | pi :: ps, t, w, v =>
    if pi.1 = 6 then (if @decide (okBd pi) (Classical.propDecidable _) = true then (if t.1 = 5 then putS ps t (some (nwA pi (winA t w) (winE t w), nwB pi (winA t w) (winE t w))) v else if t.1 = 0 then putS ps vNull (some (0, 0)) v else none) else none)
    else if pi.1 = 4 then (if w.isSome then none else if t.1 = 6 then (putS ps ((byN t pi.2.2.1).getD vNull) none v).map (fun u => (6, t.2.1, t.2.2.1, ofL (setM (toL t.2.2.2) pi.2.2.1 u))) else if t.1 = 0 then (putS ps vNull none v).map (fun u => (6, 0, [], ofL [(pi.2.2.1, u)])) else none)
    else if pi.1 = 3 then (if t.1 = 5 then (if 0 ≤ atX pi.2.1 (winN t w) ∧ atX pi.2.1 (winN t w) ≤ 1000 then (if atX pi.2.1 (winN t w) < winN t w then (putS ps (((toL t.2.2.2).getD (winA t w + (atX pi.2.1 (winN t w)).toNat) nulM).2) none v).map (fun u => (5, t.2.1, t.2.2.1, ofL ((toL t.2.2.2).set (winA t w + (atX pi.2.1 (winN t w)).toNat) (((toL t.2.2.2).getD (winA t w + (atX pi.2.1 (winN t w)).toNat) nulM).1, u)))) else (putS ps vNull none v).map (fun u => (5, t.2.1, t.2.2.1, ofL ((toL t.2.2.2).take (winE t w) ++ (List.replicate ((atX pi.2.1 (winN t w)).toNat - winN t w) nulM ++ ([], u) :: (toL t.2.2.2).drop (winE t w)))))) else none) else if t.1 = 0 then (if 0 ≤ pi.2.1 ∧ pi.2.1 ≤ 1000 then (putS ps vNull none v).map (fun u => (5, 0, [], ofL (List.replicate pi.2.1.toNat nulM ++ [([], u)]))) else none) else none)
    else none
/-- the path's steps in its text -/
theorem step_at {vs : List Int32} {v : Int} {s : List Int32} {lp : List Mb} {j : Nat} (h : vat vs 0 (5, v, s, ofL lp)) (hj : j < lp.length) : vat vs (ip false 1 lp j) (lp[j]).2 ∧ t_next vs (Int32.ofNat (ip false 1 lp j)) = some (if j + 1 < lp.length then Int32.ofNat (ip false 1 lp (j + 1)) else -1) := by
  obtain ⟨e1, e2⟩ := h.elem hj
  refine ⟨e2, ?_⟩
  obtain ⟨i1, ⟨z, r, hz, i2⟩, i3⟩ := h.item (Or.inl rfl) hj
  have e : (5 == 6) = false := rfl
  rw [e, Nat.zero_add, List.drop_eq_getElem_cons hj] at i2
  obtain ⟨n1, n2, n3, n4⟩ := nx h.1 h.2.1 (h.2.2.1.kids _ (List.getElem_mem hj)) hz i2
  rw [n3]
  by_cases hm : j + 1 < lp.length
  · rw [if_pos hm, if_neg (by rw [List.drop_eq_nil_iff]; omega), ip_1 false 1 lp j hj]
  · rw [if_neg hm, if_pos (by apply List.drop_eq_nil_of_le; omega)]
/-- the texts that the Putter reads -/
def txU (S : SS) (ta t1 t2 dr : Nat) (us vs vv : List Int32) : Prop := tT S ta = us ∧ tT S t1 = vs ∧ tT S t2 = vv ∧ nU ta ∧ nU t1 ∧ nU t2 ∧ nU dr ∧ ta ≠ dr ∧ t1 ≠ dr ∧ t2 ≠ dr
theorem txU.fr {S S' : SS} {ta t1 t2 dr : Nat} {us vs vv : List Int32} (h : txU S ta t1 t2 dr us vs vv) (hf : frU S S' dr) : txU S' ta t1 t2 dr us vs vv := by
  obtain ⟨h1, h2, h3, h4, h5, h6, h7, h8, h9, h10⟩ := h
  have e : ∀ a, nU a → a ≠ dr → S' a = S a := fun a n1 n2 => hf a n1.2.1 n1.2.2.1 n1.2.2.2.1 n1.2.2.2.2 n2
  unfold tT at h1 h2 h3
  exact ⟨by unfold tT; rw [e ta h4 h8]; exact h1, by unfold tT; rw [e t1 h5 h9]; exact h2, by unfold tT; rw [e t2 h6 h10]; exact h3, h4, h5, h6, h7, h8, h9, h10⟩
theorem hasB_val {S : SS} {t1 q2 : Nat} {pi : Vl} (hp : vat (tT S t1) q2 pi) (h6 : pi.1 = 6) : (okBd pi → p_hasBounds S t1 (Int32.ofNat q2) = some 1) ∧ (¬ okBd pi → p_hasBounds S t1 (Int32.ofNat q2) = some 0) := by
  obtain ⟨g1, g2, g3, g4, g5, g6, g7, g8⟩ := k9_
  obtain ⟨x3, y3, f1, f2, f3⟩ := bd_find hp h6 g3 g1 g7 g5
  obtain ⟨x7, y7, f5, f6, f7⟩ := bd_find hp h6 g4 g2 g8 g6
  obtain ⟨ib3, ib3'⟩ := bd_isBound f3
  obtain ⟨ib7, ib7'⟩ := bd_isBound f7
  unfold p_hasBounds
  rw [f1, o_bind, f2, o_bind, f5, o_bind, f6, o_bind]
  refine ⟨fun ok => by rw [ib3 ok.1, o_bind, if_neg (by decide), ib7 ok.2, o_bind, if_neg (by decide)], fun nok => ?_⟩
  by_cases o3 : okD (byN pi stS)
  · rw [ib3 o3, o_bind, if_neg (by decide), ib7' (fun o7 => nok ⟨o3, o7⟩), o_bind, if_pos rfl]
  · rw [ib3' o3, o_bind, if_pos rfl]
def wB (bp : Int32) : Option (Nat × Nat) := if bp = 1 then some (0, 0) else none
/-- from null on, the class writes what the steps need -/
theorem putB {ta t1 t2 dr to : Nat} {us vs : List Int32} {vt : Vl} {vp : Int} {sp : List Int32} {lp : List Mb} {f cb ch : Int32} (hp : vat vs 0 (5, vp, sp, ofL lp)) (hlp : lp.length ≤ 100) (hv : vat (bV vt) 0 vt) (hus : us.length ≤ 4096) (hto : to ≤ us.length) (hch : ch = 0 ∨ ch = 1) : ∀ (m j n : Nat) (S : SS) (B B0 cl : List Int32) (bp nb : Int32) (K : Vl → Vl), j + m = lp.length → m < n → cl.length ≤ j → byt cl → (bp = 0 ∨ bp = 1) → (nb = 0 ∨ nb = 1) → txU S ta t1 t2 dr us vs (bV vt) → wrS S ta dr bp nb cl B f (Int32.ofNat to) cb ch → wctx B0 (cl.reverse ++ ((if ch = 1 then [44] else []) ++ us.drop to)) K → eqT B B0 → ∃ S' e, u_put_l44 ta t1 t2 dr n S (Int32.ofNat lp.length) (if m = 0 then -1 else Int32.ofNat (ip false 1 lp j)) (Int32.ofNat j) = some (S', e) ∧ frU S S' dr ∧ (S' 71).length = 100 ∧ (e = 0 → nb = 0 ∧ ∃ U, putS ((lp.drop j).map fun m => m.2) vNull (wB bp) vt = some U ∧ wV (K U) ∧ ∃ Bf, S' dr = pv Bf ∧ eqT Bf (bV (K U))) ∧ (e ≠ 0 → nb = 1 ∨ putS ((lp.drop j).map fun m => m.2) vNull (wB bp) vt = none) := by
  intro m
  induction m with
  | zero =>
    intro j n S B B0 cl bp nb K hj hn hcl hby hbp hnb hT h hK hE
    obtain ⟨n, rfl⟩ : ∃ j, n = j + 1 := ⟨n - 1, by omega⟩
    have ej : j = lp.length := by omega
    subst ej
    obtain ⟨h1, h2, h3, h4⟩ := id h
    obtain ⟨c1, c2, c3, c4⟩ := h1.flag
    rw [List.drop_eq_nil_of_le (Nat.le_refl _)]
    show ∃ S' e, (if Int32.ofNat lp.length ≤ Int32.ofNat lp.length then _ else _) = some (S', e) ∧ _
    rw [if_pos ((i_le' (by omega) (by omega)).mpr (Nat.le_refl _)), c2, if_neg (by decide), c4, c3]
    have same : ∃ S', ((u_fill S t2).bind fun r30 => ((u_close r30).bind fun r32 => some (r32, (0 : Int32)))) = some (S', 0) ∧ frU S S' dr ∧ (S' 71).length = 100 ∧ ∃ Bf, S' dr = pv Bf ∧ eqT Bf (bV (K vt)) := by
      obtain ⟨g1, g2, g3⟩ := wrS.grow (B' := B ++ bV vt) hT.2.2.2.2.2.2.1 h
      have hT' := hT.fr g2
      obtain ⟨S', k1, k2, k3, k4⟩ := uclose_val hT.2.2.2.2.2.2.1 hT.2.2.2.1.1 hT.2.2.2.2.2.2.2.1 hus hto hch (by omega) hby hT'.1 g1
      refine ⟨S', ?_, g2.trans k3, k4, _, k2, ?_⟩
      · unfold u_fill
        have hl := hv.1
        rw [c2, if_neg (by decide), h1.dr hT.2.2.2.2.2.2.1.1, hT.2.2.1, show (0 : Int32) = Int32.ofNat 0 from rfl, spart_at h4 (fun e => hT.2.2.2.2.2.2.2.2.2 e.symm) (by omega) (by omega), o_bind, hT.2.2.1, List.take_of_length_le (Nat.le_refl _), List.drop_zero, o_bind, k1, o_bind]
      · rw [hK.2]
        have := hE.app (bV vt ++ (cl.reverse ++ ((if ch = 1 then [44] else []) ++ us.drop to)))
        rw [← List.append_assoc] at this
        exact this
    rcases hnb with e | e
    · subst e
      rw [if_pos rfl]
      rcases hbp with e | e
      · subst e
        obtain ⟨S', k1, k2, k3, Bf, k4, k5⟩ := same
        rw [if_pos rfl]
        refine ⟨S', 0, k1, k2, k3, fun _ => ⟨rfl, vt, rfl, hK.1 _ hv.2.2.1, Bf, k4, k5⟩, fun c => absurd rfl c⟩
      · subst e
        rw [if_neg (by decide)]
        have hk := hv.kind
        rw [hT.2.2.1, show (0 : Int32) = Int32.ofNat 0 from rfl, hk, o_bind]
        have k6 := hv.2.2.1.1
        by_cases e5 : vt.1 = 5
        · obtain ⟨S', k1, k2, k3, Bf, k4, k5⟩ := same
          rw [if_pos (by rw [e5]; rfl)]
          refine ⟨S', 0, k1, k2, k3, fun _ => ⟨rfl, vt, ?_, hK.1 _ hv.2.2.1, Bf, k4, k5⟩, fun c => absurd rfl c⟩
          show (if vt.1 = 5 then (if vNull.1 = 5 then _ else some vt) else none) = _
          rw [if_pos e5, if_neg (by decide)]
        · rw [if_neg (by rw [show (5 : Int32) = Int32.ofNat 5 from rfl, i_inj (by omega) (by omega)]; exact e5)]
          refine ⟨S, 1, rfl, frU.refl _ _, h2.1, fun c => absurd c (by decide), fun _ => Or.inr ?_⟩
          show (if vt.1 = 5 then _ else none) = _
          rw [if_neg e5]
    · subst e
      rw [if_neg (by decide)]
      exact ⟨S, 1, rfl, frU.refl _ _, h2.1, fun c => absurd c (by decide), fun _ => Or.inl rfl⟩
  | succ m ih =>
    intro j n S B B0 cl bp nb K hj hn hcl hby hbp hnb hT h hK hE
    obtain ⟨n, rfl⟩ : ∃ j, n = j + 1 := ⟨n - 1, by omega⟩
    have hjl : j < lp.length := by omega
    obtain ⟨h1, h2, h3, h4⟩ := id h
    obtain ⟨c1, c2, c3, c4⟩ := h1.flag
    obtain ⟨s1, s2⟩ := step_at hp hjl
    have hd := hT.2.2.2.2.2.2.1
    have el : (lp.drop j).map (fun m => m.2) = (lp[j]).2 :: (lp.drop (j + 1)).map (fun m => m.2) := by rw [List.drop_eq_getElem_cons hjl, List.map_cons]
    have enx : (if j + 1 < lp.length then Int32.ofNat (ip false 1 lp (j + 1)) else (-1 : Int32)) = if m = 0 then -1 else Int32.ofNat (ip false 1 lp (j + 1)) := by
      by_cases c : m = 0
      · rw [if_pos c, if_neg (by omega)]
      · rw [if_neg c, if_pos (by omega)]
    rw [enx] at s2
    obtain ⟨pi, hpi⟩ : ∃ pi, pi = (lp[j]).2 := ⟨_, rfl⟩
    rw [← hpi] at s1 el
    have k6 := s1.2.2.1.1
    rw [if_neg (by omega : ¬ m + 1 = 0), el]
    -- how a step goes on
    have step : ∀ X, u_grow S t1 (Int32.ofNat (ip false 1 lp j)) = some X → u_put_l44 ta t1 t2 dr (n + 1) S (Int32.ofNat lp.length) (Int32.ofNat (ip false 1 lp j)) (Int32.ofNat j) = if X.2 = 0 then ((t_next (tT X.1 t1) (Int32.ofNat (ip false 1 lp j))).bind fun r58 => u_put_l44 ta t1 t2 dr n X.1 (Int32.ofNat lp.length) r58 (Int32.ofNat (j + 1))) else some (X.1, X.2) := by
      intro X hX
      show (if Int32.ofNat lp.length ≤ Int32.ofNat j then _ else (if rd S 69 6 = 0 then _ else _)) = _
      rw [if_neg (by rw [i_le' (by omega) (by omega)]; omega), c2, if_neg (by decide), hX, o_bind, i_a1]
    have goOn : ∀ (S1 : SS) (B1 B01 cl1 : List Int32) (bp1 nb1 : Int32) (K1 : Vl → Vl), u_grow S t1 (Int32.ofNat (ip false 1 lp j)) = some (S1, 0) → cl1.length ≤ j + 1 → byt cl1 → (bp1 = 0 ∨ bp1 = 1) → (nb1 = 0 ∨ nb1 = 1) → frU S S1 dr → wrS S1 ta dr bp1 nb1 cl1 B1 f (Int32.ofNat to) cb ch → wctx B01 (cl1.reverse ++ ((if ch = 1 then [44] else []) ++ us.drop to)) K1 → eqT B1 B01 → (nb1 = 0 → nb = 0) → (∀ U, putS ((lp.drop (j + 1)).map fun m => m.2) vNull (wB bp1) vt = some U → nb1 = 0 → ∃ U', putS (pi :: (lp.drop (j + 1)).map fun m => m.2) vNull (wB bp) vt = some U' ∧ K U' = K1 U) → (nb1 = 1 → nb = 1 ∨ putS (pi :: (lp.drop (j + 1)).map fun m => m.2) vNull (wB bp) vt = none) → (putS ((lp.drop (j + 1)).map fun m => m.2) vNull (wB bp1) vt = none → putS (pi :: (lp.drop (j + 1)).map fun m => m.2) vNull (wB bp) vt = none) → ∃ S' e, u_put_l44 ta t1 t2 dr (n + 1) S (Int32.ofNat lp.length) (Int32.ofNat (ip false 1 lp j)) (Int32.ofNat j) = some (S', e) ∧ frU S S' dr ∧ (S' 71).length = 100 ∧ (e = 0 → nb = 0 ∧ ∃ U, putS (pi :: (lp.drop (j + 1)).map fun m => m.2) vNull (wB bp) vt = some U ∧ wV (K U) ∧ ∃ Bf, S' dr = pv Bf ∧ eqT Bf (bV (K U))) ∧ (e ≠ 0 → nb = 1 ∨ putS (pi :: (lp.drop (j + 1)).map fun m => m.2) vNull (wB bp) vt = none) := by
      intro S1 B1 B01 cl1 bp1 nb1 K1 hg hc1 hb1 hbp1 hnb1 hf hw1 hk1 he1 hn1 hq hz hno
      have hT1 := hT.fr hf
      obtain ⟨S', e, j1, j2, j3, j4, j5⟩ := ih (j + 1) n S1 B1 B01 cl1 bp1 nb1 K1 (by omega) (by omega) hc1 hb1 hbp1 hnb1 hT1 hw1 hk1 he1
      refine ⟨S', e, ?_, hf.trans j2, j3, fun he => ?_, fun he => ?_⟩
      · rw [step _ hg, if_pos rfl, hT1.2.1, s2, o_bind]
        exact j1
      · obtain ⟨z1, U, z2, z3, Bf, z4, z5⟩ := j4 he
        obtain ⟨U', y1, y2⟩ := hq U z2 z1
        exact ⟨hn1 z1, U', y1, by rw [y2]; exact z3, Bf, z4, by rw [y2]; exact z5⟩
      · rcases j5 he with c | c
        · exact hz c
        · exact Or.inr (hno c)
    have refuse : ∀ X, u_grow S t1 (Int32.ofNat (ip false 1 lp j)) = some X → X.2 ≠ 0 → frU S X.1 dr → (X.1 71).length = 100 → putS (pi :: (lp.drop (j + 1)).map fun m => m.2) vNull (wB bp) vt = none → ∃ S' e, u_put_l44 ta t1 t2 dr (n + 1) S (Int32.ofNat lp.length) (Int32.ofNat (ip false 1 lp j)) (Int32.ofNat j) = some (S', e) ∧ frU S S' dr ∧ (S' 71).length = 100 ∧ (e = 0 → nb = 0 ∧ ∃ U, putS (pi :: (lp.drop (j + 1)).map fun m => m.2) vNull (wB bp) vt = some U ∧ wV (K U) ∧ ∃ Bf, S' dr = pv Bf ∧ eqT Bf (bV (K U))) ∧ (e ≠ 0 → nb = 1 ∨ putS (pi :: (lp.drop (j + 1)).map fun m => m.2) vNull (wB bp) vt = none) := by
      intro X hX h0 hf hl hn
      exact ⟨X.1, X.2, by rw [step X hX, if_neg h0], hf, hl, fun c => absurd c h0, fun _ => Or.inr hn⟩
    have hk := s1.kind
    rw [← hT.2.1] at hk
    by_cases e3 : pi.1 = 3
    · have s1' := s1
      rw [vl3 e3, ← hT.2.1] at s1'
      have hx := s1.2.2.1.2.1 e3
      have l1 := l_of (z := pi.2.1) (by omega) (by omega)
      have z0 : (0 : Int64).toInt = 0 := rfl
      have z1 : (1000 : Int64).toInt = 1000 := rfl
      have eS : putS (pi :: (lp.drop (j + 1)).map fun m => m.2) vNull (wB bp) vt = if 0 ≤ pi.2.1 ∧ pi.2.1 ≤ 1000 then (putS ((lp.drop (j + 1)).map fun m => m.2) vNull none vt).map (fun u => (5, 0, [], ofL (List.replicate pi.2.1.toNat nulM ++ [([], u)]))) else none := by
        show (if pi.1 = 6 then _ else if pi.1 = 4 then _ else if pi.1 = 3 then _ else _) = _
        rw [if_neg (by omega), if_neg (by omega), if_pos e3, if_neg (show ¬ vNull.1 = 5 by decide), if_pos (show vNull.1 = 0 from rfl)]
      have eG : u_grow S t1 (Int32.ofNat (ip false 1 lp j)) = if (lg_cmp (Int64.ofInt pi.2.1) 0) < 0 then some (S, 2) else (if (lg_cmp (Int64.ofInt pi.2.1) 1000) ≤ 0 then ((u_open S 91 93).bind fun r8 => ((u_nulls r8 (Int64.ofInt pi.2.1).toInt32).bind fun r10 => some (r10, 0))) else some (S, 2)) := by
        unfold u_grow
        rw [hk, o_bind, if_pos (by rw [e3]; rfl), s1'.number, o_bind]
      by_cases ok : 0 ≤ pi.2.1 ∧ pi.2.1 ≤ 1000
      · obtain ⟨S1, a1, a2, a3, a4⟩ := uopen_val (x := 91) (y := 93) hd h (by omega) (by decide) (by decide)
        obtain ⟨S2, B2, b1, b2, b3, b4, b5⟩ := unulls_val (k := pi.2.1.toNat) hd (by omega) a2
        have et : (Int64.ofInt pi.2.1).toInt32 = Int32.ofNat pi.2.1.toNat := l_to32 (by rw [l1]; omega) (by omega)
        refine goOn S2 B2 (B0 ++ (91 :: nulB pi.2.1.toNat)) (cl ++ [93]) 0 nb (fun u => K (5, 0, [], ofL (List.replicate pi.2.1.toNat nulM ++ [([], u)]))) ?_ (by rw [List.length_append]; simp only [List.length_cons, List.length_nil]; omega) ?_ (Or.inl rfl) hnb (a3.trans b4) b2 ?_ ?_ (fun c => c) ?_ (fun c => Or.inl c) ?_
        · rw [eG, if_neg (by rw [lg_lt, l1, z0]; omega), if_pos ((lg_le _ _).mpr (by rw [l1, z1]; omega)), a1, o_bind, et, b1, o_bind]
        · intro u hu
          rcases List.mem_append.mp hu with c | c
          · exact hby u c
          · rw [List.mem_singleton.mp c]; decide
        · rw [List.reverse_append]
          exact hK.arr pi.2.1.toNat
        · refine b3.trans ?_
          have := (hE.app [91]).app (nulB pi.2.1.toNat)
          rw [List.append_assoc B0] at this
          exact this
        · intro U hU _
          refine ⟨(5, 0, [], ofL (List.replicate pi.2.1.toNat nulM ++ [([], U)])), ?_, rfl⟩
          rw [eS, if_pos ok]
          have hU : putS ((lp.drop (j + 1)).map fun m => m.2) vNull none vt = some U := hU
          rw [hU]
          rfl
        · intro hU
          have hU : putS ((lp.drop (j + 1)).map fun m => m.2) vNull none vt = none := hU
          rw [eS, if_pos ok, hU]
          rfl
      · refine refuse (S, 2) ?_ (show ¬ (2 : Int32) = 0 by decide) (frU.refl _ _) h2.1 (by rw [eS, if_neg ok])
        rw [eG]
        by_cases c : pi.2.1 < 0
        · rw [if_pos ((lg_lt _ _).mpr (by rw [l1, z0]; exact c))]
        · rw [if_neg (by rw [lg_lt, l1, z0]; exact c), if_neg (by rw [lg_le, l1, z1]; omega)]
    have i3 : ¬ Int32.ofNat pi.1 = 3 := by rw [show (3 : Int32) = Int32.ofNat 3 from rfl, i_inj (by omega) (by omega)]; exact e3
    by_cases e4 : pi.1 = 4
    · obtain ⟨l1, l2, w0, r, d1, -⟩ := id s1
      have d1' : (tT S t1).drop (ip false 1 lp j) = pstr pi.2.2.1 ++ r := by
        rw [hT.2.1, d1]
        congr 1
        conv => lhs; rw [vl4 e4]
        rfl
      have eS : putS (pi :: (lp.drop (j + 1)).map fun m => m.2) vNull (wB bp) vt = if (wB bp).isSome then none else (putS ((lp.drop (j + 1)).map fun m => m.2) vNull none vt).map (fun u => (6, 0, [], ofL [(pi.2.2.1, u)])) := by
        show (if pi.1 = 6 then _ else if pi.1 = 4 then _ else _) = _
        rw [if_neg (by omega), if_pos e4, if_neg (show ¬ vNull.1 = 6 by decide), if_pos (show vNull.1 = 0 from rfl)]
      have grow : ∀ x : Int32, (x = 0 ∨ x = 1) → ∃ S2, ((u_open (wr S 69 8 x) 123 125).bind fun r16 => ((u_name r16 t1 (Int32.ofNat (ip false 1 lp j))).bind fun r18 => some (r18, (0 : Int32)))) = some (S2, 0) ∧ wrS S2 ta dr 0 x (cl ++ [125]) (B ++ (123 :: (pstr pi.2.2.1 ++ [58]))) f (Int32.ofNat to) cb ch ∧ frU S S2 dr := by
        intro x _
        have a0 : wrS (wr S 69 8 x) ta dr bp x cl B f (Int32.ofNat to) cb ch := by
          refine ⟨h1.w8 x, ?_, ?_, ?_⟩
          · unfold cls; rw [wr_ne (by decide)]; exact h2
          · rw [wr_ne (by decide)]; exact h3
          · rw [wr_ne hd.2.2.1]; exact h4
        have f0 : frU S (wr S 69 8 x) dr := fun a n1 n2 n3 n4 n5 => wr_ne n2
        obtain ⟨S1, a1, a2, a3, a4⟩ := uopen_val (x := 123) (y := 125) hd a0 (by omega) (by decide) (by decide)
        have hT1 := hT.fr (f0.trans a3)
        obtain ⟨S2, b1, b2, b3, b4⟩ := uname_val (q2 := ip false 1 lp j) hd a2 hT.2.2.2.2.2.2.2.2.1 (by rw [hT1.2.1]; exact s1) e4
        refine ⟨S2, by rw [a1, o_bind, b1, o_bind], ?_, (f0.trans a3).trans b3⟩
        rw [List.append_assoc] at b2
        exact b2
      have cont : ∀ (x : Int32) (S2 : SS), u_grow S t1 (Int32.ofNat (ip false 1 lp j)) = some (S2, 0) → (x = 0 ∨ x = 1) → (x = 0 → nb = 0 ∧ bp = 0) → (x = 1 → nb = 1 ∨ bp = 1) → wrS S2 ta dr 0 x (cl ++ [125]) (B ++ (123 :: (pstr pi.2.2.1 ++ [58]))) f (Int32.ofNat to) cb ch → frU S S2 dr → ∃ S' e, u_put_l44 ta t1 t2 dr (n + 1) S (Int32.ofNat lp.length) (Int32.ofNat (ip false 1 lp j)) (Int32.ofNat j) = some (S', e) ∧ frU S S' dr ∧ (S' 71).length = 100 ∧ (e = 0 → nb = 0 ∧ ∃ U, putS (pi :: (lp.drop (j + 1)).map fun m => m.2) vNull (wB bp) vt = some U ∧ wV (K U) ∧ ∃ Bf, S' dr = pv Bf ∧ eqT Bf (bV (K U))) ∧ (e ≠ 0 → nb = 1 ∨ putS (pi :: (lp.drop (j + 1)).map fun m => m.2) vNull (wB bp) vt = none) := by
        intro x S2 hg hx hx0 hx1 hw hf
        refine goOn S2 _ (B0 ++ (123 :: (pstr pi.2.2.1 ++ [58]))) (cl ++ [125]) 0 x (fun u => K (6, 0, [], ofL [(pi.2.2.1, u)])) hg (by rw [List.length_append]; simp only [List.length_cons, List.length_nil]; omega) ?_ (Or.inl rfl) hx hf hw ?_ (hE.app _) (fun c => (hx0 c).1) ?_ ?_ ?_
        · intro u hu
          rcases List.mem_append.mp hu with c | c
          · exact hby u c
          · rw [List.mem_singleton.mp c]; decide
        · rw [List.reverse_append]
          exact hK.obj w0.2.2.1
        · intro U hU c
          refine ⟨(6, 0, [], ofL [(pi.2.2.1, U)]), ?_, rfl⟩
          have hU : putS ((lp.drop (j + 1)).map fun m => m.2) vNull none vt = some U := hU
          rw [eS, (hx0 c).2, if_neg (by decide), hU]
          rfl
        · intro c
          rcases hx1 c with c | c
          · exact Or.inl c
          · exact Or.inr (by rw [eS, c, if_pos (by decide)])
        · intro hU
          have hU : putS ((lp.drop (j + 1)).map fun m => m.2) vNull none vt = none := hU
          rw [eS]
          by_cases c : (wB bp).isSome = true
          · rw [if_pos c]
          · rw [if_neg c, hU]
            rfl
      have i4 : Int32.ofNat pi.1 = 4 := by rw [e4]; rfl
      rcases hnb with c | c
      · rcases hbp with d | d
        · obtain ⟨S2, g1, g2, g3⟩ := grow 0 (Or.inl rfl)
          refine cont 0 S2 ?_ (Or.inl rfl) (fun _ => ⟨c, d⟩) (fun e => absurd e (by decide)) g2 g3
          unfold u_grow
          rw [hk, o_bind, if_neg i3, if_pos i4, c4, c, if_pos rfl, c3, d, if_pos rfl]
          exact g1
        · obtain ⟨S2, g1, g2, g3⟩ := grow 1 (Or.inr rfl)
          refine cont 1 S2 ?_ (Or.inr rfl) (fun e => absurd e (by decide)) (fun _ => Or.inr d) g2 g3
          unfold u_grow
          rw [hk, o_bind, if_neg i3, if_pos i4, c4, c, if_pos rfl, c3, d, if_neg (by decide)]
          exact g1
      · obtain ⟨S2, g1, g2, g3⟩ := grow 1 (Or.inr rfl)
        refine cont 1 S2 ?_ (Or.inr rfl) (fun e => absurd e (by decide)) (fun _ => Or.inl c) g2 g3
        unfold u_grow
        rw [hk, o_bind, if_neg i3, if_pos i4, c4, c, if_neg (by decide)]
        exact g1
    have i4 : ¬ Int32.ofNat pi.1 = 4 := by rw [show (4 : Int32) = Int32.ofNat 4 from rfl, i_inj (by omega) (by omega)]; exact e4
    by_cases e6 : pi.1 = 6
    · have eS : putS (pi :: (lp.drop (j + 1)).map fun m => m.2) vNull (wB bp) vt = if @decide (okBd pi) (Classical.propDecidable _) = true then putS ((lp.drop (j + 1)).map fun m => m.2) vNull (some (0, 0)) vt else none := by
        show (if pi.1 = 6 then _ else _) = _
        rw [if_pos e6, if_neg (show ¬ vNull.1 = 5 by decide), if_pos (show vNull.1 = 0 from rfl)]
      have f0 : frU S (wr S 69 7 1) dr := fun a n1 n2 n3 n4 n5 => wr_ne n2
      have hT1 := hT.fr f0
      have a0 : wrS (wr S 69 7 1) ta dr 1 nb cl B f (Int32.ofNat to) cb ch := by
        refine ⟨h1.w7 1, ?_, ?_, ?_⟩
        · unfold cls; rw [wr_ne (by decide)]; exact h2
        · rw [wr_ne (by decide)]; exact h3
        · rw [wr_ne hd.2.2.1]; exact h4
      obtain ⟨b1, b2⟩ := hasB_val (S := wr S 69 7 1) (t1 := t1) (q2 := ip false 1 lp j) (by rw [hT1.2.1]; exact s1) e6
      have i6 : Int32.ofNat pi.1 = 6 := by rw [e6]; rfl
      by_cases ok : okBd pi
      · refine goOn (wr S 69 7 1) B B0 cl 1 nb K ?_ (by omega) hby (Or.inr rfl) hnb f0 a0 hK hE (fun c => c) ?_ (fun c => Or.inl c) ?_
        · unfold u_grow
          rw [hk, o_bind, if_neg i3, if_neg i4, if_pos i6, b1 ok, o_bind, if_neg (by decide)]
        · intro U hU _
          refine ⟨U, ?_, rfl⟩
          rw [eS, if_pos (@decide_eq_true _ (Classical.propDecidable _) ok)]
          exact hU
        · intro hU
          rw [eS, if_pos (@decide_eq_true _ (Classical.propDecidable _) ok)]
          exact hU
      · refine refuse (wr S 69 7 1, 1) ?_ (show ¬ (1 : Int32) = 0 by decide) f0 a0.2.1.1 ?_
        · unfold u_grow
          rw [hk, o_bind, if_neg i3, if_neg i4, if_pos i6, b2 ok, o_bind, if_pos rfl]
        · rw [eS, if_neg (fun c => ok (@of_decide_eq_true _ (Classical.propDecidable _) c))]
    have i6 : ¬ Int32.ofNat pi.1 = 6 := by rw [show (6 : Int32) = Int32.ofNat 6 from rfl, i_inj (by omega) (by omega)]; exact e6
    refine refuse (S, 1) ?_ (show ¬ (1 : Int32) = 0 by decide) (frU.refl _ _) h2.1 ?_
    · unfold u_grow
      rw [hk, o_bind, if_neg i3, if_neg i4, if_neg i6]
    · show (if pi.1 = 6 then _ else if pi.1 = 4 then _ else if pi.1 = 3 then _ else none) = none
      rw [if_neg e6, if_neg e4, if_neg e3]
end PutB158
