section
/-! What set means on trees; the class where nothing is there. -/
section PutB158
/-- bounds of a part -/
def okBd (pi : Vl) : Prop := okD (byN pi stS) ∧ okD (byN pi enS)
/-- a member set, or a new one behind all -/
def setM (l : List Mb) (s : List Int32) (u : Vl) : List Mb := if l.findIdx (fun m => m.1 == s) < l.length then l.set (l.findIdx (fun m => m.1 == s)) (s, u) else l ++ [(s, u)]
/-- the value put at the end of the steps; nothing if it can't be -/
noncomputable def putS : List Vl → Vl → Option (Nat × Nat) → Vl → Option Vl
  | [], t, w, v => match w with
    | none => some v
    | some (a, b) => if v.1 = 5 then (if t.1 = 5 then some (5, t.2.1, t.2.2.1, ofL ((toL t.2.2.2).take a ++ (toL v.2.2.2 ++ (toL t.2.2.2).drop b))) else some v) else none
  | pi :: ps, t, w, v =>
    if pi.1 = 6 then (if @decide (okBd pi) (Classical.propDecidable _) = true then (if t.1 = 5 then putS ps t (some (nwA pi (winA t w) (winE t w), nwB pi (winA t w) (winE t w))) v else if t.1 = 0 then putS ps vNull (some (0, 0)) v else none) else none)
    else if pi.1 = 4 then (if w.isSome then none else if t.1 = 6 then (putS ps ((byN t pi.2.2.1).getD vNull) none v).map (fun u => (6, t.2.1, t.2.2.1, ofL (setM (toL t.2.2.2) pi.2.2.1 u))) else if t.1 = 0 then (putS ps vNull none v).map (fun u => (6, 0, [], ofL [(pi.2.2.1, u)])) else none)
    else if pi.1 = 3 then (if t.1 = 5 then (if 0 ≤ atX pi.2.1 (winN t w) ∧ atX pi.2.1 (winN t w) ≤ 1000 then (if atX pi.2.1 (winN t w) < winN t w then (putS ps (((toL t.2.2.2).getD (winA t w + (atX pi.2.1 (winN t w)).toNat) nulM).2) none v).map (fun u => (5, t.2.1, t.2.2.1, ofL ((toL t.2.2.2).set (winA t w + (atX pi.2.1 (winN t w)).toNat) (((toL t.2.2.2).getD (winA t w + (atX pi.2.1 (winN t w)).toNat) nulM).1, u)))) else (putS ps vNull none v).map (fun u => (5, t.2.1, t.2.2.1, ofL ((toL t.2.2.2).take (winE t w) ++ (List.replicate ((atX pi.2.1 (winN t w)).toNat - winN t w) nulM ++ ([], u) :: (toL t.2.2.2).drop (winE t w)))))) else none) else if t.1 = 0 then (if 0 ≤ pi.2.1 ∧ pi.2.1 ≤ 1000 then (putS ps vNull none v).map (fun u => (5, 0, [], ofL (List.replicate pi.2.1.toNat nulM ++ [([], u)]))) else none) else none)
    else none
/-- the path's steps in its text -/
theorem step_at {vs : List Int32} {v : Int} {s : List Int32} {lp : List Mb} {j : Nat} (h : vat vs 0 (5, v, s, ofL lp)) (hj : j < lp.length) : vat vs (ip false 1 lp j) (lp[j]).2 ∧ t_next vs (Int32.ofNat (ip false 1 lp j)) = some (if j + 1 < lp.length then Int32.ofNat (ip false 1 lp (j + 1)) else -1) := by
  obtain ⟨e1, e2⟩ := h.elem hj
  refine ⟨e2, ?_⟩
  obtain ⟨i1, ⟨z, r, hz, i2⟩, i3⟩ := h.item (Or.inl rfl) hj
  have e : (5 == 6) = false := rfl
  rw [e, Nat.zero_add, List.drop_eq_getElem_cons hj] at i2
  obtain ⟨n1, n2, n3, n4⟩ := nx h.1 h.2.1 (h.2.2.1.kids _ (List.getElem_mem hj)) hz i2
  rw [n3]
  by_cases hm : j + 1 < lp.length
  · rw [if_pos hm, if_neg (by rw [List.drop_eq_nil_iff]; omega), ip_1 false 1 lp j hj]
  · rw [if_neg hm, if_pos (by apply List.drop_eq_nil_of_le; omega)]
/-- the texts that the Putter reads -/
def txU (S : SS) (ta t1 t2 dr : Nat) (us vs vv : List Int32) : Prop := tT S ta = us ∧ tT S t1 = vs ∧ tT S t2 = vv ∧ nU ta ∧ nU t1 ∧ nU t2 ∧ nU dr ∧ ta ≠ dr ∧ t1 ≠ dr ∧ t2 ≠ dr
theorem txU.fr {S S' : SS} {ta t1 t2 dr : Nat} {us vs vv : List Int32} (h : txU S ta t1 t2 dr us vs vv) (hf : frU S S' dr) : txU S' ta t1 t2 dr us vs vv := by
  obtain ⟨h1, h2, h3, h4, h5, h6, h7, h8, h9, h10⟩ := h
  have e : ∀ a, nU a → a ≠ dr → S' a = S a := fun a n1 n2 => hf a n1.2.1 n1.2.2.1 n1.2.2.2.1 n1.2.2.2.2 n2
  unfold tT at h1 h2 h3
  exact ⟨by unfold tT; rw [e ta h4 h8]; exact h1, by unfold tT; rw [e t1 h5 h9]; exact h2, by unfold tT; rw [e t2 h6 h10]; exact h3, h4, h5, h6, h7, h8, h9, h10⟩
theorem hasB_val {S : SS} {t1 q2 : Nat} {pi : Vl} (hp : vat (tT S t1) q2 pi) (h6 : pi.1 = 6) : (okBd pi → p_hasBounds S t1 (Int32.ofNat q2) = some 1) ∧ (¬ okBd pi → p_hasBounds S t1 (Int32.ofNat q2) = some 0) := by
  obtain ⟨g1, g2, g3, g4, g5, g6, g7, g8⟩ := k9_
  obtain ⟨x3, y3, f1, f2, f3⟩ := bd_find hp h6 g3 g1 g7 g5
  obtain ⟨x7, y7, f5, f6, f7⟩ := bd_find hp h6 g4 g2 g8 g6
  obtain ⟨ib3, ib3'⟩ := bd_isBound f3
  obtain ⟨ib7, ib7'⟩ := bd_isBound f7
  unfold p_hasBounds
  rw [f1, o_bind, f2, o_bind, f5, o_bind, f6, o_bind]
  refine ⟨fun ok => by rw [ib3 ok.1, o_bind, if_neg (by decide), ib7 ok.2, o_bind, if_neg (by decide)], fun nok => ?_⟩
  by_cases o3 : okD (byN pi stS)
  · rw [ib3 o3, o_bind, if_neg (by decide), ib7' (fun o7 => nok ⟨o3, o7⟩), o_bind, if_pos rfl]
  · rw [ib3' o3, o_bind, if_pos rfl]
def wB (bp : Int32) : Option (Nat × Nat) := if bp = 1 then some (0, 0) else none
/-- from null on, the class writes what the steps need -/
theorem putB {ta t1 t2 dr to : Nat} {us vs : List Int32} {vt : Vl} {vp : Int} {sp : List Int32} {lp : List Mb} {f cb ch : Int32} (hp : vat vs 0 (5, vp, sp, ofL lp)) (hlp : lp.length ≤ 100) (hv : vat (bV vt) 0 vt) (hus : us.length ≤ 4096) (hto : to ≤ us.length) (hch : ch = 0 ∨ ch = 1) : ∀ (m j n : Nat) (S : SS) (B B0 cl : List Int32) (bp nb : Int32) (K : Vl → Vl), j + m = lp.length → m < n → cl.length ≤ j → byt cl → (bp = 0 ∨ bp = 1) → (nb = 0 ∨ nb = 1) → txU S ta t1 t2 dr us vs (bV vt) → wrS S ta dr bp nb cl B f (Int32.ofNat to) cb ch → wctx B0 (cl.reverse ++ ((if ch = 1 then [44] else []) ++ us.drop to)) K → eqT B B0 → ∃ S' e, u_put_l44 ta t1 t2 dr n S (Int32.ofNat lp.length) (if m = 0 then -1 else Int32.ofNat (ip false 1 lp j)) (Int32.ofNat j) = some (S', e) ∧ frU S S' dr ∧ (S' 71).length = 100 ∧ (e = 0 → nb = 0 ∧ ∃ U, putS ((lp.drop j).map fun m => m.2) vNull (wB bp) vt = some U ∧ wV (K U) ∧ ∃ Bf, S' dr = pv Bf ∧ eqT Bf (bV (K U))) ∧ (e ≠ 0 → nb = 1 ∨ putS ((lp.drop j).map fun m => m.2) vNull (wB bp) vt = none) := by
  intro m
  induction m with
  | zero =>
    intro j n S B B0 cl bp nb K hj hn hcl hby hbp hnb hT h hK hE
    obtain ⟨n, rfl⟩ : ∃ j, n = j + 1 := ⟨n - 1, by omega⟩
    have ej : j = lp.length := by omega
    subst ej
    obtain ⟨h1, h2, h3, h4⟩ := id h
    obtain ⟨c1, c2, c3, c4⟩ := h1.flag
    rw [List.drop_eq_nil_of_le (Nat.le_refl _)]
    show ∃ S' e, (if Int32.ofNat lp.length ≤ Int32.ofNat lp.length then _ else _) = some (S', e) ∧ _
    rw [if_pos ((i_le' (by omega) (by omega)).mpr (Nat.le_refl _)), c2, if_neg (by decide), c4, c3]
    have same : ∃ S', ((u_fill S t2).bind fun r30 => ((u_close r30).bind fun r32 => some (r32, (0 : Int32)))) = some (S', 0) ∧ frU S S' dr ∧ (S' 71).length = 100 ∧ ∃ Bf, S' dr = pv Bf ∧ eqT Bf (bV (K vt)) := by
      obtain ⟨g1, g2, g3⟩ := wrS.grow (B' := B ++ bV vt) hT.2.2.2.2.2.2.1 h
      have hT' := hT.fr g2
      obtain ⟨S', k1, k2, k3, k4⟩ := uclose_val hT.2.2.2.2.2.2.1 hT.2.2.2.1.1 hT.2.2.2.2.2.2.2.1 hus hto hch (by omega) hby hT'.1 g1
      refine ⟨S', ?_, g2.trans k3, k4, _, k2, ?_⟩
      · unfold u_fill
        have hl := hv.1
        rw [c2, if_neg (by decide), h1.dr hT.2.2.2.2.2.2.1.1, hT.2.2.1, show (0 : Int32) = Int32.ofNat 0 from rfl, spart_at h4 (fun e => hT.2.2.2.2.2.2.2.2.2 e.symm) (by omega) (by omega), o_bind, hT.2.2.1, List.take_of_length_le (Nat.le_refl _), List.drop_zero, o_bind, k1, o_bind]
      · rw [hK.2]
        have := hE.app (bV vt ++ (cl.reverse ++ ((if ch = 1 then [44] else []) ++ us.drop to)))
        rw [← List.append_assoc] at this
        exact this
    rcases hnb with e | e
    · subst e
      rw [if_pos rfl]
      rcases hbp with e | e
      · subst e
        obtain ⟨S', k1, k2, k3, Bf, k4, k5⟩ := same
        rw [if_pos rfl]
        refine ⟨S', 0, k1, k2, k3, fun _ => ⟨rfl, vt, rfl, hK.1 _ hv.2.2.1, Bf, k4, k5⟩, fun c => absurd rfl c⟩
      · subst e
        rw [if_neg (by decide)]
        have hk := hv.kind
        rw [hT.2.2.1, show (0 : Int32) = Int32.ofNat 0 from rfl, hk, o_bind]
        have k6 := hv.2.2.1.1
        by_cases e5 : vt.1 = 5
        · obtain ⟨S', k1, k2, k3, Bf, k4, k5⟩ := same
          rw [if_pos (by rw [e5]; rfl)]
          refine ⟨S', 0, k1, k2, k3, fun _ => ⟨rfl, vt, ?_, hK.1 _ hv.2.2.1, Bf, k4, k5⟩, fun c => absurd rfl c⟩
          show (if vt.1 = 5 then (if vNull.1 = 5 then _ else some vt) else none) = _
          rw [if_pos e5, if_neg (by decide)]
        · rw [if_neg (by rw [show (5 : Int32) = Int32.ofNat 5 from rfl, i_inj (by omega) (by omega)]; exact e5)]
          refine ⟨S, 1, rfl, frU.refl _ _, h2.1, fun c => absurd c (by decide), fun _ => Or.inr ?_⟩
          show (if vt.1 = 5 then _ else none) = _
          rw [if_neg e5]
    · subst e
      rw [if_neg (by decide)]
      exact ⟨S, 1, rfl, frU.refl _ _, h2.1, fun c => absurd c (by decide), fun _ => Or.inl rfl⟩
  | succ m ih =>
    intro j n S B B0 cl bp nb K hj hn hcl hby hbp hnb hT h hK hE
    obtain ⟨n, rfl⟩ : ∃ j, n = j + 1 := ⟨n - 1, by omega⟩
    have hjl : j < lp.length := by omega
    obtain ⟨h1, h2, h3, h4⟩ := id h
    obtain ⟨c1, c2, c3, c4⟩ := h1.flag
    obtain ⟨s1, s2⟩ := step_at hp hjl
    have hd := hT.2.2.2.2.2.2.1
    have el : (lp.drop j).map (fun m => m.2) = (lp[j]).2 :: (lp.drop (j + 1)).map (fun m => m.2) := by rw [List.drop_eq_getElem_cons hjl, List.map_cons]
    have enx : (if j + 1 < lp.length then Int32.ofNat (ip false 1 lp (j + 1)) else (-1 : Int32)) = if m = 0 then -1 else Int32.ofNat (ip false 1 lp (j + 1)) := by
      by_cases c : m = 0
      · rw [if_pos c, if_neg (by omega)]
      · rw [if_neg c, if_pos (by omega)]
    rw [enx] at s2
    obtain ⟨pi, hpi⟩ : ∃ pi, pi = (lp[j]).2 := ⟨_, rfl⟩
    rw [← hpi] at s1 el
    have k6 := s1.2.2.1.1
    rw [if_neg (by omega : ¬ m + 1 = 0), el]
    -- how a step goes on
    have step : ∀ X, u_grow S t1 (Int32.ofNat (ip false 1 lp j)) = some X → u_put_l44 ta t1 t2 dr (n + 1) S (Int32.ofNat lp.length) (Int32.ofNat (ip false 1 lp j)) (Int32.ofNat j) = if X.2 = 0 then ((t_next (tT X.1 t1) (Int32.ofNat (ip false 1 lp j))).bind fun r58 => u_put_l44 ta t1 t2 dr n X.1 (Int32.ofNat lp.length) r58 (Int32.ofNat (j + 1))) else some (X.1, X.2) := by
      intro X hX
      show (if Int32.ofNat lp.length ≤ Int32.ofNat j then _ else (if rd S 69 6 = 0 then _ else _)) = _
      rw [if_neg (by rw [i_le' (by omega) (by omega)]; omega), c2, if_neg (by decide), hX, o_bind, i_a1]
    have goOn : ∀ (S1 : SS) (B1 B01 cl1 : List Int32) (bp1 nb1 : Int32) (K1 : Vl → Vl), u_grow S t1 (Int32.ofNat (ip false 1 lp j)) = some (S1, 0) → cl1.length ≤ j + 1 → byt cl1 → (bp1 = 0 ∨ bp1 = 1) → (nb1 = 0 ∨ nb1 = 1) → frU S S1 dr → wrS S1 ta dr bp1 nb1 cl1 B1 f (Int32.ofNat to) cb ch → wctx B01 (cl1.reverse ++ ((if ch = 1 then [44] else []) ++ us.drop to)) K1 → eqT B1 B01 → (nb1 = 0 → nb = 0) → (∀ U, putS ((lp.drop (j + 1)).map fun m => m.2) vNull (wB bp1) vt = some U → nb1 = 0 → ∃ U', putS (pi :: (lp.drop (j + 1)).map fun m => m.2) vNull (wB bp) vt = some U' ∧ K U' = K1 U) → (nb1 = 1 → nb = 1 ∨ putS (pi :: (lp.drop (j + 1)).map fun m => m.2) vNull (wB bp) vt = none) → (putS ((lp.drop (j + 1)).map fun m => m.2) vNull (wB bp1) vt = none → putS (pi :: (lp.drop (j + 1)).map fun m => m.2) vNull (wB bp) vt = none) → ∃ S' e, u_put_l44 ta t1 t2 dr (n + 1) S (Int32.ofNat lp.length) (Int32.ofNat (ip false 1 lp j)) (Int32.ofNat j) = some (S', e) ∧ frU S S' dr ∧ (S' 71).length = 100 ∧ (e = 0 → nb = 0 ∧ ∃ U, putS (pi :: (lp.drop (j + 1)).map fun m => m.2) vNull (wB bp) vt = some U ∧ wV (K U) ∧ ∃ Bf, S' dr = pv Bf ∧ eqT Bf (bV (K U))) ∧ (e ≠ 0 → nb = 1 ∨ putS (pi :: (lp.drop (j + 1)).map fun m => m.2) vNull (wB bp) vt = none) := by
      intro S1 B1 B01 cl1 bp1 nb1 K1 hg hc1 hb1 hbp1 hnb1 hf hw1 hk1 he1 hn1 hq hz hno
      have hT1 := hT.fr hf
      obtain ⟨S', e, j1, j2, j3, j4, j5⟩ := ih (j + 1) n S1 B1 B01 cl1 bp1 nb1 K1 (by omega) (by omega) hc1 hb1 hbp1 hnb1 hT1 hw1 hk1 he1
      refine ⟨S', e, ?_, hf.trans j2, j3, fun he => ?_, fun he => ?_⟩
      · rw [step _ hg, if_pos rfl, hT1.2.1, s2, o_bind]
        exact j1
      · obtain ⟨z1, U, z2, z3, Bf, z4, z5⟩ := j4 he
        obtain ⟨U', y1, y2⟩ := hq U z2 z1
        exact ⟨hn1 z1, U', y1, by rw [y2]; exact z3, Bf, z4, by rw [y2]; exact z5⟩
      · rcases j5 he with c | c
        · exact hz c
        · exact Or.inr (hno c)
    have refuse : ∀ X, u_grow S t1 (Int32.ofNat (ip false 1 lp j)) = some X → X.2 ≠ 0 → frU S X.1 dr → (X.1 71).length = 100 → putS (pi :: (lp.drop (j + 1)).map fun m => m.2) vNull (wB bp) vt = none → ∃ S' e, u_put_l44 ta t1 t2 dr (n + 1) S (Int32.ofNat lp.length) (Int32.ofNat (ip false 1 lp j)) (Int32.ofNat j) = some (S', e) ∧ frU S S' dr ∧ (S' 71).length = 100 ∧ (e = 0 → nb = 0 ∧ ∃ U, putS (pi :: (lp.drop (j + 1)).map fun m => m.2) vNull (wB bp) vt = some U ∧ wV (K U) ∧ ∃ Bf, S' dr = pv Bf ∧ eqT Bf (bV (K U))) ∧ (e ≠ 0 → nb = 1 ∨ putS (pi :: (lp.drop (j + 1)).map fun m => m.2) vNull (wB bp) vt = none) := by
      intro X hX h0 hf hl hn
      exact ⟨X.1, X.2, by rw [step X hX, if_neg h0], hf, hl, fun c => absurd c h0, fun _ => Or.inr hn⟩
    have hk := s1.kind
    rw [← hT.2.1] at hk
    by_cases e3 : pi.1 = 3
    · have s1' := s1
      rw [vl3 e3, ← hT.2.1] at s1'
      have hx := s1.2.2.1.2.1 e3
      have l1 := l_of (z := pi.2.1) (by omega) (by omega)
      have z0 : (0 : Int64).toInt = 0 := rfl
      have z1 : (1000 : Int64).toInt = 1000 := rfl
      have eS : putS (pi :: (lp.drop (j + 1)).map fun m => m.2) vNull (wB bp) vt = if 0 ≤ pi.2.1 ∧ pi.2.1 ≤ 1000 then (putS ((lp.drop (j + 1)).map fun m => m.2) vNull none vt).map (fun u => (5, 0, [], ofL (List.replicate pi.2.1.toNat nulM ++ [([], u)]))) else none := by
        show (if pi.1 = 6 then _ else if pi.1 = 4 then _ else if pi.1 = 3 then _ else _) = _
        rw [if_neg (by omega), if_neg (by omega), if_pos e3, if_neg (show ¬ vNull.1 = 5 by decide), if_pos (show vNull.1 = 0 from rfl)]
      have eG : u_grow S t1 (Int32.ofNat (ip false 1 lp j)) = if (lg_cmp (Int64.ofInt pi.2.1) 0) < 0 then some (S, 2) else (if (lg_cmp (Int64.ofInt pi.2.1) 1000) ≤ 0 then ((u_open S 91 93).bind fun r8 => ((u_nulls r8 (Int64.ofInt pi.2.1).toInt32).bind fun r10 => some (r10, 0))) else some (S, 2)) := by
        unfold u_grow
        rw [hk, o_bind, if_pos (by rw [e3]; rfl), s1'.number, o_bind]
      by_cases ok : 0 ≤ pi.2.1 ∧ pi.2.1 ≤ 1000
      · obtain ⟨S1, a1, a2, a3, a4⟩ := uopen_val (x := 91) (y := 93) hd h (by omega) (by decide) (by decide)
        obtain ⟨S2, B2, b1, b2, b3, b4, b5⟩ := unulls_val (k := pi.2.1.toNat) hd (by omega) a2
        have et : (Int64.ofInt pi.2.1).toInt32 = Int32.ofNat pi.2.1.toNat := l_to32 (by rw [l1]; omega) (by omega)
        refine goOn S2 B2 (B0 ++ (91 :: nulB pi.2.1.toNat)) (cl ++ [93]) 0 nb (fun u => K (5, 0, [], ofL (List.replicate pi.2.1.toNat nulM ++ [([], u)]))) ?_ (by rw [List.length_append]; simp only [List.length_cons, List.length_nil]; omega) ?_ (Or.inl rfl) hnb (a3.trans b4) b2 ?_ ?_ (fun c => c) ?_ (fun c => Or.inl c) ?_
        · rw [eG, if_neg (by rw [lg_lt, l1, z0]; omega), if_pos ((lg_le _ _).mpr (by rw [l1, z1]; omega)), a1, o_bind, et, b1, o_bind]
        · intro u hu
          rcases List.mem_append.mp hu with c | c
          · exact hby u c
          · rw [List.mem_singleton.mp c]; decide
        · rw [List.reverse_append]
          exact hK.arr pi.2.1.toNat
        · refine b3.trans ?_
          have := (hE.app [91]).app (nulB pi.2.1.toNat)
          rw [List.append_assoc B0] at this
          exact this
        · intro U hU _
          refine ⟨(5, 0, [], ofL (List.replicate pi.2.1.toNat nulM ++ [([], U)])), ?_, rfl⟩
          rw [eS, if_pos ok]
          have hU : putS ((lp.drop (j + 1)).map fun m => m.2) vNull none vt = some U := hU
          rw [hU]
          rfl
        · intro hU
          have hU : putS ((lp.drop (j + 1)).map fun m => m.2) vNull none vt = none := hU
          rw [eS, if_pos ok, hU]
          rfl
      · refine refuse (S, 2) ?_ (show ¬ (2 : Int32) = 0 by decide) (frU.refl _ _) h2.1 (by rw [eS, if_neg ok])
        rw [eG]
        by_cases c : pi.2.1 < 0
        · rw [if_pos ((lg_lt _ _).mpr (by rw [l1, z0]; exact c))]
        · rw [if_neg (by rw [lg_lt, l1, z0]; exact c), if_neg (by rw [lg_le, l1, z1]; omega)]
    have i3 : ¬ Int32.ofNat pi.1 = 3 := by rw [show (3 : Int32) = Int32.ofNat 3 from rfl, i_inj (by omega) (by omega)]; exact e3
    by_cases e4 : pi.1 = 4
    · obtain ⟨l1, l2, w0, r, d1, -⟩ := id s1
      have d1' : (tT S t1).drop (ip false 1 lp j) = pstr pi.2.2.1 ++ r := by
        rw [hT.2.1, d1]
        congr 1
        conv => lhs; rw [vl4 e4]
        rfl
      have eS : putS (pi :: (lp.drop (j + 1)).map fun m => m.2) vNull (wB bp) vt = if (wB bp).isSome then none else (putS ((lp.drop (j + 1)).map fun m => m.2) vNull none vt).map (fun u => (6, 0, [], ofL [(pi.2.2.1, u)])) := by
        show (if pi.1 = 6 then _ else if pi.1 = 4 then _ else _) = _
        rw [if_neg (by omega), if_pos e4, if_neg (show ¬ vNull.1 = 6 by decide), if_pos (show vNull.1 = 0 from rfl)]
      have grow : ∀ x : Int32, (x = 0 ∨ x = 1) → ∃ S2, ((u_open (wr S 69 8 x) 123 125).bind fun r16 => ((u_name r16 t1 (Int32.ofNat (ip false 1 lp j))).bind fun r18 => some (r18, (0 : Int32)))) = some (S2, 0) ∧ wrS S2 ta dr 0 x (cl ++ [125]) (B ++ (123 :: (pstr pi.2.2.1 ++ [58]))) f (Int32.ofNat to) cb ch ∧ frU S S2 dr := by
        intro x _
        have a0 : wrS (wr S 69 8 x) ta dr bp x cl B f (Int32.ofNat to) cb ch := by
          refine ⟨h1.w8 x, ?_, ?_, ?_⟩
          · unfold cls; rw [wr_ne (by decide)]; exact h2
          · rw [wr_ne (by decide)]; exact h3
          · rw [wr_ne hd.2.2.1]; exact h4
        have f0 : frU S (wr S 69 8 x) dr := fun a n1 n2 n3 n4 n5 => wr_ne n2
        obtain ⟨S1, a1, a2, a3, a4⟩ := uopen_val (x := 123) (y := 125) hd a0 (by omega) (by decide) (by decide)
        have hT1 := hT.fr (f0.trans a3)
        obtain ⟨S2, b1, b2, b3, b4⟩ := uname_val (q2 := ip false 1 lp j) hd a2 hT.2.2.2.2.2.2.2.2.1 (by rw [hT1.2.1]; exact s1) e4
        refine ⟨S2, by rw [a1, o_bind, b1, o_bind], ?_, (f0.trans a3).trans b3⟩
        rw [List.append_assoc] at b2
        exact b2
      have cont : ∀ (x : Int32) (S2 : SS), u_grow S t1 (Int32.ofNat (ip false 1 lp j)) = some (S2, 0) → (x = 0 ∨ x = 1) → (x = 0 → nb = 0 ∧ bp = 0) → (x = 1 → nb = 1 ∨ bp = 1) → wrS S2 ta dr 0 x (cl ++ [125]) (B ++ (123 :: (pstr pi.2.2.1 ++ [58]))) f (Int32.ofNat to) cb ch → frU S S2 dr → ∃ S' e, u_put_l44 ta t1 t2 dr (n + 1) S (Int32.ofNat lp.length) (Int32.ofNat (ip false 1 lp j)) (Int32.ofNat j) = some (S', e) ∧ frU S S' dr ∧ (S' 71).length = 100 ∧ (e = 0 → nb = 0 ∧ ∃ U, putS (pi :: (lp.drop (j + 1)).map fun m => m.2) vNull (wB bp) vt = some U ∧ wV (K U) ∧ ∃ Bf, S' dr = pv Bf ∧ eqT Bf (bV (K U))) ∧ (e ≠ 0 → nb = 1 ∨ putS (pi :: (lp.drop (j + 1)).map fun m => m.2) vNull (wB bp) vt = none) := by
        intro x S2 hg hx hx0 hx1 hw hf
        refine goOn S2 _ (B0 ++ (123 :: (pstr pi.2.2.1 ++ [58]))) (cl ++ [125]) 0 x (fun u => K (6, 0, [], ofL [(pi.2.2.1, u)])) hg (by rw [List.length_append]; simp only [List.length_cons, List.length_nil]; omega) ?_ (Or.inl rfl) hx hf hw ?_ (hE.app _) (fun c => (hx0 c).1) ?_ ?_ ?_
        · intro u hu
          rcases List.mem_append.mp hu with c | c
          · exact hby u c
          · rw [List.mem_singleton.mp c]; decide
        · rw [List.reverse_append]
          exact hK.obj w0.2.2.1
        · intro U hU c
          refine ⟨(6, 0, [], ofL [(pi.2.2.1, U)]), ?_, rfl⟩
          have hU : putS ((lp.drop (j + 1)).map fun m => m.2) vNull none vt = some U := hU
          rw [eS, (hx0 c).2, if_neg (by decide), hU]
          rfl
        · intro c
          rcases hx1 c with c | c
          · exact Or.inl c
          · exact Or.inr (by rw [eS, c, if_pos (by decide)])
        · intro hU
          have hU : putS ((lp.drop (j + 1)).map fun m => m.2) vNull none vt = none := hU
          rw [eS]
          by_cases c : (wB bp).isSome = true
          · rw [if_pos c]
          · rw [if_neg c, hU]
            rfl
      have i4 : Int32.ofNat pi.1 = 4 := by rw [e4]; rfl
      rcases hnb with c | c
      · rcases hbp with d | d
        · obtain ⟨S2, g1, g2, g3⟩ := grow 0 (Or.inl rfl)
          refine cont 0 S2 ?_ (Or.inl rfl) (fun _ => ⟨c, d⟩) (fun e => absurd e (by decide)) g2 g3
          unfold u_grow
          rw [hk, o_bind, if_neg i3, if_pos i4, c4, c, if_pos rfl, c3, d, if_pos rfl]
          exact g1
        · obtain ⟨S2, g1, g2, g3⟩ := grow 1 (Or.inr rfl)
          refine cont 1 S2 ?_ (Or.inr rfl) (fun e => absurd e (by decide)) (fun _ => Or.inr d) g2 g3
          unfold u_grow
          rw [hk, o_bind, if_neg i3, if_pos i4, c4, c, if_pos rfl, c3, d, if_neg (by decide)]
          exact g1
      · obtain ⟨S2, g1, g2, g3⟩ := grow 1 (Or.inr rfl)
        refine cont 1 S2 ?_ (Or.inr rfl) (fun e => absurd e (by decide)) (fun _ => Or.inl c) g2 g3
        unfold u_grow
        rw [hk, o_bind, if_neg i3, if_pos i4, c4, c, if_neg (by decide)]
        exact g1
    have i4 : ¬ Int32.ofNat pi.1 = 4 := by rw [show (4 : Int32) = Int32.ofNat 4 from rfl, i_inj (by omega) (by omega)]; exact e4
    by_cases e6 : pi.1 = 6
    · have eS : putS (pi :: (lp.drop (j + 1)).map fun m => m.2) vNull (wB bp) vt = if @decide (okBd pi) (Classical.propDecidable _) = true then putS ((lp.drop (j + 1)).map fun m => m.2) vNull (some (0, 0)) vt else none := by
        show (if pi.1 = 6 then _ else _) = _
        rw [if_pos e6, if_neg (show ¬ vNull.1 = 5 by decide), if_pos (show vNull.1 = 0 from rfl)]
      have f0 : frU S (wr S 69 7 1) dr := fun a n1 n2 n3 n4 n5 => wr_ne n2
      have hT1 := hT.fr f0
      have a0 : wrS (wr S 69 7 1) ta dr 1 nb cl B f (Int32.ofNat to) cb ch := by
        refine ⟨h1.w7 1, ?_, ?_, ?_⟩
        · unfold cls; rw [wr_ne (by decide)]; exact h2
        · rw [wr_ne (by decide)]; exact h3
        · rw [wr_ne hd.2.2.1]; exact h4
      obtain ⟨b1, b2⟩ := hasB_val (S := wr S 69 7 1) (t1 := t1) (q2 := ip false 1 lp j) (by rw [hT1.2.1]; exact s1) e6
      have i6 : Int32.ofNat pi.1 = 6 := by rw [e6]; rfl
      by_cases ok : okBd pi
      · refine goOn (wr S 69 7 1) B B0 cl 1 nb K ?_ (by omega) hby (Or.inr rfl) hnb f0 a0 hK hE (fun c => c) ?_ (fun c => Or.inl c) ?_
        · unfold u_grow
          rw [hk, o_bind, if_neg i3, if_neg i4, if_pos i6, b1 ok, o_bind, if_neg (by decide)]
        · intro U hU _
          refine ⟨U, ?_, rfl⟩
          rw [eS, if_pos (@decide_eq_true _ (Classical.propDecidable _) ok)]
          exact hU
        · intro hU
          rw [eS, if_pos (@decide_eq_true _ (Classical.propDecidable _) ok)]
          exact hU
      · refine refuse (wr S 69 7 1, 1) ?_ (show ¬ (1 : Int32) = 0 by decide) f0 a0.2.1.1 ?_
        · unfold u_grow
          rw [hk, o_bind, if_neg i3, if_neg i4, if_pos i6, b2 ok, o_bind, if_pos rfl]
        · rw [eS, if_neg (fun c => ok (@of_decide_eq_true _ (Classical.propDecidable _) c))]
    have i6 : ¬ Int32.ofNat pi.1 = 6 := by rw [show (6 : Int32) = Int32.ofNat 6 from rfl, i_inj (by omega) (by omega)]; exact e6
    refine refuse (S, 1) ?_ (show ¬ (1 : Int32) = 0 by decide) (frU.refl _ _) h2.1 ?_
    · unfold u_grow
      rw [hk, o_bind, if_neg i3, if_neg i4, if_neg i6]
    · show (if pi.1 = 6 then _ else if pi.1 = 4 then _ else if pi.1 = 3 then _ else none) = none
      rw [if_neg e6, if_neg e4, if_neg e3]
end PutB158
end

section
/-! The class goes along what is there, and puts the value. -/
section PutA159
theorem gspan_val {S : SS} {g : Nat} (h : (S g).length = 4) (x y : Int32) : g_span S g x y = some (up S g [x, y, 0, 0]) := by
  obtain ⟨a, b, c, d, e⟩ : ∃ a b c d, S g = [a, b, c, d] := by
    match hS : S g, h with
    | [a, b, c, d], _ => exact ⟨a, b, c, d, rfl⟩
  unfold g_span
  rw [wr_eq e, wr_up, wr_up, wr_up]
  rfl
theorem gitems_val {S : SS} {g ta q k : Nat} {v : Int} {s : List Int32} {l : List Mb} {lo hi : Nat} (hk : k = 5 ∨ k = 6) (hg : (S g).length = 4) (h : vat (tT S ta) q (k, v, s, ofL l)) (hlo : lo ≤ l.length) (hhi : hi ≤ l.length) : (∀ hl : lo < hi, g_items S g ta (Int32.ofNat q) (Int32.ofNat lo) (Int32.ofNat hi) = some (up S g [Int32.ofNat (ip (k == 6) (q + 1) l lo), Int32.ofNat (ip (k == 6) (q + 1) l (hi - 1) + (bM (k == 6) (l[hi - 1]'(by omega))).length), 0, 0])) ∧ (hi ≤ lo → lo < l.length → g_items S g ta (Int32.ofNat q) (Int32.ofNat lo) (Int32.ofNat hi) = some (up S g [Int32.ofNat (ip (k == 6) (q + 1) l lo), Int32.ofNat (ip (k == 6) (q + 1) l lo), 0, 1])) ∧ (hi ≤ lo → lo = l.length → g_items S g ta (Int32.ofNat q) (Int32.ofNat lo) (Int32.ofNat hi) = some (up S g [Int32.ofNat (q + (bV (k, v, s, ofL l)).length - 1), Int32.ofNat (q + (bV (k, v, s, ofL l)).length - 1), (if l = [] then 0 else 1), 0])) := by
  obtain ⟨i1, i2⟩ := h.items hk
  have hlt := h.lt
  have h4 := h.1
  have hbb := bV_box (v := v) (s := s) (l := l) hk
  unfold g_items
  rw [i1, o_bind]
  refine ⟨fun hl => ?_, fun h1 h2 => ?_, fun h1 h2 => ?_⟩
  · obtain ⟨a1, -, -⟩ := h.item hk (j := lo) (by omega)
    obtain ⟨b1, ⟨z, r, hz, b2⟩, b3⟩ := h.item hk (j := hi - 1) (by omega)
    rw [List.drop_eq_getElem_cons (show hi - 1 < l.length by omega)] at b2
    obtain ⟨n1, n2, n3, n4⟩ := nx h.1 h.2.1 (h.2.2.1.kids _ (List.getElem_mem (show hi - 1 < l.length by omega))) hz b2
    rw [if_neg (by rw [i_le' (by omega) (by omega)]; omega), a1, o_bind, show (1 : Int32) = Int32.ofNat 1 from rfl, i_subN (by omega) (by omega), b1, o_bind, n2, o_bind, gspan_val hg, o_bind]
  · obtain ⟨a1, -, -⟩ := h.item hk (j := lo) (by omega)
    rw [if_pos ((i_le' (by omega) (by omega)).mpr h1), if_neg (by rw [i_le' (by omega) (by omega)]; omega), a1, o_bind, gspan_val hg, o_bind, wr_up]
    rfl
  · rw [if_pos ((i_le' (by omega) (by omega)).mpr h1), if_pos ((i_le' (by omega) (by omega)).mpr (by omega)), h.past, o_bind, show (1 : Int32) = Int32.ofNat 1 from rfl, i_subN (by omega) (by omega), gspan_val hg, o_bind]
    by_cases hn : l = []
    · subst hn
      rw [if_pos (by decide), if_pos rfl, wr_up]
      rfl
    · have : l.length ≠ 0 := fun e => hn (List.eq_nil_of_length_eq_zero e)
      rw [if_neg (by rw [show (0 : Int32) = Int32.ofNat 0 from rfl, i_le' (by omega) (by omega)]; omega), if_neg hn, wr_up]
      rfl
theorem closeUp_val {S : SS} {g ta f e : Nat} {us : List Int32} {c1 c2 : Int32} (hga : g ≠ ta) (hS : S g = [Int32.ofNat f, Int32.ofNat e, c1, c2]) (ht : tT S ta = us) (hf : f ≤ 4096) (he : e ≤ 4096) (hf0 : 0 < f) : g_closeUp S g ta = some (up S g (if e ≤ f then [Int32.ofNat f, Int32.ofNat e, 0, 0] else if tat us (Int32.ofNat e) = 44 then [Int32.ofNat f, Int32.ofNat (e + 1), 0, 0] else if tat us (Int32.ofNat (f - 1)) = 44 then [Int32.ofNat (f - 1), Int32.ofNat e, 0, 0] else [Int32.ofNat f, Int32.ofNat e, 0, 0])) := by
  have e1 : wr (wr S g 2 0) g 3 0 = up S g [Int32.ofNat f, Int32.ofNat e, 0, 0] := by rw [wr_eq hS, wr_up]; rfl
  have r0 : rd (up S g [Int32.ofNat f, Int32.ofNat e, 0, 0]) g 0 = Int32.ofNat f := by unfold rd; rw [up_same]; rfl
  have r1 : rd (up S g [Int32.ofNat f, Int32.ofNat e, 0, 0]) g 1 = Int32.ofNat e := by unfold rd; rw [up_same]; rfl
  have tt : tT (up S g [Int32.ofNat f, Int32.ofNat e, 0, 0]) ta = us := by unfold tT at *; rw [up_ne (fun c => hga c.symm)]; exact ht
  unfold g_closeUp
  rw [e1, r0, r1, tt]
  by_cases h1 : e ≤ f
  · rw [if_pos ((i_le' (by omega) (by omega)).mpr h1), if_pos h1]
  · rw [if_neg (by rw [i_le' (by omega) (by omega)]; exact h1), if_neg h1, show (1 : Int32) = Int32.ofNat 1 from rfl, i_subN (by omega) (by omega)]
    by_cases h2 : tat us (Int32.ofNat e) = 44
    · rw [if_pos h2, if_pos h2, wr_up, ← Int32.ofNat_add]
      rfl
    · rw [if_neg h2, if_neg h2]
      by_cases h3 : tat us (Int32.ofNat (f - 1)) = 44
      · rw [if_pos h3, if_pos h3, wr_up]
        rfl
      · rw [if_neg h3, if_neg h3]
/-- the Putter goes along: nothing is written yet -/
def goS (S : SS) (ta dr : Nat) : Prop := pu S ta dr 0 0 0 0 ∧ (S 71).length = 100 ∧ (S 70).length = 4 ∧ S dr = pv []
theorem goS.fr {S S' : SS} {ta dr : Nat} (hd : nU dr) (h : goS S ta dr) (hf : fr67 S S') : goS S' ta dr := by
  obtain ⟨h1, h2, h3, h4⟩ := h
  unfold goS pu
  rw [hf 69 (by decide), hf 71 (by decide), hf 70 (by decide), hf dr hd.2.1]
  exact ⟨h1, h2, h3, h4⟩
/-- from a gap on -/
theorem gap_start {S : SS} {ta dr f : Nat} {bp : Int32} {us : List Int32} {to cb ch : Int32} (hd : nU dr) (hta : nU ta) (htd : ta ≠ dr) (hf : f ≤ 4096) (hcb : cb = 0 ∨ cb = 1) (ht : tT S ta = us) (h1 : pu S ta dr 0 0 bp 0) (h2 : (S 71).length = 100) (h4 : S dr = pv []) : ∃ S', u_start (up S 70 [Int32.ofNat f, to, cb, ch]) = some S' ∧ wrS S' ta dr bp 0 [] (us.take f ++ (if cb = 1 then [44] else [])) (Int32.ofNat f) to cb ch ∧ frU S S' dr ∧ S' 67 = S 67 := by
  obtain ⟨S', a1, a2, a3, a4⟩ := ustart_val (S := up S 70 [Int32.ofNat f, to, cb, ch]) (f := f) (us := us) (to := to) (cb := cb) (ch := ch) hd hta htd hf hcb (by unfold tT at *; rw [up_ne hta.2.2.2.1]; exact ht) (h1.up (by decide)) (by rw [up_ne (by decide)]; exact h2) up_same (by rw [up_ne hd.2.2.2.1]; exact h4)
  exact ⟨S', a1, a2, fun a n1 n2 n3 n4 n5 => by rw [a3 a n1 n2 n3 n4 n5, up_ne n3], by rw [a4, up_ne (by decide)]⟩
theorem uvalue_val {S : SS} {ta dr q : Nat} {it : Int32} {bp : Int32} {us : List Int32} {t : Vl} {w : Option (Nat × Nat)} (hd : nU dr) (hta : nU ta) (htd : ta ≠ dr) (ht : tT S ta = us) (hq : spQ S ta q it t w) (h1 : pu S ta dr 0 0 bp 0) (h2 : (S 71).length = 100) (h3 : (S 70).length = 4) (h4 : S dr = pv []) : ∃ S', u_value S = some S' ∧ wrS S' ta dr bp 0 [] (us.take q) (Int32.ofNat q) (Int32.ofNat (q + (bV t).length)) 0 0 ∧ frU S S' dr := by
  obtain ⟨lo, hi, q1, q2, -⟩ := hq
  have hlt := q2.lt
  have hl := q2.1
  obtain ⟨S', a1, a2, a3, a4⟩ := gap_start (f := q) (to := Int32.ofNat (q + (bV t).length)) (cb := 0) (ch := 0) hd hta htd (by omega) (Or.inl rfl) ht h1 h2 h4
  rw [if_neg (by decide), List.append_nil] at a2
  refine ⟨S', ?_, a2, a3⟩
  unfold u_value p_place
  have e1 : rd S 67 1 = Int32.ofNat q := by unfold rd; rw [q1]; rfl
  rw [o_bind, e1, h1.ta hta.1, q2.past, o_bind, gspan_val h3, o_bind, a1, o_bind]
/-- the part becomes the elements of an array -/
theorem fillPart_val {S : SS} {ta t2 dr q a b : Nat} {it : Int32} {us : List Int32} {v : Int} {s : List Int32} {l lv : List Mb} {vv : Int} {sv : List Int32} {K : Vl → Vl} (hd : nU dr) (hta : nU ta) (ht2 : nU t2) (htd : ta ≠ dr) (ht2d : t2 ≠ dr) (ht : tT S ta = us) (htv : tT S t2 = bV (5, vv, sv, ofL lv)) (hv : vat (bV (5, vv, sv, ofL lv)) 0 (5, vv, sv, ofL lv)) (hq : spQ S ta q it (5, v, s, ofL l) (some (a, b))) (hK : ctx us q (5, v, s, ofL l) K) (h : goS S ta dr) : ∃ S', ((u_fillPart S t2).bind fun r24 => ((u_close r24).bind fun r26 => some (r26, (0 : Int32)))) = some (S', 0) ∧ frU S S' dr ∧ (S' 71).length = 100 ∧ S' dr = pv (bV (K (5, v, s, ofL (l.take a ++ (lv ++ l.drop b))))) := by
  obtain ⟨h1, h2, h3, h4⟩ := h
  obtain ⟨lo, hi, q1, q2, q3, q4⟩ := hq
  obtain ⟨w1, w2, -⟩ := q3 a b rfl
  obtain ⟨x1, x2⟩ := q4 a b rfl
  have hsz : size (5, v, s, ofL l) = l.length := by unfold size; rw [if_neg (show ¬ (5 : Nat) = 4 by decide)]; exact congrArg List.length (toL_ofL l)
  rw [hsz] at w2
  have e0 : (rd S 67 0).toNatClampNeg = ta := by unfold rd; rw [q1]; exact i_cl (by have := hta.1; omega)
  have e1 : rd S 67 1 = Int32.ofNat q := by unfold rd; rw [q1]; rfl
  have e3 : rd S 67 3 = 1 := by unfold rd; rw [q1]; rfl
  have e4 : rd S 67 4 = Int32.ofNat a := by unfold rd; rw [q1, x1]; rfl
  have e5 : rd S 67 5 = Int32.ofNat b := by unfold rd; rw [q1, x2]; rfl
  have us4 : us.length ≤ 4096 := by rw [← ht]; exact q2.1
  have q2' := q2
  rw [ht] at q2'
  have hlt := q2'.lt
  obtain ⟨z1, z2, z3, r, z4, z5⟩ := id q2'
  have hd4 : us.drop q = 91 :: (jn (l.map (bM false)) ++ 93 :: us.drop (q + (bV (5, v, s, ofL l)).length)) := by
    have : us.drop (q + (bV (5, v, s, ofL l)).length) = r := by rw [← List.drop_drop, z4, List.drop_left]
    rw [this, z4, bV_5]
    simp
  have eK : ∀ m, bV (K (5, v, s, ofL m)) = us.take q ++ 91 :: (jn (m.map (bM false)) ++ 93 :: us.drop (q + (bV (5, v, s, ofL l)).length)) := fun m => by
    rw [hK.2, bV_5]
    simp
  obtain ⟨i1, i2⟩ := hv.items (Or.inl rfl)
  have hvl := hv.1
  have sp : p_span S 70 = ((g_items S 70 ta (Int32.ofNat q) (Int32.ofNat a) (Int32.ofNat b)).bind fun r6 => some r6) := by
    unfold p_span
    rw [e3, if_neg (by decide), e0, e1, e4, e5]
  -- the rest, once the gap is known
  have fin : ∀ (f to : Nat) (cb ch : Int32), f ≤ 4096 → to ≤ us.length → (cb = 0 ∨ cb = 1) → (ch = 0 ∨ ch = 1) → ∃ S', ((((u_start (up S 70 [Int32.ofNat f, Int32.ofNat to, cb, ch])).bind fun r13 => ((spart r13 ((rd r13 69 5).toNatClampNeg) t2 1 ((Int32.ofNat (tT r13 t2).length) - 1)).bind fun r16 => some r16))).bind fun r24 => ((u_close r24).bind fun r26 => some (r26, (0 : Int32)))) = some (S', 0) ∧ frU S S' dr ∧ (S' 71).length = 100 ∧ S' dr = pv (us.take f ++ ((if cb = 1 then [44] else []) ++ (jn (lv.map (bM false)) ++ ((if ch = 1 then [44] else []) ++ us.drop to)))) := by
    intro f to cb ch hf hto hcb hch
    obtain ⟨S1, a1, a2, a3, a4⟩ := gap_start (f := f) (to := Int32.ofNat to) (cb := cb) (ch := ch) hd hta htd hf hcb ht h1 h2 h4
    have t2' : tT S1 t2 = bV (5, vv, sv, ofL lv) := by
      unfold tT at *
      rw [a3 t2 ht2.2.1 ht2.2.2.1 ht2.2.2.2.1 ht2.2.2.2.2 ht2d]
      exact htv
    have ta' : tT S1 ta = us := by
      unfold tT at *
      rw [a3 ta hta.2.1 hta.2.2.1 hta.2.2.2.1 hta.2.2.2.2 htd]
      exact ht
    have hlen : (bV (5, vv, sv, ofL lv)).length = (jn (lv.map (bM false))).length + 2 := by rw [bV_5]; simp
    have ec : ((bV (5, vv, sv, ofL lv)).take ((bV (5, vv, sv, ofL lv)).length - 1)).drop 1 = jn (lv.map (bM false)) := by
      rw [hlen, bV_5, show (jn (lv.map (bM false))).length + 2 - 1 = (91 :: jn (lv.map (bM false))).length by simp, show (91 : Int32) :: (jn (lv.map (bM false)) ++ [93]) = (91 :: jn (lv.map (bM false))) ++ [93] by simp, List.take_left]
      rfl
    obtain ⟨g1, g2, g3⟩ := wrS.grow (B' := (us.take f ++ (if cb = 1 then [44] else [])) ++ jn (lv.map (bM false))) hd a2
    have hT' : tT (up S1 dr (pv ((us.take f ++ (if cb = 1 then [44] else [])) ++ jn (lv.map (bM false))))) ta = us := by
      unfold tT at *
      rw [up_ne htd]
      exact ta'
    obtain ⟨S2, k1, k2, k3, k4⟩ := uclose_val hd hta.1 htd us4 hto hch (by decide) (fun u hu => by cases hu) hT' g1
    refine ⟨S2, ?_, (a3.trans g2).trans k3, k4, ?_⟩
    · rw [a1, o_bind, a2.1.dr hd.1, t2', show (1 : Int32) = Int32.ofNat 1 from rfl, i_subN (by omega) (by omega), spart_at a2.2.2.2 (fun e => ht2d e.symm) (by omega) (by omega), o_bind, t2', ec, o_bind, k1, o_bind]
    · rw [k2]
      simp
  have tv : ∀ L, tT (up S 70 L) t2 = bV (5, vv, sv, ofL lv) := fun L => by unfold tT at *; rw [up_ne ht2.2.2.2.1]; exact htv
  have ta4 : ∀ L, (rd (up S 70 L) 69 4).toNatClampNeg = ta := fun L => (h1.up (a := 70) (L := L) (by decide)).ta hta.1
  have tus : ∀ L, tT (up S 70 L) ta = us := fun L => by unfold tT at *; rw [up_ne hta.2.2.2.1]; exact ht
  have q2s : vat (tT S ta) q (5, v, s, ofL l) := q2
  obtain ⟨c1, c2, c3⟩ := gitems_val (g := 70) (lo := a) (hi := b) (Or.inl rfl) h3 q2s (by omega) w2
  have eb : ((5 : Nat) == 6) = false := rfl
  rw [eb] at c1 c2
  unfold u_fillPart
  rw [sp]
  by_cases hv0 : lv = []
  · -- nothing comes
    have i0 : t_items (bV (5, vv, sv, ofL lv)) 0 = some 0 := by rw [show (0 : Int32) = Int32.ofNat 0 from rfl, i1, hv0]; rfl
    have eml : l.take a ++ (lv ++ l.drop b) = l.take a ++ l.drop b := by rw [hv0]; rfl
    rw [eml]
    have j0 : jn (lv.map (bM false)) = [] := by rw [hv0]; rfl
    by_cases hab : a < b
    · rw [c1 hab, o_bind, o_bind, tv, i0, o_bind, if_pos rfl, ta4]
      obtain ⟨k1, k2, k3⟩ := cut_text (b := false) (ob := 91) (cl := 93) (f := ip false (q + 1) l a) (e := ip false (q + 1) l (b - 1) + (bM false (l[b - 1]'(by omega))).length) (by decide) (by decide) us4 hab w2 hd4 rfl rfl
      have hfe : ip false (q + 1) l a < ip false (q + 1) l (b - 1) + (bM false (l[b - 1]'(by omega))).length := by
        rw [ip_last hab w2]
        have : jn (((l.drop a).take (b - a)).map (bM false)) ≠ [] := by
          obtain ⟨x, y, hxy⟩ := nil_jn (b := false) (mid_ne hab w2)
          rw [hxy]
          simp
        have := List.length_pos_iff.mpr this
        omega
      have hfl : ip false (q + 1) l a ≤ 4096 := by omega
      have hel : ip false (q + 1) l (b - 1) + (bM false (l[b - 1]'(by omega))).length < us.length := by
        obtain ⟨-, s2⟩ := span_at hab w2 hd4
        apply Classical.byContradiction
        intro c
        rw [List.drop_eq_nil_of_le (by omega)] at s2
        have := congrArg List.length s2
        simp only [List.length_nil, List.length_append, List.length_cons] at this
        omega
      rw [closeUp_val (f := ip false (q + 1) l a) (e := ip false (q + 1) l (b - 1) + (bM false (l[b - 1]'(by omega))).length) (us := us) (fun c => hta.2.2.2.1 c.symm) up_same (tus _) hfl (by omega) k1, up_up, if_neg (by omega), o_bind]
      rcases k3 with ⟨y1, y2⟩ | ⟨y1, y2, y3⟩ | ⟨y1, y2, y3⟩
      · rw [if_pos y1]
        obtain ⟨S', f1, f2, f3, f4⟩ := fin (ip false (q + 1) l a) (ip false (q + 1) l (b - 1) + (bM false (l[b - 1]'(by omega))).length + 1) 0 0 hfl (by omega) (Or.inl rfl) (Or.inl rfl)
        refine ⟨S', f1, f2, f3, ?_⟩
        rw [f4, eK, ← y2, j0]
        simp
      · rw [if_neg y1, if_pos y2]
        obtain ⟨S', f1, f2, f3, f4⟩ := fin (ip false (q + 1) l a - 1) _ 0 0 (by omega) (Nat.le_of_lt hel) (Or.inl rfl) (Or.inl rfl)
        refine ⟨S', f1, f2, f3, ?_⟩
        rw [f4, eK, ← y3, j0]
        simp
      · rw [if_neg y1, if_neg y2]
        obtain ⟨S', f1, f2, f3, f4⟩ := fin (ip false (q + 1) l a) _ 0 0 hfl (Nat.le_of_lt hel) (Or.inl rfl) (Or.inl rfl)
        refine ⟨S', f1, f2, f3, ?_⟩
        rw [f4, eK, ← y3, j0]
        simp
    · have hab' : a = b := by omega
      subst hab'
      have same : ∀ p, p ≤ us.length → us.take p ++ us.drop p = bV (K (5, v, s, ofL (l.take a ++ l.drop a))) := fun p _ => by
        rw [List.take_append_drop, List.take_append_drop, eK, ← hd4, List.take_append_drop]
      by_cases hal : a < l.length
      · rw [c2 (Nat.le_refl _) hal, o_bind, o_bind, tv, i0, o_bind, if_pos rfl, ta4]
        obtain ⟨-, -, i3⟩ := q2'.item (Or.inl rfl) hal
        rw [eb] at i3
        rw [closeUp_val (f := ip false (q + 1) l a) (e := ip false (q + 1) l a) (us := us) (fun c => hta.2.2.2.1 c.symm) up_same (tus _) (by omega) (by omega) (by rw [ip_pre]; omega), up_up, if_pos (Nat.le_refl _), o_bind]
        obtain ⟨S', f1, f2, f3, f4⟩ := fin (ip false (q + 1) l a) (ip false (q + 1) l a) 0 0 (by omega) (by omega) (Or.inl rfl) (Or.inl rfl)
        refine ⟨S', f1, f2, f3, ?_⟩
        rw [f4, ← same (ip false (q + 1) l a) (by omega), j0]
        simp
      · have hal' : a = l.length := by omega
        rw [c3 (Nat.le_refl _) hal', o_bind, o_bind, tv, i0, o_bind, if_pos rfl, ta4]
        have hb2 : 2 ≤ (bV (5, v, s, ofL l)).length := by rw [bV_5]; simp
        rw [closeUp_val (f := q + (bV (5, v, s, ofL l)).length - 1) (e := q + (bV (5, v, s, ofL l)).length - 1) (us := us) (fun c => hta.2.2.2.1 c.symm) up_same (tus _) (by omega) (by omega) (by omega), up_up, if_pos (Nat.le_refl _), o_bind]
        obtain ⟨S', f1, f2, f3, f4⟩ := fin (q + (bV (5, v, s, ofL l)).length - 1) (q + (bV (5, v, s, ofL l)).length - 1) 0 0 (by omega) (by omega) (Or.inl rfl) (Or.inl rfl)
        refine ⟨S', f1, f2, f3, ?_⟩
        rw [f4, ← same (q + (bV (5, v, s, ofL l)).length - 1) (by omega), j0]
        simp
  · have i0 : ∃ x, t_items (bV (5, vv, sv, ofL lv)) 0 = some x ∧ x ≠ 0 := by
      refine ⟨Int32.ofNat lv.length, by rw [show (0 : Int32) = Int32.ofNat 0 from rfl, i1], ?_⟩
      have : lv.length ≠ 0 := fun e => hv0 (List.eq_nil_of_length_eq_zero e)
      rw [Ne, show (0 : Int32) = Int32.ofNat 0 from rfl, i_inj (by omega) (by omega)]
      exact this
    obtain ⟨x, i0, i0'⟩ := i0
    obtain ⟨p1, p2, p3⟩ := put_text (b := false) (ob := 91) (cl := 93) w2 w1 hv0 hd4
    by_cases hab : a < b
    · rw [c1 hab, o_bind, o_bind, tv, i0, o_bind, if_neg i0']
      have hel : ip false (q + 1) l (b - 1) + (bM false (l[b - 1]'(by omega))).length < us.length := by
        obtain ⟨-, s2⟩ := span_at hab w2 hd4
        apply Classical.byContradiction
        intro c
        rw [List.drop_eq_nil_of_le (by omega)] at s2
        have := congrArg List.length s2
        simp only [List.length_nil, List.length_append, List.length_cons] at this
        omega
      obtain ⟨-, -, i3⟩ := q2'.item (Or.inl rfl) (show a < l.length by omega)
      rw [eb] at i3
      obtain ⟨S', f1, f2, f3, f4⟩ := fin (ip false (q + 1) l a) _ 0 0 (by omega) (Nat.le_of_lt hel) (Or.inl rfl) (Or.inl rfl)
      refine ⟨S', f1, f2, f3, ?_⟩
      rw [f4, eK, ← p1 hab]
      simp
    · have hab' : a = b := by omega
      subst hab'
      by_cases hal : a < l.length
      · rw [c2 (Nat.le_refl _) hal, o_bind, o_bind, tv, i0, o_bind, if_neg i0']
        obtain ⟨-, -, i3⟩ := q2'.item (Or.inl rfl) hal
        rw [eb] at i3
        obtain ⟨S', f1, f2, f3, f4⟩ := fin (ip false (q + 1) l a) (ip false (q + 1) l a) 0 1 (by omega) (by omega) (Or.inl rfl) (Or.inr rfl)
        refine ⟨S', f1, f2, f3, ?_⟩
        rw [f4, eK, ← p2 rfl hal]
        simp
      · have hal' : a = l.length := by omega
        rw [c3 (Nat.le_refl _) hal', o_bind, o_bind, tv, i0, o_bind, if_neg i0']
        have hb2 : (bV (5, v, s, ofL l)).length = (jn (l.map (bM false))).length + 2 := by rw [bV_5]; simp
        have ep : q + (bV (5, v, s, ofL l)).length - 1 = q + (jn (l.map (bM false))).length + 1 := by omega
        obtain ⟨S', f1, f2, f3, f4⟩ := fin (q + (bV (5, v, s, ofL l)).length - 1) (q + (bV (5, v, s, ofL l)).length - 1) (if l = [] then 0 else 1) 0 (by omega) (by omega) (by by_cases hn : l = []; rw [if_pos hn]; exact Or.inl rfl; rw [if_neg hn]; exact Or.inr rfl) (Or.inl rfl)
        refine ⟨S', f1, f2, f3, ?_⟩
        rw [f4, eK, ← p3 rfl hal', ep]
        by_cases hn : l = []
        · simp [hn]
        · simp [hn]
end PutA159
end

section
/-! The class puts a value at the end of a path. -/
section PutA160
theorem sizeQ {S : SS} {ta q : Nat} {it : Int32} {k : Nat} {v : Int} {s : List Int32} {l : List Mb} {w : Option (Nat × Nat)} (hta : ta < 1000) (hk : k = 5 ∨ k = 6) (h : spQ S ta q it (k, v, s, ofL l) w) : p_size S = some (Int32.ofNat (winN (k, v, s, ofL l) w)) ∧ p_behind S = some (Int32.ofNat (winE (k, v, s, ofL l) w)) ∧ winE (k, v, s, ofL l) w ≤ l.length ∧ l.length < 4096 := by
  obtain ⟨lo, hi, h1, h2, h3, h4⟩ := h
  obtain ⟨i1, i2⟩ := h2.items hk
  have e0 : (rd S 67 0).toNatClampNeg = ta := by unfold rd; rw [h1]; exact i_cl (by omega)
  have e1 : rd S 67 1 = Int32.ofNat q := by unfold rd; rw [h1]; rfl
  have e3 : rd S 67 3 = if w.isSome then 1 else 0 := by unfold rd; rw [h1]; rfl
  have e4 : rd S 67 4 = lo := by unfold rd; rw [h1]; rfl
  have e5 : rd S 67 5 = hi := by unfold rd; rw [h1]; rfl
  have hsz : size (k, v, s, ofL l) = l.length := by
    unfold size
    rw [if_neg (show ¬ ((k, v, s, ofL l) : Vl).1 = 4 by show ¬ k = 4; omega)]
    exact congrArg List.length (toL_ofL l)
  unfold p_size p_behind
  cases w with
  | none =>
    rw [e3, if_pos (show (if (none : Option (Nat × Nat)).isSome = true then (1 : Int32) else 0) = 0 from rfl), e0, e1, i1, o_bind, if_pos (show (if (none : Option (Nat × Nat)).isSome = true then (1 : Int32) else 0) = 0 from rfl)]
    have : winN (k, v, s, ofL l) none = l.length := hsz
    unfold winE winA
    simp only [this, Nat.zero_add]
    exact ⟨trivial, trivial, Nat.le_refl _, i2⟩
  | some ab =>
    obtain ⟨a, b⟩ := ab
    obtain ⟨w1, w2, -⟩ := h3 a b rfl
    obtain ⟨x1, x2⟩ := h4 a b rfl
    rw [hsz] at w2
    rw [e3, if_neg (show ¬ (if (some (a, b) : Option (Nat × Nat)).isSome = true then (1 : Int32) else 0) = 0 from fun e => absurd e (show ¬ (1 : Int32) = 0 by decide)), e4, e5, x1, x2, i_subN (by omega) (by omega), if_neg (show ¬ (if (some (a, b) : Option (Nat × Nat)).isSome = true then (1 : Int32) else 0) = 0 from fun e => absurd e (show ¬ (1 : Int32) = 0 by decide))]
    unfold winE winA winN
    simp only
    refine ⟨trivial, ?_, by omega, i2⟩
    rw [show a + (b - a) = b by omega]
theorem fromQ {S : SS} {k : Int} {n : Nat} (hk : -9007199254740991 ≤ k ∧ k ≤ 9007199254740991) (hn : n ≤ 9000) : ∃ r, p_fromStart S (Int64.ofInt k) (Int32.ofNat n) = some r ∧ r.toInt = atX k n := by
  have z0 : (0 : Int64).toInt = 0 := rfl
  have l1 := l_of (z := k) (by omega) (by omega)
  have hnt : ((Int32.ofNat n).toInt64).toInt = n := by rw [l_32 n (by omega), l_of (by omega) (by omega)]
  unfold p_fromStart atX
  by_cases hs : k < 0
  · refine ⟨_, if_neg (by rw [lg_ge, l1, z0]; omega), ?_⟩
    rw [l_add (by rw [l1]; omega) (by rw [hnt]; omega), l1, hnt, if_pos hs]
  · exact ⟨_, if_pos ((lg_ge _ _).mpr (by rw [l1, z0]; omega)), by rw [l1, if_neg hs]⟩
theorem nothQ {S : SS} {ta q : Nat} {it : Int32} {t : Vl} {w : Option (Nat × Nat)} (h : spQ S ta q it t w) : p_nothing S = some 0 := by
  obtain ⟨lo, hi, h1, h2, -⟩ := h
  have := h2.lt
  have := h2.1
  have e1 : rd S 67 1 = Int32.ofNat q := by unfold rd; rw [h1]; rfl
  unfold p_nothing
  rw [e1, if_neg (i_ne1 (by omega))]
theorem nothN {S : SS} {ta : Nat} (h : spN S ta) : p_nothing S = some 1 := by
  obtain ⟨it, lo, hi, h1⟩ := h
  have e1 : rd S 67 1 = -1 := by unfold rd; rw [h1]; rfl
  unfold p_nothing
  rw [e1, if_pos rfl]
theorem partF {S : SS} {ta q : Nat} {it : Int32} {t : Vl} {w : Option (Nat × Nat)} (h : spQ S ta q it t w) : p_isPart S = some (if w.isSome then 1 else 0) := by
  obtain ⟨lo, hi, h1, h2, -⟩ := h
  have e3 : rd S 67 3 = if w.isSome then 1 else 0 := by unfold rd; rw [h1]; rfl
  unfold p_isPart
  rw [e3]
  cases w with
  | none =>
    show some ((0 : Int32) &&& 1) = some 0
    rw [show ((0 : Int32) &&& 1) = 0 by decide]
  | some ab =>
    show some ((1 : Int32) &&& 1) = some 1
    rw [show ((1 : Int32) &&& 1) = 1 by decide]
theorem isNullQ {S : SS} {ta q : Nat} {it : Int32} {t : Vl} {w : Option (Nat × Nat)} (hta : ta < 1000) (h : spQ S ta q it t w) : p_isNull S = some (if t.1 = 0 then 1 else 0) := by
  unfold p_isNull
  rw [h.c.kind hta, o_bind]
  obtain ⟨lo, hi, h1, h2, -⟩ := h
  have k6 := h2.2.2.1.1
  by_cases e : t.1 = 0
  · rw [e, if_pos (by rfl), if_pos rfl]
  · rw [if_neg (by rw [show (0 : Int32) = Int32.ofNat 0 from rfl, i_inj (by omega) (by omega)]; exact e), if_neg e]
theorem putS_null {t : Vl} (h : t.1 = 0) (ss : List Vl) (w : Option (Nat × Nat)) (v : Vl) : putS ss t w v = putS ss vNull w v := by
  cases ss with
  | nil =>
    cases w with
    | none => rfl
    | some ab =>
      obtain ⟨a, b⟩ := ab
      show (if v.1 = 5 then (if t.1 = 5 then _ else _) else _) = (if v.1 = 5 then (if vNull.1 = 5 then _ else _) else _)
      rw [if_neg (show ¬ t.1 = 5 by omega), if_neg (show ¬ vNull.1 = 5 by decide)]
  | cons pi ps =>
    have n5 : ¬ t.1 = 5 := by omega
    have n6 : ¬ t.1 = 6 := by omega
    have m5 : ¬ vNull.1 = 5 := by decide
    have m6 : ¬ vNull.1 = 6 := by decide
    have m0 : vNull.1 = 0 := rfl
    unfold putS
    rw [if_neg n5, if_neg m5, if_pos h, if_pos m0, if_neg n6, if_neg m6, if_pos h, if_pos m0, if_neg n5, if_neg m5, if_pos h, if_pos m0]
theorem setM_in {l : List Mb} {s : List Int32} (u : Vl) (hj : l.findIdx (fun m => m.1 == s) < l.length) : setM l s u = l.set (l.findIdx (fun m => m.1 == s)) ((l[l.findIdx (fun m => m.1 == s)]).1, u) := by
  unfold setM
  rw [if_pos hj]
  have : (l[l.findIdx (fun m => m.1 == s)]).1 = s := eq_of_beq (List.findIdx_getElem (w := hj))
  rw [this]
theorem getD_in {l : List Mb} {j : Nat} (d : Mb) (h : j < l.length) : l.getD j d = l[j] := by
  rw [List.getD_eq_getElem?_getD, List.getElem?_eq_getElem h]
  rfl
theorem placeL {S : SS} {ta q : Nat} {it : Int32} {v0 : Int} {s0 : List Int32} {l : List Mb} {w : Option (Nat × Nat)} {k : Int} (hta : ta < 1000 ∧ ta ≠ 67) (h : spQ S ta q it (5, v0, s0, ofL l) w) (hk : -9007199254740991 ≤ k ∧ k ≤ 9007199254740991) : (0 ≤ atX k (winN (5, v0, s0, ofL l) w) ∧ atX k (winN (5, v0, s0, ofL l) w) < winN (5, v0, s0, ofL l) w → ∃ (S' : SS) (hj : winA (5, v0, s0, ofL l) w + (atX k (winN (5, v0, s0, ofL l) w)).toNat < l.length), p_byPlace S (Int64.ofInt k) = some (S', 0) ∧ fr67 S S' ∧ spQ S' ta (ip false (q + 1) l (winA (5, v0, s0, ofL l) w + (atX k (winN (5, v0, s0, ofL l) w)).toNat)) (Int32.ofNat (ip false (q + 1) l (winA (5, v0, s0, ofL l) w + (atX k (winN (5, v0, s0, ofL l) w)).toNat))) (l[winA (5, v0, s0, ofL l) w + (atX k (winN (5, v0, s0, ofL l) w)).toNat]).2 none) ∧ (¬ (0 ≤ atX k (winN (5, v0, s0, ofL l) w) ∧ atX k (winN (5, v0, s0, ofL l) w) < winN (5, v0, s0, ofL l) w) → ∃ S', p_byPlace S (Int64.ofInt k) = some (S', 0) ∧ fr67 S S' ∧ spN S' ta) := by
  obtain ⟨S', a1, a2, a3⟩ := placeQ hta h hk rfl
  unfold spPX at a3
  refine ⟨fun c => ?_, fun c => ?_⟩
  · rw [if_pos c] at a3
    simp only [toL_ofL] at a3
    obtain ⟨hj, a3⟩ := a3
    exact ⟨S', hj, a1, a2, a3⟩
  · rw [if_neg c] at a3
    exact ⟨S', a1, a2, a3⟩
theorem pstep3 {S : SS} {t1 q2 : Nat} {pi : Vl} (h : vat (tT S t1) q2 pi) (e3 : pi.1 = 3) : p_step S t1 (Int32.ofNat q2) = ((p_byPlace S (Int64.ofInt pi.2.1)).bind fun r6 => some (r6.1, r6.2)) := by
  have h' := h
  rw [vl3 e3] at h'
  unfold p_step
  rw [h.kind, o_bind, if_pos (by rw [e3]; rfl), h'.number, o_bind]
theorem pstep4 {S : SS} {t1 q2 : Nat} {pi : Vl} (h : vat (tT S t1) q2 pi) (e4 : pi.1 = 4) : p_step S t1 (Int32.ofNat q2) = ((p_byName S t1 (Int32.ofNat q2)).bind fun r9 => some (r9.1, r9.2)) := by
  unfold p_step
  rw [h.kind, o_bind, if_neg (by rw [e4]; decide), if_pos (by rw [e4]; rfl)]
theorem pstep6 {S : SS} {t1 q2 : Nat} {pi : Vl} (h : vat (tT S t1) q2 pi) (e6 : pi.1 = 6) : p_step S t1 (Int32.ofNat q2) = ((p_byPart S t1 (Int32.ofNat q2)).bind fun r12 => some (r12.1, r12.2)) := by
  unfold p_step
  rw [h.kind, o_bind, if_neg (by rw [e6]; decide), if_neg (by rw [e6]; decide), if_pos (by rw [e6]; rfl)]
theorem pstepX {S : SS} {t1 q2 : Nat} {pi : Vl} (h : vat (tT S t1) q2 pi) (e3 : pi.1 ≠ 3) (e4 : pi.1 ≠ 4) (e6 : pi.1 ≠ 6) : p_step S t1 (Int32.ofNat q2) = some (S, 1) := by
  have k6 := h.2.2.1.1
  unfold p_step
  rw [h.kind, o_bind, if_neg (by rw [show (3 : Int32) = Int32.ofNat 3 from rfl, i_inj (by omega) (by omega)]; exact e3), if_neg (by rw [show (4 : Int32) = Int32.ofNat 4 from rfl, i_inj (by omega) (by omega)]; exact e4), if_neg (by rw [show (6 : Int32) = Int32.ofNat 6 from rfl, i_inj (by omega) (by omega)]; exact e6)]
theorem str_at {us : List Int32} {q : Nat} {pi : Vl} (h : vat us q pi) (e4 : pi.1 = 4) : us.length ≤ 4096 ∧ asc us ∧ okS pi.2.2.1 ∧ ∃ r, us.drop q = pstr pi.2.2.1 ++ r := by
  obtain ⟨l1, l2, w0, r, d1, -⟩ := h
  refine ⟨l1, l2, w0.2.2.1, r, ?_⟩
  rw [d1]
  congr 1
  conv => lhs; rw [vl4 e4]
  rfl
theorem wE_N (t : Vl) (w : Option (Nat × Nat)) : winE t w = winA t w + winN t w := rfl
theorem putA {ta t1 t2 dr : Nat} {us vs : List Int32} {vt : Vl} {vp : Int} {sp : List Int32} {lp : List Mb} (hp : vat vs 0 (5, vp, sp, ofL lp)) (hlp : lp.length ≤ 100) (hv : vat (bV vt) 0 vt) (hus : us.length ≤ 4096) : ∀ (m j n : Nat) (S : SS) (q : Nat) (it : Int32) (t : Vl) (w : Option (Nat × Nat)) (K : Vl → Vl), j + m = lp.length → m < n → txU S ta t1 t2 dr us vs (bV vt) → goS S ta dr → spQ S ta q it t w → (w.isSome → t.1 = 5) → ctx us q t K → ∃ S' e, u_put_l44 ta t1 t2 dr n S (Int32.ofNat lp.length) (if m = 0 then -1 else Int32.ofNat (ip false 1 lp j)) (Int32.ofNat j) = some (S', e) ∧ frU S S' dr ∧ (S' 71).length = 100 ∧ (e = 0 → ∃ U, putS ((lp.drop j).map fun m => m.2) t w vt = some U ∧ wV (K U) ∧ ∃ Bf, S' dr = pv Bf ∧ eqT Bf (bV (K U))) ∧ (e ≠ 0 → putS ((lp.drop j).map fun m => m.2) t w vt = none) := by
  intro m
  induction m with
  | zero =>
    intro j n S q it t w K hj hn hT hg hq hw hK
    obtain ⟨n, rfl⟩ : ∃ j, n = j + 1 := ⟨n - 1, by omega⟩
    have ej : j = lp.length := by omega
    subst ej
    obtain ⟨h1, h2, h3, h4⟩ := id hg
    obtain ⟨c1, c2, c3, c4⟩ := h1.flag
    obtain ⟨t1', t2', t3', t4', t5', t6', t7', t8', t9', t10'⟩ := id hT
    rw [List.drop_eq_nil_of_le (Nat.le_refl _)]
    show ∃ S' e, (if Int32.ofNat lp.length ≤ Int32.ofNat lp.length then _ else _) = some (S', e) ∧ _
    rw [if_pos ((i_le' (by omega) (by omega)).mpr (Nat.le_refl _)), c2, if_pos rfl, partF hq, o_bind, c4, if_pos rfl]
    cases w with
    | none =>
      obtain ⟨S1, a1, a2, a3⟩ := uvalue_val t7' t4' t8' t1' hq h1 h2 h3 h4
      have hT1 := hT.fr a3
      obtain ⟨g1, g2, g3⟩ := wrS.grow (B' := us.take q ++ bV vt) t7' a2
      have hT2 := hT1.fr g2
      obtain ⟨lo, hi, q1, q2, -⟩ := id hq
      rw [t1'] at q2
      have hlt := q2.lt
      obtain ⟨S', k1, k2, k3, k4⟩ := uclose_val t7' t4'.1 t8' hus (by omega) (Or.inl rfl) (by decide) (fun u hu => by cases hu) hT2.1 g1
      have hl := hv.1
      refine ⟨S', 0, ?_, (a3.trans g2).trans k3, k4, fun _ => ⟨vt, rfl, hK.1 _ hv.2.2.1, _, k2, Or.inl ?_⟩, fun c => absurd rfl c⟩
      · rw [if_pos (show (if (none : Option (Nat × Nat)).isSome = true then (1 : Int32) else 0) = 0 from rfl)]
        unfold u_fill
        rw [c2, if_pos rfl, a1, o_bind, a2.1.dr t7'.1, hT1.2.2.1, show (0 : Int32) = Int32.ofNat 0 from rfl, spart_at a2.2.2.2 (fun e => t10' e.symm) (by omega) (by omega), o_bind, hT1.2.2.1, List.take_of_length_le (Nat.le_refl _), List.drop_zero, o_bind, k1, o_bind]
      · rw [hK.2, if_neg (by decide)]
        simp
    | some ab =>
      obtain ⟨a, b⟩ := ab
      have e5 := hw rfl
      obtain ⟨kt, v0, s0, ft⟩ := t
      obtain ⟨l, rfl⟩ : ∃ l, ft = ofL l := ⟨toL ft, (ofL_toL ft).symm⟩
      have e5 : kt = 5 := e5
      subst e5
      rw [if_neg (show ¬ (if (some (a, b) : Option (Nat × Nat)).isSome = true then (1 : Int32) else 0) = 0 from fun e => absurd e (show ¬ (1 : Int32) = 0 by decide)), t3', show (0 : Int32) = Int32.ofNat 0 from rfl, hv.kind, o_bind]
      have k6 := hv.2.2.1.1
      by_cases e5 : vt.1 = 5
      · obtain ⟨kv, vv, sv, fv⟩ := vt
        obtain ⟨lv, rfl⟩ : ∃ l, fv = ofL l := ⟨toL fv, (ofL_toL fv).symm⟩
        have e5 : kv = 5 := e5
        subst e5
        obtain ⟨S', k1, k2, k3, k4⟩ := fillPart_val t7' t4' t6' t8' t10' t1' t3' hv hq hK hg
        rw [if_pos (show Int32.ofNat 5 = 5 from rfl)]
        refine ⟨S', 0, k1, k2, k3, fun _ => ⟨(5, v0, s0, ofL (l.take a ++ (lv ++ l.drop b))), ?_, ?_, _, k4, Or.inl rfl⟩, fun c => absurd rfl c⟩
        · show (if (5 : Nat) = 5 then (if (5 : Nat) = 5 then some (5, v0, s0, ofL ((toL (ofL l)).take a ++ (toL (ofL lv) ++ (toL (ofL l)).drop b))) else _) else none) = _
          rw [if_pos rfl, if_pos rfl, toL_ofL, toL_ofL]
        · refine hK.1 _ (wV_5 ?_ ?_)
          · obtain ⟨lo, hi, q1, q2, -⟩ := hq
            exact q2.2.2.1.2.2.1
          · obtain ⟨lo, hi, q1, q2, -⟩ := hq
            intro x hx
            rcases List.mem_append.mp hx with c | c
            · exact q2.2.2.1.kids x (List.mem_of_mem_take c)
            · rcases List.mem_append.mp c with c | c
              · exact hv.2.2.1.kids x c
              · exact q2.2.2.1.kids x (List.mem_of_mem_drop c)
      · rw [if_neg (by rw [show (5 : Int32) = Int32.ofNat 5 from rfl, i_inj (by omega) (by omega)]; exact e5)]
        refine ⟨S, 1, rfl, frU.refl _ _, h2, fun c => absurd c (by decide), fun _ => ?_⟩
        show (if vt.1 = 5 then _ else none) = _
        rw [if_neg e5]
  | succ m ih =>
    intro j n S q it t w K hj hn hT hg hq hw hK
    obtain ⟨n, rfl⟩ : ∃ j, n = j + 1 := ⟨n - 1, by omega⟩
    have hjl : j < lp.length := by omega
    obtain ⟨h1, h2, h3, h4⟩ := id hg
    obtain ⟨c1, c2, c3, c4⟩ := h1.flag
    obtain ⟨t1', t2', t3', t4', t5', t6', t7', t8', t9', t10'⟩ := id hT
    obtain ⟨s1, s2⟩ := step_at hp hjl
    have el : (lp.drop j).map (fun m => m.2) = (lp[j]).2 :: (lp.drop (j + 1)).map (fun m => m.2) := by rw [List.drop_eq_getElem_cons hjl, List.map_cons]
    have enx : (if j + 1 < lp.length then Int32.ofNat (ip false 1 lp (j + 1)) else (-1 : Int32)) = if m = 0 then -1 else Int32.ofNat (ip false 1 lp (j + 1)) := by
      by_cases c : m = 0
      · rw [if_pos c, if_neg (by omega)]
      · rw [if_neg c, if_pos (by omega)]
    rw [enx] at s2
    obtain ⟨pi, hpi⟩ : ∃ pi, pi = (lp[j]).2 := ⟨_, rfl⟩
    rw [← hpi] at s1 el
    have k6 := s1.2.2.1.1
    have s1S : vat (tT S t1) (ip false 1 lp j) pi := by rw [t2']; exact s1
    have hk := s1S.kind
    obtain ⟨ps, hps⟩ : ∃ ps, ps = (lp.drop (j + 1)).map (fun m => m.2) := ⟨_, rfl⟩
    rw [if_neg (by omega : ¬ m + 1 = 0), el, ← hps]
    obtain ⟨lo, hi, q1, q2, q3, q4⟩ := id hq
    have q2u := q2
    rw [t1'] at q2u
    have hlt := q2u.lt
    have tk6 := q2.2.2.1.1
    -- how the loop goes on
    have stepG : ∀ X, u_null S t1 (Int32.ofNat (ip false 1 lp j)) = some S → u_goOn S t1 (Int32.ofNat (ip false 1 lp j)) = some X → u_put_l44 ta t1 t2 dr (n + 1) S (Int32.ofNat lp.length) (Int32.ofNat (ip false 1 lp j)) (Int32.ofNat j) = if X.2 = 0 then ((t_next (tT X.1 t1) (Int32.ofNat (ip false 1 lp j))).bind fun r48 => u_put_l44 ta t1 t2 dr n X.1 (Int32.ofNat lp.length) r48 (Int32.ofNat (j + 1))) else some (X.1, X.2) := by
      intro X h0 hX
      show (if Int32.ofNat lp.length ≤ Int32.ofNat j then _ else (if rd S 69 6 = 0 then _ else _)) = _
      rw [if_neg (by rw [i_le' (by omega) (by omega)]; omega), c2, if_pos rfl, h0, o_bind, c2, if_pos rfl, hX, o_bind, i_a1]
    have stepW : ∀ R, u_null S t1 (Int32.ofNat (ip false 1 lp j)) = some R → rd R 69 6 = 1 → u_put_l44 ta t1 t2 dr (n + 1) S (Int32.ofNat lp.length) (Int32.ofNat (ip false 1 lp j)) (Int32.ofNat j) = u_put_l44 ta t1 t2 dr (n + 1) R (Int32.ofNat lp.length) (Int32.ofNat (ip false 1 lp j)) (Int32.ofNat j) := by
      intro R h0 hR
      have nl : ¬ Int32.ofNat lp.length ≤ Int32.ofNat j := by rw [i_le' (by omega) (by omega)]; omega
      show (if Int32.ofNat lp.length ≤ Int32.ofNat j then _ else (if rd S 69 6 = 0 then _ else _)) = _
      rw [if_neg nl, c2, if_pos rfl, h0, o_bind, hR, if_neg (by decide)]
      symm
      show (if Int32.ofNat lp.length ≤ Int32.ofNat j then _ else (if rd R 69 6 = 0 then _ else _)) = _
      rw [if_neg nl, hR, if_neg (by decide)]
    have refuse : ∀ X, u_null S t1 (Int32.ofNat (ip false 1 lp j)) = some S → u_goOn S t1 (Int32.ofNat (ip false 1 lp j)) = some X → X.2 ≠ 0 → frU S X.1 dr → (X.1 71).length = 100 → putS (pi :: ps) t w vt = none → ∃ S' e, u_put_l44 ta t1 t2 dr (n + 1) S (Int32.ofNat lp.length) (Int32.ofNat (ip false 1 lp j)) (Int32.ofNat j) = some (S', e) ∧ frU S S' dr ∧ (S' 71).length = 100 ∧ (e = 0 → ∃ U, putS (pi :: ps) t w vt = some U ∧ wV (K U) ∧ ∃ Bf, S' dr = pv Bf ∧ eqT Bf (bV (K U))) ∧ (e ≠ 0 → putS (pi :: ps) t w vt = none) := by
      intro X h0 hX hx hf hl hn
      exact ⟨X.1, X.2, by rw [stepG X h0 hX, if_neg hx], hf, hl, fun c => absurd c hx, fun _ => hn⟩
    -- it is there
    have found : ∀ (S1 : SS) (q' : Nat) (it' : Int32) (t' : Vl) (w' : Option (Nat × Nat)) (F : Vl → Vl), u_null S t1 (Int32.ofNat (ip false 1 lp j)) = some S → u_goOn S t1 (Int32.ofNat (ip false 1 lp j)) = some (S1, 0) → fr67 S S1 → spQ S1 ta q' it' t' w' → (w'.isSome → t'.1 = 5) → ctx us q' t' (fun u => K (F u)) → putS (pi :: ps) t w vt = (putS ps t' w' vt).map F → ∃ S' e, u_put_l44 ta t1 t2 dr (n + 1) S (Int32.ofNat lp.length) (Int32.ofNat (ip false 1 lp j)) (Int32.ofNat j) = some (S', e) ∧ frU S S' dr ∧ (S' 71).length = 100 ∧ (e = 0 → ∃ U, putS (pi :: ps) t w vt = some U ∧ wV (K U) ∧ ∃ Bf, S' dr = pv Bf ∧ eqT Bf (bV (K U))) ∧ (e ≠ 0 → putS (pi :: ps) t w vt = none) := by
      intro S1 q' it' t' w' F h0 hG hf hq' hw' hc hS
      have hf' := frU_67 dr hf
      have hT1 := hT.fr hf'
      obtain ⟨S', e, j1, j2, j3, j4, j5⟩ := ih (j + 1) n S1 q' it' t' w' _ (by omega) (by omega) hT1 (hg.fr t7' hf) hq' hw' hc
      rw [← hps] at j4 j5
      refine ⟨S', e, ?_, hf'.trans j2, j3, fun he => ?_, fun he => ?_⟩
      · rw [stepG _ h0 hG, if_pos rfl, hT1.2.1, s2, o_bind]
        exact j1
      · obtain ⟨U, z1, z2, Bf, z3, z4⟩ := j4 he
        exact ⟨F U, by rw [hS, z1]; rfl, z2, Bf, z3, z4⟩
      · rw [hS, j5 he]
        rfl
    -- nothing is there: it is written from here on
    have grown : ∀ (S1 : SS) (B B0 : List Int32) (f : Int32) (to : Nat) (cb ch : Int32) (F : Vl → Vl), u_null S t1 (Int32.ofNat (ip false 1 lp j)) = some S → u_goOn S t1 (Int32.ofNat (ip false 1 lp j)) = some (S1, 0) → frU S S1 dr → wrS S1 ta dr 0 0 [] B f (Int32.ofNat to) cb ch → to ≤ us.length → (ch = 0 ∨ ch = 1) → wctx B0 ((if ch = 1 then [44] else []) ++ us.drop to) (fun u => K (F u)) → eqT B B0 → putS (pi :: ps) t w vt = (putS ps vNull none vt).map F → ∃ S' e, u_put_l44 ta t1 t2 dr (n + 1) S (Int32.ofNat lp.length) (Int32.ofNat (ip false 1 lp j)) (Int32.ofNat j) = some (S', e) ∧ frU S S' dr ∧ (S' 71).length = 100 ∧ (e = 0 → ∃ U, putS (pi :: ps) t w vt = some U ∧ wV (K U) ∧ ∃ Bf, S' dr = pv Bf ∧ eqT Bf (bV (K U))) ∧ (e ≠ 0 → putS (pi :: ps) t w vt = none) := by
      intro S1 B B0 f to cb ch F h0 hG hf hW hto hch hc hE hS
      have hT1 := hT.fr hf
      obtain ⟨S', e, j1, j2, j3, j4, j5⟩ := putB hp hlp hv hus hto hch m (j + 1) n S1 B B0 [] 0 0 _ (by omega) (by omega) (by simp) (fun u hu => by cases hu) (Or.inl rfl) (Or.inl rfl) hT1 hW hc hE
      rw [← hps] at j4 j5
      refine ⟨S', e, ?_, hf.trans j2, j3, fun he => ?_, fun he => ?_⟩
      · rw [stepG _ h0 hG, if_pos rfl, hT1.2.1, s2, o_bind]
        exact j1
      · obtain ⟨-, U, z1, z2, Bf, z3, z4⟩ := j4 he
        have z1 : putS ps vNull none vt = some U := z1
        exact ⟨F U, by rw [hS, z1]; rfl, z2, Bf, z3, z4⟩
      · rcases j5 he with c | c
        · exact absurd c (by decide)
        · have c : putS ps vNull none vt = none := c
          rw [hS, c]
          rfl
    -- null
    by_cases e0 : t.1 = 0
    · have hwn : w = none := by
        cases w with
        | none => rfl
        | some ab =>
          have := hw rfl
          omega
      subst hwn
      have f0 : frU S (wr S 69 7 0) dr := fun a n1 n2 n3 n4 n5 => wr_ne n2
      have tt0 : tT (wr S 69 7 0) ta = us := by unfold tT at *; rw [wr_ne t4'.2.2.1]; exact t1'
      obtain ⟨R, b1, b2, b3⟩ := uvalue_val (S := wr S 69 7 0) t7' t4' t8' tt0 (hq.move (wr_ne (by decide)) (wr_ne t4'.2.2.1)) (h1.w7 0) (by rw [wr_ne (by decide)]; exact h2) (by rw [wr_ne (by decide)]; exact h3) (by rw [wr_ne t7'.2.2.1]; exact h4)
      have hn0 : u_null S t1 (Int32.ofNat (ip false 1 lp j)) = some R := by
        unfold u_null
        rw [partF hq, o_bind, if_pos (show (if (none : Option (Nat × Nat)).isSome = true then (1 : Int32) else 0) = 0 from rfl), isNullQ t4'.1 hq, o_bind, if_pos e0, if_neg (by decide), b1, o_bind]
      have hT1 := hT.fr (f0.trans b3)
      obtain ⟨S', e, j1, j2, j3, j4, j5⟩ := putB hp hlp hv hus (to := q + (bV t).length) (by omega) (Or.inl rfl) (m + 1) j (n + 1) R (us.take q) (us.take q) [] 0 0 K (by omega) (by omega) (by simp) (fun u hu => by cases hu) (Or.inl rfl) (Or.inl rfl) hT1 b2 (by rw [if_neg (show ¬ (0 : Int32) = 1 by decide)]; exact hK) (eqT.refl _)
      rw [el, ← hps] at j4 j5
      rw [if_neg (by omega : ¬ m + 1 = 0)] at j1
      refine ⟨S', e, by rw [stepW R hn0 b2.1.flag.2.1]; exact j1, (f0.trans b3).trans j2, j3, fun he => ?_, fun he => ?_⟩
      · obtain ⟨-, U, z1, z2⟩ := j4 he
        exact ⟨U, by rw [putS_null e0]; exact z1, z2⟩
      · rcases j5 he with c | c
        · exact absurd c (by decide)
        · rw [putS_null e0]; exact c
    -- a name behind a part
    by_cases e4p : w.isSome = true ∧ pi.1 = 4
    · obtain ⟨ew, e4⟩ := e4p
      have f0 : frU S (wr S 69 7 1) dr := fun a n1 n2 n3 n4 n5 => wr_ne n2
      have tt0 : tT (wr S 69 7 1) ta = us := by unfold tT at *; rw [wr_ne t4'.2.2.1]; exact t1'
      obtain ⟨R, b1, b2, b3⟩ := uvalue_val (S := wr S 69 7 1) t7' t4' t8' tt0 (hq.move (wr_ne (by decide)) (wr_ne t4'.2.2.1)) (h1.w7 1) (by rw [wr_ne (by decide)]; exact h2) (by rw [wr_ne (by decide)]; exact h3) (by rw [wr_ne t7'.2.2.1]; exact h4)
      have hn0 : u_null S t1 (Int32.ofNat (ip false 1 lp j)) = some R := by
        unfold u_null
        rw [partF hq, o_bind, if_pos ew, if_neg (by decide), hk, o_bind, if_pos (by rw [e4]; rfl), b1, o_bind]
      have hT1 := hT.fr (f0.trans b3)
      obtain ⟨S', e, j1, j2, j3, j4, j5⟩ := putB hp hlp hv hus (to := q + (bV t).length) (by omega) (Or.inl rfl) (m + 1) j (n + 1) R (us.take q) (us.take q) [] 1 0 K (by omega) (by omega) (by simp) (fun u hu => by cases hu) (Or.inr rfl) (Or.inl rfl) hT1 b2 (by rw [if_neg (show ¬ (0 : Int32) = 1 by decide)]; exact hK) (eqT.refl _)
      rw [el, ← hps] at j4 j5
      rw [if_neg (by omega : ¬ m + 1 = 0)] at j1
      have none1 : ∀ t' w', (w' : Option (Nat × Nat)).isSome = true → putS (pi :: ps) t' w' vt = none := fun t' w' h => by
        show (if pi.1 = 6 then _ else if pi.1 = 4 then (if w'.isSome then none else _) else _) = none
        rw [if_neg (by omega), if_pos e4, if_pos h]
      refine ⟨S', e, by rw [stepW R hn0 b2.1.flag.2.1]; exact j1, (f0.trans b3).trans j2, j3, fun he => ?_, fun he => none1 t w ew⟩
      obtain ⟨-, U, z1, -⟩ := j4 he
      rw [none1 vNull (wB 1) rfl] at z1
      cases z1
    have hn0 : u_null S t1 (Int32.ofNat (ip false 1 lp j)) = some S := by
      unfold u_null
      rw [partF hq, o_bind]
      by_cases ew : w.isSome = true
      · have i4 : ¬ Int32.ofNat pi.1 = 4 := by
          rw [show (4 : Int32) = Int32.ofNat 4 from rfl, i_inj (by omega) (by omega)]
          exact fun c => e4p ⟨ew, c⟩
        rw [if_pos ew, if_neg (by decide), hk, o_bind, if_neg i4, isNullQ t4'.1 hq, o_bind, if_neg e0, if_pos rfl]
      · rw [if_neg ew, if_pos rfl, isNullQ t4'.1 hq, o_bind, if_neg e0, if_pos rfl]
    have epl : p_place S = some (Int32.ofNat q) := by
      unfold p_place rd
      rw [q1]
      rfl
    have htk := hq.c.kind t4'.1
    have z0 : (0 : Int64).toInt = 0 := rfl
    have z1 : (1000 : Int64).toInt = 1000 := rfl
    have l00 : ¬ lg_cmp 0 0 < 0 := by rw [lg_lt]; omega
    have l01 : lg_cmp 0 1000 ≤ 0 := by rw [lg_le, z0, z1]; omega
    have hta2 : ta < 1000 ∧ ta ≠ 67 := ⟨t4'.1, t4'.2.1⟩
    by_cases e5 : t.1 = 5
    · obtain ⟨kt, v0, s0, ft⟩ := t
      obtain ⟨l, rfl⟩ : ∃ l, ft = ofL l := ⟨toL ft, (ofL_toL ft).symm⟩
      have e5 : kt = 5 := e5
      subst e5
      obtain ⟨z2, z3, z4, z5⟩ := sizeQ t4'.1 (Or.inl rfl) hq
      have wn : winN (5, v0, s0, ofL l) w ≤ 4096 := by rw [wE_N] at z4; omega
      have eb : ((5 : Nat) == 6) = false := rfl
      by_cases e3 : pi.1 = 3
      · have s1' := s1S
        rw [vl3 e3] at s1'
        have hx := s1.2.2.1.2.1 e3
        obtain ⟨r15, f1, f2⟩ := fromQ (S := S) (n := winN (5, v0, s0, ofL l) w) hx (by omega)
        obtain ⟨X, hX⟩ : ∃ X, X = atX pi.2.1 (winN (5, v0, s0, ofL l) w) := ⟨_, rfl⟩
        have eS : putS (pi :: ps) (5, v0, s0, ofL l) w vt = if 0 ≤ X ∧ X ≤ 1000 then (if X < winN (5, v0, s0, ofL l) w then (putS ps ((l.getD (winA (5, v0, s0, ofL l) w + X.toNat) nulM).2) none vt).map (fun u => (5, v0, s0, ofL (l.set (winA (5, v0, s0, ofL l) w + X.toNat) ((l.getD (winA (5, v0, s0, ofL l) w + X.toNat) nulM).1, u)))) else (putS ps vNull none vt).map (fun u => (5, v0, s0, ofL (l.take (winE (5, v0, s0, ofL l) w) ++ (List.replicate (X.toNat - winN (5, v0, s0, ofL l) w) nulM ++ ([], u) :: l.drop (winE (5, v0, s0, ofL l) w)))))) else none := by
          rw [hX]
          show (if pi.1 = 6 then _ else if pi.1 = 4 then _ else if pi.1 = 3 then (if (5 : Nat) = 5 then _ else _) else _) = _
          rw [if_neg (by omega), if_neg (by omega), if_pos e3, if_pos rfl]
          simp only [toL_ofL]
        rw [← hX] at f2
        have eG : u_goOn S t1 (Int32.ofNat (ip false 1 lp j)) = if (lg_cmp r15 0) < 0 then some (S, 2) else (if (lg_cmp r15 1000) ≤ 0 then ((p_step S t1 (Int32.ofNat (ip false 1 lp j))).bind fun r19 => (if r19.2 = 0 then ((p_nothing r19.1).bind fun r22 => (if r22 = 0 then some (r19.1, r19.2) else ((g_items r19.1 70 ((rd r19.1 69 4).toNatClampNeg) (Int32.ofNat q) (Int32.ofNat (winE (5, v0, s0, ofL l) w)) (Int32.ofNat (winE (5, v0, s0, ofL l) w))).bind fun r25 => ((u_start r25).bind fun r27 => ((u_nulls r27 (r15.toInt32 - (Int32.ofNat (winN (5, v0, s0, ofL l) w)))).bind fun r29 => some (r29, 0)))))) else some (r19.1, r19.2))) else some (S, 2)) := by
          unfold u_goOn
          rw [htk, o_bind, if_pos (show Int32.ofNat ((5, v0, s0, ofL l) : Vl).1 = 5 from rfl), hk, o_bind, if_pos (by rw [e3]; rfl), epl, o_bind, z2, o_bind, z3, o_bind, s1'.number, o_bind, f1, o_bind]
        by_cases ok : 0 ≤ X ∧ X ≤ 1000
        · rw [if_neg (by rw [lg_lt, f2, z0]; omega), if_pos ((lg_le _ _).mpr (by rw [f2, z1]; omega))] at eG
          rw [if_pos ok] at eS
          obtain ⟨p1, p2⟩ := placeL hta2 hq hx
          rw [← hX] at p1 p2
          by_cases hin : X < winN (5, v0, s0, ofL l) w
          · obtain ⟨S1, hj', a1, a2, a3⟩ := p1 ⟨ok.1, hin⟩
            rw [if_pos hin, getD_in _ hj'] at eS
            refine found S1 _ _ _ none _ hn0 ?_ a2 a3 (fun c => by cases c) (hK.elem q2u hj') eS
            rw [eG, pstep3 s1S e3, a1, o_bind, o_bind, if_pos rfl, nothQ a3, o_bind, if_pos rfl]
          · obtain ⟨S1, a1, a2, a3⟩ := p2 (fun c => hin c.2)
            rw [if_neg hin] at eS
            have hT1 := hT.fr (frU_67 dr a2)
            have hg1 := hg.fr t7' a2
            have e4ta : (rd S1 69 4).toNatClampNeg = ta := hg1.1.ta t4'.1
            have kk : X.toNat - winN (5, v0, s0, ofL l) w ≤ 1000 := by omega
            have er : r15.toInt32 - Int32.ofNat (winN (5, v0, s0, ofL l) w) = Int32.ofNat (X.toNat - winN (5, v0, s0, ofL l) w) := by
              rw [l_to32 (n := X.toNat) (by rw [f2]; omega) (by omega), i_subN (by omega) (by omega)]
            have q2s : vat (tT S1 ta) q (5, v0, s0, ofL l) := by rw [hT1.1]; exact q2u
            obtain ⟨-, g2, g3⟩ := gitems_val (g := 70) (lo := winE (5, v0, s0, ofL l) w) (hi := winE (5, v0, s0, ofL l) w) (Or.inl rfl) hg1.2.2.1 q2s z4 z4
            rw [eb] at g2
            obtain ⟨w1, w2⟩ := hK.grow (hi := winE (5, v0, s0, ofL l) w) (k := X.toNat - winN (5, v0, s0, ofL l) w) q2u z4
            have hpre : u_goOn S t1 (Int32.ofNat (ip false 1 lp j)) = ((g_items S1 70 ta (Int32.ofNat q) (Int32.ofNat (winE (5, v0, s0, ofL l) w)) (Int32.ofNat (winE (5, v0, s0, ofL l) w))).bind fun r25 => ((u_start r25).bind fun r27 => ((u_nulls r27 (Int32.ofNat (X.toNat - winN (5, v0, s0, ofL l) w))).bind fun r29 => some (r29, 0)))) := by
              rw [eG, pstep3 s1S e3, a1, o_bind, o_bind, if_pos rfl, nothN a3, o_bind, if_neg (by decide), e4ta, er]
            by_cases hlt' : winE (5, v0, s0, ofL l) w < l.length
            · obtain ⟨-, -, i3⟩ := q2u.item (Or.inl rfl) hlt'
              rw [eb] at i3
              obtain ⟨S2, b1, b2, b3, b4⟩ := gap_start (S := S1) (f := ip false (q + 1) l (winE (5, v0, s0, ofL l) w)) (to := Int32.ofNat (ip false (q + 1) l (winE (5, v0, s0, ofL l) w))) (cb := 0) (ch := 1) t7' t4' t8' (by omega) (Or.inl rfl) hT1.1 hg1.1 hg1.2.1 hg1.2.2.2
              obtain ⟨S3, B3, d1, d2, d3, d4, d5⟩ := unulls_val (k := X.toNat - winN (5, v0, s0, ofL l) w) t7' kk b2
              refine grown S3 B3 _ _ _ _ _ _ hn0 ?_ (((frU_67 dr a2).trans b3).trans d4) d2 (by omega) (Or.inr rfl) (by rw [if_pos rfl]; exact w1 hlt') ?_ eS
              · rw [hpre, g2 (Nat.le_refl _) hlt', o_bind, b1, o_bind, d1, o_bind]
              · rw [if_neg (show ¬ (0 : Int32) = 1 by decide), List.append_nil] at d3
                exact d3
            · have heq : winE (5, v0, s0, ofL l) w = l.length := by omega
              have hb2 : 2 ≤ (bV (5, v0, s0, ofL l)).length := by rw [bV_5]; simp
              have hcb : (if l = [] then (0 : Int32) else 1) = 0 ∨ (if l = [] then (0 : Int32) else 1) = 1 := by
                by_cases hn : l = []
                · rw [if_pos hn]; exact Or.inl rfl
                · rw [if_neg hn]; exact Or.inr rfl
              obtain ⟨S2, b1, b2, b3, b4⟩ := gap_start (S := S1) (f := q + (bV (5, v0, s0, ofL l)).length - 1) (to := Int32.ofNat (q + (bV (5, v0, s0, ofL l)).length - 1)) (cb := if l = [] then 0 else 1) (ch := 0) t7' t4' t8' (by omega) hcb hT1.1 hg1.1 hg1.2.1 hg1.2.2.2
              obtain ⟨S3, B3, d1, d2, d3, d4, d5⟩ := unulls_val (k := X.toNat - winN (5, v0, s0, ofL l) w) t7' kk b2
              refine grown S3 B3 _ _ _ _ _ _ hn0 ?_ (((frU_67 dr a2).trans b3).trans d4) d2 (by omega) (Or.inl rfl) (by rw [if_neg (show ¬ (0 : Int32) = 1 by decide)]; exact w2 heq) ?_ eS
              · rw [hpre, g3 (Nat.le_refl _) heq, o_bind, b1, o_bind, d1, o_bind]
              · rw [List.append_assoc] at d3
                have ec : (if (if l = [] then (0 : Int32) else 1) = 1 then [44] else []) = (if l = [] then [] else [(44 : Int32)]) := by
                  by_cases hn : l = []
                  · rw [if_pos hn, if_pos hn, if_neg (by decide)]
                  · rw [if_neg hn, if_neg hn, if_pos rfl]
                rw [ec] at d3
                exact d3
        · rw [if_neg ok] at eS
          refine refuse (S, 2) hn0 ?_ (show ¬ (2 : Int32) = 0 by decide) (frU.refl _ _) h2 eS
          rw [eG]
          by_cases c : X < 0
          · rw [if_pos ((lg_lt _ _).mpr (by rw [f2, z0]; exact c))]
          · rw [if_neg (by rw [lg_lt, f2, z0]; exact c), if_neg (by rw [lg_le, f2, z1]; omega)]
      have i3 : ¬ Int32.ofNat pi.1 = 3 := by rw [show (3 : Int32) = Int32.ofNat 3 from rfl, i_inj (by omega) (by omega)]; exact e3
      have eG : ∀ X, p_step S t1 (Int32.ofNat (ip false 1 lp j)) = some X → (X.2 ≠ 0 → u_goOn S t1 (Int32.ofNat (ip false 1 lp j)) = some (X.1, X.2)) ∧ (X.2 = 0 → p_nothing X.1 = some 0 → u_goOn S t1 (Int32.ofNat (ip false 1 lp j)) = some (X.1, X.2)) := by
        intro X hX
        unfold u_goOn
        rw [htk, o_bind, if_pos (show Int32.ofNat ((5, v0, s0, ofL l) : Vl).1 = 5 from rfl), hk, o_bind, if_neg i3, epl, o_bind, z2, o_bind, z3, o_bind, if_neg l00, if_pos l01, hX, o_bind]
        refine ⟨fun c => by rw [if_neg c], fun c d => by rw [if_pos c, d, o_bind, if_pos rfl]⟩
      by_cases e4 : pi.1 = 4
      · obtain ⟨x1, x2, x3, r, x4⟩ := str_at s1S e4
        obtain ⟨-, b2⟩ := byName_val hta2 hq.c x1 x3 x4
        have hb := b2 (show ¬ (5 : Nat) = 6 by decide)
        refine refuse (S, 1) hn0 ((eG (S, 1) (by rw [pstep4 s1S e4, hb, o_bind])).1 (show ¬ (1 : Int32) = 0 by decide)) (show ¬ (1 : Int32) = 0 by decide) (frU.refl _ _) h2 ?_
        show (if pi.1 = 6 then _ else if pi.1 = 4 then (if w.isSome then none else if (5 : Nat) = 6 then _ else if (5 : Nat) = 0 then _ else none) else _) = none
        rw [if_neg (by omega), if_pos e4]
        by_cases ew : w.isSome = true
        · rw [if_pos ew]
        · rw [if_neg ew, if_neg (show ¬ (5 : Nat) = 6 by decide), if_neg (show ¬ (5 : Nat) = 0 by decide)]
      by_cases e6 : pi.1 = 6
      · have eS : putS (pi :: ps) (5, v0, s0, ofL l) w vt = if @decide (okBd pi) (Classical.propDecidable _) = true then putS ps (5, v0, s0, ofL l) (some (nwA pi (winA (5, v0, s0, ofL l) w) (winE (5, v0, s0, ofL l) w), nwB pi (winA (5, v0, s0, ofL l) w) (winE (5, v0, s0, ofL l) w))) vt else none := by
          show (if pi.1 = 6 then (if _ then (if (5 : Nat) = 5 then _ else _) else _) else _) = _
          rw [if_pos e6, if_pos rfl]
        obtain ⟨b1, b2⟩ := partQ hta2 t5'.2.1 hq s1S e6
        by_cases ok : okBd pi
        · obtain ⟨S1, a1, a2, a3⟩ := b1 ⟨Or.inr rfl, ok.1, ok.2⟩
          rw [if_pos (@decide_eq_true _ (Classical.propDecidable _) ok)] at eS
          refine found S1 _ _ _ _ (fun u => u) hn0 ((eG (S1, 0) (by rw [pstep6 s1S e6, a1, o_bind])).2 rfl (nothQ a3)) a2 a3 (fun _ => rfl) hK ?_
          rw [eS]
          simp
        · have hb := b2 (fun c => ok ⟨c.2.1, c.2.2⟩)
          rw [if_neg (fun c => ok (@of_decide_eq_true _ (Classical.propDecidable _) c))] at eS
          exact refuse (S, 1) hn0 ((eG (S, 1) (by rw [pstep6 s1S e6, hb, o_bind])).1 (show ¬ (1 : Int32) = 0 by decide)) (show ¬ (1 : Int32) = 0 by decide) (frU.refl _ _) h2 eS
      refine refuse (S, 1) hn0 ((eG (S, 1) (pstepX s1S e3 e4 e6)).1 (show ¬ (1 : Int32) = 0 by decide)) (show ¬ (1 : Int32) = 0 by decide) (frU.refl _ _) h2 ?_
      show (if pi.1 = 6 then _ else if pi.1 = 4 then _ else if pi.1 = 3 then _ else none) = none
      rw [if_neg e6, if_neg e4, if_neg e3]
    have hwn : w = none := by
      cases w with
      | none => rfl
      | some ab => exact absurd (hw rfl) e5
    subst hwn
    by_cases e6t : t.1 = 6
    · obtain ⟨kt, v0, s0, ft⟩ := t
      obtain ⟨l, rfl⟩ : ∃ l, ft = ofL l := ⟨toL ft, (ofL_toL ft).symm⟩
      have e6t : kt = 6 := e6t
      subst e6t
      obtain ⟨z2, z3, z4, z5⟩ := sizeQ t4'.1 (Or.inr rfl) hq
      have hsz : winE (6, v0, s0, ofL l) none = l.length := by
        have : size (6, v0, s0, ofL l) = l.length := congrArg List.length (toL_ofL l)
        show 0 + size (6, v0, s0, ofL l) = _
        omega
      rw [hsz] at z3
      have eb : ((6 : Nat) == 6) = true := rfl
      have eG : ∀ X, p_step S t1 (Int32.ofNat (ip false 1 lp j)) = some X → (X.2 ≠ 0 → u_goOn S t1 (Int32.ofNat (ip false 1 lp j)) = some (X.1, X.2)) ∧ (X.2 = 0 → p_nothing X.1 = some 0 → u_goOn S t1 (Int32.ofNat (ip false 1 lp j)) = some (X.1, X.2)) ∧ (X.2 = 0 → p_nothing X.1 = some 1 → u_goOn S t1 (Int32.ofNat (ip false 1 lp j)) = ((g_items X.1 70 ((rd X.1 69 4).toNatClampNeg) (Int32.ofNat q) (Int32.ofNat l.length) (Int32.ofNat l.length)).bind fun r66 => ((u_start r66).bind fun r68 => ((u_name r68 t1 (Int32.ofNat (ip false 1 lp j))).bind fun r70 => some (r70, 0))))) := by
        intro X hX
        unfold u_goOn
        rw [htk, o_bind, if_neg (show ¬ Int32.ofNat ((6, v0, s0, ofL l) : Vl).1 = 5 from show ¬ Int32.ofNat 6 = 5 by decide), if_pos (show Int32.ofNat ((6, v0, s0, ofL l) : Vl).1 = 6 from rfl), epl, o_bind, z2, o_bind, z3, o_bind, if_neg l00, if_pos l01, hX, o_bind]
        refine ⟨fun c => by rw [if_neg c], fun c d => by rw [if_pos c, d, o_bind, if_pos rfl], fun c d => by rw [if_pos c, d, o_bind, if_neg (by decide)]⟩
      by_cases e4 : pi.1 = 4
      · obtain ⟨x1, x2, x3, r, x4⟩ := str_at s1S e4
        have eS : putS (pi :: ps) (6, v0, s0, ofL l) none vt = (putS ps ((byN (6, v0, s0, ofL l) pi.2.2.1).getD vNull) none vt).map (fun u => (6, v0, s0, ofL (setM l pi.2.2.1 u))) := by
          show (if pi.1 = 6 then _ else if pi.1 = 4 then (if (none : Option (Nat × Nat)).isSome = true then none else if (6 : Nat) = 6 then _ else _) else _) = _
          rw [if_neg (by omega), if_pos e4, if_neg (by decide), if_pos rfl]
          simp only [toL_ofL]
        obtain ⟨b1, b2⟩ := nameQ hta2 hq x1 x3 x4
        by_cases hj' : l.findIdx (fun m => m.1 == pi.2.2.1) < l.length
        · obtain ⟨S1, a1, a2, a3⟩ := b1 hj'
          have eN : (byN (6, v0, s0, ofL l) pi.2.2.1).getD vNull = (l[l.findIdx (fun m => m.1 == pi.2.2.1)]).2 := by
            unfold byN
            simp only [toL_ofL]
            rw [dif_pos hj']
            rfl
          rw [eN] at eS
          refine found S1 _ _ _ none (fun u => (6, v0, s0, ofL (setM l pi.2.2.1 u))) hn0 ((eG (S1, 0) (by rw [pstep4 s1S e4, a1, o_bind])).2.1 rfl (nothQ a3)) a2 a3 (fun c => by cases c) ?_ eS
          have := hK.memb q2u hj'
          simp only [setM_in _ hj']
          exact this
        · obtain ⟨S1, a1, a2, a3⟩ := b2 hj'
          have eN : (byN (6, v0, s0, ofL l) pi.2.2.1).getD vNull = vNull := by
            unfold byN
            simp only [toL_ofL]
            rw [dif_neg hj']
            rfl
          rw [eN] at eS
          have hnot : ∀ x ∈ l, x.1 ≠ pi.2.2.1 := fun x hx c => hj' (List.findIdx_lt_length_of_exists ⟨x, hx, by rw [c]; exact beq_self_eq_true _⟩)
          have eM : ∀ u, setM l pi.2.2.1 u = l ++ [(pi.2.2.1, u)] := fun u => by unfold setM; rw [if_neg hj']
          have hT1 := hT.fr (frU_67 dr a2)
          have hg1 := hg.fr t7' a2
          have e4ta : (rd S1 69 4).toNatClampNeg = ta := hg1.1.ta t4'.1
          have q2s : vat (tT S1 ta) q (6, v0, s0, ofL l) := by rw [hT1.1]; exact q2u
          obtain ⟨-, -, g3⟩ := gitems_val (g := 70) (lo := l.length) (hi := l.length) (Or.inr rfl) hg1.2.2.1 q2s (Nat.le_refl _) (Nat.le_refl _)
          have hb2 : 2 ≤ (bV (6, v0, s0, ofL l)).length := by rw [bV_6]; simp
          have hcb : (if l = [] then (0 : Int32) else 1) = 0 ∨ (if l = [] then (0 : Int32) else 1) = 1 := by
            by_cases hn : l = []
            · rw [if_pos hn]; exact Or.inl rfl
            · rw [if_neg hn]; exact Or.inr rfl
          obtain ⟨S2, b1, b2, b3, b4⟩ := gap_start (S := S1) (f := q + (bV (6, v0, s0, ofL l)).length - 1) (to := Int32.ofNat (q + (bV (6, v0, s0, ofL l)).length - 1)) (cb := if l = [] then 0 else 1) (ch := 0) t7' t4' t8' (by omega) hcb hT1.1 hg1.1 hg1.2.1 hg1.2.2.2
          have hT2 := hT1.fr b3
          obtain ⟨S3, d1, d2, d3, d4⟩ := uname_val (t1 := t1) (q2 := ip false 1 lp j) t7' b2 t9' (by rw [hT2.2.1]; exact s1) e4
          have ec : (if (if l = [] then (0 : Int32) else 1) = 1 then [44] else []) = (if l = [] then [] else [(44 : Int32)]) := by
            by_cases hn : l = []
            · rw [if_pos hn, if_pos hn, if_neg (by decide)]
            · rw [if_neg hn, if_neg hn, if_pos rfl]
          rw [ec, List.append_assoc] at d2
          refine grown S3 _ _ _ _ _ _ (fun u => (6, v0, s0, ofL (setM l pi.2.2.1 u))) hn0 ?_ (((frU_67 dr a2).trans b3).trans d3) d2 (by omega) (Or.inl rfl) ?_ (eqT.refl _) eS
          · rw [(eG (S1, 0) (by rw [pstep4 s1S e4, a1, o_bind])).2.2 rfl (nothN a3), e4ta, g3 (Nat.le_refl _) rfl, o_bind, b1, o_bind, d1, o_bind]
          · rw [if_neg (show ¬ (0 : Int32) = 1 by decide)]
            simp only [eM]
            exact hK.newName q2u x3 hnot
      by_cases e3 : pi.1 = 3
      · obtain ⟨-, b2⟩ := byPlace_val hta2 hq.c (s1.2.2.1.2.1 e3)
        have hb := b2 (show ¬ (6 : Nat) = 5 by decide)
        refine refuse (S, 1) hn0 ((eG (S, 1) (by rw [pstep3 s1S e3, hb, o_bind])).1 (show ¬ (1 : Int32) = 0 by decide)) (show ¬ (1 : Int32) = 0 by decide) (frU.refl _ _) h2 ?_
        show (if pi.1 = 6 then _ else if pi.1 = 4 then _ else if pi.1 = 3 then (if (6 : Nat) = 5 then _ else if (6 : Nat) = 0 then _ else none) else none) = none
        rw [if_neg (by omega), if_neg e4, if_pos e3, if_neg (by decide), if_neg (by decide)]
      by_cases e6 : pi.1 = 6
      · obtain ⟨-, b2⟩ := partQ hta2 t5'.2.1 hq s1S e6
        have hb := b2 (fun c => by rcases c.1 with c | c; exact absurd c (show ¬ (6 : Nat) = 4 by decide); exact absurd c (show ¬ (6 : Nat) = 5 by decide))
        refine refuse (S, 1) hn0 ((eG (S, 1) (by rw [pstep6 s1S e6, hb, o_bind])).1 (show ¬ (1 : Int32) = 0 by decide)) (show ¬ (1 : Int32) = 0 by decide) (frU.refl _ _) h2 ?_
        show (if pi.1 = 6 then (if _ then (if (6 : Nat) = 5 then _ else if (6 : Nat) = 0 then _ else none) else none) else _) = none
        rw [if_pos e6, if_neg (show ¬ (6 : Nat) = 5 by decide), if_neg (show ¬ (6 : Nat) = 0 by decide)]
        split <;> rfl
      refine refuse (S, 1) hn0 ((eG (S, 1) (pstepX s1S e3 e4 e6)).1 (show ¬ (1 : Int32) = 0 by decide)) (show ¬ (1 : Int32) = 0 by decide) (frU.refl _ _) h2 ?_
      show (if pi.1 = 6 then _ else if pi.1 = 4 then _ else if pi.1 = 3 then _ else none) = none
      rw [if_neg e6, if_neg e4, if_neg e3]
    · refine refuse (S, 1) hn0 ?_ (show ¬ (1 : Int32) = 0 by decide) (frU.refl _ _) h2 ?_
      · unfold u_goOn
        rw [htk, o_bind, if_neg (by rw [show (5 : Int32) = Int32.ofNat 5 from rfl, i_inj (by omega) (by omega)]; exact e5), if_neg (by rw [show (6 : Int32) = Int32.ofNat 6 from rfl, i_inj (by omega) (by omega)]; exact e6t)]
      · unfold putS
        rw [if_neg e5, if_neg e0, if_neg e6t, if_neg e0, if_neg e5, if_neg e0]
        simp
/-- the class's set, up to the draft -/
theorem uput_val {S : SS} {ta t1 t2 dr : Nat} {t pt vt : Vl} (hta : nU ta) (ht1 : nU t1) (ht2 : nU t2) (hd : nU dr) (n1 : ta ≠ dr) (n2 : t1 ≠ dr) (n3 : t2 ≠ dr) (ha : tT S ta = bV t) (hva : vat (bV t) 0 t) (hpt : vat (tT S t1) 0 pt) (h2 : tT S t2 = bV vt) (hv : vat (bV vt) 0 vt) (l67 : (S 67).length = 6) (l69 : (S 69).length = 9) (l70 : (S 70).length = 4) (l71 : (S 71).length = 100) : ∃ S' e, u_put S ta t1 t2 dr = some (S', e) ∧ frU S S' dr ∧ (S' 71).length = 100 ∧ (e = 0 → pt.1 = 5 ∧ (toL pt.2.2.2).length ≤ 100 ∧ ∃ U, putS ((toL pt.2.2.2).map fun m => m.2) t none vt = some U ∧ wV U ∧ ∃ Bf, S' dr = pv Bf ∧ eqT Bf (bV U)) ∧ (e ≠ 0 → pt.1 = 5 → (toL pt.2.2.2).length ≤ 100 → putS ((toL pt.2.2.2).map fun m => m.2) t none vt = none) := by
  have k6 := hpt.2.2.1.1
  unfold u_put
  rw [show (0 : Int32) = Int32.ofNat 0 from rfl, hpt.kind, o_bind]
  by_cases e5 : pt.1 = 5
  · obtain ⟨kp, vp, sp, fp⟩ := pt
    obtain ⟨lp, rfl⟩ : ∃ l, fp = ofL l := ⟨toL fp, (ofL_toL fp).symm⟩
    have e5 : kp = 5 := e5
    subst e5
    obtain ⟨i1, i2⟩ := hpt.items (Or.inl rfl)
    rw [if_pos (show Int32.ofNat ((5, vp, sp, ofL lp) : Vl).1 = 5 from rfl), i1, o_bind]
    have etl : toL ((5, vp, sp, ofL lp) : Vl).2.2.2 = lp := toL_ofL lp
    rw [etl]
    by_cases hl : lp.length ≤ 100
    · rw [if_pos (by rw [show (100 : Int32) = Int32.ofNat 100 from rfl, i_le' (by omega) (by omega)]; exact hl)]
      -- begin
      obtain ⟨x0, x1, x2, x3, x4, x5, x6, x7, x8, h69⟩ : ∃ a b c d e f g h i, S 69 = [a, b, c, d, e, f, g, h, i] := by
        match hS : S 69, l69 with
        | [a, b, c, d, e, f, g, h, i], _ => exact ⟨a, b, c, d, e, f, g, h, i, rfl⟩
      obtain ⟨y0, y1, y2, y3, y4, y5, h67⟩ : ∃ a b c d e f, S 67 = [a, b, c, d, e, f] := by
        match hS : S 67, l67 with
        | [a, b, c, d, e, f], _ => exact ⟨a, b, c, d, e, f, rfl⟩
      obtain ⟨R, hR1, hR2, hR3, hR67, hR4, hR5, hR6⟩ : ∃ R, u_begin S ta dr = some R ∧ frU S R dr ∧ pu R ta dr 0 0 0 0 ∧ R 67 = [Int32.ofNat ta, 0, 0, 0, y4, y5] ∧ R dr = pv [] ∧ R 70 = S 70 ∧ R 71 = S 71 := by
        unfold u_begin p_start
        have a1 : wr (wr S 69 4 (Int32.ofNat ta)) 69 5 (Int32.ofNat dr) = up S 69 [x0, x1, x2, x3, Int32.ofNat ta, Int32.ofNat dr, x6, x7, x8] := by rw [wr_eq h69, wr_up]; rfl
        have a2 : (rd (up S 69 [x0, x1, x2, x3, Int32.ofNat ta, Int32.ofNat dr, x6, x7, x8]) 69 5).toNatClampNeg = dr := by unfold rd; rw [up_same]; exact i_cl (by have := hd.1; omega)
        rw [a1, a2, o_bind]
        refine ⟨_, rfl, fun a m1 m2 m3 m4 m5 => ?_, ?_, ?_, ?_, ?_, ?_⟩
        · rw [wr_ne m2, wr_ne m2, wr_ne m2, wr_ne m2, wr_ne m1, wr_ne m1, wr_ne m1, wr_ne m1, up_ne m5, up_ne m2]
        · refine ⟨x0, x1, x2, ?_⟩
          have b1 : (wr (wr (wr (wr (up (up S 69 [x0, x1, x2, x3, Int32.ofNat ta, Int32.ofNat dr, x6, x7, x8]) dr [0]) 67 0 (Int32.ofNat ta)) 67 1 0) 67 2 0) 67 3 0) 69 = [x0, x1, x2, x3, Int32.ofNat ta, Int32.ofNat dr, x6, x7, x8] := by
            rw [wr_ne (by decide), wr_ne (by decide), wr_ne (by decide), wr_ne (by decide), up_ne (fun e => hd.2.2.1 e.symm), up_same]
          rw [wr_eq b1, wr_up, wr_up, wr_up, up_same]
          rfl
        · have b1 : (up (up S 69 [x0, x1, x2, x3, Int32.ofNat ta, Int32.ofNat dr, x6, x7, x8]) dr [0]) 67 = [y0, y1, y2, y3, y4, y5] := by
            rw [up_ne (fun e => hd.2.1 e.symm), up_ne (by decide)]; exact h67
          rw [wr_ne (by decide), wr_ne (by decide), wr_ne (by decide), wr_ne (by decide), wr_eq b1, wr_up, wr_up, wr_up, up_same]
          rfl
        · rw [wr_ne hd.2.2.1, wr_ne hd.2.2.1, wr_ne hd.2.2.1, wr_ne hd.2.2.1, wr_ne hd.2.1, wr_ne hd.2.1, wr_ne hd.2.1, wr_ne hd.2.1, up_same]
          rfl
        · rw [wr_ne (by decide), wr_ne (by decide), wr_ne (by decide), wr_ne (by decide), wr_ne (by decide), wr_ne (by decide), wr_ne (by decide), wr_ne (by decide), up_ne (fun e => hd.2.2.2.1 e.symm), up_ne (by decide)]
        · rw [wr_ne (by decide), wr_ne (by decide), wr_ne (by decide), wr_ne (by decide), wr_ne (by decide), wr_ne (by decide), wr_ne (by decide), wr_ne (by decide), up_ne (fun e => hd.2.2.2.2 e.symm), up_ne (by decide)]
      have hT : txU S ta t1 t2 dr (bV t) (tT S t1) (bV vt) := ⟨ha, rfl, h2, hta, ht1, ht2, hd, n1, n2, n3⟩
      have hTR := hT.fr hR2
      have hgR : goS R ta dr := ⟨hR3, by rw [hR6]; exact l71, by rw [hR5]; exact l70, hR4⟩
      have hqR : spQ R ta 0 0 t none := by
        refine ⟨y4, y5, ?_, by rw [hTR.1]; exact hva, (fun _ _ e => by cases e), (fun _ _ e => by cases e)⟩
        · exact hR67
      obtain ⟨S', e, j1, j2, j3, j4, j5⟩ := putA hpt hl hv hva.1 lp.length 0 10000 R 0 0 t none (fun u => u) (by omega) (by omega) hTR hgR hqR (fun c => by cases c) (ctx_root t)
      rw [List.drop_zero] at j4 j5
      refine ⟨S', e, ?_, hR2.trans j2, j3, fun he => ⟨rfl, hl, j4 he⟩, fun he _ _ => j5 he⟩
      rw [hR1, o_bind, hTR.2.1, hpt.first (Or.inl rfl), o_bind, ← j1, ip_0]
      congr 1
      by_cases hn : lp = []
      · rw [if_pos hn, if_pos (by rw [hn]; rfl)]
      · rw [if_neg hn, if_neg (by intro c; exact hn (List.eq_nil_of_length_eq_zero c))]
    · rw [if_neg (by rw [show (100 : Int32) = Int32.ofNat 100 from rfl, i_le' (by omega) (by omega)]; exact hl)]
      exact ⟨S, 2, rfl, frU.refl _ _, l71, fun c => absurd c (by decide), fun _ _ c => absurd c hl⟩
  · rw [if_neg (by rw [show (5 : Int32) = Int32.ofNat 5 from rfl, i_inj (by omega) (by omega)]; exact e5)]
    exact ⟨S, 1, rfl, frU.refl _ _, l71, fun c => absurd c (by decide), fun _ c => absurd c e5⟩
end PutA160
end

section
/-! The reference puts a value at the end of a path: its tools. -/
section RPut161
theorem osimple {S : SS} {C : List Int32} (h : OutV S C) (k : Int32) : ∃ S', q_simple S k = some S' ∧ OutV S' (C ++ [k, 2]) ∧ frO S S' := by
  obtain ⟨S1, at_, e1, o1, f1, a1⟩ := oopen h k
  obtain ⟨S2, e2, o2, f2⟩ := oclose (C := C) (body := []) (k := k) o1 a1
  unfold q_simple
  rw [e1, o_bind, e2, o_bind]
  exact ⟨S2, rfl, o2, f1.trans f2⟩
/-- what a call of put leaves -/
def fr3 (S S' : SS) : Prop := (∀ a, a ≠ 78 → a ≠ 90 → a ≠ 91 → S' a = S a) ∧ (∀ k, k ≠ 12 → k ≠ 17 → k ≠ 18 → rd S' 78 k = rd S 78 k) ∧ (S' 78).length = (S 78).length
theorem fr3.refl (S : SS) : fr3 S S := ⟨fun _ _ _ _ => rfl, fun _ _ _ _ => rfl, rfl⟩
theorem fr3.trans {S S1 S2 : SS} (a : fr3 S S1) (b : fr3 S1 S2) : fr3 S S2 := ⟨fun x h1 h2 h3 => (b.1 x h1 h2 h3).trans (a.1 x h1 h2 h3), fun k h1 h2 h3 => (b.2.1 k h1 h2 h3).trans (a.2.1 k h1 h2 h3), b.2.2.trans a.2.2⟩
theorem fr3_O {S S' : SS} (h : frO S S') : fr3 S S' := ⟨fun a _ h2 h3 => h a h2 h3, fun k _ _ _ => by unfold rd; rw [h 78 (by decide) (by decide)], by rw [h 78 (by decide) (by decide)]⟩
theorem fr3_N {S S' : SS} (h : frN S S') : fr3 S S' := ⟨fun a h1 _ _ => h.1 a h1, fun k _ h2 h3 => h.2.1 k h2 h3, h.2.2⟩
theorem frO_12 {S S' : SS} (h : frO S S') (k : Nat) : rd S' 78 k = rd S 78 k := by unfold rd; rw [h 78 (by decide) (by decide)]
/-- what stands there for put: the path, the value -/
def prP (S : SS) (aa pb vb : Nat) (pt vt : Vl) : Prop := rd S 78 19 = Int32.ofNat pb ∧ rd S 78 20 = Int32.ofNat vb ∧ cat (S pb) 0 pt ∧ cat (S vb) 0 vt ∧ S 39 = mp_aS ∧ S 40 = mp_aE ∧ (S 78).length = 22 ∧ (82 ≤ aa ∧ aa ≤ 89) ∧ (82 ≤ pb ∧ pb ≤ 89) ∧ (82 ≤ vb ∧ vb ≤ 89)
theorem prP.fr {S S' : SS} {aa pb vb : Nat} {pt vt : Vl} (h : prP S aa pb vb pt vt) (hf : fr3 S S') : prP S' aa pb vb pt vt := by
  obtain ⟨h1, h2, h3, h4, h5, h6, h7, h8, h9, h10⟩ := h
  exact ⟨by rw [hf.2.1 19 (by decide) (by decide) (by decide)]; exact h1, by rw [hf.2.1 20 (by decide) (by decide) (by decide)]; exact h2, by rw [hf.1 pb (by omega) (by omega) (by omega)]; exact h3, by rw [hf.1 vb (by omega) (by omega) (by omega)]; exact h4, by rw [hf.1 39 (by decide) (by decide) (by decide)]; exact h5, by rw [hf.1 40 (by decide) (by decide) (by decide)]; exact h6, by rw [hf.2.2]; exact h7, h8, h9, h10⟩
theorem prP.p {S : SS} {aa pb vb : Nat} {pt vt : Vl} (h : prP S aa pb vb pt vt) : ¬ rd S 78 19 = 0 ∧ (rd S 78 19).toNatClampNeg = pb ∧ ¬ rd S 78 20 = 0 ∧ (rd S 78 20).toNatClampNeg = vb := by
  obtain ⟨h1, h2, h3, h4, h5, h6, h7, h8, h9, h10⟩ := h
  rw [h1, h2, show (0 : Int32) = Int32.ofNat 0 from rfl, i_inj (by omega) (by omega), i_inj (by omega) (by omega), i_cl (by omega), i_cl (by omega)]
  exact ⟨by omega, rfl, by omega, rfl⟩
/-- the rest of the path at i -/
def atP (S : SS) (pb i N : Nat) (ls : List Mb) : Prop := okL ls ∧ iget (S pb) 1 = some (Int32.ofNat N) ∧ N ≤ 9000 ∧ i + (blks false ls).flatten.length = N ∧ ∃ r, (S pb).drop i = (blks false ls).flatten ++ r
theorem atP.fr {S S' : SS} {pb i N : Nat} {ls : List Mb} (h : atP S pb i N ls) (hb : 82 ≤ pb ∧ pb ≤ 89) (hf : fr3 S S') : atP S' pb i N ls := by
  unfold atP
  rw [hf.1 pb (by omega) (by omega) (by omega)]
  exact h
theorem atP.cons {S : SS} {pb i N : Nat} {m : Mb} {ls : List Mb} (h : atP S pb i N (m :: ls)) (hl : (S pb).length ≤ 9000) : i < N ∧ cat (S pb) i m.2 ∧ r_next (S pb) (Int32.ofNat i) = some (Int32.ofNat (i + (cV m.2).length)) ∧ atP S pb (i + (cV m.2).length) N ls := by
  obtain ⟨h1, h2, h3, h4, r, h5⟩ := h
  have eb : blks false (m :: ls) = cV m.2 :: blks false ls := rfl
  rw [eb] at h4 h5
  have hh : ∀ z ∈ cV m.2 :: blks false ls, hdd z := by rw [← eb]; exact blks_h h1
  obtain ⟨s1, s2, s3, s4⟩ := blk_step hl hh h5
  rw [List.flatten_cons, List.length_append] at h4
  rw [List.flatten_cons, List.append_assoc] at h5
  exact ⟨by omega, ⟨hl, (h1 m List.mem_cons_self).2, _, h5⟩, s1, h1.tail, h2, h3, by omega, r, s2⟩
/-- what a call of put answers -/
def rpO (S S' : SS) (C : List Int32) (o : Option Vl) (dp : Nat) : Prop := fr3 S S' ∧ ∃ C', OutV S' (C ++ C') ∧ (∀ T, o = some T → rd S' 78 12 = 0 ∧ wV T ∧ (C' = cV T ∨ (9000 < C'.length ∧ 64 < dp + dV T))) ∧ (o = none → ¬ rd S' 78 12 ≤ 0)
theorem rref {S : SS} {C : List Int32} {v : Int32} {dp : Nat} (h78 : (S 78).length = 22) (ho : OutV S C) (hv : ¬ v ≤ 0) (hr : rd S 78 12 = 0) : ∃ S', ((b_refuse S v).bind fun r => some r) = some S' ∧ rpO S S' C none dp := by
  refine ⟨wr S 78 12 v, by unfold b_refuse; rw [hr, if_pos rfl, o_bind], ⟨fun a h1 _ _ => wr_ne h1, fun k h1 _ _ => rd_wr_j (fun e => h1 e.symm), wr_len⟩, [], ?_, fun T hT => (by cases hT), fun _ => by rw [rd_wr (by rw [h78]; decide)]; exact hv⟩
  rw [List.append_nil]
  unfold OutV rd at ho ⊢
  rw [wr_ne (by decide), wr_ne (by decide)]
  exact ho
/-- the target: nothing, or a value -/
def tgt (S : SS) (aa : Nat) (p0 : Int32) (t : Vl) : Prop := (p0 = -1 ∧ t = vNull) ∨ ∃ p, p0 = Int32.ofNat p ∧ p < 9000 ∧ cat (S aa) p t
theorem cV_5 (v : Int) (s : List Int32) (l : List Mb) : cV (5, v, s, ofL l) = 5 :: Int32.ofNat ((blks false l).flatten.length + 2) :: (blks false l).flatten := by
  unfold cV cval
  simp only
  rw [blks_flat]
  rfl
theorem cV_6 (v : Int) (s : List Int32) (l : List Mb) : cV (6, v, s, ofL l) = 6 :: Int32.ofNat ((blks true l).flatten.length + 2) :: (blks true l).flatten := by
  unfold cV cval
  simp only
  rw [blks_flat]
  rfl
theorem blks_app (b : Bool) (A B : List Mb) : blks b (A ++ B) = blks b A ++ blks b B := by unfold blks; rw [List.flatMap_append]
theorem blks_m (m : Mb) (l : List Mb) : (blks true (m :: l)).flatten = cstr m.1 ++ (cV m.2 ++ (blks true l).flatten) ∧ (blks false (m :: l)).flatten = cV m.2 ++ (blks false l).flatten := by
  have e1 : blks true (m :: l) = cstr m.1 :: cV m.2 :: blks true l := rfl
  have e2 : blks false (m :: l) = cV m.2 :: blks false l := rfl
  rw [e1, e2]
  simp
/-- the box around a child -/
theorem rbox {S S' : SS} {C A Z C' : List Int32} {k : Nat} {v : Int} {s : List Int32} {L : Vl → List Mb} {o : Option Vl} {dp : Nat} (hk : k = 5 ∨ k = 6) (hf : fr3 S S') (ho : OutV S' (C ++ (Int32.ofNat k :: Int32.ofNat ((A ++ (C' ++ Z)).length + 2) :: (A ++ (C' ++ Z))))) (h1 : ∀ U, o = some U → rd S' 78 12 = 0 ∧ wV U ∧ (C' = cV U ∨ (9000 < C'.length ∧ 64 < dp + 1 + dV U))) (h2 : o = none → ¬ rd S' 78 12 ≤ 0) (hL : ∀ U, wV U → wV (k, v, s, ofL (L U)) ∧ (∃ m ∈ L U, m.2 = U) ∧ (blks (k == 6) (L U)).flatten = A ++ (cV U ++ Z)) : rpO S S' C (o.map fun u => (k, v, s, ofL (L u))) dp := by
  refine ⟨hf, _, ho, fun T hT => ?_, fun hn => ?_⟩
  · cases o with
    | none => cases hT
    | some U =>
      cases hT
      obtain ⟨a1, a2, a3⟩ := h1 U rfl
      obtain ⟨b1, ⟨m, hm, hmU⟩, b3⟩ := hL U a2
      refine ⟨a1, b1, ?_⟩
      rcases a3 with c | ⟨c1, c2⟩
      · left
        rw [c]
        rcases hk with rfl | rfl
        · have b3 : (blks false (L U)).flatten = A ++ (cV U ++ Z) := b3
          show _ = cV (5, v, s, ofL (L U))
          rw [cV_5, b3]
          rfl
        · have b3 : (blks true (L U)).flatten = A ++ (cV U ++ Z) := b3
          show _ = cV (6, v, s, ofL (L U))
          rw [cV_6, b3]
          rfl
      · right
        refine ⟨?_, ?_⟩
        · simp only [List.length_cons, List.length_append]
          omega
        · have := dV_kid (k := k) (v := v) (s := s) hk hm
          rw [hmU] at this
          show 64 < dp + dV (k, v, s, ofL (L U))
          omega
  · cases o with
    | none => exact h2 rfl
    | some U => cases hn
end RPut161
end
