/-! The class goes along what is there, and puts the value. -/
section PutA159
theorem gspan_val {S : SS} {g : Nat} (h : (S g).length = 4) (x y : Int32) : g_span S g x y = some (up S g [x, y, 0, 0]) := by
  obtain ⟨a, b, c, d, e⟩ : ∃ a b c d, S g = [a, b, c, d] := by
    match hS : S g, h with
    | [a, b, c, d], _ => exact ⟨a, b, c, d, rfl⟩
  unfold g_span
  rw [wr_eq e, wr_up, wr_up, wr_up]
  rfl
theorem gitems_val {S : SS} {g ta q k : Nat} {v : Int} {s : List Int32} {l : List Mb} {lo hi : Nat} (hk : k = 5 ∨ k = 6) (hg : (S g).length = 4) (h : vat (tT S ta) q (k, v, s, ofL l)) (hlo : lo ≤ l.length) (hhi : hi ≤ l.length) : (∀ hl : lo < hi, g_items S g ta (Int32.ofNat q) (Int32.ofNat lo) (Int32.ofNat hi) = some (up S g [Int32.ofNat (ip (k == 6) (q + 1) l lo), Int32.ofNat (ip (k == 6) (q + 1) l (hi - 1) + (bM (k == 6) (l[hi - 1]'(by omega))).length), 0, 0])) ∧ (hi ≤ lo → lo < l.length → g_items S g ta (Int32.ofNat q) (Int32.ofNat lo) (Int32.ofNat hi) = some (up S g [Int32.ofNat (ip (k == 6) (q + 1) l lo), Int32.ofNat (ip (k == 6) (q + 1) l lo), 0, 1])) ∧ (hi ≤ lo → lo = l.length → g_items S g ta (Int32.ofNat q) (Int32.ofNat lo) (Int32.ofNat hi) = some (up S g [Int32.ofNat (q + (bV (k, v, s, ofL l)).length - 1), Int32.ofNat (q + (bV (k, v, s, ofL l)).length - 1), (if l = [] then 0 else 1), 0])) := by
  obtain ⟨i1, i2⟩ := h.items hk
  have hlt := h.lt
  have h4 := h.1
  have hbb := bV_box (v := v) (s := s) (l := l) hk
  unfold g_items
  rw [i1, o_bind]
  refine ⟨fun hl => ?_, fun h1 h2 => ?_, fun h1 h2 => ?_⟩
  · obtain ⟨a1, -, -⟩ := h.item hk (j := lo) (by omega)
    obtain ⟨b1, ⟨z, r, hz, b2⟩, b3⟩ := h.item hk (j := hi - 1) (by omega)
    rw [List.drop_eq_getElem_cons (show hi - 1 < l.length by omega)] at b2
    obtain ⟨n1, n2, n3, n4⟩ := nx h.1 h.2.1 (h.2.2.1.kids _ (List.getElem_mem (show hi - 1 < l.length by omega))) hz b2
    rw [if_neg (by rw [i_le' (by omega) (by omega)]; omega), a1, o_bind, show (1 : Int32) = Int32.ofNat 1 from rfl, i_subN (by omega) (by omega), b1, o_bind, n2, o_bind, gspan_val hg, o_bind]
  · obtain ⟨a1, -, -⟩ := h.item hk (j := lo) (by omega)
    rw [if_pos ((i_le' (by omega) (by omega)).mpr h1), if_neg (by rw [i_le' (by omega) (by omega)]; omega), a1, o_bind, gspan_val hg, o_bind, wr_up]
    rfl
  · rw [if_pos ((i_le' (by omega) (by omega)).mpr h1), if_pos ((i_le' (by omega) (by omega)).mpr (by omega)), h.past, o_bind, show (1 : Int32) = Int32.ofNat 1 from rfl, i_subN (by omega) (by omega), gspan_val hg, o_bind]
    by_cases hn : l = []
    · subst hn
      rw [if_pos (by decide), if_pos rfl, wr_up]
      rfl
    · have : l.length ≠ 0 := fun e => hn (List.eq_nil_of_length_eq_zero e)
      rw [if_neg (by rw [show (0 : Int32) = Int32.ofNat 0 from rfl, i_le' (by omega) (by omega)]; omega), if_neg hn, wr_up]
      rfl
theorem closeUp_val {S : SS} {g ta f e : Nat} {us : List Int32} {c1 c2 : Int32} (hga : g ≠ ta) (hS : S g = [Int32.ofNat f, Int32.ofNat e, c1, c2]) (ht : tT S ta = us) (hf : f ≤ 4096) (he : e ≤ 4096) (hf0 : 0 < f) : g_closeUp S g ta = some (up S g (if e ≤ f then [Int32.ofNat f, Int32.ofNat e, 0, 0] else if tat us (Int32.ofNat e) = 44 then [Int32.ofNat f, Int32.ofNat (e + 1), 0, 0] else if tat us (Int32.ofNat (f - 1)) = 44 then [Int32.ofNat (f - 1), Int32.ofNat e, 0, 0] else [Int32.ofNat f, Int32.ofNat e, 0, 0])) := by
  have e1 : wr (wr S g 2 0) g 3 0 = up S g [Int32.ofNat f, Int32.ofNat e, 0, 0] := by rw [wr_eq hS, wr_up]; rfl
  have r0 : rd (up S g [Int32.ofNat f, Int32.ofNat e, 0, 0]) g 0 = Int32.ofNat f := by unfold rd; rw [up_same]; rfl
  have r1 : rd (up S g [Int32.ofNat f, Int32.ofNat e, 0, 0]) g 1 = Int32.ofNat e := by unfold rd; rw [up_same]; rfl
  have tt : tT (up S g [Int32.ofNat f, Int32.ofNat e, 0, 0]) ta = us := by unfold tT at *; rw [up_ne (fun c => hga c.symm)]; exact ht
  unfold g_closeUp
  rw [e1, r0, r1, tt]
  by_cases h1 : e ≤ f
  · rw [if_pos ((i_le' (by omega) (by omega)).mpr h1), if_pos h1]
  · rw [if_neg (by rw [i_le' (by omega) (by omega)]; exact h1), if_neg h1, show (1 : Int32) = Int32.ofNat 1 from rfl, i_subN (by omega) (by omega)]
    by_cases h2 : tat us (Int32.ofNat e) = 44
    · rw [if_pos h2, if_pos h2, wr_up, ← Int32.ofNat_add]
      rfl
    · rw [if_neg h2, if_neg h2]
      by_cases h3 : tat us (Int32.ofNat (f - 1)) = 44
      · rw [if_pos h3, if_pos h3, wr_up]
        rfl
      · rw [if_neg h3, if_neg h3]
/-- the Putter goes along: nothing is written yet -/
def goS (S : SS) (ta dr : Nat) : Prop := pu S ta dr 0 0 0 0 ∧ (S 71).length = 100 ∧ (S 70).length = 4 ∧ S dr = pv []
theorem goS.fr {S S' : SS} {ta dr : Nat} (hd : nU dr) (h : goS S ta dr) (hf : fr67 S S') : goS S' ta dr := by
  obtain ⟨h1, h2, h3, h4⟩ := h
  unfold goS pu
  rw [hf 69 (by decide), hf 71 (by decide), hf 70 (by decide), hf dr hd.2.1]
  exact ⟨h1, h2, h3, h4⟩
/-- from a gap on -/
theorem gap_start {S : SS} {ta dr f : Nat} {bp : Int32} {us : List Int32} {to cb ch : Int32} (hd : nU dr) (hta : nU ta) (htd : ta ≠ dr) (hf : f ≤ 4096) (hcb : cb = 0 ∨ cb = 1) (ht : tT S ta = us) (h1 : pu S ta dr 0 0 bp 0) (h2 : (S 71).length = 100) (h4 : S dr = pv []) : ∃ S', u_start (up S 70 [Int32.ofNat f, to, cb, ch]) = some S' ∧ wrS S' ta dr bp 0 [] (us.take f ++ (if cb = 1 then [44] else [])) (Int32.ofNat f) to cb ch ∧ frU S S' dr ∧ S' 67 = S 67 := by
  obtain ⟨S', a1, a2, a3, a4⟩ := ustart_val (S := up S 70 [Int32.ofNat f, to, cb, ch]) (f := f) (us := us) (to := to) (cb := cb) (ch := ch) hd hta htd hf hcb (by unfold tT at *; rw [up_ne hta.2.2.2.1]; exact ht) (h1.up (by decide)) (by rw [up_ne (by decide)]; exact h2) up_same (by rw [up_ne hd.2.2.2.1]; exact h4)
  exact ⟨S', a1, a2, fun a n1 n2 n3 n4 n5 => by rw [a3 a n1 n2 n3 n4 n5, up_ne n3], by rw [a4, up_ne (by decide)]⟩
theorem uvalue_val {S : SS} {ta dr q : Nat} {it : Int32} {bp : Int32} {us : List Int32} {t : Vl} {w : Option (Nat × Nat)} (hd : nU dr) (hta : nU ta) (htd : ta ≠ dr) (ht : tT S ta = us) (hq : spQ S ta q it t w) (h1 : pu S ta dr 0 0 bp 0) (h2 : (S 71).length = 100) (h3 : (S 70).length = 4) (h4 : S dr = pv []) : ∃ S', u_value S = some S' ∧ wrS S' ta dr bp 0 [] (us.take q) (Int32.ofNat q) (Int32.ofNat (q + (bV t).length)) 0 0 ∧ frU S S' dr := by
  obtain ⟨lo, hi, q1, q2, -⟩ := hq
  have hlt := q2.lt
  have hl := q2.1
  obtain ⟨S', a1, a2, a3, a4⟩ := gap_start (f := q) (to := Int32.ofNat (q + (bV t).length)) (cb := 0) (ch := 0) hd hta htd (by omega) (Or.inl rfl) ht h1 h2 h4
  rw [if_neg (by decide), List.append_nil] at a2
  refine ⟨S', ?_, a2, a3⟩
  unfold u_value p_place
  have e1 : rd S 67 1 = Int32.ofNat q := by unfold rd; rw [q1]; rfl
  rw [o_bind, e1, h1.ta hta.1, q2.past, o_bind, gspan_val h3, o_bind, a1, o_bind]
/-- the part becomes the elements of an array -/
theorem fillPart_val {S : SS} {ta t2 dr q a b : Nat} {it : Int32} {us : List Int32} {v : Int} {s : List Int32} {l lv : List Mb} {vv : Int} {sv : List Int32} {K : Vl → Vl} (hd : nU dr) (hta : nU ta) (ht2 : nU t2) (htd : ta ≠ dr) (ht2d : t2 ≠ dr) (ht : tT S ta = us) (htv : tT S t2 = bV (5, vv, sv, ofL lv)) (hv : vat (bV (5, vv, sv, ofL lv)) 0 (5, vv, sv, ofL lv)) (hq : spQ S ta q it (5, v, s, ofL l) (some (a, b))) (hK : ctx us q (5, v, s, ofL l) K) (h : goS S ta dr) : ∃ S', ((u_fillPart S t2).bind fun r24 => ((u_close r24).bind fun r26 => some (r26, (0 : Int32)))) = some (S', 0) ∧ frU S S' dr ∧ (S' 71).length = 100 ∧ S' dr = pv (bV (K (5, v, s, ofL (l.take a ++ (lv ++ l.drop b))))) := by
  obtain ⟨h1, h2, h3, h4⟩ := h
  obtain ⟨lo, hi, q1, q2, q3, q4⟩ := hq
  obtain ⟨w1, w2, -⟩ := q3 a b rfl
  obtain ⟨x1, x2⟩ := q4 a b rfl
  have hsz : size (5, v, s, ofL l) = l.length := by unfold size; rw [if_neg (show ¬ (5 : Nat) = 4 by decide)]; exact congrArg List.length (toL_ofL l)
  rw [hsz] at w2
  have e0 : (rd S 67 0).toNatClampNeg = ta := by unfold rd; rw [q1]; exact i_cl (by have := hta.1; omega)
  have e1 : rd S 67 1 = Int32.ofNat q := by unfold rd; rw [q1]; rfl
  have e3 : rd S 67 3 = 1 := by unfold rd; rw [q1]; rfl
  have e4 : rd S 67 4 = Int32.ofNat a := by unfold rd; rw [q1, x1]; rfl
  have e5 : rd S 67 5 = Int32.ofNat b := by unfold rd; rw [q1, x2]; rfl
  have us4 : us.length ≤ 4096 := by rw [← ht]; exact q2.1
  have q2' := q2
  rw [ht] at q2'
  have hlt := q2'.lt
  obtain ⟨z1, z2, z3, r, z4, z5⟩ := id q2'
  have hd4 : us.drop q = 91 :: (jn (l.map (bM false)) ++ 93 :: us.drop (q + (bV (5, v, s, ofL l)).length)) := by
    have : us.drop (q + (bV (5, v, s, ofL l)).length) = r := by rw [← List.drop_drop, z4, List.drop_left]
    rw [this, z4, bV_5]
    simp
  have eK : ∀ m, bV (K (5, v, s, ofL m)) = us.take q ++ 91 :: (jn (m.map (bM false)) ++ 93 :: us.drop (q + (bV (5, v, s, ofL l)).length)) := fun m => by
    rw [hK.2, bV_5]
    simp
  obtain ⟨i1, i2⟩ := hv.items (Or.inl rfl)
  have hvl := hv.1
  have sp : p_span S 70 = ((g_items S 70 ta (Int32.ofNat q) (Int32.ofNat a) (Int32.ofNat b)).bind fun r6 => some r6) := by
    unfold p_span
    rw [e3, if_neg (by decide), e0, e1, e4, e5]
  -- the rest, once the gap is known
  have fin : ∀ (f to : Nat) (cb ch : Int32), f ≤ 4096 → to ≤ us.length → (cb = 0 ∨ cb = 1) → (ch = 0 ∨ ch = 1) → ∃ S', ((((u_start (up S 70 [Int32.ofNat f, Int32.ofNat to, cb, ch])).bind fun r13 => ((spart r13 ((rd r13 69 5).toNatClampNeg) t2 1 ((Int32.ofNat (tT r13 t2).length) - 1)).bind fun r16 => some r16))).bind fun r24 => ((u_close r24).bind fun r26 => some (r26, (0 : Int32)))) = some (S', 0) ∧ frU S S' dr ∧ (S' 71).length = 100 ∧ S' dr = pv (us.take f ++ ((if cb = 1 then [44] else []) ++ (jn (lv.map (bM false)) ++ ((if ch = 1 then [44] else []) ++ us.drop to)))) := by
    intro f to cb ch hf hto hcb hch
    obtain ⟨S1, a1, a2, a3, a4⟩ := gap_start (f := f) (to := Int32.ofNat to) (cb := cb) (ch := ch) hd hta htd hf hcb ht h1 h2 h4
    have t2' : tT S1 t2 = bV (5, vv, sv, ofL lv) := by
      unfold tT at *
      rw [a3 t2 ht2.2.1 ht2.2.2.1 ht2.2.2.2.1 ht2.2.2.2.2 ht2d]
      exact htv
    have ta' : tT S1 ta = us := by
      unfold tT at *
      rw [a3 ta hta.2.1 hta.2.2.1 hta.2.2.2.1 hta.2.2.2.2 htd]
      exact ht
    have hlen : (bV (5, vv, sv, ofL lv)).length = (jn (lv.map (bM false))).length + 2 := by rw [bV_5]; simp
    have ec : ((bV (5, vv, sv, ofL lv)).take ((bV (5, vv, sv, ofL lv)).length - 1)).drop 1 = jn (lv.map (bM false)) := by
      rw [hlen, bV_5, show (jn (lv.map (bM false))).length + 2 - 1 = (91 :: jn (lv.map (bM false))).length by simp, show (91 : Int32) :: (jn (lv.map (bM false)) ++ [93]) = (91 :: jn (lv.map (bM false))) ++ [93] by simp, List.take_left]
      rfl
    obtain ⟨g1, g2, g3⟩ := wrS.grow (B' := (us.take f ++ (if cb = 1 then [44] else [])) ++ jn (lv.map (bM false))) hd a2
    have hT' : tT (up S1 dr (pv ((us.take f ++ (if cb = 1 then [44] else [])) ++ jn (lv.map (bM false))))) ta = us := by
      unfold tT at *
      rw [up_ne htd]
      exact ta'
    obtain ⟨S2, k1, k2, k3, k4⟩ := uclose_val hd hta.1 htd us4 hto hch (by decide) (fun u hu => by cases hu) hT' g1
    refine ⟨S2, ?_, (a3.trans g2).trans k3, k4, ?_⟩
    · rw [a1, o_bind, a2.1.dr hd.1, t2', show (1 : Int32) = Int32.ofNat 1 from rfl, i_subN (by omega) (by omega), spart_at a2.2.2.2 (fun e => ht2d e.symm) (by omega) (by omega), o_bind, t2', ec, o_bind, k1, o_bind]
    · rw [k2]
      simp
  have tv : ∀ L, tT (up S 70 L) t2 = bV (5, vv, sv, ofL lv) := fun L => by unfold tT at *; rw [up_ne ht2.2.2.2.1]; exact htv
  have ta4 : ∀ L, (rd (up S 70 L) 69 4).toNatClampNeg = ta := fun L => (h1.up (a := 70) (L := L) (by decide)).ta hta.1
  have tus : ∀ L, tT (up S 70 L) ta = us := fun L => by unfold tT at *; rw [up_ne hta.2.2.2.1]; exact ht
  have q2s : vat (tT S ta) q (5, v, s, ofL l) := q2
  obtain ⟨c1, c2, c3⟩ := gitems_val (g := 70) (lo := a) (hi := b) (Or.inl rfl) h3 q2s (by omega) w2
  have eb : ((5 : Nat) == 6) = false := rfl
  rw [eb] at c1 c2
  unfold u_fillPart
  rw [sp]
  by_cases hv0 : lv = []
  · -- nothing comes
    have i0 : t_items (bV (5, vv, sv, ofL lv)) 0 = some 0 := by rw [show (0 : Int32) = Int32.ofNat 0 from rfl, i1, hv0]; rfl
    have eml : l.take a ++ (lv ++ l.drop b) = l.take a ++ l.drop b := by rw [hv0]; rfl
    rw [eml]
    have j0 : jn (lv.map (bM false)) = [] := by rw [hv0]; rfl
    by_cases hab : a < b
    · rw [c1 hab, o_bind, o_bind, tv, i0, o_bind, if_pos rfl, ta4]
      obtain ⟨k1, k2, k3⟩ := cut_text (b := false) (ob := 91) (cl := 93) (f := ip false (q + 1) l a) (e := ip false (q + 1) l (b - 1) + (bM false (l[b - 1]'(by omega))).length) (by decide) (by decide) us4 hab w2 hd4 rfl rfl
      have hfe : ip false (q + 1) l a < ip false (q + 1) l (b - 1) + (bM false (l[b - 1]'(by omega))).length := by
        rw [ip_last hab w2]
        have : jn (((l.drop a).take (b - a)).map (bM false)) ≠ [] := by
          obtain ⟨x, y, hxy⟩ := nil_jn (b := false) (mid_ne hab w2)
          rw [hxy]
          simp
        have := List.length_pos_iff.mpr this
        omega
      have hfl : ip false (q + 1) l a ≤ 4096 := by omega
      have hel : ip false (q + 1) l (b - 1) + (bM false (l[b - 1]'(by omega))).length < us.length := by
        obtain ⟨-, s2⟩ := span_at hab w2 hd4
        apply Classical.byContradiction
        intro c
        rw [List.drop_eq_nil_of_le (by omega)] at s2
        have := congrArg List.length s2
        simp only [List.length_nil, List.length_append, List.length_cons] at this
        omega
      rw [closeUp_val (f := ip false (q + 1) l a) (e := ip false (q + 1) l (b - 1) + (bM false (l[b - 1]'(by omega))).length) (us := us) (fun c => hta.2.2.2.1 c.symm) up_same (tus _) hfl (by omega) k1, up_up, if_neg (by omega), o_bind]
      rcases k3 with ⟨y1, y2⟩ | ⟨y1, y2, y3⟩ | ⟨y1, y2, y3⟩
      · rw [if_pos y1]
        obtain ⟨S', f1, f2, f3, f4⟩ := fin (ip false (q + 1) l a) (ip false (q + 1) l (b - 1) + (bM false (l[b - 1]'(by omega))).length + 1) 0 0 hfl (by omega) (Or.inl rfl) (Or.inl rfl)
        refine ⟨S', f1, f2, f3, ?_⟩
        rw [f4, eK, ← y2, j0]
        simp
      · rw [if_neg y1, if_pos y2]
        obtain ⟨S', f1, f2, f3, f4⟩ := fin (ip false (q + 1) l a - 1) _ 0 0 (by omega) (Nat.le_of_lt hel) (Or.inl rfl) (Or.inl rfl)
        refine ⟨S', f1, f2, f3, ?_⟩
        rw [f4, eK, ← y3, j0]
        simp
      · rw [if_neg y1, if_neg y2]
        obtain ⟨S', f1, f2, f3, f4⟩ := fin (ip false (q + 1) l a) _ 0 0 hfl (Nat.le_of_lt hel) (Or.inl rfl) (Or.inl rfl)
        refine ⟨S', f1, f2, f3, ?_⟩
        rw [f4, eK, ← y3, j0]
        simp
    · have hab' : a = b := by omega
      subst hab'
      have same : ∀ p, p ≤ us.length → us.take p ++ us.drop p = bV (K (5, v, s, ofL (l.take a ++ l.drop a))) := fun p _ => by
        rw [List.take_append_drop, List.take_append_drop, eK, ← hd4, List.take_append_drop]
      by_cases hal : a < l.length
      · rw [c2 (Nat.le_refl _) hal, o_bind, o_bind, tv, i0, o_bind, if_pos rfl, ta4]
        obtain ⟨-, -, i3⟩ := q2'.item (Or.inl rfl) hal
        rw [eb] at i3
        rw [closeUp_val (f := ip false (q + 1) l a) (e := ip false (q + 1) l a) (us := us) (fun c => hta.2.2.2.1 c.symm) up_same (tus _) (by omega) (by omega) (by rw [ip_pre]; omega), up_up, if_pos (Nat.le_refl _), o_bind]
        obtain ⟨S', f1, f2, f3, f4⟩ := fin (ip false (q + 1) l a) (ip false (q + 1) l a) 0 0 (by omega) (by omega) (Or.inl rfl) (Or.inl rfl)
        refine ⟨S', f1, f2, f3, ?_⟩
        rw [f4, ← same (ip false (q + 1) l a) (by omega), j0]
        simp
      · have hal' : a = l.length := by omega
        rw [c3 (Nat.le_refl _) hal', o_bind, o_bind, tv, i0, o_bind, if_pos rfl, ta4]
        have hb2 : 2 ≤ (bV (5, v, s, ofL l)).length := by rw [bV_5]; simp
        rw [closeUp_val (f := q + (bV (5, v, s, ofL l)).length - 1) (e := q + (bV (5, v, s, ofL l)).length - 1) (us := us) (fun c => hta.2.2.2.1 c.symm) up_same (tus _) (by omega) (by omega) (by omega), up_up, if_pos (Nat.le_refl _), o_bind]
        obtain ⟨S', f1, f2, f3, f4⟩ := fin (q + (bV (5, v, s, ofL l)).length - 1) (q + (bV (5, v, s, ofL l)).length - 1) 0 0 (by omega) (by omega) (Or.inl rfl) (Or.inl rfl)
        refine ⟨S', f1, f2, f3, ?_⟩
        rw [f4, ← same (q + (bV (5, v, s, ofL l)).length - 1) (by omega), j0]
        simp
  · have i0 : ∃ x, t_items (bV (5, vv, sv, ofL lv)) 0 = some x ∧ x ≠ 0 := by
      refine ⟨Int32.ofNat lv.length, by rw [show (0 : Int32) = Int32.ofNat 0 from rfl, i1], ?_⟩
      have : lv.length ≠ 0 := fun e => hv0 (List.eq_nil_of_length_eq_zero e)
      rw [Ne, show (0 : Int32) = Int32.ofNat 0 from rfl, i_inj (by omega) (by omega)]
      exact this
    obtain ⟨x, i0, i0'⟩ := i0
    obtain ⟨p1, p2, p3⟩ := put_text (b := false) (ob := 91) (cl := 93) w2 w1 hv0 hd4
    by_cases hab : a < b
    · rw [c1 hab, o_bind, o_bind, tv, i0, o_bind, if_neg i0']
      have hel : ip false (q + 1) l (b - 1) + (bM false (l[b - 1]'(by omega))).length < us.length := by
        obtain ⟨-, s2⟩ := span_at hab w2 hd4
        apply Classical.byContradiction
        intro c
        rw [List.drop_eq_nil_of_le (by omega)] at s2
        have := congrArg List.length s2
        simp only [List.length_nil, List.length_append, List.length_cons] at this
        omega
      obtain ⟨-, -, i3⟩ := q2'.item (Or.inl rfl) (show a < l.length by omega)
      rw [eb] at i3
      obtain ⟨S', f1, f2, f3, f4⟩ := fin (ip false (q + 1) l a) _ 0 0 (by omega) (Nat.le_of_lt hel) (Or.inl rfl) (Or.inl rfl)
      refine ⟨S', f1, f2, f3, ?_⟩
      rw [f4, eK, ← p1 hab]
      simp
    · have hab' : a = b := by omega
      subst hab'
      by_cases hal : a < l.length
      · rw [c2 (Nat.le_refl _) hal, o_bind, o_bind, tv, i0, o_bind, if_neg i0']
        obtain ⟨-, -, i3⟩ := q2'.item (Or.inl rfl) hal
        rw [eb] at i3
        obtain ⟨S', f1, f2, f3, f4⟩ := fin (ip false (q + 1) l a) (ip false (q + 1) l a) 0 1 (by omega) (by omega) (Or.inl rfl) (Or.inr rfl)
        refine ⟨S', f1, f2, f3, ?_⟩
        rw [f4, eK, ← p2 rfl hal]
        simp
      · have hal' : a = l.length := by omega
        rw [c3 (Nat.le_refl _) hal', o_bind, o_bind, tv, i0, o_bind, if_neg i0']
        have hb2 : (bV (5, v, s, ofL l)).length = (jn (l.map (bM false))).length + 2 := by rw [bV_5]; simp
        have ep : q + (bV (5, v, s, ofL l)).length - 1 = q + (jn (l.map (bM false))).length + 1 := by omega
        obtain ⟨S', f1, f2, f3, f4⟩ := fin (q + (bV (5, v, s, ofL l)).length - 1) (q + (bV (5, v, s, ofL l)).length - 1) (if l = [] then 0 else 1) 0 (by omega) (by omega) (by by_cases hn : l = []; rw [if_pos hn]; exact Or.inl rfl; rw [if_neg hn]; exact Or.inr rfl) (Or.inl rfl)
        refine ⟨S', f1, f2, f3, ?_⟩
        rw [f4, eK, ← p3 rfl hal', ep]
        by_cases hn : l = []
        · simp [hn]
        · simp [hn]
end PutA159
