/-! The class cuts, path by path. -/
section Cut169
theorem sdel_at {S : SS} {o f w : Nat} {us : List Int32} (h : S o = 0 :: us) (hl : us.length ≤ 4096) (hf : f ≤ 4096) (hw : w ≤ us.length) : sdel S o (Int32.ofNat f) (Int32.ofNat w) = up S o (0 :: (if w ≤ f then us else us.take f ++ us.drop w)) := by
  have h1 : tT S o = us := by unfold tT; rw [h]; rfl
  have h2 : tV S o = 0 := by unfold tV; rw [h]; rfl
  unfold sdel tdel
  rw [h1, h2, if_neg (i_nn (by omega))]
  congr 2
  by_cases c : w ≤ f
  · rw [if_pos c, if_pos ((i_le' (by omega) (by omega)).mpr c)]
  · rw [if_neg c, if_neg (by rw [i_le' (by omega) (by omega)]; exact c), if_neg (by rw [i_lt' (by omega) (by omega)]; omega), i_cl (by omega), i_cl (by omega)]
/-- the span goes, with a comma -/
theorem cutG {S : SS} {dr f e : Nat} {us X : List Int32} {c1 c2 : Int32} (hdr : dr ≠ 73) (h : S dr = 0 :: us) (hl : us.length ≤ 4096) (hr : remT us f e X) : ((g_closeUp (up S 73 [Int32.ofNat f, Int32.ofNat e, c1, c2]) 73 dr).bind fun r22 => ((g_from r22 73).bind fun r24 => ((g_to r22 73).bind fun r26 => some (sdel r22 dr r24 r26, (0 : Int32))))) = some (up (up S 73 (if tat us (Int32.ofNat e) = 44 then [Int32.ofNat f, Int32.ofNat (e + 1), 0, 0] else if tat us (Int32.ofNat (f - 1)) = 44 then [Int32.ofNat (f - 1), Int32.ofNat e, 0, 0] else [Int32.ofNat f, Int32.ofNat e, 0, 0])) dr (0 :: X), 0) := by
  obtain ⟨r1, r2, r3, r4⟩ := hr
  have tt : ∀ L, tT (up S 73 L) dr = us := fun L => by unfold tT; rw [up_ne hdr, h]; rfl
  have hh : ∀ L, (up S 73 L) dr = 0 :: us := fun L => by rw [up_ne hdr]; exact h
  have g0 : ∀ (x y : Int32), rd (up S 73 [x, y, 0, 0]) 73 0 = x ∧ rd (up S 73 [x, y, 0, 0]) 73 1 = y := fun x y => by unfold rd; rw [up_same]; exact ⟨rfl, rfl⟩
  rw [closeUp_val (f := f) (e := e) (us := us) (fun c => hdr c.symm) up_same (tt _) (by omega) (by omega) r1, up_up, if_neg (by omega), o_bind]
  unfold g_from g_to
  rw [o_bind, o_bind]
  rcases r4 with ⟨y1, y2⟩ | ⟨y1, y2, y3⟩ | ⟨y1, y2, y3⟩
  · rw [if_pos y1, (g0 _ _).1, (g0 _ _).2, sdel_at (hh _) hl (by omega) (by omega), if_neg (by omega), y2]
  · rw [if_neg y1, if_pos y2, (g0 _ _).1, (g0 _ _).2, sdel_at (hh _) hl (by omega) (by omega), if_neg (by omega), y3]
  · rw [if_neg y1, if_neg y2, (g0 _ _).1, (g0 _ _).2, sdel_at (hh _) hl (by omega) (by omega), if_neg (by omega), y3]
/-- nothing but the Spot, the Cutter's Gap and the draft -/
def frK (S S' : SS) (dr : Nat) : Prop := ∀ a, a ≠ 67 → a ≠ 73 → a ≠ dr → S' a = S a
theorem frK.trans {S S1 S2 : SS} {dr : Nat} (h : frK S S1 dr) (h' : frK S1 S2 dr) : frK S S2 dr := fun a n1 n2 n3 => (h' a n1 n2 n3).trans (h a n1 n2 n3)
theorem frK.refl (S : SS) (dr : Nat) : frK S S dr := fun _ _ _ _ => rfl
theorem kcut_val {S : SS} {dr tp p1 k N : Nat} {t : Vl} {vs : List Int32} {vp : Int} {sp : List Int32} {lp : List Mb} (hdr : dr < 1000 ∧ dr ≠ 67 ∧ dr ≠ 72 ∧ dr ≠ 73 ∧ dr ≠ 74) (htp : tp ≠ 67 ∧ tp ≠ 73 ∧ tp ≠ dr) (h : S dr = 0 :: bV t) (hv : vat (bV t) 0 t) (hvs : tT S tp = vs) (hp : vat vs p1 (5, vp, sp, ofL lp)) (h67 : (S 67).length = 6) (h73 : (S 73).length = 4) (hN : rd S 72 4 = Int32.ofNat N) (hN1 : N ≤ 100) (hk : k < N) (h74 : iget (S 74) (Int32.ofNat k) = some (Int32.ofNat p1)) : ∃ S' e, k_cut S dr tp (Int32.ofNat k) = some (S', e) ∧ frK S S' dr ∧ (S' 67).length = 6 ∧ (S' 73).length = 4 ∧ (e = 0 → ∃ T, cutP lp t = some T ∧ wV T ∧ (bV T).length ≤ 4096 ∧ S' dr = 0 :: bV T) ∧ (e ≠ 0 → cutP lp t = none) := by
  obtain ⟨us, hus⟩ : ∃ us, us = bV t := ⟨_, rfl⟩
  rw [← hus] at h hv
  have hl := hv.1
  have tu : tT S dr = us := by unfold tT; rw [h]; rfl
  unfold k_cut k_paths
  have im : imin (rd S 72 4) 100 = Int32.ofNat N := by
    unfold imin
    rw [hN, show (100 : Int32) = Int32.ofNat 100 from rfl, if_neg (by rw [i_lt' (by omega) (by omega)]; omega)]
  rw [if_neg (i_nn (by omega)), o_bind, im, if_pos ((i_lt' (by omega) (by omega)).mpr hk), h74, o_bind, hvs, hp.first (Or.inl rfl), o_bind]
  by_cases hn : lp = []
  · rw [if_pos hn, if_pos rfl]
    have e1 : sputs (up S dr [0]) dr k17 = up S dr (0 :: bV vNull) := by
      rw [show up S dr [0] = up S dr (pv []) from rfl, sputs_pv k17 S dr [] (by unfold byt; decide)]
      rfl
    rw [e1]
    refine ⟨_, 0, rfl, fun a n1 n2 n3 => up_ne n3, by rw [up_ne (fun c => hdr.2.1 c.symm)]; exact h67, by rw [up_ne (fun c => hdr.2.2.2.1 c.symm)]; exact h73, fun _ => ⟨vNull, by unfold cutP; rw [if_pos hn], vNull_ok, by decide, up_same⟩, fun c => absurd rfl c⟩
  · have ecp : cutP lp t = cutV (lp.map fun m => m.2) t none := by unfold cutP; rw [if_neg hn]
    have hll : 0 < lp.length := List.length_pos_iff.mpr hn
    rw [if_neg hn]
    have hp1 := hp.lt
    have hvl := hp.1
    rw [if_neg (i_ne1 (by omega))]
    obtain ⟨y0, y1, y2, y3, y4, y5, e67⟩ : ∃ a b c d e f, S 67 = [a, b, c, d, e, f] := by
      match hS : S 67, h67 with
      | [a, b, c, d, e, f], _ => exact ⟨a, b, c, d, e, f, rfl⟩
    obtain ⟨R, hR⟩ : ∃ R, R = up S 67 [Int32.ofNat dr, 0, 0, 0, y4, y5] := ⟨_, rfl⟩
    have est : p_start S dr = some R := by
      unfold p_start
      rw [wr_eq e67, wr_up, wr_up, wr_up, hR]
      rfl
    have tRd : tT R dr = us := by unfold tT at *; rw [hR, up_ne hdr.2.1]; exact tu
    have tRp : tT R tp = vs := by unfold tT at *; rw [hR, up_ne htp.1]; exact hvs
    have hq : spQ R dr 0 0 t none := ⟨y4, y5, by rw [hR, up_same]; rfl, by rw [tRd]; exact hv, (fun _ _ e => by cases e), (fun _ _ e => by cases e)⟩
    have hcx : ctx us 0 t (fun u => u) := by rw [hus]; exact ctx_root t
    have hil := (hp.items (Or.inl rfl)).2
    obtain ⟨S1, e, j1, j2, j3, j4⟩ := cutA (ta := dr) (t1 := tp) ⟨hdr.1, hdr.2.1⟩ htp.1 hp hl (lp.length - 1) 0 10000 0 R 0 0 t none (fun u => u) (by omega) (by omega) (by omega) tRd tRp hq hcx
    rw [List.drop_zero] at j3 j4
    rw [ip_0] at j1
    have hf1 : ∀ a, a ≠ 67 → S1 a = S a := fun a ha => by rw [j2 a ha, hR, up_ne ha]
    have efol : p_follow S dr tp (Int32.ofNat p1) = some (S1, e) := by
      unfold p_follow
      rw [est, o_bind, tRp, hp.first (Or.inl rfl), o_bind, if_neg hn]
      exact j1
    have hdS1 : S1 dr = 0 :: us := by rw [hf1 dr hdr.2.1]; exact h
    have tS1 : tT S1 dr = us := by unfold tT; rw [hdS1]; rfl
    have h73S1 : (S1 73).length = 4 := by rw [hf1 73 (by decide)]; exact h73
    have fk : frK S S1 dr := fun a n1 _ _ => hf1 a n1
    rw [efol, o_bind]
    by_cases he : e = 0
    · subst he
      rw [if_pos rfl, ecp]
      rcases j4 rfl with ⟨T, y1', y2', y3'⟩ | ⟨y1', q', it', t', w', y2', y3'⟩
      · have hTl : bV T = us ∨ (bV T).length ≤ 4096 → (bV T).length ≤ 4096 := fun c => by
          rcases c with c | c
          · rw [c]; exact hl
          · exact c
        rcases y3' with ⟨z1, z2⟩ | ⟨q', it', t', z1, z2⟩ | ⟨q', it', v', s', l', a, b, z1, z2⟩
        · rw [nothN z1, o_bind, if_neg (by decide)]
          refine ⟨S1, 0, rfl, fk, ?_, h73S1, fun _ => ⟨T, y1', y2', by rw [z2]; exact hl, by rw [hdS1, z2]⟩, fun c => absurd rfl c⟩
          obtain ⟨x1, x2, x3, z1⟩ := z1
          rw [z1]
          rfl
        · obtain ⟨lo, hi, w1, w2, w3⟩ := id z1
          have w2u := w2
          rw [tS1] at w2u
          have h67S1 : (S1 67).length = 6 := by rw [w1]; rfl
          have e2 : rd S1 67 2 = Int32.ofNat it' := by unfold rd; rw [w1]; rfl
          have e1 : rd S1 67 1 = Int32.ofNat q' := by unfold rd; rw [w1]; rfl
          have e3 : rd S1 67 3 = 0 := by unfold rd; rw [w1]; rfl
          have e0 : (rd S1 67 0).toNatClampNeg = dr := by unfold rd; rw [w1]; exact i_cl (by have := hdr.1; omega)
          have hsp : p_span S1 73 = some (up S1 73 [Int32.ofNat it', Int32.ofNat (q' + (bV t').length), 0, 0]) := by
            unfold p_span
            rw [e3, if_pos rfl, e0, e1, w2.past, o_bind, e2, gspan_val h73S1, o_bind]
          have hlen : (bV T).length ≤ 4096 := by
            obtain ⟨r1, r2, r3, r4⟩ := z2
            rcases r4 with ⟨-, c⟩ | ⟨-, -, c⟩ | ⟨-, -, c⟩ <;> rw [← c, List.length_append, List.length_take, List.length_drop] <;> omega
          have := cutG (c1 := 0) (c2 := 0) hdr.2.2.2.1 hdS1 hl z2
          rw [nothQ z1, o_bind, if_pos rfl, partF z1, o_bind, if_pos (show (if (none : Option (Nat × Nat)).isSome = true then (1 : Int32) else 0) = 0 from rfl), hsp, o_bind, this]
          refine ⟨_, 0, rfl, fun a n1 n2 n3 => by rw [up_ne n3, up_ne n2, hf1 a n1], by rw [up_ne (fun c => hdr.2.1 c.symm), up_ne (by decide)]; exact h67S1, ?_, fun _ => ⟨T, y1', y2', hlen, up_same⟩, fun c => absurd rfl c⟩
          rw [up_ne (fun c => hdr.2.2.2.1 c.symm), up_same]
          split
          · rfl
          · split <;> rfl
        · obtain ⟨lo, hi, w1, w2, w3, w4⟩ := id z1
          have w2u := w2
          rw [tS1] at w2u
          have hlt := w2u.lt
          obtain ⟨wa, wb, -⟩ := w3 a b rfl
          obtain ⟨x1, x2⟩ := w4 a b rfl
          have hsz : size (5, v', s', ofL l') = l'.length := by unfold size; rw [if_neg (show ¬ (5 : Nat) = 4 by decide)]; exact congrArg List.length (toL_ofL l')
          rw [hsz] at wb
          have h67S1 : (S1 67).length = 6 := by rw [w1]; rfl
          have e1 : rd S1 67 1 = Int32.ofNat q' := by unfold rd; rw [w1]; rfl
          have e3 : rd S1 67 3 = 1 := by unfold rd; rw [w1]; rfl
          have e4 : rd S1 67 4 = Int32.ofNat a := by unfold rd; rw [w1, x1]; rfl
          have e5 : rd S1 67 5 = Int32.ofNat b := by unfold rd; rw [w1, x2]; rfl
          have e0 : (rd S1 67 0).toNatClampNeg = dr := by unfold rd; rw [w1]; exact i_cl (by have := hdr.1; omega)
          have hbox := box5 w2u
          have hsp : p_span S1 73 = ((g_items S1 73 dr (Int32.ofNat q') (Int32.ofNat a) (Int32.ofNat b)).bind fun r6 => some r6) := by
            unfold p_span
            rw [e3, if_neg (by decide), e0, e1, e4, e5]
          obtain ⟨c1, c2, c3⟩ := gitems_val (g := 73) (lo := a) (hi := b) (Or.inl rfl) h73S1 w2 (by omega) wb
          have eb : ((5 : Nat) == 6) = false := rfl
          rw [eb] at c1 c2
          have hpre : ∀ X : Option (SS × Int32), X = X := fun _ => rfl
          rw [nothQ z1, o_bind, if_pos rfl, partF z1, o_bind, if_neg (show ¬ (if (some (a, b) : Option (Nat × Nat)).isSome = true then (1 : Int32) else 0) = 0 from fun e => absurd e (show ¬ (1 : Int32) = 0 by decide)), z1.c.kind hdr.1, o_bind, if_neg (show ¬ Int32.ofNat ((5, v', s', ofL l') : Vl).1 = 4 from show ¬ Int32.ofNat 5 = 4 by decide), hsp]
          by_cases hab : a < b
          · have hrem := remT_of (b := false) (lo := a) (hi := b) (show (91 : Int32) ≠ 44 by decide) (show (93 : Int32) ≠ 44 by decide) hl hab wb hbox
            rw [← z2] at hrem
            have hlen : (bV T).length ≤ 4096 := by
              obtain ⟨r1, r2, r3, r4⟩ := hrem
              rcases r4 with ⟨-, c⟩ | ⟨-, -, c⟩ | ⟨-, -, c⟩ <;> rw [← c, List.length_append, List.length_take, List.length_drop] <;> omega
            have := cutG (c1 := 0) (c2 := 0) hdr.2.2.2.1 hdS1 hl hrem
            rw [c1 hab, o_bind, o_bind, this]
            refine ⟨_, 0, rfl, fun a n1 n2 n3 => by rw [up_ne n3, up_ne n2, hf1 a n1], by rw [up_ne (fun c => hdr.2.1 c.symm), up_ne (by decide)]; exact h67S1, ?_, fun _ => ⟨T, y1', y2', hlen, up_same⟩, fun c => absurd rfl c⟩
            rw [up_ne (fun c => hdr.2.2.2.1 c.symm), up_same]
            split
            · rfl
            · split <;> rfl
          · have hab' : a = b := by omega
            subst hab'
            have hTu : bV T = us := by rw [z2, List.take_append_drop, ← hbox, List.take_append_drop]
            have noth : ∀ (x : Nat) (k1 k2 : Int32), 0 < x → x ≤ us.length → ((g_closeUp (up S1 73 [Int32.ofNat x, Int32.ofNat x, k1, k2]) 73 dr).bind fun r22 => ((g_from r22 73).bind fun r24 => ((g_to r22 73).bind fun r26 => some (sdel r22 dr r24 r26, (0 : Int32))))) = some (up (up S1 73 [Int32.ofNat x, Int32.ofNat x, 0, 0]) dr (0 :: us), 0) := by
              intro x k1 k2 hx0 hxl
              rw [closeUp_val (f := x) (e := x) (us := us) (fun c => hdr.2.2.2.1 c.symm) up_same (by unfold tT; rw [up_ne hdr.2.2.2.1, hdS1]; rfl) (by omega) (by omega) hx0, up_up, if_pos (Nat.le_refl _), o_bind]
              unfold g_from g_to
              rw [o_bind, o_bind, show rd (up S1 73 [Int32.ofNat x, Int32.ofNat x, 0, 0]) 73 0 = Int32.ofNat x by unfold rd; rw [up_same]; rfl, show rd (up S1 73 [Int32.ofNat x, Int32.ofNat x, 0, 0]) 73 1 = Int32.ofNat x by unfold rd; rw [up_same]; rfl, sdel_at (us := us) (by rw [up_ne hdr.2.2.2.1]; exact hdS1) hl (by omega) hxl, if_pos (Nat.le_refl _)]
            have fin : ∀ x : Nat, ∃ S' e, (some (up (up S1 73 [Int32.ofNat x, Int32.ofNat x, 0, 0]) dr (0 :: us), (0 : Int32))) = some (S', e) ∧ frK S S' dr ∧ (S' 67).length = 6 ∧ (S' 73).length = 4 ∧ (e = 0 → ∃ T, cutV (lp.map fun m => m.2) t none = some T ∧ wV T ∧ (bV T).length ≤ 4096 ∧ S' dr = 0 :: bV T) ∧ (e ≠ 0 → cutV (lp.map fun m => m.2) t none = none) := fun x => ⟨_, 0, rfl, fun a n1 n2 n3 => by rw [up_ne n3, up_ne n2, hf1 a n1], by rw [up_ne (fun c => hdr.2.1 c.symm), up_ne (by decide)]; exact h67S1, by rw [up_ne (fun c => hdr.2.2.2.1 c.symm), up_same]; rfl, fun _ => ⟨T, y1', y2', by rw [hTu]; exact hl, by rw [up_same, hTu]⟩, fun c => absurd rfl c⟩
            by_cases hal : a < l'.length
            · obtain ⟨-, -, i3⟩ := w2u.item (Or.inl rfl) hal
              rw [eb] at i3
              rw [c2 (Nat.le_refl _) hal, o_bind, o_bind, noth (ip false (q' + 1) l' a) 0 1 (by rw [ip_pre]; omega) (by omega)]
              exact fin _
            · have hb2 : 2 ≤ (bV (5, v', s', ofL l')).length := by rw [bV_5]; simp
              rw [c3 (Nat.le_refl _) (by omega), o_bind, o_bind, noth (q' + (bV (5, v', s', ofL l')).length - 1) _ 0 (by omega) (by omega)]
              exact fin _
      · have h67S1 : (S1 67).length = 6 := by
          obtain ⟨lo, hi, w1, -⟩ := y2'
          rw [w1]; rfl
        rw [nothQ y2', o_bind, if_pos rfl, partF y2', o_bind, if_neg (show ¬ (if (some w' : Option (Nat × Nat)).isSome = true then (1 : Int32) else 0) = 0 from fun e => absurd e (show ¬ (1 : Int32) = 0 by decide)), y2'.c.kind hdr.1, o_bind, if_pos (by rw [y3']; rfl)]
        exact ⟨S1, 1, rfl, fk, h67S1, h73S1, fun c => absurd c (by decide), fun _ => y1'⟩
    · rw [if_neg he, ecp]
      exact ⟨S1, e, rfl, fk, (j3 he).2, h73S1, fun c => absurd c he, fun _ => (j3 he).1⟩
end Cut169
