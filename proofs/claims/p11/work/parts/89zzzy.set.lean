section
/-! The call set. -/
section Set166
/-- how a call ends, when what was written may be too much -/
theorem fin_call2 {S S3 : SS} {ts : Nat → Vl} {dr : Nat} {ra : List Nat} {tape res B : List Int32} {T : Vl} {n0 : Nat} {bc : SS → Option SS} {c2 c3 : Int32} (l41 : (S 41).length = 12) (i1 : InvL S) (i2 : InvB S) (i3 : InvT S tape) (i4 : InvP S res) (i5 : InvG S ts dr ra) (hn0 : n0 < 8) (wo : wV T) (f3 : ∀ a, a ∉ cSc → a ≠ dr → S3 a = S a) (lc : lenC S3) (hd : S3 dr = pv B) (hB1 : (bV T).length ≤ 4096 → B = bV T) (hB2 : 4096 < (bV T).length → 4096 < B.length) (rs : ∀ T0 : SS, (∀ a, a ≠ 41 → a ≠ 46 → a ∉ cSc → a ∉ nine → T0 a = S a) → ∃ T2, bc T0 = ((b_finish T2 (Int32.ofNat n0) c2 c3).bind fun r => some r) ∧ (∀ a, a ∉ rSc → T2 a = T0 a) ∧ (∀ k, k = 1 ∨ k = 3 ∨ k = 4 → rd T2 78 k = rd S 78 k) ∧ rd T2 78 0 = 0 ∧ rd T2 78 12 = 0 ∧ (T2 78).length = 22 ∧ (∃ C', OutV T2 C' ∧ (C' = cV T ∨ (9000 < C'.length ∧ ¬ good T))) ∧ lenR T2) : (∃ Sg W, a_keep S3 (Int32.ofNat n0) = some (Sg, 0) ∧ Sg 0 = S 0 ∧ bc Sg = some W ∧ rd W 78 0 = 0 ∧ W 0 = S 0 ∧ Inv W) ∨ (∃ W, a_keep S3 (Int32.ofNat n0) = some (S3, 1) ∧ S3 0 = S 0 ∧ bc S3 = some W ∧ rd W 78 0 = c3 ∧ W 0 = S 0 ∧ Inv W) := by
  obtain ⟨g1, g2, g3, g4, g5⟩ := id i5
  have md := nine_lt dr (g3.mem_iff.mp List.mem_cons_self)
  have hdn : dr ∈ nine := g3.mem_iff.mp List.mem_cons_self
  have n9 : ∀ a, a ∉ nine → a ≠ dr := fun a ha e => ha (e ▸ hdn)
  have e41 : S3 41 = S 41 := f3 41 (by decide) (n9 41 (by decide))
  have e46 : S3 46 = S 46 := f3 46 (by decide) (n9 46 (by decide))
  have hd9 : rd S3 41 9 = Int32.ofNat dr := by unfold rd; rw [e41]; exact g4
  have dd : ∀ a ∈ nine, a ∉ cSc ∧ a ∉ rSc ∧ a ≠ 41 ∧ a ≠ 46 ∧ a ≠ 80 ∧ a ≠ 94 ∧ a ≠ 78 ∧ a < 82 := by decide
  have d8 : ∀ r, r < 8 → 82 + r ∉ cSc ∧ 82 + r ∉ rSc ∧ 82 + r ∉ nine ∧ 82 + r ≠ 41 ∧ 82 + r ≠ 46 ∧ 82 + r ≠ 80 ∧ 82 + r ≠ 94 ∧ 82 + r ≠ 78 := by decide
  have l82 : ∀ T0 T2 : SS, (∀ a, a ≠ 41 → a ≠ 46 → a ∉ cSc → a ∉ nine → T0 a = S a) → (∀ a, a ∉ rSc → T2 a = T0 a) → (T2 (82 + n0)).length = 9000 := fun T0 T2 h1 h2 => by
    obtain ⟨x1, x2, x3, x4, x5, x6⟩ := d8 n0 hn0
    rw [h2 _ x2, h1 _ x4 x5 x1 x3]
    exact (g5 n0 hn0).2.2.2.2.1
  by_cases hg : good T
  · left
    have hBT := hB1 hg.1
    have ak := akeep_val (S := S3) (t := T) (dr := dr) (ra := ra) (n := n0) wo hd9 (e46.trans g1) g2 g3 (by rw [hd, hBT]) hn0
    rw [if_pos hg] at ak
    obtain ⟨Sg, hSg⟩ : ∃ Sg, Sg = wr (up S3 46 ((ra.set n0 dr).map Int32.ofNat)) 41 9 (Int32.ofNat (ra.getD n0 0)) := ⟨_, rfl⟩
    rw [← hSg] at ak
    have fg3 : ∀ a, a ≠ 41 → a ≠ 46 → Sg a = S3 a := fun a x1 x2 => by rw [hSg, wr_ne x1, up_ne x2]
    have fg : ∀ a, a ≠ 41 → a ≠ 46 → a ∉ cSc → a ≠ dr → Sg a = S a := fun a x1 x2 x3 x4 => by rw [fg3 a x1 x2, f3 a x3 x4]
    have fgn : ∀ a, a ≠ 41 → a ≠ 46 → a ∉ cSc → a ∉ nine → Sg a = S a := fun a x1 x2 x3 x4 => fg a x1 x2 x3 (n9 a x4)
    obtain ⟨T2, w1, w2, w3, w4, w5, w6, ⟨C', w7c, w7d⟩, w8, w10, w11, w12, w13⟩ := rs Sg fgn
    have w7 : OutV T2 (cV T) := by
      rcases w7d with e | ⟨-, e⟩
      · rw [← e]; exact w7c
      · exact absurd hg e
    have w9 := l82 Sg T2 fgn w2
    obtain ⟨fv, -⟩ := finish_val (t := T) c2 c3 hn0 w5 w4 w6 wo w7 w8 w9
    obtain ⟨W, z1, z2, z3, z4, z5⟩ := fv hg
    have Wf : ∀ a, a ∉ rSc → a ≠ 82 + n0 → W a = Sg a := fun a x1 x2 => by
      have h80 : a ≠ 80 := fun e => x1 (e ▸ by decide)
      have h94 : a ≠ 94 := fun e => x1 (e ▸ by decide)
      rw [z2 a h80 h94 x2, w2 a x1]
    have W78 : ∀ k, rd W 78 k = rd T2 78 k := fun k => by unfold rd; rw [z2 78 (by decide) (by decide) (by omega)]
    have g41 : ∀ k, k ≠ 9 → rd Sg 41 k = rd S 41 k := fun k hk => by rw [hSg, rd_wr_j (fun e => hk e.symm), rd_up (by decide)]; unfold rd; rw [e41]
    have W41 : ∀ k, rd W 41 k = rd Sg 41 k := fun k => by unfold rd; rw [Wf 41 (by decide) (by omega)]
    have g419 : rd Sg 41 9 = Int32.ofNat (ra.getD n0 0) := by rw [hSg, rd_wr (by rw [up_ne (by decide), e41, l41]; decide)]
    have WS : ∀ a, a ∉ rSc → a ≠ 82 + n0 → a ≠ 41 → a ≠ 46 → a ∉ cSc → a ≠ dr → W a = S a := fun a x1 x2 x3 x4 x5 x6 => (Wf a x1 x2).trans (fg a x3 x4 x5 x6)
    refine ⟨Sg, W, ak, fg 0 (by decide) (by decide) (by decide) (n9 0 (by decide)), by rw [w1, z1, o_bind], by rw [W78, w4], WS 0 (by decide) (by omega) (by decide) (by decide) (by decide) (n9 0 (by decide)), ?_⟩
    have K : ∀ a, a ∈ [39, 40, 42, 79, 44, 92] → W a = S a := fun a ha => by
      have d : ∀ a ∈ [39, 40, 42, 79, 44, 92], a ∉ rSc ∧ (a < 82 ∨ 89 < a) ∧ a ≠ 41 ∧ a ≠ 46 ∧ a ∉ cSc ∧ a ∉ nine := by decide
      obtain ⟨x1, x2, x3, x4, x5, x6⟩ := d a ha
      exact WS a x1 (by omega) x3 x4 x5 (n9 a x6)
    have K3 : ∀ a, a ∈ [47, 48, 71, 74, 76, 77] → W a = S3 a := fun a ha => by
      have d : ∀ a ∈ [47, 48, 71, 74, 76, 77], a ∉ rSc ∧ (a < 82 ∨ 89 < a) ∧ a ≠ 41 ∧ a ≠ 46 := by decide
      obtain ⟨x1, x2, x3, x4⟩ := d a ha
      rw [Wf a x1 (by omega), fg3 a x3 x4]
    have K2 : ∀ a, a ∈ [97, 98, 99, 100, 91] → W a = T2 a := fun a ha => by
      have d : ∀ a ∈ [97, 98, 99, 100, 91], a ≠ 80 ∧ a ≠ 94 ∧ (a < 82 ∨ 89 < a) := by decide
      obtain ⟨x1, x2, x3⟩ := d a ha
      rw [z2 a x1 x2 (by omega)]
    have W46 : W 46 = (ra.set n0 dr).map Int32.ofNat := by rw [Wf 46 (by decide) (by omega), hSg, wr_ne (by decide), up_same]
    have Wd : W dr = 0 :: bV T := by
      obtain ⟨x1, x2, x3, x4, x5, x6, x7, x8⟩ := dd dr hdn
      rw [Wf dr x2 (by omega), fg3 dr x3 x4, hd, hBT, pv_fit hg.1]
    obtain ⟨y1, y2, y3, y4, y5, y6⟩ := lc
    refine finB i3 i4 i5 hn0 wo hg ⟨by unfold rd; rw [K3 47 (by decide)]; exact y1, by rw [K3 48 (by decide)]; exact y2, by rw [K3 71 (by decide)]; exact y3, by rw [K3 74 (by decide)]; exact y4, by rw [K3 76 (by decide)]; exact y5, by rw [K3 77 (by decide)]; exact y6, z3, by rw [K2 91 (by decide)]; exact w7.1, by rw [K2 97 (by decide)]; exact w10, by rw [K2 98 (by decide)]; exact w11, by rw [K2 99 (by decide)]; exact w12, by rw [K2 100 (by decide)]; exact w13, (K 39 (by decide)).trans i1.2.2.2.2.2.2.2.2.2.2.2.2.1, (K 40 (by decide)).trans i1.2.2.2.2.2.2.2.2.2.2.2.2.2⟩ ⟨?_, ?_⟩ (K 42 (by decide)) (K 79 (by decide)) ?_ (K 44 (by decide)) (K 92 (by decide)) W46 ?_ (fun a ha hne => ?_) Wd (fun r hr hne => ?_) ⟨z4, z5⟩
    · rw [W78, w3 3 (by omega), W41, g41 10 (by decide)]; exact i2.1
    · rw [W78, w3 4 (by omega), W41, g41 11 (by decide)]; exact i2.2
    · rw [W78, w3 1 (by omega)]
    · rw [W41, g419]
    · obtain ⟨x1, x2, x3, x4, x5, x6, x7, x8⟩ := dd a ha
      exact WS a x2 (by omega) x3 x4 x1 hne
    · obtain ⟨x1, x2, x3, x4, x5, x6⟩ := d8 r hr
      exact WS _ x2 (by omega) x4 x5 x1 (n9 _ x3)
  · right
    have ak : a_keep S3 (Int32.ofNat n0) = some (S3, 1) := by
      by_cases hb : (bV T).length ≤ 4096
      · have := akeep_val (S := S3) (t := T) (dr := dr) (ra := ra) (n := n0) wo hd9 (e46.trans g1) g2 g3 (by rw [hd, hB1 hb]) hn0
        rw [if_neg hg] at this
        exact this
      · exact akeep_over hd9 (by omega) hd (hB2 (by omega))
    have f3n : ∀ a, a ≠ 41 → a ≠ 46 → a ∉ cSc → a ∉ nine → S3 a = S a := fun a _ _ x3 x4 => f3 a x3 (n9 a x4)
    obtain ⟨T2, w1, w2, w3, w4, w5, w6, ⟨C', w7, w7d⟩, w8, w10, w11, w12, w13⟩ := rs S3 f3n
    have w9 := l82 S3 T2 f3n w2
    have fv : ∃ W, b_finish T2 (Int32.ofNat n0) c2 c3 = some W ∧ (∀ a, a ≠ 80 → a ≠ 94 → a ≠ 78 → W a = T2 a) ∧ (W 80).length = 9000 ∧ rd W 78 0 = c3 ∧ ∀ k, k ≠ 0 → rd W 78 k = rd T2 78 k := by
      rcases w7d with e | ⟨e, -⟩
      · exact (finish_val (t := T) c2 c3 hn0 w5 w4 w6 wo (by rw [← e]; exact w7) w8 w9).2 hg
      · have h2 : rd T2 90 2 = 1 := w7.2.2.2 e
        refine ⟨wr T2 78 0 c3, ?_, fun a _ _ h => wr_ne h, by rw [wr_ne (by decide)]; exact w8, rd_wr (by rw [w6]; decide), fun k hk => rd_wr_j (fun e => hk e.symm)⟩
        unfold b_finish b_fits
        rw [w5, if_pos (by decide), h2, if_neg (by decide), o_bind, if_pos rfl]
    obtain ⟨W, z1, z2, z3, z4, z5⟩ := fv
    have Wf : ∀ a, a ∉ rSc → W a = S3 a := fun a x1 => by
      have h80 : a ≠ 80 := fun e => x1 (e ▸ by decide)
      have h94 : a ≠ 94 := fun e => x1 (e ▸ by decide)
      have h78 : a ≠ 78 := fun e => x1 (e ▸ by decide)
      rw [z2 a h80 h94 h78, w2 a x1]
    have WS : ∀ a, a ∉ rSc → a ∉ cSc → a ≠ dr → W a = S a := fun a x1 x2 x3 => (Wf a x1).trans (f3 a x2 x3)
    have W41 : ∀ k, rd W 41 k = rd S 41 k := fun k => by unfold rd; rw [WS 41 (by decide) (by decide) (n9 41 (by decide))]
    have W78 : ∀ k, k = 1 ∨ k = 3 ∨ k = 4 → rd W 78 k = rd S 78 k := fun k hk => by rw [z5 k (by omega), w3 k hk]
    refine ⟨W, ak, f3 0 (by decide) (n9 0 (by decide)), by rw [w1, z1, o_bind], z4, WS 0 (by decide) (by decide) (n9 0 (by decide)), ?_⟩
    have K : ∀ a, a ∈ [39, 40, 42, 79, 44, 92, 46] → W a = S a := fun a ha => by
      have d : ∀ a ∈ [39, 40, 42, 79, 44, 92, 46], a ∉ rSc ∧ a ∉ cSc ∧ a ∉ nine := by decide
      obtain ⟨x1, x2, x3⟩ := d a ha
      exact WS a x1 x2 (n9 a x3)
    have K3 : ∀ a, a ∈ [47, 48, 71, 74, 76, 77] → W a = S3 a := fun a ha => by
      have d : ∀ a ∈ [47, 48, 71, 74, 76, 77], a ∉ rSc := by decide
      exact Wf a (d a ha)
    have K2 : ∀ a, a ∈ [97, 98, 99, 100, 91] → W a = T2 a := fun a ha => by
      have d : ∀ a ∈ [97, 98, 99, 100, 91], a ≠ 80 ∧ a ≠ 94 ∧ a ≠ 78 := by decide
      obtain ⟨x1, x2, x3⟩ := d a ha
      exact z2 a x1 x2 x3
    obtain ⟨y1, y2, y3, y4, y5, y6⟩ := lc
    exact finA i3 i4 i5 ⟨by unfold rd; rw [K3 47 (by decide)]; exact y1, by rw [K3 48 (by decide)]; exact y2, by rw [K3 71 (by decide)]; exact y3, by rw [K3 74 (by decide)]; exact y4, by rw [K3 76 (by decide)]; exact y5, by rw [K3 77 (by decide)]; exact y6, z3, by rw [K2 91 (by decide)]; exact w7.1, by rw [K2 97 (by decide)]; exact w10, by rw [K2 98 (by decide)]; exact w11, by rw [K2 99 (by decide)]; exact w12, by rw [K2 100 (by decide)]; exact w13, (K 39 (by decide)).trans i1.2.2.2.2.2.2.2.2.2.2.2.2.1, (K 40 (by decide)).trans i1.2.2.2.2.2.2.2.2.2.2.2.2.2⟩ ⟨by rw [W78 3 (by omega), W41]; exact i2.1, by rw [W78 4 (by omega), W41]; exact i2.2⟩ (K 42 (by decide)) (K 79 (by decide)) (W78 1 (by omega)) (K 44 (by decide)) (K 92 (by decide)) (K 46 (by decide)) (W41 9) (fun a ha hne => WS a (dd a ha).2.1 (dd a ha).1 hne) (fun r hr => WS _ (d8 r hr).2.1 (d8 r hr).1 (n9 _ (d8 r hr).2.2.1))
theorem eqT.fin {B X : List Int32} (h : eqT B X) : (X.length ≤ 4096 → B = X) ∧ (4096 < X.length → 4096 < B.length) := by
  rcases h with h | ⟨h1, h2⟩
  · exact ⟨fun _ => h, fun c => by rw [h]; exact c⟩
  · exact ⟨fun c => absurd c (by omega), fun _ => h1⟩
/-- the reference's set, up to its end -/
theorem bset_val {T0 : SS} {n0 n1 n2 n3 : Nat} {t pt vt : Vl} (l78 : (T0 78).length = 22) (l90 : (T0 90).length = 3) (l91 : (T0 91).length = 9000) (h39 : T0 39 = mp_aS) (h40 : T0 40 = mp_aE) (hn0 : n0 < 8) (hn1 : n1 < 8) (hn2 : n2 < 8) (hn3 : n3 < 8) (ca : cat (T0 (82 + n1)) 0 t) (cp : cat (T0 (82 + n2)) 0 pt) (cv : cat (T0 (82 + n3)) 0 vt) (hd : dV t ≤ 60) : ∃ T2, b_set T0 (Int32.ofNat n0) (Int32.ofNat n1) (Int32.ofNat n2) (Int32.ofNat n3) = ((b_finish T2 (Int32.ofNat n0) 2 3).bind fun r => some r) ∧ (∀ a, a ≠ 78 → a ≠ 90 → a ≠ 91 → T2 a = T0 a) ∧ (∀ k, k = 1 ∨ k = 3 ∨ k = 4 → rd T2 78 k = rd T0 78 k) ∧ rd T2 78 0 = 0 ∧ (T2 78).length = 22 ∧ (T2 91).length = 9000 ∧ (∀ U, pt.1 = 5 → (toL pt.2.2.2).length ≤ 100 → putS ((toL pt.2.2.2).map fun m => m.2) t none vt = some U → rd T2 78 12 = 0 ∧ ∃ C', OutV T2 C' ∧ (C' = cV U ∨ (9000 < C'.length ∧ ¬ good U))) ∧ (¬ (pt.1 = 5 ∧ (toL pt.2.2.2).length ≤ 100 ∧ putS ((toL pt.2.2.2).map fun m => m.2) t none vt ≠ none) → ¬ rd T2 78 12 ≤ 0) := by
  obtain ⟨S1, b1, b2, b3, b4, b5, b6, b7⟩ := begin_val l78 l90 l91
  have reg : ∀ n, n < 8 → b_none S1 (Int32.ofNat n) = some 0 := by
    intro n hn
    have : ¬ Int32.ofNat n < 0 ∧ Int32.ofNat n < 8 := ⟨i_nn (by omega), by rw [show (8 : Int32) = Int32.ofNat 8 from rfl, i_lt' (by omega) (by omega)]; exact hn⟩
    exact (reg_ok S1 this).2.1
  obtain ⟨d1, d1'⟩ := get81 n1 hn1
  obtain ⟨d2, d2'⟩ := get81 n2 hn2
  obtain ⟨d3, d3'⟩ := get81 n3 hn3
  obtain ⟨T, hT⟩ : ∃ T, T = wr (wr S1 78 19 (Int32.ofNat (82 + n2))) 78 20 (Int32.ofNat (82 + n3)) := ⟨_, rfl⟩
  have t19 : rd T 78 19 = Int32.ofNat (82 + n2) := by rw [hT, rd_wr_j (by decide), rd_wr (by rw [b6]; decide)]
  have t20 : rd T 78 20 = Int32.ofNat (82 + n3) := by rw [hT, rd_wr (by rw [wr_len, b6]; decide)]
  have tk : ∀ k, k ≠ 19 → k ≠ 20 → rd T 78 k = rd S1 78 k := fun k k1 k2 => by rw [hT, rd_wr_j (fun e => k2 e.symm), rd_wr_j (fun e => k1 e.symm)]
  have lT : (T 78).length = 22 := by rw [hT, wr_len, wr_len]; exact b6
  have oth : ∀ a, a ≠ 78 → a ≠ 90 → T a = T0 a := fun a n1 n2 => by rw [hT, wr_ne n1, wr_ne n1, b2 a n1 n2]
  have oT : OutV T [] := by
    unfold OutV rd at b7 ⊢
    rw [hT, wr_ne (by decide), wr_ne (by decide), wr_ne (by decide), wr_ne (by decide)]
    exact b7
  have t12 : rd T 78 12 = 0 := by rw [tk 12 (by decide) (by decide)]; exact b5
  have n19 : ¬ rd T 78 19 = 0 := by rw [t19, show (0 : Int32) = Int32.ofNat 0 from rfl, i_inj (by omega) (by omega)]; omega
  have cp' : cat (T (82 + n2)) 0 pt := by rw [oth _ (by omega) (by omega)]; exact cp
  have head : b_set T0 (Int32.ofNat n0) (Int32.ofNat n1) (Int32.ofNat n2) (Int32.ofNat n3) = (if Int32.ofNat pt.1 = (5 : Int32) then ((r_many (T (82 + n2)) 0).bind fun r22 => (if r22 ≤ (100 : Int32) then ((b_put 70 T (82 + n1) 0 2 0).bind fun r26 => ((b_finish r26 (Int32.ofNat n0) 2 3).bind fun r28 => some r28)) else ((b_refuse T 2).bind fun r30 => ((b_finish r30 (Int32.ofNat n0) 2 3).bind fun r32 => some r32)))) else ((b_refuse T 1).bind fun r34 => ((b_finish r34 (Int32.ofNat n0) 2 3).bind fun r36 => some r36))) := by
    unfold b_set
    rw [b1, o_bind, reg n0 hn0, o_bind, if_pos rfl, reg n1 hn1, o_bind, if_pos rfl, reg n2 hn2, o_bind, if_pos rfl, reg n3 hn3, o_bind, if_pos rfl, d2, o_bind, d3, o_bind, d2', d3', ← hT, if_neg n19, t19, d2', show iget (T (82 + n2)) 0 = some (Int32.ofNat pt.1) from cp'.kind, o_bind, d1, o_bind, d1']
  have k6 := cp.2.1.1
  have refd : ∀ v : Int32, ¬ v ≤ 0 → (b_refuse T v = some (wr T 78 12 v)) ∧ (∀ a, a ≠ 78 → a ≠ 90 → a ≠ 91 → wr T 78 12 v a = T0 a) ∧ (∀ k, k = 1 ∨ k = 3 ∨ k = 4 → rd (wr T 78 12 v) 78 k = rd T0 78 k) ∧ rd (wr T 78 12 v) 78 0 = 0 ∧ (wr T 78 12 v 78).length = 22 ∧ (wr T 78 12 v 91).length = 9000 ∧ ¬ rd (wr T 78 12 v) 78 12 ≤ 0 := by
    intro v hv
    refine ⟨by unfold b_refuse; rw [t12, if_pos rfl], fun a x1 x2 _ => by rw [wr_ne x1, oth a x1 x2], fun k hk => by rw [rd_wr_j (by omega), tk k (by omega) (by omega), b3 k (by omega) (by omega)], by rw [rd_wr_j (by decide), tk 0 (by decide) (by decide)]; exact b4, by rw [wr_len]; exact lT, by rw [wr_ne (by decide), oth 91 (by decide) (by decide)]; exact l91, by rw [rd_wr (by rw [lT]; decide)]; exact hv⟩
  rw [head]
  by_cases e5 : pt.1 = 5
  · obtain ⟨kp, vp, sp, fp⟩ := pt
    obtain ⟨lp, rfl⟩ : ∃ l, fp = ofL l := ⟨toL fp, (ofL_toL fp).symm⟩
    have e5 : kp = 5 := e5
    subst e5
    have etl : toL ((5, vp, sp, ofL lp) : Vl).2.2.2 = lp := toL_ofL lp
    rw [etl]
    obtain ⟨-, -, r, dp⟩ := id cp'
    have hm := many_val (p := 0) (r := r) cp'.1 cp'.2.1.kids (Or.inl rfl) dp
    rw [if_pos (show Int32.ofNat ((5, vp, sp, ofL lp) : Vl).1 = 5 from rfl), show r_many (T (82 + n2)) 0 = some (Int32.ofNat lp.length) from hm, o_bind]
    have hlp : lp.length ≤ 9000 := by
      obtain ⟨y1, y2, -⟩ := pos_in cp' (Nat.le_refl lp.length)
      have := cp'.next.2
      have h9 := cp'.1
      have hbl := blks_len false lp
      have hfl := flat2 _ (blks_h (b := false) cp'.2.1.kids)
      simp only [Bool.false_eq_true, if_false] at hbl
      omega
    by_cases hl : lp.length ≤ 100
    · rw [if_pos (by rw [show (100 : Int32) = Int32.ofNat 100 from rfl, i_le' (by omega) (by omega)]; exact hl)]
      have hP : prP T (82 + n1) (82 + n2) (82 + n3) (5, vp, sp, ofL lp) vt := ⟨t19, t20, cp', by rw [oth _ (by omega) (by omega)]; exact cv, by rw [oth 39 (by decide) (by decide)]; exact h39, by rw [oth 40 (by decide) (by decide)]; exact h40, lT, by omega, by omega, by omega⟩
      have hA : atP T (82 + n2) 2 (cV (5, vp, sp, ofL lp)).length lp := by
        obtain ⟨y1, y2, r', y3, y4⟩ := pos_in cp' (Nat.zero_le lp.length)
        have h9 := cp'.1
        have hn := cp'.next.2
        refine ⟨cp'.2.1.kids, ?_, by omega, by omega, r', y4⟩
        rw [cV_5] at dp
        have := iget_drop (p := 1) (r := (blks false lp).flatten ++ r) cp'.1 (x := Int32.ofNat ((blks false lp).flatten.length + 2)) (by
          have := drop_more (w := [(5 : Int32)]) (p := 0) (r := Int32.ofNat ((blks false lp).flatten.length + 2) :: ((blks false lp).flatten ++ r)) (us := T (82 + n2)) (by simpa using dp)
          simpa using this)
        rw [cV_5]
        simp only [List.length_cons]
        exact this
      obtain ⟨T2, j1, j2, C', j3, j4, j5⟩ := put_val 70 0 (by decide) (by decide) lp T [] (Int32.ofNat 0) t 2 hP hA oT t12 (Or.inr ⟨0, rfl, by omega, by rw [oth _ (by omega) (by omega)]; exact ca⟩) (fun _ => by omega)
      rw [show (0 : Int32) = Int32.ofNat 0 from rfl, show (2 : Int32) = Int32.ofNat 2 from rfl, j1, o_bind]
      refine ⟨T2, rfl, fun a x1 x2 x3 => by rw [j2.1 a x1 x2 x3, oth a x1 x2], fun k hk => by rw [j2.2.1 k (by omega) (by omega) (by omega), tk k (by omega) (by omega), b3 k (by omega) (by omega)], by rw [j2.2.1 0 (by decide) (by decide) (by decide), tk 0 (by decide) (by decide)]; exact b4, by rw [j2.2.2]; exact lT, j3.1, fun U _ _ hU => ?_, fun hn => ?_⟩
      · obtain ⟨u1, u2, u3⟩ := j4 U hU
        refine ⟨u1, C', by simpa using j3, ?_⟩
        rcases u3 with c | ⟨c1, c2⟩
        · exact Or.inl c
        · refine Or.inr ⟨c1, fun g => ?_⟩
          have := g.2
          omega
      · apply j5
        apply Classical.byContradiction
        intro c
        exact hn ⟨rfl, hl, c⟩
    · obtain ⟨r1, r2, r3, r4, r5, r6, r7⟩ := refd 2 (by decide)
      rw [if_neg (by rw [show (100 : Int32) = Int32.ofNat 100 from rfl, i_le' (by omega) (by omega)]; exact hl), r1, o_bind]
      exact ⟨_, rfl, r2, r3, r4, r5, r6, fun U _ c _ => absurd c hl, fun _ => r7⟩
  · obtain ⟨r1, r2, r3, r4, r5, r6, r7⟩ := refd 1 (by decide)
    rw [if_neg (kne5 k6 e5), r1, o_bind]
    exact ⟨_, rfl, r2, r3, r4, r5, r6, fun U c _ _ => absurd c e5, fun _ => r7⟩
/-- set -/
theorem op5 : stp5 Inv := by
  intro S p0 p1 p2 p3 hcs hI
  obtain ⟨l78, l41, l90, -, l67, -, l69, l70, -⟩ := cs.l78 hcs
  obtain ⟨i1, i2, ⟨tape, i3⟩, ⟨res, i4⟩, ts, dr, ra, i5⟩ := id hI
  obtain ⟨g1, g2, g3, g4, g5⟩ := id i5
  have l91 : (S 91).length = 9000 := i1.2.2.2.2.2.2.2.1
  have h39 : S 39 = mp_aS := i1.2.2.2.2.2.2.2.2.2.2.2.2.1
  have h40 : S 40 = mp_aE := i1.2.2.2.2.2.2.2.2.2.2.2.2.2
  have bad : a_set S p0 p1 p2 p3 = some (S, 2) → (∀ S1, b_begin S = some S1 → b_set S p0 p1 p2 p3 = some (wr S1 78 0 1)) → ∃ (c : SS × Int32) (w : SS), h_set S p0 p1 p2 p3 = some c ∧ c.1 0 = S 0 ∧ b_set c.1 p0 p1 p2 p3 = some w ∧ rd w 78 0 = c.2 ∧ w 0 = S 0 ∧ Inv w := by
    intro e1 e2
    obtain ⟨S1, b1, b2, b3, b4, b5, b6, b7⟩ := begin_val l78 l90 l91
    obtain ⟨z1, z2, z3⟩ := bad_begin hI b6 b2 b3
    refine ⟨(S, 1), wr S1 78 0 1, ?_, rfl, e2 S1 b1, z1, z2, z3⟩
    unfold h_set
    rw [e1, o_bind, if_neg (show ¬ (2 : Nat) = 0 by decide), if_pos rfl]
  by_cases h0 : ¬ p0 < 0 ∧ p0 < 8
  rotate_left
  · refine bad ?_ fun S1 b1 => ?_
    · unfold a_set; rw [(reg_bad S h0).1, o_bind, if_neg (show ¬ (2 : Nat) = 0 by decide)]
    · unfold b_set; rw [b1, o_bind, (reg_bad S1 h0).2, o_bind, if_neg (by decide)]
  by_cases h1 : ¬ p1 < 0 ∧ p1 < 8
  rotate_left
  · refine bad ?_ fun S1 b1 => ?_
    · unfold a_set; rw [(reg_ok S h0).1, o_bind, if_pos rfl, (reg_bad S h1).1, o_bind, if_neg (show ¬ (2 : Nat) = 0 by decide)]
    · unfold b_set; rw [b1, o_bind, (reg_ok S1 h0).2.1, o_bind, if_pos rfl, (reg_bad S1 h1).2, o_bind, if_neg (by decide)]
  by_cases h2 : ¬ p2 < 0 ∧ p2 < 8
  rotate_left
  · refine bad ?_ fun S1 b1 => ?_
    · unfold a_set; rw [(reg_ok S h0).1, o_bind, if_pos rfl, (reg_ok S h1).1, o_bind, if_pos rfl, (reg_bad S h2).1, o_bind, if_neg (show ¬ (2 : Nat) = 0 by decide)]
    · unfold b_set; rw [b1, o_bind, (reg_ok S1 h0).2.1, o_bind, if_pos rfl, (reg_ok S1 h1).2.1, o_bind, if_pos rfl, (reg_bad S1 h2).2, o_bind, if_neg (by decide)]
  by_cases h3 : ¬ p3 < 0 ∧ p3 < 8
  rotate_left
  · refine bad ?_ fun S1 b1 => ?_
    · unfold a_set; rw [(reg_ok S h0).1, o_bind, if_pos rfl, (reg_ok S h1).1, o_bind, if_pos rfl, (reg_ok S h2).1, o_bind, if_pos rfl, (reg_bad S h3).1, o_bind, if_neg (show ¬ (2 : Nat) = 0 by decide)]
    · unfold b_set; rw [b1, o_bind, (reg_ok S1 h0).2.1, o_bind, if_pos rfl, (reg_ok S1 h1).2.1, o_bind, if_pos rfl, (reg_ok S1 h2).2.1, o_bind, if_pos rfl, (reg_bad S1 h3).2, o_bind, if_neg (by decide)]
  obtain ⟨a0, -, n0, hn0, rfl⟩ := reg_ok S h0
  obtain ⟨a1, -, n1, hn1, rfl⟩ := reg_ok S h1
  obtain ⟨a2, -, n2, hn2, rfl⟩ := reg_ok S h2
  obtain ⟨a3, -, n3, hn3, rfl⟩ := reg_ok S h3
  have hdn : dr ∈ nine := g3.mem_iff.mp List.mem_cons_self
  have n9 : ∀ a, a ∉ nine → a ≠ dr := fun a ha e => ha (e ▸ hdn)
  have nt : ∀ a ∈ nine, nU a := by unfold nU; decide
  have m1 := ra_mem g3 g2 hn1
  have m2 := ra_mem g3 g2 hn2
  have m3 := ra_mem g3 g2 hn3
  obtain ⟨c1, c1'⟩ := get46 g1 g2 hn1 (nt _ m1).1
  obtain ⟨c2, c2'⟩ := get46 g1 g2 hn2 (nt _ m2).1
  obtain ⟨c3, c3'⟩ := get46 g1 g2 hn3 (nt _ m3).1
  obtain ⟨v1, k1⟩ := reg_vat (g5 n1 hn1)
  obtain ⟨v2, k2⟩ := reg_vat (g5 n2 hn2)
  obtain ⟨v3, k3⟩ := reg_vat (g5 n3 hn3)
  have tb : ∀ n, n < 8 → tT S (ra.getD n 0) = bV (ts n) := fun n hn => by unfold tT; rw [(g5 n hn).1]; rfl
  have e9 : (rd S 41 9).toNatClampNeg = dr := by rw [g4]; exact i_cl (by have := (nt _ hdn).1; omega)
  have v1' := v1
  rw [tb n1 hn1] at v1'
  have v3' := v3
  rw [tb n3 hn3] at v3'
  obtain ⟨S3, e, u1, u2, u3, u4, u5⟩ := uput_val (S := S) (ta := ra.getD n1 0) (t1 := ra.getD n2 0) (t2 := ra.getD n3 0) (dr := dr) (t := ts n1) (pt := ts n2) (vt := ts n3) (nt _ m1) (nt _ m2) (nt _ m3) (nt _ hdn) (ra_ne g3 g2 hn1) (ra_ne g3 g2 hn2) (ra_ne g3 g2 hn3) (tb n1 hn1) v1' v2 (tb n3 hn3) v3' l67 l69 l70 i1.lenC.2.2.1
  have f3 : ∀ a, a ∉ cSc → a ≠ dr → S3 a = S a := fun a x1 x2 => u2 a (fun e => x1 (e ▸ by decide)) (fun e => x1 (e ▸ by decide)) (fun e => x1 (e ▸ by decide)) (fun e => x1 (e ▸ by decide)) x2
  have u2' : ∀ a, a ∈ [47, 48, 74, 76, 77] → S3 a = S a := fun a ha => by
    have d : ∀ a ∈ [47, 48, 74, 76, 77], a ≠ 67 ∧ a ≠ 69 ∧ a ≠ 70 ∧ a ≠ 71 ∧ a ∉ nine := by decide
    obtain ⟨x1, x2, x3, x4, x5⟩ := d a ha
    exact u2 a x1 x2 x3 x4 (n9 a x5)
  have lc : lenC S3 := by
    obtain ⟨y1, y2, y3, y4, y5, y6⟩ := i1.lenC
    exact ⟨by unfold rd; rw [u2' 47 (by decide)]; exact y1, by rw [u2' 48 (by decide)]; exact y2, u3, by rw [u2' 74 (by decide)]; exact y4, by rw [u2' 76 (by decide)]; exact y5, by rw [u2' 77 (by decide)]; exact y6⟩
  have eA : a_set S (Int32.ofNat n0) (Int32.ofNat n1) (Int32.ofNat n2) (Int32.ofNat n3) = ((a_refuse S3 e).bind fun r14 => if r14.2 = 0 then ((a_keep r14.1 (Int32.ofNat n0)).bind fun r16 => if r16.2 = 0 then some (r16.1, 0) else some (r16.1, r16.2)) else some (r14.1, r14.2)) := by
    unfold a_set
    rw [a0, o_bind, if_pos rfl, a1, o_bind, if_pos rfl, a2, o_bind, if_pos rfl, a3, o_bind, if_pos rfl, c1, o_bind, c2, o_bind, c3, o_bind, c1', c2', c3', e9, u1, o_bind]
  have d8 : ∀ r, r < 8 → 82 + r ∉ cSc ∧ 82 + r ∉ nine ∧ 82 + r ≠ 41 ∧ 82 + r ≠ 46 := by decide
  have refT : ∀ T0 : SS, (∀ a, a ≠ 41 → a ≠ 46 → a ∉ cSc → a ∉ nine → T0 a = S a) → ∃ T2, b_set T0 (Int32.ofNat n0) (Int32.ofNat n1) (Int32.ofNat n2) (Int32.ofNat n3) = ((b_finish T2 (Int32.ofNat n0) 2 3).bind fun r => some r) ∧ (∀ a, a ≠ 78 → a ≠ 90 → a ≠ 91 → T2 a = T0 a) ∧ (∀ k, k = 1 ∨ k = 3 ∨ k = 4 → rd T2 78 k = rd S 78 k) ∧ rd T2 78 0 = 0 ∧ (T2 78).length = 22 ∧ (T2 91).length = 9000 ∧ (∀ U, (ts n2).1 = 5 → (toL (ts n2).2.2.2).length ≤ 100 → putS ((toL (ts n2).2.2.2).map fun m => m.2) (ts n1) none (ts n3) = some U → rd T2 78 12 = 0 ∧ ∃ C', OutV T2 C' ∧ (C' = cV U ∨ (9000 < C'.length ∧ ¬ good U))) ∧ (¬ ((ts n2).1 = 5 ∧ (toL (ts n2).2.2.2).length ≤ 100 ∧ putS ((toL (ts n2).2.2.2).map fun m => m.2) (ts n1) none (ts n3) ≠ none) → ¬ rd T2 78 12 ≤ 0) ∧ lenR T2 := by
    intro T0 hT0
    have e82 : ∀ n, n < 8 → T0 (82 + n) = S (82 + n) := fun n hn => by
      obtain ⟨x1, x2, x3, x4⟩ := d8 n hn
      exact hT0 _ x3 x4 x1 x2
    have e78 : T0 78 = S 78 := hT0 78 (by decide) (by decide) (by decide) (by decide)
    obtain ⟨T2, w1, w2, w3, w4, w5, w6, w7, w8⟩ := bset_val (T0 := T0) (n0 := n0) (n1 := n1) (n2 := n2) (n3 := n3) (t := ts n1) (pt := ts n2) (vt := ts n3) (by rw [e78]; exact l78) (by rw [hT0 90 (by decide) (by decide) (by decide) (by decide)]; exact l90) (by rw [hT0 91 (by decide) (by decide) (by decide) (by decide)]; exact l91) (by rw [hT0 39 (by decide) (by decide) (by decide) (by decide)]; exact h39) (by rw [hT0 40 (by decide) (by decide) (by decide) (by decide)]; exact h40) hn0 hn1 hn2 hn3 (by rw [e82 n1 hn1]; exact k1) (by rw [e82 n2 hn2]; exact k2) (by rw [e82 n3 hn3]; exact k3) (g5 n1 hn1).2.2.2.1
    refine ⟨T2, w1, w2, fun k hk => by rw [w3 k hk]; unfold rd; rw [e78], w4, w5, w6, w7, w8, ?_⟩
    obtain ⟨y1, y2, y3, y4, y5⟩ := i1.lenR
    have er : ∀ a, a ∈ [80, 97, 98, 99, 100] → T2 a = S a := fun a ha => by
      have d : ∀ a ∈ [80, 97, 98, 99, 100], a ≠ 78 ∧ a ≠ 90 ∧ a ≠ 91 ∧ a ≠ 41 ∧ a ≠ 46 ∧ a ∉ cSc ∧ a ∉ nine := by decide
      obtain ⟨x1, x2, x3, x4, x5, x6, x7⟩ := d a ha
      rw [w2 a x1 x2 x3, hT0 a x4 x5 x6 x7]
    exact ⟨by rw [er 80 (by decide)]; exact y1, by rw [er 97 (by decide)]; exact y2, by rw [er 98 (by decide)]; exact y3, by rw [er 99 (by decide)]; exact y4, by rw [er 100 (by decide)]; exact y5⟩
  have rs_ok : ∀ (T0 T2 : SS), (∀ a, a ≠ 78 → a ≠ 90 → a ≠ 91 → T2 a = T0 a) → ∀ a, a ∉ rSc → T2 a = T0 a := fun T0 T2 h a ha => h a (fun e => ha (e ▸ by decide)) (fun e => ha (e ▸ by decide)) (fun e => ha (e ▸ by decide))
  by_cases he : e = 0
  · obtain ⟨q1, q2, U, q3, q4, Bf, q5, q6⟩ := u4 he
    obtain ⟨hB1, hB2⟩ := q6.fin
    have eA' : a_set S (Int32.ofNat n0) (Int32.ofNat n1) (Int32.ofNat n2) (Int32.ofNat n3) = ((a_keep S3 (Int32.ofNat n0)).bind fun r16 => if r16.2 = 0 then some (r16.1, 0) else some (r16.1, r16.2)) := by
      rw [eA, (refuse_a e).1 he, o_bind, if_pos rfl]
    rcases fin_call2 (bc := fun T => b_set T (Int32.ofNat n0) (Int32.ofNat n1) (Int32.ofNat n2) (Int32.ofNat n3)) (c2 := 2) (c3 := 3) l41 i1 i2 i3 i4 i5 hn0 q4 f3 lc q5 hB1 hB2 (fun T0 hT0 => by
      obtain ⟨T2, w1, w2, w3, w4, w5, w6, w7, w8, w9⟩ := refT T0 hT0
      obtain ⟨y1, y2⟩ := w7 U q1 q2 q3
      exact ⟨T2, w1, rs_ok T0 T2 w2, w3, w4, y1, w5, y2, w9⟩) with ⟨Sg, W, z1, z2, z3, z4, z5, z6⟩ | ⟨W, z1, z2, z3, z4, z5, z6⟩
    · refine ⟨(Sg, 0), W, ?_, z2, z3, z4, z5, z6⟩
      unfold h_set
      rw [eA', z1, o_bind, if_pos rfl, o_bind, if_pos rfl]
    · refine ⟨(S3, 3), W, ?_, z2, z3, z4, z5, z6⟩
      unfold h_set
      rw [eA', z1, o_bind, if_neg (show ¬ (1 : Nat) = 0 by decide), o_bind, if_neg (show ¬ (1 : Nat) = 0 by decide), if_neg (show ¬ (1 : Nat) = 2 by decide), if_neg (show ¬ (1 : Nat) = 4 by decide), if_pos rfl]
  · have hne : ¬ ((ts n2).1 = 5 ∧ (toL (ts n2).2.2.2).length ≤ 100 ∧ putS ((toL (ts n2).2.2.2).map fun m => m.2) (ts n1) none (ts n3) ≠ none) := fun c => c.2.2 (u5 he c.1 c.2.1)
    obtain ⟨Sc, hSc⟩ : ∃ Sc, Sc = wr S3 41 11 e := ⟨_, rfl⟩
    have hT0 : ∀ a, a ≠ 41 → a ≠ 46 → a ∉ cSc → a ∉ nine → Sc a = S a := fun a x1 _ x3 x4 => by rw [hSc, wr_ne x1, f3 a x3 (n9 a x4)]
    obtain ⟨T2, w1, w2, w3, w4, w5, w6, w7, w8, w9⟩ := refT Sc hT0
    have e41 : S3 41 = S 41 := f3 41 (by decide) (n9 41 (by decide))
    have lcS : lenC Sc := by
      obtain ⟨y1, y2, y3, y4, y5, y6⟩ := lc
      exact ⟨by rw [hSc, rd_wr_ne (by decide)]; exact y1, by rw [hSc, wr_ne (by decide)]; exact y2, by rw [hSc, wr_ne (by decide)]; exact y3, by rw [hSc, wr_ne (by decide)]; exact y4, by rw [hSc, wr_ne (by decide)]; exact y5, by rw [hSc, wr_ne (by decide)]; exact y6⟩
    obtain ⟨W, z1, z2, z3, z4, z5⟩ := fin_refused (S := S) (Sc := Sc) (bc := fun T => b_set T (Int32.ofNat n0) (Int32.ofNat n1) (Int32.ofNat n2) (Int32.ofNat n3)) (T2 := T2) i1 i2 i3 i4 i5 (fun a x1 x2 x3 => by rw [hSc, wr_ne x3, f3 a x1 x2]) (fun k hk => by rw [hSc, rd_wr_j (fun c => hk c.symm)]; unfold rd; rw [e41]) lcS w1 (rs_ok Sc T2 w2) (fun k hk => w3 k (by omega)) (w8 hne) w5 w6 w9
    refine ⟨(Sc, 2), W, ?_, z1, z2, z3, z4, z5⟩
    unfold h_set
    rw [eA, (refuse_a e).2 he, o_bind, if_neg (show ¬ (4 : Nat) = 0 by decide), o_bind, if_neg (show ¬ (4 : Nat) = 0 by decide), if_neg (show ¬ (4 : Nat) = 2 by decide), if_pos rfl, hSc]
end Set166
end

section
/-! Values as rows of numbers that stand in the same ORDER. -/
section Key167
def thenC (c d : Int32) : Int32 := if c = 0 then d else c
theorem cmpS_c (x y : Int32) (a b : List Int32) : cmpS (x :: a) (y :: b) = if x = y then cmpS a b else if y ≤ x then 1 else -1 := rfl
def keyS (s : List Int32) : List Int32 := s.map (fun c => c + 1) ++ [0]
def keyN (l : List (List Int32)) : List Int32 := l.flatMap (fun s => 1 :: keyS s) ++ [0]
def keyA (R : Vl → List Int32) (l : List Mb) : List Int32 := l.flatMap (fun m => 1 :: R m.2) ++ [0]
def keyV (v : Int) : List Int32 := [Int32.ofNat ((v + 9007199254740992).toNat / 1073741824), Int32.ofNat ((v + 9007199254740992).toNat % 1073741824)]
def key : Nat → Vl → List Int32
  | 0, _ => []
  | n + 1, t => Int32.ofNat t.1 :: (if t.1 = 3 then keyV t.2.1 else if t.1 = 4 then keyS t.2.2.1 else if t.1 = 5 then keyA (key n) (toL t.2.2.2) else if t.1 = 6 then keyN (nms (srt (toL t.2.2.2))) ++ keyA (key n) (srt (toL t.2.2.2)) else [])
theorem c_add {c : Int32} (h : 0 ≤ c ∧ c ≤ 127) : (c + 1).toInt = c.toInt + 1 ∧ 0 ≤ c.toInt ∧ c.toInt ≤ 127 := by
  obtain ⟨h1, h2⟩ := h
  rw [i_le] at h1 h2
  have z0 : (0 : Int32).toInt = 0 := rfl
  have z1 : (1 : Int32).toInt = 1 := rfl
  have z2 : (127 : Int32).toInt = 127 := rfl
  rw [i_add (by omega) (by omega)]
  omega
theorem okS.tl {c : Int32} {s : List Int32} (h : okS (c :: s)) : (0 ≤ c ∧ c ≤ 127) ∧ okS s := ⟨h c List.mem_cons_self, fun x hx => h x (List.mem_cons_of_mem _ hx)⟩
theorem keyS_cmp : ∀ (s s' r r' : List Int32), okS s → okS s' → cmpS (keyS s ++ r) (keyS s' ++ r') = thenC (cmpS s s') (cmpS r r') := by
  intro s
  have z0 : (0 : Int32).toInt = 0 := rfl
  induction s with
  | nil =>
    intro s' r r' _ hs'
    cases s' with
    | nil =>
      show cmpS (0 :: r) (0 :: r') = _
      rw [cmpS_c, if_pos rfl]
      rfl
    | cons c s' =>
      obtain ⟨h1, h2, h3⟩ := c_add hs'.tl.1
      show cmpS (0 :: r) ((c + 1) :: (keyS s' ++ r')) = _
      rw [cmpS_c, if_neg (fun e => by have := congrArg Int32.toInt e; omega), if_neg (by rw [i_le]; omega)]
      rfl
  | cons c s ih =>
    intro s' r r' hs hs'
    obtain ⟨h1, h2, h3⟩ := c_add hs.tl.1
    cases s' with
    | nil =>
      show cmpS ((c + 1) :: (keyS s ++ r)) (0 :: r') = _
      rw [cmpS_c, if_neg (fun e => by have := congrArg Int32.toInt e; omega), if_pos (by rw [i_le]; omega)]
      rfl
    | cons c' s' =>
      obtain ⟨g1, g2, g3⟩ := c_add hs'.tl.1
      show cmpS ((c + 1) :: (keyS s ++ r)) ((c' + 1) :: (keyS s' ++ r')) = thenC (cmpS (c :: s) (c' :: s')) _
      rw [cmpS_c, cmpS_c, ih s' r r' hs.tl.2 hs'.tl.2]
      by_cases e : c = c'
      · rw [if_pos e, if_pos (by rw [e])]
      · have e' : ¬ c + 1 = c' + 1 := fun x => e (Int32.toInt_inj.mp (by have := congrArg Int32.toInt x; omega))
        rw [if_neg e, if_neg e']
        by_cases g : c' ≤ c
        · rw [if_pos g, if_pos (by rw [i_le] at g ⊢; omega)]
          rfl
        · rw [if_neg g, if_neg (by rw [i_le] at g ⊢; omega)]
          rfl
theorem keyN_cmp : ∀ (l l' : List (List Int32)) (r r' : List Int32), (∀ s ∈ l, okS s) → (∀ s ∈ l', okS s) → cmpS (keyN l ++ r) (keyN l' ++ r') = thenC (namK l l') (cmpS r r') := by
  intro l
  induction l with
  | nil =>
    intro l' r r' _ _
    cases l' with
    | nil =>
      show cmpS (0 :: r) (0 :: r') = _
      rw [cmpS_c, if_pos rfl]
      rfl
    | cons s l' =>
      show cmpS (0 :: r) (1 :: _) = _
      rw [cmpS_c, if_neg (by decide), if_neg (by decide)]
      rfl
  | cons s l ih =>
    intro l' r r' h h'
    cases l' with
    | nil =>
      show cmpS (1 :: _) (0 :: r') = _
      rw [cmpS_c, if_neg (by decide), if_pos (by decide)]
      rfl
    | cons s' l' =>
      have e : ∀ (x : List Int32) (y : List (List Int32)) (z : List Int32), keyN (x :: y) ++ z = 1 :: (keyS x ++ (keyN y ++ z)) := fun x y z => by
        unfold keyN
        rw [List.flatMap_cons]
        simp
      rw [e, e, cmpS_c, if_pos rfl, keyS_cmp _ _ _ _ (h s List.mem_cons_self) (h' s' List.mem_cons_self), ih l' r r' (fun x hx => h x (List.mem_cons_of_mem _ hx)) (fun x hx => h' x (List.mem_cons_of_mem _ hx))]
      show _ = thenC (if cmpS s s' = 0 then namK l l' else cmpS s s') _
      unfold thenC
      by_cases c : cmpS s s' = 0
      · rw [if_pos c, if_pos c]
      · rw [if_neg c, if_neg c, if_neg c]
theorem keyA_cmp {R : Vl → List Int32} {Rc : Vl → Vl → Int32} : ∀ (l l' : List Mb) (r r' : List Int32), (∀ m ∈ l, ∀ m' ∈ l', ∀ r r', cmpS (R m.2 ++ r) (R m'.2 ++ r') = thenC (Rc m.2 m'.2) (cmpS r r')) → cmpS (keyA R l ++ r) (keyA R l' ++ r') = thenC (arrK Rc l l') (cmpS r r') := by
  intro l
  induction l with
  | nil =>
    intro l' r r' _
    cases l' with
    | nil =>
      show cmpS (0 :: r) (0 :: r') = _
      rw [cmpS_c, if_pos rfl]
      rfl
    | cons m l' =>
      show cmpS (0 :: r) (1 :: _) = _
      rw [cmpS_c, if_neg (by decide), if_neg (by decide)]
      rfl
  | cons m l ih =>
    intro l' r r' h
    cases l' with
    | nil =>
      show cmpS (1 :: _) (0 :: r') = _
      rw [cmpS_c, if_neg (by decide), if_pos (by decide)]
      rfl
    | cons m' l' =>
      have e : ∀ (x : Mb) (y : List Mb) (z : List Int32), keyA R (x :: y) ++ z = 1 :: (R x.2 ++ (keyA R y ++ z)) := fun x y z => by
        unfold keyA
        rw [List.flatMap_cons]
        simp
      rw [e, e, cmpS_c, if_pos rfl, h m List.mem_cons_self m' List.mem_cons_self, ih l' r r' (fun x hx y hy => h x (List.mem_cons_of_mem _ hx) y (List.mem_cons_of_mem _ hy))]
      show _ = thenC (if Rc m.2 m'.2 = 0 then arrK Rc l l' else Rc m.2 m'.2) _
      unfold thenC
      by_cases c : Rc m.2 m'.2 = 0
      · rw [if_pos c, if_pos c]
      · rw [if_neg c, if_neg c, if_neg c]
theorem keyV_cmp {v w : Int} (hv : -9007199254740991 ≤ v ∧ v ≤ 9007199254740991) (hw : -9007199254740991 ≤ w ∧ w ≤ 9007199254740991) (r r' : List Int32) : cmpS (keyV v ++ r) (keyV w ++ r') = thenC (l_cmp (Int64.ofInt v) (Int64.ofInt w)) (cmpS r r') := by
  have l1 := l_of (z := v) (by omega) (by omega)
  have l2 := l_of (z := w) (by omega) (by omega)
  obtain ⟨a, ha⟩ : ∃ a, a = (v + 9007199254740992).toNat := ⟨_, rfl⟩
  obtain ⟨b, hb⟩ : ∃ b, b = (w + 9007199254740992).toNat := ⟨_, rfl⟩
  have ba : a / 1073741824 < 2147483648 := by omega
  have bb : b / 1073741824 < 2147483648 := by omega
  have ma : a % 1073741824 < 2147483648 := by omega
  have mb : b % 1073741824 < 2147483648 := by omega
  unfold keyV
  rw [← ha, ← hb]
  show cmpS (Int32.ofNat (a / 1073741824) :: Int32.ofNat (a % 1073741824) :: r) (Int32.ofNat (b / 1073741824) :: Int32.ofNat (b % 1073741824) :: r') = _
  rw [cmpS_c, cmpS_c]
  by_cases e : v = w
  · have hab : a = b := by rw [ha, hb, e]
    rw [if_pos (by rw [hab]), if_pos (by rw [hab]), (l_cmp0 hv hw).mpr e]
    rfl
  · have hab : a ≠ b := by omega
    have hlc : l_cmp (Int64.ofInt v) (Int64.ofInt w) = if w ≤ v then 1 else -1 := by
      unfold l_cmp
      by_cases g : w ≤ v
      · rw [if_pos ((lg_ge _ _).mpr (by rw [l1, l2]; exact g)), if_neg (fun c => e (by rw [lg_eq] at c; have := congrArg Int64.toInt c; rw [l1, l2] at this; exact this)), if_pos g]
      · rw [if_neg (by rw [lg_ge, l1, l2]; exact g), if_neg g]
    rw [hlc]
    have hth : ∀ d, thenC (if w ≤ v then 1 else -1) d = if w ≤ v then 1 else -1 := fun d => by
      unfold thenC
      by_cases g : w ≤ v
      · rw [if_pos g, if_neg (by decide)]
      · rw [if_neg g, if_neg (by decide)]
    rw [hth]
    by_cases e1 : a / 1073741824 = b / 1073741824
    · rw [if_pos (by rw [e1]), if_neg (by rw [i_inj ma mb]; omega)]
      by_cases g : w ≤ v
      · rw [if_pos g, if_pos ((i_le' mb ma).mpr (by omega))]
      · rw [if_neg g, if_neg (by rw [i_le' mb ma]; omega)]
    · rw [if_neg (by rw [i_inj ba bb]; exact e1)]
      by_cases g : w ≤ v
      · rw [if_pos g, if_pos ((i_le' bb ba).mpr (by omega))]
      · rw [if_neg g, if_neg (by rw [i_le' bb ba]; omega)]
theorem nms_ok {l : List Mb} (h : okL l) : ∀ s ∈ nms (srt l), okS s := fun s hs => by
  unfold nms at hs
  obtain ⟨m, hm, rfl⟩ := List.mem_map.mp hs
  exact (h m ((srt_perm l).mem_iff.mp hm)).1
theorem key_cmp : ∀ (n : Nat) (t u : Vl) (r r' : List Int32), wV t → wV u → cmpS (key n t ++ r) (key n u ++ r') = thenC (cmpK n t u) (cmpS r r') := by
  intro n
  induction n with
  | zero => intro t u r r' _ _; rfl
  | succ n ih =>
    intro t u r r' ht hu
    obtain ⟨k, v, s, f⟩ := t
    obtain ⟨k', v', s', f'⟩ := u
    obtain ⟨l, rfl⟩ : ∃ l, f = ofL l := ⟨toL f, (ofL_toL f).symm⟩
    obtain ⟨l', rfl⟩ : ∃ l, f' = ofL l := ⟨toL f', (ofL_toL f').symm⟩
    have k6 : k ≤ 6 := ht.1
    have k6' : k' ≤ 6 := hu.1
    have eK : ∀ (k : Nat) (v : Int) (s : List Int32) (l : List Mb), key (n + 1) (k, v, s, ofL l) = Int32.ofNat k :: (if k = 3 then keyV v else if k = 4 then keyS s else if k = 5 then keyA (key n) l else if k = 6 then keyN (nms (srt l)) ++ keyA (key n) (srt l) else []) := fun k v s l => by
      show Int32.ofNat k :: (if k = 3 then keyV v else if k = 4 then keyS s else if k = 5 then keyA (key n) (toL (ofL l)) else if k = 6 then keyN (nms (srt (toL (ofL l)))) ++ keyA (key n) (srt (toL (ofL l))) else []) = _
      rw [toL_ofL]
    rw [eK, eK, List.cons_append, List.cons_append, cmpS_c]
    by_cases hk : k = k'
    · subst hk
      have es : cmpK (n + 1) (k, v, s, ofL l) (k, v', s', ofL l') = (if k = 3 then l_cmp (Int64.ofInt v) (Int64.ofInt v') else if k = 4 then cmpS s s' else if k = 5 then arrK (cmpK n) l l' else if k = 6 then (if namK (nms (srt l)) (nms (srt l')) = 0 then arrK (cmpK n) (srt l) (srt l') else namK (nms (srt l)) (nms (srt l'))) else 0) := by
        show (if k = k then _ else _) = _
        rw [if_pos rfl]
        simp only [toL_ofL]
      rw [if_pos rfl, es]
      by_cases e3 : k = 3
      · rw [if_pos e3, if_pos e3, if_pos e3]
        exact keyV_cmp (ht.2.1 e3) (hu.2.1 e3) r r'
      rw [if_neg e3, if_neg e3, if_neg e3]
      by_cases e4 : k = 4
      · rw [if_pos e4, if_pos e4, if_pos e4]
        exact keyS_cmp s s' r r' ht.2.2.1 hu.2.2.1
      rw [if_neg e4, if_neg e4, if_neg e4]
      by_cases e5 : k = 5
      · rw [if_pos e5, if_pos e5, if_pos e5]
        exact keyA_cmp l l' r r' (fun m hm m' hm' r r' => ih m.2 m'.2 r r' (ht.kids m hm).2 (hu.kids m' hm').2)
      rw [if_neg e5, if_neg e5, if_neg e5]
      by_cases e6 : k = 6
      · rw [if_pos e6, if_pos e6, if_pos e6, List.append_assoc, List.append_assoc, keyN_cmp _ _ _ _ (nms_ok ht.kids) (nms_ok hu.kids), keyA_cmp (Rc := cmpK n) (srt l) (srt l') r r' (fun m hm m' hm' r r' => ih m.2 m'.2 r r' (ht.kids m ((srt_perm l).mem_iff.mp hm)).2 (hu.kids m' ((srt_perm l').mem_iff.mp hm')).2)]
        unfold thenC
        by_cases c : namK (nms (srt l)) (nms (srt l')) = 0
        · rw [if_pos c, if_pos c]
        · rw [if_neg c, if_neg c, if_neg c]
      rw [if_neg e6, if_neg e6, if_neg e6]
      rfl
    · rw [if_neg (by rw [i_inj (by omega) (by omega)]; exact hk)]
      have es : cmpK (n + 1) (k, v, s, ofL l) (k', v', s', ofL l') = if k' ≤ k then 1 else -1 := by
        show (if k = k' then _ else if k' ≤ k then 1 else -1) = _
        rw [if_neg hk]
      rw [es]
      by_cases g : k' ≤ k
      · rw [if_pos g, if_pos ((i_le' (by omega) (by omega)).mpr g)]
        rfl
      · rw [if_neg g, if_neg (by rw [i_le' (by omega) (by omega)]; exact g)]
        rfl
/-- values compared by their rows -/
theorem cmpK_key {n : Nat} {t u : Vl} (ht : wV t) (hu : wV u) : cmpK n t u = cmpS (key n t) (key n u) := by
  have := key_cmp n t u [] [] ht hu
  rw [List.append_nil, List.append_nil] at this
  rw [this]
  show _ = thenC (cmpK n t u) 0
  unfold thenC
  by_cases c : cmpK n t u = 0
  · rw [if_pos c, c]
  · rw [if_neg c]
end Key167
end

section
/-! What del means on trees; the class goes along a path. -/
section Cut168
/-- what the steps lead to is cut out; nothing if it can't be -/
noncomputable def cutV : List Vl → Vl → Option (Nat × Nat) → Option Vl
  | [], t, w => match w with
    | none => some t
    | some (a, b) => some (5, t.2.1, t.2.2.1, ofL ((toL t.2.2.2).take a ++ (toL t.2.2.2).drop b))
  | pi :: ps, t, w =>
    if t.1 = 0 then some t
    else if pi.1 = 3 then (if t.1 = 5 then (if 0 ≤ atX pi.2.1 (winN t w) ∧ atX pi.2.1 (winN t w) < winN t w then (if ps.isEmpty then some (5, t.2.1, t.2.2.1, ofL ((toL t.2.2.2).take (winA t w + (atX pi.2.1 (winN t w)).toNat) ++ (toL t.2.2.2).drop (winA t w + (atX pi.2.1 (winN t w)).toNat + 1))) else (cutV ps (((toL t.2.2.2).getD (winA t w + (atX pi.2.1 (winN t w)).toNat) nulM).2) none).map (fun u => (5, t.2.1, t.2.2.1, ofL ((toL t.2.2.2).set (winA t w + (atX pi.2.1 (winN t w)).toNat) (((toL t.2.2.2).getD (winA t w + (atX pi.2.1 (winN t w)).toNat) nulM).1, u))))) else some t) else none)
    else if pi.1 = 4 then (if t.1 = 6 then (if (toL t.2.2.2).findIdx (fun m => m.1 == pi.2.2.1) < (toL t.2.2.2).length then (if ps.isEmpty then some (6, t.2.1, t.2.2.1, ofL ((toL t.2.2.2).take ((toL t.2.2.2).findIdx (fun m => m.1 == pi.2.2.1)) ++ (toL t.2.2.2).drop ((toL t.2.2.2).findIdx (fun m => m.1 == pi.2.2.1) + 1))) else (cutV ps (((toL t.2.2.2).getD ((toL t.2.2.2).findIdx (fun m => m.1 == pi.2.2.1)) nulM).2) none).map (fun u => (6, t.2.1, t.2.2.1, ofL ((toL t.2.2.2).set ((toL t.2.2.2).findIdx (fun m => m.1 == pi.2.2.1)) (((toL t.2.2.2).getD ((toL t.2.2.2).findIdx (fun m => m.1 == pi.2.2.1)) nulM).1, u))))) else some t) else none)
    else if pi.1 = 6 then (if @decide (okBd pi) (Classical.propDecidable _) = true then (if t.1 = 5 then cutV ps t (some (nwA pi (winA t w) (winE t w), nwB pi (winA t w) (winE t w))) else none) else none)
    else none
/-- a path of the array of paths -/
noncomputable def cutP (lp : List Mb) (t : Vl) : Option Vl := if lp = [] then some vNull else cutV (lp.map fun m => m.2) t none
theorem step_ap {vs : List Int32} {p : Nat} {v : Int} {s : List Int32} {lp : List Mb} {j : Nat} (h : vat vs p (5, v, s, ofL lp)) (hj : j < lp.length) : vat vs (ip false (p + 1) lp j) (lp[j]).2 ∧ t_next vs (Int32.ofNat (ip false (p + 1) lp j)) = some (if j + 1 < lp.length then Int32.ofNat (ip false (p + 1) lp (j + 1)) else -1) := by
  obtain ⟨e1, e2⟩ := h.elem hj
  refine ⟨e2, ?_⟩
  obtain ⟨i1, ⟨z, r, hz, i2⟩, i3⟩ := h.item (Or.inl rfl) hj
  have e : (5 == 6) = false := rfl
  rw [e, List.drop_eq_getElem_cons hj] at i2
  obtain ⟨n1, n2, n3, n4⟩ := nx h.1 h.2.1 (h.2.2.1.kids _ (List.getElem_mem hj)) hz i2
  rw [n3]
  by_cases hm : j + 1 < lp.length
  · rw [if_pos hm, if_neg (by rw [List.drop_eq_nil_iff]; omega), ip_1 false (p + 1) lp j hj]
  · rw [if_neg hm, if_pos (by apply List.drop_eq_nil_of_le; omega)]
/-- a span of bytes, and what is left without it and a comma -/
def remT (us : List Int32) (f e : Nat) (X : List Int32) : Prop := 0 < f ∧ f < e ∧ e < us.length ∧ ((tat us (Int32.ofNat e) = 44 ∧ us.take f ++ us.drop (e + 1) = X) ∨ (tat us (Int32.ofNat e) ≠ 44 ∧ tat us (Int32.ofNat (f - 1)) = 44 ∧ us.take (f - 1) ++ us.drop e = X) ∨ (tat us (Int32.ofNat e) ≠ 44 ∧ tat us (Int32.ofNat (f - 1)) ≠ 44 ∧ us.take f ++ us.drop e = X))
theorem remT_of {us r : List Int32} {b : Bool} {ob cl : Int32} {l : List Mb} {q lo hi : Nat} (hob : ob ≠ 44) (hcl : cl ≠ 44) (hl : us.length ≤ 4096) (h1 : lo < hi) (h2 : hi ≤ l.length) (hd : us.drop q = ob :: (jn (l.map (bM b)) ++ cl :: r)) : remT us (ip b (q + 1) l lo) (ip b (q + 1) l (hi - 1) + (bM b (l[hi - 1]'(by omega))).length) (us.take q ++ ob :: (jn ((l.take lo ++ l.drop hi).map (bM b)) ++ cl :: r)) := by
  obtain ⟨k1, k2, k3⟩ := cut_text (f := ip b (q + 1) l lo) (e := ip b (q + 1) l (hi - 1) + (bM b (l[hi - 1]'(by omega))).length) hob hcl hl h1 h2 hd rfl rfl
  refine ⟨k1, ?_, ?_, k3⟩
  · rw [ip_last h1 h2]
    have : jn (((l.drop lo).take (hi - lo)).map (bM b)) ≠ [] := by
      obtain ⟨x, y, hxy⟩ := nil_jn (b := b) (mid_ne h1 h2)
      rw [hxy]
      simp
    have := List.length_pos_iff.mpr this
    omega
  · obtain ⟨-, s2⟩ := span_at h1 h2 hd
    apply Classical.byContradiction
    intro c
    rw [List.drop_eq_nil_of_le (by omega)] at s2
    have := congrArg List.length s2
    simp only [List.length_nil, List.length_append, List.length_cons] at this
    omega
/-- where the class has come to, and what is left when that is cut out -/
def endC (S : SS) (ta : Nat) (us X : List Int32) : Prop := (spN S ta ∧ X = us) ∨ (∃ (q it : Nat) (t : Vl), spQ S ta q (Int32.ofNat it) t none ∧ remT us it (q + (bV t).length) X) ∨ (∃ (q : Nat) (it : Int32) (v : Int) (s : List Int32) (l : List Mb) (a b : Nat), spQ S ta q it (5, v, s, ofL l) (some (a, b)) ∧ X = us.take q ++ 91 :: (jn ((l.take a ++ l.drop b).map (bM false)) ++ 93 :: us.drop (q + (bV (5, v, s, ofL l)).length)))
def strC (S : SS) (ta : Nat) : Prop := ∃ (q : Nat) (it : Int32) (t : Vl) (w : Nat × Nat), spQ S ta q it t (some w) ∧ t.1 = 4
theorem box5 {us : List Int32} {q : Nat} {v : Int} {s : List Int32} {l : List Mb} (h : vat us q (5, v, s, ofL l)) : us.drop q = 91 :: (jn (l.map (bM false)) ++ 93 :: us.drop (q + (bV (5, v, s, ofL l)).length)) := by
  obtain ⟨h1, h2, h3, r, h4, h5⟩ := h
  have : us.drop (q + (bV (5, v, s, ofL l)).length) = r := by rw [← List.drop_drop, h4, List.drop_left]
  rw [this, h4, bV_5]
  simp
theorem box6 {us : List Int32} {q : Nat} {v : Int} {s : List Int32} {l : List Mb} (h : vat us q (6, v, s, ofL l)) : us.drop q = 123 :: (jn (l.map (bM true)) ++ 125 :: us.drop (q + (bV (6, v, s, ofL l)).length)) := by
  obtain ⟨h1, h2, h3, r, h4, h5⟩ := h
  have : us.drop (q + (bV (6, v, s, ofL l)).length) = r := by rw [← List.drop_drop, h4, List.drop_left]
  rw [this, h4, bV_6]
  simp
theorem ctx.t5 {us : List Int32} {q : Nat} {v : Int} {s : List Int32} {l : List Mb} {K : Vl → Vl} (h : ctx us q (5, v, s, ofL l) K) (m : List Mb) : bV (K (5, v, s, ofL m)) = us.take q ++ 91 :: (jn (m.map (bM false)) ++ 93 :: us.drop (q + (bV (5, v, s, ofL l)).length)) := by
  rw [h.2, bV_5]
  simp
theorem ctx.t6 {us : List Int32} {q : Nat} {v : Int} {s : List Int32} {l : List Mb} {K : Vl → Vl} (h : ctx us q (6, v, s, ofL l) K) (m : List Mb) : bV (K (6, v, s, ofL m)) = us.take q ++ 123 :: (jn (m.map (bM true)) ++ 125 :: us.drop (q + (bV (6, v, s, ofL l)).length)) := by
  rw [h.2, bV_6]
  simp
theorem ctx.self {us : List Int32} {q : Nat} {t : Vl} {K : Vl → Vl} (h : ctx us q t K) (hv : vat us q t) : bV (K t) = us := by
  obtain ⟨h1, h2, h3, r, h4, h5⟩ := hv
  have e3 : us.drop (q + (bV t).length) = r := by rw [← List.drop_drop, h4, List.drop_left]
  rw [h.2, e3, ← h4, List.take_append_drop]
theorem cutV_null {t : Vl} (h : t.1 = 0) (pi : Vl) (ps : List Vl) (w : Option (Nat × Nat)) : cutV (pi :: ps) t w = some t := by
  unfold cutV
  rw [if_pos h]
theorem drop_nod {l : List Mb} (h : nod l) (j : Nat) : nod (l.take j ++ l.drop (j + 1)) := by
  have : (l.take j ++ l.drop (j + 1)) = l.eraseIdx j := (List.eraseIdx_eq_take_drop_succ l j).symm
  rw [this]
  unfold nod at h ⊢
  exact List.Nodup.sublist ((List.eraseIdx_sublist l j).map _) h
theorem cutV_4 {t : Vl} (h : t.1 = 4) (pi : Vl) (ps : List Vl) (w : Option (Nat × Nat)) : cutV (pi :: ps) t w = none := by
  unfold cutV
  rw [if_neg (by omega), if_neg (show ¬ t.1 = 5 by omega), if_neg (show ¬ t.1 = 6 by omega), if_neg (show ¬ t.1 = 5 by omega)]
  simp
/-- the class goes along the rest of a path -/
theorem cutA {ta t1 p1 : Nat} {us vs : List Int32} {vp : Int} {sp : List Int32} {lp : List Mb} (hta : ta < 1000 ∧ ta ≠ 67) (ht1 : t1 ≠ 67) (hp : vat vs p1 (5, vp, sp, ofL lp)) (hus : us.length ≤ 4096) : ∀ (m j n c : Nat) (S : SS) (q : Nat) (it : Int32) (t : Vl) (w : Option (Nat × Nat)) (K : Vl → Vl), j + (m + 1) = lp.length → m + 1 < n → c + (m + 1) < 4096 → tT S ta = us → tT S t1 = vs → spQ S ta q it t w → ctx us q t K → ∃ S' e, p_follow_l15 ta t1 n S (Int32.ofNat (ip false (p1 + 1) lp j)) (Int32.ofNat c) = some (S', e) ∧ fr67 S S' ∧ (e ≠ 0 → cutV ((lp.drop j).map fun m => m.2) t w = none ∧ (S' 67).length = 6) ∧ (e = 0 → (∃ T, cutV ((lp.drop j).map fun m => m.2) t w = some T ∧ wV (K T) ∧ endC S' ta us (bV (K T))) ∨ (cutV ((lp.drop j).map fun m => m.2) t w = none ∧ strC S' ta)) := by
  intro m
  induction m using Nat.strongRecOn with
  | _ m ih =>
  intro j n c S q it t w K hj hn hc hu hvs hq hK
  obtain ⟨n, rfl⟩ : ∃ j, n = j + 1 := ⟨n - 1, by omega⟩
  have hjl : j < lp.length := by omega
  obtain ⟨s1, s2⟩ := step_ap hp hjl
  have hipl := s1.lt
  have hvl := s1.1
  have el : (lp.drop j).map (fun m => m.2) = (lp[j]).2 :: (lp.drop (j + 1)).map (fun m => m.2) := by rw [List.drop_eq_getElem_cons hjl, List.map_cons]
  obtain ⟨pi, hpi⟩ : ∃ pi, pi = (lp[j]).2 := ⟨_, rfl⟩
  obtain ⟨ps, hps⟩ : ∃ ps, ps = (lp.drop (j + 1)).map (fun m => m.2) := ⟨_, rfl⟩
  rw [← hpi] at s1 el
  rw [← hps] at el
  rw [el]
  have emp : ps.isEmpty = true ↔ m = 0 := by
    rw [List.isEmpty_iff, hps, List.map_eq_nil_iff, List.drop_eq_nil_iff]
    omega
  have enx : (if j + 1 < lp.length then Int32.ofNat (ip false (p1 + 1) lp (j + 1)) else (-1 : Int32)) = if m = 0 then -1 else Int32.ofNat (ip false (p1 + 1) lp (j + 1)) := by
    by_cases c : m = 0
    · rw [if_pos c, if_neg (by omega)]
    · rw [if_neg c, if_pos (by omega)]
  rw [enx] at s2
  have k6 := s1.2.2.1.1
  have s1S : vat (tT S t1) (ip false (p1 + 1) lp j) pi := by rw [hvs]; exact s1
  obtain ⟨lo, hi, q1, q2, q3, q4⟩ := id hq
  have q2u := q2
  rw [hu] at q2u
  have hw0 := q2.2.2.1
  have tk6 := hw0.1
  have nc : ¬ (4096 : Int32) ≤ Int32.ofNat c := by rw [show (4096 : Int32) = Int32.ofNat 4096 from rfl, i_le' (by omega) (by omega)]; omega
  have fr : ∀ L, fr67 S (up S 67 L) := fun L a ha => up_ne ha
  have ttA : ∀ S1, fr67 S S1 → tT S1 ta = us ∧ tT S1 t1 = vs := fun S1 hf => by
    unfold tT at hu hvs ⊢
    rw [hf ta hta.2, hf t1 ht1]
    exact ⟨hu, hvs⟩
  -- null: nothing behind it
  have stopN : ∀ (S0 : SS) (n0 : Nat) (x c0 : Int32), p_isNull S0 = some 1 → ¬ (4096 : Int32) ≤ c0 → ¬ x = -1 → (∃ T p it' pt lo' hi', S0 67 = [T, p, it', pt, lo', hi'] ∧ T = Int32.ofNat ta) → ∃ S', p_follow_l15 ta t1 (n0 + 1) S0 x c0 = some (S', 0) ∧ fr67 S0 S' ∧ spN S' ta := by
    rintro S0 n0 x c0 hN hc0 hx ⟨T, p, it', pt, lo', hi', h67, hT⟩
    refine ⟨up S0 67 [T, -1, -1, 0, lo', hi'], ?_, fun a ha => up_ne ha, -1, lo', hi', by rw [up_same, hT]⟩
    unfold p_follow_l15
    rw [if_neg hc0, if_neg hx, hN, o_bind, if_neg (by decide), move_val h67, o_bind]
  by_cases t0 : t.1 = 0
  · obtain ⟨S', e1, e2, e3⟩ := stopN S n (Int32.ofNat (ip false (p1 + 1) lp j)) (Int32.ofNat c) (by rw [isNullQ hta.1 hq, if_pos t0]) nc (i_ne1 (by omega)) ⟨_, _, _, _, _, _, q1, rfl⟩
    rw [cutV_null t0]
    exact ⟨S', 0, e1, e2, fun h => absurd rfl h, fun _ => Or.inl ⟨t, rfl, hK.1 t hw0, Or.inl ⟨e3, hK.self q2u⟩⟩⟩
  have hnull : p_isNull S = some 0 := by rw [isNullQ hta.1 hq, if_neg t0]
  have contin : ∀ X, p_step S t1 (Int32.ofNat (ip false (p1 + 1) lp j)) = some X → p_follow_l15 ta t1 (n + 1) S (Int32.ofNat (ip false (p1 + 1) lp j)) (Int32.ofNat c) = if X.2 = 0 then ((t_next (tT X.1 t1) (Int32.ofNat (ip false (p1 + 1) lp j))).bind fun r13 => p_follow_l15 ta t1 n X.1 r13 (Int32.ofNat (c + 1))) else some (X.1, X.2) := by
    intro X hX
    show (if (4096 : Int32) ≤ Int32.ofNat c then _ else if Int32.ofNat (ip false (p1 + 1) lp j) = (-1 : Int32) then _ else _) = _
    rw [if_neg nc, if_neg (i_ne1 (by omega)), hnull, o_bind, if_pos rfl, hX, o_bind, i_a1]
  have lastL : ∀ (S1 : SS) (x : Int32), p_follow_l15 ta t1 n S1 (-1) x = some (S1, 0) := by
    intro S1 x
    obtain ⟨n, rfl⟩ : ∃ j, n = j + 1 := ⟨n - 1, by omega⟩
    unfold p_follow_l15
    by_cases g : (4096 : Int32) ≤ x
    · rw [if_pos g]
    · rw [if_neg g, if_pos rfl]
  have refuse : p_step S t1 (Int32.ofNat (ip false (p1 + 1) lp j)) = some (S, 1) → cutV (pi :: ps) t w = none → ∃ S' e, p_follow_l15 ta t1 (n + 1) S (Int32.ofNat (ip false (p1 + 1) lp j)) (Int32.ofNat c) = some (S', e) ∧ fr67 S S' ∧ (e ≠ 0 → cutV (pi :: ps) t w = none ∧ (S' 67).length = 6) ∧ (e = 0 → (∃ T, cutV (pi :: ps) t w = some T ∧ wV (K T) ∧ endC S' ta us (bV (K T))) ∨ (cutV (pi :: ps) t w = none ∧ strC S' ta)) := by
    intro h1 h2
    exact ⟨S, 1, by rw [contin _ h1, if_neg (show ¬ (1 : Int32) = 0 by decide)], fun _ _ => rfl, fun _ => ⟨h2, by rw [q1]; rfl⟩, fun h => absurd h (by decide)⟩
  have nothing : ∀ S1, p_step S t1 (Int32.ofNat (ip false (p1 + 1) lp j)) = some (S1, 0) → fr67 S S1 → spN S1 ta → cutV (pi :: ps) t w = some t → ∃ S' e, p_follow_l15 ta t1 (n + 1) S (Int32.ofNat (ip false (p1 + 1) lp j)) (Int32.ofNat c) = some (S', e) ∧ fr67 S S' ∧ (e ≠ 0 → cutV (pi :: ps) t w = none ∧ (S' 67).length = 6) ∧ (e = 0 → (∃ T, cutV (pi :: ps) t w = some T ∧ wV (K T) ∧ endC S' ta us (bV (K T))) ∨ (cutV (pi :: ps) t w = none ∧ strC S' ta)) := by
    intro S1 h1 hf hN h2
    obtain ⟨-, tv⟩ := ttA S1 hf
    by_cases hm : m = 0
    · rw [if_pos hm] at s2
      exact ⟨S1, 0, by rw [contin _ h1, if_pos rfl, tv, s2, o_bind, lastL], hf, fun h => absurd rfl h, fun _ => Or.inl ⟨t, h2, hK.1 t hw0, Or.inl ⟨hN, hK.self q2u⟩⟩⟩
    · rw [if_neg hm] at s2
      obtain ⟨n', rfl⟩ : ∃ j, n = j + 1 := ⟨n - 1, by omega⟩
      have hjl2 : j + 1 < lp.length := by omega
      have s12 := (step_ap hp hjl2).1.lt
      obtain ⟨it', lo', hi', h67⟩ := id hN
      obtain ⟨S', e1, e2, e3⟩ := stopN S1 n' (Int32.ofNat (ip false (p1 + 1) lp (j + 1))) (Int32.ofNat (c + 1)) (by unfold p_isNull; rw [hN.kind hta.1, o_bind, if_pos rfl]) (by rw [show (4096 : Int32) = Int32.ofNat 4096 from rfl, i_le' (by omega) (by omega)]; omega) (i_ne1 (by omega)) ⟨_, _, _, _, _, _, h67, rfl⟩
      refine ⟨S', 0, by rw [contin _ h1, if_pos rfl, tv, s2, o_bind, e1], fun a ha => (e2 a ha).trans (hf a ha), fun h => absurd rfl h, fun _ => Or.inl ⟨t, h2, hK.1 t hw0, Or.inl ⟨e3, hK.self q2u⟩⟩⟩
  have found : ∀ (S1 : SS) (q' it' : Nat) (t' R : Vl) (F : Vl → Vl), p_step S t1 (Int32.ofNat (ip false (p1 + 1) lp j)) = some (S1, 0) → fr67 S S1 → spQ S1 ta q' (Int32.ofNat it') t' none → ctx us q' t' (fun u => K (F u)) → remT us it' (q' + (bV t').length) (bV (K R)) → wV R → cutV (pi :: ps) t w = (if ps.isEmpty then some R else (cutV ps t' none).map F) → ∃ S' e, p_follow_l15 ta t1 (n + 1) S (Int32.ofNat (ip false (p1 + 1) lp j)) (Int32.ofNat c) = some (S', e) ∧ fr67 S S' ∧ (e ≠ 0 → cutV (pi :: ps) t w = none ∧ (S' 67).length = 6) ∧ (e = 0 → (∃ T, cutV (pi :: ps) t w = some T ∧ wV (K T) ∧ endC S' ta us (bV (K T))) ∨ (cutV (pi :: ps) t w = none ∧ strC S' ta)) := by
    intro S1 q' it' t' R F h1 hf hq' hc' hrem hR hS
    obtain ⟨tu, tv⟩ := ttA S1 hf
    by_cases hm : m = 0
    · rw [if_pos (emp.mpr hm)] at hS
      rw [if_pos hm] at s2
      exact ⟨S1, 0, by rw [contin _ h1, if_pos rfl, tv, s2, o_bind, lastL], hf, fun h => absurd rfl h, fun _ => Or.inl ⟨R, hS, hK.1 R hR, Or.inr (Or.inl ⟨q', it', t', hq', hrem⟩)⟩⟩
    · rw [if_neg (fun x => hm (emp.mp x))] at hS
      rw [if_neg hm] at s2
      obtain ⟨S', e, j1, j2, j3, j4⟩ := ih (m - 1) (by omega) (j + 1) n (c + 1) S1 q' (Int32.ofNat it') t' none (fun u => K (F u)) (by omega) (by omega) (by omega) tu tv hq' hc'
      rw [← hps] at j3 j4
      refine ⟨S', e, by rw [contin _ h1, if_pos rfl, tv, s2, o_bind]; exact j1, fun a ha => (j2 a ha).trans (hf a ha), fun h => ⟨by rw [hS, (j3 h).1]; rfl, (j3 h).2⟩, fun h => ?_⟩
      rcases j4 h with ⟨T, y1, y2, y3⟩ | ⟨y1, y2⟩
      · exact Or.inl ⟨F T, by rw [hS, y1]; rfl, y2, y3⟩
      · exact Or.inr ⟨by rw [hS, y1]; rfl, y2⟩
  have htk := hq.c.kind hta.1
  by_cases t5 : t.1 = 5
  · obtain ⟨kt, v0, s0, ft⟩ := t
    obtain ⟨l, rfl⟩ : ∃ l, ft = ofL l := ⟨toL ft, (ofL_toL ft).symm⟩
    have t5 : kt = 5 := t5
    subst t5
    have hbox := box5 q2u
    by_cases e3 : pi.1 = 3
    · have hx := s1.2.2.1.2.1 e3
      obtain ⟨X, hX⟩ : ∃ X, X = atX pi.2.1 (winN (5, v0, s0, ofL l) w) := ⟨_, rfl⟩
      have eS : cutV (pi :: ps) (5, v0, s0, ofL l) w = if 0 ≤ X ∧ X < winN (5, v0, s0, ofL l) w then (if ps.isEmpty then some (5, v0, s0, ofL (l.take (winA (5, v0, s0, ofL l) w + X.toNat) ++ l.drop (winA (5, v0, s0, ofL l) w + X.toNat + 1))) else (cutV ps ((l.getD (winA (5, v0, s0, ofL l) w + X.toNat) nulM).2) none).map (fun u => (5, v0, s0, ofL (l.set (winA (5, v0, s0, ofL l) w + X.toNat) ((l.getD (winA (5, v0, s0, ofL l) w + X.toNat) nulM).1, u))))) else some (5, v0, s0, ofL l) := by
        rw [hX]
        show (if (5 : Nat) = 0 then _ else if pi.1 = 3 then (if (5 : Nat) = 5 then _ else _) else _) = _
        rw [if_neg (by decide), if_pos e3, if_pos rfl]
        simp only [toL_ofL]
      obtain ⟨p1', p2'⟩ := placeL hta hq hx
      rw [← hX] at p1' p2'
      by_cases hin : 0 ≤ X ∧ X < winN (5, v0, s0, ofL l) w
      · obtain ⟨S1, hj', a1, a2, a3⟩ := p1' hin
        rw [if_pos hin, getD_in _ hj'] at eS
        refine found S1 _ _ _ _ _ (by rw [pstep3 s1S e3, a1, o_bind]) a2 a3 (hK.elem q2u hj') ?_ (wV_5 hw0.2.2.1 ?_) eS
        · rw [hK.t5]
          have := remT_of (b := false) (lo := winA (5, v0, s0, ofL l) w + X.toNat) (hi := winA (5, v0, s0, ofL l) w + X.toNat + 1) (show (91 : Int32) ≠ 44 by decide) (show (93 : Int32) ≠ 44 by decide) hus (by omega) (by omega) hbox
          exact this
        · intro x hx'
          rcases List.mem_append.mp hx' with g | g
          · exact hw0.kids x (List.mem_of_mem_take g)
          · exact hw0.kids x (List.mem_of_mem_drop g)
      · obtain ⟨S1, a1, a2, a3⟩ := p2' hin
        rw [if_neg hin] at eS
        exact nothing S1 (by rw [pstep3 s1S e3, a1, o_bind]) a2 a3 eS
    by_cases e4 : pi.1 = 4
    · obtain ⟨x1, x2, x3, r, x4⟩ := str_at s1S e4
      obtain ⟨-, b2⟩ := byName_val hta hq.c x1 x3 x4
      refine refuse (by rw [pstep4 s1S e4, b2 (show ¬ (5 : Nat) = 6 by decide), o_bind]) ?_
      show (if (5 : Nat) = 0 then _ else if pi.1 = 3 then _ else if pi.1 = 4 then (if (5 : Nat) = 6 then _ else none) else _) = none
      rw [if_neg (by decide), if_neg e3, if_pos e4, if_neg (by decide)]
    by_cases e6 : pi.1 = 6
    · have eS : cutV (pi :: ps) (5, v0, s0, ofL l) w = if @decide (okBd pi) (Classical.propDecidable _) = true then cutV ps (5, v0, s0, ofL l) (some (nwA pi (winA (5, v0, s0, ofL l) w) (winE (5, v0, s0, ofL l) w), nwB pi (winA (5, v0, s0, ofL l) w) (winE (5, v0, s0, ofL l) w))) else none := by
        show (if (5 : Nat) = 0 then _ else if pi.1 = 3 then _ else if pi.1 = 4 then _ else if pi.1 = 6 then (if _ then (if (5 : Nat) = 5 then _ else _) else _) else _) = _
        rw [if_neg (by decide), if_neg e3, if_neg e4, if_pos e6, if_pos rfl]
      obtain ⟨b1, b2⟩ := partQ hta ht1 hq s1S e6
      by_cases ok : okBd pi
      · obtain ⟨S1, a1, a2, a3⟩ := b1 ⟨Or.inr rfl, ok.1, ok.2⟩
        rw [if_pos (@decide_eq_true _ (Classical.propDecidable _) ok)] at eS
        have hst : p_step S t1 (Int32.ofNat (ip false (p1 + 1) lp j)) = some (S1, 0) := by rw [pstep6 s1S e6, a1, o_bind]
        obtain ⟨tu, tv⟩ := ttA S1 a2
        by_cases hm : m = 0
        · have hpe : ps = [] := List.isEmpty_iff.mp (emp.mpr hm)
          rw [if_pos hm] at s2
          rw [eS, hpe]
          obtain ⟨A, hA⟩ : ∃ A, A = nwA pi (winA (5, v0, s0, ofL l) w) (winE (5, v0, s0, ofL l) w) := ⟨_, rfl⟩
          obtain ⟨B, hB⟩ : ∃ B, B = nwB pi (winA (5, v0, s0, ofL l) w) (winE (5, v0, s0, ofL l) w) := ⟨_, rfl⟩
          rw [← hA, ← hB] at a3
          rw [← hA, ← hB]
          have ec : cutV [] (5, v0, s0, ofL l) (some (A, B)) = some (5, v0, s0, ofL (l.take A ++ l.drop B)) := by
            show some (5, v0, s0, ofL ((toL (ofL l)).take A ++ (toL (ofL l)).drop B)) = _
            rw [toL_ofL]
          refine ⟨S1, 0, by rw [contin _ hst, if_pos rfl, tv, s2, o_bind, lastL], a2, fun h => absurd rfl h, fun _ => Or.inl ⟨_, ec, hK.1 _ (wV_5 hw0.2.2.1 ?_), Or.inr (Or.inr ⟨q, it, v0, s0, l, A, B, a3, hK.t5 _⟩)⟩⟩
          intro x hx'
          rcases List.mem_append.mp hx' with g | g
          · exact hw0.kids x (List.mem_of_mem_take g)
          · exact hw0.kids x (List.mem_of_mem_drop g)
        · rw [if_neg hm] at s2
          obtain ⟨S', e, j1, j2, j3, j4⟩ := ih (m - 1) (by omega) (j + 1) n (c + 1) S1 q it (5, v0, s0, ofL l) _ K (by omega) (by omega) (by omega) tu tv a3 hK
          rw [← hps, ← eS] at j3 j4
          exact ⟨S', e, by rw [contin _ hst, if_pos rfl, tv, s2, o_bind]; exact j1, fun a ha => (j2 a ha).trans (a2 a ha), j3, j4⟩
      · rw [if_neg (fun g => ok (@of_decide_eq_true _ (Classical.propDecidable _) g))] at eS
        exact refuse (by rw [pstep6 s1S e6, b2 (fun g => ok ⟨g.2.1, g.2.2⟩), o_bind]) eS
    · refine refuse (pstepX s1S e3 e4 e6) ?_
      show (if (5 : Nat) = 0 then _ else if pi.1 = 3 then _ else if pi.1 = 4 then _ else if pi.1 = 6 then _ else none) = none
      rw [if_neg (by decide), if_neg e3, if_neg e4, if_neg e6]
  by_cases t6 : t.1 = 6
  · obtain ⟨kt, v0, s0, ft⟩ := t
    obtain ⟨l, rfl⟩ : ∃ l, ft = ofL l := ⟨toL ft, (ofL_toL ft).symm⟩
    have t6 : kt = 6 := t6
    subst t6
    have hbox := box6 q2u
    by_cases e4 : pi.1 = 4
    · obtain ⟨x1, x2, x3, r, x4⟩ := str_at s1S e4
      have eS : cutV (pi :: ps) (6, v0, s0, ofL l) w = if l.findIdx (fun m => m.1 == pi.2.2.1) < l.length then (if ps.isEmpty then some (6, v0, s0, ofL (l.take (l.findIdx (fun m => m.1 == pi.2.2.1)) ++ l.drop (l.findIdx (fun m => m.1 == pi.2.2.1) + 1))) else (cutV ps ((l.getD (l.findIdx (fun m => m.1 == pi.2.2.1)) nulM).2) none).map (fun u => (6, v0, s0, ofL (l.set (l.findIdx (fun m => m.1 == pi.2.2.1)) ((l.getD (l.findIdx (fun m => m.1 == pi.2.2.1)) nulM).1, u))))) else some (6, v0, s0, ofL l) := by
        show (if (6 : Nat) = 0 then _ else if pi.1 = 3 then _ else if pi.1 = 4 then (if (6 : Nat) = 6 then _ else _) else _) = _
        rw [if_neg (by decide), if_neg (by omega), if_pos e4, if_pos rfl]
        simp only [toL_ofL]
      obtain ⟨b1, b2⟩ := nameQ hta hq x1 x3 x4
      by_cases hj' : l.findIdx (fun m => m.1 == pi.2.2.1) < l.length
      · obtain ⟨S1, a1, a2, a3⟩ := b1 hj'
        rw [if_pos hj', getD_in _ hj'] at eS
        refine found S1 _ _ _ _ _ (by rw [pstep4 s1S e4, a1, o_bind]) a2 a3 (hK.memb q2u hj') ?_ (wV_6 hw0.2.2.1 ?_ (drop_nod hw0.nod _)) eS
        · rw [hK.t6]
          have := remT_of (b := true) (lo := l.findIdx (fun m => m.1 == pi.2.2.1)) (hi := l.findIdx (fun m => m.1 == pi.2.2.1) + 1) (show (123 : Int32) ≠ 44 by decide) (show (125 : Int32) ≠ 44 by decide) hus (by omega) (by omega) hbox
          have e2 : ip true (q + 1) l (l.findIdx (fun m => m.1 == pi.2.2.1) + 1 - 1) + (bM true (l[l.findIdx (fun m => m.1 == pi.2.2.1) + 1 - 1]'(by omega))).length = ip true (q + 1) l (l.findIdx (fun m => m.1 == pi.2.2.1)) + (pstr (l[l.findIdx (fun m => m.1 == pi.2.2.1)]).1).length + 1 + (bV (l[l.findIdx (fun m => m.1 == pi.2.2.1)]).2).length := by
            simp only [Nat.add_sub_cancel]
            unfold bM
            simp only [if_true, List.length_append, List.length_cons, List.length_nil]
            omega
          rw [e2] at this
          exact this
        · intro x hx'
          rcases List.mem_append.mp hx' with g | g
          · exact hw0.kids x (List.mem_of_mem_take g)
          · exact hw0.kids x (List.mem_of_mem_drop g)
      · obtain ⟨S1, a1, a2, a3⟩ := b2 hj'
        rw [if_neg hj'] at eS
        exact nothing S1 (by rw [pstep4 s1S e4, a1, o_bind]) a2 a3 eS
    by_cases e3 : pi.1 = 3
    · obtain ⟨-, b2⟩ := byPlace_val hta hq.c (s1.2.2.1.2.1 e3)
      refine refuse (by rw [pstep3 s1S e3, b2 (show ¬ (6 : Nat) = 5 by decide), o_bind]) ?_
      show (if (6 : Nat) = 0 then _ else if pi.1 = 3 then (if (6 : Nat) = 5 then _ else none) else _) = none
      rw [if_neg (by decide), if_pos e3, if_neg (by decide)]
    by_cases e6 : pi.1 = 6
    · obtain ⟨-, b2⟩ := partQ hta ht1 hq s1S e6
      refine refuse (by rw [pstep6 s1S e6, b2 (fun g => by rcases g.1 with g | g; exact absurd g (show ¬ (6 : Nat) = 4 by decide); exact absurd g (show ¬ (6 : Nat) = 5 by decide)), o_bind]) ?_
      show (if (6 : Nat) = 0 then _ else if pi.1 = 3 then _ else if pi.1 = 4 then _ else if pi.1 = 6 then (if _ then (if (6 : Nat) = 5 then _ else none) else none) else _) = none
      rw [if_neg (by decide), if_neg e3, if_neg e4, if_pos e6, if_neg (show ¬ (6 : Nat) = 5 by decide)]
      split <;> rfl
    · refine refuse (pstepX s1S e3 e4 e6) ?_
      show (if (6 : Nat) = 0 then _ else if pi.1 = 3 then _ else if pi.1 = 4 then _ else if pi.1 = 6 then _ else none) = none
      rw [if_neg (by decide), if_neg e3, if_neg e4, if_neg e6]
  by_cases t4 : t.1 = 4
  · have eS := cutV_4 t4 pi ps w
    by_cases e3 : pi.1 = 3
    · obtain ⟨-, b2⟩ := byPlace_val hta hq.c (s1.2.2.1.2.1 e3)
      exact refuse (by rw [pstep3 s1S e3, b2 t5, o_bind]) eS
    by_cases e4 : pi.1 = 4
    · obtain ⟨x1, x2, x3, r, x4⟩ := str_at s1S e4
      obtain ⟨-, b2⟩ := byName_val hta hq.c x1 x3 x4
      exact refuse (by rw [pstep4 s1S e4, b2 t6, o_bind]) eS
    by_cases e6 : pi.1 = 6
    · obtain ⟨b1, b2⟩ := partQ hta ht1 hq s1S e6
      by_cases ok : okBd pi
      · obtain ⟨S1, a1, a2, a3⟩ := b1 ⟨Or.inl t4, ok.1, ok.2⟩
        have hst : p_step S t1 (Int32.ofNat (ip false (p1 + 1) lp j)) = some (S1, 0) := by rw [pstep6 s1S e6, a1, o_bind]
        obtain ⟨tu, tv⟩ := ttA S1 a2
        by_cases hm : m = 0
        · rw [if_pos hm] at s2
          exact ⟨S1, 0, by rw [contin _ hst, if_pos rfl, tv, s2, o_bind, lastL], a2, fun h => absurd rfl h, fun _ => Or.inr ⟨eS, q, it, t, _, a3, t4⟩⟩
        · rw [if_neg hm] at s2
          obtain ⟨S', e, j1, j2, j3, j4⟩ := ih (m - 1) (by omega) (j + 1) n (c + 1) S1 q it t _ K (by omega) (by omega) (by omega) tu tv a3 hK
          have hne : ∃ pi' ps', (lp.drop (j + 1)).map (fun m => m.2) = pi' :: ps' := ⟨_, _, by rw [List.drop_eq_getElem_cons (show j + 1 < lp.length by omega), List.map_cons]⟩
          obtain ⟨pi', ps', hps'⟩ := hne
          rw [hps', cutV_4 t4] at j3 j4
          refine ⟨S', e, by rw [contin _ hst, if_pos rfl, tv, s2, o_bind]; exact j1, fun a ha => (j2 a ha).trans (a2 a ha), fun h => ⟨eS, (j3 h).2⟩, fun h => ?_⟩
          rcases j4 h with ⟨T, y1, -⟩ | ⟨-, y2⟩
          · cases y1
          · exact Or.inr ⟨eS, y2⟩
      · exact refuse (by rw [pstep6 s1S e6, b2 (fun g => ok ⟨g.2.1, g.2.2⟩), o_bind]) eS
    · exact refuse (pstepX s1S e3 e4 e6) eS
  · have eS : cutV (pi :: ps) t w = none := by
      unfold cutV
      rw [if_neg t0, if_neg t5, if_neg t6, if_neg t5]
      simp
    by_cases e3 : pi.1 = 3
    · obtain ⟨-, b2⟩ := byPlace_val hta hq.c (s1.2.2.1.2.1 e3)
      exact refuse (by rw [pstep3 s1S e3, b2 t5, o_bind]) eS
    by_cases e4 : pi.1 = 4
    · obtain ⟨x1, x2, x3, r, x4⟩ := str_at s1S e4
      obtain ⟨-, b2⟩ := byName_val hta hq.c x1 x3 x4
      exact refuse (by rw [pstep4 s1S e4, b2 t6, o_bind]) eS
    by_cases e6 : pi.1 = 6
    · obtain ⟨-, b2⟩ := partQ hta ht1 hq s1S e6
      exact refuse (by rw [pstep6 s1S e6, b2 (fun g => by rcases g.1 with g | g; exact t4 g; exact t5 g), o_bind]) eS
    · exact refuse (pstepX s1S e3 e4 e6) eS
end Cut168
end

section
/-! The class cuts, path by path. -/
section Cut169
theorem sdel_at {S : SS} {o f w : Nat} {us : List Int32} (h : S o = 0 :: us) (hl : us.length ≤ 4096) (hf : f ≤ 4096) (hw : w ≤ us.length) : sdel S o (Int32.ofNat f) (Int32.ofNat w) = up S o (0 :: (if w ≤ f then us else us.take f ++ us.drop w)) := by
  have h1 : tT S o = us := by unfold tT; rw [h]; rfl
  have h2 : tV S o = 0 := by unfold tV; rw [h]; rfl
  unfold sdel tdel
  rw [h1, h2, if_neg (i_nn (by omega))]
  congr 2
  by_cases c : w ≤ f
  · rw [if_pos c, if_pos ((i_le' (by omega) (by omega)).mpr c)]
  · rw [if_neg c, if_neg (by rw [i_le' (by omega) (by omega)]; exact c), if_neg (by rw [i_lt' (by omega) (by omega)]; omega), i_cl (by omega), i_cl (by omega)]
/-- the span goes, with a comma -/
theorem cutG {S : SS} {dr f e : Nat} {us X : List Int32} {c1 c2 : Int32} (hdr : dr ≠ 73) (h : S dr = 0 :: us) (hl : us.length ≤ 4096) (hr : remT us f e X) : ((g_closeUp (up S 73 [Int32.ofNat f, Int32.ofNat e, c1, c2]) 73 dr).bind fun r22 => ((g_from r22 73).bind fun r24 => ((g_to r22 73).bind fun r26 => some (sdel r22 dr r24 r26, (0 : Int32))))) = some (up (up S 73 (if tat us (Int32.ofNat e) = 44 then [Int32.ofNat f, Int32.ofNat (e + 1), 0, 0] else if tat us (Int32.ofNat (f - 1)) = 44 then [Int32.ofNat (f - 1), Int32.ofNat e, 0, 0] else [Int32.ofNat f, Int32.ofNat e, 0, 0])) dr (0 :: X), 0) := by
  obtain ⟨r1, r2, r3, r4⟩ := hr
  have tt : ∀ L, tT (up S 73 L) dr = us := fun L => by unfold tT; rw [up_ne hdr, h]; rfl
  have hh : ∀ L, (up S 73 L) dr = 0 :: us := fun L => by rw [up_ne hdr]; exact h
  have g0 : ∀ (x y : Int32), rd (up S 73 [x, y, 0, 0]) 73 0 = x ∧ rd (up S 73 [x, y, 0, 0]) 73 1 = y := fun x y => by unfold rd; rw [up_same]; exact ⟨rfl, rfl⟩
  rw [closeUp_val (f := f) (e := e) (us := us) (fun c => hdr c.symm) up_same (tt _) (by omega) (by omega) r1, up_up, if_neg (by omega), o_bind]
  unfold g_from g_to
  rw [o_bind, o_bind]
  rcases r4 with ⟨y1, y2⟩ | ⟨y1, y2, y3⟩ | ⟨y1, y2, y3⟩
  · rw [if_pos y1, (g0 _ _).1, (g0 _ _).2, sdel_at (hh _) hl (by omega) (by omega), if_neg (by omega), y2]
  · rw [if_neg y1, if_pos y2, (g0 _ _).1, (g0 _ _).2, sdel_at (hh _) hl (by omega) (by omega), if_neg (by omega), y3]
  · rw [if_neg y1, if_neg y2, (g0 _ _).1, (g0 _ _).2, sdel_at (hh _) hl (by omega) (by omega), if_neg (by omega), y3]
/-- nothing but the Spot, the Cutter's Gap and the draft -/
def frK (S S' : SS) (dr : Nat) : Prop := ∀ a, a ≠ 67 → a ≠ 73 → a ≠ dr → S' a = S a
theorem frK.trans {S S1 S2 : SS} {dr : Nat} (h : frK S S1 dr) (h' : frK S1 S2 dr) : frK S S2 dr := fun a n1 n2 n3 => (h' a n1 n2 n3).trans (h a n1 n2 n3)
theorem frK.refl (S : SS) (dr : Nat) : frK S S dr := fun _ _ _ _ => rfl
theorem kcut_val {S : SS} {dr tp p1 k N : Nat} {t : Vl} {vs : List Int32} {vp : Int} {sp : List Int32} {lp : List Mb} (hdr : dr < 1000 ∧ dr ≠ 67 ∧ dr ≠ 72 ∧ dr ≠ 73 ∧ dr ≠ 74) (htp : tp ≠ 67 ∧ tp ≠ 73 ∧ tp ≠ dr) (h : S dr = 0 :: bV t) (hv : vat (bV t) 0 t) (hvs : tT S tp = vs) (hp : vat vs p1 (5, vp, sp, ofL lp)) (h67 : (S 67).length = 6) (h73 : (S 73).length = 4) (hN : rd S 72 4 = Int32.ofNat N) (hN1 : N ≤ 100) (hk : k < N) (h74 : iget (S 74) (Int32.ofNat k) = some (Int32.ofNat p1)) : ∃ S' e, k_cut S dr tp (Int32.ofNat k) = some (S', e) ∧ frK S S' dr ∧ (S' 67).length = 6 ∧ (S' 73).length = 4 ∧ (e = 0 → ∃ T, cutP lp t = some T ∧ wV T ∧ (bV T).length ≤ 4096 ∧ S' dr = 0 :: bV T) ∧ (e ≠ 0 → cutP lp t = none) := by
  obtain ⟨us, hus⟩ : ∃ us, us = bV t := ⟨_, rfl⟩
  rw [← hus] at h hv
  have hl := hv.1
  have tu : tT S dr = us := by unfold tT; rw [h]; rfl
  unfold k_cut k_paths
  have im : imin (rd S 72 4) 100 = Int32.ofNat N := by
    unfold imin
    rw [hN, show (100 : Int32) = Int32.ofNat 100 from rfl, if_neg (by rw [i_lt' (by omega) (by omega)]; omega)]
  rw [if_neg (i_nn (by omega)), o_bind, im, if_pos ((i_lt' (by omega) (by omega)).mpr hk), h74, o_bind, hvs, hp.first (Or.inl rfl), o_bind]
  by_cases hn : lp = []
  · rw [if_pos hn, if_pos rfl]
    have e1 : sputs (up S dr [0]) dr k17 = up S dr (0 :: bV vNull) := by
      rw [show up S dr [0] = up S dr (pv []) from rfl, sputs_pv k17 S dr [] (by unfold byt; decide)]
      rfl
    rw [e1]
    refine ⟨_, 0, rfl, fun a n1 n2 n3 => up_ne n3, by rw [up_ne (fun c => hdr.2.1 c.symm)]; exact h67, by rw [up_ne (fun c => hdr.2.2.2.1 c.symm)]; exact h73, fun _ => ⟨vNull, by unfold cutP; rw [if_pos hn], vNull_ok, by decide, up_same⟩, fun c => absurd rfl c⟩
  · have ecp : cutP lp t = cutV (lp.map fun m => m.2) t none := by unfold cutP; rw [if_neg hn]
    have hll : 0 < lp.length := List.length_pos_iff.mpr hn
    rw [if_neg hn]
    have hp1 := hp.lt
    have hvl := hp.1
    rw [if_neg (i_ne1 (by omega))]
    obtain ⟨y0, y1, y2, y3, y4, y5, e67⟩ : ∃ a b c d e f, S 67 = [a, b, c, d, e, f] := by
      match hS : S 67, h67 with
      | [a, b, c, d, e, f], _ => exact ⟨a, b, c, d, e, f, rfl⟩
    obtain ⟨R, hR⟩ : ∃ R, R = up S 67 [Int32.ofNat dr, 0, 0, 0, y4, y5] := ⟨_, rfl⟩
    have est : p_start S dr = some R := by
      unfold p_start
      rw [wr_eq e67, wr_up, wr_up, wr_up, hR]
      rfl
    have tRd : tT R dr = us := by unfold tT at *; rw [hR, up_ne hdr.2.1]; exact tu
    have tRp : tT R tp = vs := by unfold tT at *; rw [hR, up_ne htp.1]; exact hvs
    have hq : spQ R dr 0 0 t none := ⟨y4, y5, by rw [hR, up_same]; rfl, by rw [tRd]; exact hv, (fun _ _ e => by cases e), (fun _ _ e => by cases e)⟩
    have hcx : ctx us 0 t (fun u => u) := by rw [hus]; exact ctx_root t
    have hil := (hp.items (Or.inl rfl)).2
    obtain ⟨S1, e, j1, j2, j3, j4⟩ := cutA (ta := dr) (t1 := tp) ⟨hdr.1, hdr.2.1⟩ htp.1 hp hl (lp.length - 1) 0 10000 0 R 0 0 t none (fun u => u) (by omega) (by omega) (by omega) tRd tRp hq hcx
    rw [List.drop_zero] at j3 j4
    rw [ip_0] at j1
    have hf1 : ∀ a, a ≠ 67 → S1 a = S a := fun a ha => by rw [j2 a ha, hR, up_ne ha]
    have efol : p_follow S dr tp (Int32.ofNat p1) = some (S1, e) := by
      unfold p_follow
      rw [est, o_bind, tRp, hp.first (Or.inl rfl), o_bind, if_neg hn]
      exact j1
    have hdS1 : S1 dr = 0 :: us := by rw [hf1 dr hdr.2.1]; exact h
    have tS1 : tT S1 dr = us := by unfold tT; rw [hdS1]; rfl
    have h73S1 : (S1 73).length = 4 := by rw [hf1 73 (by decide)]; exact h73
    have fk : frK S S1 dr := fun a n1 _ _ => hf1 a n1
    rw [efol, o_bind]
    by_cases he : e = 0
    · subst he
      rw [if_pos rfl, ecp]
      rcases j4 rfl with ⟨T, y1', y2', y3'⟩ | ⟨y1', q', it', t', w', y2', y3'⟩
      · have hTl : bV T = us ∨ (bV T).length ≤ 4096 → (bV T).length ≤ 4096 := fun c => by
          rcases c with c | c
          · rw [c]; exact hl
          · exact c
        rcases y3' with ⟨z1, z2⟩ | ⟨q', it', t', z1, z2⟩ | ⟨q', it', v', s', l', a, b, z1, z2⟩
        · rw [nothN z1, o_bind, if_neg (by decide)]
          refine ⟨S1, 0, rfl, fk, ?_, h73S1, fun _ => ⟨T, y1', y2', by rw [z2]; exact hl, by rw [hdS1, z2]⟩, fun c => absurd rfl c⟩
          obtain ⟨x1, x2, x3, z1⟩ := z1
          rw [z1]
          rfl
        · obtain ⟨lo, hi, w1, w2, w3⟩ := id z1
          have w2u := w2
          rw [tS1] at w2u
          have h67S1 : (S1 67).length = 6 := by rw [w1]; rfl
          have e2 : rd S1 67 2 = Int32.ofNat it' := by unfold rd; rw [w1]; rfl
          have e1 : rd S1 67 1 = Int32.ofNat q' := by unfold rd; rw [w1]; rfl
          have e3 : rd S1 67 3 = 0 := by unfold rd; rw [w1]; rfl
          have e0 : (rd S1 67 0).toNatClampNeg = dr := by unfold rd; rw [w1]; exact i_cl (by have := hdr.1; omega)
          have hsp : p_span S1 73 = some (up S1 73 [Int32.ofNat it', Int32.ofNat (q' + (bV t').length), 0, 0]) := by
            unfold p_span
            rw [e3, if_pos rfl, e0, e1, w2.past, o_bind, e2, gspan_val h73S1, o_bind]
          have hlen : (bV T).length ≤ 4096 := by
            obtain ⟨r1, r2, r3, r4⟩ := z2
            rcases r4 with ⟨-, c⟩ | ⟨-, -, c⟩ | ⟨-, -, c⟩ <;> rw [← c, List.length_append, List.length_take, List.length_drop] <;> omega
          have := cutG (c1 := 0) (c2 := 0) hdr.2.2.2.1 hdS1 hl z2
          rw [nothQ z1, o_bind, if_pos rfl, partF z1, o_bind, if_pos (show (if (none : Option (Nat × Nat)).isSome = true then (1 : Int32) else 0) = 0 from rfl), hsp, o_bind, this]
          refine ⟨_, 0, rfl, fun a n1 n2 n3 => by rw [up_ne n3, up_ne n2, hf1 a n1], by rw [up_ne (fun c => hdr.2.1 c.symm), up_ne (by decide)]; exact h67S1, ?_, fun _ => ⟨T, y1', y2', hlen, up_same⟩, fun c => absurd rfl c⟩
          rw [up_ne (fun c => hdr.2.2.2.1 c.symm), up_same]
          split
          · rfl
          · split <;> rfl
        · obtain ⟨lo, hi, w1, w2, w3, w4⟩ := id z1
          have w2u := w2
          rw [tS1] at w2u
          have hlt := w2u.lt
          obtain ⟨wa, wb, -⟩ := w3 a b rfl
          obtain ⟨x1, x2⟩ := w4 a b rfl
          have hsz : size (5, v', s', ofL l') = l'.length := by unfold size; rw [if_neg (show ¬ (5 : Nat) = 4 by decide)]; exact congrArg List.length (toL_ofL l')
          rw [hsz] at wb
          have h67S1 : (S1 67).length = 6 := by rw [w1]; rfl
          have e1 : rd S1 67 1 = Int32.ofNat q' := by unfold rd; rw [w1]; rfl
          have e3 : rd S1 67 3 = 1 := by unfold rd; rw [w1]; rfl
          have e4 : rd S1 67 4 = Int32.ofNat a := by unfold rd; rw [w1, x1]; rfl
          have e5 : rd S1 67 5 = Int32.ofNat b := by unfold rd; rw [w1, x2]; rfl
          have e0 : (rd S1 67 0).toNatClampNeg = dr := by unfold rd; rw [w1]; exact i_cl (by have := hdr.1; omega)
          have hbox := box5 w2u
          have hsp : p_span S1 73 = ((g_items S1 73 dr (Int32.ofNat q') (Int32.ofNat a) (Int32.ofNat b)).bind fun r6 => some r6) := by
            unfold p_span
            rw [e3, if_neg (by decide), e0, e1, e4, e5]
          obtain ⟨c1, c2, c3⟩ := gitems_val (g := 73) (lo := a) (hi := b) (Or.inl rfl) h73S1 w2 (by omega) wb
          have eb : ((5 : Nat) == 6) = false := rfl
          rw [eb] at c1 c2
          have hpre : ∀ X : Option (SS × Int32), X = X := fun _ => rfl
          rw [nothQ z1, o_bind, if_pos rfl, partF z1, o_bind, if_neg (show ¬ (if (some (a, b) : Option (Nat × Nat)).isSome = true then (1 : Int32) else 0) = 0 from fun e => absurd e (show ¬ (1 : Int32) = 0 by decide)), z1.c.kind hdr.1, o_bind, if_neg (show ¬ Int32.ofNat ((5, v', s', ofL l') : Vl).1 = 4 from show ¬ Int32.ofNat 5 = 4 by decide), hsp]
          by_cases hab : a < b
          · have hrem := remT_of (b := false) (lo := a) (hi := b) (show (91 : Int32) ≠ 44 by decide) (show (93 : Int32) ≠ 44 by decide) hl hab wb hbox
            rw [← z2] at hrem
            have hlen : (bV T).length ≤ 4096 := by
              obtain ⟨r1, r2, r3, r4⟩ := hrem
              rcases r4 with ⟨-, c⟩ | ⟨-, -, c⟩ | ⟨-, -, c⟩ <;> rw [← c, List.length_append, List.length_take, List.length_drop] <;> omega
            have := cutG (c1 := 0) (c2 := 0) hdr.2.2.2.1 hdS1 hl hrem
            rw [c1 hab, o_bind, o_bind, this]
            refine ⟨_, 0, rfl, fun a n1 n2 n3 => by rw [up_ne n3, up_ne n2, hf1 a n1], by rw [up_ne (fun c => hdr.2.1 c.symm), up_ne (by decide)]; exact h67S1, ?_, fun _ => ⟨T, y1', y2', hlen, up_same⟩, fun c => absurd rfl c⟩
            rw [up_ne (fun c => hdr.2.2.2.1 c.symm), up_same]
            split
            · rfl
            · split <;> rfl
          · have hab' : a = b := by omega
            subst hab'
            have hTu : bV T = us := by rw [z2, List.take_append_drop, ← hbox, List.take_append_drop]
            have noth : ∀ (x : Nat) (k1 k2 : Int32), 0 < x → x ≤ us.length → ((g_closeUp (up S1 73 [Int32.ofNat x, Int32.ofNat x, k1, k2]) 73 dr).bind fun r22 => ((g_from r22 73).bind fun r24 => ((g_to r22 73).bind fun r26 => some (sdel r22 dr r24 r26, (0 : Int32))))) = some (up (up S1 73 [Int32.ofNat x, Int32.ofNat x, 0, 0]) dr (0 :: us), 0) := by
              intro x k1 k2 hx0 hxl
              rw [closeUp_val (f := x) (e := x) (us := us) (fun c => hdr.2.2.2.1 c.symm) up_same (by unfold tT; rw [up_ne hdr.2.2.2.1, hdS1]; rfl) (by omega) (by omega) hx0, up_up, if_pos (Nat.le_refl _), o_bind]
              unfold g_from g_to
              rw [o_bind, o_bind, show rd (up S1 73 [Int32.ofNat x, Int32.ofNat x, 0, 0]) 73 0 = Int32.ofNat x by unfold rd; rw [up_same]; rfl, show rd (up S1 73 [Int32.ofNat x, Int32.ofNat x, 0, 0]) 73 1 = Int32.ofNat x by unfold rd; rw [up_same]; rfl, sdel_at (us := us) (by rw [up_ne hdr.2.2.2.1]; exact hdS1) hl (by omega) hxl, if_pos (Nat.le_refl _)]
            have fin : ∀ x : Nat, ∃ S' e, (some (up (up S1 73 [Int32.ofNat x, Int32.ofNat x, 0, 0]) dr (0 :: us), (0 : Int32))) = some (S', e) ∧ frK S S' dr ∧ (S' 67).length = 6 ∧ (S' 73).length = 4 ∧ (e = 0 → ∃ T, cutV (lp.map fun m => m.2) t none = some T ∧ wV T ∧ (bV T).length ≤ 4096 ∧ S' dr = 0 :: bV T) ∧ (e ≠ 0 → cutV (lp.map fun m => m.2) t none = none) := fun x => ⟨_, 0, rfl, fun a n1 n2 n3 => by rw [up_ne n3, up_ne n2, hf1 a n1], by rw [up_ne (fun c => hdr.2.1 c.symm), up_ne (by decide)]; exact h67S1, by rw [up_ne (fun c => hdr.2.2.2.1 c.symm), up_same]; rfl, fun _ => ⟨T, y1', y2', by rw [hTu]; exact hl, by rw [up_same, hTu]⟩, fun c => absurd rfl c⟩
            by_cases hal : a < l'.length
            · obtain ⟨-, -, i3⟩ := w2u.item (Or.inl rfl) hal
              rw [eb] at i3
              rw [c2 (Nat.le_refl _) hal, o_bind, o_bind, noth (ip false (q' + 1) l' a) 0 1 (by rw [ip_pre]; omega) (by omega)]
              exact fin _
            · have hb2 : 2 ≤ (bV (5, v', s', ofL l')).length := by rw [bV_5]; simp
              rw [c3 (Nat.le_refl _) (by omega), o_bind, o_bind, noth (q' + (bV (5, v', s', ofL l')).length - 1) _ 0 (by omega) (by omega)]
              exact fin _
      · have h67S1 : (S1 67).length = 6 := by
          obtain ⟨lo, hi, w1, -⟩ := y2'
          rw [w1]; rfl
        rw [nothQ y2', o_bind, if_pos rfl, partF y2', o_bind, if_neg (show ¬ (if (some w' : Option (Nat × Nat)).isSome = true then (1 : Int32) else 0) = 0 from fun e => absurd e (show ¬ (1 : Int32) = 0 by decide)), y2'.c.kind hdr.1, o_bind, if_pos (by rw [y3']; rfl)]
        exact ⟨S1, 1, rfl, fk, h67S1, h73S1, fun c => absurd c (by decide), fun _ => y1'⟩
    · rw [if_neg he, ecp]
      exact ⟨S1, e, rfl, fk, (j3 he).2, h73S1, fun c => absurd c he, fun _ => (j3 he).1⟩
end Cut169
end

section
/-! Paths that are the same cut the same. -/
section Eff170
theorem arrK_0 {R : Vl → Vl → Int32} : ∀ {l l' : List Mb}, arrK R l l' = 0 → l.length = l'.length ∧ ∀ (k : Nat) (h : k < l.length) (h' : k < l'.length), R (l[k]).2 (l'[k]).2 = 0 := by
  intro l
  induction l with
  | nil =>
    intro l' h
    cases l' with
    | nil => exact ⟨rfl, fun k h => absurd h (by simp)⟩
    | cons m l' => exact absurd h (show ¬ (-1 : Int32) = 0 by decide)
  | cons m l ih =>
    intro l' h
    cases l' with
    | nil => exact absurd h (show ¬ (1 : Int32) = 0 by decide)
    | cons m' l' =>
      have h : (if R m.2 m'.2 = 0 then arrK R l l' else R m.2 m'.2) = 0 := h
      by_cases c : R m.2 m'.2 = 0
      · rw [if_pos c] at h
        obtain ⟨h1, h2⟩ := ih h
        refine ⟨by simp only [List.length_cons]; omega, fun k hk hk' => ?_⟩
        cases k with
        | zero => exact c
        | succ k => exact h2 k (by simpa using hk) (by simpa using hk')
      · rw [if_neg c] at h
        exact absurd h c
/-- as steps of a path they do the same -/
def eqS (a b : Vl) : Prop := a.1 = b.1 ∧ (a.1 = 3 → a.2.1 = b.2.1) ∧ (a.1 = 4 → a.2.2.1 = b.2.2.1) ∧ (a.1 = 6 → (okBd a ↔ okBd b) ∧ ∀ x y, okBd a → nwA a x y = nwA b x y ∧ nwB a x y = nwB b x y)
theorem cmpK_kind {n : Nat} {a b : Vl} (h : cmpK (n + 1) a b = 0) : a.1 = b.1 := by
  apply Classical.byContradiction
  intro c
  have h : (if a.1 = b.1 then _ else if b.1 ≤ a.1 then (1 : Int32) else -1) = 0 := h
  rw [if_neg c] at h
  by_cases g : b.1 ≤ a.1
  · rw [if_pos g] at h; exact absurd h (by decide)
  · rw [if_neg g] at h; exact absurd h (by decide)
theorem cmpK_num {n : Nat} {a b : Vl} (ha : wV a) (hb : wV b) (h : cmpK (n + 1) a b = 0) (h3 : a.1 = 3) : a.2.1 = b.2.1 := by
  have hk := cmpK_kind h
  have h : (if a.1 = b.1 then (if a.1 = 3 then l_cmp (Int64.ofInt a.2.1) (Int64.ofInt b.2.1) else _) else _) = 0 := h
  rw [if_pos hk, if_pos h3] at h
  exact (l_cmp0 (ha.2.1 h3) (hb.2.1 (by rw [← hk]; exact h3))).mp h
theorem byN_same {n : Nat} {a b : Vl} (ha : wV a) (hb : wV b) (h : cmpK (n + 2) a b = 0) (h6 : a.1 = 6) (s : List Int32) : (byN a s = none ∧ byN b s = none) ∨ ∃ x y, byN a s = some x ∧ byN b s = some y ∧ wV x ∧ wV y ∧ cmpK (n + 1) x y = 0 := by
  have hk := cmpK_kind h
  obtain ⟨ka, va, sa, fa⟩ := a
  obtain ⟨kb, vb, sb, fb⟩ := b
  obtain ⟨l, rfl⟩ : ∃ l, fa = ofL l := ⟨toL fa, (ofL_toL fa).symm⟩
  obtain ⟨l', rfl⟩ : ∃ l, fb = ofL l := ⟨toL fb, (ofL_toL fb).symm⟩
  have h6 : ka = 6 := h6
  subst h6
  have hk : 6 = kb := hk
  subst hk
  have es : cmpK (n + 2) (6, va, sa, ofL l) (6, vb, sb, ofL l') = (if namK (nms (srt l)) (nms (srt l')) = 0 then arrK (cmpK (n + 1)) (srt l) (srt l') else namK (nms (srt l)) (nms (srt l'))) := by
    show (if (6 : Nat) = 6 then (if (6 : Nat) = 3 then _ else if (6 : Nat) = 4 then _ else if (6 : Nat) = 5 then _ else if (6 : Nat) = 6 then _ else _) else _) = _
    rw [if_pos rfl, if_neg (by decide), if_neg (by decide), if_neg (by decide), if_pos rfl]
    simp only [toL_ofL]
  rw [es] at h
  have hn : namK (nms (srt l)) (nms (srt l')) = 0 := by
    apply Classical.byContradiction
    intro c
    rw [if_neg c] at h
    exact c h
  rw [if_pos hn] at h
  have hnm := namK_0 hn
  obtain ⟨hlen, hval⟩ := arrK_0 h
  have bn : ∀ (v : Int) (s0 : List Int32) (l : List Mb), nod l → ∀ m ∈ l, m.1 = s → byN (6, v, s0, ofL l) s = some m.2 := by
    intro v s0 l hnd m hm hms
    have hj : l.findIdx (fun m => m.1 == s) < l.length := List.findIdx_lt_length_of_exists ⟨m, hm, by rw [hms]; exact beq_self_eq_true _⟩
    unfold byN
    simp only [toL_ofL]
    rw [dif_pos hj]
    congr 2
    refine hnd.eq (List.getElem_mem hj) hm ?_
    rw [hms]
    exact eq_of_beq (List.findIdx_getElem (w := hj))
  have nn : ∀ (v : Int) (s0 : List Int32) (l : List Mb), (∀ m ∈ l, m.1 ≠ s) → byN (6, v, s0, ofL l) s = none := by
    intro v s0 l hno
    have hj : ¬ l.findIdx (fun m => m.1 == s) < l.length := fun c => hno _ (List.getElem_mem c) (eq_of_beq (List.findIdx_getElem (w := c)))
    unfold byN
    simp only [toL_ofL]
    rw [dif_neg hj]
  have en : ∀ (k : Nat) (h : k < (srt l).length) (h' : k < (srt l').length), ((srt l)[k]).1 = ((srt l')[k]).1 := by
    intro k h h'
    have e1 : (nms (srt l))[k]'(by unfold nms; rw [List.length_map]; exact h) = (nms (srt l'))[k]'(by unfold nms; rw [List.length_map]; exact h') := List.getElem_of_eq hnm _
    unfold nms at e1
    rw [List.getElem_map, List.getElem_map] at e1
    exact e1
  by_cases hex : ∃ m ∈ l, m.1 = s
  · obtain ⟨m, hm, hms⟩ := hex
    right
    obtain ⟨k, hk, ek⟩ := List.getElem_of_mem ((srt_perm l).mem_iff.mpr hm)
    have hk' : k < (srt l').length := by omega
    have hm' : (srt l')[k] ∈ l' := (srt_perm l').mem_iff.mp (List.getElem_mem hk')
    refine ⟨m.2, ((srt l')[k]).2, bn va sa l ha.nod m hm hms, bn vb sb l' hb.nod _ hm' (by rw [← en k hk hk', ek]; exact hms), (ha.kids m hm).2, (hb.kids _ hm').2, ?_⟩
    have := hval k hk hk'
    rw [ek] at this
    exact this
  · left
    refine ⟨nn va sa l (fun m hm c => hex ⟨m, hm, c⟩), nn vb sb l' (fun m' hm' c => ?_)⟩
    obtain ⟨k, hk, ek⟩ := List.getElem_of_mem ((srt_perm l').mem_iff.mpr hm')
    have hk' : k < (srt l).length := by omega
    exact hex ⟨(srt l)[k], (srt_perm l).mem_iff.mp (List.getElem_mem hk'), by rw [en k hk' hk, ek]; exact c⟩
theorem eqS_of {n : Nat} {a b : Vl} (ha : wV a) (hb : wV b) (h : cmpK (n + 2) a b = 0) : eqS a b := by
  have hk := cmpK_kind h
  refine ⟨hk, cmpK_num ha hb h, fun h4 => ?_, fun h6 => ?_⟩
  · have h : (if a.1 = b.1 then (if a.1 = 3 then _ else if a.1 = 4 then cmpS a.2.2.1 b.2.2.1 else _) else _) = 0 := h
    rw [if_pos hk, if_neg (by omega), if_pos h4] at h
    exact (cmpS_0 _ _).mp h
  · have key : ∀ s, (okD (byN a s) ↔ okD (byN b s)) ∧ ∀ n d, okD (byN a s) → lim (byN a s) n d = lim (byN b s) n d := by
      intro s
      rcases byN_same ha hb h h6 s with ⟨e1, e2⟩ | ⟨x, y, e1, e2, wx, wy, hc⟩
      · rw [e1, e2]
        exact ⟨Iff.rfl, fun _ _ _ => rfl⟩
      · have kx := cmpK_kind hc
        rw [e1, e2]
        refine ⟨⟨fun h v hv => ?_, fun h v hv => ?_⟩, fun n d hok => ?_⟩
        · cases hv
          rw [← kx]
          exact h x rfl
        · cases hv
          rw [kx]
          exact h y rfl
        · rcases hok x rfl with c | c
          · rw [lim_0 n d c, lim_0 n d (by rw [← kx]; exact c)]
          · rw [lim_3 n d c, lim_3 n d (by rw [← kx]; exact c), cmpK_num wx wy hc c]
    obtain ⟨k1, l1⟩ := key stS
    obtain ⟨k2, l2⟩ := key enS
    refine ⟨⟨fun g => ⟨k1.mp g.1, k2.mp g.2⟩, fun g => ⟨k1.mpr g.1, k2.mpr g.2⟩⟩, fun x y g => ?_⟩
    unfold nwA nwB
    rw [l1 _ _ g.1, l2 _ _ g.2]
    exact ⟨rfl, rfl⟩
theorem cutV_same : ∀ (ls ls' : List Vl) (t : Vl) (w : Option (Nat × Nat)), ls.length = ls'.length → (∀ (k : Nat) (h : k < ls.length) (h' : k < ls'.length), eqS ls[k] ls'[k]) → cutV ls t w = cutV ls' t w := by
  intro ls
  induction ls with
  | nil =>
    intro ls' t w hl _
    cases ls' with
    | nil => rfl
    | cons a b => simp at hl
  | cons pi ps ih =>
    intro ls' t w hl he
    cases ls' with
    | nil => simp at hl
    | cons pi' ps' =>
      have hl' : ps.length = ps'.length := by simpa using hl
      have he' : ∀ (k : Nat) (h : k < ps.length) (h' : k < ps'.length), eqS ps[k] ps'[k] := fun k h h' => he (k + 1) (by simpa using h) (by simpa using h')
      obtain ⟨e1, e2, e3, e4⟩ : eqS pi pi' := he 0 (by simp) (by simp)
      have hemp : ps.isEmpty = ps'.isEmpty := by
        cases ps with
        | nil => cases ps' with
          | nil => rfl
          | cons a b => simp at hl'
        | cons a b => cases ps' with
          | nil => simp at hl'
          | cons c d => rfl
      by_cases t0 : t.1 = 0
      · rw [cutV_null t0, cutV_null t0]
      unfold cutV
      rw [if_neg t0, if_neg t0, ← e1, ← hemp]
      by_cases k3 : pi.1 = 3
      · rw [if_pos k3, if_pos k3, ← e2 k3, ih ps' _ _ hl' he']
      rw [if_neg k3, if_neg k3]
      by_cases k4 : pi.1 = 4
      · rw [if_pos k4, if_pos k4, ← e3 k4, ih ps' _ _ hl' he']
      rw [if_neg k4, if_neg k4]
      by_cases k6 : pi.1 = 6
      · rw [if_pos k6, if_pos k6]
        obtain ⟨g1, g2⟩ := e4 k6
        by_cases ok : okBd pi
        · rw [if_pos (@decide_eq_true _ (Classical.propDecidable _) ok), if_pos (@decide_eq_true _ (Classical.propDecidable _) (g1.mp ok)), (g2 _ _ ok).1, (g2 _ _ ok).2, ih ps' _ _ hl' he']
        · rw [if_neg (fun g => ok (@of_decide_eq_true _ (Classical.propDecidable _) g)), if_neg (fun g => ok (g1.mpr (@of_decide_eq_true _ (Classical.propDecidable _) g)))]
      · rw [if_neg k6, if_neg k6]
/-- paths with the same row cut the same -/
theorem cutP_key {a b : Vl} {n : Nat} (ha : wV a) (hb : wV b) (h5 : a.1 = 5) (hk : key (n + 3) a = key (n + 3) b) (t : Vl) : cutP (toL a.2.2.2) t = cutP (toL b.2.2.2) t := by
  have h : cmpK (n + 3) a b = 0 := by rw [cmpK_key ha hb, hk]; exact (cmpS_0 _ _).mpr rfl
  have hk' := cmpK_kind h
  obtain ⟨ka, va, sa, fa⟩ := a
  obtain ⟨kb, vb, sb, fb⟩ := b
  obtain ⟨l, rfl⟩ : ∃ l, fa = ofL l := ⟨toL fa, (ofL_toL fa).symm⟩
  obtain ⟨l', rfl⟩ : ∃ l, fb = ofL l := ⟨toL fb, (ofL_toL fb).symm⟩
  have h5 : ka = 5 := h5
  subst h5
  have hk' : 5 = kb := hk'
  subst hk'
  have es : cmpK (n + 3) (5, va, sa, ofL l) (5, vb, sb, ofL l') = arrK (cmpK (n + 2)) l l' := by
    show (if (5 : Nat) = 5 then (if (5 : Nat) = 3 then _ else if (5 : Nat) = 4 then _ else if (5 : Nat) = 5 then _ else _) else _) = _
    rw [if_pos rfl, if_neg (by decide), if_neg (by decide), if_pos rfl]
    simp only [toL_ofL]
  rw [es] at h
  obtain ⟨hlen, hval⟩ := arrK_0 h
  show cutP (toL (ofL l)) t = cutP (toL (ofL l')) t
  rw [toL_ofL, toL_ofL]
  unfold cutP
  by_cases hn : l = []
  · have hn' : l' = [] := by
      apply List.eq_nil_of_length_eq_zero
      rw [← hlen, hn]
      rfl
    rw [if_pos hn, if_pos hn']
  · have hn' : ¬ l' = [] := fun c => hn (List.eq_nil_of_length_eq_zero (by rw [hlen, c]; rfl))
    rw [if_neg hn, if_neg hn']
    refine cutV_same _ _ _ _ (by rw [List.length_map, List.length_map]; exact hlen) (fun k h1 h2 => ?_)
    rw [List.getElem_map, List.getElem_map]
    rw [List.length_map] at h1 h2
    exact eqS_of (ha.kids _ (List.getElem_mem h1)).2 (hb.kids _ (List.getElem_mem h2)).2 (hval k h1 h2)
/-- path after path -/
noncomputable def cutL : List (List Mb) → Vl → Option Vl
  | [], t => some t
  | lp :: ls, t => (cutP lp t).bind fun u => cutL ls u
theorem cutL_app : ∀ (A B : List (List Mb)) (t : Vl), cutL (A ++ B) t = (cutL A t).bind fun u => cutL B u := by
  intro A
  induction A with
  | nil => intro B t; rfl
  | cons lp A ih =>
    intro B t
    show (cutP lp t).bind (fun u => cutL (A ++ B) u) = ((cutP lp t).bind fun u => cutL A u).bind _
    cases cutP lp t with
    | none => rfl
    | some u => exact ih B u
theorem cutL_same {n : Nat} : ∀ (A B : List Vl) (t : Vl), (∀ a ∈ A, wV a ∧ a.1 = 5) → (∀ b ∈ B, wV b) → A.map (key (n + 3)) = B.map (key (n + 3)) → cutL (A.map fun a => toL a.2.2.2) t = cutL (B.map fun a => toL a.2.2.2) t := by
  intro A
  induction A with
  | nil =>
    intro B t _ _ h
    cases B with
    | nil => rfl
    | cons b B => cases h
  | cons a A ih =>
    intro B t hA hB h
    cases B with
    | nil => cases h
    | cons b B =>
      rw [List.map_cons, List.map_cons, List.cons.injEq] at h
      rw [List.map_cons, List.map_cons]
      show (cutP (toL a.2.2.2) t).bind (fun u => cutL (A.map fun a => toL a.2.2.2) u) = (cutP (toL b.2.2.2) t).bind (fun u => cutL (B.map fun a => toL a.2.2.2) u)
      rw [cutP_key (hA a List.mem_cons_self).1 (hB b List.mem_cons_self) (hA a List.mem_cons_self).2 h.1]
      congr 1
      funext u
      exact ih B u (fun x hx => hA x (List.mem_cons_of_mem _ hx)) (fun x hx => hB x (List.mem_cons_of_mem _ hx)) h.2
end Eff170
end
