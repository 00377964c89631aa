/-! The call set. -/
section Set166
/-- how a call ends, when what was written may be too much -/
theorem fin_call2 {S S3 : SS} {ts : Nat → Vl} {dr : Nat} {ra : List Nat} {tape res B : List Int32} {T : Vl} {n0 : Nat} {bc : SS → Option SS} {c2 c3 : Int32} (l41 : (S 41).length = 12) (i1 : InvL S) (i2 : InvB S) (i3 : InvT S tape) (i4 : InvP S res) (i5 : InvG S ts dr ra) (hn0 : n0 < 8) (wo : wV T) (f3 : ∀ a, a ∉ cSc → a ≠ dr → S3 a = S a) (lc : lenC S3) (hd : S3 dr = pv B) (hB1 : (bV T).length ≤ 4096 → B = bV T) (hB2 : 4096 < (bV T).length → 4096 < B.length) (rs : ∀ T0 : SS, (∀ a, a ≠ 41 → a ≠ 46 → a ∉ cSc → a ∉ nine → T0 a = S a) → ∃ T2, bc T0 = ((b_finish T2 (Int32.ofNat n0) c2 c3).bind fun r => some r) ∧ (∀ a, a ∉ rSc → T2 a = T0 a) ∧ (∀ k, k = 1 ∨ k = 3 ∨ k = 4 → rd T2 78 k = rd S 78 k) ∧ rd T2 78 0 = 0 ∧ rd T2 78 12 = 0 ∧ (T2 78).length = 22 ∧ (∃ C', OutV T2 C' ∧ (C' = cV T ∨ (9000 < C'.length ∧ ¬ good T))) ∧ lenR T2) : (∃ Sg W, a_keep S3 (Int32.ofNat n0) = some (Sg, 0) ∧ Sg 0 = S 0 ∧ bc Sg = some W ∧ rd W 78 0 = 0 ∧ W 0 = S 0 ∧ Inv W) ∨ (∃ W, a_keep S3 (Int32.ofNat n0) = some (S3, 1) ∧ S3 0 = S 0 ∧ bc S3 = some W ∧ rd W 78 0 = c3 ∧ W 0 = S 0 ∧ Inv W) := by
  obtain ⟨g1, g2, g3, g4, g5⟩ := id i5
  have md := nine_lt dr (g3.mem_iff.mp List.mem_cons_self)
  have hdn : dr ∈ nine := g3.mem_iff.mp List.mem_cons_self
  have n9 : ∀ a, a ∉ nine → a ≠ dr := fun a ha e => ha (e ▸ hdn)
  have e41 : S3 41 = S 41 := f3 41 (by decide) (n9 41 (by decide))
  have e46 : S3 46 = S 46 := f3 46 (by decide) (n9 46 (by decide))
  have hd9 : rd S3 41 9 = Int32.ofNat dr := by unfold rd; rw [e41]; exact g4
  have dd : ∀ a ∈ nine, a ∉ cSc ∧ a ∉ rSc ∧ a ≠ 41 ∧ a ≠ 46 ∧ a ≠ 80 ∧ a ≠ 94 ∧ a ≠ 78 ∧ a < 82 := by decide
  have d8 : ∀ r, r < 8 → 82 + r ∉ cSc ∧ 82 + r ∉ rSc ∧ 82 + r ∉ nine ∧ 82 + r ≠ 41 ∧ 82 + r ≠ 46 ∧ 82 + r ≠ 80 ∧ 82 + r ≠ 94 ∧ 82 + r ≠ 78 := by decide
  have l82 : ∀ T0 T2 : SS, (∀ a, a ≠ 41 → a ≠ 46 → a ∉ cSc → a ∉ nine → T0 a = S a) → (∀ a, a ∉ rSc → T2 a = T0 a) → (T2 (82 + n0)).length = 9000 := fun T0 T2 h1 h2 => by
    obtain ⟨x1, x2, x3, x4, x5, x6⟩ := d8 n0 hn0
    rw [h2 _ x2, h1 _ x4 x5 x1 x3]
    exact (g5 n0 hn0).2.2.2.2.1
  by_cases hg : good T
  · left
    have hBT := hB1 hg.1
    have ak := akeep_val (S := S3) (t := T) (dr := dr) (ra := ra) (n := n0) wo hd9 (e46.trans g1) g2 g3 (by rw [hd, hBT]) hn0
    rw [if_pos hg] at ak
    obtain ⟨Sg, hSg⟩ : ∃ Sg, Sg = wr (up S3 46 ((ra.set n0 dr).map Int32.ofNat)) 41 9 (Int32.ofNat (ra.getD n0 0)) := ⟨_, rfl⟩
    rw [← hSg] at ak
    have fg3 : ∀ a, a ≠ 41 → a ≠ 46 → Sg a = S3 a := fun a x1 x2 => by rw [hSg, wr_ne x1, up_ne x2]
    have fg : ∀ a, a ≠ 41 → a ≠ 46 → a ∉ cSc → a ≠ dr → Sg a = S a := fun a x1 x2 x3 x4 => by rw [fg3 a x1 x2, f3 a x3 x4]
    have fgn : ∀ a, a ≠ 41 → a ≠ 46 → a ∉ cSc → a ∉ nine → Sg a = S a := fun a x1 x2 x3 x4 => fg a x1 x2 x3 (n9 a x4)
    obtain ⟨T2, w1, w2, w3, w4, w5, w6, ⟨C', w7c, w7d⟩, w8, w10, w11, w12, w13⟩ := rs Sg fgn
    have w7 : OutV T2 (cV T) := by
      rcases w7d with e | ⟨-, e⟩
      · rw [← e]; exact w7c
      · exact absurd hg e
    have w9 := l82 Sg T2 fgn w2
    obtain ⟨fv, -⟩ := finish_val (t := T) c2 c3 hn0 w5 w4 w6 wo w7 w8 w9
    obtain ⟨W, z1, z2, z3, z4, z5⟩ := fv hg
    have Wf : ∀ a, a ∉ rSc → a ≠ 82 + n0 → W a = Sg a := fun a x1 x2 => by
      have h80 : a ≠ 80 := fun e => x1 (e ▸ by decide)
      have h94 : a ≠ 94 := fun e => x1 (e ▸ by decide)
      rw [z2 a h80 h94 x2, w2 a x1]
    have W78 : ∀ k, rd W 78 k = rd T2 78 k := fun k => by unfold rd; rw [z2 78 (by decide) (by decide) (by omega)]
    have g41 : ∀ k, k ≠ 9 → rd Sg 41 k = rd S 41 k := fun k hk => by rw [hSg, rd_wr_j (fun e => hk e.symm), rd_up (by decide)]; unfold rd; rw [e41]
    have W41 : ∀ k, rd W 41 k = rd Sg 41 k := fun k => by unfold rd; rw [Wf 41 (by decide) (by omega)]
    have g419 : rd Sg 41 9 = Int32.ofNat (ra.getD n0 0) := by rw [hSg, rd_wr (by rw [up_ne (by decide), e41, l41]; decide)]
    have WS : ∀ a, a ∉ rSc → a ≠ 82 + n0 → a ≠ 41 → a ≠ 46 → a ∉ cSc → a ≠ dr → W a = S a := fun a x1 x2 x3 x4 x5 x6 => (Wf a x1 x2).trans (fg a x3 x4 x5 x6)
    refine ⟨Sg, W, ak, fg 0 (by decide) (by decide) (by decide) (n9 0 (by decide)), by rw [w1, z1, o_bind], by rw [W78, w4], WS 0 (by decide) (by omega) (by decide) (by decide) (by decide) (n9 0 (by decide)), ?_⟩
    have K : ∀ a, a ∈ [39, 40, 42, 79, 44, 92] → W a = S a := fun a ha => by
      have d : ∀ a ∈ [39, 40, 42, 79, 44, 92], a ∉ rSc ∧ (a < 82 ∨ 89 < a) ∧ a ≠ 41 ∧ a ≠ 46 ∧ a ∉ cSc ∧ a ∉ nine := by decide
      obtain ⟨x1, x2, x3, x4, x5, x6⟩ := d a ha
      exact WS a x1 (by omega) x3 x4 x5 (n9 a x6)
    have K3 : ∀ a, a ∈ [47, 48, 71, 74, 76, 77] → W a = S3 a := fun a ha => by
      have d : ∀ a ∈ [47, 48, 71, 74, 76, 77], a ∉ rSc ∧ (a < 82 ∨ 89 < a) ∧ a ≠ 41 ∧ a ≠ 46 := by decide
      obtain ⟨x1, x2, x3, x4⟩ := d a ha
      rw [Wf a x1 (by omega), fg3 a x3 x4]
    have K2 : ∀ a, a ∈ [97, 98, 99, 100, 91] → W a = T2 a := fun a ha => by
      have d : ∀ a ∈ [97, 98, 99, 100, 91], a ≠ 80 ∧ a ≠ 94 ∧ (a < 82 ∨ 89 < a) := by decide
      obtain ⟨x1, x2, x3⟩ := d a ha
      rw [z2 a x1 x2 (by omega)]
    have W46 : W 46 = (ra.set n0 dr).map Int32.ofNat := by rw [Wf 46 (by decide) (by omega), hSg, wr_ne (by decide), up_same]
    have Wd : W dr = 0 :: bV T := by
      obtain ⟨x1, x2, x3, x4, x5, x6, x7, x8⟩ := dd dr hdn
      rw [Wf dr x2 (by omega), fg3 dr x3 x4, hd, hBT, pv_fit hg.1]
    obtain ⟨y1, y2, y3, y4, y5, y6⟩ := lc
    refine finB i3 i4 i5 hn0 wo hg ⟨by unfold rd; rw [K3 47 (by decide)]; exact y1, by rw [K3 48 (by decide)]; exact y2, by rw [K3 71 (by decide)]; exact y3, by rw [K3 74 (by decide)]; exact y4, by rw [K3 76 (by decide)]; exact y5, by rw [K3 77 (by decide)]; exact y6, z3, by rw [K2 91 (by decide)]; exact w7.1, by rw [K2 97 (by decide)]; exact w10, by rw [K2 98 (by decide)]; exact w11, by rw [K2 99 (by decide)]; exact w12, by rw [K2 100 (by decide)]; exact w13, (K 39 (by decide)).trans i1.2.2.2.2.2.2.2.2.2.2.2.2.1, (K 40 (by decide)).trans i1.2.2.2.2.2.2.2.2.2.2.2.2.2⟩ ⟨?_, ?_⟩ (K 42 (by decide)) (K 79 (by decide)) ?_ (K 44 (by decide)) (K 92 (by decide)) W46 ?_ (fun a ha hne => ?_) Wd (fun r hr hne => ?_) ⟨z4, z5⟩
    · rw [W78, w3 3 (by omega), W41, g41 10 (by decide)]; exact i2.1
    · rw [W78, w3 4 (by omega), W41, g41 11 (by decide)]; exact i2.2
    · rw [W78, w3 1 (by omega)]
    · rw [W41, g419]
    · obtain ⟨x1, x2, x3, x4, x5, x6, x7, x8⟩ := dd a ha
      exact WS a x2 (by omega) x3 x4 x1 hne
    · obtain ⟨x1, x2, x3, x4, x5, x6⟩ := d8 r hr
      exact WS _ x2 (by omega) x4 x5 x1 (n9 _ x3)
  · right
    have ak : a_keep S3 (Int32.ofNat n0) = some (S3, 1) := by
      by_cases hb : (bV T).length ≤ 4096
      · have := akeep_val (S := S3) (t := T) (dr := dr) (ra := ra) (n := n0) wo hd9 (e46.trans g1) g2 g3 (by rw [hd, hB1 hb]) hn0
        rw [if_neg hg] at this
        exact this
      · exact akeep_over hd9 (by omega) hd (hB2 (by omega))
    have f3n : ∀ a, a ≠ 41 → a ≠ 46 → a ∉ cSc → a ∉ nine → S3 a = S a := fun a _ _ x3 x4 => f3 a x3 (n9 a x4)
    obtain ⟨T2, w1, w2, w3, w4, w5, w6, ⟨C', w7, w7d⟩, w8, w10, w11, w12, w13⟩ := rs S3 f3n
    have w9 := l82 S3 T2 f3n w2
    have fv : ∃ W, b_finish T2 (Int32.ofNat n0) c2 c3 = some W ∧ (∀ a, a ≠ 80 → a ≠ 94 → a ≠ 78 → W a = T2 a) ∧ (W 80).length = 9000 ∧ rd W 78 0 = c3 ∧ ∀ k, k ≠ 0 → rd W 78 k = rd T2 78 k := by
      rcases w7d with e | ⟨e, -⟩
      · exact (finish_val (t := T) c2 c3 hn0 w5 w4 w6 wo (by rw [← e]; exact w7) w8 w9).2 hg
      · have h2 : rd T2 90 2 = 1 := w7.2.2.2 e
        refine ⟨wr T2 78 0 c3, ?_, fun a _ _ h => wr_ne h, by rw [wr_ne (by decide)]; exact w8, rd_wr (by rw [w6]; decide), fun k hk => rd_wr_j (fun e => hk e.symm)⟩
        unfold b_finish b_fits
        rw [w5, if_pos (by decide), h2, if_neg (by decide), o_bind, if_pos rfl]
    obtain ⟨W, z1, z2, z3, z4, z5⟩ := fv
    have Wf : ∀ a, a ∉ rSc → W a = S3 a := fun a x1 => by
      have h80 : a ≠ 80 := fun e => x1 (e ▸ by decide)
      have h94 : a ≠ 94 := fun e => x1 (e ▸ by decide)
      have h78 : a ≠ 78 := fun e => x1 (e ▸ by decide)
      rw [z2 a h80 h94 h78, w2 a x1]
    have WS : ∀ a, a ∉ rSc → a ∉ cSc → a ≠ dr → W a = S a := fun a x1 x2 x3 => (Wf a x1).trans (f3 a x2 x3)
    have W41 : ∀ k, rd W 41 k = rd S 41 k := fun k => by unfold rd; rw [WS 41 (by decide) (by decide) (n9 41 (by decide))]
    have W78 : ∀ k, k = 1 ∨ k = 3 ∨ k = 4 → rd W 78 k = rd S 78 k := fun k hk => by rw [z5 k (by omega), w3 k hk]
    refine ⟨W, ak, f3 0 (by decide) (n9 0 (by decide)), by rw [w1, z1, o_bind], z4, WS 0 (by decide) (by decide) (n9 0 (by decide)), ?_⟩
    have K : ∀ a, a ∈ [39, 40, 42, 79, 44, 92, 46] → W a = S a := fun a ha => by
      have d : ∀ a ∈ [39, 40, 42, 79, 44, 92, 46], a ∉ rSc ∧ a ∉ cSc ∧ a ∉ nine := by decide
      obtain ⟨x1, x2, x3⟩ := d a ha
      exact WS a x1 x2 (n9 a x3)
    have K3 : ∀ a, a ∈ [47, 48, 71, 74, 76, 77] → W a = S3 a := fun a ha => by
      have d : ∀ a ∈ [47, 48, 71, 74, 76, 77], a ∉ rSc := by decide
      exact Wf a (d a ha)
    have K2 : ∀ a, a ∈ [97, 98, 99, 100, 91] → W a = T2 a := fun a ha => by
      have d : ∀ a ∈ [97, 98, 99, 100, 91], a ≠ 80 ∧ a ≠ 94 ∧ a ≠ 78 := by decide
      obtain ⟨x1, x2, x3⟩ := d a ha
      exact z2 a x1 x2 x3
    obtain ⟨y1, y2, y3, y4, y5, y6⟩ := lc
    exact finA i3 i4 i5 ⟨by unfold rd; rw [K3 47 (by decide)]; exact y1, by rw [K3 48 (by decide)]; exact y2, by rw [K3 71 (by decide)]; exact y3, by rw [K3 74 (by decide)]; exact y4, by rw [K3 76 (by decide)]; exact y5, by rw [K3 77 (by decide)]; exact y6, z3, by rw [K2 91 (by decide)]; exact w7.1, by rw [K2 97 (by decide)]; exact w10, by rw [K2 98 (by decide)]; exact w11, by rw [K2 99 (by decide)]; exact w12, by rw [K2 100 (by decide)]; exact w13, (K 39 (by decide)).trans i1.2.2.2.2.2.2.2.2.2.2.2.2.1, (K 40 (by decide)).trans i1.2.2.2.2.2.2.2.2.2.2.2.2.2⟩ ⟨by rw [W78 3 (by omega), W41]; exact i2.1, by rw [W78 4 (by omega), W41]; exact i2.2⟩ (K 42 (by decide)) (K 79 (by decide)) (W78 1 (by omega)) (K 44 (by decide)) (K 92 (by decide)) (K 46 (by decide)) (W41 9) (fun a ha hne => WS a (dd a ha).2.1 (dd a ha).1 hne) (fun r hr => WS _ (d8 r hr).2.1 (d8 r hr).1 (n9 _ (d8 r hr).2.2.1))
theorem eqT.fin {B X : List Int32} (h : eqT B X) : (X.length ≤ 4096 → B = X) ∧ (4096 < X.length → 4096 < B.length) := by
  rcases h with h | ⟨h1, h2⟩
  · exact ⟨fun _ => h, fun c => by rw [h]; exact c⟩
  · exact ⟨fun c => absurd c (by omega), fun _ => h1⟩
/-- the reference's set, up to its end -/
theorem bset_val {T0 : SS} {n0 n1 n2 n3 : Nat} {t pt vt : Vl} (l78 : (T0 78).length = 22) (l90 : (T0 90).length = 3) (l91 : (T0 91).length = 9000) (h39 : T0 39 = mp_aS) (h40 : T0 40 = mp_aE) (hn0 : n0 < 8) (hn1 : n1 < 8) (hn2 : n2 < 8) (hn3 : n3 < 8) (ca : cat (T0 (82 + n1)) 0 t) (cp : cat (T0 (82 + n2)) 0 pt) (cv : cat (T0 (82 + n3)) 0 vt) (hd : dV t ≤ 60) : ∃ T2, b_set T0 (Int32.ofNat n0) (Int32.ofNat n1) (Int32.ofNat n2) (Int32.ofNat n3) = ((b_finish T2 (Int32.ofNat n0) 2 3).bind fun r => some r) ∧ (∀ a, a ≠ 78 → a ≠ 90 → a ≠ 91 → T2 a = T0 a) ∧ (∀ k, k = 1 ∨ k = 3 ∨ k = 4 → rd T2 78 k = rd T0 78 k) ∧ rd T2 78 0 = 0 ∧ (T2 78).length = 22 ∧ (T2 91).length = 9000 ∧ (∀ U, pt.1 = 5 → (toL pt.2.2.2).length ≤ 100 → putS ((toL pt.2.2.2).map fun m => m.2) t none vt = some U → rd T2 78 12 = 0 ∧ ∃ C', OutV T2 C' ∧ (C' = cV U ∨ (9000 < C'.length ∧ ¬ good U))) ∧ (¬ (pt.1 = 5 ∧ (toL pt.2.2.2).length ≤ 100 ∧ putS ((toL pt.2.2.2).map fun m => m.2) t none vt ≠ none) → ¬ rd T2 78 12 ≤ 0) := by
  obtain ⟨S1, b1, b2, b3, b4, b5, b6, b7⟩ := begin_val l78 l90 l91
  have reg : ∀ n, n < 8 → b_none S1 (Int32.ofNat n) = some 0 := by
    intro n hn
    have : ¬ Int32.ofNat n < 0 ∧ Int32.ofNat n < 8 := ⟨i_nn (by omega), by rw [show (8 : Int32) = Int32.ofNat 8 from rfl, i_lt' (by omega) (by omega)]; exact hn⟩
    exact (reg_ok S1 this).2.1
  obtain ⟨d1, d1'⟩ := get81 n1 hn1
  obtain ⟨d2, d2'⟩ := get81 n2 hn2
  obtain ⟨d3, d3'⟩ := get81 n3 hn3
  obtain ⟨T, hT⟩ : ∃ T, T = wr (wr S1 78 19 (Int32.ofNat (82 + n2))) 78 20 (Int32.ofNat (82 + n3)) := ⟨_, rfl⟩
  have t19 : rd T 78 19 = Int32.ofNat (82 + n2) := by rw [hT, rd_wr_j (by decide), rd_wr (by rw [b6]; decide)]
  have t20 : rd T 78 20 = Int32.ofNat (82 + n3) := by rw [hT, rd_wr (by rw [wr_len, b6]; decide)]
  have tk : ∀ k, k ≠ 19 → k ≠ 20 → rd T 78 k = rd S1 78 k := fun k k1 k2 => by rw [hT, rd_wr_j (fun e => k2 e.symm), rd_wr_j (fun e => k1 e.symm)]
  have lT : (T 78).length = 22 := by rw [hT, wr_len, wr_len]; exact b6
  have oth : ∀ a, a ≠ 78 → a ≠ 90 → T a = T0 a := fun a n1 n2 => by rw [hT, wr_ne n1, wr_ne n1, b2 a n1 n2]
  have oT : OutV T [] := by
    unfold OutV rd at b7 ⊢
    rw [hT, wr_ne (by decide), wr_ne (by decide), wr_ne (by decide), wr_ne (by decide)]
    exact b7
  have t12 : rd T 78 12 = 0 := by rw [tk 12 (by decide) (by decide)]; exact b5
  have n19 : ¬ rd T 78 19 = 0 := by rw [t19, show (0 : Int32) = Int32.ofNat 0 from rfl, i_inj (by omega) (by omega)]; omega
  have cp' : cat (T (82 + n2)) 0 pt := by rw [oth _ (by omega) (by omega)]; exact cp
  have head : b_set T0 (Int32.ofNat n0) (Int32.ofNat n1) (Int32.ofNat n2) (Int32.ofNat n3) = (if Int32.ofNat pt.1 = (5 : Int32) then ((r_many (T (82 + n2)) 0).bind fun r22 => (if r22 ≤ (100 : Int32) then ((b_put 70 T (82 + n1) 0 2 0).bind fun r26 => ((b_finish r26 (Int32.ofNat n0) 2 3).bind fun r28 => some r28)) else ((b_refuse T 2).bind fun r30 => ((b_finish r30 (Int32.ofNat n0) 2 3).bind fun r32 => some r32)))) else ((b_refuse T 1).bind fun r34 => ((b_finish r34 (Int32.ofNat n0) 2 3).bind fun r36 => some r36))) := by
    unfold b_set
    rw [b1, o_bind, reg n0 hn0, o_bind, if_pos rfl, reg n1 hn1, o_bind, if_pos rfl, reg n2 hn2, o_bind, if_pos rfl, reg n3 hn3, o_bind, if_pos rfl, d2, o_bind, d3, o_bind, d2', d3', ← hT, if_neg n19, t19, d2', show iget (T (82 + n2)) 0 = some (Int32.ofNat pt.1) from cp'.kind, o_bind, d1, o_bind, d1']
  have k6 := cp.2.1.1
  have refd : ∀ v : Int32, ¬ v ≤ 0 → (b_refuse T v = some (wr T 78 12 v)) ∧ (∀ a, a ≠ 78 → a ≠ 90 → a ≠ 91 → wr T 78 12 v a = T0 a) ∧ (∀ k, k = 1 ∨ k = 3 ∨ k = 4 → rd (wr T 78 12 v) 78 k = rd T0 78 k) ∧ rd (wr T 78 12 v) 78 0 = 0 ∧ (wr T 78 12 v 78).length = 22 ∧ (wr T 78 12 v 91).length = 9000 ∧ ¬ rd (wr T 78 12 v) 78 12 ≤ 0 := by
    intro v hv
    refine ⟨by unfold b_refuse; rw [t12, if_pos rfl], fun a x1 x2 _ => by rw [wr_ne x1, oth a x1 x2], fun k hk => by rw [rd_wr_j (by omega), tk k (by omega) (by omega), b3 k (by omega) (by omega)], by rw [rd_wr_j (by decide), tk 0 (by decide) (by decide)]; exact b4, by rw [wr_len]; exact lT, by rw [wr_ne (by decide), oth 91 (by decide) (by decide)]; exact l91, by rw [rd_wr (by rw [lT]; decide)]; exact hv⟩
  rw [head]
  by_cases e5 : pt.1 = 5
  · obtain ⟨kp, vp, sp, fp⟩ := pt
    obtain ⟨lp, rfl⟩ : ∃ l, fp = ofL l := ⟨toL fp, (ofL_toL fp).symm⟩
    have e5 : kp = 5 := e5
    subst e5
    have etl : toL ((5, vp, sp, ofL lp) : Vl).2.2.2 = lp := toL_ofL lp
    rw [etl]
    obtain ⟨-, -, r, dp⟩ := id cp'
    have hm := many_val (p := 0) (r := r) cp'.1 cp'.2.1.kids (Or.inl rfl) dp
    rw [if_pos (show Int32.ofNat ((5, vp, sp, ofL lp) : Vl).1 = 5 from rfl), show r_many (T (82 + n2)) 0 = some (Int32.ofNat lp.length) from hm, o_bind]
    have hlp : lp.length ≤ 9000 := by
      obtain ⟨y1, y2, -⟩ := pos_in cp' (Nat.le_refl lp.length)
      have := cp'.next.2
      have h9 := cp'.1
      have hbl := blks_len false lp
      have hfl := flat2 _ (blks_h (b := false) cp'.2.1.kids)
      simp only [Bool.false_eq_true, if_false] at hbl
      omega
    by_cases hl : lp.length ≤ 100
    · rw [if_pos (by rw [show (100 : Int32) = Int32.ofNat 100 from rfl, i_le' (by omega) (by omega)]; exact hl)]
      have hP : prP T (82 + n1) (82 + n2) (82 + n3) (5, vp, sp, ofL lp) vt := ⟨t19, t20, cp', by rw [oth _ (by omega) (by omega)]; exact cv, by rw [oth 39 (by decide) (by decide)]; exact h39, by rw [oth 40 (by decide) (by decide)]; exact h40, lT, by omega, by omega, by omega⟩
      have hA : atP T (82 + n2) 2 (cV (5, vp, sp, ofL lp)).length lp := by
        obtain ⟨y1, y2, r', y3, y4⟩ := pos_in cp' (Nat.zero_le lp.length)
        have h9 := cp'.1
        have hn := cp'.next.2
        refine ⟨cp'.2.1.kids, ?_, by omega, by omega, r', y4⟩
        rw [cV_5] at dp
        have := iget_drop (p := 1) (r := (blks false lp).flatten ++ r) cp'.1 (x := Int32.ofNat ((blks false lp).flatten.length + 2)) (by
          have := drop_more (w := [(5 : Int32)]) (p := 0) (r := Int32.ofNat ((blks false lp).flatten.length + 2) :: ((blks false lp).flatten ++ r)) (us := T (82 + n2)) (by simpa using dp)
          simpa using this)
        rw [cV_5]
        simp only [List.length_cons]
        exact this
      obtain ⟨T2, j1, j2, C', j3, j4, j5⟩ := put_val 70 0 (by decide) (by decide) lp T [] (Int32.ofNat 0) t 2 hP hA oT t12 (Or.inr ⟨0, rfl, by omega, by rw [oth _ (by omega) (by omega)]; exact ca⟩) (fun _ => by omega)
      rw [show (0 : Int32) = Int32.ofNat 0 from rfl, show (2 : Int32) = Int32.ofNat 2 from rfl, j1, o_bind]
      refine ⟨T2, rfl, fun a x1 x2 x3 => by rw [j2.1 a x1 x2 x3, oth a x1 x2], fun k hk => by rw [j2.2.1 k (by omega) (by omega) (by omega), tk k (by omega) (by omega), b3 k (by omega) (by omega)], by rw [j2.2.1 0 (by decide) (by decide) (by decide), tk 0 (by decide) (by decide)]; exact b4, by rw [j2.2.2]; exact lT, j3.1, fun U _ _ hU => ?_, fun hn => ?_⟩
      · obtain ⟨u1, u2, u3⟩ := j4 U hU
        refine ⟨u1, C', by simpa using j3, ?_⟩
        rcases u3 with c | ⟨c1, c2⟩
        · exact Or.inl c
        · refine Or.inr ⟨c1, fun g => ?_⟩
          have := g.2
          omega
      · apply j5
        apply Classical.byContradiction
        intro c
        exact hn ⟨rfl, hl, c⟩
    · obtain ⟨r1, r2, r3, r4, r5, r6, r7⟩ := refd 2 (by decide)
      rw [if_neg (by rw [show (100 : Int32) = Int32.ofNat 100 from rfl, i_le' (by omega) (by omega)]; exact hl), r1, o_bind]
      exact ⟨_, rfl, r2, r3, r4, r5, r6, fun U _ c _ => absurd c hl, fun _ => r7⟩
  · obtain ⟨r1, r2, r3, r4, r5, r6, r7⟩ := refd 1 (by decide)
    rw [if_neg (kne5 k6 e5), r1, o_bind]
    exact ⟨_, rfl, r2, r3, r4, r5, r6, fun U c _ _ => absurd c e5, fun _ => r7⟩
/-- set -/
theorem op5 : stp5 Inv := by
  intro S p0 p1 p2 p3 hcs hI
  obtain ⟨l78, l41, l90, -, l67, -, l69, l70, -⟩ := cs.l78 hcs
  obtain ⟨i1, i2, ⟨tape, i3⟩, ⟨res, i4⟩, ts, dr, ra, i5⟩ := id hI
  obtain ⟨g1, g2, g3, g4, g5⟩ := id i5
  have l91 : (S 91).length = 9000 := i1.2.2.2.2.2.2.2.1
  have h39 : S 39 = mp_aS := i1.2.2.2.2.2.2.2.2.2.2.2.2.1
  have h40 : S 40 = mp_aE := i1.2.2.2.2.2.2.2.2.2.2.2.2.2
  have bad : a_set S p0 p1 p2 p3 = some (S, 2) → (∀ S1, b_begin S = some S1 → b_set S p0 p1 p2 p3 = some (wr S1 78 0 1)) → ∃ (c : SS × Int32) (w : SS), h_set S p0 p1 p2 p3 = some c ∧ c.1 0 = S 0 ∧ b_set c.1 p0 p1 p2 p3 = some w ∧ rd w 78 0 = c.2 ∧ w 0 = S 0 ∧ Inv w := by
    intro e1 e2
    obtain ⟨S1, b1, b2, b3, b4, b5, b6, b7⟩ := begin_val l78 l90 l91
    obtain ⟨z1, z2, z3⟩ := bad_begin hI b6 b2 b3
    refine ⟨(S, 1), wr S1 78 0 1, ?_, rfl, e2 S1 b1, z1, z2, z3⟩
    unfold h_set
    rw [e1, o_bind, if_neg (show ¬ (2 : Nat) = 0 by decide), if_pos rfl]
  by_cases h0 : ¬ p0 < 0 ∧ p0 < 8
  rotate_left
  · refine bad ?_ fun S1 b1 => ?_
    · unfold a_set; rw [(reg_bad S h0).1, o_bind, if_neg (show ¬ (2 : Nat) = 0 by decide)]
    · unfold b_set; rw [b1, o_bind, (reg_bad S1 h0).2, o_bind, if_neg (by decide)]
  by_cases h1 : ¬ p1 < 0 ∧ p1 < 8
  rotate_left
  · refine bad ?_ fun S1 b1 => ?_
    · unfold a_set; rw [(reg_ok S h0).1, o_bind, if_pos rfl, (reg_bad S h1).1, o_bind, if_neg (show ¬ (2 : Nat) = 0 by decide)]
    · unfold b_set; rw [b1, o_bind, (reg_ok S1 h0).2.1, o_bind, if_pos rfl, (reg_bad S1 h1).2, o_bind, if_neg (by decide)]
  by_cases h2 : ¬ p2 < 0 ∧ p2 < 8
  rotate_left
  · refine bad ?_ fun S1 b1 => ?_
    · unfold a_set; rw [(reg_ok S h0).1, o_bind, if_pos rfl, (reg_ok S h1).1, o_bind, if_pos rfl, (reg_bad S h2).1, o_bind, if_neg (show ¬ (2 : Nat) = 0 by decide)]
    · unfold b_set; rw [b1, o_bind, (reg_ok S1 h0).2.1, o_bind, if_pos rfl, (reg_ok S1 h1).2.1, o_bind, if_pos rfl, (reg_bad S1 h2).2, o_bind, if_neg (by decide)]
  by_cases h3 : ¬ p3 < 0 ∧ p3 < 8
  rotate_left
  · refine bad ?_ fun S1 b1 => ?_
    · unfold a_set; rw [(reg_ok S h0).1, o_bind, if_pos rfl, (reg_ok S h1).1, o_bind, if_pos rfl, (reg_ok S h2).1, o_bind, if_pos rfl, (reg_bad S h3).1, o_bind, if_neg (show ¬ (2 : Nat) = 0 by decide)]
    · unfold b_set; rw [b1, o_bind, (reg_ok S1 h0).2.1, o_bind, if_pos rfl, (reg_ok S1 h1).2.1, o_bind, if_pos rfl, (reg_ok S1 h2).2.1, o_bind, if_pos rfl, (reg_bad S1 h3).2, o_bind, if_neg (by decide)]
  obtain ⟨a0, -, n0, hn0, rfl⟩ := reg_ok S h0
  obtain ⟨a1, -, n1, hn1, rfl⟩ := reg_ok S h1
  obtain ⟨a2, -, n2, hn2, rfl⟩ := reg_ok S h2
  obtain ⟨a3, -, n3, hn3, rfl⟩ := reg_ok S h3
  have hdn : dr ∈ nine := g3.mem_iff.mp List.mem_cons_self
  have n9 : ∀ a, a ∉ nine → a ≠ dr := fun a ha e => ha (e ▸ hdn)
  have nt : ∀ a ∈ nine, nU a := by unfold nU; decide
  have m1 := ra_mem g3 g2 hn1
  have m2 := ra_mem g3 g2 hn2
  have m3 := ra_mem g3 g2 hn3
  obtain ⟨c1, c1'⟩ := get46 g1 g2 hn1 (nt _ m1).1
  obtain ⟨c2, c2'⟩ := get46 g1 g2 hn2 (nt _ m2).1
  obtain ⟨c3, c3'⟩ := get46 g1 g2 hn3 (nt _ m3).1
  obtain ⟨v1, k1⟩ := reg_vat (g5 n1 hn1)
  obtain ⟨v2, k2⟩ := reg_vat (g5 n2 hn2)
  obtain ⟨v3, k3⟩ := reg_vat (g5 n3 hn3)
  have tb : ∀ n, n < 8 → tT S (ra.getD n 0) = bV (ts n) := fun n hn => by unfold tT; rw [(g5 n hn).1]; rfl
  have e9 : (rd S 41 9).toNatClampNeg = dr := by rw [g4]; exact i_cl (by have := (nt _ hdn).1; omega)
  have v1' := v1
  rw [tb n1 hn1] at v1'
  have v3' := v3
  rw [tb n3 hn3] at v3'
  obtain ⟨S3, e, u1, u2, u3, u4, u5⟩ := uput_val (S := S) (ta := ra.getD n1 0) (t1 := ra.getD n2 0) (t2 := ra.getD n3 0) (dr := dr) (t := ts n1) (pt := ts n2) (vt := ts n3) (nt _ m1) (nt _ m2) (nt _ m3) (nt _ hdn) (ra_ne g3 g2 hn1) (ra_ne g3 g2 hn2) (ra_ne g3 g2 hn3) (tb n1 hn1) v1' v2 (tb n3 hn3) v3' l67 l69 l70 i1.lenC.2.2.1
  have f3 : ∀ a, a ∉ cSc → a ≠ dr → S3 a = S a := fun a x1 x2 => u2 a (fun e => x1 (e ▸ by decide)) (fun e => x1 (e ▸ by decide)) (fun e => x1 (e ▸ by decide)) (fun e => x1 (e ▸ by decide)) x2
  have u2' : ∀ a, a ∈ [47, 48, 74, 76, 77] → S3 a = S a := fun a ha => by
    have d : ∀ a ∈ [47, 48, 74, 76, 77], a ≠ 67 ∧ a ≠ 69 ∧ a ≠ 70 ∧ a ≠ 71 ∧ a ∉ nine := by decide
    obtain ⟨x1, x2, x3, x4, x5⟩ := d a ha
    exact u2 a x1 x2 x3 x4 (n9 a x5)
  have lc : lenC S3 := by
    obtain ⟨y1, y2, y3, y4, y5, y6⟩ := i1.lenC
    exact ⟨by unfold rd; rw [u2' 47 (by decide)]; exact y1, by rw [u2' 48 (by decide)]; exact y2, u3, by rw [u2' 74 (by decide)]; exact y4, by rw [u2' 76 (by decide)]; exact y5, by rw [u2' 77 (by decide)]; exact y6⟩
  have eA : a_set S (Int32.ofNat n0) (Int32.ofNat n1) (Int32.ofNat n2) (Int32.ofNat n3) = ((a_refuse S3 e).bind fun r14 => if r14.2 = 0 then ((a_keep r14.1 (Int32.ofNat n0)).bind fun r16 => if r16.2 = 0 then some (r16.1, 0) else some (r16.1, r16.2)) else some (r14.1, r14.2)) := by
    unfold a_set
    rw [a0, o_bind, if_pos rfl, a1, o_bind, if_pos rfl, a2, o_bind, if_pos rfl, a3, o_bind, if_pos rfl, c1, o_bind, c2, o_bind, c3, o_bind, c1', c2', c3', e9, u1, o_bind]
  have d8 : ∀ r, r < 8 → 82 + r ∉ cSc ∧ 82 + r ∉ nine ∧ 82 + r ≠ 41 ∧ 82 + r ≠ 46 := by decide
  have refT : ∀ T0 : SS, (∀ a, a ≠ 41 → a ≠ 46 → a ∉ cSc → a ∉ nine → T0 a = S a) → ∃ T2, b_set T0 (Int32.ofNat n0) (Int32.ofNat n1) (Int32.ofNat n2) (Int32.ofNat n3) = ((b_finish T2 (Int32.ofNat n0) 2 3).bind fun r => some r) ∧ (∀ a, a ≠ 78 → a ≠ 90 → a ≠ 91 → T2 a = T0 a) ∧ (∀ k, k = 1 ∨ k = 3 ∨ k = 4 → rd T2 78 k = rd S 78 k) ∧ rd T2 78 0 = 0 ∧ (T2 78).length = 22 ∧ (T2 91).length = 9000 ∧ (∀ U, (ts n2).1 = 5 → (toL (ts n2).2.2.2).length ≤ 100 → putS ((toL (ts n2).2.2.2).map fun m => m.2) (ts n1) none (ts n3) = some U → rd T2 78 12 = 0 ∧ ∃ C', OutV T2 C' ∧ (C' = cV U ∨ (9000 < C'.length ∧ ¬ good U))) ∧ (¬ ((ts n2).1 = 5 ∧ (toL (ts n2).2.2.2).length ≤ 100 ∧ putS ((toL (ts n2).2.2.2).map fun m => m.2) (ts n1) none (ts n3) ≠ none) → ¬ rd T2 78 12 ≤ 0) ∧ lenR T2 := by
    intro T0 hT0
    have e82 : ∀ n, n < 8 → T0 (82 + n) = S (82 + n) := fun n hn => by
      obtain ⟨x1, x2, x3, x4⟩ := d8 n hn
      exact hT0 _ x3 x4 x1 x2
    have e78 : T0 78 = S 78 := hT0 78 (by decide) (by decide) (by decide) (by decide)
    obtain ⟨T2, w1, w2, w3, w4, w5, w6, w7, w8⟩ := bset_val (T0 := T0) (n0 := n0) (n1 := n1) (n2 := n2) (n3 := n3) (t := ts n1) (pt := ts n2) (vt := ts n3) (by rw [e78]; exact l78) (by rw [hT0 90 (by decide) (by decide) (by decide) (by decide)]; exact l90) (by rw [hT0 91 (by decide) (by decide) (by decide) (by decide)]; exact l91) (by rw [hT0 39 (by decide) (by decide) (by decide) (by decide)]; exact h39) (by rw [hT0 40 (by decide) (by decide) (by decide) (by decide)]; exact h40) hn0 hn1 hn2 hn3 (by rw [e82 n1 hn1]; exact k1) (by rw [e82 n2 hn2]; exact k2) (by rw [e82 n3 hn3]; exact k3) (g5 n1 hn1).2.2.2.1
    refine ⟨T2, w1, w2, fun k hk => by rw [w3 k hk]; unfold rd; rw [e78], w4, w5, w6, w7, w8, ?_⟩
    obtain ⟨y1, y2, y3, y4, y5⟩ := i1.lenR
    have er : ∀ a, a ∈ [80, 97, 98, 99, 100] → T2 a = S a := fun a ha => by
      have d : ∀ a ∈ [80, 97, 98, 99, 100], a ≠ 78 ∧ a ≠ 90 ∧ a ≠ 91 ∧ a ≠ 41 ∧ a ≠ 46 ∧ a ∉ cSc ∧ a ∉ nine := by decide
      obtain ⟨x1, x2, x3, x4, x5, x6, x7⟩ := d a ha
      rw [w2 a x1 x2 x3, hT0 a x4 x5 x6 x7]
    exact ⟨by rw [er 80 (by decide)]; exact y1, by rw [er 97 (by decide)]; exact y2, by rw [er 98 (by decide)]; exact y3, by rw [er 99 (by decide)]; exact y4, by rw [er 100 (by decide)]; exact y5⟩
  have rs_ok : ∀ (T0 T2 : SS), (∀ a, a ≠ 78 → a ≠ 90 → a ≠ 91 → T2 a = T0 a) → ∀ a, a ∉ rSc → T2 a = T0 a := fun T0 T2 h a ha => h a (fun e => ha (e ▸ by decide)) (fun e => ha (e ▸ by decide)) (fun e => ha (e ▸ by decide))
  by_cases he : e = 0
  · obtain ⟨q1, q2, U, q3, q4, Bf, q5, q6⟩ := u4 he
    obtain ⟨hB1, hB2⟩ := q6.fin
    have eA' : a_set S (Int32.ofNat n0) (Int32.ofNat n1) (Int32.ofNat n2) (Int32.ofNat n3) = ((a_keep S3 (Int32.ofNat n0)).bind fun r16 => if r16.2 = 0 then some (r16.1, 0) else some (r16.1, r16.2)) := by
      rw [eA, (refuse_a e).1 he, o_bind, if_pos rfl]
    rcases fin_call2 (bc := fun T => b_set T (Int32.ofNat n0) (Int32.ofNat n1) (Int32.ofNat n2) (Int32.ofNat n3)) (c2 := 2) (c3 := 3) l41 i1 i2 i3 i4 i5 hn0 q4 f3 lc q5 hB1 hB2 (fun T0 hT0 => by
      obtain ⟨T2, w1, w2, w3, w4, w5, w6, w7, w8, w9⟩ := refT T0 hT0
      obtain ⟨y1, y2⟩ := w7 U q1 q2 q3
      exact ⟨T2, w1, rs_ok T0 T2 w2, w3, w4, y1, w5, y2, w9⟩) with ⟨Sg, W, z1, z2, z3, z4, z5, z6⟩ | ⟨W, z1, z2, z3, z4, z5, z6⟩
    · refine ⟨(Sg, 0), W, ?_, z2, z3, z4, z5, z6⟩
      unfold h_set
      rw [eA', z1, o_bind, if_pos rfl, o_bind, if_pos rfl]
    · refine ⟨(S3, 3), W, ?_, z2, z3, z4, z5, z6⟩
      unfold h_set
      rw [eA', z1, o_bind, if_neg (show ¬ (1 : Nat) = 0 by decide), o_bind, if_neg (show ¬ (1 : Nat) = 0 by decide), if_neg (show ¬ (1 : Nat) = 2 by decide), if_neg (show ¬ (1 : Nat) = 4 by decide), if_pos rfl]
  · have hne : ¬ ((ts n2).1 = 5 ∧ (toL (ts n2).2.2.2).length ≤ 100 ∧ putS ((toL (ts n2).2.2.2).map fun m => m.2) (ts n1) none (ts n3) ≠ none) := fun c => c.2.2 (u5 he c.1 c.2.1)
    obtain ⟨Sc, hSc⟩ : ∃ Sc, Sc = wr S3 41 11 e := ⟨_, rfl⟩
    have hT0 : ∀ a, a ≠ 41 → a ≠ 46 → a ∉ cSc → a ∉ nine → Sc a = S a := fun a x1 _ x3 x4 => by rw [hSc, wr_ne x1, f3 a x3 (n9 a x4)]
    obtain ⟨T2, w1, w2, w3, w4, w5, w6, w7, w8, w9⟩ := refT Sc hT0
    have e41 : S3 41 = S 41 := f3 41 (by decide) (n9 41 (by decide))
    have lcS : lenC Sc := by
      obtain ⟨y1, y2, y3, y4, y5, y6⟩ := lc
      exact ⟨by rw [hSc, rd_wr_ne (by decide)]; exact y1, by rw [hSc, wr_ne (by decide)]; exact y2, by rw [hSc, wr_ne (by decide)]; exact y3, by rw [hSc, wr_ne (by decide)]; exact y4, by rw [hSc, wr_ne (by decide)]; exact y5, by rw [hSc, wr_ne (by decide)]; exact y6⟩
    obtain ⟨W, z1, z2, z3, z4, z5⟩ := fin_refused (S := S) (Sc := Sc) (bc := fun T => b_set T (Int32.ofNat n0) (Int32.ofNat n1) (Int32.ofNat n2) (Int32.ofNat n3)) (T2 := T2) i1 i2 i3 i4 i5 (fun a x1 x2 x3 => by rw [hSc, wr_ne x3, f3 a x1 x2]) (fun k hk => by rw [hSc, rd_wr_j (fun c => hk c.symm)]; unfold rd; rw [e41]) lcS w1 (rs_ok Sc T2 w2) (fun k hk => w3 k (by omega)) (w8 hne) w5 w6 w9
    refine ⟨(Sc, 2), W, ?_, z1, z2, z3, z4, z5⟩
    unfold h_set
    rw [eA, (refuse_a e).2 he, o_bind, if_neg (show ¬ (4 : Nat) = 0 by decide), o_bind, if_neg (show ¬ (4 : Nat) = 0 by decide), if_neg (show ¬ (4 : Nat) = 2 by decide), if_pos rfl, hSc]
end Set166
