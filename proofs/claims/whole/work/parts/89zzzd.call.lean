/-! How a call ends, for all calls that make a value. -/
section Call145
def cSc : List Nat := [47, 48, 67, 68, 69, 70, 71, 72, 73, 74, 75, 76, 77]
def rSc : List Nat := [78, 80, 90, 91, 94, 95, 96, 97, 98, 99, 100]
theorem akeep_over {S : SS} {B : List Int32} {dr : Nat} {p : Int32} (hd : rd S 41 9 = Int32.ofNat dr) (hdr : dr < 1000) (ht : S dr = pv B) (hb : 4096 < B.length) : a_keep S p = some (S, 1) := by
  have e0 : (rd S 41 9).toNatClampNeg = dr := by rw [hd, i_cl (by omega)]
  unfold a_keep
  have tv : tV S dr = if B.length ≤ 4096 then 0 else 1 := by unfold tV; rw [ht]; rfl
  rw [e0, tv, if_neg (show ¬ B.length ≤ 4096 by omega), if_neg (by decide)]
def lenC (S : SS) : Prop := rd S 47 1 = 0 ∧ (S 48).length = 2048 ∧ (S 71).length = 100 ∧ (S 74).length = 100 ∧ (S 76).length = 60 ∧ (S 77).length = 60
def lenR (S : SS) : Prop := (S 80).length = 9000 ∧ (S 97).length = 4200 ∧ (S 98).length = 9000 ∧ (S 99).length = 64 ∧ (S 100).length = 64
theorem InvL.lenC {S : SS} (h : InvL S) : lenC S := ⟨h.1, h.2.1, h.2.2.1, h.2.2.2.1, h.2.2.2.2.1, h.2.2.2.2.2.1⟩
theorem InvL.lenR {S : SS} (h : InvL S) : lenR S := ⟨h.2.2.2.2.2.2.1, h.2.2.2.2.2.2.2.2.1, h.2.2.2.2.2.2.2.2.2.1, h.2.2.2.2.2.2.2.2.2.2.1, h.2.2.2.2.2.2.2.2.2.2.2.1⟩
theorem fin_call {S S3 : SS} {ts : Nat → Vl} {dr : Nat} {ra : List Nat} {tape res B : List Int32} {T : Vl} {n0 : Nat} {bc : SS → Option SS} {c2 c3 : Int32} (l41 : (S 41).length = 12) (i1 : InvL S) (i2 : InvB S) (i3 : InvT S tape) (i4 : InvP S res) (i5 : InvG S ts dr ra) (hn0 : n0 < 8) (wo : wV T) (f3 : ∀ a, a ∉ cSc → a ≠ dr → S3 a = S a) (lc : lenC S3) (hd : S3 dr = pv B) (hB1 : (bV T).length ≤ 4096 → B = bV T) (hB2 : 4096 < (bV T).length → 4096 < B.length) (rs : ∀ T0 : SS, (∀ a, a ≠ 41 → a ≠ 46 → a ∉ cSc → a ∉ nine → T0 a = S a) → ∃ T2, bc T0 = ((b_finish T2 (Int32.ofNat n0) c2 c3).bind fun r => some r) ∧ (∀ a, a ∉ rSc → T2 a = T0 a) ∧ (∀ k, k = 1 ∨ k = 3 ∨ k = 4 → rd T2 78 k = rd S 78 k) ∧ rd T2 78 0 = 0 ∧ rd T2 78 12 = 0 ∧ (T2 78).length = 22 ∧ OutV T2 (cV T) ∧ lenR T2) : (∃ Sg W, a_keep S3 (Int32.ofNat n0) = some (Sg, 0) ∧ Sg 0 = S 0 ∧ bc Sg = some W ∧ rd W 78 0 = 0 ∧ W 0 = S 0 ∧ Inv W) ∨ (∃ W, a_keep S3 (Int32.ofNat n0) = some (S3, 1) ∧ S3 0 = S 0 ∧ bc S3 = some W ∧ rd W 78 0 = c3 ∧ W 0 = S 0 ∧ Inv W) := by
  obtain ⟨g1, g2, g3, g4, g5⟩ := id i5
  have md := nine_lt dr (g3.mem_iff.mp List.mem_cons_self)
  have hdn : dr ∈ nine := g3.mem_iff.mp List.mem_cons_self
  have n9 : ∀ a, a ∉ nine → a ≠ dr := fun a ha e => ha (e ▸ hdn)
  have e41 : S3 41 = S 41 := f3 41 (by decide) (n9 41 (by decide))
  have e46 : S3 46 = S 46 := f3 46 (by decide) (n9 46 (by decide))
  have hd9 : rd S3 41 9 = Int32.ofNat dr := by unfold rd; rw [e41]; exact g4
  have dd : ∀ a ∈ nine, a ∉ cSc ∧ a ∉ rSc ∧ a ≠ 41 ∧ a ≠ 46 ∧ a ≠ 80 ∧ a ≠ 94 ∧ a ≠ 78 ∧ a < 82 := by decide
  have d8 : ∀ r, r < 8 → 82 + r ∉ cSc ∧ 82 + r ∉ rSc ∧ 82 + r ∉ nine ∧ 82 + r ≠ 41 ∧ 82 + r ≠ 46 ∧ 82 + r ≠ 80 ∧ 82 + r ≠ 94 ∧ 82 + r ≠ 78 := by decide
  have l82 : ∀ T0 T2 : SS, (∀ a, a ≠ 41 → a ≠ 46 → a ∉ cSc → a ∉ nine → T0 a = S a) → (∀ a, a ∉ rSc → T2 a = T0 a) → (T2 (82 + n0)).length = 9000 := fun T0 T2 h1 h2 => by
    obtain ⟨x1, x2, x3, x4, x5, x6⟩ := d8 n0 hn0
    rw [h2 _ x2, h1 _ x4 x5 x1 x3]
    exact (g5 n0 hn0).2.2.2.2.1
  by_cases hg : good T
  · left
    have hBT := hB1 hg.1
    have ak := akeep_val (S := S3) (t := T) (dr := dr) (ra := ra) (n := n0) wo hd9 (e46.trans g1) g2 g3 (by rw [hd, hBT]) hn0
    rw [if_pos hg] at ak
    obtain ⟨Sg, hSg⟩ : ∃ Sg, Sg = wr (up S3 46 ((ra.set n0 dr).map Int32.ofNat)) 41 9 (Int32.ofNat (ra.getD n0 0)) := ⟨_, rfl⟩
    rw [← hSg] at ak
    have fg3 : ∀ a, a ≠ 41 → a ≠ 46 → Sg a = S3 a := fun a x1 x2 => by rw [hSg, wr_ne x1, up_ne x2]
    have fg : ∀ a, a ≠ 41 → a ≠ 46 → a ∉ cSc → a ≠ dr → Sg a = S a := fun a x1 x2 x3 x4 => by rw [fg3 a x1 x2, f3 a x3 x4]
    have fgn : ∀ a, a ≠ 41 → a ≠ 46 → a ∉ cSc → a ∉ nine → Sg a = S a := fun a x1 x2 x3 x4 => fg a x1 x2 x3 (n9 a x4)
    obtain ⟨T2, w1, w2, w3, w4, w5, w6, w7, w8, w10, w11, w12, w13⟩ := rs Sg fgn
    have w9 := l82 Sg T2 fgn w2
    obtain ⟨fv, -⟩ := finish_val (t := T) c2 c3 hn0 w5 w4 w6 wo w7 w8 w9
    obtain ⟨W, z1, z2, z3, z4, z5⟩ := fv hg
    have Wf : ∀ a, a ∉ rSc → a ≠ 82 + n0 → W a = Sg a := fun a x1 x2 => by
      have h80 : a ≠ 80 := fun e => x1 (e ▸ by decide)
      have h94 : a ≠ 94 := fun e => x1 (e ▸ by decide)
      rw [z2 a h80 h94 x2, w2 a x1]
    have W78 : ∀ k, rd W 78 k = rd T2 78 k := fun k => by unfold rd; rw [z2 78 (by decide) (by decide) (by omega)]
    have g41 : ∀ k, k ≠ 9 → rd Sg 41 k = rd S 41 k := fun k hk => by rw [hSg, rd_wr_j (fun e => hk e.symm), rd_up (by decide)]; unfold rd; rw [e41]
    have W41 : ∀ k, rd W 41 k = rd Sg 41 k := fun k => by unfold rd; rw [Wf 41 (by decide) (by omega)]
    have g419 : rd Sg 41 9 = Int32.ofNat (ra.getD n0 0) := by rw [hSg, rd_wr (by rw [up_ne (by decide), e41, l41]; decide)]
    have WS : ∀ a, a ∉ rSc → a ≠ 82 + n0 → a ≠ 41 → a ≠ 46 → a ∉ cSc → a ≠ dr → W a = S a := fun a x1 x2 x3 x4 x5 x6 => (Wf a x1 x2).trans (fg a x3 x4 x5 x6)
    refine ⟨Sg, W, ak, fg 0 (by decide) (by decide) (by decide) (n9 0 (by decide)), by rw [w1, z1, o_bind], by rw [W78, w4], WS 0 (by decide) (by omega) (by decide) (by decide) (by decide) (n9 0 (by decide)), ?_⟩
    have K : ∀ a, a ∈ [39, 40, 42, 79, 44, 92] → W a = S a := fun a ha => by
      have d : ∀ a ∈ [39, 40, 42, 79, 44, 92], a ∉ rSc ∧ (a < 82 ∨ 89 < a) ∧ a ≠ 41 ∧ a ≠ 46 ∧ a ∉ cSc ∧ a ∉ nine := by decide
      obtain ⟨x1, x2, x3, x4, x5, x6⟩ := d a ha
      exact WS a x1 (by omega) x3 x4 x5 (n9 a x6)
    have K3 : ∀ a, a ∈ [47, 48, 71, 74, 76, 77] → W a = S3 a := fun a ha => by
      have d : ∀ a ∈ [47, 48, 71, 74, 76, 77], a ∉ rSc ∧ (a < 82 ∨ 89 < a) ∧ a ≠ 41 ∧ a ≠ 46 := by decide
      obtain ⟨x1, x2, x3, x4⟩ := d a ha
      rw [Wf a x1 (by omega), fg3 a x3 x4]
    have K2 : ∀ a, a ∈ [97, 98, 99, 100, 91] → W a = T2 a := fun a ha => by
      have d : ∀ a ∈ [97, 98, 99, 100, 91], a ≠ 80 ∧ a ≠ 94 ∧ (a < 82 ∨ 89 < a) := by decide
      obtain ⟨x1, x2, x3⟩ := d a ha
      rw [z2 a x1 x2 (by omega)]
    have W46 : W 46 = (ra.set n0 dr).map Int32.ofNat := by rw [Wf 46 (by decide) (by omega), hSg, wr_ne (by decide), up_same]
    have Wd : W dr = 0 :: bV T := by
      obtain ⟨x1, x2, x3, x4, x5, x6, x7, x8⟩ := dd dr hdn
      rw [Wf dr x2 (by omega), fg3 dr x3 x4, hd, hBT, pv_fit hg.1]
    obtain ⟨y1, y2, y3, y4, y5, y6⟩ := lc
    refine finB i3 i4 i5 hn0 wo hg ⟨by unfold rd; rw [K3 47 (by decide)]; exact y1, by rw [K3 48 (by decide)]; exact y2, by rw [K3 71 (by decide)]; exact y3, by rw [K3 74 (by decide)]; exact y4, by rw [K3 76 (by decide)]; exact y5, by rw [K3 77 (by decide)]; exact y6, z3, by rw [K2 91 (by decide)]; exact w7.1, by rw [K2 97 (by decide)]; exact w10, by rw [K2 98 (by decide)]; exact w11, by rw [K2 99 (by decide)]; exact w12, by rw [K2 100 (by decide)]; exact w13, (K 39 (by decide)).trans i1.2.2.2.2.2.2.2.2.2.2.2.2.1, (K 40 (by decide)).trans i1.2.2.2.2.2.2.2.2.2.2.2.2.2⟩ ⟨?_, ?_⟩ (K 42 (by decide)) (K 79 (by decide)) ?_ (K 44 (by decide)) (K 92 (by decide)) W46 ?_ (fun a ha hne => ?_) Wd (fun r hr hne => ?_) ⟨z4, z5⟩
    · rw [W78, w3 3 (by omega), W41, g41 10 (by decide)]; exact i2.1
    · rw [W78, w3 4 (by omega), W41, g41 11 (by decide)]; exact i2.2
    · rw [W78, w3 1 (by omega)]
    · rw [W41, g419]
    · obtain ⟨x1, x2, x3, x4, x5, x6, x7, x8⟩ := dd a ha
      exact WS a x2 (by omega) x3 x4 x1 hne
    · obtain ⟨x1, x2, x3, x4, x5, x6⟩ := d8 r hr
      exact WS _ x2 (by omega) x4 x5 x1 (n9 _ x3)
  · right
    have ak : a_keep S3 (Int32.ofNat n0) = some (S3, 1) := by
      by_cases hb : (bV T).length ≤ 4096
      · have := akeep_val (S := S3) (t := T) (dr := dr) (ra := ra) (n := n0) wo hd9 (e46.trans g1) g2 g3 (by rw [hd, hB1 hb]) hn0
        rw [if_neg hg] at this
        exact this
      · exact akeep_over hd9 (by omega) hd (hB2 (by omega))
    have f3n : ∀ a, a ≠ 41 → a ≠ 46 → a ∉ cSc → a ∉ nine → S3 a = S a := fun a _ _ x3 x4 => f3 a x3 (n9 a x4)
    obtain ⟨T2, w1, w2, w3, w4, w5, w6, w7, w8, w10, w11, w12, w13⟩ := rs S3 f3n
    have w9 := l82 S3 T2 f3n w2
    obtain ⟨-, fv⟩ := finish_val (t := T) c2 c3 hn0 w5 w4 w6 wo w7 w8 w9
    obtain ⟨W, z1, z2, z3, z4, z5⟩ := fv hg
    have Wf : ∀ a, a ∉ rSc → W a = S3 a := fun a x1 => by
      have h80 : a ≠ 80 := fun e => x1 (e ▸ by decide)
      have h94 : a ≠ 94 := fun e => x1 (e ▸ by decide)
      have h78 : a ≠ 78 := fun e => x1 (e ▸ by decide)
      rw [z2 a h80 h94 h78, w2 a x1]
    have WS : ∀ a, a ∉ rSc → a ∉ cSc → a ≠ dr → W a = S a := fun a x1 x2 x3 => (Wf a x1).trans (f3 a x2 x3)
    have W41 : ∀ k, rd W 41 k = rd S 41 k := fun k => by unfold rd; rw [WS 41 (by decide) (by decide) (n9 41 (by decide))]
    have W78 : ∀ k, k = 1 ∨ k = 3 ∨ k = 4 → rd W 78 k = rd S 78 k := fun k hk => by rw [z5 k (by omega), w3 k hk]
    refine ⟨W, ak, f3 0 (by decide) (n9 0 (by decide)), by rw [w1, z1, o_bind], z4, WS 0 (by decide) (by decide) (n9 0 (by decide)), ?_⟩
    have K : ∀ a, a ∈ [39, 40, 42, 79, 44, 92, 46] → W a = S a := fun a ha => by
      have d : ∀ a ∈ [39, 40, 42, 79, 44, 92, 46], a ∉ rSc ∧ a ∉ cSc ∧ a ∉ nine := by decide
      obtain ⟨x1, x2, x3⟩ := d a ha
      exact WS a x1 x2 (n9 a x3)
    have K3 : ∀ a, a ∈ [47, 48, 71, 74, 76, 77] → W a = S3 a := fun a ha => by
      have d : ∀ a ∈ [47, 48, 71, 74, 76, 77], a ∉ rSc := by decide
      exact Wf a (d a ha)
    have K2 : ∀ a, a ∈ [97, 98, 99, 100, 91] → W a = T2 a := fun a ha => by
      have d : ∀ a ∈ [97, 98, 99, 100, 91], a ≠ 80 ∧ a ≠ 94 ∧ a ≠ 78 := by decide
      obtain ⟨x1, x2, x3⟩ := d a ha
      exact z2 a x1 x2 x3
    obtain ⟨y1, y2, y3, y4, y5, y6⟩ := lc
    exact finA i3 i4 i5 ⟨by unfold rd; rw [K3 47 (by decide)]; exact y1, by rw [K3 48 (by decide)]; exact y2, by rw [K3 71 (by decide)]; exact y3, by rw [K3 74 (by decide)]; exact y4, by rw [K3 76 (by decide)]; exact y5, by rw [K3 77 (by decide)]; exact y6, z3, by rw [K2 91 (by decide)]; exact w7.1, by rw [K2 97 (by decide)]; exact w10, by rw [K2 98 (by decide)]; exact w11, by rw [K2 99 (by decide)]; exact w12, by rw [K2 100 (by decide)]; exact w13, (K 39 (by decide)).trans i1.2.2.2.2.2.2.2.2.2.2.2.2.1, (K 40 (by decide)).trans i1.2.2.2.2.2.2.2.2.2.2.2.2.2⟩ ⟨by rw [W78 3 (by omega), W41]; exact i2.1, by rw [W78 4 (by omega), W41]; exact i2.2⟩ (K 42 (by decide)) (K 79 (by decide)) (W78 1 (by omega)) (K 44 (by decide)) (K 92 (by decide)) (K 46 (by decide)) (W41 9) (fun a ha hne => WS a (dd a ha).2.1 (dd a ha).1 hne) (fun r hr => WS _ (d8 r hr).2.1 (d8 r hr).1 (n9 _ (d8 r hr).2.2.1))
/-- a call that is refused: what both leave -/
theorem finish_refN {S : SS} (p0 p1 p2 : Int32) (h : ¬ rd S 78 12 ≤ 0) (h78 : (S 78).length = 22) : ∃ S', b_finish S p0 p1 p2 = some S' ∧ (∀ a, a ≠ 78 → S' a = S a) ∧ rd S' 78 0 = p1 ∧ ∀ k, k ≠ 0 → k ≠ 4 → rd S' 78 k = rd S 78 k := by
  unfold b_finish
  rw [if_neg h]
  exact ⟨_, rfl, fun a n => by rw [wr_ne n, wr_ne n], rd_wr (by rw [wr_len, h78]; decide), fun k k0 k4 => by rw [rd_wr_j (fun e => k0 e.symm), rd_wr_j (fun e => k4 e.symm)]⟩
theorem fin_refused {S Sc : SS} {ts : Nat → Vl} {dr : Nat} {ra : List Nat} {tape res : List Int32} {bc : SS → Option SS} {p0 c2 c3 : Int32} {T2 : SS} (i1 : InvL S) (i2 : InvB S) (i3 : InvT S tape) (i4 : InvP S res) (i5 : InvG S ts dr ra) (f3 : ∀ a, a ∉ cSc → a ≠ dr → a ≠ 41 → Sc a = S a) (f41 : ∀ k, k ≠ 11 → rd Sc 41 k = rd S 41 k) (lc : lenC Sc) (w1 : bc Sc = ((b_finish T2 p0 c2 c3).bind fun r => some r)) (w2 : ∀ a, a ∉ rSc → T2 a = Sc a) (w3 : ∀ k, k = 1 ∨ k = 3 → rd T2 78 k = rd S 78 k) (w5 : ¬ rd T2 78 12 ≤ 0) (w6 : (T2 78).length = 22) (w7 : (T2 91).length = 9000) (w8 : lenR T2) : ∃ W, Sc 0 = S 0 ∧ bc Sc = some W ∧ rd W 78 0 = c2 ∧ W 0 = S 0 ∧ Inv W := by
  obtain ⟨g1, g2, g3, g4, g5⟩ := id i5
  have hdn : dr ∈ nine := g3.mem_iff.mp List.mem_cons_self
  have n9 : ∀ a, a ∉ nine → a ≠ dr := fun a ha e => ha (e ▸ hdn)
  have dd : ∀ a ∈ nine, a ∉ cSc ∧ a ∉ rSc ∧ a ≠ 41 := by decide
  have d8 : ∀ r, r < 8 → 82 + r ∉ cSc ∧ 82 + r ∉ rSc ∧ 82 + r ∉ nine ∧ 82 + r ≠ 41 := by decide
  obtain ⟨W, z1, z2, z3, z5⟩ := finish_refN p0 c2 c3 w5 w6
  have Wf : ∀ a, a ∉ rSc → W a = Sc a := fun a x1 => by
    have h78 : a ≠ 78 := fun e => x1 (e ▸ by decide)
    rw [z2 a h78, w2 a x1]
  have WS : ∀ a, a ∉ rSc → a ∉ cSc → a ≠ dr → a ≠ 41 → W a = S a := fun a x1 x2 x3 x4 => (Wf a x1).trans (f3 a x2 x3 x4)
  have W41 : ∀ k, rd W 41 k = rd Sc 41 k := fun k => by unfold rd; rw [Wf 41 (by decide)]
  refine ⟨W, f3 0 (by decide) (n9 0 (by decide)) (by decide), by rw [w1, z1, o_bind], z3, WS 0 (by decide) (by decide) (n9 0 (by decide)) (by decide), ?_⟩
  have K : ∀ a, a ∈ [39, 40, 42, 79, 44, 92, 46] → W a = S a := fun a ha => by
    have d : ∀ a ∈ [39, 40, 42, 79, 44, 92, 46], a ∉ rSc ∧ a ∉ cSc ∧ a ∉ nine ∧ a ≠ 41 := by decide
    obtain ⟨x1, x2, x3, x4⟩ := d a ha
    exact WS a x1 x2 (n9 a x3) x4
  have K3 : ∀ a, a ∈ [47, 48, 71, 74, 76, 77] → W a = Sc a := fun a ha => by
    have d : ∀ a ∈ [47, 48, 71, 74, 76, 77], a ∉ rSc := by decide
    exact Wf a (d a ha)
  have K2 : ∀ a, a ∈ [80, 97, 98, 99, 100, 91] → W a = T2 a := fun a ha => by
    have d : ∀ a ∈ [80, 97, 98, 99, 100, 91], a ≠ 78 := by decide
    exact z2 a (d a ha)
  obtain ⟨y1, y2, y3, y4, y5, y6⟩ := lc
  obtain ⟨v1, v2, v3, v4, v5⟩ := w8
  exact finA i3 i4 i5 ⟨by unfold rd; rw [K3 47 (by decide)]; exact y1, by rw [K3 48 (by decide)]; exact y2, by rw [K3 71 (by decide)]; exact y3, by rw [K3 74 (by decide)]; exact y4, by rw [K3 76 (by decide)]; exact y5, by rw [K3 77 (by decide)]; exact y6, by rw [K2 80 (by decide)]; exact v1, by rw [K2 91 (by decide)]; exact w7, by rw [K2 97 (by decide)]; exact v2, by rw [K2 98 (by decide)]; exact v3, by rw [K2 99 (by decide)]; exact v4, by rw [K2 100 (by decide)]; exact v5, (K 39 (by decide)).trans i1.2.2.2.2.2.2.2.2.2.2.2.2.1, (K 40 (by decide)).trans i1.2.2.2.2.2.2.2.2.2.2.2.2.2⟩ ⟨by rw [z5 3 (by decide) (by decide), w3 3 (by omega), W41, f41 10 (by decide)]; exact i2.1, fun e => e.elim⟩ (K 42 (by decide)) (K 79 (by decide)) (by rw [z5 1 (by decide) (by decide), w3 1 (by omega)]) (K 44 (by decide)) (K 92 (by decide)) (K 46 (by decide)) (by rw [W41, f41 9 (by decide)]) (fun a ha hne => WS a (dd a ha).2.1 (dd a ha).1 hne (dd a ha).2.2) (fun r hr => WS _ (d8 r hr).2.1 (d8 r hr).1 (n9 _ (d8 r hr).2.2.1) (d8 r hr).2.2.2)
end Call145
