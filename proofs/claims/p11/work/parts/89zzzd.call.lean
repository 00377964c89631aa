section
/-! How a call ends, for all calls that make a value. -/
section Call145
def cSc : List Nat := [47, 48, 67, 68, 69, 70, 71, 72, 73, 74, 75, 76, 77]
def rSc : List Nat := [78, 80, 90, 91, 94, 95, 96, 97, 98, 99, 100]
theorem akeep_over {S : SS} {B : List Int32} {dr : Nat} {p : Int32} (hd : rd S 41 9 = Int32.ofNat dr) (hdr : dr < 1000) (ht : S dr = pv B) (hb : 4096 < B.length) : a_keep S p = some (S, 1) := by
  have e0 : (rd S 41 9).toNatClampNeg = dr := by rw [hd, i_cl (by omega)]
  unfold a_keep
  have tv : tV S dr = if B.length ≤ 4096 then 0 else 1 := by unfold tV; rw [ht]; rfl
  rw [e0, tv, if_neg (show ¬ B.length ≤ 4096 by omega), if_neg (by decide)]
def lenC (S : SS) : Prop := rd S 47 1 = 0 ∧ (S 48).length = 2048 ∧ (S 71).length = 100 ∧ (S 74).length = 100 ∧ (S 76).length = 60 ∧ (S 77).length = 60
def lenR (S : SS) : Prop := (S 80).length = 9000 ∧ (S 97).length = 4200 ∧ (S 98).length = 9000 ∧ (S 99).length = 64 ∧ (S 100).length = 64
theorem InvL.lenC {S : SS} (h : InvL S) : lenC S := ⟨h.1, h.2.1, h.2.2.1, h.2.2.2.1, h.2.2.2.2.1, h.2.2.2.2.2.1⟩
theorem InvL.lenR {S : SS} (h : InvL S) : lenR S := ⟨h.2.2.2.2.2.2.1, h.2.2.2.2.2.2.2.2.1, h.2.2.2.2.2.2.2.2.2.1, h.2.2.2.2.2.2.2.2.2.2.1, h.2.2.2.2.2.2.2.2.2.2.2.1⟩
theorem fin_call {S S3 : SS} {ts : Nat → Vl} {dr : Nat} {ra : List Nat} {tape res B : List Int32} {T : Vl} {n0 : Nat} {bc : SS → Option SS} {c2 c3 : Int32} (l41 : (S 41).length = 12) (i1 : InvL S) (i2 : InvB S) (i3 : InvT S tape) (i4 : InvP S res) (i5 : InvG S ts dr ra) (hn0 : n0 < 8) (wo : wV T) (f3 : ∀ a, a ∉ cSc → a ≠ dr → S3 a = S a) (lc : lenC S3) (hd : S3 dr = pv B) (hB1 : (bV T).length ≤ 4096 → B = bV T) (hB2 : 4096 < (bV T).length → 4096 < B.length) (rs : ∀ T0 : SS, (∀ a, a ≠ 41 → a ≠ 46 → a ∉ cSc → a ∉ nine → T0 a = S a) → ∃ T2, bc T0 = ((b_finish T2 (Int32.ofNat n0) c2 c3).bind fun r => some r) ∧ (∀ a, a ∉ rSc → T2 a = T0 a) ∧ (∀ k, k = 1 ∨ k = 3 ∨ k = 4 → rd T2 78 k = rd S 78 k) ∧ rd T2 78 0 = 0 ∧ rd T2 78 12 = 0 ∧ (T2 78).length = 22 ∧ OutV T2 (cV T) ∧ lenR T2) : (∃ Sg W, a_keep S3 (Int32.ofNat n0) = some (Sg, 0) ∧ Sg 0 = S 0 ∧ bc Sg = some W ∧ rd W 78 0 = 0 ∧ W 0 = S 0 ∧ Inv W) ∨ (∃ W, a_keep S3 (Int32.ofNat n0) = some (S3, 1) ∧ S3 0 = S 0 ∧ bc S3 = some W ∧ rd W 78 0 = c3 ∧ W 0 = S 0 ∧ Inv W) := by
  obtain ⟨g1, g2, g3, g4, g5⟩ := id i5
  have md := nine_lt dr (g3.mem_iff.mp List.mem_cons_self)
  have hdn : dr ∈ nine := g3.mem_iff.mp List.mem_cons_self
  have n9 : ∀ a, a ∉ nine → a ≠ dr := fun a ha e => ha (e ▸ hdn)
  have e41 : S3 41 = S 41 := f3 41 (by decide) (n9 41 (by decide))
  have e46 : S3 46 = S 46 := f3 46 (by decide) (n9 46 (by decide))
  have hd9 : rd S3 41 9 = Int32.ofNat dr := by unfold rd; rw [e41]; exact g4
  have dd : ∀ a ∈ nine, a ∉ cSc ∧ a ∉ rSc ∧ a ≠ 41 ∧ a ≠ 46 ∧ a ≠ 80 ∧ a ≠ 94 ∧ a ≠ 78 ∧ a < 82 := by decide
  have d8 : ∀ r, r < 8 → 82 + r ∉ cSc ∧ 82 + r ∉ rSc ∧ 82 + r ∉ nine ∧ 82 + r ≠ 41 ∧ 82 + r ≠ 46 ∧ 82 + r ≠ 80 ∧ 82 + r ≠ 94 ∧ 82 + r ≠ 78 := by decide
  have l82 : ∀ T0 T2 : SS, (∀ a, a ≠ 41 → a ≠ 46 → a ∉ cSc → a ∉ nine → T0 a = S a) → (∀ a, a ∉ rSc → T2 a = T0 a) → (T2 (82 + n0)).length = 9000 := fun T0 T2 h1 h2 => by
    obtain ⟨x1, x2, x3, x4, x5, x6⟩ := d8 n0 hn0
    rw [h2 _ x2, h1 _ x4 x5 x1 x3]
    exact (g5 n0 hn0).2.2.2.2.1
  by_cases hg : good T
  · left
    have hBT := hB1 hg.1
    have ak := akeep_val (S := S3) (t := T) (dr := dr) (ra := ra) (n := n0) wo hd9 (e46.trans g1) g2 g3 (by rw [hd, hBT]) hn0
    rw [if_pos hg] at ak
    obtain ⟨Sg, hSg⟩ : ∃ Sg, Sg = wr (up S3 46 ((ra.set n0 dr).map Int32.ofNat)) 41 9 (Int32.ofNat (ra.getD n0 0)) := ⟨_, rfl⟩
    rw [← hSg] at ak
    have fg3 : ∀ a, a ≠ 41 → a ≠ 46 → Sg a = S3 a := fun a x1 x2 => by rw [hSg, wr_ne x1, up_ne x2]
    have fg : ∀ a, a ≠ 41 → a ≠ 46 → a ∉ cSc → a ≠ dr → Sg a = S a := fun a x1 x2 x3 x4 => by rw [fg3 a x1 x2, f3 a x3 x4]
    have fgn : ∀ a, a ≠ 41 → a ≠ 46 → a ∉ cSc → a ∉ nine → Sg a = S a := fun a x1 x2 x3 x4 => fg a x1 x2 x3 (n9 a x4)
    obtain ⟨T2, w1, w2, w3, w4, w5, w6, w7, w8, w10, w11, w12, w13⟩ := rs Sg fgn
    have w9 := l82 Sg T2 fgn w2
    obtain ⟨fv, -⟩ := finish_val (t := T) c2 c3 hn0 w5 w4 w6 wo w7 w8 w9
    obtain ⟨W, z1, z2, z3, z4, z5⟩ := fv hg
    have Wf : ∀ a, a ∉ rSc → a ≠ 82 + n0 → W a = Sg a := fun a x1 x2 => by
      have h80 : a ≠ 80 := fun e => x1 (e ▸ by decide)
      have h94 : a ≠ 94 := fun e => x1 (e ▸ by decide)
      rw [z2 a h80 h94 x2, w2 a x1]
    have W78 : ∀ k, rd W 78 k = rd T2 78 k := fun k => by unfold rd; rw [z2 78 (by decide) (by decide) (by omega)]
    have g41 : ∀ k, k ≠ 9 → rd Sg 41 k = rd S 41 k := fun k hk => by rw [hSg, rd_wr_j (fun e => hk e.symm), rd_up (by decide)]; unfold rd; rw [e41]
    have W41 : ∀ k, rd W 41 k = rd Sg 41 k := fun k => by unfold rd; rw [Wf 41 (by decide) (by omega)]
    have g419 : rd Sg 41 9 = Int32.ofNat (ra.getD n0 0) := by rw [hSg, rd_wr (by rw [up_ne (by decide), e41, l41]; decide)]
    have WS : ∀ a, a ∉ rSc → a ≠ 82 + n0 → a ≠ 41 → a ≠ 46 → a ∉ cSc → a ≠ dr → W a = S a := fun a x1 x2 x3 x4 x5 x6 => (Wf a x1 x2).trans (fg a x3 x4 x5 x6)
    refine ⟨Sg, W, ak, fg 0 (by decide) (by decide) (by decide) (n9 0 (by decide)), by rw [w1, z1, o_bind], by rw [W78, w4], WS 0 (by decide) (by omega) (by decide) (by decide) (by decide) (n9 0 (by decide)), ?_⟩
    have K : ∀ a, a ∈ [39, 40, 42, 79, 44, 92] → W a = S a := fun a ha => by
      have d : ∀ a ∈ [39, 40, 42, 79, 44, 92], a ∉ rSc ∧ (a < 82 ∨ 89 < a) ∧ a ≠ 41 ∧ a ≠ 46 ∧ a ∉ cSc ∧ a ∉ nine := by decide
      obtain ⟨x1, x2, x3, x4, x5, x6⟩ := d a ha
      exact WS a x1 (by omega) x3 x4 x5 (n9 a x6)
    have K3 : ∀ a, a ∈ [47, 48, 71, 74, 76, 77] → W a = S3 a := fun a ha => by
      have d : ∀ a ∈ [47, 48, 71, 74, 76, 77], a ∉ rSc ∧ (a < 82 ∨ 89 < a) ∧ a ≠ 41 ∧ a ≠ 46 := by decide
      obtain ⟨x1, x2, x3, x4⟩ := d a ha
      rw [Wf a x1 (by omega), fg3 a x3 x4]
    have K2 : ∀ a, a ∈ [97, 98, 99, 100, 91] → W a = T2 a := fun a ha => by
      have d : ∀ a ∈ [97, 98, 99, 100, 91], a ≠ 80 ∧ a ≠ 94 ∧ (a < 82 ∨ 89 < a) := by decide
      obtain ⟨x1, x2, x3⟩ := d a ha
      rw [z2 a x1 x2 (by omega)]
    have W46 : W 46 = (ra.set n0 dr).map Int32.ofNat := by rw [Wf 46 (by decide) (by omega), hSg, wr_ne (by decide), up_same]
    have Wd : W dr = 0 :: bV T := by
      obtain ⟨x1, x2, x3, x4, x5, x6, x7, x8⟩ := dd dr hdn
      rw [Wf dr x2 (by omega), fg3 dr x3 x4, hd, hBT, pv_fit hg.1]
    obtain ⟨y1, y2, y3, y4, y5, y6⟩ := lc
    refine finB i3 i4 i5 hn0 wo hg ⟨by unfold rd; rw [K3 47 (by decide)]; exact y1, by rw [K3 48 (by decide)]; exact y2, by rw [K3 71 (by decide)]; exact y3, by rw [K3 74 (by decide)]; exact y4, by rw [K3 76 (by decide)]; exact y5, by rw [K3 77 (by decide)]; exact y6, z3, by rw [K2 91 (by decide)]; exact w7.1, by rw [K2 97 (by decide)]; exact w10, by rw [K2 98 (by decide)]; exact w11, by rw [K2 99 (by decide)]; exact w12, by rw [K2 100 (by decide)]; exact w13, (K 39 (by decide)).trans i1.2.2.2.2.2.2.2.2.2.2.2.2.1, (K 40 (by decide)).trans i1.2.2.2.2.2.2.2.2.2.2.2.2.2⟩ ⟨?_, ?_⟩ (K 42 (by decide)) (K 79 (by decide)) ?_ (K 44 (by decide)) (K 92 (by decide)) W46 ?_ (fun a ha hne => ?_) Wd (fun r hr hne => ?_) ⟨z4, z5⟩
    · rw [W78, w3 3 (by omega), W41, g41 10 (by decide)]; exact i2.1
    · rw [W78, w3 4 (by omega), W41, g41 11 (by decide)]; exact i2.2
    · rw [W78, w3 1 (by omega)]
    · rw [W41, g419]
    · obtain ⟨x1, x2, x3, x4, x5, x6, x7, x8⟩ := dd a ha
      exact WS a x2 (by omega) x3 x4 x1 hne
    · obtain ⟨x1, x2, x3, x4, x5, x6⟩ := d8 r hr
      exact WS _ x2 (by omega) x4 x5 x1 (n9 _ x3)
  · right
    have ak : a_keep S3 (Int32.ofNat n0) = some (S3, 1) := by
      by_cases hb : (bV T).length ≤ 4096
      · have := akeep_val (S := S3) (t := T) (dr := dr) (ra := ra) (n := n0) wo hd9 (e46.trans g1) g2 g3 (by rw [hd, hB1 hb]) hn0
        rw [if_neg hg] at this
        exact this
      · exact akeep_over hd9 (by omega) hd (hB2 (by omega))
    have f3n : ∀ a, a ≠ 41 → a ≠ 46 → a ∉ cSc → a ∉ nine → S3 a = S a := fun a _ _ x3 x4 => f3 a x3 (n9 a x4)
    obtain ⟨T2, w1, w2, w3, w4, w5, w6, w7, w8, w10, w11, w12, w13⟩ := rs S3 f3n
    have w9 := l82 S3 T2 f3n w2
    obtain ⟨-, fv⟩ := finish_val (t := T) c2 c3 hn0 w5 w4 w6 wo w7 w8 w9
    obtain ⟨W, z1, z2, z3, z4, z5⟩ := fv hg
    have Wf : ∀ a, a ∉ rSc → W a = S3 a := fun a x1 => by
      have h80 : a ≠ 80 := fun e => x1 (e ▸ by decide)
      have h94 : a ≠ 94 := fun e => x1 (e ▸ by decide)
      have h78 : a ≠ 78 := fun e => x1 (e ▸ by decide)
      rw [z2 a h80 h94 h78, w2 a x1]
    have WS : ∀ a, a ∉ rSc → a ∉ cSc → a ≠ dr → W a = S a := fun a x1 x2 x3 => (Wf a x1).trans (f3 a x2 x3)
    have W41 : ∀ k, rd W 41 k = rd S 41 k := fun k => by unfold rd; rw [WS 41 (by decide) (by decide) (n9 41 (by decide))]
    have W78 : ∀ k, k = 1 ∨ k = 3 ∨ k = 4 → rd W 78 k = rd S 78 k := fun k hk => by rw [z5 k (by omega), w3 k hk]
    refine ⟨W, ak, f3 0 (by decide) (n9 0 (by decide)), by rw [w1, z1, o_bind], z4, WS 0 (by decide) (by decide) (n9 0 (by decide)), ?_⟩
    have K : ∀ a, a ∈ [39, 40, 42, 79, 44, 92, 46] → W a = S a := fun a ha => by
      have d : ∀ a ∈ [39, 40, 42, 79, 44, 92, 46], a ∉ rSc ∧ a ∉ cSc ∧ a ∉ nine := by decide
      obtain ⟨x1, x2, x3⟩ := d a ha
      exact WS a x1 x2 (n9 a x3)
    have K3 : ∀ a, a ∈ [47, 48, 71, 74, 76, 77] → W a = S3 a := fun a ha => by
      have d : ∀ a ∈ [47, 48, 71, 74, 76, 77], a ∉ rSc := by decide
      exact Wf a (d a ha)
    have K2 : ∀ a, a ∈ [97, 98, 99, 100, 91] → W a = T2 a := fun a ha => by
      have d : ∀ a ∈ [97, 98, 99, 100, 91], a ≠ 80 ∧ a ≠ 94 ∧ a ≠ 78 := by decide
      obtain ⟨x1, x2, x3⟩ := d a ha
      exact z2 a x1 x2 x3
    obtain ⟨y1, y2, y3, y4, y5, y6⟩ := lc
    exact finA i3 i4 i5 ⟨by unfold rd; rw [K3 47 (by decide)]; exact y1, by rw [K3 48 (by decide)]; exact y2, by rw [K3 71 (by decide)]; exact y3, by rw [K3 74 (by decide)]; exact y4, by rw [K3 76 (by decide)]; exact y5, by rw [K3 77 (by decide)]; exact y6, z3, by rw [K2 91 (by decide)]; exact w7.1, by rw [K2 97 (by decide)]; exact w10, by rw [K2 98 (by decide)]; exact w11, by rw [K2 99 (by decide)]; exact w12, by rw [K2 100 (by decide)]; exact w13, (K 39 (by decide)).trans i1.2.2.2.2.2.2.2.2.2.2.2.2.1, (K 40 (by decide)).trans i1.2.2.2.2.2.2.2.2.2.2.2.2.2⟩ ⟨by rw [W78 3 (by omega), W41]; exact i2.1, by rw [W78 4 (by omega), W41]; exact i2.2⟩ (K 42 (by decide)) (K 79 (by decide)) (W78 1 (by omega)) (K 44 (by decide)) (K 92 (by decide)) (K 46 (by decide)) (W41 9) (fun a ha hne => WS a (dd a ha).2.1 (dd a ha).1 hne) (fun r hr => WS _ (d8 r hr).2.1 (d8 r hr).1 (n9 _ (d8 r hr).2.2.1))
/-- a call that is refused: what both leave -/
theorem finish_refN {S : SS} (p0 p1 p2 : Int32) (h : ¬ rd S 78 12 ≤ 0) (h78 : (S 78).length = 22) : ∃ S', b_finish S p0 p1 p2 = some S' ∧ (∀ a, a ≠ 78 → S' a = S a) ∧ rd S' 78 0 = p1 ∧ ∀ k, k ≠ 0 → k ≠ 4 → rd S' 78 k = rd S 78 k := by
  unfold b_finish
  rw [if_neg h]
  exact ⟨_, rfl, fun a n => by rw [wr_ne n, wr_ne n], rd_wr (by rw [wr_len, h78]; decide), fun k k0 k4 => by rw [rd_wr_j (fun e => k0 e.symm), rd_wr_j (fun e => k4 e.symm)]⟩
theorem fin_refused {S Sc : SS} {ts : Nat → Vl} {dr : Nat} {ra : List Nat} {tape res : List Int32} {bc : SS → Option SS} {p0 c2 c3 : Int32} {T2 : SS} (i1 : InvL S) (i2 : InvB S) (i3 : InvT S tape) (i4 : InvP S res) (i5 : InvG S ts dr ra) (f3 : ∀ a, a ∉ cSc → a ≠ dr → a ≠ 41 → Sc a = S a) (f41 : ∀ k, k ≠ 11 → rd Sc 41 k = rd S 41 k) (lc : lenC Sc) (w1 : bc Sc = ((b_finish T2 p0 c2 c3).bind fun r => some r)) (w2 : ∀ a, a ∉ rSc → T2 a = Sc a) (w3 : ∀ k, k = 1 ∨ k = 3 → rd T2 78 k = rd S 78 k) (w5 : ¬ rd T2 78 12 ≤ 0) (w6 : (T2 78).length = 22) (w7 : (T2 91).length = 9000) (w8 : lenR T2) : ∃ W, Sc 0 = S 0 ∧ bc Sc = some W ∧ rd W 78 0 = c2 ∧ W 0 = S 0 ∧ Inv W := by
  obtain ⟨g1, g2, g3, g4, g5⟩ := id i5
  have hdn : dr ∈ nine := g3.mem_iff.mp List.mem_cons_self
  have n9 : ∀ a, a ∉ nine → a ≠ dr := fun a ha e => ha (e ▸ hdn)
  have dd : ∀ a ∈ nine, a ∉ cSc ∧ a ∉ rSc ∧ a ≠ 41 := by decide
  have d8 : ∀ r, r < 8 → 82 + r ∉ cSc ∧ 82 + r ∉ rSc ∧ 82 + r ∉ nine ∧ 82 + r ≠ 41 := by decide
  obtain ⟨W, z1, z2, z3, z5⟩ := finish_refN p0 c2 c3 w5 w6
  have Wf : ∀ a, a ∉ rSc → W a = Sc a := fun a x1 => by
    have h78 : a ≠ 78 := fun e => x1 (e ▸ by decide)
    rw [z2 a h78, w2 a x1]
  have WS : ∀ a, a ∉ rSc → a ∉ cSc → a ≠ dr → a ≠ 41 → W a = S a := fun a x1 x2 x3 x4 => (Wf a x1).trans (f3 a x2 x3 x4)
  have W41 : ∀ k, rd W 41 k = rd Sc 41 k := fun k => by unfold rd; rw [Wf 41 (by decide)]
  refine ⟨W, f3 0 (by decide) (n9 0 (by decide)) (by decide), by rw [w1, z1, o_bind], z3, WS 0 (by decide) (by decide) (n9 0 (by decide)) (by decide), ?_⟩
  have K : ∀ a, a ∈ [39, 40, 42, 79, 44, 92, 46] → W a = S a := fun a ha => by
    have d : ∀ a ∈ [39, 40, 42, 79, 44, 92, 46], a ∉ rSc ∧ a ∉ cSc ∧ a ∉ nine ∧ a ≠ 41 := by decide
    obtain ⟨x1, x2, x3, x4⟩ := d a ha
    exact WS a x1 x2 (n9 a x3) x4
  have K3 : ∀ a, a ∈ [47, 48, 71, 74, 76, 77] → W a = Sc a := fun a ha => by
    have d : ∀ a ∈ [47, 48, 71, 74, 76, 77], a ∉ rSc := by decide
    exact Wf a (d a ha)
  have K2 : ∀ a, a ∈ [80, 97, 98, 99, 100, 91] → W a = T2 a := fun a ha => by
    have d : ∀ a ∈ [80, 97, 98, 99, 100, 91], a ≠ 78 := by decide
    exact z2 a (d a ha)
  obtain ⟨y1, y2, y3, y4, y5, y6⟩ := lc
  obtain ⟨v1, v2, v3, v4, v5⟩ := w8
  exact finA i3 i4 i5 ⟨by unfold rd; rw [K3 47 (by decide)]; exact y1, by rw [K3 48 (by decide)]; exact y2, by rw [K3 71 (by decide)]; exact y3, by rw [K3 74 (by decide)]; exact y4, by rw [K3 76 (by decide)]; exact y5, by rw [K3 77 (by decide)]; exact y6, by rw [K2 80 (by decide)]; exact v1, by rw [K2 91 (by decide)]; exact w7, by rw [K2 97 (by decide)]; exact v2, by rw [K2 98 (by decide)]; exact v3, by rw [K2 99 (by decide)]; exact v4, by rw [K2 100 (by decide)]; exact v5, (K 39 (by decide)).trans i1.2.2.2.2.2.2.2.2.2.2.2.2.1, (K 40 (by decide)).trans i1.2.2.2.2.2.2.2.2.2.2.2.2.2⟩ ⟨by rw [z5 3 (by decide) (by decide), w3 3 (by omega), W41, f41 10 (by decide)]; exact i2.1, fun e => e.elim⟩ (K 42 (by decide)) (K 79 (by decide)) (by rw [z5 1 (by decide) (by decide), w3 1 (by omega)]) (K 44 (by decide)) (K 92 (by decide)) (K 46 (by decide)) (by rw [W41, f41 9 (by decide)]) (fun a ha hne => WS a (dd a ha).2.1 (dd a ha).1 hne (dd a ha).2.2) (fun r hr => WS _ (d8 r hr).2.1 (d8 r hr).1 (n9 _ (d8 r hr).2.2.1) (d8 r hr).2.2.2)
end Call145
end

section
/-! The call all. -/
section All146
theorem vat.mem {us : List Int32} {q k : Nat} {v : Int} {s : List Int32} {l : List Mb} (hk : k = 5 ∨ k = 6) (h : vat us q (k, v, s, ofL l)) {x : Mb} (hx : x ∈ l) : ∃ q', vat us q' x.2 := by
  obtain ⟨j, hj, rfl⟩ := List.getElem_of_mem hx
  obtain ⟨i1, ⟨z, r, hz, i2⟩, i3⟩ := h.item hk hj
  rw [List.drop_eq_getElem_cons hj] at i2
  have m := mem_at h.1 h.2.1 (h.2.2.1.kids _ (List.getElem_mem hj)) hz i2
  cases e : (k == 6) with
  | false => exact ⟨_, m.1 e⟩
  | true => exact ⟨_, (m.2 e).2⟩
theorem stN_ok {s : List Int32} (h : okS s) : wV (stN s) := ⟨(show (4 : Nat) ≤ 6 by decide), fun e => absurd e (show ¬ (4 : Nat) = 3 by decide), h, fun _ => rfl, fun e => absurd e (show ¬ (4 : Nat) = 6 by decide), trivial⟩
theorem stI_ok {k : Nat} (h : k ≤ 9000) : wV (stI k) := ⟨(show (3 : Nat) ≤ 6 by decide), fun _ => (show -9007199254740991 ≤ (k : Int) ∧ (k : Int) ≤ 9007199254740991 by omega), (fun c hc => by cases hc), fun _ => rfl, fun e => absurd e (show ¬ (3 : Nat) = 6 by decide), trivial⟩
theorem arr_ok {l : List Vl} (h : ∀ x ∈ l, wV x) : wV (5, 0, [], ofL (l.map fun x => ([], x))) := by
  refine ⟨(show (5 : Nat) ≤ 6 by decide), fun e => absurd e (show ¬ (5 : Nat) = 3 by decide), (fun c hc => by cases hc), fun e => absurd (Or.inl rfl) e, fun e => absurd e (show ¬ (5 : Nat) = 6 by decide), ?_⟩
  rw [wF_iff]
  intro m hm
  simp only at hm
  rw [toL_ofL] at hm
  obtain ⟨x, hx, rfl⟩ := List.mem_map.mp hm
  exact ⟨(fun c hc => by cases hc), h x hx⟩
def okP (p : List Vl) : Prop := ∀ x ∈ p, wV x
theorem okP_push {p : List Vl} {x : Vl} (h : okP p) (hx : wV x) : okP (p ++ [x]) := fun y hy => by
  rcases List.mem_append.mp hy with e | e
  · exact h y e
  · rw [List.mem_singleton.mp e]; exact hx
theorem plV_ok {us : List Int32} (t : Vl) : ∀ (q : Nat) (pre : List Vl), vat us q t → okP pre → ∀ p ∈ plV pre t, okP p := by
  induction t using Vl.ind with
  | h k v s l ihl =>
    intro q pre hv hpre p hp
    unfold plV at hp
    rcases List.mem_cons.mp hp with e | e
    · rw [e]; exact hpre
    · simp only at e
      by_cases hk : k = 5 ∨ k = 6
      · rw [if_pos hk] at e
        have hll := (hv.items hk).2
        have main : ∀ (l' : List Mb) (i : Nat), (∀ x ∈ l', x ∈ l) → i + l'.length ≤ 4096 → ∀ p ∈ plF (ofL l') (k == 6) pre i, okP p := by
          intro l'
          induction l' with
          | nil => intro i _ _ p hp; cases hp
          | cons x l' ih =>
            intro i hm hi p hp
            rw [plF_c] at hp
            simp only [List.length_cons] at hi
            have hx := hm x List.mem_cons_self
            rcases List.mem_append.mp hp with e | e
            · obtain ⟨q', hq'⟩ := hv.mem hk hx
              refine ihl x hx q' _ hq' (okP_push hpre ?_) p e
              split
              · exact stN_ok (hv.2.2.1.kids x hx).1
              · exact stI_ok (by omega)
            · exact ih (i + 1) (fun y hy => hm y (List.mem_cons_of_mem _ hy)) (by omega) p e
        exact main l 0 (fun _ h => h) (by omega) p e
      · rw [if_neg hk] at e; cases e
def allT (t : Vl) : Vl := (5, 0, [], ofL (((plV [] t).map pathT).map fun x => ([], x)))
theorem allT_ok {us : List Int32} {t : Vl} {q : Nat} (h : vat us q t) : wV (allT t) := arr_ok fun x hx => by
  obtain ⟨p, hp, rfl⟩ := List.mem_map.mp hx
  exact arr_ok (plV_ok t q [] h (fun x hx => by cases hx) p hp)
theorem allT_b (t : Vl) : bV (allT t) = 91 :: (jn ((plV [] t).map fun p => bV (pathT p)) ++ [93]) := by
  show 91 :: (bF false (ofL (((plV [] t).map pathT).map fun x => (([], x) : Mb))) ++ [93]) = _
  rw [bF_ofL, List.map_map, List.map_map]
  rfl
theorem allT_c (t : Vl) : cV (allT t) = 5 :: Int32.ofNat ((cP (plV [] t)).length + 2) :: cP (plV [] t) := by
  have : cF false (ofL (((plV [] t).map pathT).map fun x => (([], x) : Mb))) = cP (plV [] t) := by
    rw [cF_ofL, List.map_map, List.flatMap_map]
    rfl
  show 5 :: Int32.ofNat ((cF false (ofL (((plV [] t).map pathT).map fun x => (([], x) : Mb)))).length + 2) :: cF false (ofL (((plV [] t).map pathT).map fun x => (([], x) : Mb))) = _
  rw [this]
/-- the class's list -/
theorem list_val {S : SS} {ta o : Nat} {t : Vl} (h75 : (S 75).length = 4) (h76 : (S 76).length = 60) (h77 : (S 77).length = 60) (hta : ta < 1000 ∧ ta ≠ 75 ∧ ta ≠ 76 ∧ ta ≠ 77) (ho : o < 1000 ∧ o ≠ ta ∧ o ≠ 75 ∧ o ≠ 76 ∧ o ≠ 77) (hv : vat (tT S ta) 0 t) (hd : dV t ≤ 60) : ∃ S' B, l_list S ta o = some S' ∧ (∀ a, a ≠ 75 → a ≠ 76 → a ≠ 77 → a ≠ o → S' a = S a) ∧ (S' 76).length = 60 ∧ (S' 77).length = 60 ∧ S' o = pv B ∧ ((bV (allT t)).length ≤ 4096 → B = bV (allT t)) ∧ (4096 < (bV (allT t)).length → 4096 < B.length) := by
  obtain ⟨A, hA⟩ : ∃ A, A = wr (wr S 75 2 (Int32.ofNat ta)) 75 3 (Int32.ofNat o) := ⟨_, rfl⟩
  have a3 : (rd A 75 3).toNatClampNeg = o := by rw [hA, rd_wr (by rw [wr_len, h75]; decide), i_cl (by omega)]
  have a2 : (rd A 75 2).toNatClampNeg = ta := by rw [hA, rd_wr_j (by decide), rd_wr (by rw [h75]; decide), i_cl (by omega)]
  have fA : ∀ a, a ≠ 75 → A a = S a := fun a ha => by rw [hA, wr_ne ha, wr_ne ha]
  have tA : tT A ta = tT S ta := by unfold tT; rw [fA ta hta.2.1]
  have hr : rows A (tT S ta) [] := ⟨by rw [fA 76 (by decide)]; exact h76, by rw [fA 77 (by decide)]; exact h77, fun i hi => absurd hi (Nat.not_lt_zero i)⟩
  obtain ⟨S', X, e1, e2, e3, e4⟩ := lf_all hv.1 hv.2.1 (ta := ta) (o := o) ⟨hta.2.2.1, hta.2.2.2⟩ ho.2 t 100 0 [] A ([] ++ [91]) (by omega) (by simp only [List.length_nil]; omega) hv tA a3 a2 hr
  have u3 : ∀ (T : SS) l, (rd T 75 3) = rd A 75 3 → (rd (up T o l) 75 3).toNatClampNeg = o := fun T l h => by rw [rd_up (fun e => ho.2.2.1 e.symm), h]; exact a3
  have eS' : rd S' 75 3 = rd A 75 3 := by unfold rd; rw [e3 75 (by decide) (by decide)]
  refine ⟨up S' o (pv ([91] ++ X ++ [93])), [91] ++ X ++ [93], ?_, fun a n1 n2 n3 n4 => by rw [up_ne n4, e3 a n2 n3, fA a n1], ?_, ?_, up_same, ?_, ?_⟩
  · unfold l_list
    rw [← hA, a3, u3 A [0] rfl, show ([0] : List Int32) = pv [] from rfl, sput_pv]
    rw [show l_from 100 (up A o (pv ([] ++ [91 &&& 255]))) 0 0 = _ from e1, o_bind, u3 S' _ eS', sput_pv]
    rfl
  · rw [up_ne (fun e => ho.2.2.2.1 e.symm)]; exact e2.1
  · rw [up_ne (fun e => ho.2.2.2.2 e.symm)]; exact e2.2.1
  · intro h
    rw [allT_b] at h ⊢
    rw [e4.1 (by simp only [List.length_append, List.length_cons, List.length_nil] at h ⊢; omega)]
    rfl
  · intro h
    rw [allT_b] at h
    by_cases hh : 4096 < (([] ++ [(91 : Int32)]) ++ jn ((plV [] t).map fun p => bV (pathT p))).length
    · have := e4.2 hh
      simp only [List.length_append, List.length_cons, List.length_nil] at this ⊢
      omega
    · rw [e4.1 (by omega)]
      simp only [List.length_append, List.length_cons, List.length_nil] at h ⊢
      omega
theorem op7 : stp7 Inv := by
  intro S p0 p1 hcs hI
  obtain ⟨l78, l41, l90, -, l67, -, -, -, -, -, l75, -⟩ := cs.l78 hcs
  obtain ⟨i1, i2, ⟨tape, i3⟩, ⟨res, i4⟩, ts, dr, ra, i5⟩ := id hI
  obtain ⟨g1, g2, g3, g4, g5⟩ := id i5
  have l91 : (S 91).length = 9000 := i1.2.2.2.2.2.2.2.1
  -- a bad register
  have bad : (¬ (¬ p0 < 0 ∧ p0 < 8) ∨ ¬ (¬ p1 < 0 ∧ p1 < 8)) → ∃ (c : SS × Int32) (w : SS), h_all S p0 p1 = some c ∧ c.1 0 = S 0 ∧ b_all c.1 p0 p1 = some w ∧ rd w 78 0 = c.2 ∧ w 0 = S 0 ∧ Inv w := by
    intro hb
    obtain ⟨S1, b1, b2, b3, b4, b5, b6, b7⟩ := begin_val l78 l90 l91
    obtain ⟨z1, z2, z3⟩ := bad_begin hI b6 b2 b3
    have ea : a_all S p0 p1 = some (S, 2) := by
      unfold a_all
      by_cases h0 : ¬ p0 < 0 ∧ p0 < 8
      · rw [(reg_ok S h0).1, o_bind, if_pos rfl]
        have h1 : ¬ (¬ p1 < 0 ∧ p1 < 8) := hb.resolve_left (fun e => e h0)
        rw [(reg_bad S h1).1, o_bind, if_neg (show ¬ (2 : Nat) = 0 by decide)]
      · rw [(reg_bad S h0).1, o_bind, if_neg (show ¬ (2 : Nat) = 0 by decide)]
    refine ⟨(S, 1), wr S1 78 0 1, ?_, rfl, ?_, z1, z2, z3⟩
    · unfold h_all; rw [ea, o_bind, if_neg (show ¬ (2 : Nat) = 0 by decide), if_pos rfl]
    · show b_all S p0 p1 = _
      unfold b_all
      rw [b1, o_bind]
      by_cases h0 : ¬ p0 < 0 ∧ p0 < 8
      · rw [(reg_ok S1 h0).2.1, o_bind, if_pos rfl]
        have h1 : ¬ (¬ p1 < 0 ∧ p1 < 8) := hb.resolve_left (fun e => e h0)
        rw [(reg_bad S1 h1).2, o_bind, if_neg (by decide)]
      · rw [(reg_bad S1 h0).2, o_bind, if_neg (by decide)]
  by_cases h0 : ¬ p0 < 0 ∧ p0 < 8
  rotate_left
  · exact bad (Or.inl h0)
  by_cases h1 : ¬ p1 < 0 ∧ p1 < 8
  rotate_left
  · exact bad (Or.inr h1)
  obtain ⟨a0, -, n0, hn0, rfl⟩ := reg_ok S h0
  obtain ⟨a1, -, n1, hn1, rfl⟩ := reg_ok S h1
  have m1 := nine_lt _ (ra_mem g3 g2 hn1)
  have hdn : dr ∈ nine := g3.mem_iff.mp List.mem_cons_self
  have md := nine_lt dr hdn
  have r1ne : ra.getD n1 0 ≠ dr := ra_ne g3 g2 hn1
  obtain ⟨q1, q1'⟩ := get46 g1 g2 hn1 m1.1
  obtain ⟨u1, u1'⟩ := get81 n1 hn1
  obtain ⟨v1, c1⟩ := reg_vat (g5 n1 hn1)
  have dv := (g5 n1 hn1).2.2.2.1
  have hd9 : (rd S 41 9).toNatClampNeg = dr := by rw [g4, i_cl (by omega)]
  obtain ⟨S3, B, s1, s2, s3, s4, s5, s6, s7⟩ := list_val (S := S) (ta := ra.getD n1 0) (o := dr) l75 i1.2.2.2.2.1 i1.2.2.2.2.2.1 (by omega) ⟨by omega, fun e => r1ne e.symm, by omega, by omega, by omega⟩ v1 dv
  have wo := allT_ok v1
  have eA : ∀ X : SS × Nat, a_keep S3 (Int32.ofNat n0) = some X → a_all S (Int32.ofNat n0) (Int32.ofNat n1) = if X.2 = 0 then some (X.1, 0) else some (X.1, X.2) := by
    intro X hX
    unfold a_all
    rw [a0, o_bind, if_pos rfl, a1, o_bind, if_pos rfl, q1, o_bind, q1', hd9, s1, o_bind, hX, o_bind]
  have ne3 : ∀ a, a ∉ cSc → a ≠ 75 ∧ a ≠ 76 ∧ a ≠ 77 := fun a ha => ⟨fun e => ha (e ▸ by decide), fun e => ha (e ▸ by decide), fun e => ha (e ▸ by decide)⟩
  have lc : lenC S3 := by
    obtain ⟨y1, y2, y3, y4, y5, y6⟩ := i1.lenC
    exact ⟨by unfold rd; rw [s2 47 (by decide) (by decide) (by decide) (by omega)]; exact y1, by rw [s2 48 (by decide) (by decide) (by decide) (by omega)]; exact y2, by rw [s2 71 (by decide) (by decide) (by decide) (by omega)]; exact y3, by rw [s2 74 (by decide) (by decide) (by decide) (by omega)]; exact y4, s3, s4⟩
  have fc := fin_call (S := S) (S3 := S3) (T := allT (ts n1)) (B := B) (n0 := n0) (bc := fun X => b_all X (Int32.ofNat n0) (Int32.ofNat n1)) (c2 := 0) (c3 := 2) l41 i1 i2 i3 i4 i5 hn0 wo (fun a x1 x2 => s2 a (ne3 a x1).1 (ne3 a x1).2.1 (ne3 a x1).2.2 x2) lc s5 s6 s7 (by
    intro T0 hT
    have n78 : T0 78 = S 78 := hT 78 (by decide) (by decide) (by decide) (by decide)
    obtain ⟨T1, b1, b2, b3, b4, b5, b6, b7⟩ := begin_val (S := T0) (by rw [n78]; exact l78) (by rw [hT 90 (by decide) (by decide) (by decide) (by decide)]; exact l90) (by rw [hT 91 (by decide) (by decide) (by decide) (by decide)]; exact l91)
    obtain ⟨T2, at_, e1, o1, f1, a1'⟩ := oopen b7 5
    have d8 : ∀ r, r < 8 → 82 + r ≠ 41 ∧ 82 + r ≠ 46 ∧ 82 + r ∉ cSc ∧ 82 + r ∉ nine ∧ 82 + r ≠ 78 ∧ 82 + r ≠ 90 ∧ 82 + r ≠ 91 := by decide
    have eaa : T2 (82 + n1) = S (82 + n1) := by
      obtain ⟨x1, x2, x3, x4, x5, x6, x7⟩ := d8 n1 hn1
      rw [f1 _ x6 x7, b2 _ x5 x6, hT _ x1 x2 x3 x4]
    have T2f : ∀ a, a ≠ 78 → a ≠ 90 → a ≠ 91 → T2 a = T0 a := fun a x1 x2 x3 => by rw [f1 a x2 x3, b2 a x1 x2]
    obtain ⟨y1, y2, y3, y4, y5⟩ := i1.lenR
    have rr : rowR T2 (S (82 + n1)) [] := ⟨by rw [T2f 99 (by decide) (by decide) (by decide), hT 99 (by decide) (by decide) (by decide) (by decide)]; exact y4, by rw [T2f 100 (by decide) (by decide) (by decide), hT 100 (by decide) (by decide) (by decide) (by decide)]; exact y5, fun i hi => absurd hi (Nat.not_lt_zero i)⟩
    obtain ⟨T3, k1, k2, k3, k4⟩ := lr_all (us := S (82 + n1)) (aa := 82 + n1) (by omega) (ts n1) 64 0 [] T2 _ (by omega) (by simp only [List.length_nil]; omega) c1 eaa rr o1
    obtain ⟨T4, e4, o4, f4⟩ := oclose (C := []) (body := cP (plV [] (ts n1))) (k := 5) k4 a1'
    have fr : ∀ a, a ∉ rSc → T4 a = T0 a := fun a ha => by
      have x0 : a ≠ 78 := fun e => ha (e ▸ by decide)
      have x1 : a ≠ 90 := fun e => ha (e ▸ by decide)
      have x2 : a ≠ 91 := fun e => ha (e ▸ by decide)
      have x3 : a ≠ 99 := fun e => ha (e ▸ by decide)
      have x4 : a ≠ 100 := fun e => ha (e ▸ by decide)
      rw [f4 a x1 x2, k3 a x1 x2 x3 x4, T2f a x0 x1 x2]
    have e78 : T4 78 = T1 78 := by rw [f4 78 (by decide) (by decide), k3 78 (by decide) (by decide) (by decide) (by decide), f1 78 (by decide) (by decide)]
    have r78 : ∀ k, rd T4 78 k = rd T1 78 k := fun k => by unfold rd; rw [e78]
    refine ⟨T4, ?_, fr, fun k hk => ?_, by rw [r78]; exact b4, by rw [r78]; exact b5, by rw [e78]; exact b6, by rw [allT_c]; exact o4, ?_, ?_, ?_, ?_, ?_⟩
    · show b_all T0 _ _ = _
      unfold b_all
      rw [b1, o_bind, (reg_ok T1 h0).2.1, o_bind, if_pos rfl, (reg_ok T1 h1).2.1, o_bind, if_pos rfl, e1, o_bind, u1, o_bind, u1']
      rw [show b_list 64 T2 (82 + n1) 0 0 = _ from k1, o_bind, e4, o_bind]
    · rw [r78, b3 k (by omega) (by omega)]; unfold rd; rw [n78]
    · rw [f4 80 (by decide) (by decide), k3 80 (by decide) (by decide) (by decide) (by decide), T2f 80 (by decide) (by decide) (by decide), hT 80 (by decide) (by decide) (by decide) (by decide)]; exact y1
    · rw [f4 97 (by decide) (by decide), k3 97 (by decide) (by decide) (by decide) (by decide), T2f 97 (by decide) (by decide) (by decide), hT 97 (by decide) (by decide) (by decide) (by decide)]; exact y2
    · rw [f4 98 (by decide) (by decide), k3 98 (by decide) (by decide) (by decide) (by decide), T2f 98 (by decide) (by decide) (by decide), hT 98 (by decide) (by decide) (by decide) (by decide)]; exact y3
    · rw [f4 99 (by decide) (by decide)]; exact k2.1
    · rw [f4 100 (by decide) (by decide)]; exact k2.2.1)
  rcases fc with ⟨Sg, W, c1', c2, c3, c4, c5, c6⟩ | ⟨W, c1', c2, c3, c4, c5, c6⟩
  · refine ⟨(Sg, 0), W, ?_, c2, c3, c4, c5, c6⟩
    unfold h_all; rw [eA _ c1', if_pos rfl, o_bind, if_pos rfl]
  · refine ⟨(S3, 2), W, ?_, c2, c3, c4, c5, c6⟩
    unfold h_all; rw [eA _ c1', if_neg (show ¬ (1 : Nat) = 0 by decide), o_bind, if_neg (show ¬ (1 : Nat) = 0 by decide), if_neg (show ¬ (1 : Nat) = 2 by decide), if_pos rfl]
end All146
end

section
/-! Names in order. -/
section Ord147
def ltS (a b : List Int32) : Prop := cmpS a b = -1
theorem cmpS_rng : ∀ (a b : List Int32), cmpS a b = -1 ∨ cmpS a b = 0 ∨ cmpS a b = 1 := by
  intro a
  induction a with
  | nil => intro b; cases b <;> simp [cmpS]
  | cons x a ih =>
    intro b
    cases b with
    | nil => simp [cmpS]
    | cons y b =>
      unfold cmpS
      by_cases h : x = y
      · rw [if_pos h]; exact ih b
      · rw [if_neg h]
        by_cases h2 : y ≤ x
        · rw [if_pos h2]; simp
        · rw [if_neg h2]; simp
theorem cmpS_swap : ∀ (a b : List Int32), cmpS a b = 1 ↔ cmpS b a = -1 := by
  intro a
  induction a with
  | nil => intro b; cases b <;> simp [cmpS] <;> decide
  | cons x a ih =>
    intro b
    cases b with
    | nil => simp [cmpS]
    | cons y b =>
      unfold cmpS
      by_cases h : x = y
      · rw [if_pos h, if_pos h.symm]; exact ih b
      · rw [if_neg h, if_neg (show ¬ y = x from fun e => h e.symm)]
        have hne : x.toInt ≠ y.toInt := fun e => h (Int32.toInt_inj.mp e)
        by_cases h2 : y ≤ x
        · have h3 : ¬ x ≤ y := by rw [i_le] at h2 ⊢; omega
          rw [if_pos h2, if_neg h3]; simp
        · have h3 : x ≤ y := by rw [i_le] at h2 ⊢; omega
          rw [if_neg h2, if_pos h3]; decide
theorem ltS_trans : ∀ {a b c : List Int32}, ltS a b → ltS b c → ltS a c := by
  intro a
  unfold ltS
  induction a with
  | nil =>
    intro b c h1 h2
    cases b with
    | nil => exact absurd h1 (by simp [cmpS])
    | cons y b =>
      cases c with
      | nil => exact absurd h2 (by unfold cmpS; decide)
      | cons z c => rfl
  | cons x a ih =>
    intro b c h1 h2
    cases b with
    | nil => exact absurd h1 (by unfold cmpS; decide)
    | cons y b =>
      cases c with
      | nil => exact absurd h2 (by unfold cmpS; decide)
      | cons z c =>
        unfold cmpS at h1 h2 ⊢
        by_cases e1 : x = y
        · subst e1
          rw [if_pos rfl] at h1
          by_cases e2 : x = z
          · rw [if_pos e2] at h2 ⊢
            exact ih h1 h2
          · rw [if_neg e2] at h2 ⊢
            exact h2
        · rw [if_neg e1] at h1
          have n1 : ¬ y ≤ x := by
            intro h; rw [if_pos h] at h1; exact absurd h1 (by decide)
          by_cases e2 : y = z
          · subst e2
            rw [if_neg e1, if_neg n1]
          · rw [if_neg e2] at h2
            have n2 : ¬ z ≤ y := by
              intro h; rw [if_pos h] at h2; exact absurd h2 (by decide)
            have e3 : x ≠ z := by
              intro e; subst e
              rw [i_le] at n1 n2; omega
            have n3 : ¬ z ≤ x := by rw [i_le] at n1 n2 ⊢; omega
            rw [if_neg e3, if_neg n3]
theorem ltS_irr (a : List Int32) : ¬ ltS a a := by
  intro h
  unfold ltS at h
  rw [(cmpS_0 a a).mpr rfl] at h
  exact absurd h (by decide)
/-- one before the other, or the same -/
theorem ltS_tri (a b : List Int32) : ltS a b ∨ a = b ∨ ltS b a := by
  rcases cmpS_rng a b with h | h | h
  · exact Or.inl h
  · exact Or.inr (Or.inl ((cmpS_0 a b).mp h))
  · exact Or.inr (Or.inr ((cmpS_swap a b).mp h))
theorem cmpS_le (a b : List Int32) : cmpS a b ≤ 0 ↔ ¬ ltS b a := by
  unfold ltS
  rw [← cmpS_swap]
  rcases cmpS_rng a b with h | h | h <;> rw [h] <;> decide
theorem cmpS_ge (a b : List Int32) : 0 ≤ cmpS a b ↔ ¬ ltS a b := by
  unfold ltS
  rcases cmpS_rng a b with h | h | h <;> rw [h] <;> decide
theorem cmpS_gt (a b : List Int32) : 0 < cmpS a b ↔ ltS b a := by
  unfold ltS
  rw [← cmpS_swap]
  rcases cmpS_rng a b with h | h | h <;> rw [h] <;> decide
/-- in order up to the place m, but for the hole k -/
def srtN (nm : Nat → List Int32) (Q : List Nat) (m : Nat) : Prop := ∀ a b (ha : a < Q.length) (hb : b < Q.length), a < b → b < m → ¬ ltS (nm Q[b]) (nm Q[a])
def hole (nm : Nat → List Int32) (Q : List Nat) (m k x : Nat) : Prop := (∀ a b (ha : a < Q.length) (hb : b < Q.length), a < b → b < m → a ≠ k → b ≠ k → ¬ ltS (nm Q[b]) (nm Q[a])) ∧ ∀ b (hb : b < Q.length), k < b → b < m → ¬ ltS (nm Q[b]) (nm x)
theorem not_lt_trans {a b c : List Int32} (h1 : ¬ ltS b a) (h2 : ¬ ltS c b) : ¬ ltS c a := by
  intro h
  rcases ltS_tri a b with e | e | e
  · exact h2 (ltS_trans h e)
  · subst e; exact h2 h
  · exact h1 e
theorem hole_set {nm : Nat → List Int32} {Q : List Nat} {m k x : Nat} (h : hole nm Q m k x) (hk : k < Q.length) (hl : k = 0 ∨ ∃ h : k - 1 < Q.length, ¬ ltS (nm x) (nm Q[k - 1])) : srtN nm (Q.set k x) m := by
  intro a b ha hb hab hbm
  rw [List.length_set] at ha hb
  rw [List.getElem_set, List.getElem_set]
  by_cases e1 : k = b
  · subst e1
    rw [if_pos rfl, if_neg (by omega)]
    rcases hl with e | ⟨h', hl⟩
    · omega
    · by_cases e2 : a = k - 1
      · subst e2; exact hl
      · exact not_lt_trans (h.1 a (k - 1) ha h' (by omega) (by omega) (by omega) (by omega)) hl
  · rw [if_neg e1]
    by_cases e2 : k = a
    · rw [if_pos e2]; subst e2
      exact h.2 b hb hab hbm
    · rw [if_neg e2]
      exact h.1 a b ha hb hab hbm (fun e => e2 e.symm) (fun e => e1 e.symm)
theorem hole_mv {nm : Nat → List Int32} {Q : List Nat} {m k x : Nat} (h : hole nm Q m k x) (hk : k < Q.length) (h0 : 0 < k) (hkm : k < m) (hl : ltS (nm x) (nm (Q[k - 1]'(by omega)))) : hole nm (Q.set k (Q[k - 1]'(by omega))) m (k - 1) x := by
  refine ⟨fun a b ha hb hab hbm na nb => ?_, fun b hb hkb hbm => ?_⟩
  · rw [List.length_set] at ha hb
    rw [List.getElem_set, List.getElem_set]
    by_cases e1 : k = b
    · subst e1
      rw [if_pos rfl, if_neg (by omega)]
      exact h.1 a (k - 1) ha (by omega) (by omega) (by omega) (by omega) (by omega)
    · rw [if_neg e1]
      by_cases e2 : k = a
      · subst e2; rw [if_pos rfl]
        exact h.1 (k - 1) b (by omega) hb (by omega) hbm (by omega) (by omega)
      · rw [if_neg e2]
        exact h.1 a b ha hb hab hbm (fun e => e2 e.symm) (fun e => e1 e.symm)
  · rw [List.length_set] at hb
    rw [List.getElem_set]
    by_cases e1 : k = b
    · rw [if_pos e1]
      intro e; exact ltS_irr _ (ltS_trans e hl)
    · rw [if_neg e1]
      exact h.2 b hb (by omega) hbm
theorem hole_in {nm : Nat → List Int32} {Q : List Nat} {i : Nat} (hi : i < Q.length) (h : srtN nm Q i) : hole nm Q (i + 1) i Q[i] :=
  ⟨fun a b ha hb hab hbm _ nb => h a b ha hb hab (by omega), fun b hb h1 h2 => by omega⟩
theorem mv_perm {Q : List Nat} {k j x : Nat} (hk : k < Q.length) (hj : j < Q.length) (hn : j ≠ k) : ((Q.set k Q[j]).set j x).Perm (Q.set k x) := by
  rw [List.perm_iff_count]
  intro a
  rw [List.count_set (by rw [List.length_set]; exact hj), List.count_set hk, List.count_set hk, List.getElem_set, if_neg (show ¬ k = j from fun e => hn e.symm)]
  have h1 : (if Q[k] == a then 1 else 0) ≤ List.count a Q := by
    split
    · rename_i h
      have := List.count_pos_iff (a := a) (l := Q) |>.mpr (by rw [← beq_iff_eq.mp h]; exact List.getElem_mem hk)
      omega
    · omega
  generalize (if Q[k] == a then 1 else 0) = u at *
  generalize (if Q[j] == a then 1 else 0) = v at *
  omega
end Ord147
end

section
/-! The class gathers names and sorts them. -/
section Gather148
/-- what stands at the places of the members: their names -/
def nmAt (us : List Int32) (N : Nat) (ps : Nat → Nat) (nm : Nat → List Int32) : Prop := ∀ j, j < N → ps j < 4096 ∧ okS (nm j) ∧ ∃ r, us.drop (ps j) = pstr (nm j) ++ r
theorem iget_mid {pre post : List Int32} {Q : List Nat} {f : Nat → Int32} {k : Nat} (hk : k < Q.length) (hl : (pre ++ Q.map f ++ post).length ≤ 4096) : iget (pre ++ Q.map f ++ post) (Int32.ofNat (pre.length + k)) = some (f Q[k]) := by
  simp only [List.length_append, List.length_map] at hl
  rw [iget_in (by simp only [List.length_append, List.length_map]; omega) (by omega)]
  rw [List.getElem_append_left (by simp only [List.length_append, List.length_map]; omega), List.getElem_append_right (by omega)]
  simp only [Nat.add_sub_cancel_left, List.getElem_map]
theorem iset_mid {pre post : List Int32} {Q : List Nat} {f : Nat → Int32} {k x : Nat} (hk : k < Q.length) (hl : (pre ++ Q.map f ++ post).length ≤ 4096) : iset (pre ++ Q.map f ++ post) (Int32.ofNat (pre.length + k)) (f x) = some (pre ++ (Q.set k x).map f ++ post) := by
  simp only [List.length_append, List.length_map] at hl
  rw [i_set (by simp only [List.length_append, List.length_map]; omega) (by omega)]
  congr 1
  rw [List.set_append_left _ _ (by simp only [List.length_append, List.length_map]; omega), List.set_append_right _ _ (by omega), Nat.add_sub_cancel_left, List.map_set]
theorem i_subN {a b : Nat} (h : b ≤ a) (ha : a < 2147483648) : Int32.ofNat a - Int32.ofNat b = Int32.ofNat (a - b) := by
  apply Int32.toInt_inj.mp
  have a1 : (Int32.ofNat a).toInt = (a : Int) := i_of (by omega)
  have a2 : (Int32.ofNat b).toInt = (b : Int) := i_of (by omega)
  rw [i_sub (by rw [a1, a2]; omega) (by rw [a1, a2]; omega), a1, a2, i_of (by omega)]
  omega
theorem l105_val {t0 : Nat} {us pre post : List Int32} {N g i x : Nat} {ps : Nat → Nat} {nm : Nat → List Int32} {k12 k72 : SS → Int32 → Int32 → Option SS} {k83 : SS → Int32 → Int32 → Int32 → Option SS} (ht0 : t0 ≠ 48) (hu : us.length ≤ 4096) (hnm : nmAt us N ps nm) (hg : 0 < g ∧ g ≤ 2048) (hx : x < N) : ∀ (k n : Nat) (S : SS) (Q : List Nat), k < Q.length → k < n → k ≤ i → tT S t0 = us → (∀ j ∈ Q, j < N) → S 48 = pre ++ Q.map (fun j => Int32.ofNat (ps j)) ++ post → (S 48).length = 2048 → ∃ Q', o_gather_l105 t0 k12 k72 k83 n S (Int32.ofNat pre.length) (Int32.ofNat g) (Int32.ofNat (pre.length + i)) (Int32.ofNat (ps x)) (Int32.ofNat (pre.length + k)) = k83 (up S 48 (pre ++ Q'.map (fun j => Int32.ofNat (ps j)) ++ post)) (Int32.ofNat pre.length) (Int32.ofNat g) (Int32.ofNat (pre.length + i) + 1) ∧ Q'.length = Q.length ∧ Q'.Perm (Q.set k x) ∧ (g = 1 → hole nm Q (i + 1) k x → srtN nm Q' (i + 1)) := by
  intro k
  induction k using Nat.strongRecOn with
  | _ k ih =>
  intro n S Q hk hn hki hus hQ h48 hl
  obtain ⟨n, rfl⟩ : ∃ j, n = j + 1 := ⟨n - 1, by omega⟩
  have hl2 : (pre ++ Q.map (fun j => Int32.ofNat (ps j)) ++ post).length = 2048 := by rw [← h48]; exact hl
  have hl3 := hl2
  simp only [List.length_append, List.length_map] at hl3
  have hpl : pre.length + Q.length ≤ 2048 := by omega
  have iset1 : iset (S 48) (Int32.ofNat (pre.length + k)) (Int32.ofNat (ps x)) = some (pre ++ (Q.set k x).map (fun j => Int32.ofNat (ps j)) ++ post) := by
    rw [h48]; exact iset_mid (f := fun j => Int32.ofNat (ps j)) hk (by omega)
  have fin : (g = 1 → k = 0 ∨ ∃ h : k - 1 < Q.length, ¬ ltS (nm x) (nm Q[k - 1])) → ∃ Q', ((iset (S 48) (Int32.ofNat (pre.length + k)) (Int32.ofNat (ps x))).bind fun z8 => k83 (up S 48 z8) (Int32.ofNat pre.length) (Int32.ofNat g) (Int32.ofNat (pre.length + i) + 1)) = k83 (up S 48 (pre ++ Q'.map (fun j => Int32.ofNat (ps j)) ++ post)) (Int32.ofNat pre.length) (Int32.ofNat g) (Int32.ofNat (pre.length + i) + 1) ∧ Q'.length = Q.length ∧ Q'.Perm (Q.set k x) ∧ (g = 1 → hole nm Q (i + 1) k x → srtN nm Q' (i + 1)) := by
    intro hl
    rw [iset1, o_bind]
    exact ⟨Q.set k x, rfl, List.length_set, List.Perm.refl _, fun e h => hole_set h hk (hl e)⟩
  show ∃ Q', (if Int32.ofNat (pre.length + k) < (Int32.ofNat pre.length + Int32.ofNat g) then _ else _) = _ ∧ _
  rw [← Int32.ofNat_add]
  by_cases hkg : k < g
  · rw [if_pos ((i_lt' (by omega) (by omega)).mpr (by omega))]
    exact fin (fun e => Or.inl (by omega))
  · rw [if_neg (by rw [i_lt' (by omega) (by omega)]; omega), i_subN (by omega) (by omega), show pre.length + k - g = pre.length + (k - g) by omega]
    have hkg' : k - g < Q.length := by omega
    have ig : iget (S 48) (Int32.ofNat (pre.length + (k - g))) = some (Int32.ofNat (ps Q[k - g])) := by
      rw [h48]; exact iget_mid (f := fun j => Int32.ofNat (ps j)) hkg' (by omega)
    obtain ⟨a1, a2, r1, a3⟩ := hnm Q[k - g] (hQ _ (List.getElem_mem hkg'))
    obtain ⟨b1, b2, r2, b3⟩ := hnm x hx
    rw [ig, o_bind, ostr_val (by rw [hus]; exact hu) (by rw [hus]; exact hu) a2 b2 (by rw [hus]; exact a3) (by rw [hus]; exact b3), o_bind]
    by_cases hc : cmpS (nm Q[k - g]) (nm x) ≤ 0
    · rw [if_pos hc]
      refine fin (fun e => Or.inr ⟨by omega, ?_⟩)
      subst e
      exact (cmpS_le _ _).mp hc
    · rw [if_neg hc]
      have iset2 : iset (S 48) (Int32.ofNat (pre.length + k)) (Int32.ofNat (ps Q[k - g])) = some (pre ++ (Q.set k Q[k - g]).map (fun j => Int32.ofNat (ps j)) ++ post) := by
        rw [h48]; exact iset_mid (f := fun j => Int32.ofNat (ps j)) hk (by omega)
      rw [iset2, o_bind]
      obtain ⟨Q', e1, e2, e3, e4⟩ := ih (k - g) (by omega) n (up S 48 (pre ++ (Q.set k Q[k - g]).map (fun j => Int32.ofNat (ps j)) ++ post)) (Q.set k Q[k - g]) (by rw [List.length_set]; omega) (by omega) (by omega) (by unfold tT at *; rw [up_ne ht0]; exact hus) (fun j hj => by
        rcases List.mem_or_eq_of_mem_set hj with e | e
        · exact hQ j e
        · rw [e]; exact hQ _ (List.getElem_mem hkg')) up_same (by rw [up_same]; simp only [List.length_append, List.length_map, List.length_set]; omega)
      rw [up_up] at e1
      refine ⟨Q', e1, by rw [e2, List.length_set], e3.trans (mv_perm hk hkg' (by omega)), fun e h => e4 e ?_⟩
      subst e
      have hlt : ltS (nm x) (nm Q[k - 1]) := Classical.byContradiction fun h' => hc ((cmpS_le _ _).mpr h')
      exact hole_mv h hk (by omega) (by omega) hlt
theorem l83_val {t0 : Nat} {us pre post : List Int32} {N g : Nat} {ps : Nat → Nat} {nm : Nat → List Int32} {k12 k72 : SS → Int32 → Int32 → Option SS} (ht0 : t0 ≠ 48 ∧ t0 ≠ 47) (hu : us.length ≤ 4096) (hnm : nmAt us N ps nm) (hg : 0 < g ∧ g ≤ 2048) : ∀ (m n i : Nat) (S : SS) (Q : List Nat), (i + m = Q.length ∨ (m = 0 ∧ Q.length ≤ i)) → i ≤ 4096 → m < n → tT S t0 = us → (∀ j ∈ Q, j < N) → rd S 47 1 = Int32.ofNat (pre.length + Q.length) → S 48 = pre ++ Q.map (fun j => Int32.ofNat (ps j)) ++ post → (S 48).length = 2048 → ∃ Q', o_gather_l83 t0 k12 k72 n S (Int32.ofNat pre.length) (Int32.ofNat g) (Int32.ofNat (pre.length + i)) = k72 (up S 48 (pre ++ Q'.map (fun j => Int32.ofNat (ps j)) ++ post)) (Int32.ofNat pre.length) (Int32.ofNat (g / 2)) ∧ Q'.Perm Q ∧ (g = 1 → srtN nm Q i → srtN nm Q' Q.length) := by
  intro m
  induction m with
  | zero =>
    intro n i S Q hi hi4 hn hus hQ h47 h48 hl
    obtain ⟨n, rfl⟩ : ∃ j, n = j + 1 := ⟨n - 1, by omega⟩
    have hl3 := hl
    rw [h48] at hl3
    simp only [List.length_append, List.length_map] at hl3
    refine ⟨Q, ?_, List.Perm.refl _, fun _ h => fun a b ha hb hab hbm => h a b ha hb hab (by omega)⟩
    show (if rd S 47 1 ≤ Int32.ofNat (pre.length + i) then _ else _) = _
    rw [h47, if_pos ((i_le' (by omega) (by omega)).mpr (by omega)), show (2 : Int32) = Int32.ofNat 2 from rfl, i_div (by omega) (by omega), ← h48]
    congr 1
    funext a
    unfold up
    by_cases e : a = 48
    · rw [if_pos e, e]
    · rw [if_neg e]
  | succ m ih =>
    intro n i S Q hi hi4 hn hus hQ h47 h48 hl
    obtain ⟨n, rfl⟩ : ∃ j, n = j + 1 := ⟨n - 1, by omega⟩
    have hl3 := hl
    rw [h48] at hl3
    simp only [List.length_append, List.length_map] at hl3
    have hiQ : i < Q.length := by omega
    have ig : iget (S 48) (Int32.ofNat (pre.length + i)) = some (Int32.ofNat (ps Q[i])) := by
      rw [h48]; exact iget_mid (f := fun j => Int32.ofNat (ps j)) hiQ (by rw [← h48]; omega)
    show ∃ Q', (if rd S 47 1 ≤ Int32.ofNat (pre.length + i) then _ else _) = _ ∧ _
    rw [h47, if_neg (by rw [i_le' (by omega) (by omega)]; omega), ig, o_bind]
    obtain ⟨Q1, e1, e2, e3, e4⟩ := l105_val (k12 := k12) (k72 := k72) (k83 := o_gather_l83 t0 k12 k72 n) (i := i) ht0.1 hu hnm hg (hQ _ (List.getElem_mem hiQ)) i 10000 S Q hiQ (by omega) (Nat.le_refl _) hus hQ h48 hl
    rw [List.set_getElem_self] at e3
    rw [e1, i_a1]
    obtain ⟨Q2, j1, j2, j3⟩ := ih n (i + 1) (up S 48 (pre ++ Q1.map (fun j => Int32.ofNat (ps j)) ++ post)) Q1 (by omega) (by omega) (by omega) (by unfold tT at *; rw [up_ne ht0.1]; exact hus) (fun j hj => hQ j (e3.mem_iff.mp hj)) (by rw [rd_up (by decide), e2]; exact h47) up_same (by rw [up_same]; simp only [List.length_append, List.length_map]; omega)
    rw [up_up] at j1
    refine ⟨Q2, j1, j2.trans e3, fun e h => ?_⟩
    rw [← e2]
    exact j3 e (e4 e (hole_in hiQ h))
theorem l72_val {t0 : Nat} {us pre post : List Int32} {N : Nat} {ps : Nat → Nat} {nm : Nat → List Int32} {k12 : SS → Int32 → Int32 → Option SS} (ht0 : t0 ≠ 48 ∧ t0 ≠ 47) (hu : us.length ≤ 4096) (hnm : nmAt us N ps nm) : ∀ (g n : Nat) (S : SS) (Q : List Nat), g ≤ 2048 → g < n → tT S t0 = us → (∀ j ∈ Q, j < N) → rd S 47 1 = Int32.ofNat (pre.length + Q.length) → S 48 = pre ++ Q.map (fun j => Int32.ofNat (ps j)) ++ post → (S 48).length = 2048 → (g = 0 → srtN nm Q Q.length) → ∃ Q', o_gather_l72 t0 k12 n S (Int32.ofNat pre.length) (Int32.ofNat g) = some (up S 48 (pre ++ Q'.map (fun j => Int32.ofNat (ps j)) ++ post)) ∧ Q'.Perm Q ∧ srtN nm Q' Q.length := by
  intro g
  induction g using Nat.strongRecOn with
  | _ g ih =>
  intro n S Q hg hn hus hQ h47 h48 hl h0
  obtain ⟨n, rfl⟩ : ∃ j, n = j + 1 := ⟨n - 1, by omega⟩
  have hl3 := hl
  rw [h48] at hl3
  simp only [List.length_append, List.length_map] at hl3
  show ∃ Q', (if Int32.ofNat g ≤ 0 then _ else _) = _ ∧ _
  by_cases eg : g = 0
  · refine ⟨Q, ?_, List.Perm.refl _, h0 eg⟩
    rw [if_pos (by rw [eg]; decide), ← h48]
    congr 1
    funext a
    unfold up
    by_cases e : a = 48
    · rw [if_pos e, e]
    · rw [if_neg e]
  · rw [if_neg (by rw [show (0 : Int32) = Int32.ofNat 0 from rfl, i_le' (by omega) (by omega)]; omega), ← Int32.ofNat_add]
    obtain ⟨Q1, e1, e2, e3⟩ := l83_val (k12 := k12) (k72 := o_gather_l72 t0 k12 n) (g := g) ht0 hu hnm (by omega) (Q.length - g) 10000 g S Q (by omega) (by omega) (by omega) hus hQ h47 h48 hl
    rw [e1]
    obtain ⟨Q2, j1, j2, j3⟩ := ih (g / 2) (by omega) n (up S 48 (pre ++ Q1.map (fun j => Int32.ofNat (ps j)) ++ post)) Q1 (by omega) (by omega) (by unfold tT at *; rw [up_ne ht0.1]; exact hus) (fun j hj => hQ j (e2.mem_iff.mp hj)) (by rw [rd_up (by decide), e2.length_eq]; exact h47) up_same (by rw [up_same]; simp only [List.length_append, List.length_map, e2.length_eq]; omega) (fun e => by
      have g1 : g = 1 := by omega
      rw [e2.length_eq]
      exact e3 g1 (fun a b ha hb hab hbm => by omega))
    rw [up_up] at j1
    exact ⟨Q2, j1, j2.trans e2, by rw [← e2.length_eq]; exact j3⟩
end Gather148
end

section
/-! The class gathers an object's members in the order of their names. -/
section Sort149
def leM (a b : Mb) : Bool := decide (cmpS a.1 b.1 ≤ 0)
theorem leM_iff (a b : Mb) : leM a b = true ↔ ¬ ltS b.1 a.1 := by
  unfold leM
  rw [decide_eq_true_eq]
  exact cmpS_le _ _
/-- members in the order of their names -/
def srt (l : List Mb) : List Mb := l.mergeSort leM
theorem srt_perm (l : List Mb) : (srt l).Perm l := List.mergeSort_perm l leM
theorem srt_len (l : List Mb) : (srt l).length = l.length := (srt_perm l).length_eq
theorem srt_le (l : List Mb) : (srt l).Pairwise fun a b => leM a b = true := by
  apply List.pairwise_mergeSort
  · intro a b c h1 h2
    rw [leM_iff] at h1 h2 ⊢
    exact not_lt_trans h1 h2
  · intro a b
    rw [Bool.or_eq_true, leM_iff, leM_iff]
    rcases ltS_tri a.1 b.1 with e | e | e
    · exact Or.inl fun h => ltS_irr _ (ltS_trans e h)
    · rw [e]; exact Or.inl (ltS_irr _)
    · exact Or.inr fun h => ltS_irr _ (ltS_trans e h)
/-- the names differ -/
def nod (l : List Mb) : Prop := (l.map fun m => m.1).Nodup
theorem nod.eq {l : List Mb} (h : nod l) {a b : Mb} (ha : a ∈ l) (hb : b ∈ l) (e : a.1 = b.1) : a = b := by
  unfold nod List.Nodup at h
  rw [List.pairwise_map, List.pairwise_iff_getElem] at h
  obtain ⟨i, hi, rfl⟩ := List.getElem_of_mem ha
  obtain ⟨j, hj, rfl⟩ := List.getElem_of_mem hb
  rcases Nat.lt_trichotomy i j with c | c | c
  · exact absurd e (h i j hi hj c)
  · subst c; rfl
  · exact absurd e.symm (h j i hj hi c)
theorem nod.srt {l : List Mb} (h : nod l) : nod (srt l) := by
  unfold nod at h ⊢
  exact ((srt_perm l).map fun m => m.1).nodup_iff.mpr h
theorem srt_uni {l L : List Mb} (h : nod l) (hp : L.Perm l) (hs : L.Pairwise fun a b => leM a b = true) : L = srt l := by
  refine List.Perm.eq_of_pairwise (fun a b ha hb h1 h2 => ?_) hs (srt_le l) (hp.trans (srt_perm l).symm)
  rw [leM_iff] at h1 h2
  refine h.eq (hp.mem_iff.mp ha) ((srt_perm l).mem_iff.mp hb) ?_
  rcases ltS_tri a.1 b.1 with e | e | e
  · exact absurd e h2
  · exact e
  · exact absurd e h1
theorem srt_lt {l : List Mb} (h : nod l) : (srt l).Pairwise fun a b => ltS a.1 b.1 := by
  have hn := h.srt
  unfold nod List.Nodup at hn
  rw [List.pairwise_map, List.pairwise_iff_getElem] at hn
  have hs := srt_le l
  rw [List.pairwise_iff_getElem] at hs ⊢
  intro i j hi hj hij
  have h1 := hs i j hi hj hij
  rw [leM_iff] at h1
  rcases ltS_tri (srt l)[i].1 (srt l)[j].1 with e | e | e
  · exact e
  · exact absurd e (hn i j hi hj hij)
  · exact absurd e h1
theorem ip_1 (b : Bool) (q : Nat) : ∀ (l : List Mb) (j : Nat) (hj : j < l.length), ip b q l (j + 1) = ip b q l j + (bM b l[j]).length + 1 := by
  intro l j hj
  unfold ip
  rw [List.take_succ_eq_append_getElem hj]
  simp only [List.map_append, List.map_cons, List.map_nil, List.sum_append, List.sum_cons, List.sum_nil]
  omega
def nmL (l : List Mb) (j : Nat) : List Int32 := (l.getD j ([], 0, 0, [], ofL [])).1
theorem nmL_in {l : List Mb} {j : Nat} (hj : j < l.length) : nmL l j = l[j].1 := by
  unfold nmL
  rw [List.getD_eq_getElem?_getD, List.getElem?_eq_getElem hj]
  rfl
theorem nmAt_of {us : List Int32} {q : Nat} {v : Int} {s : List Int32} {l : List Mb} (h : vat us q (6, v, s, ofL l)) : nmAt us l.length (ip true (q + 1) l) (nmL l) := by
  intro j hj
  obtain ⟨i1, ⟨z, r, hz, i2⟩, i3⟩ := h.item (Or.inr rfl) hj
  have e : (6 == 6) = true := rfl
  rw [e] at i2 i3
  have hl := h.1
  refine ⟨by omega, ?_, ?_⟩
  · rw [nmL_in hj]; exact (h.2.2.1.kids _ (List.getElem_mem hj)).1
  · rw [nmL_in hj, i2, List.drop_eq_getElem_cons hj, jn_tl]
    unfold bM
    simp only [if_true, List.append_assoc]
    exact ⟨_, rfl⟩
theorem l12_val {t0 : Nat} {us pre : List Int32} {q : Nat} {v : Int} {s : List Int32} {l : List Mb} (ht0 : t0 ≠ 48 ∧ t0 ≠ 47) (h : vat us q (6, v, s, ofL l)) (hpl : pre.length + l.length ≤ 2048) : ∀ (m j n : Nat) (S : SS) (post : List Int32), j + m = l.length → m < n → tT S t0 = us → S 48 = pre ++ (List.range j).map (fun j => Int32.ofNat (ip true (q + 1) l j)) ++ post → (S 48).length = 2048 → (S 47).length = 2 → rd S 47 1 = Int32.ofNat (pre.length + j) → ∃ (S' : SS) (Q : List Nat) (post' : List Int32), o_gather_l12 t0 n S (Int32.ofNat pre.length) (if m = 0 then -1 else Int32.ofNat (ip true (q + 1) l j)) = some S' ∧ (∀ a, a ≠ 47 → a ≠ 48 → S' a = S a) ∧ (S' 47).length = 2 ∧ rd S' 47 1 = Int32.ofNat (pre.length + l.length) ∧ S' 48 = pre ++ Q.map (fun j => Int32.ofNat (ip true (q + 1) l j)) ++ post' ∧ (S' 48).length = 2048 ∧ Q.Perm (List.range l.length) ∧ srtN (nmL l) Q l.length := by
  have hus := h.1
  intro m
  induction m with
  | zero =>
    intro j n S post hj hn ht h48 hl h47l h47
    obtain ⟨n, rfl⟩ : ∃ j, n = j + 1 := ⟨n - 1, by omega⟩
    have ej : j = l.length := by omega
    subst ej
    obtain ⟨Q', e1, e2, e3⟩ := l72_val (k12 := o_gather_l12 t0 n) ht0 hus (nmAt_of h) (l.length / 2) 10000 S (List.range l.length) (by omega) (by omega) ht (fun j hj => List.mem_range.mp hj) (by rw [List.length_range]; exact h47) h48 hl (fun e a b ha hb hab hbm => by rw [List.length_range] at hb; omega)
    refine ⟨_, Q', post, ?_, fun a n1 n2 => up_ne n2, by rw [up_ne (by decide)]; exact h47l, by rw [rd_up (by decide)]; exact h47, up_same, ?_, e2, by rw [List.length_range] at e3; exact e3⟩
    · show (if (if 0 = 0 then (-1 : Int32) else Int32.ofNat (ip true (q + 1) l l.length)) = (-1 : Int32) then o_gather_l72 t0 (o_gather_l12 t0 n) 10000 S (Int32.ofNat pre.length) (((rd S 47 1) - Int32.ofNat pre.length) / 2) else _) = _
      rw [if_pos rfl, if_pos rfl, h47, i_subN (by omega) (by omega), Nat.add_sub_cancel_left, show (2 : Int32) = Int32.ofNat 2 from rfl, i_div (by omega) (by omega)]
      exact e1
    · rw [up_same]
      rw [h48] at hl
      simp only [List.length_append, List.length_map, e2.length_eq] at hl ⊢
      exact hl
  | succ m ih =>
    intro j n S post hj hn ht h48 hl h47l h47
    obtain ⟨n, rfl⟩ : ∃ j, n = j + 1 := ⟨n - 1, by omega⟩
    have hjl : j < l.length := by omega
    obtain ⟨i1, ⟨z, r, hz, i2⟩, i3⟩ := h.item (Or.inr rfl) hjl
    have e : (6 == 6) = true := rfl
    rw [e] at i2 i3
    rw [List.drop_eq_getElem_cons hjl] at i2
    obtain ⟨n1, n2, n3, n4⟩ := nx hus h.2.1 (h.2.2.1.kids _ (List.getElem_mem hjl)) hz i2
    have hl2 := hl
    rw [h48] at hl2
    simp only [List.length_append, List.length_map, List.length_range] at hl2
    obtain ⟨x, post, rfl⟩ : ∃ x p, post = x :: p := by
      cases post with
      | nil => simp only [List.length_nil] at hl2; omega
      | cons x p => exact ⟨x, p, rfl⟩
    have es : (S 48).set (pre.length + j) (Int32.ofNat (ip true (q + 1) l j)) = pre ++ (List.range (j + 1)).map (fun j => Int32.ofNat (ip true (q + 1) l j)) ++ post := by
      rw [h48, List.append_assoc, List.set_append_right _ _ (by omega), Nat.add_sub_cancel_left, List.set_append_right _ _ (by simp), List.range_succ, List.map_append]
      simp
    have hs2 : ∀ k v z, (wr (up S 48 z) 47 k v) 48 = z := fun k v z => by rw [wr_ne (by decide), up_same]
    have et : ∀ k v z, tT (wr (up S 48 z) 47 k v) t0 = us := fun k v z => by
      unfold tT at *
      rw [wr_ne ht0.2, up_ne ht0.1]
      exact ht
    have eif : (if m + 1 = 0 then (-1 : Int32) else Int32.ofNat (ip true (q + 1) l j)) = Int32.ofNat (ip true (q + 1) l j) := if_neg (by omega)
    obtain ⟨S', Q, post', j1, j2, j3, j4, j5, j6, j7, j8⟩ := ih (j + 1) n (wr (up S 48 ((S 48).set (pre.length + j) (Int32.ofNat (ip true (q + 1) l j)))) 47 1 (Int32.ofNat (pre.length + j) + 1)) post (by omega) (by omega) (et _ _ _) (by rw [hs2, es]) (by rw [hs2, List.length_set]; exact hl) (by rw [wr_len, up_ne (by decide)]; exact h47l) (by rw [rd_wr (by rw [up_ne (by decide), h47l]; decide), i_a1]; rfl)
    refine ⟨S', Q, post', ?_, fun a na nb => by rw [j2 a na nb, wr_ne na, up_ne nb], j3, j4, j5, j6, j7, j8⟩
    rw [eif]
    show (if Int32.ofNat (ip true (q + 1) l j) = (-1 : Int32) then _ else (if (Int32.ofNat (S 48).length) ≤ (rd S 47 1) then _ else _)) = _
    rw [if_neg (i_ne1 (by omega)), hl, h47, if_neg (by rw [i_le' (by omega) (by omega)]; omega), i_set (by rw [hl]; omega) (by omega), o_bind, rd_up (by decide), h47, et, n3, o_bind, ← j1]
    congr 1
    by_cases hm : m = 0
    · rw [if_pos hm, if_pos (by apply List.drop_eq_nil_of_le; omega)]
    · rw [if_neg hm, if_neg (by rw [List.drop_eq_nil_iff]; omega), ip_1 true (q + 1) l j hjl]
/-- what the class has gathered -/
theorem gather_val {S : SS} {t0 : Nat} {us : List Int32} {q top : Nat} {v : Int} {s : List Int32} {l : List Mb} (ht0 : t0 ≠ 48 ∧ t0 ≠ 47) (h : vat us q (6, v, s, ofL l)) (hpl : top + l.length ≤ 2048) (ht : tT S t0 = us) (hl : (S 48).length = 2048) (h47l : (S 47).length = 2) (h47 : rd S 47 1 = Int32.ofNat top) : ∃ (S' : SS) (Q : List Nat), o_gather S t0 (Int32.ofNat q) = some S' ∧ (∀ a, a ≠ 47 → a ≠ 48 → S' a = S a) ∧ (S' 47).length = 2 ∧ rd S' 47 1 = Int32.ofNat (top + l.length) ∧ (S' 48).length = 2048 ∧ (S' 48).take top = (S 48).take top ∧ Q.length = l.length ∧ (∀ k (hk : k < Q.length), Q[k] < l.length ∧ l[Q[k]]? = (srt l)[k]? ∧ (S' 48)[top + k]? = some (Int32.ofNat (ip true (q + 1) l Q[k]))) := by
  have hnod : nod l := by
    have := h.2.2.1.2.2.2.2.1 rfl
    rw [toL_ofL] at this
    exact this
  have hpre : ((S 48).take top).length = top := by rw [List.length_take, hl]; omega
  obtain ⟨S', Q, post, e1, e2, e3, e4, e5, e6, e7, e8⟩ := l12_val (pre := (S 48).take top) ht0 h (by rw [hpre]; exact hpl) l.length 0 10000 S ((S 48).drop top) (by omega) (by have := (h.items (Or.inr rfl)).2; omega) ht (by simp) hl h47l (by rw [hpre]; exact h47)
  rw [hpre] at e1 e4
  have hQ : ∀ k (hk : k < Q.length), Q[k] < l.length := fun k hk => List.mem_range.mp (e7.mem_iff.mp (List.getElem_mem hk))
  have hQl : Q.length = l.length := by rw [e7.length_eq, List.length_range]
  have hL : Q.map (fun j => l.getD j ([], 0, 0, [], ofL [])) = srt l := by
    apply srt_uni hnod
    · have := e7.map (fun j => l.getD j ([], 0, 0, [], ofL []))
      refine this.trans ?_
      rw [show (List.range l.length).map (fun j => l.getD j ([], 0, 0, [], ofL [])) = l by
        apply List.ext_getElem
        · simp
        · intro i h1 h2
          rw [List.getElem_map, List.getElem_range, List.getD_eq_getElem?_getD, List.getElem?_eq_getElem h2]
          rfl]
    · rw [List.pairwise_map, List.pairwise_iff_getElem]
      intro a b ha hb hab
      rw [leM_iff]
      exact e8 a b ha hb hab (by omega)
  refine ⟨S', Q, ?_, e2, e3, e4, e6, ?_, hQl, fun k hk => ⟨hQ k hk, ?_, ?_⟩⟩
  · unfold o_gather
    rw [ht, h.first (Or.inr rfl), o_bind, h47, ← e1, ip_0]
    congr 1
    by_cases hn : l = []
    · rw [if_pos hn, if_pos (by rw [hn]; rfl)]
    · rw [if_neg hn, if_neg (by intro e; exact hn (List.eq_nil_of_length_eq_zero e))]
  · rw [e5, List.append_assoc, List.take_left' hpre]
  · rw [← hL, List.getElem?_map, List.getElem?_eq_getElem hk]
    show _ = some (l.getD Q[k] _)
    rw [List.getD_eq_getElem?_getD, List.getElem?_eq_getElem (hQ k hk)]
    rfl
  · rw [e5, List.append_assoc, List.getElem?_append_right (by omega), hpre, Nat.add_sub_cancel_left, List.getElem?_append_left (by rw [List.length_map]; exact hk), List.getElem?_map, List.getElem?_eq_getElem hk]
    rfl
end Sort149
end

section
/-! Values compared: what it means, and that the class does it. -/
section Same150
/-- lists compared, the values of their members one by one -/
def arrK (R : Vl → Vl → Int32) : List Mb → List Mb → Int32
  | [], [] => 0
  | m :: l, m' :: l' => if R m.2 m'.2 = 0 then arrK R l l' else R m.2 m'.2
  | [], _ :: _ => -1
  | _ :: _, [] => 1
def nms (l : List Mb) : List (List Int32) := l.map fun m => m.1
/-- names compared, one by one -/
def namK : List (List Int32) → List (List Int32) → Int32
  | [], [] => 0
  | s :: l, s' :: l' => if cmpS s s' = 0 then namK l l' else cmpS s s'
  | [], _ :: _ => -1
  | _ :: _, [] => 1
/-- values in their ORDER -/
def cmpK : Nat → Vl → Vl → Int32
  | 0, _, _ => 0
  | n + 1, t, u => if t.1 = u.1 then (if t.1 = 3 then l_cmp (Int64.ofInt t.2.1) (Int64.ofInt u.2.1) else if t.1 = 4 then cmpS t.2.2.1 u.2.2.1 else if t.1 = 5 then arrK (cmpK n) (toL t.2.2.2) (toL u.2.2.2) else if t.1 = 6 then (if namK (nms (srt (toL t.2.2.2))) (nms (srt (toL u.2.2.2))) = 0 then arrK (cmpK n) (srt (toL t.2.2.2)) (srt (toL u.2.2.2)) else namK (nms (srt (toL t.2.2.2))) (nms (srt (toL u.2.2.2)))) else 0) else if u.1 ≤ t.1 then 1 else -1
theorem l_cmp0 {v w : Int} (hv : -9007199254740991 ≤ v ∧ v ≤ 9007199254740991) (hw : -9007199254740991 ≤ w ∧ w ≤ 9007199254740991) : l_cmp (Int64.ofInt v) (Int64.ofInt w) = 0 ↔ v = w := by
  have e : lg_cmp (Int64.ofInt v) (Int64.ofInt w) = 0 ↔ v = w := by
    rw [lg_eq]
    refine ⟨fun h => ?_, fun h => by rw [h]⟩
    have := congrArg Int64.toInt h
    rw [l_of (by omega) (by omega), l_of (by omega) (by omega)] at this
    exact this
  unfold l_cmp
  by_cases h : lg_cmp (Int64.ofInt v) (Int64.ofInt w) = 0
  · rw [h, if_pos (by decide), if_pos rfl]
    exact ⟨fun _ => e.mp h, fun _ => rfl⟩
  · rw [if_neg h]
    refine ⟨fun h' => ?_, fun h' => absurd (e.mpr h') h⟩
    by_cases c : 0 ≤ lg_cmp (Int64.ofInt v) (Int64.ofInt w)
    · rw [if_pos c] at h'; exact absurd h' (by decide)
    · rw [if_neg c] at h'; exact absurd h' (by decide)
theorem i_cmp0 {a b : Nat} (ha : a < 2147483648) (hb : b < 2147483648) : i_cmp (Int32.ofNat a) (Int32.ofNat b) = 0 ↔ a = b := by
  rw [i_cmp_of ha hb]
  by_cases h : a = b
  · rw [if_pos h]; exact ⟨fun _ => h, fun _ => rfl⟩
  · rw [if_neg h]
    refine ⟨fun h' => ?_, fun h' => absurd h' h⟩
    by_cases c : b ≤ a
    · rw [if_pos c] at h'; exact absurd h' (by decide)
    · rw [if_neg c] at h'; exact absurd h' (by decide)
/-- how long a box is -/
theorem jn_room (b : Bool) : ∀ (l : List Mb) (x : Mb), x ∈ l → (if b then 5 else 2) * l.length + (bV x.2).length ≤ (jn (l.map (bM b))).length + 2 := by
  have hb : ∀ m : Mb, (if b then 3 else 0) + (bV m.2).length ≤ (bM b m).length ∧ 1 ≤ (bV m.2).length := by
    intro m
    have h1 : 1 ≤ (bV m.2).length := List.length_pos_iff.mpr (bV_ne _)
    refine ⟨?_, h1⟩
    unfold bM pstr
    cases b with
    | true => simp only [if_true, List.length_append, List.length_cons, List.length_nil]; omega
    | false => simp
  have h0 : ∀ l : List Mb, (if b then 5 else 2) * l.length ≤ (jn (l.map (bM b))).length + 1 := by
    intro l
    induction l with
    | nil => simp [jn]
    | cons m l ih =>
      rw [jn_cons, List.length_append]
      have := hb m
      by_cases hn : l = []
      · subst hn
        rw [if_pos rfl]
        cases b <;> simp only [if_true, List.length_cons, List.length_nil] at * <;> simp at * <;> omega
      · rw [if_neg hn]
        cases b <;> simp only [if_true, List.length_cons] at * <;> simp at * <;> omega
  intro l
  induction l with
  | nil => intro x hx; cases hx
  | cons m l ih =>
    intro x hx
    rw [jn_cons, List.length_append]
    have h1 := hb m
    have h2 := hb x
    have h3 := h0 l
    rcases List.mem_cons.mp hx with e | e
    · subst e
      by_cases hn : l = []
      · subst hn
        rw [if_pos rfl]
        cases b <;> simp only [if_true, List.length_cons, List.length_nil] at * <;> simp at * <;> omega
      · rw [if_neg hn]
        cases b <;> simp only [if_true, List.length_cons] at * <;> simp at * <;> omega
    · have h4 := ih x e
      have hn : l ≠ [] := fun c => by rw [c] at e; cases e
      rw [if_neg hn]
      cases b <;> simp only [if_true, List.length_cons] at * <;> simp at * <;> omega
theorem bV_box {k : Nat} {v : Int} {s : List Int32} {l : List Mb} (hk : k = 5 ∨ k = 6) : (bV (k, v, s, ofL l)).length = (jn (l.map (bM (k == 6)))).length + 2 := by
  unfold bV bval
  simp only
  rw [bF_ofL]
  rcases hk with rfl | rfl <;> simp
theorem bV_kid {k : Nat} {v : Int} {s : List Int32} {l : List Mb} (hk : k = 5 ∨ k = 6) {x : Mb} (hx : x ∈ l) : (if k = 6 then 5 else 2) * l.length + (bV x.2).length ≤ (bV (k, v, s, ofL l)).length := by
  rw [bV_box hk]
  have := jn_room (k == 6) l x hx
  rcases hk with rfl | rfl <;> simpa using this
theorem bV_room {v : Int} {s : List Int32} {l : List Mb} : 5 * l.length ≤ (bV (6, v, s, ofL l)).length := by
  cases l with
  | nil => simp
  | cons m l =>
    have := bV_kid (k := 6) (v := v) (s := s) (Or.inr rfl) (List.mem_cons_self (a := m) (l := l))
    rw [if_pos rfl] at this
    omega
theorem dV_kid {k : Nat} {v : Int} {s : List Int32} {l : List Mb} (hk : k = 5 ∨ k = 6) {x : Mb} (hx : x ∈ l) : dV x.2 + 1 ≤ dV (k, v, s, ofL l) := by
  unfold dV
  rw [if_pos (show (k, v, s, ofL l).1 = 5 ∨ (k, v, s, ofL l).1 = 6 from hk)]
  have := dF_mem (f := ofL l) (m := x) (by rw [toL_ofL]; exact hx)
  show _ ≤ 1 + dF (ofL l)
  unfold dV at this
  omega
/-- how the class compares: what stands before -/
def stCp (S : SS) (t0 t1 : Nat) (us vs : List Int32) (top : Nat) : Prop := tT S t0 = us ∧ tT S t1 = vs ∧ (S 47).length = 2 ∧ rd S 47 1 = Int32.ofNat top ∧ (S 48).length = 2048
def frCp (S S' : SS) (top : Nat) : Prop := (∀ a, a ≠ 47 → a ≠ 48 → S' a = S a) ∧ (S' 47).length = 2 ∧ rd S' 47 1 = Int32.ofNat top ∧ (S' 48).length = 2048 ∧ (S' 48).take top = (S 48).take top
def nCp (t : Nat) : Prop := t ≠ 48 ∧ t ≠ 47
theorem stCp.fr {S S' : SS} {t0 t1 top : Nat} {us vs : List Int32} (h0 : nCp t0) (h1 : nCp t1) (h : stCp S t0 t1 us vs top) (hf : frCp S S' top) : stCp S' t0 t1 us vs top := by
  obtain ⟨a1, a2, a3, a4, a5⟩ := h
  obtain ⟨b1, b2, b3, b4, b5⟩ := hf
  unfold tT at a1 a2
  exact ⟨by unfold tT; rw [b1 t0 h0.2 h0.1]; exact a1, by unfold tT; rw [b1 t1 h1.2 h1.1]; exact a2, b2, b3, b4⟩
theorem frCp.refl {S : SS} {t0 t1 top : Nat} {us vs : List Int32} (h : stCp S t0 t1 us vs top) : frCp S S top := ⟨fun _ _ _ => rfl, h.2.2.1, h.2.2.2.1, h.2.2.2.2, rfl⟩
theorem frCp.trans {S S' S'' : SS} {top : Nat} (h : frCp S S' top) (h' : frCp S' S'' top) : frCp S S'' top :=
  ⟨fun a n1 n2 => (h'.1 a n1 n2).trans (h.1 a n1 n2), h'.2.1, h'.2.2.1, h'.2.2.2.1, h'.2.2.2.2.trans h.2.2.2.2⟩
/-- arrays -/
theorem oarr_l {t0 t1 d top : Nat} {us vs r r' : List Int32} {z z' : Int32} {R : Vl → Vl → Int32} {rec : SS → Nat → Int32 → Nat → Int32 → Int32 → Option (SS × Int32)} (h0 : nCp t0) (h1 : nCp t1) (hu : us.length ≤ 4096) (hv : vs.length ≤ 4096) (hA : asc us) (hA' : asc vs) (hz : z = 93 ∨ z = 125) (hz' : z' = 93 ∨ z' = 125) : ∀ (la lb : List Mb) (n c p q : Nat) (S : SS), okL la → okL lb → (la ≠ [] → us.drop p = jn (la.map (bM false)) ++ z :: r) → (lb ≠ [] → vs.drop q = jn (lb.map (bM false)) ++ z' :: r') → la.length < n → c + la.length < 4096 → stCp S t0 t1 us vs top → (∀ m ∈ la, ∀ m' ∈ lb, ∀ (S : SS) (p q : Nat), stCp S t0 t1 us vs top → vat us p m.2 → vat vs q m'.2 → ∃ S' e, rec S t0 (Int32.ofNat p) t1 (Int32.ofNat q) (Int32.ofNat (d + 1)) = some (S', e) ∧ e = R m.2 m'.2 ∧ frCp S S' top) → ∃ S' e, o_arr_l18 t0 t1 rec n S (Int32.ofNat d) (if la = [] then -1 else Int32.ofNat p) (if lb = [] then -1 else Int32.ofNat q) (Int32.ofNat c) = some (S', e) ∧ e = arrK R la lb ∧ frCp S S' top := by
  intro la
  induction la with
  | nil =>
    intro lb n c p q S _ _ _ hq hn hc hS _
    obtain ⟨n, rfl⟩ : ∃ j, n = j + 1 := ⟨n - 1, by omega⟩
    have e0 : ¬ (4096 : Int32) ≤ Int32.ofNat c := by
      rw [show (4096 : Int32) = Int32.ofNat 4096 from rfl, i_le' (by omega) (by omega)]
      simp only [List.length_nil] at hc
      omega
    cases lb with
    | nil =>
      refine ⟨S, i_cmp 0 0, ?_, (show i_cmp 0 0 = 0 by decide), frCp.refl hS⟩
      unfold o_arr_l18
      rw [if_neg e0, if_pos rfl, if_pos rfl, if_pos rfl, if_pos rfl]
    | cons m' lb =>
      refine ⟨S, i_cmp 0 1, ?_, (show i_cmp 0 1 = -1 by decide), frCp.refl hS⟩
      have hd := hq (by simp)
      rw [jn_cons, List.append_assoc] at hd
      have := drop_len hd (bM_ne false m')
      unfold o_arr_l18
      rw [if_neg e0, if_pos rfl, if_pos rfl, if_neg (by simp : ¬ m' :: lb = []), if_neg (i_ne1 (by omega))]
  | cons m la ih =>
    intro lb n c p q S ha hb dp dq hn hc hS hrec
    obtain ⟨n, rfl⟩ : ∃ j, n = j + 1 := ⟨n - 1, by omega⟩
    simp only [List.length_cons] at hn hc
    have e0 : ¬ (4096 : Int32) ≤ Int32.ofNat c := by
      rw [show (4096 : Int32) = Int32.ofNat 4096 from rfl, i_le' (by omega) (by omega)]
      omega
    have dp' := dp (by simp)
    obtain ⟨n1, n2, n3, n4⟩ := nx hu hA (ha m List.mem_cons_self) hz dp'
    have hm := (mem_at hu hA (ha m List.mem_cons_self) hz dp').1 rfl
    cases lb with
    | nil =>
      refine ⟨S, i_cmp 1 0, ?_, (show i_cmp 1 0 = 1 by decide), frCp.refl hS⟩
      unfold o_arr_l18
      rw [if_neg e0, if_neg (by simp : ¬ m :: la = []), if_neg (i_ne1 (by omega)), if_pos rfl, if_pos rfl]
    | cons m' lb =>
      have dq' := dq (by simp)
      obtain ⟨k1, k2, k3, k4⟩ := nx hv hA' (hb m' List.mem_cons_self) hz' dq'
      have hm' := (mem_at hv hA' (hb m' List.mem_cons_self) hz' dq').1 rfl
      obtain ⟨S1, e, r1, r2, r3⟩ := hrec m List.mem_cons_self m' List.mem_cons_self S p q hS hm hm'
      have hS1 := hS.fr h0 h1 r3
      have step : o_arr_l18 t0 t1 rec (n + 1) S (Int32.ofNat d) (if m :: la = [] then -1 else Int32.ofNat p) (if m' :: lb = [] then -1 else Int32.ofNat q) (Int32.ofNat c) = if e = 0 then o_arr_l18 t0 t1 rec n S1 (Int32.ofNat d) (if la = [] then -1 else Int32.ofNat (p + (bM false m).length + 1)) (if lb = [] then -1 else Int32.ofNat (q + (bM false m').length + 1)) (Int32.ofNat (c + 1)) else some (S1, e) := by
        rw [if_neg (by simp : ¬ m :: la = []), if_neg (by simp : ¬ m' :: lb = [])]
        show (if (4096 : Int32) ≤ Int32.ofNat c then _ else if Int32.ofNat p = (-1 : Int32) then _ else if Int32.ofNat q = (-1 : Int32) then _ else _) = _
        rw [if_neg e0, if_neg (i_ne1 (by omega)), if_neg (i_ne1 (by omega)), i_a1, r1, o_bind]
        by_cases he : e = 0
        · rw [if_pos he, if_pos he, hS1.1, n3, o_bind, hS1.2.1, k3, o_bind, i_a1]
        · rw [if_neg he, if_neg he]
      rw [step]
      by_cases he : e = 0
      · rw [if_pos he]
        obtain ⟨S2, e2, j1, j2, j3⟩ := ih lb n (c + 1) (p + (bM false m).length + 1) (q + (bM false m').length + 1) S1 (fun x hx => ha x (List.mem_cons_of_mem _ hx)) (fun x hx => hb x (List.mem_cons_of_mem _ hx)) n4 k4 (by omega) (by omega) hS1 (fun x hx x' hx' => hrec x (List.mem_cons_of_mem _ hx) x' (List.mem_cons_of_mem _ hx'))
        refine ⟨S2, e2, j1, ?_, r3.trans j3⟩
        show e2 = if R m.2 m'.2 = 0 then arrK R la lb else R m.2 m'.2
        rw [← r2, if_pos he]
        exact j2
      · rw [if_neg he]
        refine ⟨S1, e, rfl, ?_, r3⟩
        show e = if R m.2 m'.2 = 0 then arrK R la lb else R m.2 m'.2
        rw [← r2, if_neg he]
end Same150
end

section
/-! The class compares objects, and all values. -/
section Same151
/-- a row of members' places -/
def gth (us A : List Int32) (top : Nat) (L : List Mb) : Prop := ∀ k (hk : k < L.length), ∃ x b r, A[top + k]? = some (Int32.ofNat x) ∧ us.drop x = pstr L[k].1 ++ r ∧ okS L[k].1 ∧ t_valueOf us (Int32.ofNat x) = some (Int32.ofNat b) ∧ vat us b L[k].2
theorem gth.move {us A A' : List Int32} {top T : Nat} {L : List Mb} (h : gth us A top L) (hT : top + L.length ≤ T) (e : A'.take T = A.take T) : gth us A' top L := by
  intro k hk
  obtain ⟨x, b, r, h1, h2⟩ := h k hk
  refine ⟨x, b, r, ?_, h2⟩
  have e1 : A'[top + k]? = (A'.take T)[top + k]? := by rw [List.getElem?_take, if_pos (by omega)]
  have e2 : A[top + k]? = (A.take T)[top + k]? := by rw [List.getElem?_take, if_pos (by omega)]
  rw [e1, e, ← e2, h1]
theorem iget_some {A : List Int32} {i : Nat} {v : Int32} (h : A[i]? = some v) (hi : i < 2147483648) : iget A (Int32.ofNat i) = some v := by
  obtain ⟨h1, h2⟩ := List.getElem?_eq_some_iff.mp h
  rw [iget_in h1 hi, h2]
theorem vat.nod {us : List Int32} {q : Nat} {v : Int} {s : List Int32} {l : List Mb} (h : vat us q (6, v, s, ofL l)) : nod l := by
  have := h.2.2.1.2.2.2.2.1 rfl
  rw [toL_ofL] at this
  exact this
theorem gather_gth {S : SS} {t0 : Nat} {us : List Int32} {q top : Nat} {v : Int} {s : List Int32} {l : List Mb} (ht0 : nCp t0) (h : vat us q (6, v, s, ofL l)) (hpl : top + l.length ≤ 2048) (ht : tT S t0 = us) (hl : (S 48).length = 2048) (h47l : (S 47).length = 2) (h47 : rd S 47 1 = Int32.ofNat top) : ∃ S', o_gather S t0 (Int32.ofNat q) = some S' ∧ (∀ a, a ≠ 47 → a ≠ 48 → S' a = S a) ∧ (S' 47).length = 2 ∧ rd S' 47 1 = Int32.ofNat (top + l.length) ∧ (S' 48).length = 2048 ∧ (S' 48).take top = (S 48).take top ∧ gth us (S' 48) top (srt l) := by
  obtain ⟨S', Q, e1, e2, e3, e4, e5, e6, e7, e8⟩ := gather_val ht0 h hpl ht hl h47l h47
  refine ⟨S', e1, e2, e3, e4, e5, e6, fun k hk => ?_⟩
  rw [srt_len] at hk
  obtain ⟨a1, a2, a3⟩ := e8 k (by omega)
  rw [List.getElem?_eq_getElem a1, List.getElem?_eq_getElem (by rw [srt_len]; exact hk), Option.some.injEq] at a2
  obtain ⟨i1, ⟨z, r, hz, i2⟩, i3⟩ := h.item (Or.inr rfl) a1
  have e : (6 == 6) = true := rfl
  rw [e] at i2 i3
  have hok := h.2.2.1.kids _ (List.getElem_mem a1)
  rw [List.drop_eq_getElem_cons a1] at i2
  obtain ⟨b1, b2⟩ := (mem_at h.1 h.2.1 hok hz i2).2 rfl
  rw [jn_tl] at i2
  unfold bM at i2
  simp only [if_true, List.append_assoc] at i2
  rw [← a2]
  exact ⟨_, _, _, a3, i2, hok.1, b1, b2⟩
theorem namK_end {L L' : List Mb} {k : Nat} (hk : k = min L.length L'.length) (h1 : L.length < 4097) (h2 : L'.length < 4097) : i_cmp (Int32.ofNat L.length) (Int32.ofNat L'.length) = namK (nms (L.drop k)) (nms (L'.drop k)) := by
  rw [i_cmp_of (by omega) (by omega)]
  unfold nms
  by_cases e : L.length = L'.length
  · rw [if_pos e, List.drop_eq_nil_of_le (by omega), List.drop_eq_nil_of_le (by omega)]
    rfl
  · rw [if_neg e]
    by_cases c : L'.length ≤ L.length
    · rw [if_pos c, List.drop_eq_nil_of_le (show L'.length ≤ k by omega), List.drop_eq_getElem_cons (show k < L.length by omega)]
      rfl
    · rw [if_neg c, List.drop_eq_nil_of_le (show L.length ≤ k by omega), List.drop_eq_getElem_cons (show k < L'.length by omega)]
      rfl
theorem namK_0 : ∀ {L L' : List (List Int32)}, namK L L' = 0 → L = L' := by
  intro L
  induction L with
  | nil =>
    intro L' h
    cases L' with
    | nil => rfl
    | cons s l => exact absurd h (show ¬ (-1 : Int32) = 0 by decide)
  | cons s l ih =>
    intro L' h
    cases L' with
    | nil => exact absurd h (show ¬ (1 : Int32) = 0 by decide)
    | cons s' l' =>
      have h : (if cmpS s s' = 0 then namK l l' else cmpS s s') = 0 := h
      by_cases c : cmpS s s' = 0
      · rw [if_pos c] at h
        rw [(cmpS_0 _ _).mp c, ih h]
      · rw [if_neg c] at h
        exact absurd h c
theorem onames_l {S : SS} {t0 t1 T1 T2 : Nat} {us vs : List Int32} {L L' : List Mb} (ht0 : tT S t0 = us) (ht1 : tT S t1 = vs) (hu : us.length ≤ 4096) (hv : vs.length ≤ 4096) (hT : T1 ≤ 4096 ∧ T2 ≤ 4096) (hL : L.length ≤ 4096) (hL' : L'.length ≤ 4096) (g1 : gth us (S 48) T1 L) (g2 : gth vs (S 48) T2 L') {l5 : Int32} (h12 : T2 = T1 + L.length) (h5 : l5 = Int32.ofNat (T2 + L'.length)) : ∀ (m k n : Nat), k + m = min L.length L'.length → m < n → ∃ e, o_names_l17 S t0 t1 n (Int32.ofNat T1) (Int32.ofNat T2) l5 (Int32.ofNat (min L.length L'.length)) (Int32.ofNat k) = some e ∧ e = namK (nms (L.drop k)) (nms (L'.drop k)) := by
  intro m
  induction m with
  | zero =>
    intro k n hk hn
    obtain ⟨n, rfl⟩ : ∃ j, n = j + 1 := ⟨n - 1, by omega⟩
    have hk' : k = min L.length L'.length := by omega
    refine ⟨i_cmp (Int32.ofNat L.length) (Int32.ofNat L'.length), ?_, ?_⟩
    · unfold o_names_l17
      rw [if_pos ((i_le' (by omega) (by omega)).mpr (by omega)), h5, i_subN (by omega) (by omega), i_subN (by omega) (by omega), Nat.add_sub_cancel_left, show T2 - T1 = L.length by omega]
    · exact namK_end hk' (by omega) (by omega)
  | succ m ih =>
    intro k n hk hn
    obtain ⟨n, rfl⟩ : ∃ j, n = j + 1 := ⟨n - 1, by omega⟩
    have k1 : k < L.length := by omega
    have k2 : k < L'.length := by omega
    obtain ⟨x, b, r, a1, a2, a3, a4, a5⟩ := g1 k k1
    obtain ⟨x', b', r', c1, c2, c3, c4, c5⟩ := g2 k k2
    obtain ⟨e, j1, j2⟩ := ih (k + 1) n (by omega) (by omega)
    have hd : namK (nms (L.drop k)) (nms (L'.drop k)) = if cmpS L[k].1 L'[k].1 = 0 then namK (nms (L.drop (k + 1))) (nms (L'.drop (k + 1))) else cmpS L[k].1 L'[k].1 := by
      rw [List.drop_eq_getElem_cons k1, List.drop_eq_getElem_cons k2]
      rfl
    have step : o_names_l17 S t0 t1 (n + 1) (Int32.ofNat T1) (Int32.ofNat T2) l5 (Int32.ofNat (min L.length L'.length)) (Int32.ofNat k) = if cmpS L[k].1 L'[k].1 = 0 then o_names_l17 S t0 t1 n (Int32.ofNat T1) (Int32.ofNat T2) l5 (Int32.ofNat (min L.length L'.length)) (Int32.ofNat (k + 1)) else some (cmpS L[k].1 L'[k].1) := by
      show (if Int32.ofNat (min L.length L'.length) ≤ Int32.ofNat k then _ else _) = _
      rw [if_neg (by rw [i_le' (by omega) (by omega)]; omega), ← Int32.ofNat_add, ← Int32.ofNat_add, iget_some a1 (by omega), o_bind, iget_some c1 (by omega), o_bind, ostr_val (by rw [ht0]; exact hu) (by rw [ht1]; exact hv) a3 c3 (by rw [ht0]; exact a2) (by rw [ht1]; exact c2), o_bind, i_a1]
    rw [step]
    by_cases hc : cmpS L[k].1 L'[k].1 = 0
    · rw [if_pos hc]
      exact ⟨e, j1, by rw [hd, if_pos hc]; exact j2⟩
    · rw [if_neg hc]
      exact ⟨_, rfl, by rw [hd, if_neg hc]⟩
theorem onames_val {S : SS} {t0 t1 T1 T2 T3 : Nat} {us vs : List Int32} {L L' : List Mb} (ht0 : tT S t0 = us) (ht1 : tT S t1 = vs) (hu : us.length ≤ 4096) (hv : vs.length ≤ 4096) (g1 : gth us (S 48) T1 L) (g2 : gth vs (S 48) T2 L') (h12 : T2 = T1 + L.length) (h23 : T3 = T2 + L'.length) (h3 : T3 ≤ 2048) : ∃ e, o_names S t0 t1 (Int32.ofNat T1) (Int32.ofNat T2) (Int32.ofNat T3) = some e ∧ e = namK (nms L) (nms L') := by
  obtain ⟨e, j1, j2⟩ := onames_l ht0 ht1 hu hv (by omega) (by omega) (by omega) g1 g2 h12 (l5 := Int32.ofNat T3) (by rw [h23]) (min L.length L'.length) 0 10000 (by omega) (by omega)
  refine ⟨e, ?_, j2⟩
  unfold o_names
  rw [← j1, i_subN (by omega) (by omega), i_subN (by omega) (by omega)]
  congr 1
  unfold imin
  rw [show T2 - T1 = L.length by omega, show T3 - T2 = L'.length by omega]
  by_cases h : L'.length < L.length
  · rw [if_pos ((i_lt' (by omega) (by omega)).mpr h), Nat.min_eq_right (by omega)]
  · rw [if_neg (by rw [i_lt' (by omega) (by omega)]; exact h), Nat.min_eq_left (by omega)]
/-- objects: the values in the order of names -/
theorem oobj_l {t0 t1 d T1 T2 top : Nat} {us vs : List Int32} {L L' : List Mb} {R : Vl → Vl → Int32} {rec : SS → Nat → Int32 → Nat → Int32 → Int32 → Option (SS × Int32)} (h0 : nCp t0) (h1 : nCp t1) (hLL : L.length = L'.length) (h12 : T2 = T1 + L.length) (h23 : top = T2 + L'.length) (h3 : top ≤ 2048) (hrec : ∀ m ∈ L, ∀ m' ∈ L', ∀ (S : SS) (p q : Nat), stCp S t0 t1 us vs top → vat us p m.2 → vat vs q m'.2 → ∃ S' e, rec S t0 (Int32.ofNat p) t1 (Int32.ofNat q) (Int32.ofNat (d + 1)) = some (S', e) ∧ e = R m.2 m'.2 ∧ frCp S S' top) : ∀ (m k n : Nat) (S : SS), k + m = L.length → m < n → stCp S t0 t1 us vs top → gth us (S 48) T1 L → gth vs (S 48) T2 L' → ∃ S' e, o_obj_l48 t0 t1 rec n S (Int32.ofNat d) (Int32.ofNat T1) (Int32.ofNat T2) 0 (Int32.ofNat k) = some (wr S' 47 1 (Int32.ofNat T1), e) ∧ e = arrK R (L.drop k) (L'.drop k) ∧ frCp S S' top := by
  intro m
  induction m with
  | zero =>
    intro k n S hk hn hS g1 g2
    obtain ⟨n, rfl⟩ : ∃ j, n = j + 1 := ⟨n - 1, by omega⟩
    refine ⟨S, 0, ?_, ?_, frCp.refl hS⟩
    · unfold o_obj_l48
      rw [i_subN (by omega) (by omega), if_pos ((i_le' (by omega) (by omega)).mpr (by omega))]
    · rw [List.drop_eq_nil_of_le (by omega), List.drop_eq_nil_of_le (by omega)]
      rfl
  | succ m ih =>
    intro k n S hk hn hS g1 g2
    obtain ⟨n, rfl⟩ : ∃ j, n = j + 1 := ⟨n - 1, by omega⟩
    have k1 : k < L.length := by omega
    have k2 : k < L'.length := by omega
    obtain ⟨x, b, r, a1, a2, a3, a4, a5⟩ := g1 k k1
    obtain ⟨x', b', r', c1, c2, c3, c4, c5⟩ := g2 k k2
    obtain ⟨S1, e, r1, r2, r3⟩ := hrec _ (List.getElem_mem k1) _ (List.getElem_mem k2) S b b' hS a5 c5
    have hS1 := hS.fr h0 h1 r3
    have step : o_obj_l48 t0 t1 rec (n + 1) S (Int32.ofNat d) (Int32.ofNat T1) (Int32.ofNat T2) 0 (Int32.ofNat k) = o_obj_l48 t0 t1 rec n S1 (Int32.ofNat d) (Int32.ofNat T1) (Int32.ofNat T2) e (Int32.ofNat (k + 1)) := by
      show (if (Int32.ofNat T2 - Int32.ofNat T1) ≤ Int32.ofNat k then _ else if (0 : Int32) = 0 then _ else _) = _
      rw [i_subN (by omega) (by omega), if_neg (by rw [i_le' (by omega) (by omega)]; omega), if_pos rfl, ← Int32.ofNat_add, ← Int32.ofNat_add, iget_some a1 (by omega), o_bind, hS.1, a4, o_bind, iget_some c1 (by omega), o_bind, hS.2.1, c4, o_bind, i_a1, r1, o_bind, i_a1]
    have hd : arrK R (L.drop k) (L'.drop k) = if R L[k].2 L'[k].2 = 0 then arrK R (L.drop (k + 1)) (L'.drop (k + 1)) else R L[k].2 L'[k].2 := by
      rw [List.drop_eq_getElem_cons k1, List.drop_eq_getElem_cons k2]
      rfl
    rw [step]
    by_cases he : e = 0
    · subst he
      obtain ⟨S2, e2, j1, j2, j3⟩ := ih (k + 1) n S1 (by omega) (by omega) hS1 (g1.move (by omega) r3.2.2.2.2) (g2.move (by omega) r3.2.2.2.2)
      exact ⟨S2, e2, j1, by rw [hd, ← r2, if_pos rfl]; exact j2, r3.trans j3⟩
    · refine ⟨S1, e, ?_, by rw [hd, ← r2, if_neg he], r3⟩
      obtain ⟨n, rfl⟩ : ∃ j, n = j + 1 := ⟨n - 1, by omega⟩
      unfold o_obj_l48
      by_cases hc : (Int32.ofNat T2 - Int32.ofNat T1) ≤ Int32.ofNat (k + 1)
      · rw [if_pos hc]
      · rw [if_neg hc, if_neg he]
theorem oobj_val {S : SS} {t0 t1 d top p q : Nat} {us vs : List Int32} {v v' : Int} {s s' : List Int32} {l l' : List Mb} {R : Vl → Vl → Int32} {rec : SS → Nat → Int32 → Nat → Int32 → Int32 → Option (SS × Int32)} (h0 : nCp t0) (h1 : nCp t1) (hS : stCp S t0 t1 us vs top) (hp : vat us p (6, v, s, ofL l)) (hq : vat vs q (6, v', s', ofL l')) (hT : top + l.length + l'.length ≤ 2048) (hrec : ∀ m ∈ l, ∀ m' ∈ l', ∀ (S : SS) (p q : Nat), stCp S t0 t1 us vs (top + l.length + l'.length) → vat us p m.2 → vat vs q m'.2 → ∃ S' e, rec S t0 (Int32.ofNat p) t1 (Int32.ofNat q) (Int32.ofNat (d + 1)) = some (S', e) ∧ e = R m.2 m'.2 ∧ frCp S S' (top + l.length + l'.length)) : ∃ S' e, o_obj S t0 t1 rec (Int32.ofNat p) (Int32.ofNat q) (Int32.ofNat d) = some (S', e) ∧ (e = if namK (nms (srt l)) (nms (srt l')) = 0 then arrK R (srt l) (srt l') else namK (nms (srt l)) (nms (srt l'))) ∧ frCp S S' top := by
  obtain ⟨a1, a2, a3, a4, a5⟩ := id hS
  obtain ⟨S1, b1, b2, b3, b4, b5, b6, b7⟩ := gather_gth h0 hp (by omega) a1 a5 a3 a4
  have t1' : tT S1 t1 = vs := by unfold tT at *; rw [b2 _ h1.2 h1.1]; exact a2
  have t0' : tT S1 t0 = us := by unfold tT at *; rw [b2 _ h0.2 h0.1]; exact a1
  obtain ⟨S2, c1, c2, c3, c4, c5, c6, c7⟩ := gather_gth h1 hq hT t1' b5 b3 b4
  have t1'' : tT S2 t1 = vs := by unfold tT at *; rw [c2 _ h1.2 h1.1]; exact t1'
  have t0'' : tT S2 t0 = us := by unfold tT at *; rw [c2 _ h0.2 h0.1]; exact t0'
  have g1 : gth us (S2 48) top (srt l) := b7.move (by rw [srt_len]; exact Nat.le_refl _) c6
  have hS2 : stCp S2 t0 t1 us vs (top + l.length + l'.length) := ⟨t0'', t1'', c3, c4, c5⟩
  obtain ⟨e, e1, e2⟩ := onames_val t0'' t1'' hp.1 hq.1 g1 c7 (by rw [srt_len]) (T3 := top + l.length + l'.length) (by rw [srt_len]) hT
  have tk : ∀ A B : List Int32, A.take (top + l.length) = B.take (top + l.length) → A.take top = B.take top := fun A B h => by
    have := congrArg (List.take top) h
    rw [List.take_take, List.take_take, Nat.min_eq_left (by omega)] at this
    exact this
  have fr : ∀ S3, frCp S2 S3 (top + l.length + l'.length) → frCp S (wr S3 47 1 (Int32.ofNat top)) top := by
    intro S3 hf
    refine ⟨fun a n1 n2 => by rw [wr_ne n1, hf.1 a n1 n2, c2 a n1 n2, b2 a n1 n2], by rw [wr_len]; exact hf.2.1, rd_wr (by rw [hf.2.1]; decide), by rw [wr_ne (by decide)]; exact hf.2.2.2.1, ?_⟩
    rw [wr_ne (by decide)]
    refine Eq.trans ?_ ((tk _ _ c6).trans b6)
    have := congrArg (List.take top) hf.2.2.2.2
    rw [List.take_take, List.take_take, Nat.min_eq_left (by omega)] at this
    exact this
  have eo : o_obj S t0 t1 rec (Int32.ofNat p) (Int32.ofNat q) (Int32.ofNat d) = o_obj_l48 t0 t1 rec 10000 S2 (Int32.ofNat d) (Int32.ofNat top) (Int32.ofNat (top + l.length)) e 0 := by
    unfold o_obj
    rw [b1, o_bind, c1, o_bind, a4, b4, c4, e1, o_bind]
  rw [eo]
  by_cases he : e = 0
  · have hn : namK (nms (srt l)) (nms (srt l')) = 0 := by rw [← e2]; exact he
    have hll : (srt l).length = (srt l').length := by
      have := congrArg List.length (namK_0 hn)
      unfold nms at this
      rw [List.length_map, List.length_map] at this
      exact this
    subst he
    obtain ⟨S3, e3, j1, j2, j3⟩ := oobj_l (T1 := top) (T2 := top + l.length) (R := R) (rec := rec) (d := d) h0 h1 hll (by rw [srt_len]) (by rw [srt_len]) hT (fun m hm m' hm' => hrec m ((srt_perm l).mem_iff.mp hm) m' ((srt_perm l').mem_iff.mp hm')) (srt l).length 0 10000 S2 (by omega) (by rw [srt_len]; omega) hS2 g1 c7
    exact ⟨_, e3, j1, by rw [if_pos hn]; exact j2, fr _ j3⟩
  · refine ⟨wr S2 47 1 (Int32.ofNat top), e, ?_, by rw [← e2, if_neg he], fr _ (frCp.refl hS2)⟩
    unfold o_obj_l48
    by_cases hc : (Int32.ofNat (top + l.length) - Int32.ofNat top) ≤ (0 : Int32)
    · rw [if_pos hc]
    · rw [if_neg hc, if_neg he]
/-- the class compares values -/
theorem ocmp_val : ∀ (n N : Nat), n ≤ N → ∀ (S : SS) (t0 t1 p q d top : Nat) (us vs : List Int32) (t u : Vl), nCp t0 → nCp t1 → stCp S t0 t1 us vs top → vat us p t → vat vs q u → dV t < n → d + dV t ≤ 60 → 5 * top + (bV t).length + (bV u).length ≤ 8192 → ∃ S' e, o_cmp N S t0 (Int32.ofNat p) t1 (Int32.ofNat q) (Int32.ofNat d) = some (S', e) ∧ e = cmpK n t u ∧ frCp S S' top := by
  intro n
  induction n with
  | zero => intro N _ S t0 t1 p q d top us vs t u _ _ _ _ _ h; omega
  | succ n ih =>
    intro N hN S t0 t1 p q d top us vs t u h0 h1 hS hp hq hd hd60 hroom
    obtain ⟨N, rfl⟩ : ∃ j, N = j + 1 := ⟨N - 1, by omega⟩
    have k6 := hp.2.2.1.1
    have k6' := hq.2.2.1.1
    show ∃ S' e, o_cmpB S t0 t1 (o_cmp N) (Int32.ofNat p) (Int32.ofNat q) (Int32.ofNat d) = some (S', e) ∧ _ ∧ _
    unfold o_cmpB
    rw [hS.1, hS.2.1, hp.kind, o_bind, hq.kind, o_bind]
    by_cases hk : t.1 = u.1
    · rw [if_pos (by rw [hk]), if_pos (by rw [show (60 : Int32) = Int32.ofNat 60 from rfl, i_le' (by omega) (by omega)]; omega)]
      obtain ⟨k, v, s, f⟩ := t
      obtain ⟨k', v', s', f'⟩ := u
      obtain ⟨l, rfl⟩ : ∃ l, f = ofL l := ⟨toL f, (ofL_toL f).symm⟩
      obtain ⟨l', rfl⟩ : ∃ l, f' = ofL l := ⟨toL f', (ofL_toL f').symm⟩
      simp only at hk k6 k6'
      subst hk
      show ∃ S' e, (if Int32.ofNat k = (3 : Int32) then _ else if Int32.ofNat k = (4 : Int32) then _ else if Int32.ofNat k = (5 : Int32) then _ else if Int32.ofNat k = (6 : Int32) then _ else _) = some (S', e) ∧ _ ∧ _
      have ek : ∀ j, j < 10 → (Int32.ofNat k = Int32.ofNat j ↔ k = j) := fun j hj => i_inj (by omega) (by omega)
      have es : cmpK (n + 1) (k, v, s, ofL l) (k, v', s', ofL l') = (if k = 3 then l_cmp (Int64.ofInt v) (Int64.ofInt v') else if k = 4 then cmpS s s' else if k = 5 then arrK (cmpK n) l l' else if k = 6 then (if namK (nms (srt l)) (nms (srt l')) = 0 then arrK (cmpK n) (srt l) (srt l') else namK (nms (srt l)) (nms (srt l'))) else 0) := by
        show (if k = k then _ else _) = _
        rw [if_pos rfl]
        simp only [toL_ofL]
      by_cases e3 : k = 3
      · subst e3
        rw [if_pos (show Int32.ofNat 3 = 3 from rfl), hp.number, o_bind, hq.number, o_bind]
        refine ⟨S, _, rfl, ?_, frCp.refl hS⟩
        rw [es, if_pos rfl]
      rw [if_neg (show ¬ Int32.ofNat k = 3 from fun c => e3 ((ek 3 (by omega)).mp c))]
      by_cases e4 : k = 4
      · subst e4
        obtain ⟨r, d1, -⟩ := hp.2.2.2
        obtain ⟨r', d2, -⟩ := hq.2.2.2
        rw [if_pos (show Int32.ofNat 4 = 4 from rfl), ostr_val (s := s) (s' := s') (r := r) (r' := r') (by rw [hS.1]; exact hp.1) (by rw [hS.2.1]; exact hq.1) hp.2.2.1.2.2.1 hq.2.2.1.2.2.1 (by rw [hS.1]; exact d1) (by rw [hS.2.1]; exact d2), o_bind]
        refine ⟨S, _, rfl, ?_, frCp.refl hS⟩
        rw [es, if_neg (by decide), if_pos rfl]
      rw [if_neg (show ¬ Int32.ofNat k = 4 from fun c => e4 ((ek 4 (by omega)).mp c))]
      by_cases e5 : k = 5
      · subst e5
        obtain ⟨r, d1, -⟩ := hp.2.2.2
        obtain ⟨r', d2, -⟩ := hq.2.2.2
        have b1 := box_in (Or.inl rfl) d1
        have b2 := box_in (Or.inl rfl) d2
        have il := (hp.items (Or.inl rfl)).2
        obtain ⟨S', e, j1, j2, j3⟩ := oarr_l (R := cmpK n) (rec := o_cmp N) (d := d) h0 h1 hp.1 hq.1 hp.2.1 hq.2.1 (z := 93) (z' := 93) (Or.inl rfl) (Or.inl rfl) l l' 10000 0 (p + 1) (q + 1) S hp.2.2.1.kids hq.2.2.1.kids (fun _ => b1) (fun _ => b2) (by omega) (by omega) hS (fun m hm m' hm' S p q hS hp' hq' => by
          have x1 := dV_kid (k := 5) (v := v) (s := s) (Or.inl rfl) hm
          have x2 := bV_kid (k := 5) (v := v) (s := s) (Or.inl rfl) hm
          have x3 := bV_kid (k := 5) (v := v') (s := s') (Or.inl rfl) hm'
          exact ih N (by omega) S t0 t1 p q (d + 1) top us vs m.2 m'.2 h0 h1 hS hp' hq' (by omega) (by omega) (by omega))
        refine ⟨S', e, ?_, ?_, j3⟩
        · rw [if_pos (show Int32.ofNat 5 = 5 from rfl)]
          unfold o_arr
          rw [hS.1, hS.2.1, hp.first (Or.inl rfl), o_bind, hq.first (Or.inl rfl), o_bind, show (0 : Int32) = Int32.ofNat 0 from rfl, j1, o_bind]
        · rw [es, if_neg (by decide), if_neg (by decide), if_pos rfl]
          exact j2
      rw [if_neg (show ¬ Int32.ofNat k = 5 from fun c => e5 ((ek 5 (by omega)).mp c))]
      by_cases e6 : k = 6
      · subst e6
        have r1 := bV_room (v := v) (s := s) (l := l)
        have r2 := bV_room (v := v') (s := s') (l := l')
        obtain ⟨S', e, j1, j2, j3⟩ := oobj_val (R := cmpK n) (rec := o_cmp N) (d := d) h0 h1 hS hp hq (by omega) (fun m hm m' hm' S p q hS hp' hq' => by
          have x1 := dV_kid (k := 6) (v := v) (s := s) (Or.inr rfl) hm
          have x2 := bV_kid (k := 6) (v := v) (s := s) (Or.inr rfl) hm
          have x3 := bV_kid (k := 6) (v := v') (s := s') (Or.inr rfl) hm'
          rw [if_pos rfl] at x2 x3
          exact ih N (by omega) S t0 t1 p q (d + 1) (top + l.length + l'.length) us vs m.2 m'.2 h0 h1 hS hp' hq' (by omega) (by omega) (by omega))
        refine ⟨S', e, ?_, ?_, j3⟩
        · rw [if_pos (show Int32.ofNat 6 = 6 from rfl), j1, o_bind]
        · rw [es, if_neg (by decide), if_neg (by decide), if_neg (by decide), if_pos rfl]
          exact j2
      rw [if_neg (show ¬ Int32.ofNat k = 6 from fun c => e6 ((ek 6 (by omega)).mp c))]
      refine ⟨S, 0, rfl, ?_, frCp.refl hS⟩
      rw [es, if_neg e3, if_neg e4, if_neg e5, if_neg e6]
    · rw [if_neg (by rw [i_inj (by omega) (by omega)]; exact hk)]
      refine ⟨S, _, rfl, ?_, frCp.refl hS⟩
      rw [i_cmp_of (by omega) (by omega), if_neg hk]
      show _ = (if t.1 = u.1 then _ else if u.1 ≤ t.1 then 1 else -1)
      rw [if_neg hk]
end Same151
end
