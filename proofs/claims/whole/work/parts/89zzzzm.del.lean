/-! The call del: both sides. -/
section Del179
/-- how a call ends that found too much -/
theorem fin_limit {S S3 T2 : SS} {ts : Nat → Vl} {dr : Nat} {ra : List Nat} {tape res : List Int32} {n0 : Nat} {bc : SS → Option SS} {c2 c3 : Int32} (i1 : InvL S) (i2 : InvB S) (i3 : InvT S tape) (i4 : InvP S res) (i5 : InvG S ts dr ra) (f3 : ∀ a, a ∉ cSc → a ≠ dr → S3 a = S a) (lc : lenC S3) (w1 : bc S3 = ((b_finish T2 (Int32.ofNat n0) c2 c3).bind fun r => some r)) (w2 : ∀ a, a ∉ rSc → T2 a = S3 a) (w3 : ∀ k, k = 1 ∨ k = 3 ∨ k = 4 → rd T2 78 k = rd S 78 k) (w5 : rd T2 78 12 = 0) (w6 : (T2 78).length = 22) (w7 : (T2 91).length = 9000) (h2 : rd T2 90 2 = 1) (w8 : lenR T2) : ∃ W, S3 0 = S 0 ∧ bc S3 = some W ∧ rd W 78 0 = c3 ∧ W 0 = S 0 ∧ Inv W := by
  obtain ⟨g1, g2, g3, g4, g5⟩ := id i5
  have hdn : dr ∈ nine := g3.mem_iff.mp List.mem_cons_self
  have n9 : ∀ a, a ∉ nine → a ≠ dr := fun a ha e => ha (e ▸ hdn)
  have dd : ∀ a ∈ nine, a ∉ cSc ∧ a ∉ rSc ∧ a ≠ 41 ∧ a ≠ 46 ∧ a ≠ 80 ∧ a ≠ 94 ∧ a ≠ 78 ∧ a < 82 := by decide
  have d8 : ∀ r, r < 8 → 82 + r ∉ cSc ∧ 82 + r ∉ rSc ∧ 82 + r ∉ nine ∧ 82 + r ≠ 41 ∧ 82 + r ≠ 46 ∧ 82 + r ≠ 80 ∧ 82 + r ≠ 94 ∧ 82 + r ≠ 78 := by decide
  obtain ⟨w8, w10, w11, w12, w13⟩ := w8
  have fv : ∃ W, b_finish T2 (Int32.ofNat n0) c2 c3 = some W ∧ (∀ a, a ≠ 80 → a ≠ 94 → a ≠ 78 → W a = T2 a) ∧ (W 80).length = 9000 ∧ rd W 78 0 = c3 ∧ ∀ k, k ≠ 0 → rd W 78 k = rd T2 78 k := by
    refine ⟨wr T2 78 0 c3, ?_, fun a _ _ h => wr_ne h, by rw [wr_ne (by decide)]; exact w8, rd_wr (by rw [w6]; decide), fun k hk => rd_wr_j (fun e => hk e.symm)⟩
    unfold b_finish b_fits
    rw [w5, if_pos (by decide), h2, if_neg (by decide), o_bind, if_pos rfl]
  obtain ⟨W, z1, z2, z3, z4, z5⟩ := fv
  have Wf : ∀ a, a ∉ rSc → W a = S3 a := fun a x1 => by
    have h80 : a ≠ 80 := fun e => x1 (e ▸ by decide)
    have h94 : a ≠ 94 := fun e => x1 (e ▸ by decide)
    have h78 : a ≠ 78 := fun e => x1 (e ▸ by decide)
    rw [z2 a h80 h94 h78, w2 a x1]
  have WS : ∀ a, a ∉ rSc → a ∉ cSc → a ≠ dr → W a = S a := fun a x1 x2 x3 => (Wf a x1).trans (f3 a x2 x3)
  have W41 : ∀ k, rd W 41 k = rd S 41 k := fun k => by unfold rd; rw [WS 41 (by decide) (by decide) (n9 41 (by decide))]
  have W78 : ∀ k, k = 1 ∨ k = 3 ∨ k = 4 → rd W 78 k = rd S 78 k := fun k hk => by rw [z5 k (by omega), w3 k hk]
  refine ⟨W, f3 0 (by decide) (n9 0 (by decide)), by rw [w1, z1, o_bind], z4, WS 0 (by decide) (by decide) (n9 0 (by decide)), ?_⟩
  have K : ∀ a, a ∈ [39, 40, 42, 79, 44, 92, 46] → W a = S a := fun a ha => by
    have d : ∀ a ∈ [39, 40, 42, 79, 44, 92, 46], a ∉ rSc ∧ a ∉ cSc ∧ a ∉ nine := by decide
    obtain ⟨x1, x2, x3⟩ := d a ha
    exact WS a x1 x2 (n9 a x3)
  have K3 : ∀ a, a ∈ [47, 48, 71, 74, 76, 77] → W a = S3 a := fun a ha => by
    have d : ∀ a ∈ [47, 48, 71, 74, 76, 77], a ∉ rSc := by decide
    exact Wf a (d a ha)
  have K2 : ∀ a, a ∈ [97, 98, 99, 100, 91] → W a = T2 a := fun a ha => by
    have d : ∀ a ∈ [97, 98, 99, 100, 91], a ≠ 80 ∧ a ≠ 94 ∧ a ≠ 78 := by decide
    obtain ⟨x1, x2, x3⟩ := d a ha
    exact z2 a x1 x2 x3
  obtain ⟨y1, y2, y3, y4, y5, y6⟩ := lc
  exact finA i3 i4 i5 ⟨by unfold rd; rw [K3 47 (by decide)]; exact y1, by rw [K3 48 (by decide)]; exact y2, by rw [K3 71 (by decide)]; exact y3, by rw [K3 74 (by decide)]; exact y4, by rw [K3 76 (by decide)]; exact y5, by rw [K3 77 (by decide)]; exact y6, z3, by rw [K2 91 (by decide)]; exact w7, by rw [K2 97 (by decide)]; exact w10, by rw [K2 98 (by decide)]; exact w11, by rw [K2 99 (by decide)]; exact w12, by rw [K2 100 (by decide)]; exact w13, (K 39 (by decide)).trans i1.2.2.2.2.2.2.2.2.2.2.2.2.1, (K 40 (by decide)).trans i1.2.2.2.2.2.2.2.2.2.2.2.2.2⟩ ⟨by rw [W78 3 (by omega), W41]; exact i2.1, by rw [W78 4 (by omega), W41]; exact i2.2⟩ (K 42 (by decide)) (K 79 (by decide)) (W78 1 (by omega)) (K 44 (by decide)) (K 92 (by decide)) (K 46 (by decide)) (W41 9) (fun a ha hne => WS a (dd a ha).2.1 (dd a ha).1 hne) (fun r hr => WS _ (d8 r hr).2.1 (d8 r hr).1 (n9 _ (d8 r hr).2.2.1))
/-- both orders cut the same -/
theorem ord_same {es : List Mb} {Q R : List Nat} {t : Vl} (hok : okE es) (hw : okL es) (hQ : Q.Perm (List.range es.length)) (hR : R.Perm (List.range es.length)) (sQ : srtN (fun j => key 61 (es.getD j nulM).2) Q es.length) (sR : dscE es R) : cutL (Q.reverse.map (stO es)) t = cutL (R.map (stO es)) t := by
  have hQl : Q.length = es.length := by rw [hQ.length_eq, List.length_range]
  have pQ : (Q.reverse.map (fun j => key 61 (es.getD j nulM).2)).Pairwise (fun a b => ¬ ltS a b) := by
    rw [List.pairwise_map, List.pairwise_reverse, List.pairwise_iff_getElem]
    intro i j hi hj hij
    exact sQ i j hi hj hij (by omega)
  have pR : (R.map (fun j => key 61 (es.getD j nulM).2)).Pairwise (fun a b => ¬ ltS a b) := by
    rw [List.pairwise_map]
    exact sR
  have pm : (Q.reverse.map (fun j => key 61 (es.getD j nulM).2)).Perm (R.map (fun j => key 61 (es.getD j nulM).2)) := ((List.reverse_perm Q).trans (hQ.trans hR.symm)).map _
  have ek : Q.reverse.map (fun j => key 61 (es.getD j nulM).2) = R.map (fun j => key 61 (es.getD j nulM).2) := by
    refine List.Perm.eq_of_pairwise (le := fun a b => ¬ ltS a b) ?_ pQ pR pm
    intro a b _ _ h1 h2
    rcases ltS_tri a b with c | c | c
    · exact absurd c h1
    · exact c
    · exact absurd c h2
  have mem : ∀ (L : List Nat), L.Perm (List.range es.length) → ∀ a ∈ L.map (fun j => (es.getD j nulM).2), wV a ∧ a.1 = 5 := by
    intro L hL a ha
    obtain ⟨j, hj, rfl⟩ := List.mem_map.mp ha
    have hjl : j < es.length := List.mem_range.mp (hL.mem_iff.mp hj)
    rw [getD_in _ hjl]
    exact ⟨(hw _ (List.getElem_mem hjl)).2, (hok _ (List.getElem_mem hjl)).1⟩
  have := cutL_same (n := 58) (Q.reverse.map (fun j => (es.getD j nulM).2)) (R.map (fun j => (es.getD j nulM).2)) t (mem _ ((List.reverse_perm Q).trans hQ)) (fun b hb => (mem _ hR b hb).1) (by rw [List.map_map, List.map_map]; exact ek)
  rw [List.map_map, List.map_map] at this
  exact this
/-- del -/
theorem op6 : stp6 Inv := by
  intro S p0 p1 p2 hcs hI
  obtain ⟨l78, l41, l90, -⟩ := cs.l78 hcs
  obtain ⟨i1, i2, ⟨tape, i3⟩, ⟨res, i4⟩, ts, dr, ra, i5⟩ := id hI
  obtain ⟨g1, g2, g3, g4, g5⟩ := id i5
  have l91 : (S 91).length = 9000 := i1.2.2.2.2.2.2.2.1
  have h39 : S 39 = mp_aS := i1.2.2.2.2.2.2.2.2.2.2.2.2.1
  have h40 : S 40 = mp_aE := i1.2.2.2.2.2.2.2.2.2.2.2.2.2
  have bad : a_del S p0 p1 p2 = some (S, 2) → (∀ S1, b_begin S = some S1 → b_del S p0 p1 p2 = some (wr S1 78 0 1)) → ∃ (c : SS × Int32) (w : SS), h_del S p0 p1 p2 = some c ∧ c.1 0 = S 0 ∧ b_del c.1 p0 p1 p2 = some w ∧ rd w 78 0 = c.2 ∧ w 0 = S 0 ∧ Inv w := by
    intro e1 e2
    obtain ⟨S1, b1, b2, b3, b4, b5, b6, b7⟩ := begin_val l78 l90 l91
    obtain ⟨z1, z2, z3⟩ := bad_begin hI b6 b2 b3
    refine ⟨(S, 1), wr S1 78 0 1, ?_, rfl, e2 S1 b1, z1, z2, z3⟩
    unfold h_del
    rw [e1, o_bind, if_neg (show ¬ (2 : Nat) = 0 by decide), if_pos rfl]
  by_cases h0 : ¬ p0 < 0 ∧ p0 < 8
  rotate_left
  · refine bad ?_ fun S1 b1 => ?_
    · unfold a_del; rw [(reg_bad S h0).1, o_bind, if_neg (show ¬ (2 : Nat) = 0 by decide)]
    · unfold b_del; rw [b1, o_bind, (reg_bad S1 h0).2, o_bind, if_neg (by decide)]
  by_cases h1 : ¬ p1 < 0 ∧ p1 < 8
  rotate_left
  · refine bad ?_ fun S1 b1 => ?_
    · unfold a_del; rw [(reg_ok S h0).1, o_bind, if_pos rfl, (reg_bad S h1).1, o_bind, if_neg (show ¬ (2 : Nat) = 0 by decide)]
    · unfold b_del; rw [b1, o_bind, (reg_ok S1 h0).2.1, o_bind, if_pos rfl, (reg_bad S1 h1).2, o_bind, if_neg (by decide)]
  by_cases h2 : ¬ p2 < 0 ∧ p2 < 8
  rotate_left
  · refine bad ?_ fun S1 b1 => ?_
    · unfold a_del; rw [(reg_ok S h0).1, o_bind, if_pos rfl, (reg_ok S h1).1, o_bind, if_pos rfl, (reg_bad S h2).1, o_bind, if_neg (show ¬ (2 : Nat) = 0 by decide)]
    · unfold b_del; rw [b1, o_bind, (reg_ok S1 h0).2.1, o_bind, if_pos rfl, (reg_ok S1 h1).2.1, o_bind, if_pos rfl, (reg_bad S1 h2).2, o_bind, if_neg (by decide)]
  obtain ⟨a0, -, n0, hn0, rfl⟩ := reg_ok S h0
  obtain ⟨a1, -, n1, hn1, rfl⟩ := reg_ok S h1
  obtain ⟨a2, -, n2, hn2, rfl⟩ := reg_ok S h2
  have hdn : dr ∈ nine := g3.mem_iff.mp List.mem_cons_self
  have n9 : ∀ a, a ∉ nine → a ≠ dr := fun a ha e => ha (e ▸ hdn)
  obtain ⟨v1, k1⟩ := reg_vat (g5 n1 hn1)
  obtain ⟨v2, k2⟩ := reg_vat (g5 n2 hn2)
  obtain ⟨u1, u2, u3⟩ := adel_val hcs i1 i5 hn0 hn1 hn2
  have d8 : ∀ r, r < 8 → 82 + r ∉ cSc ∧ 82 + r ∉ nine ∧ 82 + r ≠ 41 ∧ 82 + r ≠ 46 := by decide
  obtain ⟨es, hes⟩ : ∃ es, es = toL (ts n2).2.2.2 := ⟨_, rfl⟩
  rw [← hes] at u1 u2 u3
  have refT : ∀ T0 : SS, (∀ a, a ≠ 41 → a ≠ 46 → a ∉ cSc → a ∉ nine → T0 a = S a) → ∃ T2, b_del T0 (Int32.ofNat n0) (Int32.ofNat n1) (Int32.ofNat n2) = ((b_finish T2 (Int32.ofNat n0) 2 3).bind fun r => some r) ∧ (∀ a, a ∉ rSc → T2 a = T0 a) ∧ (∀ k, k = 1 ∨ k = 3 ∨ k = 4 → rd T2 78 k = rd S 78 k) ∧ rd T2 78 0 = 0 ∧ (T2 78).length = 22 ∧ (T2 91).length = 9000 ∧ lenR T2 ∧ (¬ ((ts n2).1 = 5 ∧ okE es) → ¬ rd T2 78 12 ≤ 0) ∧ ((ts n2).1 = 5 ∧ okE es → ¬ (es.length ≤ 100 ∧ smL es ≤ 100) → rd T2 78 12 = 0 ∧ rd T2 90 2 = 1) ∧ ((ts n2).1 = 5 ∧ okE es → es.length ≤ 100 ∧ smL es ≤ 100 → ∃ R : List Nat, R.Perm (List.range es.length) ∧ dscE es R ∧ (∀ T, cutL (R.map (stO es)) (ts n1) = some T → rd T2 78 12 = 0 ∧ wV T ∧ OutV T2 (cV T)) ∧ (cutL (R.map (stO es)) (ts n1) = none → ¬ rd T2 78 12 ≤ 0)) := by
    intro T0 hT0
    have e82 : ∀ n, n < 8 → T0 (82 + n) = S (82 + n) := fun n hn => by
      obtain ⟨x1, x2, x3, x4⟩ := d8 n hn
      exact hT0 _ x3 x4 x1 x2
    have e78 : T0 78 = S 78 := hT0 78 (by decide) (by decide) (by decide) (by decide)
    obtain ⟨y1, y2, y3, y4, y5⟩ := i1.lenR
    obtain ⟨T2, w1, w2, w3, w4, w5, w6, w7, w8, w9, w10, w11⟩ := bdel_val (T0 := T0) (n0 := n0) (n1 := n1) (n2 := n2) (t := ts n1) (pt := ts n2) (by rw [e78]; exact l78) (by rw [hT0 90 (by decide) (by decide) (by decide) (by decide)]; exact l90) (by rw [hT0 91 (by decide) (by decide) (by decide) (by decide)]; exact l91) (by rw [hT0 97 (by decide) (by decide) (by decide) (by decide)]; exact y2) (by rw [hT0 98 (by decide) (by decide) (by decide) (by decide)]; exact y3) (by rw [hT0 39 (by decide) (by decide) (by decide) (by decide)]; exact h39) (by rw [hT0 40 (by decide) (by decide) (by decide) (by decide)]; exact h40) hn0 hn1 hn2 (by rw [e82 n1 hn1]; exact k1) (by rw [e82 n2 hn2]; exact k2) (g5 n1 hn1).2.2.2.1 (g5 n2 hn2).2.2.2.1
    rw [← hes] at w9 w10 w11
    have er : ∀ a, a ∈ [80, 99, 100] → T2 a = S a := fun a ha => by
      have d : ∀ a ∈ [80, 99, 100], a ≠ 78 ∧ a ≠ 90 ∧ a ≠ 91 ∧ a ≠ 97 ∧ a ≠ 98 ∧ a ≠ 41 ∧ a ≠ 46 ∧ a ∉ cSc ∧ a ∉ nine := by decide
      obtain ⟨x1, x2, x3, x4, x5, x6, x7, x8, x9⟩ := d a ha
      rw [w2 a x1 x2 x3 x4 x5, hT0 a x6 x7 x8 x9]
    exact ⟨T2, w1, fun a ha => w2 a (fun e => ha (e ▸ by decide)) (fun e => ha (e ▸ by decide)) (fun e => ha (e ▸ by decide)) (fun e => ha (e ▸ by decide)) (fun e => ha (e ▸ by decide)), fun k hk => by rw [w3 k hk]; unfold rd; rw [e78], w4, w5, w6, ⟨by rw [er 80 (by decide)]; exact y1, w7, w8, by rw [er 99 (by decide)]; exact y4, by rw [er 100 (by decide)]; exact y5⟩, w9, w10, w11⟩
  have refused : ∀ S' e, a_del S (Int32.ofNat n0) (Int32.ofNat n1) (Int32.ofNat n2) = some (wr S' 41 11 e, 4) → frD S S' dr → (∀ T0 : SS, (∀ a, a ≠ 41 → a ≠ 46 → a ∉ cSc → a ∉ nine → T0 a = S a) → ∃ T2, b_del T0 (Int32.ofNat n0) (Int32.ofNat n1) (Int32.ofNat n2) = ((b_finish T2 (Int32.ofNat n0) 2 3).bind fun r => some r) ∧ (∀ a, a ∉ rSc → T2 a = T0 a) ∧ (∀ k, k = 1 ∨ k = 3 ∨ k = 4 → rd T2 78 k = rd S 78 k) ∧ (T2 78).length = 22 ∧ (T2 91).length = 9000 ∧ lenR T2 ∧ ¬ rd T2 78 12 ≤ 0) → ∃ (c : SS × Int32) (w : SS), h_del S (Int32.ofNat n0) (Int32.ofNat n1) (Int32.ofNat n2) = some c ∧ c.1 0 = S 0 ∧ b_del c.1 (Int32.ofNat n0) (Int32.ofNat n1) (Int32.ofNat n2) = some w ∧ rd w 78 0 = c.2 ∧ w 0 = S 0 ∧ Inv w := by
    intro S3 e hA hF hT
    obtain ⟨Sc, hSc⟩ : ∃ Sc, Sc = wr S3 41 11 e := ⟨_, rfl⟩
    have hT0 : ∀ a, a ≠ 41 → a ≠ 46 → a ∉ cSc → a ∉ nine → Sc a = S a := fun a x1 _ x3 x4 => by rw [hSc, wr_ne x1, hF.1 a x3 (n9 a x4)]
    obtain ⟨T2, w1, w2, w3, w4, w5, w6, w7⟩ := hT Sc hT0
    have e41 : S3 41 = S 41 := hF.1 41 (by decide) (n9 41 (by decide))
    have lcS : lenC Sc := by
      obtain ⟨y1, y2, y3, y4, y5, y6⟩ := hF.2
      exact ⟨by rw [hSc, rd_wr_ne (by decide)]; exact y1, by rw [hSc, wr_ne (by decide)]; exact y2, by rw [hSc, wr_ne (by decide)]; exact y3, by rw [hSc, wr_ne (by decide)]; exact y4, by rw [hSc, wr_ne (by decide)]; exact y5, by rw [hSc, wr_ne (by decide)]; exact y6⟩
    obtain ⟨W, z1, z2, z3, z4, z5⟩ := fin_refused (S := S) (Sc := Sc) (bc := fun T => b_del T (Int32.ofNat n0) (Int32.ofNat n1) (Int32.ofNat n2)) (T2 := T2) i1 i2 i3 i4 i5 (fun a x1 x2 x3 => by rw [hSc, wr_ne x3, hF.1 a x1 x2]) (fun k hk => by rw [hSc, rd_wr_j (fun c => hk c.symm)]; unfold rd; rw [e41]) lcS w1 w2 (fun k hk => w3 k (by omega)) w7 w4 w5 w6
    refine ⟨(Sc, 2), W, ?_, z1, z2, z3, z4, z5⟩
    unfold h_del
    rw [hA, o_bind, if_neg (show ¬ (4 : Nat) = 0 by decide), if_neg (show ¬ (4 : Nat) = 2 by decide), if_pos rfl, hSc]
  by_cases hok : (ts n2).1 = 5 ∧ okE es
  rotate_left
  · obtain ⟨S', e, q1, q2⟩ := u1 hok
    refine refused S' e q1 q2 (fun T0 hT0 => ?_)
    obtain ⟨T2, w1, w2, w3, w4, w5, w6, w7, w8, w9, w10⟩ := refT T0 hT0
    exact ⟨T2, w1, w2, w3, w5, w6, w7, w8 hok⟩
  by_cases hfew : es.length ≤ 100 ∧ smL es ≤ 100
  rotate_left
  · obtain ⟨S', q1, q2⟩ := u2 hok hfew
    obtain ⟨T2, w1, w2, w3, w4, w5, w6, w7, w8, w9, w10⟩ := refT S' (fun a _ _ x3 x4 => q2.1 a x3 (n9 a x4))
    obtain ⟨y1, y2⟩ := w9 hok hfew
    obtain ⟨W, z1, z2, z3, z4, z5⟩ := fin_limit (bc := fun T => b_del T (Int32.ofNat n0) (Int32.ofNat n1) (Int32.ofNat n2)) i1 i2 i3 i4 i5 q2.1 q2.2 w1 w2 w3 y1 w5 w6 y2 w7
    refine ⟨(S', 3), W, ?_, z1, z2, z3, z4, z5⟩
    unfold h_del
    rw [q1, o_bind, if_neg (show ¬ (1 : Nat) = 0 by decide), if_neg (show ¬ (1 : Nat) = 2 by decide), if_neg (show ¬ (1 : Nat) = 4 by decide), if_pos rfl]
  obtain ⟨Q, q1, q2, q3, q4⟩ := u3 hok hfew
  have hw : okL es := by
    have := (g5 n2 hn2).2.2.1
    rw [vl5 hok.1, ← hes] at this
    exact this.kids
  cases hcl : cutL (Q.reverse.map (stO es)) (ts n1) with
  | none =>
    obtain ⟨S', e, r1, r2⟩ := q4 hcl
    refine refused S' e r1 r2 (fun T0 hT0 => ?_)
    obtain ⟨T2, w1, w2, w3, w4, w5, w6, w7, w8, w9, w10⟩ := refT T0 hT0
    obtain ⟨R, x1, x2, x3, x4⟩ := w10 hok hfew
    exact ⟨T2, w1, w2, w3, w5, w6, w7, x4 (by rw [← ord_same hok.2 hw q1 x1 q2 x2]; exact hcl)⟩
  | some T =>
    obtain ⟨S3, r1, r2, r3, r4, r5⟩ := q3 T hcl
    rcases fin_call2 (bc := fun T => b_del T (Int32.ofNat n0) (Int32.ofNat n1) (Int32.ofNat n2)) (c2 := 2) (c3 := 3) (B := bV T) l41 i1 i2 i3 i4 i5 hn0 r3 r2.1 r2.2 (by rw [r5, pv_fit r4]) (fun _ => rfl) (fun c => c) (fun T0 hT0 => by
      obtain ⟨T2, w1, w2, w3, w4, w5, w6, w7, w8, w9, w10⟩ := refT T0 hT0
      obtain ⟨R, x1, x2, x3, x4⟩ := w10 hok hfew
      obtain ⟨y1, y2, y3⟩ := x3 T (by rw [← ord_same hok.2 hw q1 x1 q2 x2]; exact hcl)
      exact ⟨T2, w1, w2, w3, w4, y1, w5, ⟨_, y3, Or.inl rfl⟩, w7⟩) with ⟨Sg, W, z1, z2, z3, z4, z5, z6⟩ | ⟨W, z1, z2, z3, z4, z5, z6⟩
    · refine ⟨(Sg, 0), W, ?_, z2, z3, z4, z5, z6⟩
      unfold h_del
      rw [r1, z1, o_bind, if_pos rfl, o_bind, if_pos rfl]
    · refine ⟨(S3, 3), W, ?_, z2, z3, z4, z5, z6⟩
      unfold h_del
      rw [r1, z1, o_bind, if_neg (show ¬ (1 : Nat) = 0 by decide), o_bind, if_neg (show ¬ (1 : Nat) = 0 by decide), if_neg (show ¬ (1 : Nat) = 2 by decide), if_neg (show ¬ (1 : Nat) = 4 by decide), if_pos rfl]
end Del179
