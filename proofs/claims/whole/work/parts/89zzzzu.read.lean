/-! The call read. -/
section Read187
theorem nm_ne {a b : Nat} {l : List Nat} (h : a ∉ l) (hb : b ∈ l) : a ≠ b := fun e => h (e ▸ hb)
theorem fits_val2 {S : SS} {t : Vl} (hw : wV t) (ho : OutV S (cV t)) (h80 : (S 80).length = 9000) : ∃ S', b_fits S = some (S', if good t then 1 else 0) ∧ (∀ a, a ≠ 80 → a ≠ 94 → S' a = S a) ∧ (S' 80).length = 9000 ∧ (good t → S' 94 = pv (bV t)) := by
  obtain ⟨o1, o2, o3, o4⟩ := ho
  have cb := cbound t hw
  unfold b_fits
  by_cases hc : (cV t).length ≤ 9000
  · obtain ⟨⟨j, p1⟩, p2, p3⟩ := o3 hc
    rw [if_pos p3]
    have hs : stk S ([] ++ []) := ⟨h80, by decide, (fun z hz => by cases hz), S 80, rfl⟩
    obtain ⟨f1, f2⟩ := PV_all (N := (cV t).length) t hw 10000 0 S [] [] j hs (fun x hx => by cases hx) (fun e he => by cases he) (by rw [List.drop_zero]; exact p1) (by omega) p2 (by omega) hc (by omega) (by decide)
    simp only [List.length_nil, Nat.zero_add] at f1 f2
    by_cases hd : dV t ≤ 60
    · obtain ⟨n', S', X', g1, g2, g3, g4, g5⟩ := f1 hd
      obtain ⟨n', rfl⟩ : ∃ k, n' = k + 1 := ⟨n' - 1, by omega⟩
      have g1 : b_fits_l16 10000 S 0 0 = b_fits_l16 (n' + 1) S' (Int32.ofNat (X' ++ []).length) (Int32.ofNat (cV t).length) := g1
      rw [g1]
      have r90 : rd S' 90 1 = Int32.ofNat (cV t).length := by unfold rd; rw [g5 90 (by decide)]; exact p2
      have ev := value_pv t hw 64 (by omega) S' 94 91 0 [] j (by decide) (by rw [g5 91 (by decide)]; omega) (by rw [g5 91 (by decide), List.drop_zero]; exact p1)
      rw [List.nil_append] at ev
      have ev : w_value 64 (up S' 94 [0]) 94 91 0 = some (up S' 94 (pv (bV t))) := ev
      show ∃ S'_1, (if rd S' 90 1 ≤ Int32.ofNat (cV t).length then _ else _) = _ ∧ _
      rw [r90, if_pos ((i_le' (by omega) (by omega)).mpr (Nat.le_refl _)), ev, o_bind, (pv_T S' 94 (bV t)).2]
      refine ⟨up S' 94 (pv (bV t)), ?_, fun a n1 n2 => by rw [up_ne n2, g5 a n1], by rw [up_ne (by decide)]; exact g2.1, fun _ => up_same⟩
      by_cases hb : (bV t).length ≤ 4096
      · rw [if_pos hb, if_pos rfl, if_pos ⟨hb, hd⟩]
      · rw [if_neg hb, if_neg (by decide), if_neg (fun e => hb e.1)]
    · obtain ⟨S', g1, g2, g3⟩ := f2 (by omega)
      exact ⟨S', by rw [if_neg (fun e => hd e.2)]; exact g1, fun a n1 _ => g2 a n1, g3, fun c => absurd c.2 hd⟩
  · rw [o4 (by omega), if_neg (by decide), if_neg (fun e => by have := e.1; omega)]
    exact ⟨S, rfl, fun _ _ _ => rfl, h80, fun c => by have := c.1; omega⟩
/-- the reference's read -/
theorem bread_v {T0 : SS} {tape : List Int32} {n0 : Nat} (hn0 : n0 < 8) (l78 : (T0 78).length = 22) (l90 : (T0 90).length = 3) (l91 : (T0 91).length = 9000) (l96 : (T0 96).length = 5) (l80 : (T0 80).length = 9000) (l82 : (T0 (82 + n0)).length = 9000) (E0 : EK T0 tape) (h1 : rd T0 78 1 = Int32.ofNat tape.length) :
    (pAll tape = none → ∃ W v, b_read T0 (Int32.ofNat n0) = some (W, v) ∧ rd W 78 0 = 2 ∧ rd W 78 1 = 0 ∧ (W 91).length = 9000 ∧ ∀ a, a ∉ [78, 90, 91, 96] → W a = T0 a) ∧
    (∀ t, pAll tape = some t → wV t → (good t → ∃ W, b_read T0 (Int32.ofNat n0) = some (W, Int32.ofNat (bV t).length) ∧ rd W 78 0 = 0 ∧ rd W 78 1 = 0 ∧ (W 91).length = 9000 ∧ (W 80).length = 9000 ∧ (W (82 + n0)).length = 9000 ∧ (∃ j, W (82 + n0) = cV t ++ j) ∧ ∀ a, a ∉ [78, 80, 90, 91, 94, 96] → a ≠ 82 + n0 → W a = T0 a) ∧ (¬ good t → ∃ W v, b_read T0 (Int32.ofNat n0) = some (W, v) ∧ rd W 78 0 = 3 ∧ rd W 78 1 = 0 ∧ (W 91).length = 9000 ∧ (W 80).length = 9000 ∧ ∀ a, a ∉ [78, 80, 90, 91, 94, 96] → W a = T0 a)) := by
  obtain ⟨T1, b1, b2, b3, b4, b5, b6, b7⟩ := begin_val l78 l90 l91
  have hno : b_none T1 (Int32.ofNat n0) = some 0 := by
    have : ¬ Int32.ofNat n0 < 0 ∧ Int32.ofNat n0 < 8 := ⟨i_nn (by omega), by rw [show (8 : Int32) = Int32.ofNat 8 from rfl, i_lt' (by omega) (by omega)]; exact hn0⟩
    exact (reg_ok T1 this).2.1
  obtain ⟨S1, hS1⟩ : ∃ S1, S1 = wr T1 78 1 0 := ⟨_, rfl⟩
  have f1 : ∀ a, a ≠ 78 → a ≠ 90 → S1 a = T0 a := fun a x1 x2 => by rw [hS1, wr_ne x1, b2 a x1 x2]
  have E1 : EK S1 tape := by
    unfold EK
    rw [f1 79 (by decide) (by decide)]
    exact E0
  have o1 : OutV S1 [] := b7.same (by rw [hS1, wr_ne (by decide)]) (by rw [hS1, wr_ne (by decide)])
  have s78 : (S1 78).length = 22 := by rw [hS1, wr_len]; exact b6
  have s0 : rd S1 78 0 = 0 := by rw [hS1, rd_wr_j (by decide)]; exact b4
  have s1 : rd S1 78 1 = 0 := by rw [hS1, rd_wr (by rw [b6]; decide)]
  obtain ⟨x1, x2⟩ := eread_v E1 (by rw [f1 96 (by decide) (by decide)]; exact l96) o1
  have rl : rd T1 78 1 = Int32.ofNat tape.length := by rw [b3 1 (by decide) (by decide)]; exact h1
  refine ⟨fun hp => ?_, fun t hp hw => ?_⟩
  · obtain ⟨T, f, y1, y2, y3, y4⟩ := x2 hp
    have t78 : (T 78).length = 22 := by rw [y3 78 (by decide) (by decide) (by decide)]; exact s78
    refine ⟨wr (wr T 78 3 f) 78 0 2, 0, ?_, rd_wr (by rw [wr_len, t78]; decide), ?_, by rw [wr_ne (by decide), wr_ne (by decide)]; exact y4, fun a ha => ?_⟩
    · unfold b_read
      rw [b1, o_bind, hno, o_bind, if_pos rfl, rl, ← hS1, y1, o_bind]
      simp only
      rw [rd_wr (by rw [t78]; decide), if_neg y2]
      unfold b_fail
      rw [o_bind]
    · rw [rd_wr_j (by decide), rd_wr_j (by decide)]
      unfold rd
      rw [y3 78 (by decide) (by decide) (by decide)]
      exact s1
    · have d78 : a ≠ 78 := nm_ne ha (by decide)
      have d90 : a ≠ 90 := nm_ne ha (by decide)
      have d91 : a ≠ 91 := nm_ne ha (by decide)
      have d96 : a ≠ 96 := nm_ne ha (by decide)
      rw [wr_ne d78, wr_ne d78, y3 a d96 d90 d91, f1 a d78 d90]
  · obtain ⟨T, y1, y3, y4⟩ := x1 t hp
    have t78 : (T 78).length = 22 := by rw [y3 78 (by decide) (by decide) (by decide)]; exact s78
    obtain ⟨U, hU⟩ : ∃ U, U = wr T 78 3 (-1) := ⟨_, rfl⟩
    have oU : OutV U (cV t) := y4.same (by rw [hU, wr_ne (by decide)]) (by rw [hU, wr_ne (by decide)])
    have fU : ∀ a, a ∉ [78, 90, 91, 96] → U a = T0 a := fun a ha => by
      have d78 : a ≠ 78 := nm_ne ha (by decide)
      have d90 : a ≠ 90 := nm_ne ha (by decide)
      have d91 : a ≠ 91 := nm_ne ha (by decide)
      have d96 : a ≠ 96 := nm_ne ha (by decide)
      rw [hU, wr_ne d78, y3 a d96 d90 d91, f1 a d78 d90]
    have u78 : (U 78).length = 22 := by rw [hU, wr_len]; exact t78
    have uk : ∀ k, k ≠ 3 → rd U 78 k = rd S1 78 k := fun k hk => by
      rw [hU, rd_wr_j (fun e => hk e.symm)]
      unfold rd
      rw [y3 78 (by decide) (by decide) (by decide)]
    obtain ⟨V, v1, v2, v3, v4⟩ := fits_val2 hw oU (by rw [fU 80 (by decide)]; exact l80)
    have eq : b_read T0 (Int32.ofNat n0) = (if (if good t then (1 : Int32) else 0) = 0 then ((b_fail V 3).bind fun r14 => some (r14.1, r14.2)) else ((b_keep V (Int32.ofNat n0)).bind fun r16 => some (r16, Int32.ofNat (tT r16 94).length))) := by
      unfold b_read
      rw [b1, o_bind, hno, o_bind, if_pos rfl, rl, ← hS1, y1, o_bind]
      simp only
      rw [rd_wr (by rw [t78]; decide), if_pos rfl, ← hU, v1, o_bind]
    have v78 : V 78 = U 78 := v2 78 (by decide) (by decide)
    have v91 : (V 91).length = 9000 := by rw [v2 91 (by decide) (by decide)]; exact oU.1
    refine ⟨fun hg => ?_, fun hg => ?_⟩
    · have oV : OutV V (cV t) := oU.same (v2 90 (by decide) (by decide)) (v2 91 (by decide) (by decide))
      have hc : (cV t).length ≤ 9000 := by
        have := cbound t hw
        have := hg.1
        omega
      obtain ⟨W, w1, w2, w3, w4⟩ := bkeep_val hn0 hc oV (by
        rw [v2 _ (by omega) (by omega), fU _ (fun c => by simp at c; omega)]
        exact l82)
      refine ⟨W, ?_, ?_, ?_, by rw [w2 91 (by omega)]; exact v91, by rw [w2 80 (by omega)]; exact v3, w3, w4, fun a ha hne => ?_⟩
      · rw [eq, if_pos hg, if_neg (by decide), w1, o_bind]
        congr 3
        unfold tT
        rw [w2 94 (by omega), v4 hg, pv_fit hg.1]
        rfl
      · unfold rd
        rw [w2 78 (by omega), v78]
        exact (uk 0 (by decide)).trans s0
      · unfold rd
        rw [w2 78 (by omega), v78]
        exact (uk 1 (by decide)).trans s1
      · rw [w2 a hne, v2 a (nm_ne ha (by decide)) (nm_ne ha (by decide)), fU a (fun c => ha (by simp at c ⊢; omega))]
    · refine ⟨wr V 78 0 3, 0, ?_, rd_wr (by rw [v78, u78]; decide), ?_, by rw [wr_ne (by decide)]; exact v91, by rw [wr_ne (by decide)]; exact v3, fun a ha => ?_⟩
      · rw [eq, if_neg hg, if_pos rfl]
        unfold b_fail
        rw [o_bind]
      · rw [rd_wr_j (by decide)]
        unfold rd
        rw [v78]
        exact (uk 1 (by decide)).trans s1
      · rw [wr_ne (nm_ne ha (by decide)), v2 a (nm_ne ha (by decide)) (nm_ne ha (by decide)), fU a (fun c => ha (by simp at c ⊢; omega))]
theorem op2 : stp2 Inv := by
  intro S p0 hcs hI
  obtain ⟨l78, l41, l90, l96, -, l68, -⟩ := cs.l78 hcs
  obtain ⟨i1, i2, ⟨tape, i3⟩, ⟨res, i4⟩, ts, dr, ra, i5⟩ := id hI
  obtain ⟨g1, g2, g3, g4, g5⟩ := id i5
  have l91 : (S 91).length = 9000 := i1.2.2.2.2.2.2.2.1
  have l80 : (S 80).length = 9000 := i1.2.2.2.2.2.2.1
  by_cases h0 : ¬ p0 < 0 ∧ p0 < 8
  rotate_left
  · obtain ⟨S1, b1, b2, b3, b4, b5, b6, b7⟩ := begin_val l78 l90 l91
    obtain ⟨z1, z2, z3⟩ := bad_begin hI b6 b2 b3
    refine ⟨(S, 1), (wr S1 78 0 1, 0), ?_, rfl, ?_, z1, fun c => absurd c (show ¬ (1 : Int32) = 0 by decide), z2, z3⟩
    · unfold h_read a_read
      rw [(reg_bad S h0).1, o_bind, if_neg (show ¬ (2 : Nat) = 0 by decide), o_bind, if_neg (show ¬ (2 : Nat) = 0 by decide), if_pos rfl]
    · show b_read S p0 = _
      unfold b_read
      rw [b1, o_bind, (reg_bad S1 h0).2, o_bind, if_neg (by decide)]
      unfold b_fail
      rw [o_bind]
  obtain ⟨a0, -, n0, hn0, rfl⟩ := reg_ok S h0
  have hdn : dr ∈ nine := g3.mem_iff.mp List.mem_cons_self
  have md := nine_lt dr hdn
  have n9 : ∀ a, a ∉ nine → a ≠ dr := fun a ha e => ha (e ▸ hdn)
  have dd : ∀ a ∈ nine, a ∉ [41, 42, 46, 68, 78, 80, 90, 91, 94, 96, 101] ∧ a < 82 := by decide
  have d8 : ∀ r, r < 8 → 82 + r ∉ [41, 42, 46, 68, 78, 80, 90, 91, 94, 96, 101] ∧ 82 + r ∉ nine := by decide
  have ed : (rd S 41 9).toNatClampNeg = dr := by rw [g4, i_cl (by omega)]
  obtain ⟨q1, q2, q3, q4, q5, q6⟩ := id i3
  have H : CK S dr tape := ⟨by unfold tT; rw [q1]; rfl, q2, by omega, md.2.2.2.1, md.1⟩
  obtain ⟨c1, c2⟩ := cparse_v H l68
  -- what the class leaves
  have hck : ∀ k B b, ∀ a, a ≠ 68 → a ≠ dr → ck S dr k B b a = S a := fun k B b a x1 x2 => by
    unfold ck
    rw [up_ne x2, up_ne x1]
  have hSp : ∀ k B b, ∀ a, a ∉ [41, 42, 68] → a ≠ dr → up (wr (ck S dr k B b) 41 10 b) 42 [0] a = S a := fun k B b a x1 x2 => by
    rw [up_ne (nm_ne x1 (by decide)), wr_ne (nm_ne x1 (by decide)), hck k B b a (nm_ne x1 (by decide)) x2]
  have k41 : ∀ k B b, ck S dr k B b 41 = S 41 := fun k B b => hck k B b 41 (by decide) (n9 41 (by decide))
  have hS10 : ∀ k B b, rd (up (wr (ck S dr k B b) 41 10 b) 42 [0]) 41 10 = b := fun k B b => by
    rw [rd_up (by decide), rd_wr (by rw [k41, l41]; decide)]
  have hS9 : ∀ k B b, rd (up (wr (ck S dr k B b) 41 10 b) 42 [0]) 41 9 = Int32.ofNat dr := fun k B b => by
    rw [rd_up (by decide), rd_wr_j (by decide)]
    unfold rd
    rw [k41]
    exact g4
  -- the state with the tape empty
  obtain ⟨Z, hZ⟩ : ∃ Z, Z = up (wr S 78 1 0) 42 [0] := ⟨_, rfl⟩
  have fZ : ∀ a, a ≠ 42 → a ≠ 78 → Z a = S a := fun a x1 x2 => by rw [hZ, up_ne x1, wr_ne x2]
  have Z42 : Z 42 = [0] := by rw [hZ, up_same]
  have Z78 : rd Z 78 1 = 0 := by rw [hZ, rd_up (by decide), rd_wr (by rw [l78]; decide)]
  have j3 : InvT Z [] := ⟨Z42, by decide, (fun u hu => by cases hu), by rw [fZ 79 (by decide) (by decide)]; exact q4, ⟨Z 79, rfl⟩, Z78⟩
  have j4 : InvP Z res := i4.move (fZ 44 (by decide) (by decide)) (fZ 92 (by decide) (by decide))
  have j5 : InvG Z ts dr ra := i5.move (fZ 46 (by decide) (by decide)) (by unfold rd; rw [fZ 41 (by decide) (by decide)]) (fun a ha => fZ a (nm_ne (dd a ha).1 (by decide)) (nm_ne (dd a ha).1 (by decide))) (fun r hr => fZ _ (by omega) (by omega))
  obtain ⟨v1, v2, v3, v4, v5, v6, v7, v8, v9, v10, v11, v12, v13, v14⟩ := id i1
  have mkL : ∀ W : SS, (∀ a, a ∈ [47, 48, 71, 74, 76, 77, 97, 98, 99, 100, 39, 40] → W a = S a) → (W 80).length = 9000 → (W 91).length = 9000 → InvL W := fun W hW w80 w91 =>
    ⟨by unfold rd; rw [hW 47 (by decide)]; exact v1, by rw [hW 48 (by decide)]; exact v2, by rw [hW 71 (by decide)]; exact v3, by rw [hW 74 (by decide)]; exact v4, by rw [hW 76 (by decide)]; exact v5, by rw [hW 77 (by decide)]; exact v6, w80, w91, by rw [hW 97 (by decide)]; exact v9, by rw [hW 98 (by decide)]; exact v10, by rw [hW 99 (by decide)]; exact v11, by rw [hW 100 (by decide)]; exact v12, by rw [hW 39 (by decide)]; exact v13, by rw [hW 40 (by decide)]; exact v14⟩
  have rT : ∀ T0 : SS, (∀ a, a ∉ [41, 42, 46, 68, 101] → a ≠ dr → T0 a = S a) → _ := fun T0 hT0 =>
    bread_v (T0 := T0) (tape := tape) hn0 (by rw [hT0 78 (by decide) (n9 78 (by decide))]; exact l78) (by rw [hT0 90 (by decide) (n9 90 (by decide))]; exact l90) (by rw [hT0 91 (by decide) (n9 91 (by decide))]; exact l91) (by rw [hT0 96 (by decide) (n9 96 (by decide))]; exact l96) (by rw [hT0 80 (by decide) (n9 80 (by decide))]; exact l80) (by
      rw [hT0 _ (fun c => by simp at c; omega) (n9 _ (d8 n0 hn0).2)]
      exact (g5 n0 hn0).2.2.2.2.1) (by
      unfold EK
      rw [hT0 79 (by decide) (n9 79 (by decide))]
      exact ⟨q5, q4, q2, q3⟩) (by
      unfold rd
      rw [hT0 78 (by decide) (n9 78 (by decide))]
      exact q6)
  cases hpa : pAll tape with
  | none =>
    obtain ⟨k, B, b, e1, e2⟩ := c2 hpa
    obtain ⟨Sc, hSc⟩ : ∃ Sc, Sc = up (wr (ck S dr k B b) 41 10 b) 42 [0] := ⟨_, rfl⟩
    have fc : ∀ a, a ∉ [41, 42, 68] → a ≠ dr → Sc a = S a := fun a x1 x2 => by rw [hSc]; exact hSp k B b a x1 x2
    obtain ⟨W, v, w1, w2, w3, w4, w5⟩ := (rT Sc (fun a x1 x2 => fc a (fun c => x1 (by simp at c ⊢; omega)) x2)).1 hpa
    have WS : ∀ a, a ∉ [78, 90, 91, 96] → a ∉ [41, 42, 68] → a ≠ dr → W a = S a := fun a x1 x2 x3 => (w5 a x1).trans (fc a x2 x3)
    refine ⟨(Sc, 2), (W, v), ?_, fc 0 (by decide) (n9 0 (by decide)), w1, w2, fun c => absurd c (show ¬ (2 : Int32) = 0 by decide), WS 0 (by decide) (by decide) (n9 0 (by decide)), ?_⟩
    · unfold h_read a_read
      rw [a0, o_bind, if_pos rfl, ed, e1, o_bind]
      simp only
      rw [hS10, if_neg e2, o_bind, if_neg (show ¬ (3 : Nat) = 0 by decide), if_neg (show ¬ (3 : Nat) = 2 by decide), if_pos rfl, hSc]
    · show Inv W
      refine finA j3 j4 j5 (mkL W (fun a ha => ?_) (by rw [WS 80 (by decide) (by decide) (n9 80 (by decide))]; exact l80) w4) ⟨fun c => c.elim, fun c => c.elim⟩ ?_ ?_ (by rw [Z78]; exact w3) ?_ ?_ ?_ ?_ (fun a ha hne => ?_) (fun r hr => ?_)
      · have d : ∀ a ∈ [47, 48, 71, 74, 76, 77, 97, 98, 99, 100, 39, 40], a ∉ [78, 90, 91, 96] ∧ a ∉ [41, 42, 68] ∧ a ∉ nine := by decide
        obtain ⟨x1, x2, x3⟩ := d a ha
        exact WS a x1 x2 (n9 a x3)
      · rw [Z42, w5 42 (by decide), hSc, up_same]
      · rw [fZ 79 (by decide) (by decide)]; exact WS 79 (by decide) (by decide) (n9 79 (by decide))
      · rw [fZ 44 (by decide) (by decide)]; exact WS 44 (by decide) (by decide) (n9 44 (by decide))
      · rw [fZ 92 (by decide) (by decide)]; exact WS 92 (by decide) (by decide) (n9 92 (by decide))
      · rw [fZ 46 (by decide) (by decide)]; exact WS 46 (by decide) (by decide) (n9 46 (by decide))
      · have : rd W 41 9 = rd Sc 41 9 := by unfold rd; rw [w5 41 (by decide)]
        rw [this, hSc, hS9]
        unfold rd
        rw [fZ 41 (by decide) (by decide)]
        exact g4.symm
      · rw [fZ a (nm_ne (dd a ha).1 (by decide)) (nm_ne (dd a ha).1 (by decide))]
        exact WS a (fun c => (dd a ha).1 (by simp at c ⊢; omega)) (fun c => (dd a ha).1 (by simp at c ⊢; omega)) hne
      · rw [fZ _ (by omega) (by omega)]
        exact WS _ (fun c => by simp at c; omega) (fun c => by simp at c; omega) (n9 _ (d8 r hr).2)
  | some t =>
    obtain ⟨hw, k, e1⟩ := c1 t hpa
    obtain ⟨Sc, hSc⟩ : ∃ Sc, Sc = up (wr (ck S dr k (bV t) (-1)) 41 10 (-1)) 42 [0] := ⟨_, rfl⟩
    have fc : ∀ a, a ∉ [41, 42, 68] → a ≠ dr → Sc a = S a := fun a x1 x2 => by rw [hSc]; exact hSp k (bV t) (-1) a x1 x2
    have s9 : rd Sc 41 9 = Int32.ofNat dr := by rw [hSc]; exact hS9 _ _ _
    have s46 : Sc 46 = ra.map Int32.ofNat := (fc 46 (by decide) (n9 46 (by decide))).trans g1
    have sd : Sc dr = pv (bV t) := by
      have x := (dd dr hdn).1
      rw [hSc, up_ne (nm_ne x (by decide)), wr_ne (nm_ne x (by decide))]
      unfold ck
      rw [up_same]
    have ak := akeep_val (S := Sc) (t := t) (dr := dr) (ra := ra) (n := n0) hw s9 s46 g2 g3 sd hn0
    have hh : ∀ (r : SS × Nat), a_keep Sc (Int32.ofNat n0) = some r → a_read S (Int32.ofNat n0) = if r.2 = 0 then ((iget (r.1 46) (Int32.ofNat n0)).bind fun b10 => some (r.1, 0, Int32.ofNat (tT r.1 b10.toNatClampNeg).length)) else some (r.1, r.2, 0) := by
      intro r hr
      unfold a_read
      rw [a0, o_bind, if_pos rfl, ed, e1, o_bind]
      simp only
      rw [hS10, if_pos rfl, ← hSc, hr, o_bind]
    by_cases hg : good t
    · rw [if_pos hg] at ak
      obtain ⟨Sg, hSg⟩ : ∃ Sg, Sg = wr (up Sc 46 ((ra.set n0 dr).map Int32.ofNat)) 41 9 (Int32.ofNat (ra.getD n0 0)) := ⟨_, rfl⟩
      rw [← hSg] at ak
      have fg : ∀ a, a ≠ 41 → a ≠ 46 → Sg a = Sc a := fun a x1 x2 => by rw [hSg, wr_ne x1, up_ne x2]
      have g46 : Sg 46 = (ra.set n0 dr).map Int32.ofNat := by rw [hSg, wr_ne (by decide), up_same]
      have gd : Sg dr = 0 :: bV t := by
        have x := (dd dr hdn).1
        rw [fg dr (nm_ne x (by decide)) (nm_ne x (by decide)), sd, pv_fit hg.1]
      have ig : iget (Sg 46) (Int32.ofNat n0) = some (Int32.ofNat dr) := by
        have y : (ra.set n0 dr).getD n0 0 = dr := by
          rw [List.getD_eq_getElem?_getD, List.getElem?_set_self (by omega)]
          rfl
        have := (get46 (S := Sg) (ra := ra.set n0 dr) (n := n0) g46 (by rw [List.length_set]; exact g2) hn0 (by rw [y]; omega)).1
        rw [y] at this
        exact this
      have aq := hh _ ak
      simp only [if_true] at aq
      rw [ig, o_bind, i_cl (by omega)] at aq
      have tl : tT Sg dr = bV t := by unfold tT; rw [gd]; rfl
      rw [tl] at aq
      obtain ⟨Tc, hTc⟩ : ∃ Tc, Tc = up Sg 101 (lgE (Int32.ofNat (bV t).length).toInt64) := ⟨_, rfl⟩
      have ft : ∀ a, a ∉ [41, 42, 46, 68, 101] → a ≠ dr → Tc a = S a := fun a x1 x2 => by
        rw [hTc, up_ne (nm_ne x1 (by decide)), fg a (nm_ne x1 (by decide)) (nm_ne x1 (by decide)), fc a (fun c => x1 (by simp at c ⊢; omega)) x2]
      obtain ⟨W, w1, w2, w3, w4, w6, w7, w8, w5⟩ := ((rT Tc ft).2 t hpa hw).1 hg
      have WS : ∀ a, a ∉ [78, 80, 90, 91, 94, 96] → a ≠ 82 + n0 → a ∉ [41, 42, 46, 68, 101] → a ≠ dr → W a = S a := fun a x1 x2 x3 x4 => (w5 a x1 x2).trans (ft a x3 x4)
      have tg : ∀ a, a ≠ 101 → Tc a = Sg a := fun a x => by rw [hTc, up_ne x]
      refine ⟨(Tc, 0), (W, Int32.ofNat (bV t).length), ?_, ft 0 (by decide) (n9 0 (by decide)), w1, w2, fun _ => ?_, WS 0 (by decide) (by omega) (by decide) (n9 0 (by decide)), ?_⟩
      · unfold h_read
        rw [aq, o_bind, if_pos rfl, hTc]
      · show lg (W 101) = _
        rw [w5 101 (by decide) (by omega), hTc, up_same, lg_E]
      · show Inv W
        refine finB j3 j4 j5 hn0 hw hg (mkL W (fun a ha => ?_) w6 w4) ⟨fun c => c.elim, fun c => c.elim⟩ ?_ ?_ (by rw [Z78]; exact w3) ?_ ?_ ?_ ?_ (fun a ha hne => ?_) ?_ (fun r hr hne => ?_) ⟨w7, w8⟩
        · have d : ∀ a ∈ [47, 48, 71, 74, 76, 77, 97, 98, 99, 100, 39, 40], a ∉ [78, 80, 90, 91, 94, 96] ∧ (a < 82 ∨ 89 < a) ∧ a ∉ [41, 42, 46, 68, 101] ∧ a ∉ nine := by decide
          obtain ⟨x1, x2, x3, x4⟩ := d a ha
          exact WS a x1 (by omega) x3 (n9 a x4)
        · rw [Z42, w5 42 (by decide) (by omega), tg 42 (by decide), fg 42 (by decide) (by decide), hSc, up_same]
        · rw [fZ 79 (by decide) (by decide)]; exact WS 79 (by decide) (by omega) (by decide) (n9 79 (by decide))
        · rw [fZ 44 (by decide) (by decide)]; exact WS 44 (by decide) (by omega) (by decide) (n9 44 (by decide))
        · rw [fZ 92 (by decide) (by decide)]; exact WS 92 (by decide) (by omega) (by decide) (n9 92 (by decide))
        · rw [w5 46 (by decide) (by omega), tg 46 (by decide), g46]
        · have : rd W 41 9 = rd Sg 41 9 := by unfold rd; rw [w5 41 (by decide) (by omega), tg 41 (by decide)]
          rw [this, hSg, rd_wr (by
            rw [up_ne (by decide), hSc, up_ne (by decide), wr_len, k41, l41]
            decide)]
        · rw [fZ a (nm_ne (dd a ha).1 (by decide)) (nm_ne (dd a ha).1 (by decide))]
          have := (dd a ha).2
          exact WS a (fun c => (dd a ha).1 (by simp at c ⊢; omega)) (by omega) (fun c => (dd a ha).1 (by simp at c ⊢; omega)) hne
        · have x := (dd dr hdn).1
          have y := (dd dr hdn).2
          rw [w5 dr (fun c => x (by simp at c ⊢; omega)) (by omega), tg dr (nm_ne x (by decide)), gd]
        · rw [fZ _ (by omega) (by omega)]
          exact WS _ (fun c => by simp at c; omega) (by omega) (fun c => by simp at c; omega) (n9 _ (d8 r hr).2)
    · rw [if_neg hg] at ak
      have aq := hh _ ak
      simp only [show ¬ (1 : Nat) = 0 by decide, if_false] at aq
      obtain ⟨W, v, w1, w2, w3, w4, w6, w5⟩ := ((rT Sc (fun a x1 x2 => fc a (fun c => x1 (by simp at c ⊢; omega)) x2)).2 t hpa hw).2 hg
      have WS : ∀ a, a ∉ [78, 80, 90, 91, 94, 96] → a ∉ [41, 42, 68] → a ≠ dr → W a = S a := fun a x1 x2 x3 => (w5 a x1).trans (fc a x2 x3)
      refine ⟨(Sc, 3), (W, v), ?_, fc 0 (by decide) (n9 0 (by decide)), w1, w2, fun c => absurd c (show ¬ (3 : Int32) = 0 by decide), WS 0 (by decide) (by decide) (n9 0 (by decide)), ?_⟩
      · unfold h_read
        rw [aq, o_bind, if_neg (show ¬ (1 : Nat) = 0 by decide), if_neg (show ¬ (1 : Nat) = 2 by decide), if_neg (show ¬ (1 : Nat) = 3 by decide), if_pos rfl]
      · show Inv W
        refine finA j3 j4 j5 (mkL W (fun a ha => ?_) w6 w4) ⟨fun c => c.elim, fun c => c.elim⟩ ?_ ?_ (by rw [Z78]; exact w3) ?_ ?_ ?_ ?_ (fun a ha hne => ?_) (fun r hr => ?_)
        · have d : ∀ a ∈ [47, 48, 71, 74, 76, 77, 97, 98, 99, 100, 39, 40], a ∉ [78, 80, 90, 91, 94, 96] ∧ a ∉ [41, 42, 68] ∧ a ∉ nine := by decide
          obtain ⟨x1, x2, x3⟩ := d a ha
          exact WS a x1 x2 (n9 a x3)
        · rw [Z42, w5 42 (by decide), hSc, up_same]
        · rw [fZ 79 (by decide) (by decide)]; exact WS 79 (by decide) (by decide) (n9 79 (by decide))
        · rw [fZ 44 (by decide) (by decide)]; exact WS 44 (by decide) (by decide) (n9 44 (by decide))
        · rw [fZ 92 (by decide) (by decide)]; exact WS 92 (by decide) (by decide) (n9 92 (by decide))
        · rw [fZ 46 (by decide) (by decide)]; exact WS 46 (by decide) (by decide) (n9 46 (by decide))
        · have : rd W 41 9 = rd Sc 41 9 := by unfold rd; rw [w5 41 (by decide)]
          rw [this, s9]
          unfold rd
          rw [fZ 41 (by decide) (by decide)]
          exact g4.symm
        · rw [fZ a (nm_ne (dd a ha).1 (by decide)) (nm_ne (dd a ha).1 (by decide))]
          exact WS a (fun c => (dd a ha).1 (by simp at c ⊢; omega)) (fun c => (dd a ha).1 (by simp at c ⊢; omega)) hne
        · rw [fZ _ (by omega) (by omega)]
          exact WS _ (fun c => by simp at c; omega) (fun c => by simp at c; omega) (n9 _ (d8 r hr).2)
end Read187
