/-! The call get. -/
section Get139
theorem pos_end {as : List Int32} {b : Nat} {v : Vl} (hc : cat as b v) (hk : v.1 = 4 ∨ v.1 = 5) : pos v b (size v) = b + (cV v).length := by
  unfold pos
  by_cases h4 : v.1 = 4
  · rw [if_pos h4, cat_str_len hc h4]; omega
  · rw [if_neg h4]
    have h5 := hk.resolve_left h4
    have hc' := hc
    rw [vl5 h5] at hc'
    obtain ⟨-, -, r, hd⟩ := hc'
    obtain ⟨c1, c2⟩ := cbox_in (Or.inl rfl) hd
    rw [show (5 == 6) = false from rfl] at c2
    have ev : (cV v).length = (cV (5, v.2.1, v.2.2.1, ofL (toL v.2.2.2))).length := by conv => lhs; rw [vl5 h5]
    have bl := blks_len false (toL v.2.2.2)
    simp only [Bool.false_eq_true, if_false] at bl
    unfold bp size
    rw [if_neg h4, List.take_of_length_le (by omega), ev, c2]
    omega
theorem getv_val {S : SS} {aa ab : Nat} {t pt : Vl} (haa : aa ≠ 78 ∧ aa ≠ 90 ∧ aa ≠ 91) (hab : ab ≠ 78) (h78 : (S 78).length = 22) (h12 : rd S 78 12 = 0) (h39 : S 39 = mp_aS) (h40 : S 40 = mp_aE) (ho : OutV S []) (ha : cat (S aa) 0 t) (hp : cat (S ab) 0 pt) (h5 : pt.1 = 5) : (∀ c', foll (some (t, none)) ((toL pt.2.2.2).map fun m => m.2) = some c' → ∃ S', b_getv S aa ab = some S' ∧ OutV S' (cV (outV c')) ∧ (∀ a, a ≠ 78 → a ≠ 90 → a ≠ 91 → S' a = S a) ∧ (∀ k, k ≠ 17 → k ≠ 18 → rd S' 78 k = rd S 78 k) ∧ (S' 78).length = 22) ∧ (foll (some (t, none)) ((toL pt.2.2.2).map fun m => m.2) = none → ∃ S', b_getv S aa ab = some S' ∧ refd S S') := by
  have na := ha.next
  have np := hp.next
  obtain ⟨S1, hS1⟩ : ∃ S1, S1 = wr (wr S 78 17 2) 78 18 (Int32.ofNat (0 + (cV t).length)) := ⟨_, rfl⟩
  have f1 : frN S S1 := by rw [hS1]; exact frN_wr S _ _
  have e0 : b_getv S aa ab = b_getv_l19 aa ab 10000 S1 0 2 := by
    unfold b_getv
    have : r_next (wr S 78 17 2 aa) 0 = some (Int32.ofNat (0 + (cV t).length)) := by rw [wr_ne haa.1]; exact na.1
    rw [this, o_bind, hS1]
  obtain ⟨d1, d2⟩ := rd_win S 2 (Int32.ofNat (0 + (cV t).length)) h78
  rw [← hS1] at d1 d2
  have hs : spRU S1 aa (some (t, none)) 0 := by
    refine ⟨0, rfl, by decide, by rw [f1.1 aa haa.1]; exact ha, (fun _ _ q => by cases q), fun _ => ⟨d1, d2⟩, fun hk => ⟨d1.trans ?_, d2.trans ?_⟩⟩
    · show (2 : Int32) = Int32.ofNat (pos t 0 0)
      unfold pos
      split
      · rfl
      · rw [bp_0]; rfl
    · show _ = Int32.ofNat (pos t 0 (0 + size t))
      rw [Nat.zero_add, Nat.zero_add, pos_end ha hk, Nat.zero_add]
  have hp' := hp
  rw [vl5 h5] at hp'
  obtain ⟨p9, pw, r, pd⟩ := id hp'
  obtain ⟨c1, c2⟩ := cbox_in (Or.inl rfl) pd
  rw [show (5 == 6) = false from rfl] at c1 c2
  have bl := blks_len false (toL pt.2.2.2)
  simp only [Bool.false_eq_true, if_false] at bl
  have f2 := flat2 _ (blks_h (b := false) pw.kids)
  have evp : (cV pt).length = (cV (5, pt.2.1, pt.2.2.1, ofL (toL pt.2.2.2))).length := by conv => lhs; rw [vl5 h5]
  have h1 : iget (S ab) 1 = some (Int32.ofNat (cV pt).length) := by
    obtain ⟨-, hw, r0, hd0⟩ := id hp
    obtain ⟨q, hq⟩ := cV_hdd hw.1
    have := iget_nth (j := 1) p9 hd0 (by have := (cV_h hw.1).len; omega)
    rw [Nat.zero_add] at this
    refine (this : iget (S ab) 1 = _).trans ?_
    congr 1
    conv => lhs; rw [List.getElem_of_eq hq]
    rfl
  obtain ⟨g1, g2⟩ := rfoll_l (aa := aa) (ab := ab) (N := (cV pt).length) (r := r) haa.1 hab (by omega) (toL pt.2.2.2) 10000 2 S1 (some (t, none)) 0 pw.kids (f1.2.2.trans h78) (by rw [f1.2.1 12 (by decide) (by decide)]; exact h12) (by rw [f1.1 39 (by decide)]; exact h39) (by rw [f1.1 40 (by decide)]; exact h40) (by rw [f1.1 ab hab]; exact p9) (by rw [f1.1 ab hab]; exact h1) (by rw [f1.1 ab hab]; exact c1) (by omega) (by omega) hs
  rw [e0]
  refine ⟨fun c' hc' => ?_, fun hc' => ?_⟩
  · obtain ⟨S2, l3, c'', ⟨k, q1⟩, q2, q3, q4⟩ := g1 c' hc'
    have f12 := f1.trans q2
    have ho2 : OutV S2 [] := by
      unfold OutV rd
      rw [f12.1 91 (by decide), f12.1 90 (by decide)]
      exact ho
    obtain ⟨S3, j1, j2, j3⟩ := l208_val (ab := ab) (k19 := k) haa.2 ho2 q3
    refine ⟨S3, (q1 : b_getv_l19 aa ab 10000 S1 0 2 = _).trans j1, by rw [← q4]; exact j2, fun a n1 n2 n3 => (j3 a n2 n3).trans (f12.1 a n1), fun k k1 k2 => ?_, ?_⟩
    · have : rd S3 78 k = rd S2 78 k := by unfold rd; rw [j3 78 (by decide) (by decide)]
      rw [this, f12.2.1 k k1 k2]
    · rw [j3 78 (by decide) (by decide), f12.2.2]; exact h78
  · obtain ⟨S2, q1, q2⟩ := g2 hc'
    exact ⟨S2, q1, f1.refd q2⟩
theorem refuse_a {S : SS} (v : Int32) : (v = 0 → a_refuse S v = some (S, 0)) ∧ (v ≠ 0 → a_refuse S v = some (wr S 41 11 v, 4)) := by
  unfold a_refuse
  exact ⟨fun e => by rw [if_pos e], fun e => by rw [if_neg e]⟩
/-- a number that names no register: refused by both, at once -/
theorem InvL.notes {S S' : SS} (h : InvL S) (h1 : ∀ a, a ≠ 78 → a ≠ 90 → a ≠ 101 → S' a = S a) : InvL S' := by
  have d1 : ∀ a ∈ [47, 48, 71, 74, 76, 77, 80, 91, 97, 98, 99, 100, 39, 40], a ≠ 78 ∧ a ≠ 90 ∧ a ≠ 101 := by decide
  exact h.move fun a ha => h1 a (d1 a ha).1 (d1 a ha).2.1 (d1 a ha).2.2
theorem bad_begin {S S1 : SS} (hI : Inv S) (h78 : (S1 78).length = 22) (f1 : ∀ a, a ≠ 78 → a ≠ 90 → S1 a = S a) (f2 : ∀ k, k ≠ 0 → k ≠ 12 → rd S1 78 k = rd S 78 k) : rd (wr S1 78 0 1) 78 0 = 1 ∧ wr S1 78 0 1 0 = S 0 ∧ Inv (wr S1 78 0 1) := by
  refine ⟨rd_wr (by rw [h78]; decide), by rw [wr_ne (by decide), f1 0 (by decide) (by decide)], ?_⟩
  obtain ⟨i1, i2, ⟨tape, i3⟩, ⟨res, i4⟩, ts, dr, ra, i5⟩ := hI
  have o : ∀ a, a ≠ 78 → a ≠ 90 → wr S1 78 0 1 a = S a := fun a n1 n2 => by rw [wr_ne n1, f1 a n1 n2]
  have r : ∀ k, k ≠ 0 → k ≠ 12 → rd (wr S1 78 0 1) 78 k = rd S 78 k := fun k k0 k1 => by rw [rd_wr_j (fun e => k0 e.symm), f2 k k0 k1]
  have e41 : ∀ k, rd (wr S1 78 0 1) 41 k = rd S 41 k := fun k => by unfold rd; rw [o 41 (by decide) (by decide)]
  have d2 : ∀ a ∈ nine, a ≠ 78 ∧ a ≠ 90 := by decide
  exact finA i3 i4 i5 (i1.notes fun a n1 n2 _ => o a n1 n2) ⟨by rw [r 3 (by decide) (by decide), e41]; exact i2.1, by rw [r 4 (by decide) (by decide), e41]; exact i2.2⟩ (o 42 (by decide) (by decide)) (o 79 (by decide) (by decide)) (r 1 (by decide) (by decide)) (o 44 (by decide) (by decide)) (o 92 (by decide) (by decide)) (o 46 (by decide) (by decide)) (e41 9) (fun a ha _ => o a (d2 a ha).1 (d2 a ha).2) (fun r hr => o _ (by omega) (by omega))
theorem op4 : stp4 Inv := by
  intro S p0 p1 p2 hcs hI
  obtain ⟨l78, l41, l90, -, l67, -⟩ := cs.l78 hcs
  obtain ⟨i1, i2, ⟨tape, i3⟩, ⟨res, i4⟩, ts, dr, ra, i5⟩ := id hI
  obtain ⟨g1, g2, g3, g4, g5⟩ := id i5
  have l91 : (S 91).length = 9000 := i1.2.2.2.2.2.2.2.1
  have l80 : (S 80).length = 9000 := i1.2.2.2.2.2.2.1
  have h39 : S 39 = mp_aS := i1.2.2.2.2.2.2.2.2.2.2.2.2.1
  have h40 : S 40 = mp_aE := i1.2.2.2.2.2.2.2.2.2.2.2.2.2
  -- a bad register
  have bad : (¬ (¬ p0 < 0 ∧ p0 < 8) ∨ ¬ (¬ p1 < 0 ∧ p1 < 8) ∨ ¬ (¬ p2 < 0 ∧ p2 < 8)) → ∃ (c : SS × Int32) (w : SS), h_get S p0 p1 p2 = some c ∧ c.1 0 = S 0 ∧ b_get c.1 p0 p1 p2 = some w ∧ rd w 78 0 = c.2 ∧ w 0 = S 0 ∧ Inv w := by
    intro hb
    obtain ⟨S1, b1, b2, b3, b4, b5, b6, b7⟩ := begin_val l78 l90 l91
    obtain ⟨z1, z2, z3⟩ := bad_begin hI b6 b2 b3
    have ea : a_get S p0 p1 p2 = some (S, 2) := by
      unfold a_get
      by_cases h0 : ¬ p0 < 0 ∧ p0 < 8
      · rw [(reg_ok S h0).1, o_bind, if_pos rfl]
        by_cases h1 : ¬ p1 < 0 ∧ p1 < 8
        · rw [(reg_ok S h1).1, o_bind, if_pos rfl]
          have h2 : ¬ (¬ p2 < 0 ∧ p2 < 8) := by
            rcases hb with e | e | e
            · exact absurd h0 e
            · exact absurd h1 e
            · exact e
          rw [(reg_bad S h2).1, o_bind, if_neg (show ¬ (2 : Nat) = 0 by decide)]
        · rw [(reg_bad S h1).1, o_bind, if_neg (show ¬ (2 : Nat) = 0 by decide)]
      · rw [(reg_bad S h0).1, o_bind, if_neg (show ¬ (2 : Nat) = 0 by decide)]
    refine ⟨(S, 1), wr S1 78 0 1, ?_, rfl, ?_, z1, z2, z3⟩
    · unfold h_get; rw [ea, o_bind, if_neg (show ¬ (2 : Nat) = 0 by decide), if_pos rfl]
    · show b_get S p0 p1 p2 = _
      unfold b_get
      rw [b1, o_bind]
      by_cases h0 : ¬ p0 < 0 ∧ p0 < 8
      · rw [(reg_ok S1 h0).2.1, o_bind, if_pos rfl]
        by_cases h1 : ¬ p1 < 0 ∧ p1 < 8
        · rw [(reg_ok S1 h1).2.1, o_bind, if_pos rfl]
          have h2 : ¬ (¬ p2 < 0 ∧ p2 < 8) := by
            rcases hb with e | e | e
            · exact absurd h0 e
            · exact absurd h1 e
            · exact e
          rw [(reg_bad S1 h2).2, o_bind, if_neg (by decide)]
        · rw [(reg_bad S1 h1).2, o_bind, if_neg (by decide)]
      · rw [(reg_bad S1 h0).2, o_bind, if_neg (by decide)]
  by_cases h0 : ¬ p0 < 0 ∧ p0 < 8
  rotate_left
  · exact bad (Or.inl h0)
  by_cases h1 : ¬ p1 < 0 ∧ p1 < 8
  rotate_left
  · exact bad (Or.inr (Or.inl h1))
  by_cases h2 : ¬ p2 < 0 ∧ p2 < 8
  rotate_left
  · exact bad (Or.inr (Or.inr h2))
  obtain ⟨a0, -, n0, hn0, rfl⟩ := reg_ok S h0
  obtain ⟨a1, -, n1, hn1, rfl⟩ := reg_ok S h1
  obtain ⟨a2, -, n2, hn2, rfl⟩ := reg_ok S h2
  have m1 := nine_lt _ (ra_mem g3 g2 hn1)
  have m2 := nine_lt _ (ra_mem g3 g2 hn2)
  have md := nine_lt dr (g3.mem_iff.mp List.mem_cons_self)
  have r1ne : ra.getD n1 0 ≠ dr := ra_ne g3 g2 hn1
  obtain ⟨q1, q1'⟩ := get46 g1 g2 hn1 m1.1
  obtain ⟨q2, q2'⟩ := get46 g1 g2 hn2 m2.1
  obtain ⟨u1, u1'⟩ := get81 n1 hn1
  obtain ⟨u2, u2'⟩ := get81 n2 hn2
  obtain ⟨v1, c1⟩ := reg_vat (g5 n1 hn1)
  obtain ⟨v2, c2⟩ := reg_vat (g5 n2 hn2)
  have k6 := v2.2.2.1.1
  have tk : t_kind (tT S (ra.getD n2 0)) 0 = some (Int32.ofNat (ts n2).1) := v2.kind
  have k5 : Int32.ofNat (ts n2).1 = 5 ↔ (ts n2).1 = 5 := by rw [show (5 : Int32) = Int32.ofNat 5 from rfl, i_inj (by omega) (by omega)]
  -- refused: what both leave
  have refu : ∀ (Sc Sr : SS), fr67 S Sc → (∀ T : SS, (∀ a, a ≠ 41 → a ≠ 67 → T a = S a) → (T 41).length = 12 → rd T 41 11 = 1 → (∀ k, k ≠ 11 → rd T 41 k = rd S 41 k) → (∃ W, b_get T (Int32.ofNat n0) (Int32.ofNat n1) (Int32.ofNat n2) = some W ∧ (∀ a, a ≠ 78 → a ≠ 90 → W a = T a) ∧ rd W 78 0 = 2 ∧ rd W 78 4 = 1 ∧ ∀ k, k ≠ 0 → k ≠ 4 → k ≠ 12 → k ≠ 17 → k ≠ 18 → rd W 78 k = rd T 78 k)) → a_get S (Int32.ofNat n0) (Int32.ofNat n1) (Int32.ofNat n2) = some (wr Sc 41 11 1, 4) → ∃ (c : SS × Int32) (w : SS), h_get S (Int32.ofNat n0) (Int32.ofNat n1) (Int32.ofNat n2) = some c ∧ c.1 0 = S 0 ∧ b_get c.1 (Int32.ofNat n0) (Int32.ofNat n1) (Int32.ofNat n2) = some w ∧ rd w 78 0 = c.2 ∧ w 0 = S 0 ∧ Inv w := by
    intro Sc Sr fc hT ea
    have e41 : Sc 41 = S 41 := fc 41 (by decide)
    have tf : ∀ a, a ≠ 41 → a ≠ 67 → wr Sc 41 11 1 a = S a := fun a x1 x2 => by rw [wr_ne x1, fc a x2]
    have t11 : rd (wr Sc 41 11 1) 41 11 = 1 := rd_wr (by rw [e41, l41]; decide)
    have tk' : ∀ k, k ≠ 11 → rd (wr Sc 41 11 1) 41 k = rd S 41 k := fun k hk => by rw [rd_wr_j (fun e => hk e.symm)]; unfold rd; rw [e41]
    obtain ⟨W, w1, w2, w3, w4, w5⟩ := hT (wr Sc 41 11 1) tf (by rw [wr_len, e41]; exact l41) t11 tk'
    have wf : ∀ a, a ≠ 78 → a ≠ 90 → a ≠ 41 → a ≠ 67 → W a = S a := fun a x1 x2 x3 x4 => (w2 a x1 x2).trans (tf a x3 x4)
    refine ⟨(wr Sc 41 11 1, 2), W, ?_, tf 0 (by decide) (by decide), w1, w3, wf 0 (by decide) (by decide) (by decide) (by decide), ?_⟩
    · unfold h_get; rw [ea, o_bind, if_neg (show ¬ (4 : Nat) = 0 by decide), if_neg (show ¬ (4 : Nat) = 2 by decide), if_pos rfl]
    · have t78 : ∀ k, rd (wr Sc 41 11 1) 78 k = rd S 78 k := fun k => by unfold rd; rw [tf 78 (by decide) (by decide)]
      have W41 : ∀ k, rd W 41 k = rd (wr Sc 41 11 1) 41 k := fun k => by unfold rd; rw [w2 41 (by decide) (by decide)]
      have d1 : ∀ a ∈ [47, 48, 71, 74, 76, 77, 80, 91, 97, 98, 99, 100, 39, 40], a ≠ 78 ∧ a ≠ 90 ∧ a ≠ 41 ∧ a ≠ 67 := by decide
      have d2 : ∀ a ∈ nine, a ≠ 78 ∧ a ≠ 90 ∧ a ≠ 41 ∧ a ≠ 67 := by decide
      exact finA i3 i4 i5 (i1.move fun a ha => wf a (d1 a ha).1 (d1 a ha).2.1 (d1 a ha).2.2.1 (d1 a ha).2.2.2) ⟨by rw [w5 3 (by decide) (by decide) (by decide) (by decide) (by decide), t78, W41, tk' 10 (by decide)]; exact i2.1, fun e => e.elim⟩ (wf 42 (by decide) (by decide) (by decide) (by decide)) (wf 79 (by decide) (by decide) (by decide) (by decide)) (by rw [w5 1 (by decide) (by decide) (by decide) (by decide) (by decide), t78]) (wf 44 (by decide) (by decide) (by decide) (by decide)) (wf 92 (by decide) (by decide) (by decide) (by decide)) (wf 46 (by decide) (by decide) (by decide) (by decide)) (by rw [W41, tk' 9 (by decide)]) (fun a ha _ => wf a (d2 a ha).1 (d2 a ha).2.1 (d2 a ha).2.2.1 (d2 a ha).2.2.2) (fun r hr => wf _ (by omega) (by omega) (by omega) (by omega))
  -- the reference, once the registers are known
  have rb : ∀ T : SS, (∀ a, a ≠ 41 → a ≠ 46 → a ≠ 67 → a ∉ nine → a ≠ 101 → T a = S a) → ∃ T1, (∀ a, a ≠ 78 → a ≠ 90 → T1 a = T a) ∧ (∀ k, k ≠ 0 → k ≠ 12 → rd T1 78 k = rd S 78 k) ∧ rd T1 78 0 = 0 ∧ rd T1 78 12 = 0 ∧ (T1 78).length = 22 ∧ OutV T1 [] ∧ T1 39 = mp_aS ∧ T1 40 = mp_aE ∧ (∀ r, r < 8 → T1 (82 + r) = S (82 + r)) ∧ (T1 80).length = 9000 ∧ b_get T (Int32.ofNat n0) (Int32.ofNat n1) (Int32.ofNat n2) = (if (ts n2).1 = 5 then ((b_getv T1 (82 + n1) (82 + n2)).bind fun r16 => ((b_finish r16 (Int32.ofNat n0) 2 3).bind fun r18 => some r18)) else ((b_refuse T1 1).bind fun r20 => ((b_finish r20 (Int32.ofNat n0) 2 3).bind fun r22 => some r22))) := by
    intro T hT
    have n78 : T 78 = S 78 := hT 78 (by decide) (by decide) (by decide) (by decide) (by decide)
    obtain ⟨T1, b1, b2, b3, b4, b5, b6, b7⟩ := begin_val (S := T) (by rw [n78]; exact l78) (by rw [hT 90 (by decide) (by decide) (by decide) (by decide) (by decide)]; exact l90) (by rw [hT 91 (by decide) (by decide) (by decide) (by decide) (by decide)]; exact l91)
    have d8 : ∀ r, r < 8 → 82 + r ≠ 41 ∧ 82 + r ≠ 46 ∧ 82 + r ≠ 67 ∧ 82 + r ∉ nine ∧ 82 + r ≠ 101 ∧ 82 + r ≠ 78 ∧ 82 + r ≠ 90 := by decide
    have t82 : ∀ r, r < 8 → T1 (82 + r) = S (82 + r) := fun r hr => by
      obtain ⟨x1, x2, x3, x4, x5, x6, x7⟩ := d8 r hr
      rw [b2 _ x6 x7, hT _ x1 x2 x3 x4 x5]
    refine ⟨T1, b2, fun k k0 k1 => by rw [b3 k k0 k1]; unfold rd; rw [n78], b4, b5, b6, b7, by rw [b2 39 (by decide) (by decide), hT 39 (by decide) (by decide) (by decide) (by decide) (by decide)]; exact h39, by rw [b2 40 (by decide) (by decide), hT 40 (by decide) (by decide) (by decide) (by decide) (by decide)]; exact h40, t82, by rw [b2 80 (by decide) (by decide), hT 80 (by decide) (by decide) (by decide) (by decide) (by decide)]; exact l80, ?_⟩
    have ik : iget (T1 (82 + n2)) 0 = some (Int32.ofNat (ts n2).1) := by rw [t82 n2 hn2]; exact c2.kind
    unfold b_get
    rw [b1, o_bind, (reg_ok T1 h0).2.1, o_bind, if_pos rfl, (reg_ok T1 h1).2.1, o_bind, if_pos rfl, (reg_ok T1 h2).2.1, o_bind, if_pos rfl, u2, o_bind, u2', ik, o_bind]
    by_cases e5 : (ts n2).1 = 5
    · rw [if_pos (k5.mpr e5), if_pos e5, u1, o_bind, u1']
    · rw [if_neg (fun q => e5 (k5.mp q)), if_neg e5]
  have hd9 : rd S 41 9 = Int32.ofNat dr := g4
  by_cases e5 : (ts n2).1 = 5
  · have ta : ra.getD n1 0 < 1000 ∧ ra.getD n1 0 ≠ 67 := ⟨m1.1, by omega⟩
    have tb : ra.getD n2 0 ≠ 67 := by omega
    obtain ⟨fo1, fo2⟩ := follow_val (S := S) (t1 := ra.getD n2 0) (q0 := 0) ta tb l67 v1 v2 e5
    have eR : a_refuse S 0 = some (S, 0) := (refuse_a 0).1 rfl
    cases hf : foll (some (ts n1, none)) ((toL (ts n2).2.2.2).map fun m => m.2) with
    | none =>
      obtain ⟨Sc, s1, s2⟩ := fo2 hf
      have s1 : p_follow S (ra.getD n1 0) (ra.getD n2 0) 0 = some (Sc, 1) := s1
      refine refu Sc S s2 (fun T hT hT41 hT11 hTk => ?_) ?_
      · obtain ⟨T1, t1, t2, t3, t4, t5, t6, t7, t8, t9, t10, t11⟩ := rb T fun a x1 _ x3 _ _ => hT a x1 x3
        obtain ⟨-, gv⟩ := getv_val (S := T1) (aa := 82 + n1) (ab := 82 + n2) (by omega) (by omega) t5 t4 t7 t8 t6 (by rw [t9 n1 hn1]; exact c1) (by rw [t9 n2 hn2]; exact c2) e5
        obtain ⟨T2, j1, j2, j3, j4, j5⟩ := gv hf
        obtain ⟨T3, k1, k2, k3, k4, k5'⟩ := finish_ref (Int32.ofNat n0) 2 3 j5 (by rw [j4]; exact t5)
        refine ⟨T3, by rw [t11, if_pos e5, j1, o_bind, k1, o_bind], fun a x1 x2 => by rw [k2 a x1, j2 a x1, t1 a x1 x2], k3, k4, fun k y0 y4 y12 y17 y18 => ?_⟩
        rw [k5' k y0 y4, j3 k y12 y17 y18, t2 k y0 y12]
        unfold rd
        rw [hT 78 (by decide) (by decide)]
      · unfold a_get
        rw [a0, o_bind, if_pos rfl, a1, o_bind, if_pos rfl, a2, o_bind, if_pos rfl, q2, o_bind, q2', tk, o_bind, if_pos (k5.mpr e5), eR, o_bind, if_pos rfl, q1, o_bind, q1', q2, o_bind, q2', s1, o_bind, (refuse_a 1).2 (by decide), o_bind, if_neg (show ¬ (4 : Nat) = 0 by decide)]
    | some c' =>
      obtain ⟨Sc, s1, s2, s3⟩ := fo1 c' hf
      have s1 : p_follow S (ra.getD n1 0) (ra.getD n2 0) 0 = some (Sc, 0) := s1
      have wo := outV_ok s3
      have Sc41 : Sc 41 = S 41 := s2 41 (by decide)
      have d9 : (rd Sc 41 9).toNatClampNeg = dr := by unfold rd; rw [Sc41]; show (rd S 41 9).toNatClampNeg = dr; rw [hd9, i_cl (by omega)]
      have d9' : (rd (up Sc dr [0]) 41 9).toNatClampNeg = dr := by rw [rd_up (by omega)]; exact d9
      have sp2 : spU (up Sc dr [0]) (ra.getD n1 0) c' := by
        have e67 : up Sc dr [0] 67 = Sc 67 := up_ne (by omega)
        have eta : tT (up Sc dr [0]) (ra.getD n1 0) = tT Sc (ra.getD n1 0) := by unfold tT; rw [up_ne r1ne]
        cases c' with
        | none => obtain ⟨it, lo, hi, e⟩ := s3; exact ⟨it, lo, hi, e67.trans e⟩
        | some tw => obtain ⟨t, w⟩ := tw; obtain ⟨q, it, lo, hi, e, x2, x3, x4⟩ := s3; exact ⟨q, it, lo, hi, e67.trans e, by rw [eta]; exact x2, x3, x4⟩
      have wr1 := write_val (S := up Sc dr [0]) (o := dr) ta ⟨fun e => r1ne e.symm, by omega⟩ sp2 up_same
      rw [up_up] at wr1
      obtain ⟨S3, hS3⟩ : ∃ S3, S3 = up Sc dr (pv (bV (outV c'))) := ⟨_, rfl⟩
      rw [← hS3] at wr1
      have f3 : ∀ a, a ≠ 67 → a ≠ dr → S3 a = S a := fun a x1 x2 => by rw [hS3, up_ne x2, s2 a x1]
      have ak := akeep_val (S := S3) (t := outV c') (dr := dr) (ra := ra) (n := n0) wo (by unfold rd; rw [f3 41 (by decide) (by omega)]; exact hd9) (by rw [f3 46 (by decide) (by omega)]; exact g1) g2 g3 (by rw [hS3, up_same]) hn0
      have eA : ∀ X : SS × Nat, a_keep S3 (Int32.ofNat n0) = some X → a_get S (Int32.ofNat n0) (Int32.ofNat n1) (Int32.ofNat n2) = if X.2 = 0 then some (X.1, 0) else some (X.1, X.2) := by
        intro X hX
        unfold a_get
        rw [a0, o_bind, if_pos rfl, a1, o_bind, if_pos rfl, a2, o_bind, if_pos rfl, q2, o_bind, q2', tk, o_bind, if_pos (k5.mpr e5), eR, o_bind, if_pos rfl, q1, o_bind, q1', q2, o_bind, q2', s1, o_bind, (refuse_a 0).1 rfl, o_bind, if_pos rfl, d9, d9', wr1, o_bind, hX, o_bind]
      -- the reference's half, on what the class left
      have rs : ∀ T : SS, (∀ a, a ≠ 41 → a ≠ 46 → a ≠ 67 → a ∉ nine → a ≠ 101 → T a = S a) → ∃ T2, b_get T (Int32.ofNat n0) (Int32.ofNat n1) (Int32.ofNat n2) = ((b_finish T2 (Int32.ofNat n0) 2 3).bind fun r18 => some r18) ∧ (∀ a, a ≠ 78 → a ≠ 90 → a ≠ 91 → T2 a = T a) ∧ (∀ k, k ≠ 0 → k ≠ 12 → k ≠ 17 → k ≠ 18 → rd T2 78 k = rd S 78 k) ∧ rd T2 78 0 = 0 ∧ rd T2 78 12 = 0 ∧ (T2 78).length = 22 ∧ OutV T2 (cV (outV c')) ∧ (T2 80).length = 9000 ∧ (T2 (82 + n0)).length = 9000 := by
        intro T hT
        obtain ⟨T1, t1, t2, t3, t4, t5, t6, t7, t8, t9, t10, t11⟩ := rb T hT
        obtain ⟨gv, -⟩ := getv_val (S := T1) (aa := 82 + n1) (ab := 82 + n2) (by omega) (by omega) t5 t4 t7 t8 t6 (by rw [t9 n1 hn1]; exact c1) (by rw [t9 n2 hn2]; exact c2) e5
        obtain ⟨T2, j1, j2, j3, j4, j5⟩ := gv c' hf
        refine ⟨T2, by rw [t11, if_pos e5, j1, o_bind], fun a x1 x2 x3 => by rw [j3 a x1 x2 x3, t1 a x1 x2], fun k y0 y12 y17 y18 => by rw [j4 k y17 y18, t2 k y0 y12], by rw [j4 0 (by decide) (by decide)]; exact t3, by rw [j4 12 (by decide) (by decide)]; exact t4, j5, j2, by rw [j3 80 (by decide) (by decide) (by decide)]; exact t10, ?_⟩
        rw [j3 _ (by omega) (by omega) (by omega), t9 n0 hn0]
        exact (g5 n0 hn0).2.2.2.2.1
      have n9 : ∀ a, a ∉ nine → a ≠ dr := fun a ha e => ha (e ▸ g3.mem_iff.mp List.mem_cons_self)
      by_cases hg : good (outV c')
      · rw [if_pos hg] at ak
        obtain ⟨Sg, hSg⟩ : ∃ Sg, Sg = wr (up S3 46 ((ra.set n0 dr).map Int32.ofNat)) 41 9 (Int32.ofNat (ra.getD n0 0)) := ⟨_, rfl⟩
        rw [← hSg] at ak
        have fg : ∀ a, a ≠ 41 → a ≠ 46 → a ≠ 67 → a ≠ dr → Sg a = S a := fun a x1 x2 x3 x4 => by rw [hSg, wr_ne x1, up_ne x2, f3 a x3 x4]
        obtain ⟨T2, w1, w2, w3, w4, w5, w6, w7, w8, w9⟩ := rs Sg fun a x1 x2 x3 x4 _ => fg a x1 x2 x3 (n9 a x4)
        obtain ⟨fv, -⟩ := finish_val (t := outV c') 2 3 hn0 w5 w4 w6 wo w7 w8 w9
        obtain ⟨W, z1, z2, z3, z4, z5⟩ := fv hg
        have Wf : ∀ a, a ≠ 80 → a ≠ 94 → a ≠ 82 + n0 → a ≠ 78 → a ≠ 90 → a ≠ 91 → W a = Sg a := fun a x1 x2 x3 x4 x5 x6 => by rw [z2 a x1 x2 x3, w2 a x4 x5 x6]
        have W78 : ∀ k, rd W 78 k = rd T2 78 k := fun k => by unfold rd; rw [z2 78 (by decide) (by decide) (by omega)]
        have g41 : ∀ k, k ≠ 9 → rd Sg 41 k = rd S 41 k := fun k hk => by rw [hSg, rd_wr_j (fun e => hk e.symm), rd_up (by decide)]; unfold rd; rw [f3 41 (by decide) (by omega)]
        have W41 : ∀ k, rd W 41 k = rd Sg 41 k := fun k => by unfold rd; rw [Wf 41 (by decide) (by decide) (by omega) (by decide) (by decide) (by decide)]
        have g419 : rd Sg 41 9 = Int32.ofNat (ra.getD n0 0) := by rw [hSg, rd_wr (by rw [up_ne (by decide), f3 41 (by decide) (by omega), l41]; decide)]
        have WS : ∀ a, a ≠ 80 → a ≠ 94 → a ≠ 82 + n0 → a ≠ 78 → a ≠ 90 → a ≠ 91 → a ≠ 41 → a ≠ 46 → a ≠ 67 → a ≠ dr → W a = S a := fun a x1 x2 x3 x4 x5 x6 x7 x8 x9 x10 => (Wf a x1 x2 x3 x4 x5 x6).trans (fg a x7 x8 x9 x10)
        refine ⟨(Sg, 0), W, ?_, fg 0 (by decide) (by decide) (by decide) (by omega), ?_, ?_, WS 0 (by decide) (by decide) (by omega) (by decide) (by decide) (by decide) (by decide) (by decide) (by decide) (by omega), ?_⟩
        · unfold h_get; rw [eA _ ak, if_pos rfl, o_bind, if_pos rfl]
        · show b_get Sg _ _ _ = _
          rw [w1, z1, o_bind]
        · show rd W 78 0 = 0
          rw [W78, w4]
        · obtain ⟨y1, y2, y3, y4, y5, y6, y7, y8, y9, y10, y11, y12, y13, y14⟩ := i1
          have K : ∀ a, a ∈ [47, 48, 71, 74, 76, 77, 97, 98, 99, 100, 39, 40, 42, 79, 44, 92] → W a = S a := fun a ha => by
            have d : ∀ a ∈ [47, 48, 71, 74, 76, 77, 97, 98, 99, 100, 39, 40, 42, 79, 44, 92], a ≠ 80 ∧ a ≠ 94 ∧ (a < 82 ∨ 89 < a) ∧ a ≠ 78 ∧ a ≠ 90 ∧ a ≠ 91 ∧ a ≠ 41 ∧ a ≠ 46 ∧ a ≠ 67 ∧ a ∉ nine := by decide
            obtain ⟨x1, x2, x3, x4, x5, x6, x7, x8, x9, x10⟩ := d a ha
            exact WS a x1 x2 (by omega) x4 x5 x6 x7 x8 x9 (n9 a x10)
          have W91 : (W 91).length = 9000 := by rw [z2 91 (by decide) (by decide) (by omega)]; exact w7.1
          have W46 : W 46 = (ra.set n0 dr).map Int32.ofNat := by rw [Wf 46 (by decide) (by decide) (by omega) (by decide) (by decide) (by decide), hSg, wr_ne (by decide), up_same]
          have Wd : W dr = 0 :: bV (outV c') := by rw [Wf dr (by omega) (by omega) (by omega) (by omega) (by omega) (by omega), hSg, wr_ne (by omega), up_ne (by omega), hS3, up_same, pv_fit hg.1]
          have d2 : ∀ a ∈ nine, a ≠ 80 ∧ a ≠ 94 ∧ a < 82 ∧ a ≠ 78 ∧ a ≠ 90 ∧ a ≠ 91 ∧ a ≠ 41 ∧ a ≠ 46 ∧ a ≠ 67 := by decide
          refine finB i3 i4 i5 hn0 wo hg ⟨by unfold rd; rw [K 47 (by decide)]; exact y1, by rw [K 48 (by decide)]; exact y2, by rw [K 71 (by decide)]; exact y3, by rw [K 74 (by decide)]; exact y4, by rw [K 76 (by decide)]; exact y5, by rw [K 77 (by decide)]; exact y6, z3, W91, by rw [K 97 (by decide)]; exact y9, by rw [K 98 (by decide)]; exact y10, by rw [K 99 (by decide)]; exact y11, by rw [K 100 (by decide)]; exact y12, (K 39 (by decide)).trans y13, (K 40 (by decide)).trans y14⟩ ⟨?_, ?_⟩ (K 42 (by decide)) (K 79 (by decide)) ?_ (K 44 (by decide)) (K 92 (by decide)) W46 ?_ (fun a ha hne => ?_) Wd (fun r hr hne => ?_) ⟨z4, z5⟩
          · rw [W78, w3 3 (by decide) (by decide) (by decide) (by decide), W41, g41 10 (by decide)]; exact i2.1
          · rw [W78, w3 4 (by decide) (by decide) (by decide) (by decide), W41, g41 11 (by decide)]; exact i2.2
          · rw [W78, w3 1 (by decide) (by decide) (by decide) (by decide)]
          · rw [W41, g419]
          · obtain ⟨x1, x2, x3, x4, x5, x6, x7, x8, x9⟩ := d2 a ha
            exact WS a x1 x2 (by omega) x4 x5 x6 x7 x8 x9 hne
          · exact WS _ (by omega) (by omega) (by omega) (by omega) (by omega) (by omega) (by omega) (by omega) (by omega) (by omega)
      · rw [if_neg hg] at ak
        obtain ⟨T2, w1, w2, w3, w4, w5, w6, w7, w8, w9⟩ := rs S3 fun a x1 x2 x3 x4 _ => f3 a x3 (n9 a x4)
        obtain ⟨-, fv⟩ := finish_val (t := outV c') 2 3 hn0 w5 w4 w6 wo w7 w8 w9
        obtain ⟨W, z1, z2, z3, z4, z5⟩ := fv hg
        have WS : ∀ a, a ≠ 80 → a ≠ 94 → a ≠ 78 → a ≠ 90 → a ≠ 91 → a ≠ 67 → a ≠ dr → W a = S a := fun a x1 x2 x3 x4 x5 x6 x7 => by rw [z2 a x1 x2 x3, w2 a x3 x4 x5, f3 a x6 x7]
        have W41 : ∀ k, rd W 41 k = rd S 41 k := fun k => by unfold rd; rw [WS 41 (by decide) (by decide) (by decide) (by decide) (by decide) (by decide) (by omega)]
        have W78 : ∀ k, k ≠ 0 → k ≠ 12 → k ≠ 17 → k ≠ 18 → rd W 78 k = rd S 78 k := fun k x0 x1 x2 x3 => by rw [z5 k x0, w3 k x0 x1 x2 x3]
        refine ⟨(S3, 3), W, ?_, f3 0 (by decide) (by omega), ?_, z4, WS 0 (by decide) (by decide) (by decide) (by decide) (by decide) (by decide) (by omega), ?_⟩
        · unfold h_get; rw [eA _ ak, if_neg (show ¬ (1 : Nat) = 0 by decide), o_bind, if_neg (show ¬ (1 : Nat) = 0 by decide), if_neg (show ¬ (1 : Nat) = 2 by decide), if_neg (show ¬ (1 : Nat) = 4 by decide), if_pos rfl]
        · show b_get S3 _ _ _ = _
          rw [w1, z1, o_bind]
        · obtain ⟨y1, y2, y3, y4, y5, y6, y7, y8, y9, y10, y11, y12, y13, y14⟩ := i1
          have K : ∀ a, a ∈ [47, 48, 71, 74, 76, 77, 97, 98, 99, 100, 39, 40, 42, 79, 44, 92, 46] → W a = S a := fun a ha => by
            have d : ∀ a ∈ [47, 48, 71, 74, 76, 77, 97, 98, 99, 100, 39, 40, 42, 79, 44, 92, 46], a ≠ 80 ∧ a ≠ 94 ∧ a ≠ 78 ∧ a ≠ 90 ∧ a ≠ 91 ∧ a ≠ 67 ∧ a ∉ nine := by decide
            obtain ⟨x1, x2, x4, x5, x6, x9, x10⟩ := d a ha
            exact WS a x1 x2 x4 x5 x6 x9 (n9 a x10)
          have W91 : (W 91).length = 9000 := by rw [z2 91 (by decide) (by decide) (by decide)]; exact w7.1
          have d2 : ∀ a ∈ nine, a ≠ 80 ∧ a ≠ 94 ∧ a ≠ 78 ∧ a ≠ 90 ∧ a ≠ 91 ∧ a ≠ 67 := by decide
          exact finA i3 i4 i5 ⟨by unfold rd; rw [K 47 (by decide)]; exact y1, by rw [K 48 (by decide)]; exact y2, by rw [K 71 (by decide)]; exact y3, by rw [K 74 (by decide)]; exact y4, by rw [K 76 (by decide)]; exact y5, by rw [K 77 (by decide)]; exact y6, z3, W91, by rw [K 97 (by decide)]; exact y9, by rw [K 98 (by decide)]; exact y10, by rw [K 99 (by decide)]; exact y11, by rw [K 100 (by decide)]; exact y12, (K 39 (by decide)).trans y13, (K 40 (by decide)).trans y14⟩ ⟨by rw [W78 3 (by decide) (by decide) (by decide) (by decide), W41]; exact i2.1, by rw [W78 4 (by decide) (by decide) (by decide) (by decide), W41]; exact i2.2⟩ (K 42 (by decide)) (K 79 (by decide)) (W78 1 (by decide) (by decide) (by decide) (by decide)) (K 44 (by decide)) (K 92 (by decide)) (K 46 (by decide)) (W41 9) (fun a ha hne => WS a (d2 a ha).1 (d2 a ha).2.1 (d2 a ha).2.2.1 (d2 a ha).2.2.2.1 (d2 a ha).2.2.2.2.1 (d2 a ha).2.2.2.2.2 hne) (fun r hr => WS _ (by omega) (by omega) (by omega) (by omega) (by omega) (by omega) (by omega))
  · refine refu S S (fun _ _ => rfl) (fun T hT hT41 hT11 hTk => ?_) ?_
    · obtain ⟨T1, t1, t2, t3, t4, t5, t6, t7, t8, t9, t10, t11⟩ := rb T fun a x1 _ x3 _ _ => hT a x1 x3
      obtain ⟨T2, j1, j2, j3, j4, j5⟩ := refuse_val t5 t4
      have j1 : b_refuse T1 1 = some T2 := by
        cases hb : b_refuse T1 1 with
        | none => rw [hb] at j1; cases j1
        | some x => rw [hb, o_bind] at j1; exact j1
      obtain ⟨T3, k1, k2, k3, k4, k5'⟩ := finish_ref (Int32.ofNat n0) 2 3 j5 (by rw [j4]; exact t5)
      refine ⟨T3, by rw [t11, if_neg e5, j1, o_bind, k1, o_bind], fun a x1 x2 => by rw [k2 a x1, j2 a x1, t1 a x1 x2], k3, k4, fun k y0 y4 y12 y17 y18 => ?_⟩
      rw [k5' k y0 y4, j3 k y12 y17 y18, t2 k y0 y12]
      unfold rd
      rw [hT 78 (by decide) (by decide)]
    · unfold a_get
      rw [a0, o_bind, if_pos rfl, a1, o_bind, if_pos rfl, a2, o_bind, if_pos rfl, q2, o_bind, q2', tk, o_bind, if_neg (fun q => e5 (k5.mp q)), (refuse_a 1).2 (by decide), o_bind, if_neg (show ¬ (4 : Nat) = 0 by decide)]
end Get139
