/-! The calls feed and print. -/
section Ops125
/-- an int's bytes -/
def b4 (v : Int32) : List Int32 := [(v >>> (24 &&& 31)) &&& 255, (v >>> (16 &&& 31)) &&& 255, (v >>> (8 &&& 31)) &&& 255, v &&& 255]
theorem b4_byt (v : Int32) : byt (b4 v) := by
  intro u hu
  simp only [b4, List.mem_cons, List.not_mem_nil, or_false] at hu
  rcases hu with rfl | rfl | rfl | rfl <;> exact b_and _
theorem putInt_pv (S : SS) (o : Nat) (B : List Int32) (v : Int32) : c_putInt (up S o (pv B)) o v = some (up S o (pv (B ++ b4 v))) := by
  unfold c_putInt
  rw [sput_pv, sput_pv, sput_pv, sput_pv]
  simp [b4]
/-- the reference's tape, written so far -/
def FT (S : SS) (T : List Int32) : Prop := (S 79).length = 4096 ∧ (∃ j, S 79 = T ++ j) ∧ rd S 78 1 = Int32.ofNat T.length ∧ (S 78).length = 22
def fr78 (S S' : SS) : Prop := (∀ a, a ≠ 78 → a ≠ 79 → S' a = S a) ∧ ∀ k, k ≠ 1 → rd S' 78 k = rd S 78 k
theorem fr78.trans {S S1 S2 : SS} (a : fr78 S S1) (b : fr78 S1 S2) : fr78 S S2 := ⟨fun x h1 h2 => (b.1 x h1 h2).trans (a.1 x h1 h2), fun k hk => (b.2 k hk).trans (a.2 k hk)⟩
theorem four_step {S : SS} {T : List Int32} {v l : Int32} {n : Nat} (h : FT S T) (hT : T.length < 4096) (hl : ¬ l < 0) : ∃ S', b_four_l3 (n + 1) S v l = b_four_l3 n S' v (l + (-8)) ∧ FT S' (T ++ [(v >>> (l &&& 31)) &&& 255]) ∧ fr78 S S' := by
  obtain ⟨h1, ⟨j, h2⟩, h3, h4⟩ := h
  cases j with
  | nil => rw [h2, List.append_nil] at h1; omega
  | cons y j =>
    refine ⟨wr (up S 79 ((S 79).set T.length ((v >>> (l &&& 31)) &&& 255))) 78 1 (rd (up S 79 ((S 79).set T.length ((v >>> (l &&& 31)) &&& 255))) 78 1 + 1), ?_, ⟨?_, ⟨j, ?_⟩, ?_, ?_⟩, fun a n1 n2 => ?_, fun k hk => ?_⟩
    · show b_four_l3 (n + 1) S v l = b_four_l3 n (wr (up S 79 ((S 79).set T.length ((v >>> (l &&& 31)) &&& 255))) 78 1 (rd (up S 79 ((S 79).set T.length ((v >>> (l &&& 31)) &&& 255))) 78 1 + 1)) v (l + (-8))
      have : iset (S 79) (rd S 78 1) ((v >>> (l &&& 31)) &&& 255) = some ((S 79).set T.length ((v >>> (l &&& 31)) &&& 255)) := by
        unfold iset
        rw [h3, if_neg (i_nn (by omega)), i_cl (by omega), if_pos (by omega)]
      show (if l < 0 then some S else _) = _
      rw [if_neg hl, this, o_bind]
    · rw [wr_ne (by decide), up_same, List.length_set]; exact h1
    · rw [wr_ne (by decide), up_same, h2, List.set_append_right _ _ (Nat.le_refl _), Nat.sub_self, List.set_cons_zero, List.append_assoc]; rfl
    · rw [rd_wr (by rw [up_ne (by decide), h4]; decide), rd_up (by decide), h3, i_a1, List.length_append]; rfl
    · rw [wr_len, up_ne (by decide)]; exact h4
    · rw [wr_ne n1, up_ne n2]
    · rw [rd_wr_j (fun e => hk e.symm), rd_up (by decide)]
theorem shr0 (v : Int32) : v >>> ((0 : Int32) &&& 31) = v := by
  rw [show ((0 : Int32) &&& 31) = 0 from by decide]
  exact Int32.shiftRight_zero
theorem four_FT {S : SS} {T : List Int32} (v : Int32) (h : FT S T) (hT : T.length + 4 ≤ 4096) : ∃ S', b_four S v = some S' ∧ FT S' (T ++ b4 v) ∧ fr78 S S' := by
  obtain ⟨S1, e1, f1, g1⟩ := four_step (v := v) (l := 24) (n := 9999) h (by omega) (by decide)
  obtain ⟨S2, e2, f2, g2⟩ := four_step (v := v) (l := 24 + (-8)) (n := 9998) f1 (by rw [List.length_append]; simp only [List.length_cons, List.length_nil]; omega) (by decide)
  obtain ⟨S3, e3, f3, g3⟩ := four_step (v := v) (l := 24 + (-8) + (-8)) (n := 9997) f2 (by rw [List.length_append, List.length_append]; simp only [List.length_cons, List.length_nil]; omega) (by decide)
  obtain ⟨S4, e4, f4, g4⟩ := four_step (v := v) (l := 24 + (-8) + (-8) + (-8)) (n := 9996) f3 (by rw [List.length_append, List.length_append, List.length_append]; simp only [List.length_cons, List.length_nil]; omega) (by decide)
  refine ⟨S4, ?_, ?_, ((g1.trans g2).trans g3).trans g4⟩
  · unfold b_four
    rw [e1, e2, e3, e4]
    show (if (24 + (-8) + (-8) + (-8) + (-8) : Int32) < 0 then some S4 else _) = _
    rw [if_pos (by decide)]
  · have e : T ++ b4 v = T ++ [(v >>> ((24 : Int32) &&& 31)) &&& 255] ++ [(v >>> ((24 + (-8) : Int32) &&& 31)) &&& 255] ++ [(v >>> ((24 + (-8) + (-8) : Int32) &&& 31)) &&& 255] ++ [(v >>> ((24 + (-8) + (-8) + (-8) : Int32) &&& 31)) &&& 255] := by
      rw [show (24 + (-8) + (-8) + (-8) : Int32) = 0 from by decide, shr0, show (24 + (-8) + (-8) : Int32) = 8 from by decide, show (24 + (-8) : Int32) = 16 from by decide]
      simp [b4]
    rw [e]
    exact f4
theorem b4_len (v : Int32) : (b4 v).length = 4 := rfl
theorem byt.app {a b : List Int32} (ha : byt a) (hb : byt b) : byt (a ++ b) := fun u hu => (List.mem_append.mp hu).elim (ha u) (hb u)
theorem pv_fit {B : List Int32} (h : B.length ≤ 4096) : pv B = 0 :: B := by
  unfold pv
  rw [if_pos h, List.take_of_length_le h]
theorem op0 : stp0 Inv := by
  intro S p0 p1 p2 p3 p4 hc hI
  obtain ⟨l78, l41, -⟩ := cs.l78 hc
  obtain ⟨-, -, ⟨tape, i3⟩, -⟩ := id hI
  obtain ⟨q1, q2, q3, q4, q5, q6⟩ := i3
  have t1 : tT S 42 = tape := by unfold tT; rw [q1]; rfl
  have z20 : (20 : Int32) = Int32.ofNat 20 := rfl
  have z4096 : (4096 : Int32) = Int32.ofNat 4096 := rfl
  by_cases h : tape.length + 20 ≤ 4096
  · have hle : Int32.ofNat tape.length + 20 ≤ 4096 := by rw [z20, ← Int32.ofNat_add, z4096, i_le' (by omega) (by omega)]; exact h
    obtain ⟨T5, hT5⟩ : ∃ T5, T5 = tape ++ b4 p0 ++ b4 p1 ++ b4 p2 ++ b4 p3 ++ b4 p4 := ⟨_, rfl⟩
    have lT5 : T5.length = tape.length + 20 := by rw [hT5]; simp only [List.length_append, b4_len]
    have eA : a_feed S p0 p1 p2 p3 p4 = some (up S 42 (0 :: T5), 0, Int32.ofNat T5.length) := by
      unfold a_feed
      have e0 : S = up S 42 (pv tape) := by rw [pv_fit q2, ← q1, up_self]
      have e5 : tT (up S 42 (pv T5)) 42 = T5 := by rw [(pv_T S 42 T5).1, List.take_of_length_le (by omega)]
      rw [t1, if_pos hle]
      conv => lhs; rw [e0]
      rw [putInt_pv, o_bind, putInt_pv, o_bind, putInt_pv, o_bind, putInt_pv, o_bind, putInt_pv, o_bind, ← hT5, e5, pv_fit (by omega)]
    obtain ⟨T, hT⟩ : ∃ T, T = up (up S 42 (0 :: T5)) 101 (lgE (Int32.ofNat T5.length).toInt64) := ⟨_, rfl⟩
    have T78 : T 78 = S 78 := by rw [hT, up_ne (by decide), up_ne (by decide)]
    have T79 : T 79 = S 79 := by rw [hT, up_ne (by decide), up_ne (by decide)]
    have f0 : FT (wr T 78 0 0) tape := ⟨by rw [wr_ne (by decide), T79]; exact q4, by rw [wr_ne (by decide), T79]; exact q5, by rw [rd_wr_j (by decide)]; unfold rd; rw [T78]; exact q6, by rw [wr_len, T78]; exact l78⟩
    obtain ⟨S1, e1, f1, g1⟩ := four_FT p0 f0 (by omega)
    obtain ⟨S2, e2, f2, g2⟩ := four_FT p1 f1 (by simp only [List.length_append, b4_len]; omega)
    obtain ⟨S3, e3, f3, g3⟩ := four_FT p2 f2 (by simp only [List.length_append, b4_len]; omega)
    obtain ⟨S4, e4, f4, g4⟩ := four_FT p3 f3 (by simp only [List.length_append, b4_len]; omega)
    obtain ⟨S5, e5, f5, g5⟩ := four_FT p4 f4 (by simp only [List.length_append, b4_len]; omega)
    have g := (((g1.trans g2).trans g3).trans g4).trans g5
    rw [← hT5] at f5
    obtain ⟨u1, u2, u3, u4⟩ := f5
    have oth : ∀ a, a ≠ 42 → a ≠ 79 → a ≠ 78 → a ≠ 101 → S5 a = S a := fun a n1 n2 n3 n4 => by
      rw [g.1 a n3 n2, wr_ne n3, hT, up_ne n4, up_ne n1]
    refine ⟨(T, 0), (S5, rd S5 78 1), ?_, (show T 0 = S 0 by rw [hT, up_ne (by decide), up_ne (by decide)]), ?_, ?_, fun _ => ?_, oth 0 (by decide) (by decide) (by decide) (by decide), ?_⟩
    · unfold h_feed; rw [eA, o_bind, if_pos rfl, hT]
    · show b_feed T p0 p1 p2 p3 p4 = _
      unfold b_feed
      rw [f0.2.2.1, if_pos hle, e1, o_bind, e2, o_bind, e3, o_bind, e4, o_bind, e5, o_bind]
    · show rd S5 78 0 = 0
      rw [g.2 0 (by decide), rd_wr (by rw [T78, l78]; decide)]
    · show lg (S5 101) = (rd S5 78 1).toInt64
      rw [g.1 101 (by decide) (by decide), wr_ne (by decide), hT, up_same, lg_E, u3]
    · refine hI.tape (tape' := T5) oth ?_ ?_ ⟨?_, by omega, ?_, u1, u2, u3⟩
      · rw [g.2 3 (by decide), rd_wr_j (by decide)]; unfold rd; rw [T78]
      · rw [g.2 4 (by decide), rd_wr_j (by decide)]; unfold rd; rw [T78]
      · show S5 42 = _
        rw [g.1 42 (by decide) (by decide), wr_ne (by decide), hT, up_ne (by decide), up_same]
      · rw [hT5]; exact ((((q3.app (b4_byt p0)).app (b4_byt p1)).app (b4_byt p2)).app (b4_byt p3)).app (b4_byt p4)
  · have hle : ¬ Int32.ofNat tape.length + 20 ≤ 4096 := by rw [z20, ← Int32.ofNat_add, z4096, i_le' (by omega) (by omega)]; exact h
    refine ⟨(S, 1), (wr S 78 0 1, 0), ?_, rfl, ?_, rd_wr (by rw [l78]; decide), fun e => absurd e (show ¬ (1 : Int32) = 0 by decide), (show wr S 78 0 1 0 = S 0 from wr_ne (by decide)), note1 hI⟩
    · unfold h_feed a_feed; rw [t1, if_neg hle, o_bind, if_neg (show ¬ (1 : Nat) = 0 by decide), if_pos rfl]
    · show b_feed S p0 p1 p2 p3 p4 = _
      unfold b_feed; rw [rd_wr_j (by decide), q6, if_neg hle, fail_eq, o_bind]
/-- a register's number -/
theorem reg_ok (S : SS) {r : Int32} (h : ¬ r < 0 ∧ r < 8) : a_reg S r = some (S, 0) ∧ b_none S r = some 0 ∧ ∃ n, n < 8 ∧ r = Int32.ofNat n := by
  obtain ⟨h1, h2⟩ := h
  have h3 : r ≤ 7 := by
    rw [i_lt] at h2; rw [i_le]
    have : (8 : Int32).toInt = 8 := rfl
    have : (7 : Int32).toInt = 7 := rfl
    omega
  refine ⟨?_, ?_, ?_⟩
  · unfold a_reg; rw [if_neg h1, if_pos h2]
  · unfold b_none; rw [if_neg h1, if_pos h3]
  · obtain ⟨d1, d2⟩ := i_dec h1
    refine ⟨_, ?_, d1⟩
    rw [d1, show (8 : Int32) = Int32.ofNat 8 from rfl, i_lt' d2 (by omega)] at h2
    exact h2
theorem reg_bad (S : SS) {r : Int32} (h : ¬ (¬ r < 0 ∧ r < 8)) : a_reg S r = some (S, 2) ∧ b_none S r = some 1 := by
  unfold a_reg b_none
  by_cases h1 : r < 0
  · rw [if_pos h1, if_pos h1]; exact ⟨rfl, rfl⟩
  · have h2 : ¬ r < 8 := fun e => h ⟨h1, e⟩
    have h3 : ¬ r ≤ 7 := by
      rw [i_lt] at h2; rw [i_le]
      have : (8 : Int32).toInt = 8 := rfl
      have : (7 : Int32).toInt = 7 := rfl
      omega
    rw [if_neg h1, if_neg h2, if_neg h1, if_neg h3]; exact ⟨rfl, rfl⟩
theorem get46 {S : SS} {ra : List Nat} {n : Nat} (h : S 46 = ra.map Int32.ofNat) (hl : ra.length = 8) (hn : n < 8) (hm : ra.getD n 0 < 1000) : iget (S 46) (Int32.ofNat n) = some (Int32.ofNat (ra.getD n 0)) ∧ (Int32.ofNat (ra.getD n 0)).toNatClampNeg = ra.getD n 0 := by
  refine ⟨?_, i_cl (by omega)⟩
  rw [iget_in (by rw [h, List.length_map]; omega) (by omega)]
  congr 1
  have : (S 46)[n]'(by rw [h, List.length_map]; omega) = (ra.map Int32.ofNat)[n]'(by rw [List.length_map]; omega) := List.getElem_of_eq h _
  rw [this, List.getElem_map, List.getD_eq_getElem?_getD, List.getElem?_eq_getElem (by omega)]
  rfl
theorem get81 : ∀ n, n < 8 → iget sh81 (Int32.ofNat n) = some (Int32.ofNat (82 + n)) ∧ (Int32.ofNat (82 + n)).toNatClampNeg = 82 + n := by decide
theorem nine_lt : ∀ a ∈ nine, a < 1000 ∧ a ∈ shT ∧ a ≠ 44 ∧ a ≠ 42 ∧ 49 ≤ a ∧ a ≤ 65 := by decide
theorem tcut_all (us : List Int32) (h : us.length < 2147483648) : tcut us 0 (Int32.ofNat us.length) = us := by
  unfold tcut
  rw [i_cl h, List.take_of_length_le (Nat.le_refl _)]
  rfl
theorem op3 : stp3 Inv := by
  intro S p0 hc hI
  obtain ⟨l78, l41, -⟩ := cs.l78 hc
  obtain ⟨i1, i2, ⟨tape, i3⟩, -, ts, dr, ra, i5⟩ := id hI
  obtain ⟨g1, g2, g3, g4, g5⟩ := id i5
  by_cases hp : ¬ p0 < 0 ∧ p0 < 8
  · obtain ⟨a1, -, n, hn, rfl⟩ := reg_ok S hp
    obtain ⟨r1, r2, r3, r4, r5, j, r6⟩ := g5 n hn
    have hm := nine_lt _ (ra_mem g3 g2 hn)
    obtain ⟨e46, e46'⟩ := get46 g1 g2 hn hm.1
    obtain ⟨e81, e81'⟩ := get81 n hn
    have tn : tT S (ra.getD n 0) = bV (ts n) := by unfold tT; rw [r1]; rfl
    have eC : scopy S 44 (ra.getD n 0) = some (up S 44 (0 :: bV (ts n))) := by
      unfold scopy
      rw [show up S 44 [0] = up S 44 (pv []) from rfl, spart_pv (fun e => hm.2.2.1 e.symm) ?_ (by decide), List.nil_append, tn, tcut_all _ (by omega), pv_fit r2]
      rw [show (-10000 : Int32) = Int32.ofInt (-10000) from rfl, i_lt, i_ofInt (by decide) (by decide), i_of (by rw [tn]; omega)]
      omega
    obtain ⟨T, hT⟩ : ∃ T, T = up (up S 44 (0 :: bV (ts n))) 101 (lgE (Int32.ofNat (bV (ts n)).length).toInt64) := ⟨_, rfl⟩
    have T78 : T 78 = S 78 := by rw [hT, up_ne (by decide), up_ne (by decide)]
    have T82 : T (82 + n) = S (82 + n) := by rw [hT, up_ne (by omega), up_ne (by omega)]
    have eV : w_value 64 (up (wr T 78 0 0) 92 [0]) 92 (82 + n) 0 = some (up (wr T 78 0 0) 92 (0 :: bV (ts n))) := by
      have := value_pv (ts n) r3 64 (by omega) (wr T 78 0 0) 92 (82 + n) 0 [] j (by omega) (by rw [wr_ne (by omega), T82]; omega) (by rw [wr_ne (by omega), T82, List.drop_zero, r6])
      rw [List.nil_append, pv_fit r2] at this
      exact this
    obtain ⟨W, hW⟩ : ∃ W, W = up (wr T 78 0 0) 92 (0 :: bV (ts n)) := ⟨_, rfl⟩
    have oth : ∀ a, a ≠ 44 → a ≠ 92 → a ≠ 78 → a ≠ 101 → W a = S a := fun a n1 n2 n3 n4 => by
      rw [hW, up_ne n2, wr_ne n3, hT, up_ne n4, up_ne n1]
    have W78 : ∀ k, k ≠ 0 → rd W 78 k = rd S 78 k := fun k hk => by
      rw [hW, rd_up (by decide), rd_wr_j (fun e => hk e.symm)]; unfold rd; rw [T78]
    refine ⟨(T, 0), (W, Int32.ofNat (bV (ts n)).length), ?_, (show T 0 = S 0 by rw [hT, up_ne (by decide), up_ne (by decide)]), ?_, ?_, fun _ => ?_, oth 0 (by decide) (by decide) (by decide) (by decide), ?_⟩
    · unfold h_print a_print
      have t44 : tT (up S 44 (0 :: bV (ts n))) 44 = bV (ts n) := by unfold tT; rw [up_same]; rfl
      rw [a1, o_bind, if_pos rfl, e46, o_bind, e46', eC, o_bind, o_bind, if_pos rfl, t44, hT]
    · show b_print T (Int32.ofNat n) = _
      unfold b_print
      have t92 : tT W 92 = bV (ts n) := by unfold tT; rw [hW, up_same]; rfl
      rw [(reg_ok (wr T 78 0 0) hp).2.1, o_bind, if_pos rfl, e81, o_bind, e81', eV, o_bind, ← hW, t92]
    · show rd W 78 0 = 0
      rw [hW, rd_up (by decide), rd_wr (by rw [T78, l78]; decide)]
    · show lg (W 101) = _
      rw [hW, up_ne (by decide), wr_ne (by decide), hT, up_same, lg_E]
    · have e41 : ∀ k, rd W 41 k = rd S 41 k := fun k => by unfold rd; rw [oth 41 (by decide) (by decide) (by decide) (by decide)]
      have d1 : ∀ a ∈ [47, 48, 71, 74, 76, 77, 80, 91, 97, 98, 99, 100, 39, 40], a ≠ 44 ∧ a ≠ 92 ∧ a ≠ 78 ∧ a ≠ 101 := by decide
      have d2 : ∀ a ∈ nine, a ≠ 44 ∧ a ≠ 92 ∧ a ≠ 78 ∧ a ≠ 101 := by decide
      refine ⟨i1.move fun a ha => oth a (d1 a ha).1 (d1 a ha).2.1 (d1 a ha).2.2.1 (d1 a ha).2.2.2, ⟨by rw [W78 3 (by decide), e41]; exact i2.1, by rw [W78 4 (by decide), e41]; exact i2.2⟩, ⟨tape, i3.move (oth 42 (by decide) (by decide) (by decide) (by decide)) (oth 79 (by decide) (by decide) (by decide) (by decide)) (W78 1 (by decide))⟩, ⟨bV (ts n), ?_, ?_, r2, (bV_pass (ts n) r3).2⟩, ts, dr, ra, i5.move (oth 46 (by decide) (by decide) (by decide) (by decide)) (e41 9) (fun a ha => oth a (d2 a ha).1 (d2 a ha).2.1 (d2 a ha).2.2.1 (d2 a ha).2.2.2) (fun r hr => oth _ (by omega) (by omega) (by omega) (by omega))⟩
      · show W 44 = _
        rw [hW, up_ne (by decide), wr_ne (by decide), hT, up_ne (by decide), up_same]
      · show W 92 = _
        rw [hW, up_same]
  · obtain ⟨a1, -⟩ := reg_bad S hp
    refine ⟨(S, 1), (wr S 78 0 1, 0), ?_, rfl, ?_, rd_wr (by rw [l78]; decide), fun e => absurd e (show ¬ (1 : Int32) = 0 by decide), (show wr S 78 0 1 0 = S 0 from wr_ne (by decide)), note1 hI⟩
    · unfold h_print a_print; rw [a1, o_bind, if_neg (show ¬ (2 : Nat) = 0 by decide), o_bind, if_neg (show ¬ (2 : Nat) = 0 by decide), if_pos rfl]
    · show b_print S p0 = _
      unfold b_print; rw [(reg_bad (wr S 78 0 0) hp).2, o_bind, if_neg (by decide), fail_eq, o_bind]
end Ops125
