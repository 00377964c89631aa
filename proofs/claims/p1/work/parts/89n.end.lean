/-! The call end in the law: the two together. -/
section End100
variable {h : mH} {K : Nat × Nat} {ms fs : List Value} {us xs : List Int32} {ov : Int32}
theorem app_get {l : List mC} {k : Nat} {c : mC} (hc : h[k]? = some c) : (h ++ l)[k]? = some c := by
  rw [List.getElem?_append_left (List.getElem?_eq_some_iff.mp hc).1]
  exact hc
theorem ix_scr {j : Nat} {y : Int32} (hl : xs.length ≤ 3072) (hy : xs[j]? = some y) : m_ix (Int32.ofNat j) (xs.map Value.int) = some (.int y) := by
  have hi := (List.getElem?_eq_some_iff.mp hy).1
  rw [m_ix, if_neg (by rw [i_lt, i_of (by omega)]; have : (0 : Int32).toInt = 0 := rfl; omega), i_nat, i_of (by omega), List.getElem?_map, Int.toNat_natCast, hy]
  rfl
set_option maxRecDepth 100000 in
set_option maxHeartbeats 2000000 in
/-- end: the class and the reference answer alike, and what they leave -/
theorem law_end {i : Nat} {y n : Int32} {z : Int64} (hl : xs.length ≤ 3072) (h0 : h[0]? = some (1001, xs.map Value.int)) (hy : xs[i]? = some y) (hy1 : y &&& 15 = 1) (hn : xs[i + 1]? = some n) (c : h[41]? = some (5, fs)) (hf : fs[0]? = some (.ref 42)) (t : tx h 42 43 us ov) (c2 : h[101]? = some (1002, [.long z])) (cm : mdl h ms) (hv : ms[1]? = some (.int (Int32.ofNat us.length))) (hK : 1 ≤ K.1 ∧ 6 ≤ K.2) :
    ∃ h' K', law_S i h K h' K' ∧ ((e_bad us n ∧ K' = (K.1 - 1, K.2 - 6) ∧ mdl h' (ms.set 0 (.int 1)) ∧ sm [78] (h ++ [(1, [])]) h') ∨
      (¬ e_bad us n ∧ K' = K ∧ tx h' 42 43 (us.take n.toNatClampNeg) ov ∧ (∃ z, h'[101]? = some (1002, [.long z])) ∧ mdl h' ((ms.set 0 (.int 0)).set 1 (.int n)) ∧ sm [42, 101, 78] h h')) := by
  have a1 := ix_scr hl hy
  have a2 := ix_scr hl hn
  have e6 : Int32.ofNat i + 1 = Int32.ofNat (i + 1) := (Int32.ofNat_add i 1).symm
  have hd : m_tsw 40 758 0 10 #[60, 164, 220, 276, 332, 392, 464, 524, 572, 647, 702] (y &&& 15) = 204 := by rw [hy1]; rfl
  -- to the class's call
  have pre : ∀ (r : Outcome × mS) (v : Int32) (S1 : mS) (x5 x6 x7 : Option Value), mE 1999 mm26 (0, [some (.ref 41), some (.int n), some (.ref 101), none], [], (h, K)) (.returned (some (.int v)), S1) → mE 2000 mm254 (217, m_lv (Int32.ofNat i) (some (.int v)) x6 x7, [], S1) r → mE 2000 mm254 (33, m_lv (Int32.ofNat i) x5 x6 x7, [], (h, K)) r := by
    intro r v S1 x5 x6 x7 e1 k
    refine mE.sn 2 (g' := (36, m_lv (Int32.ofNat i) x5 x6 x7, [.int (Int32.ofNat i), .ref 0], (h, K))) rfl ?_
    refine mE.iald (v := .int y) rfl h0 a1 ?_
    refine mE.sn 2 (g' := (40, m_lv (Int32.ofNat i) x5 x6 x7, [.int (y &&& 15)], (h, K))) rfl ?_
    refine mE.sn 1 (g' := (204, m_lv (Int32.ofNat i) x5 x6 x7, [], (h, K))) (by rw [← hd]; rfl) ?_
    refine mE.sn 5 (g' := (210, m_lv (Int32.ofNat i) x5 x6 x7, [.int (Int32.ofNat i + 1), .ref 0, .ref 41], (h, K))) rfl ?_
    refine mE.iald (v := .int n) rfl h0 (by rw [e6]; exact a2) ?_
    refine mE.sn 1 (g' := (212, m_lv (Int32.ofNat i) x5 x6 x7, [.ref 101, .int n, .ref 41], (h, K))) rfl ?_
    refine mE.call rfl rfl rfl rfl rfl e1 ?_
    exact mE.sn 1 (g' := (217, m_lv (Int32.ofNat i) (some (.int v)) x6 x7, [], S1)) rfl k
  -- to the reference's call and the comparison of what was thrown
  have mid : ∀ (r : Outcome × mS) (v w : Int32) (h1 h2 : mH) (K1 : Nat × Nat) (m2 : List Value) (x6 x7 : Option Value), h1[0]? = some (1001, xs.map Value.int) → (∃ q, h1[78]? = some (13, q)) → mE 1999 mm162 (0, [some (.ref 78), some (.int n)], [], (h1, K1)) (.returned (some (.int w)), (h2, K1)) → mdl h2 m2 → m2[0]? = some (.int v) → mE 2000 mm254 (240, m_lv (Int32.ofNat i) (some (.int v)) (some (.int w)) x7, [], (h2, K1)) r → mE 2000 mm254 (217, m_lv (Int32.ofNat i) (some (.int v)) x6 x7, [], (h1, K1)) r := by
    intro r v w h1 h2 K1 m2 x6 x7 g0 g78 e2 cm2 hv2 k
    obtain ⟨q, g78⟩ := g78
    refine mE.sn 5 (g' := (223, m_lv (Int32.ofNat i) (some (.int v)) x6 x7, [.int (Int32.ofNat i + 1), .ref 0, .ref 78], (h1, K1))) rfl ?_
    refine mE.iald (v := .int n) rfl g0 (by rw [e6]; exact a2) ?_
    refine mE.call rfl rfl rfl rfl (m_rcv_ok g78) e2 ?_
    refine mE.sn 2 (g' := (230, m_lv (Int32.ofNat i) (some (.int v)) (some (.int w)) x7, [.ref 78], (h2, K1))) rfl ?_
    refine mE.call rfl rfl rfl rfl (m_rcv_ok cm2.1) (x158 (d := 1999) cm2 hv2) ?_
    refine mE.sn 1 (g' := (235, m_lv (Int32.ofNat i) (some (.int v)) (some (.int w)) x7, [.int v, .int v], (h2, K1))) rfl ?_
    exact mE.yes (g1 := (240, m_lv (Int32.ofNat i) (some (.int v)) (some (.int w)) x7, [], (h2, K1))) (g2 := (238, m_lv (Int32.ofNat i) (some (.int v)) (some (.int w)) x7, [], (h2, K1))) (c := v = v) rfl rfl k
  obtain ⟨o1, S1, e1, p1⟩ := x26 (d := 1990) c hf t n hK c2
  rcases p1 with ⟨hb, rfl, rfl⟩ | ⟨hb, rfl, h1, rfl, t1, c21, s1⟩
  · obtain ⟨o2, S2, e2, p2⟩ := x162 (d := 1998) (K := (K.1 - 1, K.2 - 6)) (cm.app (l := [(1, [])])) hv n
    rcases p2 with ⟨-, rfl, h2, rfl, m2, s2⟩ | ⟨hb2, -⟩
    · refine ⟨h2, (K.1 - 1, K.2 - 6), fun r k x5 x6 x7 => ?_, Or.inl ⟨hb, rfl, m2, s2⟩⟩
      refine pre r 1 _ x5 x6 x7 e1 (mid r 1 0 _ h2 _ _ x6 x7 (app_get h0) ⟨_, cm.app.1⟩ e2 m2 (by rw [List.getElem?_set_self (by rw [cm.2]; decide)]) ?_)
      refine mE.sn 1 (g' := (242, m_lv (Int32.ofNat i) (some (.int 1)) (some (.int 0)) x7, [.int 1], (h2, K.1 - 1, K.2 - 6))) rfl ?_
      refine mE.no (g1 := (245, m_lv (Int32.ofNat i) (some (.int 1)) (some (.int 0)) x7, [], (h2, K.1 - 1, K.2 - 6))) (g2 := (257, m_lv (Int32.ofNat i) (some (.int 1)) (some (.int 0)) x7, [], (h2, K.1 - 1, K.2 - 6))) (c := (1 : Int32) = 0) rfl (by decide) ?_
      refine mE.sn 1 (g' := (798, m_lv (Int32.ofNat i) (some (.int 1)) (some (.int 0)) x7, [], (h2, K.1 - 1, K.2 - 6))) rfl ?_
      exact law_next (k _ _ _)
    · exact absurd hb hb2
  · have cm1 : mdl h1 ms := ⟨by rw [s1.2 78 (by decide)]; exact cm.1, cm.2⟩
    obtain ⟨o2, S2, e2, p2⟩ := x162 (d := 1998) (K := K) cm1 hv n
    rcases p2 with ⟨hb2, -⟩ | ⟨-, rfl, h2, rfl, m2, s2⟩
    · exact absurd hb2 hb
    · have g101 : h2[101]? = some (1002, [.long n.toInt64]) := by rw [s2.2 101 (by decide)]; exact c21
      have s3 : sm [42, 101, 78] h h2 := sm.trans (h1 := h1) ⟨s1.1, fun k hk => s1.2 k (fun z => hk (by simp at z ⊢; rcases z with z | z <;> simp [z]))⟩ ⟨s2.1, fun k hk => s2.2 k (fun z => hk (by simp at z ⊢; simp [z]))⟩
      refine ⟨h2, K, fun r k x5 x6 x7 => ?_, Or.inr ⟨hb, rfl, t1.moved s2 (by decide) (by decide), ⟨_, g101⟩, m2, s3⟩⟩
      refine pre r 0 _ x5 x6 x7 e1 (mid r 0 n h1 h2 K _ x6 x7 (by rw [s1.2 0 (by decide)]; exact h0) ⟨_, cm1.1⟩ e2 m2 (by rw [List.getElem?_set_ne (by decide), List.getElem?_set_self (by rw [cm.2]; decide)]) ?_)
      refine mE.sn 1 (g' := (242, m_lv (Int32.ofNat i) (some (.int 0)) (some (.int n)) x7, [.int 0], (h2, K))) rfl ?_
      refine mE.yes (g1 := (245, m_lv (Int32.ofNat i) (some (.int 0)) (some (.int n)) x7, [], (h2, K))) (g2 := (257, m_lv (Int32.ofNat i) (some (.int 0)) (some (.int n)) x7, [], (h2, K))) (c := (0 : Int32) = 0) rfl rfl ?_
      refine mE.sn 2 (g' := (247, m_lv (Int32.ofNat i) (some (.int 0)) (some (.int n)) x7, [.int 0, .ref 101], (h2, K))) rfl ?_
      refine mE.lald (v := .long n.toInt64) rfl g101 rfl ?_
      refine mE.sn 3 (g' := (252, m_lv (Int32.ofNat i) (some (.int 0)) (some (.int n)) x7, [.int (lg_cmp n.toInt64 n.toInt64)], (h2, K))) rfl ?_
      have ec : lg_cmp n.toInt64 n.toInt64 = 0 := by simp [lg_cmp]
      refine mE.yes (g1 := (257, m_lv (Int32.ofNat i) (some (.int 0)) (some (.int n)) x7, [], (h2, K))) (g2 := (255, m_lv (Int32.ofNat i) (some (.int 0)) (some (.int n)) x7, [], (h2, K))) (c := lg_cmp n.toInt64 n.toInt64 = 0) rfl ec ?_
      refine mE.sn 1 (g' := (798, m_lv (Int32.ofNat i) (some (.int 0)) (some (.int n)) x7, [], (h2, K))) rfl ?_
      exact law_next (k _ _ _)
end End100
