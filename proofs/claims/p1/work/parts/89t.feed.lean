/-! The call feed in the law: the two together. -/
section Feed106
variable {h : mH} {K : Nat × Nat} {ms fs : List Value} {us xs : List Int32} {ov : Int32}
theorem rt.app {l : List mC} (t : rt h ms us) : rt (h ++ l) ms us := by
  obtain ⟨t1, t2, t3, t4, tail, t5, t6⟩ := t
  exact ⟨t1.app, t2, t3, t4, tail, app_get t5, t6⟩
theorem rt.moved {h' : mH} {A : List Nat} (t : rt h ms us) (s : sm A h h') (h1 : 78 ∉ A) (h2 : 79 ∉ A) : rt h' ms us := by
  obtain ⟨t1, t2, t3, t4, tail, t5, t6⟩ := t
  exact ⟨⟨by rw [s.2 78 h1]; exact t1.1, t1.2⟩, t2, t3, t4, tail, by rw [s.2 79 h2]; exact t5, t6⟩
set_option maxRecDepth 100000 in
set_option maxHeartbeats 4000000 in
/-- feed: the class and the reference answer alike, and what they leave -/
theorem law_feed {i : Nat} {y n1 n2 n3 n4 n5 : Int32} {z : Int64} (hl : xs.length ≤ 3072) (h0 : h[0]? = some (1001, xs.map Value.int)) (hy : xs[i]? = some y) (hy1 : y &&& 15 = 0) (hn1 : xs[i + 1]? = some n1) (hn2 : xs[i + 2]? = some n2) (hn3 : xs[i + 3]? = some n3) (hn4 : xs[i + 4]? = some n4) (hn5 : xs[i + 5]? = some n5) (c : h[41]? = some (5, fs)) (hf : fs[0]? = some (.ref 42)) (t : tx h 42 43 us ov) (c2 : h[101]? = some (1002, [.long z])) (tr : rt h ms us) (hK : 1 ≤ K.1 ∧ 6 ≤ K.2) :
    ∃ h' K', law_S i h K h' K' ∧ ((4096 < us.length + 20 ∧ K' = (K.1 - 1, K.2 - 6) ∧ rt h' (ms.set 0 (.int 1)) us ∧ sm [78, 79] (h ++ [(0, [])]) h') ∨
      (us.length + 20 ≤ 4096 ∧ K' = K ∧ tx h' 42 43 (us ++ by4 n1 ++ by4 n2 ++ by4 n3 ++ by4 n4 ++ by4 n5) ov ∧ (∃ z, h'[101]? = some (1002, [.long z])) ∧ sm [42, 43, 101, 78, 79] h h' ∧ ∃ ms', rt h' ms' (us ++ by4 n1 ++ by4 n2 ++ by4 n3 ++ by4 n4 ++ by4 n5) ∧ ms'[0]? = some (.int 0) ∧ ∀ k, k ≠ 0 → k ≠ 1 → ms'[k]? = ms[k]?)) := by
  have a1 := ix_scr hl hy
  have b1 := ix_scr hl hn1
  have e1 : Int32.ofNat i + 1 = Int32.ofNat (i + 1) := (Int32.ofNat_add i 1).symm
  have b2 := ix_scr hl hn2
  have e2 : Int32.ofNat i + 2 = Int32.ofNat (i + 2) := (Int32.ofNat_add i 2).symm
  have b3 := ix_scr hl hn3
  have e3 : Int32.ofNat i + 3 = Int32.ofNat (i + 3) := (Int32.ofNat_add i 3).symm
  have b4 := ix_scr hl hn4
  have e4 : Int32.ofNat i + 4 = Int32.ofNat (i + 4) := (Int32.ofNat_add i 4).symm
  have b5 := ix_scr hl hn5
  have e5 : Int32.ofNat i + 5 = Int32.ofNat (i + 5) := (Int32.ofNat_add i 5).symm
  have hd : m_tsw 40 758 0 10 #[60, 164, 220, 276, 332, 392, 464, 524, 572, 647, 702] (y &&& 15) = 100 := by rw [hy1]; rfl
  have pre : ∀ (r : Outcome × mS) (v : Int32) (S1 : mS) (x5 x6 x7 : Option Value), mE 1999 mm22 (0, [some (.ref 41), some (.int n1), some (.int n2), some (.int n3), some (.int n4), some (.int n5), some (.ref 101), none], [], (h, K)) (.returned (some (.int v)), S1) → mE 2000 mm254 (137, m_lv (Int32.ofNat i) (some (.int v)) x6 x7, [], S1) r → mE 2000 mm254 (33, m_lv (Int32.ofNat i) x5 x6 x7, [], (h, K)) r := by
    intro r v S1 x5 x6 x7 q1 k
    refine mE.sn 2 (g' := (36, m_lv (Int32.ofNat i) x5 x6 x7, [.int (Int32.ofNat i), .ref 0], (h, K))) rfl ?_
    refine mE.iald (v := .int y) rfl h0 a1 ?_
    refine mE.sn 2 (g' := (40, m_lv (Int32.ofNat i) x5 x6 x7, [.int (y &&& 15)], (h, K))) rfl ?_
    refine mE.sn 1 (g' := (100, m_lv (Int32.ofNat i) x5 x6 x7, [], (h, K))) (by rw [← hd]; rfl) ?_
    refine mE.sn 5 (g' := (106, m_lv (Int32.ofNat i) x5 x6 x7, [.int (Int32.ofNat i + 1), .ref 0, .ref 41], (h, K))) rfl ?_
    refine mE.iald (v := .int n1) rfl h0 (by rw [e1]; exact b1) ?_
    refine mE.sn 4 (g' := (112, m_lv (Int32.ofNat i) x5 x6 x7, [.int (Int32.ofNat i + 2), .ref 0, .int n1, .ref 41], (h, K))) rfl ?_
    refine mE.iald (v := .int n2) rfl h0 (by rw [e2]; exact b2) ?_
    refine mE.sn 4 (g' := (118, m_lv (Int32.ofNat i) x5 x6 x7, [.int (Int32.ofNat i + 3), .ref 0, .int n2, .int n1, .ref 41], (h, K))) rfl ?_
    refine mE.iald (v := .int n3) rfl h0 (by rw [e3]; exact b3) ?_
    refine mE.sn 4 (g' := (124, m_lv (Int32.ofNat i) x5 x6 x7, [.int (Int32.ofNat i + 4), .ref 0, .int n3, .int n2, .int n1, .ref 41], (h, K))) rfl ?_
    refine mE.iald (v := .int n4) rfl h0 (by rw [e4]; exact b4) ?_
    refine mE.sn 4 (g' := (130, m_lv (Int32.ofNat i) x5 x6 x7, [.int (Int32.ofNat i + 5), .ref 0, .int n4, .int n3, .int n2, .int n1, .ref 41], (h, K))) rfl ?_
    refine mE.iald (v := .int n5) rfl h0 (by rw [e5]; exact b5) ?_
    refine mE.sn 1 (g' := (132, m_lv (Int32.ofNat i) x5 x6 x7, [.ref 101, .int n5, .int n4, .int n3, .int n2, .int n1, .ref 41], (h, K))) rfl ?_
    refine mE.call rfl rfl rfl rfl rfl q1 ?_
    exact mE.sn 1 (g' := (137, m_lv (Int32.ofNat i) (some (.int v)) x6 x7, [], S1)) rfl k
  have mid : ∀ (r : Outcome × mS) (v w : Int32) (h1 h2 : mH) (K1 : Nat × Nat) (m2 : List Value) (x6 x7 : Option Value), h1[0]? = some (1001, xs.map Value.int) → (∃ q, h1[78]? = some (13, q)) → mE 1999 mm159 (0, [some (.ref 78), some (.int n1), some (.int n2), some (.int n3), some (.int n4), some (.int n5)], [], (h1, K1)) (.returned (some (.int w)), (h2, K1)) → mdl h2 m2 → m2[0]? = some (.int v) → mE 2000 mm254 (184, m_lv (Int32.ofNat i) (some (.int v)) (some (.int w)) x7, [], (h2, K1)) r → mE 2000 mm254 (137, m_lv (Int32.ofNat i) (some (.int v)) x6 x7, [], (h1, K1)) r := by
    intro r v w h1 h2 K1 m2 x6 x7 g0 g78 q2 cm2 hv2 k
    obtain ⟨q, g78⟩ := g78
    refine mE.sn 5 (g' := (143, m_lv (Int32.ofNat i) (some (.int v)) x6 x7, [.int (Int32.ofNat i + 1), .ref 0, .ref 78], (h1, K1))) rfl ?_
    refine mE.iald (v := .int n1) rfl g0 (by rw [e1]; exact b1) ?_
    refine mE.sn 4 (g' := (149, m_lv (Int32.ofNat i) (some (.int v)) x6 x7, [.int (Int32.ofNat i + 2), .ref 0, .int n1, .ref 78], (h1, K1))) rfl ?_
    refine mE.iald (v := .int n2) rfl g0 (by rw [e2]; exact b2) ?_
    refine mE.sn 4 (g' := (155, m_lv (Int32.ofNat i) (some (.int v)) x6 x7, [.int (Int32.ofNat i + 3), .ref 0, .int n2, .int n1, .ref 78], (h1, K1))) rfl ?_
    refine mE.iald (v := .int n3) rfl g0 (by rw [e3]; exact b3) ?_
    refine mE.sn 4 (g' := (161, m_lv (Int32.ofNat i) (some (.int v)) x6 x7, [.int (Int32.ofNat i + 4), .ref 0, .int n3, .int n2, .int n1, .ref 78], (h1, K1))) rfl ?_
    refine mE.iald (v := .int n4) rfl g0 (by rw [e4]; exact b4) ?_
    refine mE.sn 4 (g' := (167, m_lv (Int32.ofNat i) (some (.int v)) x6 x7, [.int (Int32.ofNat i + 5), .ref 0, .int n4, .int n3, .int n2, .int n1, .ref 78], (h1, K1))) rfl ?_
    refine mE.iald (v := .int n5) rfl g0 (by rw [e5]; exact b5) ?_
    refine mE.call rfl rfl rfl rfl (m_rcv_ok g78) q2 ?_
    refine mE.sn 2 (g' := (174, m_lv (Int32.ofNat i) (some (.int v)) (some (.int w)) x7, [.ref 78], (h2, K1))) rfl ?_
    refine mE.call rfl rfl rfl rfl (m_rcv_ok cm2.1) (x158 (d := 1999) cm2 hv2) ?_
    refine mE.sn 1 (g' := (179, m_lv (Int32.ofNat i) (some (.int v)) (some (.int w)) x7, [.int v, .int v], (h2, K1))) rfl ?_
    exact mE.yes (g1 := (184, m_lv (Int32.ofNat i) (some (.int v)) (some (.int w)) x7, [], (h2, K1))) (g2 := (182, m_lv (Int32.ofNat i) (some (.int v)) (some (.int w)) x7, [], (h2, K1))) (c := v = v) rfl rfl k
  obtain ⟨o1, S1, q1, p1⟩ := x22 (d := 1990) c hf t n1 n2 n3 n4 n5 hK c2
  rcases p1 with ⟨hb, rfl, rfl⟩ | ⟨hb, rfl, h1, rfl, t1, c21, s1⟩
  · obtain ⟨o2, S2, q2, p2⟩ := x159 (d := 1998) (K := (K.1 - 1, K.2 - 6)) (tr.app (l := [(0, [])])) n1 n2 n3 n4 n5
    rcases p2 with ⟨-, rfl, h2, rfl, m2, s2⟩ | ⟨hb2, -⟩
    · refine ⟨h2, (K.1 - 1, K.2 - 6), fun r k x5 x6 x7 => ?_, Or.inl ⟨hb, rfl, m2, s2⟩⟩
      refine pre r 1 _ x5 x6 x7 q1 (mid r 1 0 _ h2 _ _ x6 x7 (app_get h0) ⟨_, tr.1.app.1⟩ q2 m2.1 (by rw [List.getElem?_set_self (by rw [tr.1.2]; decide)]) ?_)
      refine mE.sn 1 (g' := (186, m_lv (Int32.ofNat i) (some (.int 1)) (some (.int 0)) x7, [.int 1], (h2, K.1 - 1, K.2 - 6))) rfl ?_
      refine mE.no (g1 := (189, m_lv (Int32.ofNat i) (some (.int 1)) (some (.int 0)) x7, [], (h2, K.1 - 1, K.2 - 6))) (g2 := (201, m_lv (Int32.ofNat i) (some (.int 1)) (some (.int 0)) x7, [], (h2, K.1 - 1, K.2 - 6))) (c := (1 : Int32) = 0) rfl (by decide) ?_
      refine mE.sn 1 (g' := (798, m_lv (Int32.ofNat i) (some (.int 1)) (some (.int 0)) x7, [], (h2, K.1 - 1, K.2 - 6))) rfl ?_
      exact law_next (k _ _ _)
    · exact absurd hb (by omega)
  · have tr1 : rt h1 ms us := tr.moved s1 (by decide) (by decide)
    obtain ⟨o2, S2, q2, p2⟩ := x159 (d := 1998) (K := K) tr1 n1 n2 n3 n4 n5
    rcases p2 with ⟨hb2, -⟩ | ⟨-, rfl, h2, m2, rfl, r2, v2, w2, s2⟩
    · exact absurd hb2 (by omega)
    · have g101 : h2[101]? = some (1002, [.long (Int32.ofNat (us.length + 20)).toInt64]) := by rw [s2.2 101 (by decide)]; exact c21
      have s3 : sm [42, 43, 101, 78, 79] h h2 := sm.trans (h1 := h1) ⟨s1.1, fun k hk => s1.2 k (fun z => hk (by simp at z ⊢; rcases z with z | z | z <;> simp [z]))⟩ ⟨s2.1, fun k hk => s2.2 k (fun z => hk (by simp at z ⊢; rcases z with z | z <;> simp [z]))⟩
      refine ⟨h2, K, fun r k x5 x6 x7 => ?_, Or.inr ⟨hb, rfl, t1.moved s2 (by decide) (by decide), ⟨_, g101⟩, s3, m2, r2, v2, w2⟩⟩
      refine pre r 0 _ x5 x6 x7 q1 (mid r 0 _ h1 h2 K _ x6 x7 (by rw [s1.2 0 (by decide)]; exact h0) ⟨_, tr1.1.1⟩ q2 r2.1 v2 ?_)
      generalize Int32.ofNat (us.length + 20) = n at *
      refine mE.sn 1 (g' := (186, m_lv (Int32.ofNat i) (some (.int 0)) (some (.int n)) x7, [.int 0], (h2, K))) rfl ?_
      refine mE.yes (g1 := (189, m_lv (Int32.ofNat i) (some (.int 0)) (some (.int n)) x7, [], (h2, K))) (g2 := (201, m_lv (Int32.ofNat i) (some (.int 0)) (some (.int n)) x7, [], (h2, K))) (c := (0 : Int32) = 0) rfl rfl ?_
      refine mE.sn 2 (g' := (191, m_lv (Int32.ofNat i) (some (.int 0)) (some (.int n)) x7, [.int 0, .ref 101], (h2, K))) rfl ?_
      refine mE.lald (v := .long n.toInt64) rfl g101 rfl ?_
      refine mE.sn 3 (g' := (196, m_lv (Int32.ofNat i) (some (.int 0)) (some (.int n)) x7, [.int (lg_cmp n.toInt64 n.toInt64)], (h2, K))) rfl ?_
      have ec : lg_cmp n.toInt64 n.toInt64 = 0 := by simp [lg_cmp]
      refine mE.yes (g1 := (201, m_lv (Int32.ofNat i) (some (.int 0)) (some (.int n)) x7, [], (h2, K))) (g2 := (199, m_lv (Int32.ofNat i) (some (.int 0)) (some (.int n)) x7, [], (h2, K))) (c := lg_cmp n.toInt64 n.toInt64 = 0) rfl ec ?_
      refine mE.sn 1 (g' := (798, m_lv (Int32.ofNat i) (some (.int 0)) (some (.int n)) x7, [], (h2, K))) rfl ?_
      exact law_next (k _ _ _)
end Feed106
