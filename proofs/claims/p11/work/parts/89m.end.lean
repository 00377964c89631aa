section
/-! The call end: the reference's side, and the two together. -/
section End99
variable {d : Nat} {h : mH} {K : Nat × Nat} {ms : List Value} {l : Int32}
/-- the reference's object -/
def mdl (h : mH) (ms : List Value) : Prop := h[78]? = some (13, ms) ∧ ms.length = 22
/-- StepBenchModel.thrown -/
theorem x158 (c : mdl h ms) {v : Int32} (hv : ms[0]? = some (.int v)) : mE d mm158 (0, [some (.ref 78)], [], (h, K)) (.returned (some (.int v)), (h, K)) := by
  refine mE.sn 1 (g' := (1, [some (.ref 78)], [.ref 78], (h, K))) rfl ?_
  refine mE.get rfl c.1 hv ?_
  exact m_ev.fin rfl
theorem mdl.set {i : Nat} {v : Value} (c : mdl h ms) : mdl (h.set 78 (13, ms.set i v)) (ms.set i v) := ⟨m_at_set c.1, by rw [List.length_set]; exact c.2⟩
theorem mdl.app {l : List mC} (c : mdl h ms) : mdl (h ++ l) ms := ⟨by rw [List.getElem?_append_left (List.getElem?_eq_some_iff.mp c.1).1]; exact c.1, c.2⟩
/-- StepBenchModel.fail -/
theorem x160 (c : mdl h ms) (v : Int32) : mE d mm160 (0, [some (.ref 78), some (.int v)], [], (h, K)) (.returned (some (.int 0)), (h.set 78 (13, ms.set 0 (.int v)), K)) := by
  refine mE.sn 2 (g' := (2, [some (.ref 78), some (.int v)], [.int v, .ref 78], (h, K))) rfl ?_
  refine mE.put rfl c.1 (by decide) (by rw [c.2]; rfl) rfl ?_
  refine mE.sn 1 (g' := (6, [some (.ref 78), some (.int v)], [.int 0], (h.set 78 (13, ms.set 0 (.int v)), K))) rfl ?_
  exact m_ev.fin rfl
/-- StepBenchModel.end -/
theorem x162 (c : mdl h ms) (hv : ms[1]? = some (.int l)) (n : Int32) : mW (d + 1) mm162 (0, [some (.ref 78), some (.int n)], [], (h, K)) (fun o S' =>
    ((n < 0 ∨ ¬ n ≤ l) ∧ o = .returned (some (.int 0)) ∧ ∃ h', S' = (h', K) ∧ mdl h' (ms.set 0 (.int 1)) ∧ sm [78] h h') ∨ (¬ (n < 0 ∨ ¬ n ≤ l) ∧ o = .returned (some (.int n)) ∧ ∃ h', S' = (h', K) ∧ mdl h' ((ms.set 0 (.int 0)).set 1 (.int n)) ∧ sm [78] h h')) := by
  have c0 : mdl (h.set 78 (13, ms.set 0 (.int 0))) (ms.set 0 (.int 0)) := c.set
  have hv0 : (ms.set 0 (.int 0))[1]? = some (.int l) := by rw [List.getElem?_set_ne (by decide)]; exact hv
  have s0 : sm [78] h (h.set 78 (13, ms.set 0 (.int 0))) := sm.set (by simp)
  have bad : (n < 0 ∨ ¬ n ≤ l) → mW (d + 1) mm162 (17, [some (.ref 78), some (.int n)], [], (h.set 78 (13, ms.set 0 (.int 0)), K)) (fun o S' =>
      ((n < 0 ∨ ¬ n ≤ l) ∧ o = .returned (some (.int 0)) ∧ ∃ h', S' = (h', K) ∧ mdl h' (ms.set 0 (.int 1)) ∧ sm [78] h h') ∨ (¬ (n < 0 ∨ ¬ n ≤ l) ∧ o = .returned (some (.int n)) ∧ ∃ h', S' = (h', K) ∧ mdl h' ((ms.set 0 (.int 0)).set 1 (.int n)) ∧ sm [78] h h')) := by
    intro hb
    refine mW.sn 2 (g' := (19, [some (.ref 78), some (.int n)], [.int 1, .ref 78], (h.set 78 (13, ms.set 0 (.int 0)), K))) rfl ?_
    refine mW.callE rfl rfl rfl rfl (m_rcv_ok c0.1) (x160 c0 1) ?_
    refine mW.fin rfl (Or.inl ⟨hb, rfl, _, rfl, ?_, s0.trans (sm.set (by simp))⟩)
    exact ⟨by rw [m_at_set c0.1, List.set_set], by rw [List.length_set]; exact c.2⟩
  refine mW.sn 2 (g' := (2, [some (.ref 78), some (.int n)], [.int 0, .ref 78], (h, K))) rfl ?_
  refine mW.put rfl c.1 (by decide) (by rw [c.2]; rfl) rfl ?_
  refine mW.sn 1 (g' := (6, [some (.ref 78), some (.int n)], [.int n], (h.set 78 (13, ms.set 0 (.int 0)), K))) rfl ?_
  refine mW.br (g1 := (17, [some (.ref 78), some (.int n)], [], (h.set 78 (13, ms.set 0 (.int 0)), K))) (g2 := (9, [some (.ref 78), some (.int n)], [], (h.set 78 (13, ms.set 0 (.int 0)), K))) (c := n < 0) rfl (fun hn => bad (Or.inl hn)) (fun hn => ?_)
  refine mW.sn 2 (g' := (11, [some (.ref 78), some (.int n)], [.ref 78, .int n], (h.set 78 (13, ms.set 0 (.int 0)), K))) rfl ?_
  refine mW.get rfl c0.1 hv0 ?_
  refine mW.br (g1 := (23, [some (.ref 78), some (.int n)], [], (h.set 78 (13, ms.set 0 (.int 0)), K))) (g2 := (17, [some (.ref 78), some (.int n)], [], (h.set 78 (13, ms.set 0 (.int 0)), K))) (c := n ≤ l) rfl (fun hl => ?_) (fun hl => bad (Or.inr hl))
  refine mW.sn 2 (g' := (25, [some (.ref 78), some (.int n)], [.int n, .ref 78], (h.set 78 (13, ms.set 0 (.int 0)), K))) rfl ?_
  refine mW.put rfl c0.1 (by decide) (by rw [c0.2]; rfl) rfl ?_
  refine mW.sn 1 (g' := (29, [some (.ref 78), some (.int n)], [.int n], ((h.set 78 (13, ms.set 0 (.int 0))).set 78 (13, (ms.set 0 (.int 0)).set 1 (.int n)), K))) rfl ?_
  exact mW.fin rfl (Or.inr ⟨fun z => z.elim hn (fun z => z hl), rfl, _, rfl, c0.set, s0.trans (sm.set (by simp))⟩)
end End99
end

section
/-! The call end in the law: the two together. -/
section End100
variable {h : mH} {K : Nat × Nat} {ms fs : List Value} {us xs : List Int32} {ov : Int32}
theorem app_get {l : List mC} {k : Nat} {c : mC} (hc : h[k]? = some c) : (h ++ l)[k]? = some c := by
  rw [List.getElem?_append_left (List.getElem?_eq_some_iff.mp hc).1]
  exact hc
theorem ix_scr {j : Nat} {y : Int32} (hl : xs.length ≤ 3072) (hy : xs[j]? = some y) : m_ix (Int32.ofNat j) (xs.map Value.int) = some (.int y) := by
  have hi := (List.getElem?_eq_some_iff.mp hy).1
  rw [m_ix, if_neg (by rw [i_lt, i_of (by omega)]; have : (0 : Int32).toInt = 0 := rfl; omega), i_nat, i_of (by omega), List.getElem?_map, Int.toNat_natCast, hy]
  rfl
end End100
end

section
/-! The call feed, the class's side. -/
section Feed101
variable {d : Nat} {h : mH} {K : Nat × Nat} {q : Nat × Nat} {o w : Nat} {fs : List Value} {us : List Int32} {ov : Int32}
/-- an int's four bytes -/
def by4 (n : Int32) : List Int32 := [(n >>> (24 &&& 31)) &&& 255, (n >>> (16 &&& 31)) &&& 255, (n >>> (8 &&& 31)) &&& 255, n &&& 255]
theorem tput_fit {b : Int32} (hl : us.length < 4096) : tput us b = us ++ [b &&& 255] := by rw [tput, if_pos hl]
theorem tputO_fit (hl : us.length < 4096) : tputO us ov = ov := by rw [tputO, if_pos hl]
theorem tputI_fit {n : Int32} (hl : us.length + 4 ≤ 4096) : tputI us n = us ++ by4 n ∧ tputIO us ov n = ov := by
  have e1 := tput_fit (us := us) (b := n >>> (24 &&& 31)) (by omega)
  have e2 := tput_fit (us := us ++ [(n >>> (24 &&& 31)) &&& 255]) (b := n >>> (16 &&& 31)) (by simp; omega)
  have e3 := tput_fit (us := us ++ [(n >>> (24 &&& 31)) &&& 255] ++ [(n >>> (16 &&& 31)) &&& 255]) (b := n >>> (8 &&& 31)) (by simp; omega)
  have e4 := tput_fit (us := us ++ [(n >>> (24 &&& 31)) &&& 255] ++ [(n >>> (16 &&& 31)) &&& 255] ++ [(n >>> (8 &&& 31)) &&& 255]) (b := n) (by simp; omega)
  constructor
  · rw [tputI, e1, e2, e3, e4, by4]
    simp
  · rw [tputIO, e1, e2, e3, tputO_fit (by simp; omega), tputO_fit (by simp; omega), tputO_fit (by simp; omega), tputO_fit (by omega)]
theorem by4_len (n : Int32) : (by4 n).length = 4 := rfl
theorem x25f (t : tx h o w us ov) (n : Int32) (hl : us.length + 4 ≤ 4096) : ∃ h', mE (d + 1) mm25 (0, [some (.ref o), some (.int n)], [], (h, q)) (.returned none, (h', q)) ∧ tx h' o w (us ++ by4 n) ov ∧ sm [o, w] h h' := by
  obtain ⟨h', e, t', s⟩ := x25 (d := d) (q := q) t n
  rw [(tputI_fit (ov := ov) hl).1, (tputI_fit (ov := ov) hl).2] at t'
  exact ⟨h', e, t', s⟩
/-- StepBench.feed -/
theorem x23 (c : h[41]? = some (5, fs)) (hf : fs[0]? = some (.ref 42)) (t : tx h 42 43 us ov) (n1 n2 n3 n4 n5 : Int32) (hK : 1 ≤ K.1 ∧ 6 ≤ K.2) : mW (d + 8) mm23 (0, [some (.ref 41), some (.int n1), some (.int n2), some (.int n3), some (.int n4), some (.int n5)], [], (h, K)) (fun o S' =>
    (4096 < us.length + 20 ∧ o = .threw h.length ∧ S' = (h ++ [(0, [])], K.1 - 1, K.2 - 6)) ∨ (us.length + 20 ≤ 4096 ∧ o = .returned (some (.int (Int32.ofNat (us.length + 20)))) ∧ ∃ h', S' = (h', K) ∧ tx h' 42 43 (us ++ by4 n1 ++ by4 n2 ++ by4 n3 ++ by4 n4 ++ by4 n5) ov ∧ sm [42, 43] h h')) := by
  have e20 : Int32.ofNat us.length + 20 = Int32.ofNat (us.length + 20) := (Int32.ofNat_add us.length 20).symm
  have hu := t.2.2.2.1
  refine mW.sn 1 (g' := (1, [some (.ref 41), some (.int n1), some (.int n2), some (.int n3), some (.int n4), some (.int n5)], [.ref 41], (h, K))) rfl ?_
  refine mW.get rfl c hf ?_
  refine mW.callE rfl rfl rfl rfl (m_rcv_ok t.2.2.1) (x24 t) ?_
  refine mW.sn 3 (g' := (13, [some (.ref 41), some (.int n1), some (.int n2), some (.int n3), some (.int n4), some (.int n5)], [.int 4096, .int (Int32.ofNat us.length + 20)], (h, K))) rfl ?_
  refine mW.br (g1 := (24, [some (.ref 41), some (.int n1), some (.int n2), some (.int n3), some (.int n4), some (.int n5)], [], (h, K))) (g2 := (16, [some (.ref 41), some (.int n1), some (.int n2), some (.int n3), some (.int n4), some (.int n5)], [], (h, K))) (c := Int32.ofNat us.length + 20 ≤ 4096) rfl (fun hl => ?_) (fun hl => ?_)
  · have hl' : us.length + 20 ≤ 4096 := by
      rw [e20, i_le, i_of (by omega)] at hl
      have : (4096 : Int32).toInt = 4096 := rfl
      omega
    obtain ⟨h1, a1, t1, s1⟩ := x25f (d := d + 6) (q := K) t n1 (by first | omega | (simp only [List.length_append, by4_len]; omega))
    have c1 : h1[41]? = some (5, fs) := by rw [s1.2 41 (by decide)]; exact c
    obtain ⟨h2, a2, t2, s2⟩ := x25f (d := d + 6) (q := K) t1 n2 (by first | omega | (simp only [List.length_append, by4_len]; omega))
    have c2 : h2[41]? = some (5, fs) := by rw [s2.2 41 (by decide)]; exact c1
    obtain ⟨h3, a3, t3, s3⟩ := x25f (d := d + 6) (q := K) t2 n3 (by first | omega | (simp only [List.length_append, by4_len]; omega))
    have c3 : h3[41]? = some (5, fs) := by rw [s3.2 41 (by decide)]; exact c2
    obtain ⟨h4, a4, t4, s4⟩ := x25f (d := d + 6) (q := K) t3 n4 (by first | omega | (simp only [List.length_append, by4_len]; omega))
    have c4 : h4[41]? = some (5, fs) := by rw [s4.2 41 (by decide)]; exact c3
    obtain ⟨h5, a5, t5, s5⟩ := x25f (d := d + 6) (q := K) t4 n5 (by first | omega | (simp only [List.length_append, by4_len]; omega))
    have c5 : h5[41]? = some (5, fs) := by rw [s5.2 41 (by decide)]; exact c4
    refine mW.sn 1 (g' := (25, [some (.ref 41), some (.int n1), some (.int n2), some (.int n3), some (.int n4), some (.int n5)], [.ref 41], (h, K))) rfl ?_
    refine mW.get rfl c hf ?_
    refine mW.sn 1 (g' := (29, [some (.ref 41), some (.int n1), some (.int n2), some (.int n3), some (.int n4), some (.int n5)], [.int n1, .ref 42], (h, K))) rfl ?_
    refine mW.callE rfl rfl rfl rfl (m_rcv_ok t.2.2.1) a1 ?_
    refine mW.sn 1 (g' := (33, [some (.ref 41), some (.int n1), some (.int n2), some (.int n3), some (.int n4), some (.int n5)], [.ref 41], (h1, K))) rfl ?_
    refine mW.get rfl c1 hf ?_
    refine mW.sn 1 (g' := (37, [some (.ref 41), some (.int n1), some (.int n2), some (.int n3), some (.int n4), some (.int n5)], [.int n2, .ref 42], (h1, K))) rfl ?_
    refine mW.callE rfl rfl rfl rfl (m_rcv_ok t1.2.2.1) a2 ?_
    refine mW.sn 1 (g' := (41, [some (.ref 41), some (.int n1), some (.int n2), some (.int n3), some (.int n4), some (.int n5)], [.ref 41], (h2, K))) rfl ?_
    refine mW.get rfl c2 hf ?_
    refine mW.sn 1 (g' := (45, [some (.ref 41), some (.int n1), some (.int n2), some (.int n3), some (.int n4), some (.int n5)], [.int n3, .ref 42], (h2, K))) rfl ?_
    refine mW.callE rfl rfl rfl rfl (m_rcv_ok t2.2.2.1) a3 ?_
    refine mW.sn 1 (g' := (49, [some (.ref 41), some (.int n1), some (.int n2), some (.int n3), some (.int n4), some (.int n5)], [.ref 41], (h3, K))) rfl ?_
    refine mW.get rfl c3 hf ?_
    refine mW.sn 1 (g' := (54, [some (.ref 41), some (.int n1), some (.int n2), some (.int n3), some (.int n4), some (.int n5)], [.int n4, .ref 42], (h3, K))) rfl ?_
    refine mW.callE rfl rfl rfl rfl (m_rcv_ok t3.2.2.1) a4 ?_
    refine mW.sn 1 (g' := (58, [some (.ref 41), some (.int n1), some (.int n2), some (.int n3), some (.int n4), some (.int n5)], [.ref 41], (h4, K))) rfl ?_
    refine mW.get rfl c4 hf ?_
    refine mW.sn 1 (g' := (63, [some (.ref 41), some (.int n1), some (.int n2), some (.int n3), some (.int n4), some (.int n5)], [.int n5, .ref 42], (h4, K))) rfl ?_
    refine mW.callE rfl rfl rfl rfl (m_rcv_ok t4.2.2.1) a5 ?_
    refine mW.sn 1 (g' := (67, [some (.ref 41), some (.int n1), some (.int n2), some (.int n3), some (.int n4), some (.int n5)], [.ref 41], (h5, K))) rfl ?_
    refine mW.get rfl c5 hf ?_
    refine mW.callE rfl rfl rfl rfl (m_rcv_ok t5.2.2.1) (x24 t5) ?_
    refine mW.fin rfl (Or.inr ⟨hl', ?_, h5, rfl, t5, (((s1.trans s2).trans s3).trans s4).trans s5⟩)
    have el : (us ++ by4 n1 ++ by4 n2 ++ by4 n3 ++ by4 n4 ++ by4 n5).length = us.length + 20 := by simp only [List.length_append, by4_len]
    rw [el]
    rfl
  · refine mW.thr rfl rfl hK (by omega) (by decide) (Or.inl ⟨?_, rfl, rfl⟩)
    rw [e20, i_le, i_of (by omega)] at hl
    have : (4096 : Int32).toInt = 4096 := rfl
    omega
end Feed101
end

section
/-! The call feed: the law's helper that catches. -/
section Feed102
variable {d : Nat} {h : mH} {K : Nat × Nat} {fs : List Value} {us : List Int32} {ov : Int32}
/-- the law's feed -/
theorem x22 (c : h[41]? = some (5, fs)) (hf : fs[0]? = some (.ref 42)) (t : tx h 42 43 us ov) (n1 n2 n3 n4 n5 : Int32) (hK : 1 ≤ K.1 ∧ 6 ≤ K.2) {y : Int64} (c2 : h[101]? = some (1002, [.long y])) : mW (d + 9) mm22 (0, [some (.ref 41), some (.int n1), some (.int n2), some (.int n3), some (.int n4), some (.int n5), some (.ref 101), none], [], (h, K)) (fun o S' =>
    (4096 < us.length + 20 ∧ o = .returned (some (.int 1)) ∧ S' = (h ++ [(0, [])], K.1 - 1, K.2 - 6)) ∨ (us.length + 20 ≤ 4096 ∧ o = .returned (some (.int 0)) ∧ ∃ h', S' = (h', K) ∧ tx h' 42 43 (us ++ by4 n1 ++ by4 n2 ++ by4 n3 ++ by4 n4 ++ by4 n5) ov ∧ h'[101]? = some (1002, [.long (Int32.ofNat (us.length + 20)).toInt64]) ∧ sm [42, 43, 101] h h')) := by
  refine mW.sn 8 (g' := (11, [some (.ref 41), some (.int n1), some (.int n2), some (.int n3), some (.int n4), some (.int n5), some (.ref 101), none], [.int n5, .int n4, .int n3, .int n2, .int n1, .ref 41, .int 0, .ref 101], (h, K))) rfl ?_
  refine mW.call rfl rfl rfl rfl (m_rcv_ok c) (x23 (d := d) c hf t n1 n2 n3 n4 n5 hK) ?_
  intro o S' q
  rcases q with ⟨hb, rfl, rfl⟩ | ⟨hb, rfl, h', rfl, t', s⟩
  · refine Or.inr ⟨h.length, 0, [], rfl, ?_, Or.inr ⟨19, by decide, rfl, rfl, ?_⟩⟩
    · show (h ++ [(0, [])])[h.length]? = _
      rw [List.getElem?_append_right (Nat.le_refl _), Nat.sub_self]
      rfl
    · refine mW.sn 2 (g' := (22, [some (.ref 41), some (.int n1), some (.int n2), some (.int n3), some (.int n4), some (.int n5), some (.ref 101), some (.ref h.length)], [.int 1], (h ++ [(0, [])], K.1 - 1, K.2 - 6))) rfl ?_
      exact mW.fin rfl (Or.inl ⟨hb, rfl, rfl⟩)
  · refine Or.inl ⟨_, rfl, ?_⟩
    have c3 : h'[101]? = some (1002, [.long y]) := by
      rw [s.2 101 (by decide)]
      exact c2
    refine mW.sn 1 (g' := (15, [some (.ref 41), some (.int n1), some (.int n2), some (.int n3), some (.int n4), some (.int n5), some (.ref 101), none], [.long (Int32.ofNat (us.length + 20)).toInt64, .int 0, .ref 101], (h', K))) rfl ?_
    refine mW.last rfl c3 (by decide) (by decide) (show (0 : Int32).toNatClampNeg < 1 by decide) ?_
    have s2 : sm [42, 43, 101] h (h'.set 101 (1002, [.long (Int32.ofNat (us.length + 20)).toInt64])) := by
      refine sm.trans (h1 := h') ⟨s.1, fun k hk => s.2 k (fun z => hk (by simp at z ⊢; rcases z with z | z <;> simp [z]))⟩ (sm.set (by simp))
    refine mW.sn 2 (g' := (24, [some (.ref 41), some (.int n1), some (.int n2), some (.int n3), some (.int n4), some (.int n5), some (.ref 101), none], [.int 0], (h'.set 101 (1002, [.long (Int32.ofNat (us.length + 20)).toInt64]), K))) rfl ?_
    refine mW.fin rfl (Or.inr ⟨hb, rfl, _, rfl, t'.moved (A := [101]) (sm.set (by simp)) (by decide) (by decide), m_at_set c3, s2⟩)
end Feed102
end

section
/-! The reference's tape: four bytes put. -/
section Feed103
variable {d : Nat} {h : mH} {K : Nat × Nat} {ms : List Value} {vs : List Int32}
/-- the reference's tape -/
def rt (h : mH) (ms : List Value) (vs : List Int32) : Prop := mdl h ms ∧ ms[1]? = some (.int (Int32.ofNat vs.length)) ∧ ms[5]? = some (.ref 79) ∧ vs.length ≤ 4096 ∧ ∃ tail : List Value, h[79]? = some (1001, vs.map Value.int ++ tail) ∧ vs.length + tail.length = 4096
theorem x161s (t : rt h ms vs) (hl : vs.length < 4096) (n p : Int32) : ∃ h' ms', rt h' ms' (vs ++ [(n >>> (p &&& 31)) &&& 255]) ∧ (∀ k, k ≠ 1 → ms'[k]? = ms[k]?) ∧ sm [78, 79] h h' ∧ ∀ r, mE d mm161 (3, [some (.ref 78), some (.int n), some (.int (p + (-8)))], [], (h', K)) r → mE d mm161 (7, [some (.ref 78), some (.int n), some (.int p)], [], (h, K)) r := by
  obtain ⟨t1, t2, t3, t4, tail, t5, t6⟩ := t
  obtain ⟨v, tail', rfl⟩ : ∃ v tail', tail = v :: tail' := by
    cases tail with
    | nil => simp only [List.length_nil] at t6; omega
    | cons v r => exact ⟨v, r, rfl⟩
  have hnn : (Int32.ofNat vs.length).toNatClampNeg = vs.length := by
    rw [i_nat, i_of (by omega)]
    omega
  have hn0 : ¬ Int32.ofNat vs.length < 0 := by
    rw [i_lt, i_of (by omega)]
    have : (0 : Int32).toInt = 0 := rfl
    omega
  have e1 : (vs.map Value.int ++ v :: tail').set vs.length (.int ((n >>> (p &&& 31)) &&& 255)) = (vs ++ [(n >>> (p &&& 31)) &&& 255]).map Value.int ++ tail' := by
    rw [List.set_append_right _ _ (by rw [List.length_map]; exact Nat.le_refl _), List.length_map, Nat.sub_self, List.set_cons_zero, List.map_append, List.append_assoc]
    rfl
  have c1 : mdl (h.set 79 (1001, (vs ++ [(n >>> (p &&& 31)) &&& 255]).map Value.int ++ tail')) ms := ⟨by rw [List.getElem?_set_ne (by decide)]; exact t1.1, t1.2⟩
  have el : Int32.ofNat vs.length + 1 = Int32.ofNat (vs ++ [(n >>> (p &&& 31)) &&& 255]).length := by
    rw [List.length_append]
    exact (Int32.ofNat_add vs.length 1).symm
  refine ⟨_, ms.set 1 (.int (Int32.ofNat vs.length + 1)), ⟨c1.set, ?_, ?_, ?_, tail', ?_, ?_⟩, fun k hk => List.getElem?_set_ne (fun e => hk e.symm), (sm.set (A := [78, 79]) (by simp)).trans (sm.set (by simp)), fun r k => ?_⟩
  · rw [List.getElem?_set_self (by rw [t1.2]; decide), el]
  · rw [List.getElem?_set_ne (by decide)]
    exact t3
  · rw [List.length_append]
    exact hl
  · rw [List.getElem?_set_ne (by decide), m_at_set t5]
  · rw [List.length_append]
    simp only [List.length_cons, List.length_nil] at t6 ⊢
    omega
  · refine mE.sn 1 (g' := (8, [some (.ref 78), some (.int n), some (.int p)], [.ref 78], (h, K))) rfl ?_
    refine mE.get rfl t1.1 t3 ?_
    refine mE.sn 1 (g' := (12, [some (.ref 78), some (.int n), some (.int p)], [.ref 78, .ref 79], (h, K))) rfl ?_
    refine mE.get rfl t1.1 t2 ?_
    refine mE.sn 5 (g' := (22, [some (.ref 78), some (.int n), some (.int p)], [.int ((n >>> (p &&& 31)) &&& 255), .int (Int32.ofNat vs.length), .ref 79], (h, K))) rfl ?_
    refine mE.iast rfl t5 (by decide) hn0 (by rw [hnn, List.length_append, List.length_map]; simp) ?_
    rw [hnn, e1]
    refine mE.sn 2 (g' := (25, [some (.ref 78), some (.int n), some (.int p)], [.ref 78, .ref 78], (h.set 79 (1001, (vs ++ [(n >>> (p &&& 31)) &&& 255]).map Value.int ++ tail'), K))) rfl ?_
    refine mE.get rfl c1.1 t2 ?_
    refine mE.sn 2 (g' := (30, [some (.ref 78), some (.int n), some (.int p)], [.int (Int32.ofNat vs.length + 1), .ref 78], (h.set 79 (1001, (vs ++ [(n >>> (p &&& 31)) &&& 255]).map Value.int ++ tail'), K))) rfl ?_
    refine mE.put rfl c1.1 (by decide) (by rw [t1.2]; rfl) rfl ?_
    exact mE.sn 2 (g' := (3, [some (.ref 78), some (.int n), some (.int (p + (-8)))], [], ((h.set 79 (1001, (vs ++ [(n >>> (p &&& 31)) &&& 255]).map Value.int ++ tail')).set 78 (13, ms.set 1 (.int (Int32.ofNat vs.length + 1))), K))) rfl k
end Feed103
end

section
/-! The reference's tape: an int put. -/
section Feed104
variable {d : Nat} {h : mH} {K : Nat × Nat} {ms : List Value} {vs : List Int32}
/-- StepBenchModel.four -/
theorem x161 (t : rt h ms vs) (hl : vs.length + 4 ≤ 4096) (n : Int32) : ∃ h' ms', mE d mm161 (0, [some (.ref 78), some (.int n), none], [], (h, K)) (.returned none, (h', K)) ∧ rt h' ms' (vs ++ by4 n) ∧ (∀ k, k ≠ 1 → ms'[k]? = ms[k]?) ∧ sm [78, 79] h h' := by
  have hd : ∀ (p : Int32) (h : mH) (r : Outcome × mS), ¬ p < 0 → mE d mm161 (7, [some (.ref 78), some (.int n), some (.int p)], [], (h, K)) r → mE d mm161 (3, [some (.ref 78), some (.int n), some (.int p)], [], (h, K)) r := by
    intro p h r hp k
    refine mE.sn 1 (g' := (4, [some (.ref 78), some (.int n), some (.int p)], [.int p], (h, K))) rfl ?_
    exact mE.no (g1 := (39, [some (.ref 78), some (.int n), some (.int p)], [], (h, K))) (g2 := (7, [some (.ref 78), some (.int n), some (.int p)], [], (h, K))) (c := p < 0) rfl hp k
  obtain ⟨h1, m1, t1, u1, s1, k1⟩ := x161s (d := d) (K := K) t (by omega) n 24
  obtain ⟨h2, m2, t2, u2, s2, k2⟩ := x161s (d := d) (K := K) t1 (by simp only [List.length_append, List.length_cons, List.length_nil]; omega) n 16
  obtain ⟨h3, m3, t3, u3, s3, k3⟩ := x161s (d := d) (K := K) t2 (by simp only [List.length_append, List.length_cons, List.length_nil]; omega) n 8
  obtain ⟨h4, m4, t4, u4, s4, k4⟩ := x161s (d := d) (K := K) t3 (by simp only [List.length_append, List.length_cons, List.length_nil]; omega) n 0
  have e0 : n >>> ((0 : Int32) &&& 31) = n := by
    have : (0 : Int32) &&& 31 = 0 := by decide
    rw [this]
    simp
  rw [e0] at t4
  refine ⟨h4, m4, ?_, ?_, fun k hk => (u4 k hk).trans ((u3 k hk).trans ((u2 k hk).trans (u1 k hk))), ((s1.trans s2).trans s3).trans s4⟩
  · refine mE.sn 2 (g' := (3, [some (.ref 78), some (.int n), some (.int 24)], [], (h, K))) rfl ?_
    refine hd 24 h _ (by decide) (k1 _ ?_)
    rw [show (24 : Int32) + (-8) = 16 by decide]
    refine hd 16 h1 _ (by decide) (k2 _ ?_)
    rw [show (16 : Int32) + (-8) = 8 by decide]
    refine hd 8 h2 _ (by decide) (k3 _ ?_)
    rw [show (8 : Int32) + (-8) = 0 by decide]
    refine hd 0 h3 _ (by decide) (k4 _ ?_)
    refine mE.sn 1 (g' := (4, [some (.ref 78), some (.int n), some (.int (0 + (-8)))], [.int (0 + (-8))], (h4, K))) rfl ?_
    refine mE.yes (g1 := (39, [some (.ref 78), some (.int n), some (.int (0 + (-8)))], [], (h4, K))) (g2 := (7, [some (.ref 78), some (.int n), some (.int (0 + (-8)))], [], (h4, K))) (c := (0 : Int32) + (-8) < 0) rfl (by decide) ?_
    exact m_ev.fin rfl
  · rw [show vs ++ by4 n = vs ++ [(n >>> (24 &&& 31)) &&& 255] ++ [(n >>> (16 &&& 31)) &&& 255] ++ [(n >>> (8 &&& 31)) &&& 255] ++ [n &&& 255] by simp [by4]]
    exact t4
end Feed104
end

section
/-! The call feed: the reference's side. -/
section Feed105
variable {d : Nat} {h : mH} {K : Nat × Nat} {ms : List Value} {vs : List Int32}
theorem rt.set0 {v : Value} (t : rt h ms vs) : rt (h.set 78 (13, ms.set 0 v)) (ms.set 0 v) vs := by
  obtain ⟨t1, t2, t3, t4, tail, t5, t6⟩ := t
  exact ⟨t1.set, by rw [List.getElem?_set_ne (by decide)]; exact t2, by rw [List.getElem?_set_ne (by decide)]; exact t3, t4, tail, by rw [List.getElem?_set_ne (by decide)]; exact t5, t6⟩
/-- StepBenchModel.feed -/
theorem x159 (t : rt h ms vs) (n1 n2 n3 n4 n5 : Int32) : mW (d + 1) mm159 (0, [some (.ref 78), some (.int n1), some (.int n2), some (.int n3), some (.int n4), some (.int n5)], [], (h, K)) (fun o S' =>
    (4096 < vs.length + 20 ∧ o = .returned (some (.int 0)) ∧ ∃ h', S' = (h', K) ∧ rt h' (ms.set 0 (.int 1)) vs ∧ sm [78, 79] h h') ∨
    (vs.length + 20 ≤ 4096 ∧ o = .returned (some (.int (Int32.ofNat (vs.length + 20)))) ∧ ∃ h' ms', S' = (h', K) ∧ rt h' ms' (vs ++ by4 n1 ++ by4 n2 ++ by4 n3 ++ by4 n4 ++ by4 n5) ∧ ms'[0]? = some (.int 0) ∧ (∀ k, k ≠ 0 → k ≠ 1 → ms'[k]? = ms[k]?) ∧ sm [78, 79] h h')) := by
  have e20 : Int32.ofNat vs.length + 20 = Int32.ofNat (vs.length + 20) := (Int32.ofNat_add vs.length 20).symm
  have hu := t.2.2.2.1
  have t0 : rt (h.set 78 (13, ms.set 0 (.int 0))) (ms.set 0 (.int 0)) vs := t.set0
  have s0 : sm [78, 79] h (h.set 78 (13, ms.set 0 (.int 0))) := sm.set (by simp)
  refine mW.sn 2 (g' := (2, [some (.ref 78), some (.int n1), some (.int n2), some (.int n3), some (.int n4), some (.int n5)], [.int 0, .ref 78], (h, K))) rfl ?_
  refine mW.put rfl t.1.1 (by decide) (by rw [t.1.2]; rfl) rfl ?_
  refine mW.sn 1 (g' := (6, [some (.ref 78), some (.int n1), some (.int n2), some (.int n3), some (.int n4), some (.int n5)], [.ref 78], (h.set 78 (13, ms.set 0 (.int 0)), K))) rfl ?_
  refine mW.get rfl t0.1.1 t0.2.1 ?_
  refine mW.sn 3 (g' := (15, [some (.ref 78), some (.int n1), some (.int n2), some (.int n3), some (.int n4), some (.int n5)], [.int 4096, .int (Int32.ofNat vs.length + 20)], (h.set 78 (13, ms.set 0 (.int 0)), K))) rfl ?_
  refine mW.br (g1 := (24, [some (.ref 78), some (.int n1), some (.int n2), some (.int n3), some (.int n4), some (.int n5)], [], (h.set 78 (13, ms.set 0 (.int 0)), K))) (g2 := (18, [some (.ref 78), some (.int n1), some (.int n2), some (.int n3), some (.int n4), some (.int n5)], [], (h.set 78 (13, ms.set 0 (.int 0)), K))) (c := Int32.ofNat vs.length + 20 ≤ 4096) rfl (fun hl => ?_) (fun hl => ?_)
  · have hl' : vs.length + 20 ≤ 4096 := by
      rw [e20, i_le, i_of (by omega)] at hl
      have : (4096 : Int32).toInt = 4096 := rfl
      omega
    obtain ⟨h1, m1, a1, t1, u1, s1⟩ := x161 (d := d) (K := K) t0 (by first | omega | (simp only [List.length_append, by4_len]; omega)) n1
    obtain ⟨h2, m2, a2, t2, u2, s2⟩ := x161 (d := d) (K := K) t1 (by first | omega | (simp only [List.length_append, by4_len]; omega)) n2
    obtain ⟨h3, m3, a3, t3, u3, s3⟩ := x161 (d := d) (K := K) t2 (by first | omega | (simp only [List.length_append, by4_len]; omega)) n3
    obtain ⟨h4, m4, a4, t4, u4, s4⟩ := x161 (d := d) (K := K) t3 (by first | omega | (simp only [List.length_append, by4_len]; omega)) n4
    obtain ⟨h5, m5, a5, t5, u5, s5⟩ := x161 (d := d) (K := K) t4 (by first | omega | (simp only [List.length_append, by4_len]; omega)) n5
    refine mW.sn 2 (g' := (26, [some (.ref 78), some (.int n1), some (.int n2), some (.int n3), some (.int n4), some (.int n5)], [.int n1, .ref 78], ((h.set 78 (13, ms.set 0 (.int 0))), K))) rfl ?_
    refine mW.callE rfl rfl rfl rfl (m_rcv_ok t0.1.1) a1 ?_
    refine mW.sn 2 (g' := (31, [some (.ref 78), some (.int n1), some (.int n2), some (.int n3), some (.int n4), some (.int n5)], [.int n2, .ref 78], (h1, K))) rfl ?_
    refine mW.callE rfl rfl rfl rfl (m_rcv_ok t1.1.1) a2 ?_
    refine mW.sn 2 (g' := (36, [some (.ref 78), some (.int n1), some (.int n2), some (.int n3), some (.int n4), some (.int n5)], [.int n3, .ref 78], (h2, K))) rfl ?_
    refine mW.callE rfl rfl rfl rfl (m_rcv_ok t2.1.1) a3 ?_
    refine mW.sn 2 (g' := (42, [some (.ref 78), some (.int n1), some (.int n2), some (.int n3), some (.int n4), some (.int n5)], [.int n4, .ref 78], (h3, K))) rfl ?_
    refine mW.callE rfl rfl rfl rfl (m_rcv_ok t3.1.1) a4 ?_
    refine mW.sn 2 (g' := (48, [some (.ref 78), some (.int n1), some (.int n2), some (.int n3), some (.int n4), some (.int n5)], [.int n5, .ref 78], (h4, K))) rfl ?_
    refine mW.callE rfl rfl rfl rfl (m_rcv_ok t4.1.1) a5 ?_
    refine mW.sn 1 (g' := (52, [some (.ref 78), some (.int n1), some (.int n2), some (.int n3), some (.int n4), some (.int n5)], [.ref 78], (h5, K))) rfl ?_
    refine mW.get rfl t5.1.1 t5.2.1 ?_
    refine mW.fin rfl (Or.inr ⟨hl', ?_, h5, m5, rfl, t5, ?_, fun k k0 k1 => ?_, ((((s0.trans s1).trans s2).trans s3).trans s4).trans s5⟩)
    · have el : (vs ++ by4 n1 ++ by4 n2 ++ by4 n3 ++ by4 n4 ++ by4 n5).length = vs.length + 20 := by simp only [List.length_append, by4_len]
      rw [el]
      rfl
    · rw [u5 0 (by decide), u4 0 (by decide), u3 0 (by decide), u2 0 (by decide), u1 0 (by decide), List.getElem?_set_self (by rw [t.1.2]; decide)]
    · rw [u5 k k1, u4 k k1, u3 k k1, u2 k k1, u1 k k1, List.getElem?_set_ne (fun e => k0 e.symm)]
  · have hl' : 4096 < vs.length + 20 := by
      rw [e20, i_le, i_of (by omega)] at hl
      have : (4096 : Int32).toInt = 4096 := rfl
      omega
    refine mW.sn 2 (g' := (20, [some (.ref 78), some (.int n1), some (.int n2), some (.int n3), some (.int n4), some (.int n5)], [.int 1, .ref 78], (h.set 78 (13, ms.set 0 (.int 0)), K))) rfl ?_
    refine mW.callE rfl rfl rfl rfl (m_rcv_ok t0.1.1) (x160 t0.1 1) ?_
    have t1 := t0.set0 (v := .int 1)
    refine mW.fin rfl (Or.inl ⟨hl', rfl, _, rfl, ?_, s0.trans (sm.set (by simp))⟩)
    rw [List.set_set (l := ms)] at t1 ⊢
    exact t1
end Feed105
end

section
/-! The call feed in the law: the two together. -/
section Feed106
variable {h : mH} {K : Nat × Nat} {ms fs : List Value} {us xs : List Int32} {ov : Int32}
theorem rt.app {l : List mC} (t : rt h ms us) : rt (h ++ l) ms us := by
  obtain ⟨t1, t2, t3, t4, tail, t5, t6⟩ := t
  exact ⟨t1.app, t2, t3, t4, tail, app_get t5, t6⟩
theorem rt.moved {h' : mH} {A : List Nat} (t : rt h ms us) (s : sm A h h') (h1 : 78 ∉ A) (h2 : 79 ∉ A) : rt h' ms us := by
  obtain ⟨t1, t2, t3, t4, tail, t5, t6⟩ := t
  exact ⟨⟨by rw [s.2 78 h1]; exact t1.1, t1.2⟩, t2, t3, t4, tail, by rw [s.2 79 h2]; exact t5, t6⟩
end Feed106
end

section
/-! A register's number: the class's check. -/
section Reg107
variable {d : Nat} {h : mH} {K : Nat × Nat}
/-- StepBench.checkRegister -/
theorem x33 (r : Int32) (hd : 8 ≤ d) (hK : 1 ≤ K.1 ∧ 6 ≤ K.2) : mW d mm33 (0, [some (.int r)], [], (h, K)) (fun o S' =>
    ((r < 0 ∨ ¬ r < 8) ∧ o = .threw h.length ∧ S' = (h ++ [(1, [])], K.1 - 1, K.2 - 6)) ∨ (¬ r < 0 ∧ r < 8 ∧ o = .returned none ∧ S' = (h, K))) := by
  refine mW.sn 1 (g' := (1, [some (.int r)], [.int r], (h, K))) rfl ?_
  refine mW.br (g1 := (10, [some (.int r)], [], (h, K))) (g2 := (4, [some (.int r)], [], (h, K))) (c := r < 0) rfl (fun hr => ?_) (fun hr => ?_)
  · exact mW.thr rfl rfl hK hd (by decide) (Or.inl ⟨Or.inl hr, rfl, rfl⟩)
  · refine mW.sn 2 (g' := (7, [some (.int r)], [.int 8, .int r], (h, K))) rfl ?_
    refine mW.br (g1 := (18, [some (.int r)], [], (h, K))) (g2 := (10, [some (.int r)], [], (h, K))) (c := r < 8) rfl (fun h8 => ?_) (fun h8 => ?_)
    · exact mW.fin rfl (Or.inr ⟨hr, h8, rfl, rfl⟩)
    · exact mW.thr rfl rfl hK hd (by decide) (Or.inl ⟨Or.inr h8, rfl, rfl⟩)
end Reg107
end

section
/-! PRINTED BY wip/whole/t101.py: the state: what stands at each address, as lists of ints. -/
section State101
/-- what stands at each address: an object's fields, an int array's elements; of a Text or a Paper: whether it is over, then what it holds -/
abbrev SS : Type := Nat → List Int32
def rd (S : SS) (a k : Nat) : Int32 := (S a).getD k 0
def up (S : SS) (a : Nat) (l : List Int32) : SS := fun b => if b = a then l else S b
def wr (S : SS) (a k : Nat) (v : Int32) : SS := up S a ((S a).set k v)
abbrev tT (S : SS) (o : Nat) : List Int32 := (S o).tail
abbrev tV (S : SS) (o : Nat) : Int32 := (S o).headD 0
theorem up_same {S : SS} {a : Nat} {l : List Int32} : up S a l a = l := if_pos rfl
theorem up_ne {S : SS} {a b : Nat} {l : List Int32} (h : b ≠ a) : up S a l b = S b := if_neg h
def shT : List Nat := [42, 44, 49, 51, 53, 55, 57, 59, 61, 63, 65]
def shP : List Nat := [92, 94]
def shA : List Nat := [0, 39, 40, 48, 74, 76, 77, 79, 80, 82, 83, 84, 85, 86, 87, 88, 89, 91, 97, 98, 99, 100]
def shW : List Nat := [48, 74, 76, 77, 79, 80, 82, 83, 84, 85, 86, 87, 88, 89, 91, 97, 98, 99, 100]
def shO : List (Nat × Nat × List Nat) := [(41, 5, [1042, 1044, 1046, 1068, 1047, 1067, 1069, 1072, 1075, 4, 0, 0]), (47, 6, [1048, 0]), (67, 7, [4, 0, 0, 1, 0, 0]), (68, 8, [1042, 4, 0, 0]), (69, 9, [1067, 1070, 1071, 0, 4, 4, 1, 1, 1]), (70, 10, [0, 0, 1, 1]), (72, 11, [1067, 1047, 1073, 1074, 0, 0]), (73, 10, [0, 0, 1, 1]), (75, 12, [1076, 1077, 4, 4]), (78, 13, [0, 0, 0, 0, 0, 1079, 1080, 1081, 1090, 1092, 1094, 1096, 0, 1097, 1098, 1099, 1100, 0, 0, 5, 5, 0]), (90, 16, [1091, 0, 1]), (96, 14, [5, 0, 0, 0, 6])]
def shS : List (Nat × Nat × List Int32) := [(1, 2, [110, 117, 108, 108]), (3, 4, [110, 117, 108, 108]), (5, 6, [102, 97, 108, 115, 101]), (7, 8, [116, 114, 117, 101]), (9, 10, [34, 115, 116, 97, 114, 116, 34]), (11, 12, [34, 101, 110, 100, 34]), (13, 14, [110, 117, 108, 108]), (15, 16, [110, 117, 108, 108, 44]), (17, 18, [110, 117, 108, 108]), (19, 20, [110, 117, 108, 108]), (21, 22, [102, 97, 108, 115, 101]), (23, 24, [116, 114, 117, 101]), (25, 26, [34, 92, 47, 98, 102, 110, 114, 116]), (27, 28, [110, 117, 108, 108]), (29, 30, [102, 97, 108, 115, 101]), (31, 32, [116, 114, 117, 101]), (33, 34, [98, 116, 110, 102, 114]), (35, 36, [117, 48, 48]), (37, 38, [48, 49, 50, 51, 52, 53, 54, 55, 56, 57, 97, 98, 99, 100, 101, 102])]
def mkV (k : Nat) (x : Int32) : Value := if k < 2 then .int x else if k = 4 then .ref x.toNatClampNeg else if k < 1000 then (if x = 0 then .null else .ref x.toNatClampNeg) else .ref (k - 1000)
def okV (k : Nat) (x : Int32) : Prop := (k = 1 → x = 0 ∨ x = 1) ∧ (k = 4 → x.toNatClampNeg ∈ shT) ∧ (k = 5 → x = 0 ∨ x.toNatClampNeg ∈ shA) ∧ (k = 6 → x = 0 ∨ x = 90)
/-- a Paper: what it holds, whether it is over -/
def pa (h : mH) (o : Nat) (l : List Int32) (ov : Int32) : Prop := h[o]? = some (15, [.ref (o + 1), .int (Int32.ofNat l.length), .int ov]) ∧ l.length ≤ 4096 ∧ ∃ tail : List Int32, h[o + 1]? = some (1001, (l ++ tail).map Value.int) ∧ l.length + tail.length = 4096
/-- what stands at u is l -/
def uOK (u : Nat) (h : mH) (l : List Int32) : Prop :=
  (∀ t ks, (u, t, ks) ∈ shO → l.length = ks.length ∧ h[u]? = some (t, List.zipWith mkV ks l) ∧ ∀ j k, ks[j]? = some k → okV k (l.getD j 0)) ∧
  (u ∈ shA → h[u]? = some (1001, l.map Value.int)) ∧
  (u ∈ shT → tx h u (u + 1) l.tail (l.headD 0) ∧ (l.headD 0 = 0 ∨ l.headD 0 = 1)) ∧
  (u ∈ shP → pa h u l.tail (l.headD 0) ∧ (l.headD 0 = 0 ∨ l.headD 0 = 1)) ∧
  (u = 71 → h[u]? = some (1000, l.map Value.int)) ∧
  (u = 46 → h[u]? = some (1003, l.map fun x => Value.ref x.toNatClampNeg) ∧ ∀ x ∈ l, x.toNatClampNeg ∈ shT)
/-- a long as four ints, and back -/
def lgE (y : Int64) : List Int32 := [Int32.ofInt (y.toInt % 65536), Int32.ofInt (y.toInt / 65536 % 65536), Int32.ofInt (y.toInt / 4294967296 % 65536), Int32.ofInt (y.toInt / 281474976710656)]
def lg (l : List Int32) : Int64 := Int64.ofInt ((l.getD 0 0).toInt + 65536 * (l.getD 1 0).toInt + 4294967296 * (l.getD 2 0).toInt + 281474976710656 * (l.getD 3 0).toInt)
theorem i_ofInt {z : Int} (h1 : -2147483648 ≤ z) (h2 : z < 2147483648) : (Int32.ofInt z).toInt = z := by
  rw [Int32.toInt_ofInt, show Int32.size = 4294967296 from rfl, Int.bmod_def]
  omega
theorem lg_E (y : Int64) : lg (lgE y) = y := by
  have a1 := Int64.le_toInt y
  have a2 := Int64.toInt_lt y
  have e : (lgE y).getD 0 0 = Int32.ofInt (y.toInt % 65536) ∧ (lgE y).getD 1 0 = Int32.ofInt (y.toInt / 65536 % 65536) ∧ (lgE y).getD 2 0 = Int32.ofInt (y.toInt / 4294967296 % 65536) ∧ (lgE y).getD 3 0 = Int32.ofInt (y.toInt / 281474976710656) := ⟨rfl, rfl, rfl, rfl⟩
  unfold lg
  rw [e.1, e.2.1, e.2.2.1, e.2.2.2, i_ofInt (by omega) (by omega), i_ofInt (by omega) (by omega), i_ofInt (by omega) (by omega), i_ofInt (by omega) (by omega)]
  have : y.toInt % 65536 + 65536 * (y.toInt / 65536 % 65536) + 4294967296 * (y.toInt / 4294967296 % 65536) + 281474976710656 * (y.toInt / 281474976710656) = y.toInt := by omega
  rw [this]
  exact Int64.ofInt_toInt y
def sh81 : List Int32 := [82, 83, 84, 85, 86, 87, 88, 89]
def cs (h : mH) (S : SS) : Prop := (∀ u, uOK u h (S u)) ∧ h[81]? = some (1004, sh81.map fun x => Value.ref x.toNatClampNeg) ∧ (∀ s ∈ shS, sx h s.1 s.2.1 s.2.2) ∧ h[101]? = some (1002, [.long (lg (S 101))])
def shU : List Nat := shO.map (fun p => p.1) ++ shA ++ shT ++ shP ++ [71, 46]
/-- all that stands elsewhere keeps clear of these cells -/
def clr (A : List Nat) (u : Nat) : Bool := shU.all (fun v => v == u || (!A.contains v && (!(shT ++ shP).contains v || !A.contains (v + 1)))) && (!A.contains 81 && (!A.contains 101 && (u != 101 && A.all (fun v => decide (41 ≤ v)))))
theorem uOK.frame {u : Nat} {h h' : mH} {l : List Int32} (k : uOK u h l) (h1 : u ∈ shU → h'[u]? = h[u]?) (h2 : u ∈ shT ++ shP → h'[u + 1]? = h[u + 1]?) : uOK u h' l := by
  obtain ⟨k1, k2, k3, k4, k5, k6⟩ := k
  have mo : ∀ t ks, (u, t, ks) ∈ shO → u ∈ shU := fun t ks m => by
    unfold shU
    simp only [List.append_assoc, List.mem_append]
    exact Or.inl (List.mem_map.mpr ⟨_, m, rfl⟩)
  have mr : (u ∈ shA ∨ u ∈ shT ∨ u ∈ shP ∨ u = 71 ∨ u = 46) → u ∈ shU := fun m => by
    unfold shU
    simp only [List.append_assoc, List.mem_append, List.mem_cons, List.not_mem_nil, or_false]
    exact Or.inr m
  refine ⟨fun t ks m => ?_, fun m => ?_, fun m => ?_, fun m => ?_, fun m => ?_, fun m => ?_⟩
  · rw [h1 (mo t ks m)]; exact k1 t ks m
  · rw [h1 (mr (Or.inl m))]; exact k2 m
  · have e1 := h1 (mr (Or.inr (Or.inl m)))
    have e2 := h2 (List.mem_append.mpr (Or.inl m))
    obtain ⟨⟨t1, t2, t3, t4, t5, tail, t6, t7⟩, t8⟩ := k3 m
    exact ⟨⟨t1, t2, by rw [e1]; exact t3, t4, t5, tail, by rw [e2]; exact t6, t7⟩, t8⟩
  · have e1 := h1 (mr (Or.inr (Or.inr (Or.inl m))))
    have e2 := h2 (List.mem_append.mpr (Or.inr m))
    obtain ⟨⟨t1, t2, tail, t3, t4⟩, t8⟩ := k4 m
    exact ⟨⟨by rw [e1]; exact t1, t2, tail, by rw [e2]; exact t3, t4⟩, t8⟩
  · rw [h1 (mr (Or.inr (Or.inr (Or.inr (Or.inl m)))))]; exact k5 m
  · rw [h1 (mr (Or.inr (Or.inr (Or.inr (Or.inr m)))))]; exact k6 m
theorem sx_lt : ∀ s ∈ shS, s.1 < 41 ∧ s.2.1 < 41 := by decide
theorem cs.gen {h h' : mH} {S : SS} (hs : cs h S) (A : List Nat) (u : Nat) (l : List Int32) (hA : clr A u = true) (sm' : ∀ k, k ∉ A → h'[k]? = h[k]?) (hu : uOK u h' l) : cs h' (up S u l) := by
  unfold clr at hA
  simp only [Bool.and_eq_true, List.all_eq_true, Bool.or_eq_true, Bool.not_eq_true', beq_iff_eq, bne_iff_ne, decide_eq_true_eq] at hA
  obtain ⟨a1, a2, a3, a5, a4⟩ := hA
  have nc : ∀ {k : Nat}, A.contains k = false → k ∉ A := fun e m => by rw [List.contains_iff_mem.mpr m] at e; cases e
  have lo : ∀ k, k < 41 → k ∉ A := fun k hk m => by have := a4 k m; omega
  obtain ⟨s1, s2, s3, s4⟩ := hs
  refine ⟨fun v => ?_, by rw [sm' 81 (nc a2)]; exact s2, fun s ms => ?_, by rw [sm' 101 (nc a3), up_ne (fun e => a5 e.symm)]; exact s4⟩
  · by_cases e : v = u
    · subst e
      rw [up_same]
      exact hu
    · rw [up_ne e]
      refine (s1 v).frame (fun m => sm' v ?_) (fun m => sm' (v + 1) ?_)
      · rcases a1 v m with q | q
        · exact absurd q e
        · exact nc q.1
      · have mu : v ∈ shU := by
          unfold shU
          simp only [List.append_assoc, List.mem_append] at m ⊢
          exact Or.inr (Or.inr (by rcases m with m | m; exact Or.inl m; exact Or.inr (Or.inl m)))
        rcases a1 v mu with q | q
        · exact absurd q e
        · rcases q.2 with q2 | q2
          · rw [List.contains_iff_mem.mpr m] at q2; cases q2
          · exact nc q2
  · obtain ⟨l1, l2⟩ := sx_lt s ms
    obtain ⟨x1, x2, x3⟩ := s3 s ms
    exact ⟨by rw [sm' _ (lo _ l1)]; exact x1, by rw [sm' _ (lo _ l2)]; exact x2, x3⟩
theorem clrT : ∀ o ∈ shT, clr [o, o + 1] o = true := by decide +kernel
theorem clrP : ∀ o ∈ shP, clr [o, o + 1] o = true := by decide +kernel
theorem clrA : ∀ a ∈ shW, clr [a] a = true ∧ a ∈ shA ∧ 41 ≤ a := by decide +kernel
theorem clrO : ∀ p ∈ shO, clr [p.1] p.1 = true ∧ 41 ≤ p.1 := by decide +kernel
/-- at an address stands one thing -/
theorem oneO : ∀ p ∈ shO, ∀ p2 ∈ shO, p.1 = p2.1 → p = p2 := by decide +kernel
theorem onlyO : ∀ p ∈ shO, p.1 ∉ shA ∧ p.1 ∉ shT ∧ p.1 ∉ shP ∧ p.1 ≠ 71 ∧ p.1 ≠ 46 := by decide +kernel
theorem onlyA : ∀ a ∈ shA, a ∉ shO.map (fun p => p.1) ∧ a ∉ shT ∧ a ∉ shP ∧ a ≠ 71 ∧ a ≠ 46 := by decide +kernel
theorem onlyT : ∀ a ∈ shT, a ∉ shO.map (fun p => p.1) ∧ a ∉ shA ∧ a ∉ shP ∧ a ≠ 71 ∧ a ≠ 46 := by decide +kernel
theorem onlyP : ∀ a ∈ shP, a ∉ shO.map (fun p => p.1) ∧ a ∉ shA ∧ a ∉ shT ∧ a ≠ 71 ∧ a ≠ 46 := by decide +kernel
theorem only71 : 71 ∉ shO.map (fun p => p.1) ∧ 71 ∉ shA ∧ 71 ∉ shT ∧ 71 ∉ shP ∧ clr [71] 71 = true := by decide +kernel
theorem only46 : 46 ∉ shO.map (fun p => p.1) ∧ 46 ∉ shA ∧ 46 ∉ shT ∧ 46 ∉ shP ∧ clr [46] 46 = true := by decide +kernel
theorem noO {u t : Nat} {ks : List Nat} (h : u ∉ shO.map (fun p => p.1)) : (u, t, ks) ∉ shO := fun m => h (List.mem_map.mpr ⟨_, m, rfl⟩)
variable {h h' : mH} {S : SS} {o a : Nat}
theorem cs.gtx (hs : cs h S) (ho : o ∈ shT) : tx h o (o + 1) (tT S o) (tV S o) := ((hs.1 o).2.2.1 ho).1
theorem cs.tb (hs : cs h S) (ho : o ∈ shT) : tV S o = 0 ∨ tV S o = 1 := ((hs.1 o).2.2.1 ho).2
theorem cs.gpa (hs : cs h S) (ho : o ∈ shP) : pa h o (tT S o) (tV S o) := ((hs.1 o).2.2.2.1 ho).1
theorem cs.pb (hs : cs h S) (ho : o ∈ shP) : tV S o = 0 ∨ tV S o = 1 := ((hs.1 o).2.2.2.1 ho).2
theorem cs.ar (hs : cs h S) (ha : a ∈ shA) : h[a]? = some (1001, (S a).map Value.int) := (hs.1 a).2.1 ha
theorem cs.updT (hs : cs h S) (ho : o ∈ shT) {us : List Int32} {ov : Int32} (t : tx h' o (o + 1) us ov) (s : sm [o, o + 1] h h') (hv : ov = 0 ∨ ov = 1) : cs h' (up S o (ov :: us)) := by
  obtain ⟨n1, n2, n3, n4, n5⟩ := onlyT o ho
  exact hs.gen [o, o + 1] o _ (clrT o ho) s.2 ⟨fun t ks m => absurd m (noO n1), fun m => absurd m n2, fun _ => ⟨t, hv⟩, fun m => absurd m n3, fun m => absurd m n4, fun m => absurd m n5⟩
theorem cs.updP (hs : cs h S) (ho : o ∈ shP) {us : List Int32} {ov : Int32} (t : pa h' o us ov) (s : sm [o, o + 1] h h') (hv : ov = 0 ∨ ov = 1) : cs h' (up S o (ov :: us)) := by
  obtain ⟨n1, n2, n3, n4, n5⟩ := onlyP o ho
  exact hs.gen [o, o + 1] o _ (clrP o ho) s.2 ⟨fun t ks m => absurd m (noO n1), fun m => absurd m n2, fun m => absurd m n3, fun _ => ⟨t, hv⟩, fun m => absurd m n4, fun m => absurd m n5⟩
theorem cs.updA (hs : cs h S) (ha : a ∈ shW) (l : List Int32) : cs (h.set a (1001, l.map Value.int)) (up S a l) := by
  obtain ⟨c1, c2, c3⟩ := clrA a ha
  obtain ⟨n1, n2, n3, n4, n5⟩ := onlyA a c2
  have s : sm [a] h (h.set a (1001, l.map Value.int)) := sm.set List.mem_cons_self
  exact hs.gen [a] a _ c1 s.2 ⟨fun t ks m => absurd m (noO n1), fun _ => m_at_set (hs.ar c2), fun m => absurd m n2, fun m => absurd m n3, fun m => absurd m n4, fun m => absurd m n5⟩
theorem cs.upd71 (hs : cs h S) (l : List Int32) : cs (h.set 71 (1000, l.map Value.int)) (up S 71 l) := by
  obtain ⟨n1, n2, n3, n4, c⟩ := only71
  have s : sm [71] h (h.set 71 (1000, l.map Value.int)) := sm.set List.mem_cons_self
  exact hs.gen [71] 71 _ c s.2 ⟨fun t ks m => absurd m (noO n1), fun m => absurd m n2, fun m => absurd m n3, fun m => absurd m n4, fun _ => m_at_set ((hs.1 71).2.2.2.2.1 rfl), fun m => absurd m (by decide)⟩
theorem cs.upd46 (hs : cs h S) (l : List Int32) (hl : ∀ x ∈ l, x.toNatClampNeg ∈ shT) : cs (h.set 46 (1003, l.map fun x => Value.ref x.toNatClampNeg)) (up S 46 l) := by
  obtain ⟨n1, n2, n3, n4, c⟩ := only46
  have s : sm [46] h (h.set 46 (1003, l.map fun x => Value.ref x.toNatClampNeg)) := sm.set List.mem_cons_self
  exact hs.gen [46] 46 _ c s.2 ⟨fun t ks m => absurd m (noO n1), fun m => absurd m n2, fun m => absurd m n3, fun m => absurd m n4, fun m => absurd m (by decide), fun _ => ⟨m_at_set ((hs.1 46).2.2.2.2.2 rfl).1, hl⟩⟩
theorem cs.ob (hs : cs h S) {t : Nat} {ks : List Nat} (hp : (a, t, ks) ∈ shO) : (S a).length = ks.length ∧ h[a]? = some (t, List.zipWith mkV ks (S a)) ∧ ∀ j k, ks[j]? = some k → okV k (rd S a j) := (hs.1 a).1 t ks hp
theorem zip_set {ks : List Nat} : ∀ {l : List Int32} {b k : Nat} {v : Int32}, ks[b]? = some k → (List.zipWith mkV ks l).set b (mkV k v) = List.zipWith mkV ks (l.set b v) := by
  induction ks with
  | nil => intro l b k v h; cases h
  | cons c ks ih =>
    intro l b k v h
    cases l with
    | nil => rfl
    | cons x l =>
      cases b with
      | zero => cases h; rfl
      | succ b => simp only [List.zipWith_cons_cons, List.set_cons_succ]; rw [ih h]
theorem cs.updO (hs : cs h S) {t : Nat} {ks : List Nat} (hp : (a, t, ks) ∈ shO) {b k : Nat} (hk : ks[b]? = some k) {v : Int32} (hv : okV k v) : cs (h.set a (t, (List.zipWith mkV ks (S a)).set b (mkV k v))) (wr S a b v) := by
  obtain ⟨c1, c2⟩ := clrO _ hp
  obtain ⟨n1, n2, n3, n4, n5⟩ := onlyO _ hp
  obtain ⟨o1, o2, o3⟩ := hs.ob hp
  have s : sm [a] h (h.set a (t, (List.zipWith mkV ks (S a)).set b (mkV k v))) := sm.set List.mem_cons_self
  refine hs.gen [a] a _ c1 s.2 ⟨fun t' ks' m => ?_, fun m => absurd m n1, fun m => absurd m n2, fun m => absurd m n3, fun m => absurd m n4, fun m => absurd m n5⟩
  have e := oneO _ hp _ m rfl
  cases e
  refine ⟨by rw [List.length_set]; exact o1, by rw [m_at_set o2, zip_set hk], fun j k' hj => ?_⟩
  by_cases e : b = j
  · subst e
    have : k = k' := by rw [hk] at hj; cases hj; rfl
    subst this
    have hb : b < (S a).length := by rw [o1]; exact (List.getElem?_eq_some_iff.mp hk).1
    rw [List.getD_eq_getElem?_getD, List.getElem?_set_self hb]
    exact hv
  · rw [List.getD_eq_getElem?_getD, List.getElem?_set_ne e]
    exact o3 j k' hj
theorem cs.app (hs : cs h S) (l : List mC) : cs (h ++ l) S := by
  obtain ⟨s1, s2, s3, s4⟩ := hs
  have ap : ∀ {k : Nat} {c : mC}, h[k]? = some c → (h ++ l)[k]? = some c := fun hc => app_get hc
  refine ⟨fun u => ?_, ap s2, fun s ms => ?_, ap s4⟩
  · obtain ⟨k1, k2, k3, k4, k5, k6⟩ := s1 u
    refine ⟨fun t ks m => ⟨(k1 t ks m).1, ap (k1 t ks m).2.1, (k1 t ks m).2.2⟩, fun m => ap (k2 m), fun m => ?_, fun m => ?_, fun m => ap (k5 m), fun m => ⟨ap (k6 m).1, (k6 m).2⟩⟩
    · obtain ⟨⟨t1, t2, t3, t4, t5, tail, t6, t7⟩, t8⟩ := k3 m
      exact ⟨⟨t1, t2, ap t3, t4, t5, tail, ap t6, t7⟩, t8⟩
    · obtain ⟨⟨t1, t2, tail, t3, t4⟩, t8⟩ := k4 m
      exact ⟨⟨ap t1, t2, tail, ap t3, t4⟩, t8⟩
  · obtain ⟨x1, x2, x3⟩ := s3 s ms
    exact ⟨ap x1, ap x2, x3⟩
theorem cs.set101 (hs : cs h S) (y : Int64) : cs (h.set 101 (1002, [.long y])) (up S 101 (lgE y)) := by
  obtain ⟨s1, s2, s3, s4⟩ := hs
  have ap : ∀ {k : Nat}, k ≠ 101 → (h.set 101 (1002, [.long y]))[k]? = h[k]? := fun hk => List.getElem?_set_ne (fun e => hk e.symm)
  have nU : ∀ u ∈ shU, u ≠ 101 := by decide +kernel
  have nP : ∀ u ∈ shT ++ shP, u + 1 ≠ 101 := by decide +kernel
  have n1 : ∀ t ks, (101, t, ks) ∉ shO := fun t ks m => absurd (List.mem_map.mpr ⟨_, m, rfl⟩ : 101 ∈ shO.map (fun p => p.1)) (by decide +kernel)
  refine ⟨fun u => ?_, by rw [ap (by decide)]; exact s2, fun s ms => ?_, by rw [up_same, lg_E]; exact m_at_set s4⟩
  · by_cases e : u = 101
    · subst e
      exact ⟨fun t ks m => absurd m (n1 t ks), fun m => absurd m (by decide), fun m => absurd m (by decide), fun m => absurd m (by decide), fun m => absurd m (by decide), fun m => absurd m (by decide)⟩
    · rw [up_ne e]
      exact (s1 u).frame (fun m => ap (nU u m)) (fun m => ap (nP u m))
  · obtain ⟨l1, l2⟩ := sx_lt s ms
    obtain ⟨x1, x2, x3⟩ := s3 s ms
    exact ⟨by rw [ap (by omega)]; exact x1, by rw [ap (by omega)]; exact x2, x3⟩
end State101
end

section
/-! Steps over the state. -/
section SSteps
variable {d : Nat} {M : mM} {pc : Nat} {ml : mL} {rest : List Value} {h : mH} {q : Nat × Nat} {P : Outcome → mS → Prop} {S : SS}
/-- a method came back: its answer, the state -/
def mQ (q : Nat × Nat) (S : SS) (v : Option Value) : Outcome → mS → Prop := fun o T => o = .returned v ∧ T.2 = q ∧ cs T.1 S
theorem zip_at {ks : List Nat} {l : List Int32} {b k : Nat} (hl : l.length = ks.length) (hk : ks[b]? = some k) : (List.zipWith mkV ks l)[b]? = some (mkV k (l.getD b 0)) := by
  have hb : b < ks.length := (List.getElem?_eq_some_iff.mp hk).1
  have hb2 : b < l.length := by omega
  rw [List.getElem?_zipWith, hk, List.getD_eq_getElem?_getD, List.getElem?_eq_getElem hb2]
  rfl
theorem cs.fld (hs : cs h S) {a t b k : Nat} {ks : List Nat} (hp : (a, t, ks) ∈ shO) (hk : ks[b]? = some k) : ∃ fs, h[a]? = some (t, fs) ∧ fs[b]? = some (mkV k (rd S a b)) := by
  obtain ⟨o1, o2, -⟩ := hs.ob hp
  exact ⟨_, o2, zip_at o1 hk⟩
theorem cs.rcv (hs : cs h S) {a t : Nat} {ks : List Nat} (hp : (a, t, ks) ∈ shO) {vs : List Value} : m_rcv (t + 1) (.ref a :: vs) h = true := m_rcv_ok (hs.ob hp).2.1
theorem cs.rcvT (hs : cs h S) {a : Nat} (ha : a ∈ shT) {vs : List Value} : m_rcv 5 (.ref a :: vs) h = true := m_rcv_ok (hs.gtx ha).2.2.1
theorem cs.rcvP (hs : cs h S) {a : Nat} (ha : a ∈ shP) {vs : List Value} : m_rcv 16 (.ref a :: vs) h = true := m_rcv_ok (hs.gpa ha).1
theorem cs.gsx (hs : cs h S) {a t : Nat} {bs : List Int32} (ha : (a, t, bs) ∈ shS) : sx h a t bs := hs.2.2.1 _ ha
theorem cs.rcvS (hs : cs h S) {a t : Nat} {bs : List Int32} (ha : (a, t, bs) ∈ shS) {vs : List Value} : m_rcv 18 (.ref a :: vs) h = true := m_rcv_ok (hs.gsx ha).1
theorem sW.getI {a t b k kk' idx len : Nat} {ks : List Nat} (hc : M.2.2.2.2.2[pc]? = some (some (.getfield idx, len, t, b, kk'))) (hs : cs h S) (hp : (a, t, ks) ∈ shO) (hk : ks[b]? = some k) (h2 : Nat.blt k 2 = true) (kk : mW d M (pc + 3, ml, .int (rd S a b) :: rest, (h, q)) P) : mW d M (pc, ml, .ref a :: rest, (h, q)) P := by
  obtain ⟨fs, e1, e2⟩ := hs.fld hp hk
  rw [mkV, if_pos (show k < 2 from Nat.le_of_ble_eq_true h2)] at e2
  exact mW.get hc e1 e2 kk
theorem sW.getT {a t b kk' idx len : Nat} {ks : List Nat} (hc : M.2.2.2.2.2[pc]? = some (some (.getfield idx, len, t, b, kk'))) (hs : cs h S) (hp : (a, t, ks) ∈ shO) (hk : ks[b]? = some 4) (kk : mW d M (pc + 3, ml, .ref (rd S a b).toNatClampNeg :: rest, (h, q)) P) : mW d M (pc, ml, .ref a :: rest, (h, q)) P := by
  obtain ⟨fs, e1, e2⟩ := hs.fld hp hk
  exact mW.get hc e1 e2 kk
theorem cs.okT (hs : cs h S) {a t b : Nat} {ks : List Nat} (hp : (a, t, ks) ∈ shO) (hk : ks[b]? = some 4) : (rd S a b).toNatClampNeg ∈ shT := ((hs.ob hp).2.2 b 4 hk).2.1 rfl
theorem cs.okB (hs : cs h S) {a t b : Nat} {ks : List Nat} (hp : (a, t, ks) ∈ shO) (hk : ks[b]? = some 1) : rd S a b = 0 ∨ rd S a b = 1 := ((hs.ob hp).2.2 b 1 hk).1 rfl
theorem cs.okA (hs : cs h S) {a t b : Nat} {ks : List Nat} (hp : (a, t, ks) ∈ shO) (hk : ks[b]? = some 5) (hz : ¬ rd S a b = 0) : (rd S a b).toNatClampNeg ∈ shA := by
  rcases ((hs.ob hp).2.2 b 5 hk).2.2.1 rfl with e | e
  · exact absurd e hz
  · exact e
theorem sW.getR {a t b k kk' idx len : Nat} {ks : List Nat} (hc : M.2.2.2.2.2[pc]? = some (some (.getfield idx, len, t, b, kk'))) (hs : cs h S) (hp : (a, t, ks) ∈ shO) (hk : ks[b]? = some k) (h2 : Nat.ble 1000 k = true) (kk : mW d M (pc + 3, ml, .ref (k - 1000) :: rest, (h, q)) P) : mW d M (pc, ml, .ref a :: rest, (h, q)) P := by
  obtain ⟨fs, e1, e2⟩ := hs.fld hp hk
  have := Nat.le_of_ble_eq_true h2
  rw [mkV, if_neg (by omega), if_neg (by omega), if_neg (by omega)] at e2
  exact mW.get hc e1 e2 kk
theorem sW.getN {a t b k kk' idx len : Nat} {ks : List Nat} (hc : M.2.2.2.2.2[pc]? = some (some (.getfield idx, len, t, b, kk'))) (hs : cs h S) (hp : (a, t, ks) ∈ shO) (hk : ks[b]? = some k) (h2 : (Nat.ble 5 k && Nat.blt k 1000) = true) (hz : ¬ rd S a b = 0) (kk : mW d M (pc + 3, ml, .ref (rd S a b).toNatClampNeg :: rest, (h, q)) P) : mW d M (pc, ml, .ref a :: rest, (h, q)) P := by
  obtain ⟨fs, e1, e2⟩ := hs.fld hp hk
  rw [Bool.and_eq_true] at h2
  have l1 := Nat.le_of_ble_eq_true h2.1
  have l2 : k < 1000 := Nat.le_of_ble_eq_true h2.2
  rw [mkV, if_neg (by omega), if_neg (by omega), if_pos l2, if_neg hz] at e2
  exact mW.get hc e1 e2 kk
theorem sW.putV {a t b k kk' idx len : Nat} {ks : List Nat} {v : Int32} {w : Value} (hc : M.2.2.2.2.2[pc]? = some (some (.putfield idx, len, t, b, kk'))) (hs : cs h S) (hp : (a, t, ks) ∈ shO) (hk : ks[b]? = some k) (hf : m_fit kk' w = true) (hw : mkV k v = w) (hv : okV k v) (kk : ∀ h', cs h' (wr S a b v) → mW d M (pc + 3, ml, rest, (h', q)) P) : mW d M (pc, ml, w :: .ref a :: rest, (h, q)) P := by
  obtain ⟨o1, o2, -⟩ := hs.ob hp
  subst hw
  have hb : b < (List.zipWith mkV ks (S a)).length := by
    rw [List.length_zipWith, o1, Nat.min_self]
    exact (List.getElem?_eq_some_iff.mp hk).1
  exact mW.put hc o2 (clrO _ hp).2 (Nat.ble_eq_true_of_le hb) hf (kk _ (hs.updO hp hk hv))
theorem sW.putI {a t b idx len : Nat} {ks : List Nat} {v : Int32} (hc : M.2.2.2.2.2[pc]? = some (some (.putfield idx, len, t, b, 0))) (hs : cs h S) (hp : (a, t, ks) ∈ shO) (hk : ks[b]? = some 0) (kk : ∀ h', cs h' (wr S a b v) → mW d M (pc + 3, ml, rest, (h', q)) P) : mW d M (pc, ml, .int v :: .ref a :: rest, (h, q)) P :=
  sW.putV hc hs hp hk rfl rfl ⟨fun e => absurd e (by decide), fun e => absurd e (by decide), fun e => absurd e (by decide), fun e => absurd e (by decide)⟩ kk
theorem sW.putZ {a t b idx len : Nat} {ks : List Nat} {v : Int32} (hc : M.2.2.2.2.2[pc]? = some (some (.putfield idx, len, t, b, 1))) (hs : cs h S) (hp : (a, t, ks) ∈ shO) (hk : ks[b]? = some 1) (hv : v = 0 ∨ v = 1) (kk : ∀ h', cs h' (wr S a b v) → mW d M (pc + 3, ml, rest, (h', q)) P) : mW d M (pc, ml, .int v :: .ref a :: rest, (h, q)) P :=
  sW.putV hc hs hp hk (by rcases hv with rfl | rfl <;> rfl) rfl ⟨fun _ => hv, fun e => absurd e (by decide), fun e => absurd e (by decide), fun e => absurd e (by decide)⟩ kk
theorem i_ad {x : Nat} (hx : x < 1000) : (Int32.ofNat x).toNatClampNeg = x := by
  rw [i_nat, i_of (by omega)]
  omega
theorem shT_lt : ∀ o ∈ shT, o < 1000 := by decide
theorem shA_lt : ∀ o ∈ shA, o < 1000 := by decide
theorem shA_0 : ∀ o ∈ shW, ¬ Int32.ofNat o = 0 := by decide
theorem shW_A : ∀ o ∈ shW, o ∈ shA := by decide
theorem sW.putT {a t b idx len x : Nat} {ks : List Nat} (hc : M.2.2.2.2.2[pc]? = some (some (.putfield idx, len, t, b, 2))) (hs : cs h S) (hp : (a, t, ks) ∈ shO) (hk : ks[b]? = some 4) (hx : x ∈ shT) (kk : ∀ h', cs h' (wr S a b (Int32.ofNat x)) → mW d M (pc + 3, ml, rest, (h', q)) P) : mW d M (pc, ml, .ref x :: .ref a :: rest, (h, q)) P :=
  sW.putV hc hs hp hk rfl (by show Value.ref _ = _; rw [i_ad (shT_lt x hx)]) ⟨fun e => absurd e (by decide), fun _ => by rw [i_ad (shT_lt x hx)]; exact hx, fun e => absurd e (by decide), fun e => absurd e (by decide)⟩ kk
theorem sW.putA {a t b idx len x : Nat} {ks : List Nat} (hc : M.2.2.2.2.2[pc]? = some (some (.putfield idx, len, t, b, 2))) (hs : cs h S) (hp : (a, t, ks) ∈ shO) (hk : ks[b]? = some 5) (hx : x ∈ shW) (kk : ∀ h', cs h' (wr S a b (Int32.ofNat x)) → mW d M (pc + 3, ml, rest, (h', q)) P) : mW d M (pc, ml, .ref x :: .ref a :: rest, (h, q)) P :=
  sW.putV hc hs hp hk rfl (by show (if Int32.ofNat x = 0 then Value.null else Value.ref _) = _; rw [if_neg (shA_0 x hx), i_ad (shA_lt x (shW_A x hx))]) ⟨fun e => absurd e (by decide), fun e => absurd e (by decide), fun _ => Or.inr (by rw [i_ad (shA_lt x (shW_A x hx))]; exact shW_A x hx), fun e => absurd e (by decide)⟩ kk
theorem sW.putU {a t b idx len : Nat} {ks : List Nat} (hc : M.2.2.2.2.2[pc]? = some (some (.putfield idx, len, t, b, 2))) (hs : cs h S) (hp : (a, t, ks) ∈ shO) (hk : ks[b]? = some 6) (kk : ∀ h', cs h' (wr S a b 90) → mW d M (pc + 3, ml, rest, (h', q)) P) : mW d M (pc, ml, .ref 90 :: .ref a :: rest, (h, q)) P :=
  sW.putV hc hs hp hk rfl rfl ⟨fun e => absurd e (by decide), fun e => absurd e (by decide), fun e => absurd e (by decide), fun _ => Or.inr rfl⟩ kk
/-- an element put into an array -/
def iset (l : List Int32) (j v : Int32) : Option (List Int32) := if j < 0 then none else if j.toNatClampNeg < l.length then some (l.set j.toNatClampNeg v) else none
theorem iset_ok {l l' : List Int32} {j v : Int32} (hv : iset l j v = some l') : ¬ j < 0 ∧ j.toNatClampNeg < l.length ∧ l' = l.set j.toNatClampNeg v := by
  unfold iset at hv
  split at hv
  · cases hv
  · split at hv
    · cases hv; exact ⟨by assumption, by assumption, rfl⟩
    · cases hv
theorem sW.iald {x a b k len : Nat} {j v : Int32} (hc : M.2.2.2.2.2[pc]? = some (some (.iaload, len, a, b, k))) (hs : cs h S) (hx : x ∈ shA) (hj : iget (S x) j = some v) (kk : mW d M (pc + 1, ml, .int v :: rest, (h, q)) P) : mW d M (pc, ml, .int j :: .ref x :: rest, (h, q)) P :=
  mW.iald hc (hs.ar hx) (iget_ix hj) kk
theorem sW.iast {x a b k len : Nat} {j v : Int32} {l' : List Int32} (hc : M.2.2.2.2.2[pc]? = some (some (.iastore, len, a, b, k))) (hs : cs h S) (hx : x ∈ shW) (hj : iset (S x) j v = some l') (kk : ∀ h', cs h' (up S x l') → mW d M (pc + 1, ml, rest, (h', q)) P) : mW d M (pc, ml, .int v :: .int j :: .ref x :: rest, (h, q)) P := by
  obtain ⟨i1, i2, rfl⟩ := iset_ok hj
  obtain ⟨c1, c2, c3⟩ := clrA x hx
  refine mW.iast hc (hs.ar c2) c3 i1 (by rw [List.length_map]; exact i2) ?_
  have := kk _ (hs.updA hx ((S x).set j.toNatClampNeg v))
  rw [List.map_set] at this
  exact this
theorem sW.bald71 {a b k len : Nat} {j v : Int32} (hc : M.2.2.2.2.2[pc]? = some (some (.baload, len, a, b, k))) (hs : cs h S) (hj : iget (S 71) j = some v) (kk : mW d M (pc + 1, ml, .int v :: rest, (h, q)) P) : mW d M (pc, ml, .int j :: .ref 71 :: rest, (h, q)) P :=
  mW.bald hc ((hs.1 71).2.2.2.2.1 rfl) (iget_ix hj) kk
theorem sW.bast71 {a b k len : Nat} {j v : Int32} {l' : List Int32} (hc : M.2.2.2.2.2[pc]? = some (some (.bastore, len, a, b, k))) (hs : cs h S) (hj : iset (S 71) j v.toInt8.toInt32 = some l') (kk : ∀ h', cs h' (up S 71 l') → mW d M (pc + 1, ml, rest, (h', q)) P) : mW d M (pc, ml, .int v :: .int j :: .ref 71 :: rest, (h, q)) P := by
  obtain ⟨i1, i2, rfl⟩ := iset_ok hj
  refine mW.bast hc ((hs.1 71).2.2.2.2.1 rfl) (by decide) i1 (by rw [List.length_map]; exact i2) ?_
  have := kk _ (hs.upd71 ((S 71).set j.toNatClampNeg v.toInt8.toInt32))
  rw [List.map_set] at this
  exact this
theorem rget_ix {l : List Int32} {j v : Int32} (hj : iget l j = some v) : m_ix j (l.map fun x => Value.ref x.toNatClampNeg) = some (.ref v.toNatClampNeg) := by
  unfold iget at hj
  unfold m_ix
  split at hj
  · cases hj
  · rename_i hn
    rw [if_neg hn, List.getElem?_map, hj]
    rfl
theorem iget_mem {l : List Int32} {j v : Int32} (hj : iget l j = some v) : v ∈ l := by
  unfold iget at hj
  split at hj
  · cases hj
  · exact List.mem_of_getElem? hj
theorem sW.aald46 {b k len : Nat} {j v : Int32} (hc : M.2.2.2.2.2[pc]? = some (some (.aaload, len, 1003, b, k))) (hs : cs h S) (hj : iget (S 46) j = some v) (kk : mW d M (pc + 1, ml, .ref v.toNatClampNeg :: rest, (h, q)) P) : mW d M (pc, ml, .int j :: .ref 46 :: rest, (h, q)) P :=
  mW.aald hc ((hs.1 46).2.2.2.2.2 rfl).1 (rget_ix hj) kk
theorem cs.ok46 (hs : cs h S) {j v : Int32} (hj : iget (S 46) j = some v) : v.toNatClampNeg ∈ shT := ((hs.1 46).2.2.2.2.2 rfl).2 v (iget_mem hj)
theorem sW.aald81 {b k len : Nat} {j v : Int32} (hc : M.2.2.2.2.2[pc]? = some (some (.aaload, len, 1004, b, k))) (hs : cs h S) (hj : iget sh81 j = some v) (kk : mW d M (pc + 1, ml, .ref v.toNatClampNeg :: rest, (h, q)) P) : mW d M (pc, ml, .int j :: .ref 81 :: rest, (h, q)) P :=
  mW.aald hc hs.2.1 (rget_ix hj) kk
theorem sh81_W : ∀ v ∈ sh81, v.toNatClampNeg ∈ shW := by decide
theorem ok81 {j v : Int32} (hj : iget sh81 j = some v) : v.toNatClampNeg ∈ shW := sh81_W v (iget_mem hj)
theorem sW.aln {x a b k len : Nat} (hc : M.2.2.2.2.2[pc]? = some (some (.arraylength, len, a, b, k))) (hs : cs h S) (hx : x ∈ shA) (kk : mW d M (pc + 1, ml, .int (Int32.ofNat (S x).length) :: rest, (h, q)) P) : mW d M (pc, ml, .ref x :: rest, (h, q)) P := by
  refine mW.aln hc (hs.ar hx) (by decide) ?_
  rw [List.length_map]
  exact kk
theorem sW.aln71 {a b k len : Nat} (hc : M.2.2.2.2.2[pc]? = some (some (.arraylength, len, a, b, k))) (hs : cs h S) (kk : mW d M (pc + 1, ml, .int (Int32.ofNat (S 71).length) :: rest, (h, q)) P) : mW d M (pc, ml, .ref 71 :: rest, (h, q)) P := by
  refine mW.aln hc ((hs.1 71).2.2.2.2.1 rfl) (by decide) ?_
  rw [List.length_map]
  exact kk
/-- a call that comes back with an answer and a state -/
theorem sW.call {st : List Value} {M' : mM} {a b k len : Nat} {i : ClassFile.Instr} {S' : SS} {v : Option Value} (hc : M.2.2.2.2.2[pc]? = some (some (i, len, a, b, k))) (hi : m_isC i a = true) (hM : mp_PG[a]? = some M') (h1 : m_okB M' b st = true) (h2 : m_rcv k (st.take b).reverse h = true) (hcal : mW d M' (0, m_ent (st.take b).reverse M'.2.2.1, [], (h, q)) (mQ q S' v))
    (kk : ∀ h', cs h' S' → mW (d + 1) M (pc + 3, ml, v.toList ++ st.drop b, (h', q)) P) : mW (d + 1) M (pc, ml, st, (h, q)) P := by
  refine mW.ret hc hi hM h1 h2 hcal fun o T p => ?_
  obtain ⟨h', q'⟩ := T
  obtain ⟨p1, p2, p3⟩ := p
  exact ⟨v, p1, by cases p2; exact kk h' p3⟩
/-- what only reads: the heap stays -/
theorem sW.of {M' : mM} {g : mG} {v : Option Value} (hs : cs h S) (e : mE d M' g (.returned v, (h, q))) : mW d M' g (mQ q S v) := mW.of e ⟨rfl, rfl, hs⟩
theorem sW.fin {g : mG} {v : Option Value} {S' : SS} (hs : cs h S') (e : m_turn 41 mp_FL mp_PG (fun _ _ _ => none) d M g = some (.returned v, (h, q))) : mW d M g (mQ q S' v) := mW.fin e ⟨rfl, rfl, hs⟩
/-- Text.clear, put, putText -/
theorem s35 {o : Nat} (hs : cs h S) (ho : o ∈ shT) : mW d mm35 (0, [some (.ref o)], [], (h, q)) (mQ q (up S o [0]) none) := by
  obtain ⟨h', e, t, s⟩ := x35 (d := d) (q := q) (hs.gtx ho)
  exact mW.of e ⟨rfl, rfl, hs.updT ho t ⟨s.1, fun k hk => s.2 k (fun z => hk (by simp at z ⊢; exact Or.inl z))⟩ (Or.inl rfl)⟩
def sput (S : SS) (o : Nat) (b : Int32) : SS := up S o (tputO (tT S o) (tV S o) :: tput (tT S o) b)
theorem tputO_01 {us : List Int32} {ov : Int32} (h : ov = 0 ∨ ov = 1) : tputO us ov = 0 ∨ tputO us ov = 1 := by
  unfold tputO
  split
  · exact h
  · exact Or.inr rfl
theorem s15 {o : Nat} {b : Int32} (hs : cs h S) (ho : o ∈ shT) : mW d mm15 (0, [some (.ref o), some (.int b)], [], (h, q)) (mQ q (sput S o b) none) := by
  obtain ⟨h', e, t, s⟩ := x15 (d := d) (q := q) (hs.gtx ho) b
  exact mW.of e ⟨rfl, rfl, hs.updT ho t s (tputO_01 (hs.tb ho))⟩
def sputs (S : SS) (o : Nat) (bs : List Int32) : SS := up S o ((tputs (tT S o) (tV S o) bs).2 :: (tputs (tT S o) (tV S o) bs).1)
theorem tputs_01 : ∀ {bs us : List Int32} {ov : Int32}, (ov = 0 ∨ ov = 1) → (tputs us ov bs).2 = 0 ∨ (tputs us ov bs).2 = 1 := by
  intro bs
  induction bs with
  | nil => intro us ov h; exact h
  | cons b bs ih => intro us ov h; exact ih (tputO_01 h)
theorem shS_T : ∀ s ∈ shS, ∀ o ∈ shT, s.1 ≠ o ∧ s.1 ≠ o + 1 ∧ s.2.1 ≠ o ∧ s.2.1 ≠ o + 1 := by decide +kernel
theorem s3 {o a t : Nat} {bs : List Int32} (hs : cs h S) (ho : o ∈ shT) (ha : (a, t, bs) ∈ shS) : mW (d + 4) mm3 (0, [some (.ref o), some (.ref a), none], [], (h, q)) (mQ q (sputs S o bs) none) := by
  obtain ⟨h', e, t', s⟩ := x3 (d := d) (q := q) (shS_T _ ha o ho) (hs.gtx ho) (hs.gsx ha)
  exact mW.of e ⟨rfl, rfl, hs.updT ho t' s (tputs_01 (hs.tb ho))⟩
end SSteps
end

section
/-! The state, more of it: parts of Texts, Papers, names of what stands there. -/
section More102
variable {d : Nat} {h : mH} {q : Nat × Nat} {us vs : List Int32} {ov ov2 : Int32} {o p : Nat}
theorem i_ofnn {x : Int32} {n : Nat} (h : x.toInt = n) (hn : n < 2147483648) : x = Int32.ofNat n := by
  apply Int32.toInt_inj.mp
  rw [h, i_of (by omega)]
theorem i_max {x y : Int32} : (imax x y).toInt = max x.toInt y.toInt := by
  unfold imax
  by_cases e : x < y
  · rw [if_pos e]; rw [i_lt] at e; omega
  · rw [if_neg e]; rw [i_lt] at e; omega
theorem i_min {x y : Int32} : (imin x y).toInt = min x.toInt y.toInt := by
  unfold imin
  by_cases e : y < x
  · rw [if_pos e]; rw [i_lt] at e; omega
  · rw [if_neg e]; rw [i_lt] at e; omega
/-- a part of a row -/
def tcut (vs : List Int32) (f t : Int32) : List Int32 := (vs.take t.toNatClampNeg).drop f.toNatClampNeg
def tpart (us pt : List Int32) : List Int32 := us ++ pt.take (4096 - us.length)
def tpartO (us : List Int32) (ov : Int32) (pt : List Int32) : Int32 := if pt.length ≤ 4096 - us.length then ov else 1
set_option maxHeartbeats 1000000 in
theorem x61 (hov : ov = 0 ∨ ov = 1) (t : tx h o (o + 1) us ov) (t2 : tx h p (p + 1) vs ov2) (n1 : p ≠ o) (n2 : p ≠ o + 1) (n3 : p + 1 ≠ o) (f w : Int32) (hw : -10000 ≤ w.toInt) (hf : f.toInt ≤ 100000) :
    ∃ h', mE (d + 1) mm61 (0, [some (.ref o), some (.ref p), some (.int f), some (.int w), none, none, none], [], (h, q)) (.returned none, (h', q)) ∧ tx h' o (o + 1) (tpart us (tcut vs f w)) (tpartO us ov (tcut vs f w)) ∧ sm [o, o + 1] h h' := by
  obtain ⟨a1, a2, a3, a4, a5, tail, a6, a7⟩ := id t
  obtain ⟨c1, c2, c3, c4, c5, tail2, c6, c7⟩ := id t2
  obtain ⟨F, hF⟩ : ∃ F, F = f.toNatClampNeg := ⟨_, rfl⟩
  obtain ⟨n, hn⟩ : ∃ n, n = (tcut vs f w).length := ⟨_, rfl⟩
  obtain ⟨m, hm⟩ : ∃ m, m = min n (4096 - us.length) := ⟨_, rfl⟩
  have en : n = min w.toInt.toNat vs.length - F := by
    rw [hn, tcut, List.length_drop, List.length_take, ← hF, i_nat]
  have z0 : (0 : Int32).toInt = 0 := rfl
  have z4 : (4096 : Int32).toInt = 4096 := rfl
  have lF : F = f.toInt.toNat := by rw [hF, i_nat]
  have e1 : imax 0 f = Int32.ofNat F := by
    apply i_ofnn
    · rw [i_max, z0]; omega
    · omega
  have e2 : imax 0 (imin w (Int32.ofNat vs.length) - Int32.ofNat F) = Int32.ofNat n := by
    have b1 : (imin w (Int32.ofNat vs.length)).toInt = min w.toInt vs.length := by rw [i_min, i_of (by omega)]
    have b2 : (Int32.ofNat F).toInt = F := i_of (by omega)
    apply i_ofnn
    · rw [i_max, i_sub (by omega) (by omega), b1, b2, z0]; omega
    · omega
  have e3 : imin (Int32.ofNat n) (4096 - Int32.ofNat us.length) = Int32.ofNat m := by
    have b2 : (Int32.ofNat us.length).toInt = us.length := i_of (by omega)
    apply i_ofnn
    · rw [i_min, i_sub (by omega) (by omega), b2, z4, i_of (by omega)]; omega
    · omega
  have em : (tcut vs f w).take (4096 - us.length) = (tcut vs f w).take m := by
    rw [hm, hn]
    by_cases hle : (tcut vs f w).length ≤ 4096 - us.length
    · rw [Nat.min_eq_left hle, List.take_of_length_le hle, List.take_of_length_le (Nat.le_refl _)]
    · rw [Nat.min_eq_right (by omega)]
  have hm2 : m ≤ 4096 - us.length := by omega
  have lm : ((tcut vs f w).take m).length = m := by rw [List.length_take]; omega
  -- behind the choice of the source's place
  have main : ∀ (sN : Nat), sN + m ≤ 4096 → ((vs.map m_by ++ tail2).drop sN).take m = ((tcut vs f w).take m).map m_by → ∃ h', mE (d + 1) mm61 (54, [some (.ref o), some (.ref p), some (.int f), some (.int w), some (.int (Int32.ofNat F)), some (.int (Int32.ofNat n)), some (.int (Int32.ofNat m))], [.int (Int32.ofNat sN), .ref (p + 1)], (h, q)) (.returned none, (h', q)) ∧ tx h' o (o + 1) (tpart us (tcut vs f w)) (tpartO us ov (tcut vs f w)) ∧ sm [o, o + 1] h h' := by
    intro sN hsN hrow
    have rowE : (us.map m_by ++ tail).take us.length ++ ((vs.map m_by ++ tail2).drop sN).take m ++ (us.map m_by ++ tail).drop (us.length + m) = (tpart us (tcut vs f w)).map m_by ++ tail.drop m := by
      rw [hrow, List.take_append_of_le_length (by rw [List.length_map]; exact Nat.le_refl _), List.take_of_length_le (by rw [List.length_map]; exact Nat.le_refl _), tpart, em, List.map_append]
      congr 1
      rw [List.drop_append, List.length_map, List.drop_of_length_le (by rw [List.length_map]; omega), List.nil_append]
      congr 1
      omega
    have g1 : ∀ {X : mC}, (h.set (o + 1) X)[o]? = some (4, [.ref (o + 1), .int (Int32.ofNat us.length), .int ov]) := by
      intro X
      rw [List.getElem?_set_ne (by omega)]
      exact a3
    have cN : ∀ {k : Nat}, k < 2147483648 → ¬ Int32.ofNat k < 0 ∧ (Int32.ofNat k).toNatClampNeg = k := by
      intro k hk
      refine ⟨?_, ?_⟩
      · rw [i_lt, i_of (by omega), z0]; omega
      · rw [i_nat, i_of (by omega)]; omega
    have ln : Int32.ofNat us.length + Int32.ofNat m = Int32.ofNat (tpart us (tcut vs f w)).length := by
      rw [tpart, List.length_append, em, lm]
      exact (Int32.ofNat_add us.length m).symm
    obtain ⟨ov', hov', hov2⟩ : ∃ ov' : Int32, ov' = tpartO us ov (tcut vs f w) ∧ (ov' = 0 ∨ ov' = 1) := ⟨_, rfl, by unfold tpartO; split; exact hov; exact Or.inr rfl⟩
    have lt : (us.map m_by ++ tail).length = 4096 := by rw [List.length_append, List.length_map]; exact a7
    have lt2 : (vs.map m_by ++ tail2).length = 4096 := by rw [List.length_append, List.length_map]; exact c7
    refine ⟨((h.set (o + 1) (1000, (tpart us (tcut vs f w)).map m_by ++ tail.drop m)).set o (4, [.ref (o + 1), .int (Int32.ofNat us.length + Int32.ofNat m), .int ov])).set o (4, [.ref (o + 1), .int (Int32.ofNat us.length + Int32.ofNat m), .int ov']), ?_, ⟨a1, a2, ?_, ?_, ?_, tail.drop m, ?_, ?_⟩, ?_⟩
    · refine mE.sn 1 (g' := (55, [some (.ref o), some (.ref p), some (.int f), some (.int w), some (.int (Int32.ofNat F)), some (.int (Int32.ofNat n)), some (.int (Int32.ofNat m))], [.ref o, .int (Int32.ofNat sN), .ref (p + 1)], (h, q))) rfl ?_
      refine mE.get rfl a3 rfl ?_
      refine mE.sn 1 (g' := (59, [some (.ref o), some (.ref p), some (.int f), some (.int w), some (.int (Int32.ofNat F)), some (.int (Int32.ofNat n)), some (.int (Int32.ofNat m))], [.ref o, .ref (o + 1), .int (Int32.ofNat sN), .ref (p + 1)], (h, q))) rfl ?_
      refine mE.get rfl a3 rfl ?_
      refine mE.sn 1 (g' := (64, [some (.ref o), some (.ref p), some (.int f), some (.int w), some (.int (Int32.ofNat F)), some (.int (Int32.ofNat n)), some (.int (Int32.ofNat m))], [.int (Int32.ofNat m), .int (Int32.ofNat us.length), .ref (o + 1), .int (Int32.ofNat sN), .ref (p + 1)], (h, q))) rfl ?_
      refine mE.copy (g' := (67, [some (.ref o), some (.ref p), some (.int f), some (.int w), some (.int (Int32.ofNat F)), some (.int (Int32.ofNat n)), some (.int (Int32.ofNat m))], [], (h.set (o + 1) (1000, (tpart us (tcut vs f w)).map m_by ++ tail.drop m), q))) rfl ?_ (Nat.zero_le _) ?_
      · simp only [m_cpy, c6, a6]
        rw [if_pos ⟨trivial, trivial, a2, (cN (by omega)).1, (cN (by omega)).1, (cN (by omega)).1, by rw [(cN (by omega)).2, (cN (by omega)).2, lt2]; omega, by rw [(cN (by omega)).2, (cN (by omega)).2, lt]; omega⟩]
        rw [(cN (k := us.length) (by omega)).2, (cN (k := sN) (by omega)).2, (cN (k := m) (by omega)).2, rowE]
      refine mE.sn 2 (g' := (69, [some (.ref o), some (.ref p), some (.int f), some (.int w), some (.int (Int32.ofNat F)), some (.int (Int32.ofNat n)), some (.int (Int32.ofNat m))], [.ref o, .ref o], (h.set (o + 1) (1000, (tpart us (tcut vs f w)).map m_by ++ tail.drop m), q))) rfl ?_
      refine mE.get rfl g1 rfl ?_
      refine mE.sn 2 (g' := (75, [some (.ref o), some (.ref p), some (.int f), some (.int w), some (.int (Int32.ofNat F)), some (.int (Int32.ofNat n)), some (.int (Int32.ofNat m))], [.int (Int32.ofNat us.length + Int32.ofNat m), .ref o], (h.set (o + 1) (1000, (tpart us (tcut vs f w)).map m_by ++ tail.drop m), q))) rfl ?_
      refine mE.put rfl g1 a1 rfl rfl ?_
      obtain ⟨H, eH⟩ : ∃ H, H = (h.set (o + 1) (1000, (tpart us (tcut vs f w)).map m_by ++ tail.drop m)).set o (4, [.ref (o + 1), .int (Int32.ofNat us.length + Int32.ofNat m), .int ov]) := ⟨_, rfl⟩
      have g2 : H[o]? = some (4, [.ref (o + 1), .int (Int32.ofNat us.length + Int32.ofNat m), .int ov]) := by rw [eH]; exact m_at_set g1
      show mE (d + 1) mm61 (78, [some (.ref o), some (.ref p), some (.int f), some (.int w), some (.int (Int32.ofNat F)), some (.int (Int32.ofNat n)), some (.int (Int32.ofNat m))], [], ((h.set (o + 1) (1000, (tpart us (tcut vs f w)).map m_by ++ tail.drop m)).set o (4, [.ref (o + 1), .int (Int32.ofNat us.length + Int32.ofNat m), .int ov]), q)) _
      rw [← eH]
      have fin : ∀ x : Int32, x = ov' → mE (d + 1) mm61 (98, [some (.ref o), some (.ref p), some (.int f), some (.int w), some (.int (Int32.ofNat F)), some (.int (Int32.ofNat n)), some (.int (Int32.ofNat m))], [.int x, .ref o], (H, q)) (.returned none, (H.set o (4, [.ref (o + 1), .int (Int32.ofNat us.length + Int32.ofNat m), .int ov']), q)) := by
        intro x hx
        rw [hx]
        refine mE.put rfl g2 a1 rfl (by rcases hov2 with e | e <;> rw [e] <;> rfl) ?_
        exact m_ev.fin rfl
      refine mE.sn 2 (g' := (80, [some (.ref o), some (.ref p), some (.int f), some (.int w), some (.int (Int32.ofNat F)), some (.int (Int32.ofNat n)), some (.int (Int32.ofNat m))], [.ref o, .ref o], (H, q))) rfl ?_
      refine mE.get rfl g2 rfl ?_
      refine mE.br (g1 := (86, [some (.ref o), some (.ref p), some (.int f), some (.int w), some (.int (Int32.ofNat F)), some (.int (Int32.ofNat n)), some (.int (Int32.ofNat m))], [.ref o], (H, q))) (g2 := (93, [some (.ref o), some (.ref p), some (.int f), some (.int w), some (.int (Int32.ofNat F)), some (.int (Int32.ofNat n)), some (.int (Int32.ofNat m))], [.ref o], (H, q))) (c := ov = 0) rfl (fun hc => ?_) (fun hc => ?_)
      · refine mE.sn 2 (g' := (90, [some (.ref o), some (.ref p), some (.int f), some (.int w), some (.int (Int32.ofNat F)), some (.int (Int32.ofNat n)), some (.int (Int32.ofNat m))], [.int (Int32.ofNat n), .int (Int32.ofNat m), .ref o], (H, q))) rfl ?_
        refine mE.br (g1 := (97, [some (.ref o), some (.ref p), some (.int f), some (.int w), some (.int (Int32.ofNat F)), some (.int (Int32.ofNat n)), some (.int (Int32.ofNat m))], [.ref o], (H, q))) (g2 := (93, [some (.ref o), some (.ref p), some (.int f), some (.int w), some (.int (Int32.ofNat F)), some (.int (Int32.ofNat n)), some (.int (Int32.ofNat m))], [.ref o], (H, q))) (c := Int32.ofNat n ≤ Int32.ofNat m) rfl (fun hd => ?_) (fun hd => ?_)
        · rw [i_le, i_of (by omega), i_of (by omega)] at hd
          refine mE.sn 1 (g' := (98, [some (.ref o), some (.ref p), some (.int f), some (.int w), some (.int (Int32.ofNat F)), some (.int (Int32.ofNat n)), some (.int (Int32.ofNat m))], [.int 0, .ref o], (H, q))) rfl ?_
          exact fin 0 (by rw [hov', tpartO, if_pos (by omega), hc])
        · rw [i_le, i_of (by omega), i_of (by omega)] at hd
          refine mE.sn 2 (g' := (98, [some (.ref o), some (.ref p), some (.int f), some (.int w), some (.int (Int32.ofNat F)), some (.int (Int32.ofNat n)), some (.int (Int32.ofNat m))], [.int 1, .ref o], (H, q))) rfl ?_
          exact fin 1 (by rw [hov', tpartO, if_neg (by omega)])
      · refine mE.sn 2 (g' := (98, [some (.ref o), some (.ref p), some (.int f), some (.int w), some (.int (Int32.ofNat F)), some (.int (Int32.ofNat n)), some (.int (Int32.ofNat m))], [.int 1, .ref o], (H, q))) rfl ?_
        refine fin 1 ?_
        rw [hov', tpartO]
        rcases hov with e | e
        · exact absurd e hc
        · rw [e]; split <;> rfl
    · rw [m_at_set (m_at_set g1), ln, hov']
    · rw [tpart, List.length_append, em, lm]; omega
    · intro u hu
      rw [tpart] at hu
      rcases List.mem_append.mp hu with hu | hu
      · exact a5 u hu
      · exact c5 u (List.mem_of_mem_take (List.mem_of_mem_drop (List.mem_of_mem_take hu)))
    · rw [List.getElem?_set_ne (by omega), List.getElem?_set_ne (by omega)]
      exact m_at_set a6
    · rw [tpart, List.length_append, em, lm, List.length_drop]; omega
    · exact ((sm.set (by simp)).trans (sm.set (by simp))).trans (sm.set (by simp))
  have walk : ∀ r, mE (d + 1) mm61 (45, [some (.ref o), some (.ref p), some (.int f), some (.int w), some (.int (Int32.ofNat F)), some (.int (Int32.ofNat n)), some (.int (Int32.ofNat m))], [.int (Int32.ofNat m), .ref (p + 1)], (h, q)) r → mE (d + 1) mm61 (0, [some (.ref o), some (.ref p), some (.int f), some (.int w), none, none, none], [], (h, q)) r := by
    intro r k
    refine mE.sn 2 (g' := (2, [some (.ref o), some (.ref p), some (.int f), some (.int w), none, none, none], [.int f, .int 0], (h, q))) rfl ?_
    refine mE.call rfl rfl rfl rfl rfl (x30 0 f) ?_
    rw [e1]
    refine mE.sn 4 (g' := (10, [some (.ref o), some (.ref p), some (.int f), some (.int w), some (.int (Int32.ofNat F)), none, none], [.ref p, .int w, .int 0], (h, q))) rfl ?_
    refine mE.get rfl c3 rfl ?_
    refine mE.call rfl rfl rfl rfl rfl (x29 w _) ?_
    refine mE.sn 2 (g' := (19, [some (.ref o), some (.ref p), some (.int f), some (.int w), some (.int (Int32.ofNat F)), none, none], [.int (imin w (Int32.ofNat vs.length) - Int32.ofNat F), .int 0], (h, q))) rfl ?_
    refine mE.call rfl rfl rfl rfl rfl (x30 0 _) ?_
    rw [e2]
    refine mE.sn 4 (g' := (30, [some (.ref o), some (.ref p), some (.int f), some (.int w), some (.int (Int32.ofNat F)), some (.int (Int32.ofNat n)), none], [.ref o, .int 4096, .int (Int32.ofNat n)], (h, q))) rfl ?_
    refine mE.get rfl a3 rfl ?_
    refine mE.sn 1 (g' := (34, [some (.ref o), some (.ref p), some (.int f), some (.int w), some (.int (Int32.ofNat F)), some (.int (Int32.ofNat n)), none], [.int (4096 - Int32.ofNat us.length), .int (Int32.ofNat n)], (h, q))) rfl ?_
    refine mE.call rfl rfl rfl rfl rfl (x29 _ _) ?_
    rw [e3]
    refine mE.sn 2 (g' := (40, [some (.ref o), some (.ref p), some (.int f), some (.int w), some (.int (Int32.ofNat F)), some (.int (Int32.ofNat n)), some (.int (Int32.ofNat m))], [.ref p], (h, q))) rfl ?_
    refine mE.get rfl c3 rfl ?_
    exact mE.sn 1 (g' := (45, [some (.ref o), some (.ref p), some (.int f), some (.int w), some (.int (Int32.ofNat F)), some (.int (Int32.ofNat n)), some (.int (Int32.ofNat m))], [.int (Int32.ofNat m), .ref (p + 1)], (h, q))) rfl k
  by_cases hz : m = 0
  · obtain ⟨h', e, r⟩ := main 0 (by omega) (by rw [hz, List.take_zero, List.take_zero]; rfl)
    refine ⟨h', walk _ ?_, r⟩
    refine mE.yes (g1 := (53, [some (.ref o), some (.ref p), some (.int f), some (.int w), some (.int (Int32.ofNat F)), some (.int (Int32.ofNat n)), some (.int (Int32.ofNat m))], [.ref (p + 1)], (h, q))) (g2 := (48, [some (.ref o), some (.ref p), some (.int f), some (.int w), some (.int (Int32.ofNat F)), some (.int (Int32.ofNat n)), some (.int (Int32.ofNat m))], [.ref (p + 1)], (h, q))) (c := Int32.ofNat m ≤ 0) rfl (by rw [hz]; decide) ?_
    exact mE.sn 1 (g' := (54, [some (.ref o), some (.ref p), some (.int f), some (.int w), some (.int (Int32.ofNat F)), some (.int (Int32.ofNat n)), some (.int (Int32.ofNat m))], [.int (Int32.ofNat 0), .ref (p + 1)], (h, q))) rfl e
  · obtain ⟨h', e, r⟩ := main F (by omega) (by
      rw [List.drop_append, List.length_map, ← List.map_drop]
      rw [List.take_append_of_le_length (by rw [List.length_map, List.length_drop]; omega), ← List.map_take]
      congr 1
      rw [tcut, ← hF, List.drop_take, List.take_take]
      congr 1
      rw [i_nat]
      omega)
    refine ⟨h', walk _ ?_, r⟩
    refine mE.no (g1 := (53, [some (.ref o), some (.ref p), some (.int f), some (.int w), some (.int (Int32.ofNat F)), some (.int (Int32.ofNat n)), some (.int (Int32.ofNat m))], [.ref (p + 1)], (h, q))) (g2 := (48, [some (.ref o), some (.ref p), some (.int f), some (.int w), some (.int (Int32.ofNat F)), some (.int (Int32.ofNat n)), some (.int (Int32.ofNat m))], [.ref (p + 1)], (h, q))) (c := Int32.ofNat m ≤ 0) rfl (by rw [i_le, i_of (by omega), z0]; omega) ?_
    exact mE.sn 2 (g' := (54, [some (.ref o), some (.ref p), some (.int f), some (.int w), some (.int (Int32.ofNat F)), some (.int (Int32.ofNat n)), some (.int (Int32.ofNat m))], [.int (Int32.ofNat F), .ref (p + 1)], (h, q))) rfl e
end More102
end

section
/-! PRINTED BY wip/whole (t102): names of what stands there; copy, cut, Papers. -/
section More103
theorem o41 : (41, 5, [1042, 1044, 1046, 1068, 1047, 1067, 1069, 1072, 1075, 4, 0, 0]) ∈ shO := by decide
theorem o47 : (47, 6, [1048, 0]) ∈ shO := by decide
theorem o67 : (67, 7, [4, 0, 0, 1, 0, 0]) ∈ shO := by decide
theorem o68 : (68, 8, [1042, 4, 0, 0]) ∈ shO := by decide
theorem o69 : (69, 9, [1067, 1070, 1071, 0, 4, 4, 1, 1, 1]) ∈ shO := by decide
theorem o70 : (70, 10, [0, 0, 1, 1]) ∈ shO := by decide
theorem o72 : (72, 11, [1067, 1047, 1073, 1074, 0, 0]) ∈ shO := by decide
theorem o73 : (73, 10, [0, 0, 1, 1]) ∈ shO := by decide
theorem o75 : (75, 12, [1076, 1077, 4, 4]) ∈ shO := by decide
theorem o78 : (78, 13, [0, 0, 0, 0, 0, 1079, 1080, 1081, 1090, 1092, 1094, 1096, 0, 1097, 1098, 1099, 1100, 0, 0, 5, 5, 0]) ∈ shO := by decide
theorem o90 : (90, 16, [1091, 0, 1]) ∈ shO := by decide
theorem o96 : (96, 14, [5, 0, 0, 0, 6]) ∈ shO := by decide
def k1 : List Int32 := [110, 117, 108, 108]
theorem m1 : (1, 2, k1) ∈ shS := by decide
def k3 : List Int32 := [110, 117, 108, 108]
theorem m3 : (3, 4, k3) ∈ shS := by decide
def k5 : List Int32 := [102, 97, 108, 115, 101]
theorem m5 : (5, 6, k5) ∈ shS := by decide
def k7 : List Int32 := [116, 114, 117, 101]
theorem m7 : (7, 8, k7) ∈ shS := by decide
def k9 : List Int32 := [34, 115, 116, 97, 114, 116, 34]
theorem m9 : (9, 10, k9) ∈ shS := by decide
def k11 : List Int32 := [34, 101, 110, 100, 34]
theorem m11 : (11, 12, k11) ∈ shS := by decide
def k13 : List Int32 := [110, 117, 108, 108]
theorem m13 : (13, 14, k13) ∈ shS := by decide
def k15 : List Int32 := [110, 117, 108, 108, 44]
theorem m15 : (15, 16, k15) ∈ shS := by decide
def k17 : List Int32 := [110, 117, 108, 108]
theorem m17 : (17, 18, k17) ∈ shS := by decide
def k19 : List Int32 := [110, 117, 108, 108]
theorem m19 : (19, 20, k19) ∈ shS := by decide
def k21 : List Int32 := [102, 97, 108, 115, 101]
theorem m21 : (21, 22, k21) ∈ shS := by decide
def k23 : List Int32 := [116, 114, 117, 101]
theorem m23 : (23, 24, k23) ∈ shS := by decide
def k25 : List Int32 := [34, 92, 47, 98, 102, 110, 114, 116]
theorem m25 : (25, 26, k25) ∈ shS := by decide
def k27 : List Int32 := [110, 117, 108, 108]
theorem m27 : (27, 28, k27) ∈ shS := by decide
def k29 : List Int32 := [102, 97, 108, 115, 101]
theorem m29 : (29, 30, k29) ∈ shS := by decide
def k31 : List Int32 := [116, 114, 117, 101]
theorem m31 : (31, 32, k31) ∈ shS := by decide
def k33 : List Int32 := [98, 116, 110, 102, 114]
theorem m33 : (33, 34, k33) ∈ shS := by decide
def k35 : List Int32 := [117, 48, 48]
theorem m35 : (35, 36, k35) ∈ shS := by decide
def k37 : List Int32 := [48, 49, 50, 51, 52, 53, 54, 55, 56, 57, 97, 98, 99, 100, 101, 102]
theorem m37 : (37, 38, k37) ∈ shS := by decide
variable {d : Nat} {M : mM} {pc : Nat} {ml : mL} {rest : List Value} {h : mH} {q : Nat × Nat} {P : Outcome → mS → Prop} {S : SS} {us vs : List Int32} {ov : Int32} {o p : Nat}
theorem sW.getU {a t b kk' idx len : Nat} {ks : List Nat} (hc : M.2.2.2.2.2[pc]? = some (some (.getfield idx, len, t, b, kk'))) (hs : cs h S) (hp : (a, t, ks) ∈ shO) (hk : ks[b]? = some 6) (hz : ¬ rd S a b = 0) (kk : mW d M (pc + 3, ml, .ref 90 :: rest, (h, q)) P) : mW d M (pc, ml, .ref a :: rest, (h, q)) P := by
  have e : rd S a b = 90 := by
    rcases ((hs.ob hp).2.2 b 6 hk).2.2.2 rfl with e | e
    · exact absurd e hz
    · exact e
  refine sW.getN hc hs hp hk rfl hz ?_
  rw [e]
  exact kk
theorem sW.aast46 {k len : Nat} {j : Int32} {x : Nat} {l' : List Int32} (hc : M.2.2.2.2.2[pc]? = some (some (.aastore, len, 1003, 4, k))) (hs : cs h S) (hx : x ∈ shT) (hj : iset (S 46) j (Int32.ofNat x) = some l') (kk : ∀ h', cs h' (up S 46 l') → mW d M (pc + 1, ml, rest, (h', q)) P) : mW d M (pc, ml, .ref x :: .int j :: .ref 46 :: rest, (h, q)) P := by
  obtain ⟨i1, i2, rfl⟩ := iset_ok hj
  obtain ⟨a1, a2⟩ := (hs.1 46).2.2.2.2.2 rfl
  have t := (hs.gtx hx).2.2.1
  obtain ⟨oo, SS', e, p⟩ := kk _ (hs.upd46 ((S 46).set j.toNatClampNeg (Int32.ofNat x)) (by
    intro y hy
    rcases List.mem_or_eq_of_mem_set hy with hy | hy
    · exact a2 y hy
    · rw [hy, i_ad (shT_lt x hx)]; exact hx))
  refine ⟨oo, SS', m_ev.s1 ?_ e, p⟩
  simp only [m_s1, hc, m_one, m_rst, a1, t]
  rw [if_pos ⟨trivial, trivial, by decide, i1, by rw [List.length_map]; exact i2⟩, List.map_set, i_ad (shT_lt x hx)]
theorem sW.idiv {a b k len : Nat} {x y : Int32} (hc : M.2.2.2.2.2[pc]? = some (some (.idiv, len, a, b, k))) (hz : ¬ y = 0) (kk : mW d M (pc + 1, ml, .int (x / y) :: rest, (h, q)) P) : mW d M (pc, ml, .int y :: .int x :: rest, (h, q)) P := by
  obtain ⟨oo, SS', e, p⟩ := kk
  refine ⟨oo, SS', m_ev.s1 ?_ e, p⟩
  simp only [m_s1, hc, m_one, m_div2]
  rw [if_neg hz]
theorem sW.irem {a b k len : Nat} {x y : Int32} (hc : M.2.2.2.2.2[pc]? = some (some (.irem, len, a, b, k))) (hz : ¬ y = 0) (kk : mW d M (pc + 1, ml, .int (x - x / y * y) :: rest, (h, q)) P) : mW d M (pc, ml, .int y :: .int x :: rest, (h, q)) P := by
  obtain ⟨oo, SS', e, p⟩ := kk
  refine ⟨oo, SS', m_ev.s1 ?_ e, p⟩
  simp only [m_s1, hc, m_one, m_div2]
  rw [if_neg hz]
theorem sW.getPc {kk' idx len : Nat} (hc : M.2.2.2.2.2[pc]? = some (some (.getfield idx, len, 15, 0, kk'))) (hs : cs h S) (ho : o ∈ shP) (kk : mW d M (pc + 3, ml, .ref (o + 1) :: rest, (h, q)) P) : mW d M (pc, ml, .ref o :: rest, (h, q)) P := mW.get hc (hs.gpa ho).1 rfl kk
theorem sW.getPn {kk' idx len : Nat} (hc : M.2.2.2.2.2[pc]? = some (some (.getfield idx, len, 15, 1, kk'))) (hs : cs h S) (ho : o ∈ shP) (kk : mW d M (pc + 3, ml, .int (Int32.ofNat (tT S o).length) :: rest, (h, q)) P) : mW d M (pc, ml, .ref o :: rest, (h, q)) P := mW.get hc (hs.gpa ho).1 rfl kk
theorem sW.getPo {kk' idx len : Nat} (hc : M.2.2.2.2.2[pc]? = some (some (.getfield idx, len, 15, 2, kk'))) (hs : cs h S) (ho : o ∈ shP) (kk : mW d M (pc + 3, ml, .int (tV S o) :: rest, (h, q)) P) : mW d M (pc, ml, .ref o :: rest, (h, q)) P := mW.get hc (hs.gpa ho).1 rfl kk
theorem sW.paload {a b k len : Nat} {j v : Int32} (hc : M.2.2.2.2.2[pc]? = some (some (.iaload, len, a, b, k))) (hs : cs h S) (ho : o ∈ shP) (hj : iget (tT S o) j = some v) (kk : mW d M (pc + 1, ml, .int v :: rest, (h, q)) P) : mW d M (pc, ml, .int j :: .ref (o + 1) :: rest, (h, q)) P := by
  obtain ⟨p1, p2, tail, p3, p4⟩ := hs.gpa ho
  refine mW.iald hc p3 (iget_ix (as := tT S o ++ tail) ?_) kk
  unfold iget at hj ⊢
  split at hj
  · cases hj
  · rename_i hn
    rw [if_neg hn, List.getElem?_append_left (List.getElem?_eq_some_iff.mp hj).1]
    exact hj
/-- putPart over the state -/
def spart (S : SS) (o p : Nat) (f w : Int32) : Option SS := if o = p then none else if w < -10000 then none else if 100000 < f then none else some (up S o (tpartO (tT S o) (tV S o) (tcut (tT S p) f w) :: tpart (tT S o) (tcut (tT S p) f w)))
theorem shT_ne : ∀ o ∈ shT, ∀ p ∈ shT, p ≠ o → p ≠ o + 1 ∧ p + 1 ≠ o := by decide +kernel
theorem s61 {f w : Int32} {v : SS} (ho : o ∈ shT) (hp : p ∈ shT) (hs : cs h S) (hv : spart S o p f w = some v) : mW (d + 1) mm61 (0, [some (.ref o), some (.ref p), some (.int f), some (.int w), none, none, none], [], (h, q)) (mQ q v none) := by
  unfold spart at hv
  split at hv
  · cases hv
  rename_i hne
  split at hv
  · cases hv
  rename_i hw
  split at hv
  · cases hv
  rename_i hf
  cases hv
  have n1 : p ≠ o := fun e => hne e.symm
  obtain ⟨n2, n3⟩ := shT_ne o ho p hp n1
  rw [i_lt] at hw hf
  have z1 : (-10000 : Int32).toInt = -10000 := rfl
  have z2 : (100000 : Int32).toInt = 100000 := rfl
  obtain ⟨h', e, t, s⟩ := x61 (d := d) (q := q) (hs.tb ho) (hs.gtx ho) (hs.gtx hp) n1 n2 n3 f w (by omega) (by omega)
  refine mW.of e ⟨rfl, rfl, hs.updT ho t s ?_⟩
  unfold tpartO
  split
  · exact hs.tb ho
  · exact Or.inr rfl
/-- Text.copy -/
def scopy (S : SS) (o p : Nat) : Option SS := spart (up S o [0]) o p 0 (Int32.ofNat (tT S p).length)
theorem s67 {v : SS} (ho : o ∈ shT) (hp : p ∈ shT) (hs : cs h S) (hv : scopy S o p = some v) : mW (d + 2) mm67 (0, [some (.ref o), some (.ref p)], [], (h, q)) (mQ q v none) := by
  refine mW.sn 1 (g' := (1, [some (.ref o), some (.ref p)], [.ref o], (h, q))) rfl ?_
  refine sW.call rfl rfl rfl rfl (hs.rcvT ho) (s35 hs ho) ?_
  intro h1 hs1
  refine mW.sn 4 (g' := (8, [some (.ref o), some (.ref p)], [.ref p, .int 0, .ref p, .ref o], (h1, q))) rfl ?_
  have hne : p ≠ o := by
    intro e
    unfold scopy spart at hv
    rw [if_pos e.symm] at hv
    cases hv
  refine mW.get rfl (hs1.gtx hp).2.2.1 rfl ?_
  refine sW.call rfl rfl rfl rfl (hs1.rcvT ho) (s61 (v := v) ho hp hs1 (by
    have : tT (up S o [0]) p = tT S p := by show (up S o [0] p).tail = _; rw [up_ne hne]
    rw [this]; exact hv)) ?_
  intro h2 hs2
  exact sW.fin hs2 rfl
/-- Text.cut -/
def tdel (us : List Int32) (f w : Int32) : List Int32 := if f < 0 then us else if w ≤ f then us else if Int32.ofNat us.length < w then us else us.take f.toNatClampNeg ++ us.drop w.toNatClampNeg
set_option maxHeartbeats 1000000 in
theorem x145 (t : tx h o (o + 1) us ov) (f w : Int32) : ∃ h', mE (d + 1) mm145 (0, [some (.ref o), some (.int f), some (.int w)], [], (h, q)) (.returned none, (h', q)) ∧ tx h' o (o + 1) (tdel us f w) ov ∧ sm [o, o + 1] h h' := by
  obtain ⟨a1, a2, a3, a4, a5, tail, a6, a7⟩ := id t
  have out : ∀ S1, mE (d + 1) mm145 (48, [some (.ref o), some (.int f), some (.int w)], [], S1) (.returned none, S1) := fun S1 => m_ev.fin rfl
  have z0 : (0 : Int32).toInt = 0 := rfl
  by_cases k1 : f < 0
  · refine ⟨h, ?_, by rw [tdel, if_pos k1]; exact t, sm.refl _ _⟩
    refine mE.sn 1 (g' := (1, [some (.ref o), some (.int f), some (.int w)], [.int f], (h, q))) rfl ?_
    exact mE.yes (g1 := (48, [some (.ref o), some (.int f), some (.int w)], [], (h, q))) (g2 := (4, [some (.ref o), some (.int f), some (.int w)], [], (h, q))) (c := f < 0) rfl k1 (out _)
  by_cases k2 : w ≤ f
  · refine ⟨h, ?_, by rw [tdel, if_neg k1, if_pos k2]; exact t, sm.refl _ _⟩
    refine mE.sn 1 (g' := (1, [some (.ref o), some (.int f), some (.int w)], [.int f], (h, q))) rfl ?_
    refine mE.no (g1 := (48, [some (.ref o), some (.int f), some (.int w)], [], (h, q))) (g2 := (4, [some (.ref o), some (.int f), some (.int w)], [], (h, q))) (c := f < 0) rfl k1 ?_
    refine mE.sn 2 (g' := (6, [some (.ref o), some (.int f), some (.int w)], [.int w, .int f], (h, q))) rfl ?_
    exact mE.yes (g1 := (48, [some (.ref o), some (.int f), some (.int w)], [], (h, q))) (g2 := (9, [some (.ref o), some (.int f), some (.int w)], [], (h, q))) (c := w ≤ f) rfl k2 (out _)
  have pre : ∀ r, mE (d + 1) mm145 (14, [some (.ref o), some (.int f), some (.int w)], [.int (Int32.ofNat us.length), .int w], (h, q)) r → mE (d + 1) mm145 (0, [some (.ref o), some (.int f), some (.int w)], [], (h, q)) r := by
    intro r k
    refine mE.sn 1 (g' := (1, [some (.ref o), some (.int f), some (.int w)], [.int f], (h, q))) rfl ?_
    refine mE.no (g1 := (48, [some (.ref o), some (.int f), some (.int w)], [], (h, q))) (g2 := (4, [some (.ref o), some (.int f), some (.int w)], [], (h, q))) (c := f < 0) rfl k1 ?_
    refine mE.sn 2 (g' := (6, [some (.ref o), some (.int f), some (.int w)], [.int w, .int f], (h, q))) rfl ?_
    refine mE.no (g1 := (48, [some (.ref o), some (.int f), some (.int w)], [], (h, q))) (g2 := (9, [some (.ref o), some (.int f), some (.int w)], [], (h, q))) (c := w ≤ f) rfl k2 ?_
    refine mE.sn 2 (g' := (11, [some (.ref o), some (.int f), some (.int w)], [.ref o, .int w], (h, q))) rfl ?_
    exact mE.get rfl a3 rfl k
  by_cases k3 : Int32.ofNat us.length < w
  · refine ⟨h, pre _ ?_, by rw [tdel, if_neg k1, if_neg k2, if_pos k3]; exact t, sm.refl _ _⟩
    exact mE.yes (g1 := (48, [some (.ref o), some (.int f), some (.int w)], [], (h, q))) (g2 := (17, [some (.ref o), some (.int f), some (.int w)], [], (h, q))) (c := Int32.ofNat us.length < w) rfl k3 (out _)
  obtain ⟨F, hF⟩ : ∃ F, F = f.toNatClampNeg := ⟨_, rfl⟩
  obtain ⟨W, hW⟩ : ∃ W, W = w.toNatClampNeg := ⟨_, rfl⟩
  have j1 := k1; have j2 := k2; have j3 := k3
  rw [i_lt, z0] at j1
  rw [i_le] at j2
  rw [i_lt, i_of (by omega)] at j3
  have fF : f.toInt = F := by rw [hF, i_nat]; omega
  have fW : w.toInt = W := by rw [hW, i_nat]; omega
  have eD : tdel us f w = us.take F ++ us.drop W := by rw [tdel, if_neg k1, if_neg k2, if_neg k3, hF, hW]
  have lD : (tdel us f w).length = F + (us.length - W) := by rw [eD, List.length_append, List.length_take, List.length_drop]; omega
  have e1 : Int32.ofNat us.length - w = Int32.ofNat (us.length - W) := by
    apply i_ofnn
    · rw [i_sub (by rw [i_of (by omega)]; omega) (by rw [i_of (by omega)]; omega), i_of (by omega)]; omega
    · omega
  have e2 : Int32.ofNat us.length - (w - f) = Int32.ofNat (tdel us f w).length := by
    have b : (w - f).toInt = W - F := by rw [i_sub (by omega) (by omega)]; omega
    apply i_ofnn
    · rw [i_sub (by rw [i_of (by omega)]; omega) (by rw [i_of (by omega)]; omega), i_of (by omega), b]; omega
    · omega
  have lt : (us.map m_by ++ tail).length = 4096 := by rw [List.length_append, List.length_map]; exact a7
  obtain ⟨tl, htl⟩ : ∃ tl, tl = (us.map m_by ++ tail).drop (F + (us.length - W)) := ⟨_, rfl⟩
  have rowE : (us.map m_by ++ tail).take F ++ ((us.map m_by ++ tail).drop W).take (us.length - W) ++ (us.map m_by ++ tail).drop (F + (us.length - W)) = (tdel us f w).map m_by ++ tl := by
    rw [← htl, eD, List.map_append]
    congr 1
    congr 1
    · rw [List.take_append_of_le_length (by rw [List.length_map]; omega), ← List.map_take]
    · rw [List.drop_append, List.take_append_of_le_length (by rw [List.length_drop, List.length_map]; omega), ← List.map_drop, List.take_of_length_le (by rw [List.length_map, List.length_drop]; omega)]
  have g1 : ∀ {X : mC}, (h.set (o + 1) X)[o]? = some (4, [.ref (o + 1), .int (Int32.ofNat us.length), .int ov]) := by
    intro X
    rw [List.getElem?_set_ne (by omega)]
    exact a3
  have cN : ∀ {k : Nat}, k < 2147483648 → ¬ Int32.ofNat k < 0 ∧ (Int32.ofNat k).toNatClampNeg = k := by
    intro k hk
    refine ⟨?_, ?_⟩
    · rw [i_lt, i_of (by omega), z0]; omega
    · rw [i_nat, i_of (by omega)]; omega
  refine ⟨(h.set (o + 1) (1000, (tdel us f w).map m_by ++ tl)).set o (4, [.ref (o + 1), .int (Int32.ofNat (tdel us f w).length), .int ov]), pre _ ?_, ⟨a1, a2, m_at_set g1, by rw [lD]; omega, ?_, tl, ?_, ?_⟩, (sm.set (by simp)).trans (sm.set (by simp))⟩
  · refine mE.no (g1 := (48, [some (.ref o), some (.int f), some (.int w)], [], (h, q))) (g2 := (17, [some (.ref o), some (.int f), some (.int w)], [], (h, q))) (c := Int32.ofNat us.length < w) rfl k3 ?_
    refine mE.sn 1 (g' := (18, [some (.ref o), some (.int f), some (.int w)], [.ref o], (h, q))) rfl ?_
    refine mE.get rfl a3 rfl ?_
    refine mE.sn 2 (g' := (23, [some (.ref o), some (.int f), some (.int w)], [.ref o, .int w, .ref (o + 1)], (h, q))) rfl ?_
    refine mE.get rfl a3 rfl ?_
    refine mE.sn 2 (g' := (28, [some (.ref o), some (.int f), some (.int w)], [.ref o, .int f, .ref (o + 1), .int w, .ref (o + 1)], (h, q))) rfl ?_
    refine mE.get rfl a3 rfl ?_
    refine mE.sn 2 (g' := (33, [some (.ref o), some (.int f), some (.int w)], [.int (Int32.ofNat us.length - w), .int f, .ref (o + 1), .int w, .ref (o + 1)], (h, q))) rfl ?_
    rw [e1]
    refine mE.copy (g' := (36, [some (.ref o), some (.int f), some (.int w)], [], (h.set (o + 1) (1000, (tdel us f w).map m_by ++ tl), q))) rfl ?_ (Nat.zero_le _) ?_
    · simp only [m_cpy, a6]
      rw [if_pos ⟨trivial, trivial, a2, by rw [i_lt, z0]; omega, k1, (cN (by omega)).1, by rw [(cN (by omega)).2, ← hW, lt]; omega, by rw [(cN (by omega)).2, ← hF, lt]; omega⟩]
      rw [(cN (k := us.length - W) (by omega)).2, ← hF, ← hW, rowE]
    refine mE.sn 2 (g' := (38, [some (.ref o), some (.int f), some (.int w)], [.ref o, .ref o], (h.set (o + 1) (1000, (tdel us f w).map m_by ++ tl), q))) rfl ?_
    refine mE.get rfl g1 rfl ?_
    refine mE.sn 4 (g' := (45, [some (.ref o), some (.int f), some (.int w)], [.int (Int32.ofNat us.length - (w - f)), .ref o], (h.set (o + 1) (1000, (tdel us f w).map m_by ++ tl), q))) rfl ?_
    rw [e2]
    refine mE.put rfl g1 a1 rfl rfl ?_
    exact out _
  · intro u hu
    rw [eD] at hu
    rcases List.mem_append.mp hu with hu | hu
    · exact a5 u (List.mem_of_mem_take hu)
    · exact a5 u (List.mem_of_mem_drop hu)
  · rw [List.getElem?_set_ne (by omega)]
    exact m_at_set a6
  · rw [lD, htl, List.length_drop, lt]; omega
def sdel (S : SS) (o : Nat) (f w : Int32) : SS := up S o (tV S o :: tdel (tT S o) f w)
theorem s145 {f w : Int32} (ho : o ∈ shT) (hs : cs h S) : mW (d + 1) mm145 (0, [some (.ref o), some (.int f), some (.int w)], [], (h, q)) (mQ q (sdel S o f w) none) := by
  obtain ⟨h', e, t, s⟩ := x145 (d := d) (q := q) (hs.gtx ho) f w
  exact mW.of e ⟨rfl, rfl, hs.updT ho t s (hs.tb ho)⟩
/-- Paper.clear, Paper.put -/
theorem shP_41 : ∀ o ∈ shP, 41 ≤ o := by decide
theorem s204 (ho : o ∈ shP) (hs : cs h S) : mW d mm204 (0, [some (.ref o)], [], (h, q)) (mQ q (up S o [0]) none) := by
  obtain ⟨p1, p2, tail, p3, p4⟩ := hs.gpa ho
  have h41 := shP_41 o ho
  have u1 : (h.set o (15, [.ref (o + 1), .int 0, .int (tV S o)]))[o]? = some (15, [.ref (o + 1), .int 0, .int (tV S o)]) := m_at_set p1
  refine mW.sn 2 (g' := (2, [some (.ref o)], [.int 0, .ref o], (h, q))) rfl ?_
  refine mW.put rfl p1 h41 rfl rfl ?_
  refine mW.sn 2 (g' := (7, [some (.ref o)], [.int 0, .ref o], (h.set o (15, [.ref (o + 1), .int 0, .int (tV S o)]), q))) rfl ?_
  refine mW.put rfl u1 h41 rfl rfl ?_
  refine mW.fin rfl ⟨rfl, rfl, hs.updP ho (us := []) (ov := 0) ⟨m_at_set u1, by decide, tT S o ++ tail, ?_, ?_⟩ ((sm.set (by simp)).trans (sm.set (by simp))) (Or.inl rfl)⟩
  · rw [List.getElem?_set_ne (by omega), List.getElem?_set_ne (by omega)]
    exact p3
  · rw [List.length_append]; simp only [List.length_nil]; omega
def pput (l : List Int32) (ov v : Int32) : List Int32 := if l.length = 4096 then l else if ov = 0 then l ++ [v] else l
def pputO (l : List Int32) (ov : Int32) : Int32 := if l.length = 4096 then 1 else ov
def sppu (S : SS) (o : Nat) (v : Int32) : SS := up S o (pputO (tT S o) (tV S o) :: pput (tT S o) (tV S o) v)
theorem pputO_01 {l : List Int32} {ov : Int32} (h : ov = 0 ∨ ov = 1) : pputO l ov = 0 ∨ pputO l ov = 1 := by
  unfold pputO
  split
  · exact Or.inr rfl
  · exact h
theorem s207 {v : Int32} (ho : o ∈ shP) (hs : cs h S) : mW d mm207 (0, [some (.ref o), some (.int v)], [], (h, q)) (mQ q (sppu S o v) none) := by
  obtain ⟨p1, p2, tail, p3, p4⟩ := hs.gpa ho
  have h41 := shP_41 o ho
  have z0 : (0 : Int32).toInt = 0 := rfl
  have ll : ((tT S o ++ tail).map Value.int).length = 4096 := by rw [List.length_map, List.length_append]; exact p4
  obtain ⟨l, hl⟩ : ∃ l, l = tT S o := ⟨_, rfl⟩
  obtain ⟨ov, hov⟩ : ∃ ov, ov = tV S o := ⟨_, rfl⟩
  have hb : ov = 0 ∨ ov = 1 := by rw [hov]; exact hs.pb ho
  rw [← hl] at p1 p2 p3 p4 ll
  rw [← hov] at p1
  have pre : ∀ P : Outcome → mS → Prop, mW d mm207 (9, [some (.ref o), some (.int v)], [.int (Int32.ofNat 4096), .int (Int32.ofNat l.length)], (h, q)) P → mW d mm207 (0, [some (.ref o), some (.int v)], [], (h, q)) P := by
    intro P k
    refine mW.sn 1 (g' := (1, [some (.ref o), some (.int v)], [.ref o], (h, q))) rfl ?_
    refine mW.get rfl p1 rfl ?_
    refine mW.sn 1 (g' := (5, [some (.ref o), some (.int v)], [.ref o, .int (Int32.ofNat l.length)], (h, q))) rfl ?_
    refine mW.get rfl p1 rfl ?_
    refine mW.aln rfl p3 (by decide) ?_
    rw [ll]
    exact k
  refine pre _ ?_
  by_cases hc : l.length = 4096
  · refine mW.yes (g1 := (12, [some (.ref o), some (.int v)], [], (h, q))) (g2 := (17, [some (.ref o), some (.int v)], [], (h, q))) (c := Int32.ofNat l.length = Int32.ofNat 4096) rfl (by rw [hc]) ?_
    refine mW.sn 2 (g' := (14, [some (.ref o), some (.int v)], [.int 1, .ref o], (h, q))) rfl ?_
    refine mW.put rfl p1 h41 rfl rfl ?_
    have u1 : (h.set o (15, [.ref (o + 1), .int (Int32.ofNat l.length), .int 1]))[o]? = some (15, [.ref (o + 1), .int (Int32.ofNat l.length), .int 1]) := m_at_set p1
    refine mW.sn 1 (g' := (18, [some (.ref o), some (.int v)], [.ref o], (h.set o (15, [.ref (o + 1), .int (Int32.ofNat l.length), .int 1]), q))) rfl ?_
    refine mW.get rfl u1 rfl ?_
    refine mW.no (g1 := (25, [some (.ref o), some (.int v)], [], (h.set o (15, [.ref (o + 1), .int (Int32.ofNat l.length), .int 1]), q))) (g2 := (24, [some (.ref o), some (.int v)], [], (h.set o (15, [.ref (o + 1), .int (Int32.ofNat l.length), .int 1]), q))) (c := (1 : Int32) = 0) rfl (by decide) ?_
    refine mW.fin rfl ⟨rfl, rfl, ?_⟩
    have e : sppu S o v = up S o (1 :: l) := by
      unfold sppu
      rw [← hl, ← hov, pputO, if_pos hc, pput, if_pos hc]
    rw [e]
    exact hs.updP ho ⟨u1, p2, tail, by rw [List.getElem?_set_ne (by omega)]; exact p3, p4⟩ (sm.set (by simp)) (Or.inr rfl)
  · have hne : ¬ Int32.ofNat l.length = Int32.ofNat 4096 := by
      intro e
      have := congrArg Int32.toInt e
      rw [i_of (by omega), i_of (by omega)] at this
      omega
    refine mW.no (g1 := (12, [some (.ref o), some (.int v)], [], (h, q))) (g2 := (17, [some (.ref o), some (.int v)], [], (h, q))) (c := Int32.ofNat l.length = Int32.ofNat 4096) rfl hne ?_
    refine mW.sn 1 (g' := (18, [some (.ref o), some (.int v)], [.ref o], (h, q))) rfl ?_
    refine mW.get rfl p1 rfl ?_
    refine mW.br (g1 := (25, [some (.ref o), some (.int v)], [], (h, q))) (g2 := (24, [some (.ref o), some (.int v)], [], (h, q))) (c := ov = 0) rfl (fun hz => ?_) (fun hz => ?_)
    · obtain ⟨w, tail', rfl⟩ : ∃ w tail', tail = w :: tail' := by
        cases tail with
        | nil => simp only [List.length_nil] at p4; omega
        | cons w r => exact ⟨w, r, rfl⟩
      have nn : ¬ Int32.ofNat l.length < 0 := by rw [i_lt, i_of (by omega), z0]; omega
      have nk : (Int32.ofNat l.length).toNatClampNeg = l.length := by rw [i_nat, i_of (by omega)]; omega
      refine mW.sn 1 (g' := (26, [some (.ref o), some (.int v)], [.ref o], (h, q))) rfl ?_
      refine mW.get rfl p1 rfl ?_
      refine mW.sn 1 (g' := (30, [some (.ref o), some (.int v)], [.ref o, .ref (o + 1)], (h, q))) rfl ?_
      refine mW.get rfl p1 rfl ?_
      refine mW.sn 1 (g' := (34, [some (.ref o), some (.int v)], [.int v, .int (Int32.ofNat l.length), .ref (o + 1)], (h, q))) rfl ?_
      refine mW.iast rfl p3 (by omega) nn (by rw [nk, ll]; omega) ?_
      have eR : ((l ++ w :: tail').map Value.int).set l.length (.int v) = ((l ++ [v]) ++ tail').map Value.int := by
        rw [← List.map_set, List.set_append_right _ _ (Nat.le_refl _), Nat.sub_self, List.set_cons_zero, List.append_assoc]
        rfl
      rw [nk, eR]
      have u1 : (h.set (o + 1) (1001, ((l ++ [v]) ++ tail').map Value.int))[o]? = some (15, [.ref (o + 1), .int (Int32.ofNat l.length), .int ov]) := by
        rw [List.getElem?_set_ne (by omega)]
        exact p1
      refine mW.sn 2 (g' := (37, [some (.ref o), some (.int v)], [.ref o, .ref o], (h.set (o + 1) (1001, ((l ++ [v]) ++ tail').map Value.int), q))) rfl ?_
      refine mW.get rfl u1 rfl ?_
      refine mW.sn 2 (g' := (42, [some (.ref o), some (.int v)], [.int (Int32.ofNat l.length + 1), .ref o], (h.set (o + 1) (1001, ((l ++ [v]) ++ tail').map Value.int), q))) rfl ?_
      refine mW.put rfl u1 h41 rfl rfl ?_
      have e : sppu S o v = up S o (ov :: (l ++ [v])) := by
        unfold sppu
        rw [← hl, ← hov, pputO, if_neg hc, pput, if_neg hc, if_pos hz]
      have el : Int32.ofNat l.length + 1 = Int32.ofNat (l ++ [v]).length := by
        rw [List.length_append]
        exact (Int32.ofNat_add l.length 1).symm
      refine mW.fin rfl ⟨rfl, rfl, ?_⟩
      rw [e]
      refine hs.updP ho ⟨?_, ?_, tail', ?_, ?_⟩ ((sm.set (by simp)).trans (sm.set (by simp))) hb
      · show ((h.set (o + 1) _).set o (15, [.ref (o + 1), .int (Int32.ofNat l.length + 1), .int ov]))[o]? = _
        rw [m_at_set u1, el]
      · rw [List.length_append]; simp only [List.length_cons, List.length_nil]; omega
      · show ((h.set (o + 1) _).set o _)[o + 1]? = _
        rw [List.getElem?_set_ne (by omega)]
        exact m_at_set p3
      · rw [List.length_append]; simp only [List.length_cons, List.length_nil] at p4 ⊢; omega
    · have e : sppu S o v = up S o (ov :: l) := by
        unfold sppu
        rw [← hl, ← hov, pputO, if_neg hc, pput, if_neg hc, if_neg hz]
      refine mW.fin rfl ⟨rfl, rfl, ?_⟩
      rw [e]
      exact hs.updP ho ⟨p1, p2, tail, p3, p4⟩ (sm.refl _ _) hb
/-- Math.min, Math.max of longs -/
def lmin (x y : Int64) : Int64 := if 0 < lg_cmp x y then y else x
def lmax (x y : Int64) : Int64 := if lg_cmp x y < 0 then y else x
theorem x96 (x y : Int64) : mE d mm96 (0, [some (.long x), none, some (.long y), none], [], (h, q)) (.returned (some (.long (lmin x y))), (h, q)) := by
  refine mE.sn 3 (g' := (3, [some (.long x), none, some (.long y), none], [.int (lg_cmp x y)], (h, q))) rfl ?_
  refine mE.br (g1 := (10, [some (.long x), none, some (.long y), none], [], (h, q))) (g2 := (6, [some (.long x), none, some (.long y), none], [], (h, q))) (c := 0 < lg_cmp x y) rfl (fun hc => ?_) (fun hc => ?_)
  · rw [lmin, if_pos hc]
    refine mE.sn 1 (g' := (11, [some (.long x), none, some (.long y), none], [.long y], (h, q))) rfl ?_
    exact m_ev.fin rfl
  · rw [lmin, if_neg hc]
    refine mE.sn 2 (g' := (11, [some (.long x), none, some (.long y), none], [.long x], (h, q))) rfl ?_
    exact m_ev.fin rfl
theorem x97 (x y : Int64) : mE d mm97 (0, [some (.long x), none, some (.long y), none], [], (h, q)) (.returned (some (.long (lmax x y))), (h, q)) := by
  refine mE.sn 3 (g' := (3, [some (.long x), none, some (.long y), none], [.int (lg_cmp x y)], (h, q))) rfl ?_
  refine mE.br (g1 := (10, [some (.long x), none, some (.long y), none], [], (h, q))) (g2 := (6, [some (.long x), none, some (.long y), none], [], (h, q))) (c := lg_cmp x y < 0) rfl (fun hc => ?_) (fun hc => ?_)
  · rw [lmax, if_pos hc]
    refine mE.sn 1 (g' := (11, [some (.long x), none, some (.long y), none], [.long y], (h, q))) rfl ?_
    exact m_ev.fin rfl
  · rw [lmax, if_neg hc]
    refine mE.sn 2 (g' := (11, [some (.long x), none, some (.long y), none], [.long x], (h, q))) rfl ?_
    exact m_ev.fin rfl
end More103
end

section
/-! An answer handed on; not by computing, so that no loop is unrolled. -/
theorem o_bind {α β : Type} (a : α) (f : α → Option β) : (some a).bind f = f a := Eq.trans (Option.bind_some a f) (Eq.refl _)
section Row104
variable {d : Nat} {M : mM} {pc : Nat} {ml : mL} {rest : List Value} {h : mH} {q : Nat × Nat} {P : Outcome → mS → Prop} {S : SS}
theorem sW.getQ {c c' kk' idx len : Nat} {bs : List Int32} (hc : M.2.2.2.2.2[pc]? = some (some (.getfield idx, len, 17, 0, kk'))) (hs : cs h S) (hm : (c, c', bs) ∈ shS) (kk : mW d M (pc + 3, ml, .ref c' :: rest, (h, q)) P) : mW d M (pc, ml, .ref c :: rest, (h, q)) P := mW.get hc (hs.gsx hm).1 rfl kk
theorem sW.baldQ {c c' a b k len : Nat} {j v : Int32} {bs : List Int32} (hc : M.2.2.2.2.2[pc]? = some (some (.baload, len, a, b, k))) (hs : cs h S) (hm : (c, c', bs) ∈ shS) (hj : iget bs j = some v) (kk : mW d M (pc + 1, ml, .int v :: rest, (h, q)) P) : mW d M (pc, ml, .int j :: .ref c' :: rest, (h, q)) P := mW.bald hc (hs.gsx hm).2.1 (iget_ix hj) kk
theorem sW.alnQ {c c' a b k len : Nat} {bs : List Int32} (hc : M.2.2.2.2.2[pc]? = some (some (.arraylength, len, a, b, k))) (hs : cs h S) (hm : (c, c', bs) ∈ shS) (kk : mW d M (pc + 1, ml, .int (Int32.ofNat bs.length) :: rest, (h, q)) P) : mW d M (pc, ml, .ref c' :: rest, (h, q)) P := by
  refine mW.aln hc (hs.gsx hm).2.1 (by decide) ?_
  rw [List.length_map]
  exact kk
end Row104
end
