/-! The call feed, the class's side. -/
section Feed101
variable {d : Nat} {h : mH} {K : Nat × Nat} {q : Nat × Nat} {o w : Nat} {fs : List Value} {us : List Int32} {ov : Int32}
/-- an int's four bytes -/
def by4 (n : Int32) : List Int32 := [(n >>> (24 &&& 31)) &&& 255, (n >>> (16 &&& 31)) &&& 255, (n >>> (8 &&& 31)) &&& 255, n &&& 255]
theorem tput_fit {b : Int32} (hl : us.length < 4096) : tput us b = us ++ [b &&& 255] := by rw [tput, if_pos hl]
theorem tputO_fit (hl : us.length < 4096) : tputO us ov = ov := by rw [tputO, if_pos hl]
theorem tputI_fit {n : Int32} (hl : us.length + 4 ≤ 4096) : tputI us n = us ++ by4 n ∧ tputIO us ov n = ov := by
  have e1 := tput_fit (us := us) (b := n >>> (24 &&& 31)) (by omega)
  have e2 := tput_fit (us := us ++ [(n >>> (24 &&& 31)) &&& 255]) (b := n >>> (16 &&& 31)) (by simp; omega)
  have e3 := tput_fit (us := us ++ [(n >>> (24 &&& 31)) &&& 255] ++ [(n >>> (16 &&& 31)) &&& 255]) (b := n >>> (8 &&& 31)) (by simp; omega)
  have e4 := tput_fit (us := us ++ [(n >>> (24 &&& 31)) &&& 255] ++ [(n >>> (16 &&& 31)) &&& 255] ++ [(n >>> (8 &&& 31)) &&& 255]) (b := n) (by simp; omega)
  constructor
  · rw [tputI, e1, e2, e3, e4, by4]
    simp
  · rw [tputIO, e1, e2, e3, tputO_fit (by simp; omega), tputO_fit (by simp; omega), tputO_fit (by simp; omega), tputO_fit (by omega)]
theorem by4_len (n : Int32) : (by4 n).length = 4 := rfl
theorem x25f (t : tx h o w us ov) (n : Int32) (hl : us.length + 4 ≤ 4096) : ∃ h', mE (d + 1) mm25 (0, [some (.ref o), some (.int n)], [], (h, q)) (.returned none, (h', q)) ∧ tx h' o w (us ++ by4 n) ov ∧ sm [o, w] h h' := by
  obtain ⟨h', e, t', s⟩ := x25 (d := d) (q := q) t n
  rw [(tputI_fit (ov := ov) hl).1, (tputI_fit (ov := ov) hl).2] at t'
  exact ⟨h', e, t', s⟩
/-- StepBench.feed -/
theorem x23 (c : h[41]? = some (5, fs)) (hf : fs[0]? = some (.ref 42)) (t : tx h 42 43 us ov) (n1 n2 n3 n4 n5 : Int32) (hK : 1 ≤ K.1 ∧ 6 ≤ K.2) : mW (d + 8) mm23 (0, [some (.ref 41), some (.int n1), some (.int n2), some (.int n3), some (.int n4), some (.int n5)], [], (h, K)) (fun o S' =>
    (4096 < us.length + 20 ∧ o = .threw h.length ∧ S' = (h ++ [(0, [])], K.1 - 1, K.2 - 6)) ∨ (us.length + 20 ≤ 4096 ∧ o = .returned (some (.int (Int32.ofNat (us.length + 20)))) ∧ ∃ h', S' = (h', K) ∧ tx h' 42 43 (us ++ by4 n1 ++ by4 n2 ++ by4 n3 ++ by4 n4 ++ by4 n5) ov ∧ sm [42, 43] h h')) := by
  have e20 : Int32.ofNat us.length + 20 = Int32.ofNat (us.length + 20) := (Int32.ofNat_add us.length 20).symm
  have hu := t.2.2.2.1
  refine mW.sn 1 (g' := (1, [some (.ref 41), some (.int n1), some (.int n2), some (.int n3), some (.int n4), some (.int n5)], [.ref 41], (h, K))) rfl ?_
  refine mW.get rfl c hf ?_
  refine mW.callE rfl rfl rfl rfl (m_rcv_ok t.2.2.1) (x24 t) ?_
  refine mW.sn 3 (g' := (13, [some (.ref 41), some (.int n1), some (.int n2), some (.int n3), some (.int n4), some (.int n5)], [.int 4096, .int (Int32.ofNat us.length + 20)], (h, K))) rfl ?_
  refine mW.br (g1 := (24, [some (.ref 41), some (.int n1), some (.int n2), some (.int n3), some (.int n4), some (.int n5)], [], (h, K))) (g2 := (16, [some (.ref 41), some (.int n1), some (.int n2), some (.int n3), some (.int n4), some (.int n5)], [], (h, K))) (c := Int32.ofNat us.length + 20 ≤ 4096) rfl (fun hl => ?_) (fun hl => ?_)
  · have hl' : us.length + 20 ≤ 4096 := by
      rw [e20, i_le, i_of (by omega)] at hl
      have : (4096 : Int32).toInt = 4096 := rfl
      omega
    obtain ⟨h1, a1, t1, s1⟩ := x25f (d := d + 6) (q := K) t n1 (by first | omega | (simp only [List.length_append, by4_len]; omega))
    have c1 : h1[41]? = some (5, fs) := by rw [s1.2 41 (by decide)]; exact c
    obtain ⟨h2, a2, t2, s2⟩ := x25f (d := d + 6) (q := K) t1 n2 (by first | omega | (simp only [List.length_append, by4_len]; omega))
    have c2 : h2[41]? = some (5, fs) := by rw [s2.2 41 (by decide)]; exact c1
    obtain ⟨h3, a3, t3, s3⟩ := x25f (d := d + 6) (q := K) t2 n3 (by first | omega | (simp only [List.length_append, by4_len]; omega))
    have c3 : h3[41]? = some (5, fs) := by rw [s3.2 41 (by decide)]; exact c2
    obtain ⟨h4, a4, t4, s4⟩ := x25f (d := d + 6) (q := K) t3 n4 (by first | omega | (simp only [List.length_append, by4_len]; omega))
    have c4 : h4[41]? = some (5, fs) := by rw [s4.2 41 (by decide)]; exact c3
    obtain ⟨h5, a5, t5, s5⟩ := x25f (d := d + 6) (q := K) t4 n5 (by first | omega | (simp only [List.length_append, by4_len]; omega))
    have c5 : h5[41]? = some (5, fs) := by rw [s5.2 41 (by decide)]; exact c4
    refine mW.sn 1 (g' := (25, [some (.ref 41), some (.int n1), some (.int n2), some (.int n3), some (.int n4), some (.int n5)], [.ref 41], (h, K))) rfl ?_
    refine mW.get rfl c hf ?_
    refine mW.sn 1 (g' := (29, [some (.ref 41), some (.int n1), some (.int n2), some (.int n3), some (.int n4), some (.int n5)], [.int n1, .ref 42], (h, K))) rfl ?_
    refine mW.callE rfl rfl rfl rfl (m_rcv_ok t.2.2.1) a1 ?_
    refine mW.sn 1 (g' := (33, [some (.ref 41), some (.int n1), some (.int n2), some (.int n3), some (.int n4), some (.int n5)], [.ref 41], (h1, K))) rfl ?_
    refine mW.get rfl c1 hf ?_
    refine mW.sn 1 (g' := (37, [some (.ref 41), some (.int n1), some (.int n2), some (.int n3), some (.int n4), some (.int n5)], [.int n2, .ref 42], (h1, K))) rfl ?_
    refine mW.callE rfl rfl rfl rfl (m_rcv_ok t1.2.2.1) a2 ?_
    refine mW.sn 1 (g' := (41, [some (.ref 41), some (.int n1), some (.int n2), some (.int n3), some (.int n4), some (.int n5)], [.ref 41], (h2, K))) rfl ?_
    refine mW.get rfl c2 hf ?_
    refine mW.sn 1 (g' := (45, [some (.ref 41), some (.int n1), some (.int n2), some (.int n3), some (.int n4), some (.int n5)], [.int n3, .ref 42], (h2, K))) rfl ?_
    refine mW.callE rfl rfl rfl rfl (m_rcv_ok t2.2.2.1) a3 ?_
    refine mW.sn 1 (g' := (49, [some (.ref 41), some (.int n1), some (.int n2), some (.int n3), some (.int n4), some (.int n5)], [.ref 41], (h3, K))) rfl ?_
    refine mW.get rfl c3 hf ?_
    refine mW.sn 1 (g' := (54, [some (.ref 41), some (.int n1), some (.int n2), some (.int n3), some (.int n4), some (.int n5)], [.int n4, .ref 42], (h3, K))) rfl ?_
    refine mW.callE rfl rfl rfl rfl (m_rcv_ok t3.2.2.1) a4 ?_
    refine mW.sn 1 (g' := (58, [some (.ref 41), some (.int n1), some (.int n2), some (.int n3), some (.int n4), some (.int n5)], [.ref 41], (h4, K))) rfl ?_
    refine mW.get rfl c4 hf ?_
    refine mW.sn 1 (g' := (63, [some (.ref 41), some (.int n1), some (.int n2), some (.int n3), some (.int n4), some (.int n5)], [.int n5, .ref 42], (h4, K))) rfl ?_
    refine mW.callE rfl rfl rfl rfl (m_rcv_ok t4.2.2.1) a5 ?_
    refine mW.sn 1 (g' := (67, [some (.ref 41), some (.int n1), some (.int n2), some (.int n3), some (.int n4), some (.int n5)], [.ref 41], (h5, K))) rfl ?_
    refine mW.get rfl c5 hf ?_
    refine mW.callE rfl rfl rfl rfl (m_rcv_ok t5.2.2.1) (x24 t5) ?_
    refine mW.fin rfl (Or.inr ⟨hl', ?_, h5, rfl, t5, (((s1.trans s2).trans s3).trans s4).trans s5⟩)
    have el : (us ++ by4 n1 ++ by4 n2 ++ by4 n3 ++ by4 n4 ++ by4 n5).length = us.length + 20 := by simp only [List.length_append, by4_len]
    rw [el]
    rfl
  · refine mW.thr rfl rfl hK (by omega) (by decide) (Or.inl ⟨?_, rfl, rfl⟩)
    rw [e20, i_le, i_of (by omega)] at hl
    have : (4096 : Int32).toInt = 4096 := rfl
    omega
end Feed101
