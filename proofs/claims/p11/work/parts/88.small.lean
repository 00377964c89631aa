/-! Small methods: Math's min and max, strings' length and charAt, Text's putInt and putText. -/
section Small88
variable {d : Nat} {h : mH} {q : Nat × Nat} {o w : Nat} {us : List Int32} {ov : Int32}
def imin (x y : Int32) : Int32 := if y < x then y else x
def imax (x y : Int32) : Int32 := if x < y then y else x
theorem x29 (x y : Int32) : mE d mm29 (0, [some (.int x), some (.int y)], [], (h, q)) (.returned (some (.int (imin x y))), (h, q)) := by
  refine mE.sn 2 (g' := (2, [some (.int x), some (.int y)], [.int y, .int x], (h, q))) rfl ?_
  refine mE.br (g1 := (9, [some (.int x), some (.int y)], [], (h, q))) (g2 := (5, [some (.int x), some (.int y)], [], (h, q))) (c := y < x) rfl (fun hc2 => ?_) (fun hc2 => ?_)
  · refine mE.sn 1 (g' := (10, [some (.int x), some (.int y)], [.int y], (h, q))) rfl ?_
    rw [imin, if_pos hc2]
    exact m_ev.fin rfl
  · refine mE.sn 2 (g' := (10, [some (.int x), some (.int y)], [.int x], (h, q))) rfl ?_
    rw [imin, if_neg hc2]
    exact m_ev.fin rfl
theorem x30 (x y : Int32) : mE d mm30 (0, [some (.int x), some (.int y)], [], (h, q)) (.returned (some (.int (imax x y))), (h, q)) := by
  refine mE.sn 2 (g' := (2, [some (.int x), some (.int y)], [.int y, .int x], (h, q))) rfl ?_
  refine mE.br (g1 := (9, [some (.int x), some (.int y)], [], (h, q))) (g2 := (5, [some (.int x), some (.int y)], [], (h, q))) (c := x < y) rfl (fun hc2 => ?_) (fun hc2 => ?_)
  · refine mE.sn 1 (g' := (10, [some (.int x), some (.int y)], [.int y], (h, q))) rfl ?_
    rw [imax, if_pos hc2]
    exact m_ev.fin rfl
  · refine mE.sn 2 (g' := (10, [some (.int x), some (.int y)], [.int x], (h, q))) rfl ?_
    rw [imax, if_neg hc2]
    exact m_ev.fin rfl
/-- a string constant at a, its bytes at t -/
def sx (h : mH) (a t : Nat) (bs : List Int32) : Prop := h[a]? = some (17, [.ref t, .int 0]) ∧ h[t]? = some (1000, bs.map Value.int) ∧ bs.length < 65536 ∧ ∀ u ∈ bs, u &&& 255 = u ∧ (u.toUInt32 % 65536).toInt32 = u ∧ narrow .char (.int u) = .int u
variable {a t : Nat} {bs : List Int32}
theorem x5 (s : sx h a t bs) : mE d mm5 (0, [some (.ref a)], [], (h, q)) (.returned (some (.int 0)), (h, q)) := by
  refine mE.sn 1 (g' := (3, [some (.ref a)], [.int 1], (h, q))) rfl ?_
  refine mE.no (g1 := (13, [some (.ref a)], [], (h, q))) (g2 := (6, [some (.ref a)], [], (h, q))) (c := (1 : Int32) = 0) rfl (by decide) ?_
  refine mE.sn 1 (g' := (7, [some (.ref a)], [.ref a], (h, q))) rfl ?_
  refine mE.get rfl s.1 rfl ?_
  refine mE.sn 1 (g' := (14, [some (.ref a)], [.int 0], (h, q))) rfl ?_
  exact m_ev.fin rfl
theorem x7 (s : sx h a t bs) : mE d mm7 (0, [some (.ref a)], [], (h, q)) (.returned (some (.int 1)), (h, q)) := by
  refine mE.sn 1 (g' := (3, [some (.ref a)], [.int 1], (h, q))) rfl ?_
  refine mE.no (g1 := (17, [some (.ref a)], [], (h, q))) (g2 := (6, [some (.ref a)], [], (h, q))) (c := (1 : Int32) = 0) rfl (by decide) ?_
  refine mE.sn 1 (g' := (7, [some (.ref a)], [.ref a], (h, q))) rfl ?_
  refine mE.get rfl s.1 rfl ?_
  refine mE.yes (g1 := (13, [some (.ref a)], [], (h, q))) (g2 := (17, [some (.ref a)], [], (h, q))) (c := (0 : Int32) = 0) rfl rfl ?_
  refine mE.sn 2 (g' := (18, [some (.ref a)], [.int 1], (h, q))) rfl ?_
  exact m_ev.fin rfl
theorem x4 (s : sx h a t bs) : mE (d + 1) mm4 (0, [some (.ref a)], [], (h, q)) (.returned (some (.int (Int32.ofNat bs.length))), (h, q)) := by
  have e : Int32.ofNat (bs.map Value.int).length >>> ((0 : Int32) &&& 31) = Int32.ofNat bs.length := by
    rw [List.length_map]
    have : (0 : Int32) &&& 31 = 0 := by decide
    rw [this]
    simp
  refine mE.sn 1 (g' := (1, [some (.ref a)], [.ref a], (h, q))) rfl ?_
  refine mE.get rfl s.1 rfl ?_
  refine mE.aln rfl s.2.1 (by decide) ?_
  refine mE.sn 1 (g' := (6, [some (.ref a)], [.ref a, .int (Int32.ofNat (bs.map Value.int).length)], (h, q))) rfl ?_
  refine mE.call rfl rfl rfl rfl (m_rcv_ok s.1) (x5 s) ?_
  refine mE.sn 1 (g' := (10, [some (.ref a)], [.int ((Int32.ofNat (bs.map Value.int).length) >>> (0 &&& 31))], (h, q))) rfl ?_
  rw [e]
  exact m_ev.fin rfl
theorem x10 (i n : Int32) (v : Value) (hi : ¬ i < 0) (hn : i < n) : mE d mm10 (0, [some (.int i), some (.int n), some v], [], (h, q)) (.returned (some (.int i)), (h, q)) := by
  refine mE.sn 1 (g' := (1, [some (.int i), some (.int n), some v], [.int i], (h, q))) rfl ?_
  refine mE.no (c := i < 0) rfl hi ?_
  refine mE.sn 2 (g' := (6, [some (.int i), some (.int n), some v], [.int n, .int i], (h, q))) rfl ?_
  refine mE.yes (c := i < n) rfl hn ?_
  refine mE.sn 1 (g' := (17, [some (.int i), some (.int n), some v], [.int i], (h, q))) rfl ?_
  exact m_ev.fin rfl
theorem x9 (i n : Int32) (hi : ¬ i < 0) (hn : i < n) : mE (d + 1) mm9 (0, [some (.int i), some (.int n)], [], (h, q)) (.returned none, (h, q)) := by
  refine mE.sn 3 (g' := (5, [some (.int i), some (.int n)], [.retAddr 0, .int n, .int i], (h, q))) rfl ?_
  refine mE.call rfl rfl rfl rfl rfl (x10 i n (.retAddr 0) hi hn) ?_
  refine mE.sn 1 (g' := (9, [some (.int i), some (.int n)], [], (h, q))) rfl ?_
  exact m_ev.fin rfl
theorem x8 (s : sx h a t bs) (k : Nat) (hk : k < bs.length) : mE (d + 2) mm8 (0, [some (.ref t), some (.int (Int32.ofNat k))], [], (h, q)) (.returned (some (.int bs[k])), (h, q)) := by
  have hl := s.2.2.1
  have h0 : ¬ Int32.ofNat k < 0 := by
    rw [i_lt, i_of (by omega)]
    have : (0 : Int32).toInt = 0 := rfl
    omega
  have h1 : Int32.ofNat k < Int32.ofNat (bs.map Value.int).length := by
    rw [List.length_map, i_lt, i_of (by omega), i_of (by omega)]
    omega
  have h2 : m_ix (Int32.ofNat k) (bs.map Value.int) = some (.int bs[k]) := by
    rw [m_ix, if_neg h0, i_nat, i_of (by omega), List.getElem?_map]
    simp [hk]
  obtain ⟨u1, u2, u3⟩ := s.2.2.2 bs[k] (List.getElem_mem hk)
  refine mE.sn 2 (g' := (2, [some (.ref t), some (.int (Int32.ofNat k))], [.ref t, .int (Int32.ofNat k)], (h, q))) rfl ?_
  refine mE.aln rfl s.2.1 (by decide) ?_
  refine mE.call rfl rfl rfl rfl rfl (x9 _ _ h0 h1) ?_
  refine mE.sn 2 (g' := (8, [some (.ref t), some (.int (Int32.ofNat k))], [.int (Int32.ofNat k), .ref t], (h, q))) rfl ?_
  refine mE.bald (v := .int (bs[k])) rfl s.2.1 h2 ?_
  refine mE.sn 3 (g' := (14, [some (.ref t), some (.int (Int32.ofNat k))], [.int ((((bs[k]) &&& 255).toUInt32 % 65536).toInt32)], (h, q))) rfl ?_
  rw [u1, u2, show (Outcome.returned (some (Value.int bs[k]))) = .returned (some (narrow .char (.int bs[k]))) by rw [u3]]
  exact m_ev.fin rfl
theorem x6 (s : sx h a t bs) (k : Nat) (hk : k < bs.length) : mE (d + 3) mm6 (0, [some (.ref a), some (.int (Int32.ofNat k))], [], (h, q)) (.returned (some (.int bs[k])), (h, q)) := by
  obtain ⟨u1, u2, u3⟩ := s.2.2.2 bs[k] (List.getElem_mem hk)
  refine mE.sn 1 (g' := (1, [some (.ref a), some (.int (Int32.ofNat k))], [.ref a], (h, q))) rfl ?_
  refine mE.call rfl rfl rfl rfl (m_rcv_ok s.1) (x7 s) ?_
  refine mE.no (g1 := (16, [some (.ref a), some (.int (Int32.ofNat k))], [], (h, q))) (g2 := (7, [some (.ref a), some (.int (Int32.ofNat k))], [], (h, q))) (c := (1 : Int32) = 0) rfl (by decide) ?_
  refine mE.sn 1 (g' := (8, [some (.ref a), some (.int (Int32.ofNat k))], [.ref a], (h, q))) rfl ?_
  refine mE.get rfl s.1 rfl ?_
  refine mE.sn 1 (g' := (12, [some (.ref a), some (.int (Int32.ofNat k))], [.int (Int32.ofNat k), .ref t], (h, q))) rfl ?_
  refine mE.call rfl rfl rfl rfl rfl (x8 s k hk) ?_
  rw [show (Outcome.returned (some (Value.int bs[k]))) = .returned (some (narrow .char (.int bs[k]))) by rw [u3]]
  exact m_ev.fin rfl
/-- Text.putInt -/
def tputI (us : List Int32) (n : Int32) : List Int32 := tput (tput (tput (tput us (n >>> (24 &&& 31))) (n >>> (16 &&& 31))) (n >>> (8 &&& 31))) n
def tputIO (us : List Int32) (ov n : Int32) : Int32 := tputO (tput (tput (tput us (n >>> (24 &&& 31))) (n >>> (16 &&& 31))) (n >>> (8 &&& 31))) (tputO (tput (tput us (n >>> (24 &&& 31))) (n >>> (16 &&& 31))) (tputO (tput us (n >>> (24 &&& 31))) (tputO us ov)))
theorem x25 (t : tx h o w us ov) (n : Int32) : ∃ h', mE (d + 1) mm25 (0, [some (.ref o), some (.int n)], [], (h, q)) (.returned none, (h', q)) ∧ tx h' o w (tputI us n) (tputIO us ov n) ∧ sm [o, w] h h' := by
  obtain ⟨h1, c1, t1, s1⟩ := x15 (d := d) (q := q) t (n >>> (24 &&& 31))
  obtain ⟨h2, c2, t2, s2⟩ := x15 (d := d) (q := q) t1 (n >>> (16 &&& 31))
  obtain ⟨h3, c3, t3, s3⟩ := x15 (d := d) (q := q) t2 (n >>> (8 &&& 31))
  obtain ⟨h4, c4, t4, s4⟩ := x15 (d := d) (q := q) t3 n
  refine ⟨h4, ?_, t4, ((s1.trans s2).trans s3).trans s4⟩
  refine mE.sn 4 (g' := (5, [some (.ref o), some (.int n)], [.int (n >>> (24 &&& 31)), .ref o], (h, q))) rfl ?_
  refine mE.call rfl rfl rfl rfl (m_rcv_ok t.2.2.1) (c1) ?_
  refine mE.sn 4 (g' := (13, [some (.ref o), some (.int n)], [.int (n >>> (16 &&& 31)), .ref o], (h1, q))) rfl ?_
  refine mE.call rfl rfl rfl rfl (m_rcv_ok t1.2.2.1) (c2) ?_
  refine mE.sn 4 (g' := (21, [some (.ref o), some (.int n)], [.int (n >>> (8 &&& 31)), .ref o], (h2, q))) rfl ?_
  refine mE.call rfl rfl rfl rfl (m_rcv_ok t2.2.2.1) (c3) ?_
  refine mE.sn 2 (g' := (26, [some (.ref o), some (.int n)], [.int n, .ref o], (h3, q))) rfl ?_
  refine mE.call rfl rfl rfl rfl (m_rcv_ok t3.2.2.1) (c4) ?_
  exact m_ev.fin rfl
/-- bytes put one after the other -/
def tputs (us : List Int32) (ov : Int32) (bs : List Int32) : List Int32 × Int32 := bs.foldl (fun z b => (tput z.1 b, tputO z.1 z.2)) (us, ov)
/-- Text.putText -/
theorem x3l (hA : a ≠ o ∧ a ≠ w ∧ t ≠ o ∧ t ≠ w) : ∀ (m k : Nat) (h : mH) (us : List Int32) (ov : Int32), k + m = bs.length → tx h o w us ov → sx h a t bs → ∃ h', mE (d + 4) mm3 (2, [some (.ref o), some (.ref a), some (.int (Int32.ofNat k))], [], (h, q)) (.returned none, (h', q)) ∧ tx h' o w (tputs us ov (bs.drop k)).1 (tputs us ov (bs.drop k)).2 ∧ sm [o, w] h h' := by
  intro m
  induction m with
  | zero =>
    intro k h us ov hk tt s
    refine ⟨h, ?_, ?_, sm.refl _ _⟩
    · have hc : Int32.ofNat bs.length ≤ Int32.ofNat k := by rw [show k = bs.length by omega]; exact Int32.le_refl _
      refine mE.sn 2 (g' := (4, [some (.ref o), some (.ref a), some (.int (Int32.ofNat k))], [.ref a, .int (Int32.ofNat k)], (h, q))) rfl ?_
      refine mE.call rfl rfl rfl rfl (m_rcv_ok s.1) (x4 s) ?_
      refine mE.yes (g1 := (25, [some (.ref o), some (.ref a), some (.int (Int32.ofNat k))], [], (h, q))) (g2 := (10, [some (.ref o), some (.ref a), some (.int (Int32.ofNat k))], [], (h, q))) (c := (Int32.ofNat bs.length) ≤ (Int32.ofNat k)) rfl hc ?_
      exact m_ev.fin rfl
    · rw [List.drop_eq_nil_of_le (by omega)]
      exact tt
  | succ m ih =>
    intro k h us ov hk tt s
    have hkl : k < bs.length := by omega
    have hl := s.2.2.1
    obtain ⟨h1, c1, t1, s1⟩ := x15 (d := d + 3) (q := q) tt bs[k]
    have s' : sx h1 a t bs := ⟨by rw [s1.2 a (by simp [hA])]; exact s.1, by rw [s1.2 t (by simp [hA])]; exact s.2.1, s.2.2⟩
    obtain ⟨h2, c2, t2, s2⟩ := ih (k + 1) h1 _ _ (by omega) t1 s'
    refine ⟨h2, ?_, ?_, s1.trans s2⟩
    · have hc : ¬ Int32.ofNat bs.length ≤ Int32.ofNat k := by
        rw [i_le, i_of (by omega), i_of (by omega)]
        omega
      refine mE.sn 2 (g' := (4, [some (.ref o), some (.ref a), some (.int (Int32.ofNat k))], [.ref a, .int (Int32.ofNat k)], (h, q))) rfl ?_
      refine mE.call rfl rfl rfl rfl (m_rcv_ok s.1) (x4 s) ?_
      refine mE.no (g1 := (25, [some (.ref o), some (.ref a), some (.int (Int32.ofNat k))], [], (h, q))) (g2 := (10, [some (.ref o), some (.ref a), some (.int (Int32.ofNat k))], [], (h, q))) (c := (Int32.ofNat bs.length) ≤ (Int32.ofNat k)) rfl hc ?_
      refine mE.sn 3 (g' := (13, [some (.ref o), some (.ref a), some (.int (Int32.ofNat k))], [.int (Int32.ofNat k), .ref a, .ref o], (h, q))) rfl ?_
      refine mE.call rfl rfl rfl rfl (m_rcv_ok s.1) (x6 s k hkl) ?_
      refine mE.call rfl rfl rfl rfl (m_rcv_ok tt.2.2.1) (c1) ?_
      refine mE.sn 2 (g' := (2, [some (.ref o), some (.ref a), some (.int ((Int32.ofNat k) + 1))], [], (h1, q))) rfl ?_
      rw [show Int32.ofNat k + 1 = Int32.ofNat (k + 1) from (Int32.ofNat_add k 1).symm]
      exact c2
    · rw [List.drop_eq_getElem_cons hkl]
      exact t2
theorem x3 (hA : a ≠ o ∧ a ≠ w ∧ t ≠ o ∧ t ≠ w) (t' : tx h o w us ov) (s : sx h a t bs) : ∃ h', mE (d + 4) mm3 (0, [some (.ref o), some (.ref a), none], [], (h, q)) (.returned none, (h', q)) ∧ tx h' o w (tputs us ov bs).1 (tputs us ov bs).2 ∧ sm [o, w] h h' := by
  obtain ⟨h1, c1, t1, s1⟩ := x3l (d := d) (q := q) hA bs.length 0 h us ov (by omega) t' s
  refine ⟨h1, ?_, t1, s1⟩
  refine mE.sn 2 (g' := (2, [some (.ref o), some (.ref a), some (.int (Int32.ofNat 0))], [], (h, q))) rfl ?_
  exact c1
end Small88
