/-! PRINTED BY wip/whole/t91.py: how a Text is read, the second part. -/
section Read91
variable {d : Nat} {h : mH} {q : Nat × Nat} {o w o2 w2 a t' : Nat} {us vs bs : List Int32} {ov ov2 : Int32}
/-- a string constant's character -/
def sch (bs : List Int32) (i : Int32) : Option Int32 := if i < 0 then none else bs[i.toNatClampNeg]?
theorem x6o (s : sx h a t' bs) {i v : Int32} (hv : sch bs i = some v) : mE (d + 3) mm6 (0, [some (.ref a), some (.int i)], [], (h, q)) (.returned (some (.int v)), (h, q)) := by
  unfold sch at hv
  by_cases hi : i < 0
  · rw [if_pos hi] at hv; cases hv
  · rw [if_neg hi] at hv
    obtain ⟨hl, e⟩ := List.getElem?_eq_some_iff.mp hv
    have hk : i = Int32.ofNat i.toNatClampNeg := by
      apply Int32.toInt_inj.mp
      have h1 := s.2.2.1
      rw [i_of (by omega), i_nat]
      rw [i_lt] at hi
      have : (0 : Int32).toInt = 0 := rfl
      omega
    rw [← e]
    have := x6 (d := d) (q := q) s i.toNatClampNeg hl
    rw [← hk] at this
    exact this
def t_depth_l (us : List Int32) : Nat → Int32 → Int32 → Int32 → Int32 → Option Int32
  | 0, _, _, _, _ => none
  | n + 1, l1, l2, l3, l4 => (if (Int32.ofNat us.length) ≤ l4 then some l2 else ((tby us l4).bind fun b2 => (if l3 = 0 then (if b2 = (34 : Int32) then t_depth_l us n l1 l2 1 (l4 + 1) else (if b2 = (91 : Int32) then t_depth_l us n (l1 + 1) (imax l2 (l1 + 1)) l3 (l4 + 1) else (if b2 = (123 : Int32) then t_depth_l us n (l1 + 1) (imax l2 (l1 + 1)) l3 (l4 + 1) else (if b2 = (93 : Int32) then t_depth_l us n (l1 + (-1)) l2 l3 (l4 + 1) else (if b2 = (125 : Int32) then t_depth_l us n (l1 + (-1)) l2 l3 (l4 + 1) else t_depth_l us n l1 l2 l3 (l4 + 1)))))) else (if b2 = (34 : Int32) then (if b2 = (92 : Int32) then t_depth_l us n l1 l2 0 ((l4 + 1) + 1) else t_depth_l us n l1 l2 0 (l4 + 1)) else (if b2 = (92 : Int32) then t_depth_l us n l1 l2 1 ((l4 + 1) + 1) else t_depth_l us n l1 l2 1 (l4 + 1))))))
theorem t_depth_l_ok (t : tx h o w us ov) : ∀ (n : Nat) (l1 : Int32) (l2 : Int32) (l3 : Int32) (l4 : Int32) (x5 : Option Value) (v : Int32), t_depth_l us n l1 l2 l3 l4 = some v → mE (d + 1) mm64 (9, [some (.ref o), some (.int l1), some (.int l2), some (.int l3), some (.int l4), x5], [], (h, q)) (.returned (some (.int v)), (h, q)) := by
  intro n
  induction n with
  | zero => intro l1 l2 l3 l4 x5 v hv; cases hv
  | succ n ih =>
    intro l1 l2 l3 l4 x5 v hv
    unfold t_depth_l at hv
    refine mE.sn 2 (g' := (12, [some (.ref o), some (.int l1), some (.int l2), some (.int l3), some (.int l4), x5], [.ref o, .int l4], (h, q))) rfl ?_
    refine mE.get rfl t.2.2.1 rfl ?_
    refine mE.br (g1 := (118, [some (.ref o), some (.int l1), some (.int l2), some (.int l3), some (.int l4), x5], [], (h, q))) (g2 := (18, [some (.ref o), some (.int l1), some (.int l2), some (.int l3), some (.int l4), x5], [], (h, q))) (c := (Int32.ofNat us.length) ≤ l4) rfl (fun hc1 => ?_) (fun hc1 => ?_)
    · rw [if_pos hc1] at hv
      refine mE.sn 1 (g' := (119, [some (.ref o), some (.int l1), some (.int l2), some (.int l3), some (.int l4), x5], [.int l2], (h, q))) rfl ?_
      cases hv
      exact m_ev.fin rfl
    · rw [if_neg hc1] at hv
      refine mE.sn 1 (g' := (19, [some (.ref o), some (.int l1), some (.int l2), some (.int l3), some (.int l4), x5], [.ref o], (h, q))) rfl ?_
      refine mE.get rfl t.2.2.1 rfl ?_
      refine mE.sn 1 (g' := (24, [some (.ref o), some (.int l1), some (.int l2), some (.int l3), some (.int l4), x5], [.int l4, .ref w], (h, q))) rfl ?_
      cases hr2 : tby us l4 with
      | none => rw [hr2] at hv; cases hv
      | some b2 =>
        rw [hr2] at hv
        simp only [Option.bind_some] at hv
        obtain ⟨row2, hw2, hx2⟩ := tby_row t hr2
        refine mE.bald (v := .int b2) rfl hw2 hx2 ?_
        refine mE.sn 2 (g' := (28, [some (.ref o), some (.int l1), some (.int l2), some (.int l3), some (.int l4), some (.int b2)], [.int l3], (h, q))) rfl ?_
        refine mE.br (g1 := (57, [some (.ref o), some (.int l1), some (.int l2), some (.int l3), some (.int l4), some (.int b2)], [], (h, q))) (g2 := (31, [some (.ref o), some (.int l1), some (.int l2), some (.int l3), some (.int l4), some (.int b2)], [], (h, q))) (c := l3 = 0) rfl (fun hc3 => ?_) (fun hc3 => ?_)
        · rw [if_pos hc3] at hv
          refine mE.sn 2 (g' := (61, [some (.ref o), some (.int l1), some (.int l2), some (.int l3), some (.int l4), some (.int b2)], [.int 34, .int b2], (h, q))) rfl ?_
          refine mE.br (g1 := (64, [some (.ref o), some (.int l1), some (.int l2), some (.int l3), some (.int l4), some (.int b2)], [], (h, q))) (g2 := (69, [some (.ref o), some (.int l1), some (.int l2), some (.int l3), some (.int l4), some (.int b2)], [], (h, q))) (c := b2 = (34 : Int32)) rfl (fun hc4 => ?_) (fun hc4 => ?_)
          · rw [if_pos hc4] at hv
            refine mE.sn 5 (g' := (9, [some (.ref o), some (.int l1), some (.int l2), some (.int 1), some (.int (l4 + 1)), some (.int b2)], [], (h, q))) rfl ?_
            exact ih _ _ _ _ _ v hv
          · rw [if_neg hc4] at hv
            refine mE.sn 2 (g' := (73, [some (.ref o), some (.int l1), some (.int l2), some (.int l3), some (.int l4), some (.int b2)], [.int 91, .int b2], (h, q))) rfl ?_
            refine mE.br (g1 := (83, [some (.ref o), some (.int l1), some (.int l2), some (.int l3), some (.int l4), some (.int b2)], [], (h, q))) (g2 := (76, [some (.ref o), some (.int l1), some (.int l2), some (.int l3), some (.int l4), some (.int b2)], [], (h, q))) (c := b2 = (91 : Int32)) rfl (fun hc5 => ?_) (fun hc5 => ?_)
            · rw [if_pos hc5] at hv
              refine mE.sn 3 (g' := (88, [some (.ref o), some (.int (l1 + 1)), some (.int l2), some (.int l3), some (.int l4), some (.int b2)], [.int (l1 + 1), .int l2], (h, q))) rfl ?_
              refine mE.call rfl rfl rfl rfl rfl (x30 l2 (l1 + 1)) ?_
              refine mE.sn 4 (g' := (9, [some (.ref o), some (.int (l1 + 1)), some (.int (imax l2 (l1 + 1))), some (.int l3), some (.int (l4 + 1)), some (.int b2)], [], (h, q))) rfl ?_
              exact ih _ _ _ _ _ v hv
            · rw [if_neg hc5] at hv
              refine mE.sn 2 (g' := (80, [some (.ref o), some (.int l1), some (.int l2), some (.int l3), some (.int l4), some (.int b2)], [.int 123, .int b2], (h, q))) rfl ?_
              refine mE.br (g1 := (83, [some (.ref o), some (.int l1), some (.int l2), some (.int l3), some (.int l4), some (.int b2)], [], (h, q))) (g2 := (95, [some (.ref o), some (.int l1), some (.int l2), some (.int l3), some (.int l4), some (.int b2)], [], (h, q))) (c := b2 = (123 : Int32)) rfl (fun hc6 => ?_) (fun hc6 => ?_)
              · rw [if_pos hc6] at hv
                refine mE.sn 3 (g' := (88, [some (.ref o), some (.int (l1 + 1)), some (.int l2), some (.int l3), some (.int l4), some (.int b2)], [.int (l1 + 1), .int l2], (h, q))) rfl ?_
                refine mE.call rfl rfl rfl rfl rfl (x30 l2 (l1 + 1)) ?_
                refine mE.sn 4 (g' := (9, [some (.ref o), some (.int (l1 + 1)), some (.int (imax l2 (l1 + 1))), some (.int l3), some (.int (l4 + 1)), some (.int b2)], [], (h, q))) rfl ?_
                exact ih _ _ _ _ _ v hv
              · rw [if_neg hc6] at hv
                refine mE.sn 2 (g' := (99, [some (.ref o), some (.int l1), some (.int l2), some (.int l3), some (.int l4), some (.int b2)], [.int 93, .int b2], (h, q))) rfl ?_
                refine mE.br (g1 := (109, [some (.ref o), some (.int l1), some (.int l2), some (.int l3), some (.int l4), some (.int b2)], [], (h, q))) (g2 := (102, [some (.ref o), some (.int l1), some (.int l2), some (.int l3), some (.int l4), some (.int b2)], [], (h, q))) (c := b2 = (93 : Int32)) rfl (fun hc7 => ?_) (fun hc7 => ?_)
                · rw [if_pos hc7] at hv
                  refine mE.sn 3 (g' := (9, [some (.ref o), some (.int (l1 + (-1))), some (.int l2), some (.int l3), some (.int (l4 + 1)), some (.int b2)], [], (h, q))) rfl ?_
                  exact ih _ _ _ _ _ v hv
                · rw [if_neg hc7] at hv
                  refine mE.sn 2 (g' := (106, [some (.ref o), some (.int l1), some (.int l2), some (.int l3), some (.int l4), some (.int b2)], [.int 125, .int b2], (h, q))) rfl ?_
                  refine mE.br (g1 := (109, [some (.ref o), some (.int l1), some (.int l2), some (.int l3), some (.int l4), some (.int b2)], [], (h, q))) (g2 := (112, [some (.ref o), some (.int l1), some (.int l2), some (.int l3), some (.int l4), some (.int b2)], [], (h, q))) (c := b2 = (125 : Int32)) rfl (fun hc8 => ?_) (fun hc8 => ?_)
                  · rw [if_pos hc8] at hv
                    refine mE.sn 3 (g' := (9, [some (.ref o), some (.int (l1 + (-1))), some (.int l2), some (.int l3), some (.int (l4 + 1)), some (.int b2)], [], (h, q))) rfl ?_
                    exact ih _ _ _ _ _ v hv
                  · rw [if_neg hc8] at hv
                    refine mE.sn 2 (g' := (9, [some (.ref o), some (.int l1), some (.int l2), some (.int l3), some (.int (l4 + 1)), some (.int b2)], [], (h, q))) rfl ?_
                    exact ih _ _ _ _ _ v hv
        · rw [if_neg hc3] at hv
          refine mE.sn 2 (g' := (35, [some (.ref o), some (.int l1), some (.int l2), some (.int l3), some (.int l4), some (.int b2)], [.int 34, .int b2], (h, q))) rfl ?_
          refine mE.br (g1 := (42, [some (.ref o), some (.int l1), some (.int l2), some (.int l3), some (.int l4), some (.int b2)], [], (h, q))) (g2 := (38, [some (.ref o), some (.int l1), some (.int l2), some (.int l3), some (.int l4), some (.int b2)], [], (h, q))) (c := b2 = (34 : Int32)) rfl (fun hc9 => ?_) (fun hc9 => ?_)
          · rw [if_pos hc9] at hv
            refine mE.sn 4 (g' := (48, [some (.ref o), some (.int l1), some (.int l2), some (.int 0), some (.int l4), some (.int b2)], [.int 92, .int b2], (h, q))) rfl ?_
            refine mE.br (g1 := (51, [some (.ref o), some (.int l1), some (.int l2), some (.int 0), some (.int l4), some (.int b2)], [], (h, q))) (g2 := (112, [some (.ref o), some (.int l1), some (.int l2), some (.int 0), some (.int l4), some (.int b2)], [], (h, q))) (c := b2 = (92 : Int32)) rfl (fun hc10 => ?_) (fun hc10 => ?_)
            · rw [if_pos hc10] at hv
              refine mE.sn 4 (g' := (9, [some (.ref o), some (.int l1), some (.int l2), some (.int 0), some (.int ((l4 + 1) + 1)), some (.int b2)], [], (h, q))) rfl ?_
              exact ih _ _ _ _ _ v hv
            · rw [if_neg hc10] at hv
              refine mE.sn 2 (g' := (9, [some (.ref o), some (.int l1), some (.int l2), some (.int 0), some (.int (l4 + 1)), some (.int b2)], [], (h, q))) rfl ?_
              exact ih _ _ _ _ _ v hv
          · rw [if_neg hc9] at hv
            refine mE.sn 5 (g' := (48, [some (.ref o), some (.int l1), some (.int l2), some (.int 1), some (.int l4), some (.int b2)], [.int 92, .int b2], (h, q))) rfl ?_
            refine mE.br (g1 := (51, [some (.ref o), some (.int l1), some (.int l2), some (.int 1), some (.int l4), some (.int b2)], [], (h, q))) (g2 := (112, [some (.ref o), some (.int l1), some (.int l2), some (.int 1), some (.int l4), some (.int b2)], [], (h, q))) (c := b2 = (92 : Int32)) rfl (fun hc11 => ?_) (fun hc11 => ?_)
            · rw [if_pos hc11] at hv
              refine mE.sn 4 (g' := (9, [some (.ref o), some (.int l1), some (.int l2), some (.int 1), some (.int ((l4 + 1) + 1)), some (.int b2)], [], (h, q))) rfl ?_
              exact ih _ _ _ _ _ v hv
            · rw [if_neg hc11] at hv
              refine mE.sn 2 (g' := (9, [some (.ref o), some (.int l1), some (.int l2), some (.int 1), some (.int (l4 + 1)), some (.int b2)], [], (h, q))) rfl ?_
              exact ih _ _ _ _ _ v hv
def t_depth (us : List Int32)  : Option Int32 := t_depth_l us 10000 0 0 0 0
theorem x64 (t : tx h o w us ov)  {v : Int32} (hv : t_depth us  = some v) : mE (d + 1) mm64 (0, [some (.ref o), none, none, none, none, none], [], (h, q)) (.returned (some (.int v)), (h, q)) := by
  unfold t_depth at hv
  refine mE.sn 8 (g' := (9, [some (.ref o), some (.int 0), some (.int 0), some (.int 0), some (.int 0), none], [], (h, q))) rfl ?_
  exact t_depth_l_ok t _ _ _ _ _ _ v hv
def t_number_l (us : List Int32) : Nat → Int32 → Int32 → Int64 → Int32 → Option Int64
  | 0, _, _, _, _ => none
  | n + 1, l1, l2, l3, l5 => (if (Int32.ofNat us.length) ≤ l5 then (if l2 = 0 then some l3 else some (-l3)) else (if (sg_digit (tat us l5)) = 0 then (if l2 = 0 then some l3 else some (-l3)) else t_number_l us n l1 l2 ((l3 * 10) + (((tat us l5) - 48).toInt64)) (l5 + 1)))
theorem t_number_l_ok (t : tx h o w us ov) : ∀ (n : Nat) (l1 : Int32) (l2 : Int32) (l3 : Int64) (l5 : Int32) (x4 : Option Value) (v : Int64), t_number_l us n l1 l2 l3 l5 = some v → mE (d + 1) mm84 (31, [some (.ref o), some (.int l1), some (.int l2), some (.long l3), x4, some (.int l5)], [], (h, q)) (.returned (some (.long v)), (h, q)) := by
  intro n
  induction n with
  | zero => intro l1 l2 l3 l5 x4 v hv; cases hv
  | succ n ih =>
    intro l1 l2 l3 l5 x4 v hv
    unfold t_number_l at hv
    refine mE.sn 2 (g' := (34, [some (.ref o), some (.int l1), some (.int l2), some (.long l3), x4, some (.int l5)], [.ref o, .int l5], (h, q))) rfl ?_
    refine mE.get rfl t.2.2.1 rfl ?_
    refine mE.br (g1 := (75, [some (.ref o), some (.int l1), some (.int l2), some (.long l3), x4, some (.int l5)], [], (h, q))) (g2 := (40, [some (.ref o), some (.int l1), some (.int l2), some (.long l3), x4, some (.int l5)], [], (h, q))) (c := (Int32.ofNat us.length) ≤ l5) rfl (fun hc1 => ?_) (fun hc1 => ?_)
    · rw [if_pos hc1] at hv
      refine mE.sn 1 (g' := (76, [some (.ref o), some (.int l1), some (.int l2), some (.long l3), x4, some (.int l5)], [.int l2], (h, q))) rfl ?_
      refine mE.br (g1 := (84, [some (.ref o), some (.int l1), some (.int l2), some (.long l3), x4, some (.int l5)], [], (h, q))) (g2 := (79, [some (.ref o), some (.int l1), some (.int l2), some (.long l3), x4, some (.int l5)], [], (h, q))) (c := l2 = 0) rfl (fun hc2 => ?_) (fun hc2 => ?_)
      · rw [if_pos hc2] at hv
        refine mE.sn 1 (g' := (85, [some (.ref o), some (.int l1), some (.int l2), some (.long l3), x4, some (.int l5)], [.long l3], (h, q))) rfl ?_
        cases hv
        exact m_ev.fin rfl
      · rw [if_neg hc2] at hv
        refine mE.sn 3 (g' := (85, [some (.ref o), some (.int l1), some (.int l2), some (.long l3), x4, some (.int l5)], [.long (-l3)], (h, q))) rfl ?_
        cases hv
        exact m_ev.fin rfl
    · rw [if_neg hc1] at hv
      refine mE.sn 2 (g' := (43, [some (.ref o), some (.int l1), some (.int l2), some (.long l3), x4, some (.int l5)], [.int l5, .ref o], (h, q))) rfl ?_
      refine mE.call rfl rfl rfl rfl (m_rcv_ok t.2.2.1) (x37 t l5) ?_
      refine mE.call rfl rfl rfl rfl rfl (x59 (tat us l5)) ?_
      refine mE.br (g1 := (75, [some (.ref o), some (.int l1), some (.int l2), some (.long l3), x4, some (.int l5)], [], (h, q))) (g2 := (52, [some (.ref o), some (.int l1), some (.int l2), some (.long l3), x4, some (.int l5)], [], (h, q))) (c := (sg_digit (tat us l5)) = 0) rfl (fun hc3 => ?_) (fun hc3 => ?_)
      · rw [if_pos hc3] at hv
        refine mE.sn 1 (g' := (76, [some (.ref o), some (.int l1), some (.int l2), some (.long l3), x4, some (.int l5)], [.int l2], (h, q))) rfl ?_
        refine mE.br (g1 := (84, [some (.ref o), some (.int l1), some (.int l2), some (.long l3), x4, some (.int l5)], [], (h, q))) (g2 := (79, [some (.ref o), some (.int l1), some (.int l2), some (.long l3), x4, some (.int l5)], [], (h, q))) (c := l2 = 0) rfl (fun hc4 => ?_) (fun hc4 => ?_)
        · rw [if_pos hc4] at hv
          refine mE.sn 1 (g' := (85, [some (.ref o), some (.int l1), some (.int l2), some (.long l3), x4, some (.int l5)], [.long l3], (h, q))) rfl ?_
          cases hv
          exact m_ev.fin rfl
        · rw [if_neg hc4] at hv
          refine mE.sn 3 (g' := (85, [some (.ref o), some (.int l1), some (.int l2), some (.long l3), x4, some (.int l5)], [.long (-l3)], (h, q))) rfl ?_
          cases hv
          exact m_ev.fin rfl
      · rw [if_neg hc3] at hv
        refine mE.sn 5 (g' := (60, [some (.ref o), some (.int l1), some (.int l2), some (.long l3), x4, some (.int l5)], [.int l5, .ref o, .long (l3 * 10)], (h, q))) rfl ?_
        refine mE.call rfl rfl rfl rfl (m_rcv_ok t.2.2.1) (x37 t l5) ?_
        refine mE.sn 7 (g' := (31, [some (.ref o), some (.int l1), some (.int l2), some (.long ((l3 * 10) + (((tat us l5) - 48).toInt64))), none, some (.int (l5 + 1))], [], (h, q))) rfl ?_
        exact ih _ _ _ _ _ v hv
def t_number (us : List Int32) (p : Int32) : Option Int64 := (if (tat us p) = (45 : Int32) then t_number_l us 10000 p 1 0 (p + 1) else t_number_l us 10000 p 0 0 p)
theorem x84 (t : tx h o w us ov) {p : Int32} {v : Int64} (hv : t_number us p = some v) : mE (d + 1) mm84 (0, [some (.ref o), some (.int p), none, none, none, none], [], (h, q)) (.returned (some (.long v)), (h, q)) := by
  unfold t_number at hv
  refine mE.sn 2 (g' := (2, [some (.ref o), some (.int p), none, none, none, none], [.int p, .ref o], (h, q))) rfl ?_
  refine mE.call rfl rfl rfl rfl (m_rcv_ok t.2.2.1) (x37 t p) ?_
  refine mE.sn 1 (g' := (7, [some (.ref o), some (.int p), none, none, none, none], [.int 45, .int (tat us p)], (h, q))) rfl ?_
  refine mE.br (g1 := (10, [some (.ref o), some (.int p), none, none, none, none], [], (h, q))) (g2 := (14, [some (.ref o), some (.int p), none, none, none, none], [], (h, q))) (c := (tat us p) = (45 : Int32)) rfl (fun hc5 => ?_) (fun hc5 => ?_)
  · rw [if_pos hc5] at hv
    refine mE.sn 6 (g' := (19, [some (.ref o), some (.int p), some (.int 1), some (.long 0), none, none], [.int 1], (h, q))) rfl ?_
    refine mE.no (g1 := (28, [some (.ref o), some (.int p), some (.int 1), some (.long 0), none, none], [], (h, q))) (g2 := (22, [some (.ref o), some (.int p), some (.int 1), some (.long 0), none, none], [], (h, q))) (c := (1 : Int32) = 0) rfl (by decide) ?_
    refine mE.sn 5 (g' := (31, [some (.ref o), some (.int p), some (.int 1), some (.long 0), none, some (.int (p + 1))], [], (h, q))) rfl ?_
    exact t_number_l_ok t _ _ _ _ _ _ v hv
  · rw [if_neg hc5] at hv
    refine mE.sn 5 (g' := (19, [some (.ref o), some (.int p), some (.int 0), some (.long 0), none, none], [.int 0], (h, q))) rfl ?_
    refine mE.yes (g1 := (28, [some (.ref o), some (.int p), some (.int 0), some (.long 0), none, none], [], (h, q))) (g2 := (22, [some (.ref o), some (.int p), some (.int 0), some (.long 0), none, none], [], (h, q))) (c := (0 : Int32) = 0) rfl (by decide) ?_
    refine mE.sn 2 (g' := (31, [some (.ref o), some (.int p), some (.int 0), some (.long 0), none, some (.int p)], [], (h, q))) rfl ?_
    exact t_number_l_ok t _ _ _ _ _ _ v hv
def t_chars_l (us : List Int32) : Nat → Int32 → Int32 → Int32 → Option Int32
  | 0, _, _, _ => none
  | n + 1, l1, l2, l3 => (if (Int32.ofNat us.length) ≤ l3 then some l2 else (if (tat us l3) = (34 : Int32) then some l2 else ((t_width us l3).bind fun r3 => t_chars_l us n l1 (l2 + 1) (l3 + r3))))
theorem t_chars_l_ok (t : tx h o w us ov) : ∀ (n : Nat) (l1 : Int32) (l2 : Int32) (l3 : Int32) (v : Int32), t_chars_l us n l1 l2 l3 = some v → mE (d + 2) mm93 (6, [some (.ref o), some (.int l1), some (.int l2), some (.int l3)], [], (h, q)) (.returned (some (.int v)), (h, q)) := by
  intro n
  induction n with
  | zero => intro l1 l2 l3 v hv; cases hv
  | succ n ih =>
    intro l1 l2 l3 v hv
    unfold t_chars_l at hv
    refine mE.sn 2 (g' := (8, [some (.ref o), some (.int l1), some (.int l2), some (.int l3)], [.ref o, .int l3], (h, q))) rfl ?_
    refine mE.get rfl t.2.2.1 rfl ?_
    refine mE.br (g1 := (38, [some (.ref o), some (.int l1), some (.int l2), some (.int l3)], [], (h, q))) (g2 := (14, [some (.ref o), some (.int l1), some (.int l2), some (.int l3)], [], (h, q))) (c := (Int32.ofNat us.length) ≤ l3) rfl (fun hc1 => ?_) (fun hc1 => ?_)
    · rw [if_pos hc1] at hv
      refine mE.sn 1 (g' := (39, [some (.ref o), some (.int l1), some (.int l2), some (.int l3)], [.int l2], (h, q))) rfl ?_
      cases hv
      exact m_ev.fin rfl
    · rw [if_neg hc1] at hv
      refine mE.sn 2 (g' := (16, [some (.ref o), some (.int l1), some (.int l2), some (.int l3)], [.int l3, .ref o], (h, q))) rfl ?_
      refine mE.call rfl rfl rfl rfl (m_rcv_ok t.2.2.1) (x37 t l3) ?_
      refine mE.sn 1 (g' := (21, [some (.ref o), some (.int l1), some (.int l2), some (.int l3)], [.int 34, .int (tat us l3)], (h, q))) rfl ?_
      refine mE.br (g1 := (38, [some (.ref o), some (.int l1), some (.int l2), some (.int l3)], [], (h, q))) (g2 := (24, [some (.ref o), some (.int l1), some (.int l2), some (.int l3)], [], (h, q))) (c := (tat us l3) = (34 : Int32)) rfl (fun hc2 => ?_) (fun hc2 => ?_)
      · rw [if_pos hc2] at hv
        refine mE.sn 1 (g' := (39, [some (.ref o), some (.int l1), some (.int l2), some (.int l3)], [.int l2], (h, q))) rfl ?_
        cases hv
        exact m_ev.fin rfl
      · rw [if_neg hc2] at hv
        refine mE.sn 4 (g' := (30, [some (.ref o), some (.int l1), some (.int (l2 + 1)), some (.int l3)], [.int l3, .ref o, .int l3], (h, q))) rfl ?_
        cases hr3 : t_width us l3 with
        | none => rw [hr3] at hv; cases hv
        | some r3 =>
          rw [hr3] at hv
          simp only [Option.bind_some] at hv
          refine mE.call rfl rfl rfl rfl (m_rcv_ok t.2.2.1) (x94 t hr3) ?_
          refine mE.sn 3 (g' := (6, [some (.ref o), some (.int l1), some (.int (l2 + 1)), some (.int (l3 + r3))], [], (h, q))) rfl ?_
          exact ih _ _ _ v hv
def t_chars (us : List Int32) (p : Int32) : Option Int32 := t_chars_l us 10000 p 0 (p + 1)
theorem x93 (t : tx h o w us ov) {p : Int32} {v : Int32} (hv : t_chars us p = some v) : mE (d + 2) mm93 (0, [some (.ref o), some (.int p), none, none], [], (h, q)) (.returned (some (.int v)), (h, q)) := by
  unfold t_chars at hv
  refine mE.sn 6 (g' := (6, [some (.ref o), some (.int p), some (.int 0), some (.int (p + 1))], [], (h, q))) rfl ?_
  exact t_chars_l_ok t _ _ _ _ v hv
def t_charPlace_l (us : List Int32) : Nat → Int32 → Int32 → Int32 → Int32 → Option Int32
  | 0, _, _, _, _ => none
  | n + 1, l1, l2, l3, l4 => (if l2 ≤ l4 then some l3 else ((t_width us l3).bind fun r2 => t_charPlace_l us n l1 l2 (l3 + r2) (l4 + 1)))
theorem t_charPlace_l_ok (t : tx h o w us ov) : ∀ (n : Nat) (l1 : Int32) (l2 : Int32) (l3 : Int32) (l4 : Int32) (v : Int32), t_charPlace_l us n l1 l2 l3 l4 = some v → mE (d + 2) mm100 (7, [some (.ref o), some (.int l1), some (.int l2), some (.int l3), some (.int l4)], [], (h, q)) (.returned (some (.int v)), (h, q)) := by
  intro n
  induction n with
  | zero => intro l1 l2 l3 l4 v hv; cases hv
  | succ n ih =>
    intro l1 l2 l3 l4 v hv
    unfold t_charPlace_l at hv
    refine mE.sn 2 (g' := (10, [some (.ref o), some (.int l1), some (.int l2), some (.int l3), some (.int l4)], [.int l2, .int l4], (h, q))) rfl ?_
    refine mE.br (g1 := (27, [some (.ref o), some (.int l1), some (.int l2), some (.int l3), some (.int l4)], [], (h, q))) (g2 := (13, [some (.ref o), some (.int l1), some (.int l2), some (.int l3), some (.int l4)], [], (h, q))) (c := l2 ≤ l4) rfl (fun hc1 => ?_) (fun hc1 => ?_)
    · rw [if_pos hc1] at hv
      refine mE.sn 1 (g' := (28, [some (.ref o), some (.int l1), some (.int l2), some (.int l3), some (.int l4)], [.int l3], (h, q))) rfl ?_
      cases hv
      exact m_ev.fin rfl
    · rw [if_neg hc1] at hv
      refine mE.sn 3 (g' := (16, [some (.ref o), some (.int l1), some (.int l2), some (.int l3), some (.int l4)], [.int l3, .ref o, .int l3], (h, q))) rfl ?_
      cases hr2 : t_width us l3 with
      | none => rw [hr2] at hv; cases hv
      | some r2 =>
        rw [hr2] at hv
        simp only [Option.bind_some] at hv
        refine mE.call rfl rfl rfl rfl (m_rcv_ok t.2.2.1) (x94 t hr2) ?_
        refine mE.sn 4 (g' := (7, [some (.ref o), some (.int l1), some (.int l2), some (.int (l3 + r2)), some (.int (l4 + 1))], [], (h, q))) rfl ?_
        exact ih _ _ _ _ v hv
def t_charPlace (us : List Int32) (p : Int32) (k : Int32) : Option Int32 := t_charPlace_l us 10000 p k (p + 1) 0
theorem x100 (t : tx h o w us ov) {p : Int32} {k : Int32} {v : Int32} (hv : t_charPlace us p k = some v) : mE (d + 2) mm100 (0, [some (.ref o), some (.int p), some (.int k), none, none], [], (h, q)) (.returned (some (.int v)), (h, q)) := by
  unfold t_charPlace at hv
  refine mE.sn 6 (g' := (7, [some (.ref o), some (.int p), some (.int k), some (.int (p + 1)), some (.int 0)], [], (h, q))) rfl ?_
  exact t_charPlace_l_ok t _ _ _ _ _ v hv
def t_items_l (us : List Int32) : Nat → Int32 → Int32 → Int32 → Option Int32
  | 0, _, _, _ => none
  | n + 1, l1, l2, l3 => (if l3 = (-1 : Int32) then some l2 else (if (Int32.ofNat us.length) ≤ l2 then some l2 else ((t_next us l3).bind fun r3 => t_items_l us n l1 (l2 + 1) r3)))
theorem t_items_l_ok (t : tx h o w us ov) : ∀ (n : Nat) (l1 : Int32) (l2 : Int32) (l3 : Int32) (v : Int32), t_items_l us n l1 l2 l3 = some v → mE (d + 3) mm86 (8, [some (.ref o), some (.int l1), some (.int l2), some (.int l3)], [], (h, q)) (.returned (some (.int v)), (h, q)) := by
  intro n
  induction n with
  | zero => intro l1 l2 l3 v hv; cases hv
  | succ n ih =>
    intro l1 l2 l3 v hv
    unfold t_items_l at hv
    refine mE.sn 2 (g' := (10, [some (.ref o), some (.int l1), some (.int l2), some (.int l3)], [.int (-1), .int l3], (h, q))) rfl ?_
    refine mE.br (g1 := (33, [some (.ref o), some (.int l1), some (.int l2), some (.int l3)], [], (h, q))) (g2 := (13, [some (.ref o), some (.int l1), some (.int l2), some (.int l3)], [], (h, q))) (c := l3 = (-1 : Int32)) rfl (fun hc1 => ?_) (fun hc1 => ?_)
    · rw [if_pos hc1] at hv
      refine mE.sn 1 (g' := (34, [some (.ref o), some (.int l1), some (.int l2), some (.int l3)], [.int l2], (h, q))) rfl ?_
      cases hv
      exact m_ev.fin rfl
    · rw [if_neg hc1] at hv
      refine mE.sn 2 (g' := (15, [some (.ref o), some (.int l1), some (.int l2), some (.int l3)], [.ref o, .int l2], (h, q))) rfl ?_
      refine mE.get rfl t.2.2.1 rfl ?_
      refine mE.br (g1 := (33, [some (.ref o), some (.int l1), some (.int l2), some (.int l3)], [], (h, q))) (g2 := (21, [some (.ref o), some (.int l1), some (.int l2), some (.int l3)], [], (h, q))) (c := (Int32.ofNat us.length) ≤ l2) rfl (fun hc2 => ?_) (fun hc2 => ?_)
      · rw [if_pos hc2] at hv
        refine mE.sn 1 (g' := (34, [some (.ref o), some (.int l1), some (.int l2), some (.int l3)], [.int l2], (h, q))) rfl ?_
        cases hv
        exact m_ev.fin rfl
      · rw [if_neg hc2] at hv
        refine mE.sn 3 (g' := (26, [some (.ref o), some (.int l1), some (.int (l2 + 1)), some (.int l3)], [.int l3, .ref o], (h, q))) rfl ?_
        cases hr3 : t_next us l3 with
        | none => rw [hr3] at hv; cases hv
        | some r3 =>
          rw [hr3] at hv
          simp only [Option.bind_some] at hv
          refine mE.call rfl rfl rfl rfl (m_rcv_ok t.2.2.1) (x81 t hr3) ?_
          refine mE.sn 2 (g' := (8, [some (.ref o), some (.int l1), some (.int (l2 + 1)), some (.int r3)], [], (h, q))) rfl ?_
          exact ih _ _ _ v hv
def t_items (us : List Int32) (p : Int32) : Option Int32 := ((t_first us p).bind fun r4 => t_items_l us 10000 p 0 r4)
theorem x86 (t : tx h o w us ov) {p : Int32} {v : Int32} (hv : t_items us p = some v) : mE (d + 3) mm86 (0, [some (.ref o), some (.int p), none, none], [], (h, q)) (.returned (some (.int v)), (h, q)) := by
  unfold t_items at hv
  refine mE.sn 4 (g' := (4, [some (.ref o), some (.int p), some (.int 0), none], [.int p, .ref o], (h, q))) rfl ?_
  cases hr4 : t_first us p with
  | none => rw [hr4] at hv; cases hv
  | some r4 =>
    rw [hr4] at hv
    simp only [Option.bind_some] at hv
    refine mE.call rfl rfl rfl rfl (m_rcv_ok t.2.2.1) (x74 t hr4) ?_
    refine mE.sn 1 (g' := (8, [some (.ref o), some (.int p), some (.int 0), some (.int r4)], [], (h, q))) rfl ?_
    exact t_items_l_ok t _ _ _ _ v hv
def t_item_l (us : List Int32) : Nat → Int32 → Int32 → Int32 → Int32 → Option Int32
  | 0, _, _, _, _ => none
  | n + 1, l1, l2, l3, l4 => (if l2 ≤ l4 then some l3 else (if l3 = (-1 : Int32) then some l3 else ((t_next us l3).bind fun r3 => t_item_l us n l1 l2 r3 (l4 + 1))))
theorem t_item_l_ok (t : tx h o w us ov) : ∀ (n : Nat) (l1 : Int32) (l2 : Int32) (l3 : Int32) (l4 : Int32) (v : Int32), t_item_l us n l1 l2 l3 l4 = some v → mE (d + 3) mm88 (9, [some (.ref o), some (.int l1), some (.int l2), some (.int l3), some (.int l4)], [], (h, q)) (.returned (some (.int v)), (h, q)) := by
  intro n
  induction n with
  | zero => intro l1 l2 l3 l4 v hv; cases hv
  | succ n ih =>
    intro l1 l2 l3 l4 v hv
    unfold t_item_l at hv
    refine mE.sn 2 (g' := (12, [some (.ref o), some (.int l1), some (.int l2), some (.int l3), some (.int l4)], [.int l2, .int l4], (h, q))) rfl ?_
    refine mE.br (g1 := (32, [some (.ref o), some (.int l1), some (.int l2), some (.int l3), some (.int l4)], [], (h, q))) (g2 := (15, [some (.ref o), some (.int l1), some (.int l2), some (.int l3), some (.int l4)], [], (h, q))) (c := l2 ≤ l4) rfl (fun hc1 => ?_) (fun hc1 => ?_)
    · rw [if_pos hc1] at hv
      refine mE.sn 1 (g' := (33, [some (.ref o), some (.int l1), some (.int l2), some (.int l3), some (.int l4)], [.int l3], (h, q))) rfl ?_
      cases hv
      exact m_ev.fin rfl
    · rw [if_neg hc1] at hv
      refine mE.sn 2 (g' := (17, [some (.ref o), some (.int l1), some (.int l2), some (.int l3), some (.int l4)], [.int (-1), .int l3], (h, q))) rfl ?_
      refine mE.br (g1 := (32, [some (.ref o), some (.int l1), some (.int l2), some (.int l3), some (.int l4)], [], (h, q))) (g2 := (20, [some (.ref o), some (.int l1), some (.int l2), some (.int l3), some (.int l4)], [], (h, q))) (c := l3 = (-1 : Int32)) rfl (fun hc2 => ?_) (fun hc2 => ?_)
      · rw [if_pos hc2] at hv
        refine mE.sn 1 (g' := (33, [some (.ref o), some (.int l1), some (.int l2), some (.int l3), some (.int l4)], [.int l3], (h, q))) rfl ?_
        cases hv
        exact m_ev.fin rfl
      · rw [if_neg hc2] at hv
        refine mE.sn 2 (g' := (22, [some (.ref o), some (.int l1), some (.int l2), some (.int l3), some (.int l4)], [.int l3, .ref o], (h, q))) rfl ?_
        cases hr3 : t_next us l3 with
        | none => rw [hr3] at hv; cases hv
        | some r3 =>
          rw [hr3] at hv
          simp only [Option.bind_some] at hv
          refine mE.call rfl rfl rfl rfl (m_rcv_ok t.2.2.1) (x81 t hr3) ?_
          refine mE.sn 3 (g' := (9, [some (.ref o), some (.int l1), some (.int l2), some (.int r3), some (.int (l4 + 1))], [], (h, q))) rfl ?_
          exact ih _ _ _ _ v hv
def t_item (us : List Int32) (p : Int32) (k : Int32) : Option Int32 := ((t_first us p).bind fun r4 => t_item_l us 10000 p k r4 0)
theorem x88 (t : tx h o w us ov) {p : Int32} {k : Int32} {v : Int32} (hv : t_item us p k = some v) : mE (d + 3) mm88 (0, [some (.ref o), some (.int p), some (.int k), none, none], [], (h, q)) (.returned (some (.int v)), (h, q)) := by
  unfold t_item at hv
  refine mE.sn 2 (g' := (2, [some (.ref o), some (.int p), some (.int k), none, none], [.int p, .ref o], (h, q))) rfl ?_
  cases hr4 : t_first us p with
  | none => rw [hr4] at hv; cases hv
  | some r4 =>
    rw [hr4] at hv
    simp only [Option.bind_some] at hv
    refine mE.call rfl rfl rfl rfl (m_rcv_ok t.2.2.1) (x74 t hr4) ?_
    refine mE.sn 3 (g' := (9, [some (.ref o), some (.int p), some (.int k), some (.int r4), some (.int 0)], [], (h, q))) rfl ?_
    exact t_item_l_ok t _ _ _ _ _ v hv
def t_same_l (us : List Int32) (vs : List Int32) : Nat → Int32 → Int32 → Int32 → Int32 → Option Int32
  | 0, _, _, _, _ => none
  | n + 1, l1, l3, l4, l5 => (if (4096 : Int32) ≤ l5 then some 0 else (if (tat us (l1 + l5)) = (tat vs (l3 + l5)) then (if (tat us (l1 + l5)) = (34 : Int32) then (if l4 = 0 then some 1 else (if (tat us (l1 + l5)) = (92 : Int32) then t_same_l us vs n l1 l3 0 (l5 + 1) else t_same_l us vs n l1 l3 0 (l5 + 1))) else (if (tat us (l1 + l5)) = (92 : Int32) then (if l4 = 0 then t_same_l us vs n l1 l3 1 (l5 + 1) else t_same_l us vs n l1 l3 0 (l5 + 1)) else t_same_l us vs n l1 l3 0 (l5 + 1))) else some 0))
theorem t_same_l_ok (t : tx h o w us ov) (t2 : tx h o2 w2 vs ov2) : ∀ (n : Nat) (l1 : Int32) (l3 : Int32) (l4 : Int32) (l5 : Int32) (x6 : Option Value) (v : Int32), t_same_l us vs n l1 l3 l4 l5 = some v → mE (d + 1) mm54 (6, [some (.ref o), some (.int l1), some (.ref o2), some (.int l3), some (.int l4), some (.int l5), x6], [], (h, q)) (.returned (some (.int v)), (h, q)) := by
  intro n
  induction n with
  | zero => intro l1 l3 l4 l5 x6 v hv; cases hv
  | succ n ih =>
    intro l1 l3 l4 l5 x6 v hv
    unfold t_same_l at hv
    refine mE.sn 2 (g' := (11, [some (.ref o), some (.int l1), some (.ref o2), some (.int l3), some (.int l4), some (.int l5), x6], [.int 4096, .int l5], (h, q))) rfl ?_
    refine mE.br (g1 := (78, [some (.ref o), some (.int l1), some (.ref o2), some (.int l3), some (.int l4), some (.int l5), x6], [], (h, q))) (g2 := (14, [some (.ref o), some (.int l1), some (.ref o2), some (.int l3), some (.int l4), some (.int l5), x6], [], (h, q))) (c := (4096 : Int32) ≤ l5) rfl (fun hc1 => ?_) (fun hc1 => ?_)
    · rw [if_pos hc1] at hv
      refine mE.sn 1 (g' := (79, [some (.ref o), some (.int l1), some (.ref o2), some (.int l3), some (.int l4), some (.int l5), x6], [.int 0], (h, q))) rfl ?_
      cases hv
      exact m_ev.fin rfl
    · rw [if_neg hc1] at hv
      refine mE.sn 4 (g' := (19, [some (.ref o), some (.int l1), some (.ref o2), some (.int l3), some (.int l4), some (.int l5), x6], [.int (l1 + l5), .ref o], (h, q))) rfl ?_
      refine mE.call rfl rfl rfl rfl (m_rcv_ok t.2.2.1) (x37 t (l1 + l5)) ?_
      refine mE.sn 6 (g' := (31, [some (.ref o), some (.int l1), some (.ref o2), some (.int l3), some (.int l4), some (.int l5), some (.int (tat us (l1 + l5)))], [.int (l3 + l5), .ref o2, .int (tat us (l1 + l5))], (h, q))) rfl ?_
      refine mE.call rfl rfl rfl rfl (m_rcv_ok t2.2.2.1) (x37 t2 (l3 + l5)) ?_
      refine mE.br (g1 := (39, [some (.ref o), some (.int l1), some (.ref o2), some (.int l3), some (.int l4), some (.int l5), some (.int (tat us (l1 + l5)))], [], (h, q))) (g2 := (37, [some (.ref o), some (.int l1), some (.ref o2), some (.int l3), some (.int l4), some (.int l5), some (.int (tat us (l1 + l5)))], [], (h, q))) (c := (tat us (l1 + l5)) = (tat vs (l3 + l5))) rfl (fun hc2 => ?_) (fun hc2 => ?_)
      · rw [if_pos hc2] at hv
        refine mE.sn 2 (g' := (43, [some (.ref o), some (.int l1), some (.ref o2), some (.int l3), some (.int l4), some (.int l5), some (.int (tat us (l1 + l5)))], [.int 34, .int (tat us (l1 + l5))], (h, q))) rfl ?_
        refine mE.br (g1 := (46, [some (.ref o), some (.int l1), some (.ref o2), some (.int l3), some (.int l4), some (.int l5), some (.int (tat us (l1 + l5)))], [], (h, q))) (g2 := (53, [some (.ref o), some (.int l1), some (.ref o2), some (.int l3), some (.int l4), some (.int l5), some (.int (tat us (l1 + l5)))], [], (h, q))) (c := (tat us (l1 + l5)) = (34 : Int32)) rfl (fun hc3 => ?_) (fun hc3 => ?_)
        · rw [if_pos hc3] at hv
          refine mE.sn 1 (g' := (48, [some (.ref o), some (.int l1), some (.ref o2), some (.int l3), some (.int l4), some (.int l5), some (.int (tat us (l1 + l5)))], [.int l4], (h, q))) rfl ?_
          refine mE.br (g1 := (51, [some (.ref o), some (.int l1), some (.ref o2), some (.int l3), some (.int l4), some (.int l5), some (.int (tat us (l1 + l5)))], [], (h, q))) (g2 := (53, [some (.ref o), some (.int l1), some (.ref o2), some (.int l3), some (.int l4), some (.int l5), some (.int (tat us (l1 + l5)))], [], (h, q))) (c := l4 = 0) rfl (fun hc4 => ?_) (fun hc4 => ?_)
          · rw [if_pos hc4] at hv
            refine mE.sn 1 (g' := (52, [some (.ref o), some (.int l1), some (.ref o2), some (.int l3), some (.int l4), some (.int l5), some (.int (tat us (l1 + l5)))], [.int 1], (h, q))) rfl ?_
            cases hv
            exact m_ev.fin rfl
          · rw [if_neg hc4] at hv
            refine mE.sn 2 (g' := (57, [some (.ref o), some (.int l1), some (.ref o2), some (.int l3), some (.int l4), some (.int l5), some (.int (tat us (l1 + l5)))], [.int 92, .int (tat us (l1 + l5))], (h, q))) rfl ?_
            refine mE.br (g1 := (60, [some (.ref o), some (.int l1), some (.ref o2), some (.int l3), some (.int l4), some (.int l5), some (.int (tat us (l1 + l5)))], [], (h, q))) (g2 := (69, [some (.ref o), some (.int l1), some (.ref o2), some (.int l3), some (.int l4), some (.int l5), some (.int (tat us (l1 + l5)))], [], (h, q))) (c := (tat us (l1 + l5)) = (92 : Int32)) rfl (fun hc5 => ?_) (fun hc5 => ?_)
            · rw [if_pos hc5] at hv
              refine mE.sn 1 (g' := (62, [some (.ref o), some (.int l1), some (.ref o2), some (.int l3), some (.int l4), some (.int l5), some (.int (tat us (l1 + l5)))], [.int l4], (h, q))) rfl ?_
              refine mE.no (g1 := (65, [some (.ref o), some (.int l1), some (.ref o2), some (.int l3), some (.int l4), some (.int l5), some (.int (tat us (l1 + l5)))], [], (h, q))) (g2 := (69, [some (.ref o), some (.int l1), some (.ref o2), some (.int l3), some (.int l4), some (.int l5), some (.int (tat us (l1 + l5)))], [], (h, q))) (c := l4 = 0) rfl hc4 ?_
              refine mE.sn 4 (g' := (6, [some (.ref o), some (.int l1), some (.ref o2), some (.int l3), some (.int 0), some (.int (l5 + 1)), some (.int (tat us (l1 + l5)))], [], (h, q))) rfl ?_
              exact ih _ _ _ _ _ v hv
            · rw [if_neg hc5] at hv
              refine mE.sn 4 (g' := (6, [some (.ref o), some (.int l1), some (.ref o2), some (.int l3), some (.int 0), some (.int (l5 + 1)), some (.int (tat us (l1 + l5)))], [], (h, q))) rfl ?_
              exact ih _ _ _ _ _ v hv
        · rw [if_neg hc3] at hv
          refine mE.sn 2 (g' := (57, [some (.ref o), some (.int l1), some (.ref o2), some (.int l3), some (.int l4), some (.int l5), some (.int (tat us (l1 + l5)))], [.int 92, .int (tat us (l1 + l5))], (h, q))) rfl ?_
          refine mE.br (g1 := (60, [some (.ref o), some (.int l1), some (.ref o2), some (.int l3), some (.int l4), some (.int l5), some (.int (tat us (l1 + l5)))], [], (h, q))) (g2 := (69, [some (.ref o), some (.int l1), some (.ref o2), some (.int l3), some (.int l4), some (.int l5), some (.int (tat us (l1 + l5)))], [], (h, q))) (c := (tat us (l1 + l5)) = (92 : Int32)) rfl (fun hc6 => ?_) (fun hc6 => ?_)
          · rw [if_pos hc6] at hv
            refine mE.sn 1 (g' := (62, [some (.ref o), some (.int l1), some (.ref o2), some (.int l3), some (.int l4), some (.int l5), some (.int (tat us (l1 + l5)))], [.int l4], (h, q))) rfl ?_
            refine mE.br (g1 := (65, [some (.ref o), some (.int l1), some (.ref o2), some (.int l3), some (.int l4), some (.int l5), some (.int (tat us (l1 + l5)))], [], (h, q))) (g2 := (69, [some (.ref o), some (.int l1), some (.ref o2), some (.int l3), some (.int l4), some (.int l5), some (.int (tat us (l1 + l5)))], [], (h, q))) (c := l4 = 0) rfl (fun hc7 => ?_) (fun hc7 => ?_)
            · rw [if_pos hc7] at hv
              refine mE.sn 5 (g' := (6, [some (.ref o), some (.int l1), some (.ref o2), some (.int l3), some (.int 1), some (.int (l5 + 1)), some (.int (tat us (l1 + l5)))], [], (h, q))) rfl ?_
              exact ih _ _ _ _ _ v hv
            · rw [if_neg hc7] at hv
              refine mE.sn 4 (g' := (6, [some (.ref o), some (.int l1), some (.ref o2), some (.int l3), some (.int 0), some (.int (l5 + 1)), some (.int (tat us (l1 + l5)))], [], (h, q))) rfl ?_
              exact ih _ _ _ _ _ v hv
          · rw [if_neg hc6] at hv
            refine mE.sn 4 (g' := (6, [some (.ref o), some (.int l1), some (.ref o2), some (.int l3), some (.int 0), some (.int (l5 + 1)), some (.int (tat us (l1 + l5)))], [], (h, q))) rfl ?_
            exact ih _ _ _ _ _ v hv
      · rw [if_neg hc2] at hv
        refine mE.sn 1 (g' := (38, [some (.ref o), some (.int l1), some (.ref o2), some (.int l3), some (.int l4), some (.int l5), some (.int (tat us (l1 + l5)))], [.int 0], (h, q))) rfl ?_
        cases hv
        exact m_ev.fin rfl
def t_same (us : List Int32) (vs : List Int32) (p : Int32) (p2 : Int32) : Option Int32 := t_same_l us vs 10000 p p2 0 1
theorem x54 (t : tx h o w us ov) (t2 : tx h o2 w2 vs ov2) {p : Int32} {p2 : Int32} {v : Int32} (hv : t_same us vs p p2 = some v) : mE (d + 1) mm54 (0, [some (.ref o), some (.int p), some (.ref o2), some (.int p2), none, none, none], [], (h, q)) (.returned (some (.int v)), (h, q)) := by
  unfold t_same at hv
  refine mE.sn 4 (g' := (6, [some (.ref o), some (.int p), some (.ref o2), some (.int p2), some (.int 0), some (.int 1), none], [], (h, q))) rfl ?_
  exact t_same_l_ok t t2 _ _ _ _ _ _ v hv
def t_named_l (us : List Int32) (vs : List Int32) : Nat → Int32 → Int32 → Int32 → Int32 → Option Int32
  | 0, _, _, _, _ => none
  | n + 1, l1, l3, l4, l5 => (if (Int32.ofNat us.length) ≤ l5 then some (-1) else (if l4 = (-1 : Int32) then some (-1) else ((t_same us vs l4 l3).bind fun r3 => (if r3 = 0 then ((t_next us l4).bind fun r5 => t_named_l us vs n l1 l3 r5 (l5 + 1)) else some l4))))
theorem t_named_l_ok (t : tx h o w us ov) (t2 : tx h o2 w2 vs ov2) : ∀ (n : Nat) (l1 : Int32) (l3 : Int32) (l4 : Int32) (l5 : Int32) (v : Int32), t_named_l us vs n l1 l3 l4 l5 = some v → mE (d + 3) mm80 (10, [some (.ref o), some (.int l1), some (.ref o2), some (.int l3), some (.int l4), some (.int l5)], [], (h, q)) (.returned (some (.int v)), (h, q)) := by
  intro n
  induction n with
  | zero => intro l1 l3 l4 l5 v hv; cases hv
  | succ n ih =>
    intro l1 l3 l4 l5 v hv
    unfold t_named_l at hv
    refine mE.sn 2 (g' := (13, [some (.ref o), some (.int l1), some (.ref o2), some (.int l3), some (.int l4), some (.int l5)], [.ref o, .int l5], (h, q))) rfl ?_
    refine mE.get rfl t.2.2.1 rfl ?_
    refine mE.br (g1 := (53, [some (.ref o), some (.int l1), some (.ref o2), some (.int l3), some (.int l4), some (.int l5)], [], (h, q))) (g2 := (19, [some (.ref o), some (.int l1), some (.ref o2), some (.int l3), some (.int l4), some (.int l5)], [], (h, q))) (c := (Int32.ofNat us.length) ≤ l5) rfl (fun hc1 => ?_) (fun hc1 => ?_)
    · rw [if_pos hc1] at hv
      refine mE.sn 1 (g' := (54, [some (.ref o), some (.int l1), some (.ref o2), some (.int l3), some (.int l4), some (.int l5)], [.int (-1)], (h, q))) rfl ?_
      cases hv
      exact m_ev.fin rfl
    · rw [if_neg hc1] at hv
      refine mE.sn 2 (g' := (22, [some (.ref o), some (.int l1), some (.ref o2), some (.int l3), some (.int l4), some (.int l5)], [.int (-1), .int l4], (h, q))) rfl ?_
      refine mE.br (g1 := (53, [some (.ref o), some (.int l1), some (.ref o2), some (.int l3), some (.int l4), some (.int l5)], [], (h, q))) (g2 := (25, [some (.ref o), some (.int l1), some (.ref o2), some (.int l3), some (.int l4), some (.int l5)], [], (h, q))) (c := l4 = (-1 : Int32)) rfl (fun hc2 => ?_) (fun hc2 => ?_)
      · rw [if_pos hc2] at hv
        refine mE.sn 1 (g' := (54, [some (.ref o), some (.int l1), some (.ref o2), some (.int l3), some (.int l4), some (.int l5)], [.int (-1)], (h, q))) rfl ?_
        cases hv
        exact m_ev.fin rfl
      · rw [if_neg hc2] at hv
        refine mE.sn 4 (g' := (30, [some (.ref o), some (.int l1), some (.ref o2), some (.int l3), some (.int l4), some (.int l5)], [.int l3, .ref o2, .int l4, .ref o], (h, q))) rfl ?_
        cases hr3 : t_same us vs l4 l3 with
        | none => rw [hr3] at hv; cases hv
        | some r3 =>
          rw [hr3] at hv
          simp only [Option.bind_some] at hv
          refine mE.call rfl rfl rfl rfl (m_rcv_ok t.2.2.1) (x54 t t2 hr3) ?_
          refine mE.br (g1 := (39, [some (.ref o), some (.int l1), some (.ref o2), some (.int l3), some (.int l4), some (.int l5)], [], (h, q))) (g2 := (36, [some (.ref o), some (.int l1), some (.ref o2), some (.int l3), some (.int l4), some (.int l5)], [], (h, q))) (c := r3 = 0) rfl (fun hc4 => ?_) (fun hc4 => ?_)
          · rw [if_pos hc4] at hv
            refine mE.sn 2 (g' := (42, [some (.ref o), some (.int l1), some (.ref o2), some (.int l3), some (.int l4), some (.int l5)], [.int l4, .ref o], (h, q))) rfl ?_
            cases hr5 : t_next us l4 with
            | none => rw [hr5] at hv; cases hv
            | some r5 =>
              rw [hr5] at hv
              simp only [Option.bind_some] at hv
              refine mE.call rfl rfl rfl rfl (m_rcv_ok t.2.2.1) (x81 t hr5) ?_
              refine mE.sn 3 (g' := (10, [some (.ref o), some (.int l1), some (.ref o2), some (.int l3), some (.int r5), some (.int (l5 + 1))], [], (h, q))) rfl ?_
              exact ih _ _ _ _ v hv
          · rw [if_neg hc4] at hv
            refine mE.sn 1 (g' := (38, [some (.ref o), some (.int l1), some (.ref o2), some (.int l3), some (.int l4), some (.int l5)], [.int l4], (h, q))) rfl ?_
            cases hv
            exact m_ev.fin rfl
def t_named (us : List Int32) (vs : List Int32) (p : Int32) (p2 : Int32) : Option Int32 := ((t_first us p).bind fun r6 => t_named_l us vs 10000 p p2 r6 0)
theorem x80 (t : tx h o w us ov) (t2 : tx h o2 w2 vs ov2) {p : Int32} {p2 : Int32} {v : Int32} (hv : t_named us vs p p2 = some v) : mE (d + 3) mm80 (0, [some (.ref o), some (.int p), some (.ref o2), some (.int p2), none, none], [], (h, q)) (.returned (some (.int v)), (h, q)) := by
  unfold t_named at hv
  refine mE.sn 2 (g' := (2, [some (.ref o), some (.int p), some (.ref o2), some (.int p2), none, none], [.int p, .ref o], (h, q))) rfl ?_
  cases hr6 : t_first us p with
  | none => rw [hr6] at hv; cases hv
  | some r6 =>
    rw [hr6] at hv
    simp only [Option.bind_some] at hv
    refine mE.call rfl rfl rfl rfl (m_rcv_ok t.2.2.1) (x74 t hr6) ?_
    refine mE.sn 3 (g' := (10, [some (.ref o), some (.int p), some (.ref o2), some (.int p2), some (.int r6), some (.int 0)], [], (h, q))) rfl ?_
    exact t_named_l_ok t t2 _ _ _ _ _ v hv
def t_begins_l (us : List Int32) (bs : List Int32) : Nat → Int32 → Int32 → Option Int32
  | 0, _, _ => none
  | n + 1, l1, l3 => (if (Int32.ofNat bs.length) ≤ l3 then some 1 else ((sch bs l3).bind fun r2 => (if (tat us (l1 + l3)) = r2 then t_begins_l us bs n l1 (l3 + 1) else some 0)))
theorem t_begins_l_ok (t : tx h o w us ov) (s : sx h a t' bs) : ∀ (n : Nat) (l1 : Int32) (l3 : Int32) (v : Int32), t_begins_l us bs n l1 l3 = some v → mE (d + 4) mm91 (2, [some (.ref o), some (.int l1), some (.ref a), some (.int l3)], [], (h, q)) (.returned (some (.int v)), (h, q)) := by
  intro n
  induction n with
  | zero => intro l1 l3 v hv; cases hv
  | succ n ih =>
    intro l1 l3 v hv
    unfold t_begins_l at hv
    refine mE.sn 2 (g' := (4, [some (.ref o), some (.int l1), some (.ref a), some (.int l3)], [.ref a, .int l3], (h, q))) rfl ?_
    refine mE.call rfl rfl rfl rfl (m_rcv_ok s.1) (x4 s) ?_
    refine mE.br (g1 := (33, [some (.ref o), some (.int l1), some (.ref a), some (.int l3)], [], (h, q))) (g2 := (10, [some (.ref o), some (.int l1), some (.ref a), some (.int l3)], [], (h, q))) (c := (Int32.ofNat bs.length) ≤ l3) rfl (fun hc1 => ?_) (fun hc1 => ?_)
    · rw [if_pos hc1] at hv
      refine mE.sn 1 (g' := (34, [some (.ref o), some (.int l1), some (.ref a), some (.int l3)], [.int 1], (h, q))) rfl ?_
      cases hv
      exact m_ev.fin rfl
    · rw [if_neg hc1] at hv
      refine mE.sn 4 (g' := (14, [some (.ref o), some (.int l1), some (.ref a), some (.int l3)], [.int (l1 + l3), .ref o], (h, q))) rfl ?_
      refine mE.call rfl rfl rfl rfl (m_rcv_ok t.2.2.1) (x37 t (l1 + l3)) ?_
      refine mE.sn 2 (g' := (19, [some (.ref o), some (.int l1), some (.ref a), some (.int l3)], [.int l3, .ref a, .int (tat us (l1 + l3))], (h, q))) rfl ?_
      cases hr2 : sch bs l3 with
      | none => rw [hr2] at hv; cases hv
      | some r2 =>
        rw [hr2] at hv
        simp only [Option.bind_some] at hv
        refine mE.call rfl rfl rfl rfl (m_rcv_ok s.1) (x6o s hr2) ?_
        refine mE.br (g1 := (27, [some (.ref o), some (.int l1), some (.ref a), some (.int l3)], [], (h, q))) (g2 := (25, [some (.ref o), some (.int l1), some (.ref a), some (.int l3)], [], (h, q))) (c := (tat us (l1 + l3)) = r2) rfl (fun hc3 => ?_) (fun hc3 => ?_)
        · rw [if_pos hc3] at hv
          refine mE.sn 2 (g' := (2, [some (.ref o), some (.int l1), some (.ref a), some (.int (l3 + 1))], [], (h, q))) rfl ?_
          exact ih _ _ v hv
        · rw [if_neg hc3] at hv
          refine mE.sn 1 (g' := (26, [some (.ref o), some (.int l1), some (.ref a), some (.int l3)], [.int 0], (h, q))) rfl ?_
          cases hv
          exact m_ev.fin rfl
def t_begins (us : List Int32) (bs : List Int32) (p : Int32) : Option Int32 := t_begins_l us bs 10000 p 0
theorem x91 (t : tx h o w us ov) (s : sx h a t' bs) {p : Int32} {v : Int32} (hv : t_begins us bs p = some v) : mE (d + 4) mm91 (0, [some (.ref o), some (.int p), some (.ref a), none], [], (h, q)) (.returned (some (.int v)), (h, q)) := by
  unfold t_begins at hv
  refine mE.sn 2 (g' := (2, [some (.ref o), some (.int p), some (.ref a), some (.int 0)], [], (h, q))) rfl ?_
  exact t_begins_l_ok t s _ _ _ v hv
def t_itemBy_l (us : List Int32) (bs : List Int32) : Nat → Int32 → Int32 → Int32 → Option Int32
  | 0, _, _, _ => none
  | n + 1, l1, l3, l4 => (if (Int32.ofNat us.length) ≤ l4 then some (-1) else (if l3 = (-1 : Int32) then some (-1) else ((t_begins us bs l3).bind fun r3 => (if r3 = 0 then ((t_next us l3).bind fun r5 => t_itemBy_l us bs n l1 r5 (l4 + 1)) else some l3))))
theorem t_itemBy_l_ok (t : tx h o w us ov) (s : sx h a t' bs) : ∀ (n : Nat) (l1 : Int32) (l3 : Int32) (l4 : Int32) (v : Int32), t_itemBy_l us bs n l1 l3 l4 = some v → mE (d + 5) mm90 (9, [some (.ref o), some (.int l1), some (.ref a), some (.int l3), some (.int l4)], [], (h, q)) (.returned (some (.int v)), (h, q)) := by
  intro n
  induction n with
  | zero => intro l1 l3 l4 v hv; cases hv
  | succ n ih =>
    intro l1 l3 l4 v hv
    unfold t_itemBy_l at hv
    refine mE.sn 2 (g' := (12, [some (.ref o), some (.int l1), some (.ref a), some (.int l3), some (.int l4)], [.ref o, .int l4], (h, q))) rfl ?_
    refine mE.get rfl t.2.2.1 rfl ?_
    refine mE.br (g1 := (46, [some (.ref o), some (.int l1), some (.ref a), some (.int l3), some (.int l4)], [], (h, q))) (g2 := (18, [some (.ref o), some (.int l1), some (.ref a), some (.int l3), some (.int l4)], [], (h, q))) (c := (Int32.ofNat us.length) ≤ l4) rfl (fun hc1 => ?_) (fun hc1 => ?_)
    · rw [if_pos hc1] at hv
      refine mE.sn 1 (g' := (47, [some (.ref o), some (.int l1), some (.ref a), some (.int l3), some (.int l4)], [.int (-1)], (h, q))) rfl ?_
      cases hv
      exact m_ev.fin rfl
    · rw [if_neg hc1] at hv
      refine mE.sn 2 (g' := (20, [some (.ref o), some (.int l1), some (.ref a), some (.int l3), some (.int l4)], [.int (-1), .int l3], (h, q))) rfl ?_
      refine mE.br (g1 := (46, [some (.ref o), some (.int l1), some (.ref a), some (.int l3), some (.int l4)], [], (h, q))) (g2 := (23, [some (.ref o), some (.int l1), some (.ref a), some (.int l3), some (.int l4)], [], (h, q))) (c := l3 = (-1 : Int32)) rfl (fun hc2 => ?_) (fun hc2 => ?_)
      · rw [if_pos hc2] at hv
        refine mE.sn 1 (g' := (47, [some (.ref o), some (.int l1), some (.ref a), some (.int l3), some (.int l4)], [.int (-1)], (h, q))) rfl ?_
        cases hv
        exact m_ev.fin rfl
      · rw [if_neg hc2] at hv
        refine mE.sn 3 (g' := (26, [some (.ref o), some (.int l1), some (.ref a), some (.int l3), some (.int l4)], [.ref a, .int l3, .ref o], (h, q))) rfl ?_
        cases hr3 : t_begins us bs l3 with
        | none => rw [hr3] at hv; cases hv
        | some r3 =>
          rw [hr3] at hv
          simp only [Option.bind_some] at hv
          refine mE.call rfl rfl rfl rfl (m_rcv_ok t.2.2.1) (x91 t s hr3) ?_
          refine mE.br (g1 := (34, [some (.ref o), some (.int l1), some (.ref a), some (.int l3), some (.int l4)], [], (h, q))) (g2 := (32, [some (.ref o), some (.int l1), some (.ref a), some (.int l3), some (.int l4)], [], (h, q))) (c := r3 = 0) rfl (fun hc4 => ?_) (fun hc4 => ?_)
          · rw [if_pos hc4] at hv
            refine mE.sn 2 (g' := (36, [some (.ref o), some (.int l1), some (.ref a), some (.int l3), some (.int l4)], [.int l3, .ref o], (h, q))) rfl ?_
            cases hr5 : t_next us l3 with
            | none => rw [hr5] at hv; cases hv
            | some r5 =>
              rw [hr5] at hv
              simp only [Option.bind_some] at hv
              refine mE.call rfl rfl rfl rfl (m_rcv_ok t.2.2.1) (x81 t hr5) ?_
              refine mE.sn 3 (g' := (9, [some (.ref o), some (.int l1), some (.ref a), some (.int r5), some (.int (l4 + 1))], [], (h, q))) rfl ?_
              exact ih _ _ _ v hv
          · rw [if_neg hc4] at hv
            refine mE.sn 1 (g' := (33, [some (.ref o), some (.int l1), some (.ref a), some (.int l3), some (.int l4)], [.int l3], (h, q))) rfl ?_
            cases hv
            exact m_ev.fin rfl
def t_itemBy (us : List Int32) (bs : List Int32) (p : Int32) : Option Int32 := ((t_first us p).bind fun r6 => t_itemBy_l us bs 10000 p r6 0)
theorem x90 (t : tx h o w us ov) (s : sx h a t' bs) {p : Int32} {v : Int32} (hv : t_itemBy us bs p = some v) : mE (d + 5) mm90 (0, [some (.ref o), some (.int p), some (.ref a), none, none], [], (h, q)) (.returned (some (.int v)), (h, q)) := by
  unfold t_itemBy at hv
  refine mE.sn 2 (g' := (2, [some (.ref o), some (.int p), some (.ref a), none, none], [.int p, .ref o], (h, q))) rfl ?_
  cases hr6 : t_first us p with
  | none => rw [hr6] at hv; cases hv
  | some r6 =>
    rw [hr6] at hv
    simp only [Option.bind_some] at hv
    refine mE.call rfl rfl rfl rfl (m_rcv_ok t.2.2.1) (x74 t hr6) ?_
    refine mE.sn 3 (g' := (9, [some (.ref o), some (.int p), some (.ref a), some (.int r6), some (.int 0)], [], (h, q))) rfl ?_
    exact t_itemBy_l_ok t s _ _ _ _ v hv
end Read91
