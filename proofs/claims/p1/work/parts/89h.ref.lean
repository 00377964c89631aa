/-! PRINTED BY wip/whole/t95.py: how the reference reads its cells. -/
section Ref95
variable {d : Nat} {h : mH} {q : Nat × Nat} {a b : Nat} {as bs : List Int32}
def iget (as : List Int32) (i : Int32) : Option Int32 := if i < 0 then none else as[i.toNatClampNeg]?
theorem iget_ix {i v : Int32} (hv : iget as i = some v) : m_ix i (as.map Value.int) = some (.int v) := by
  unfold iget at hv
  unfold m_ix
  by_cases hi : i < 0
  · rw [if_pos hi] at hv; cases hv
  · rw [if_neg hi] at hv ⊢
    rw [List.getElem?_map, hv]
    rfl
def i_cmp (x y : Int32) : Int32 := (if y ≤ x then (if x = y then 0 else 1) else (-1))
theorem x136 (x y : Int32) : mE d mm136 (0, [some (.int x), some (.int y)], [], (h, q)) (.returned (some (.int (i_cmp x y))), (h, q)) := by
  refine mE.sn 2 (g' := (2, [some (.int x), some (.int y)], [.int y, .int x], (h, q))) rfl ?_
  refine mE.br (g1 := (9, [some (.int x), some (.int y)], [], (h, q))) (g2 := (5, [some (.int x), some (.int y)], [], (h, q))) (c := y ≤ x) rfl (fun hc1 => ?_) (fun hc1 => ?_)
  · refine mE.sn 2 (g' := (11, [some (.int x), some (.int y)], [.int y, .int x], (h, q))) rfl ?_
    refine mE.br (g1 := (14, [some (.int x), some (.int y)], [], (h, q))) (g2 := (18, [some (.int x), some (.int y)], [], (h, q))) (c := x = y) rfl (fun hc2 => ?_) (fun hc2 => ?_)
    · refine mE.sn 2 (g' := (19, [some (.int x), some (.int y)], [.int 0], (h, q))) rfl ?_
      rw [show i_cmp x y = (0 : Int32) by unfold i_cmp; rw [if_pos hc1, if_pos hc2]]
      exact m_ev.fin rfl
    · refine mE.sn 1 (g' := (19, [some (.int x), some (.int y)], [.int 1], (h, q))) rfl ?_
      rw [show i_cmp x y = (1 : Int32) by unfold i_cmp; rw [if_pos hc1, if_neg hc2]]
      exact m_ev.fin rfl
  · refine mE.sn 2 (g' := (19, [some (.int x), some (.int y)], [.int (-1)], (h, q))) rfl ?_
    rw [show i_cmp x y = (-1 : Int32) by unfold i_cmp; rw [if_neg hc1]]
    exact m_ev.fin rfl
def l_cmp (x y : Int64) : Int32 := (if 0 ≤ (lg_cmp x y) then (if (lg_cmp x y) = 0 then 0 else 1) else (-1))
theorem x137 (x y : Int64) : mE d mm137 (0, [some (.long x), none, some (.long y), none], [], (h, q)) (.returned (some (.int (l_cmp x y))), (h, q)) := by
  refine mE.sn 3 (g' := (3, [some (.long x), none, some (.long y), none], [.int (lg_cmp x y)], (h, q))) rfl ?_
  refine mE.br (g1 := (10, [some (.long x), none, some (.long y), none], [], (h, q))) (g2 := (6, [some (.long x), none, some (.long y), none], [], (h, q))) (c := 0 ≤ (lg_cmp x y)) rfl (fun hc1 => ?_) (fun hc1 => ?_)
  · refine mE.sn 3 (g' := (13, [some (.long x), none, some (.long y), none], [.int (lg_cmp x y)], (h, q))) rfl ?_
    refine mE.br (g1 := (16, [some (.long x), none, some (.long y), none], [], (h, q))) (g2 := (20, [some (.long x), none, some (.long y), none], [], (h, q))) (c := (lg_cmp x y) = 0) rfl (fun hc2 => ?_) (fun hc2 => ?_)
    · refine mE.sn 2 (g' := (21, [some (.long x), none, some (.long y), none], [.int 0], (h, q))) rfl ?_
      rw [show l_cmp x y = (0 : Int32) by unfold l_cmp; rw [if_pos hc1, if_pos hc2]]
      exact m_ev.fin rfl
    · refine mE.sn 1 (g' := (21, [some (.long x), none, some (.long y), none], [.int 1], (h, q))) rfl ?_
      rw [show l_cmp x y = (1 : Int32) by unfold l_cmp; rw [if_pos hc1, if_neg hc2]]
      exact m_ev.fin rfl
  · refine mE.sn 2 (g' := (21, [some (.long x), none, some (.long y), none], [.int (-1)], (h, q))) rfl ?_
    rw [show l_cmp x y = (-1 : Int32) by unfold l_cmp; rw [if_neg hc1]]
    exact m_ev.fin rfl
def r_next (as : List Int32) (p : Int32) : Option Int32 := ((iget as (p + 1)).bind fun b1 => some (p + b1))
theorem x199 (ta : h[a]? = some (1001, as.map Value.int)) {p : Int32} {v : Int32} (hv : r_next as p = some v) : mE d mm199 (0, [some (.ref a), some (.int p)], [], (h, q)) (.returned (some (.int v)), (h, q)) := by
  unfold r_next at hv
  refine mE.sn 5 (g' := (5, [some (.ref a), some (.int p)], [.int (p + 1), .ref a, .int p], (h, q))) rfl ?_
  cases hr1 : iget as (p + 1) with
  | none => rw [hr1] at hv; cases hv
  | some b1 =>
    rw [hr1] at hv
    simp only [Option.bind_some] at hv
    refine mE.iald (v := .int b1) rfl ta (iget_ix hr1) ?_
    refine mE.sn 1 (g' := (7, [some (.ref a), some (.int p)], [.int (p + b1)], (h, q))) rfl ?_
    cases hv
    exact m_ev.fin rfl
def r_number (as : List Int32) (p : Int32) : Option Int64 := ((iget as (p + 2)).bind fun b1 => ((iget as (p + 3)).bind fun b2 => some ((b1.toInt64 <<< ((32 : Int32).toInt64 &&& 63)) ||| (b2.toInt64 &&& 4294967295))))
theorem x208 (ta : h[a]? = some (1001, as.map Value.int)) {p : Int32} {v : Int64} (hv : r_number as p = some v) : mE d mm208 (0, [some (.ref a), some (.int p)], [], (h, q)) (.returned (some (.long v)), (h, q)) := by
  unfold r_number at hv
  refine mE.sn 4 (g' := (4, [some (.ref a), some (.int p)], [.int (p + 2), .ref a], (h, q))) rfl ?_
  cases hr1 : iget as (p + 2) with
  | none => rw [hr1] at hv; cases hv
  | some b1 =>
    rw [hr1] at hv
    simp only [Option.bind_some] at hv
    refine mE.iald (v := .int b1) rfl ta (iget_ix hr1) ?_
    refine mE.sn 7 (g' := (13, [some (.ref a), some (.int p)], [.int (p + 3), .ref a, .long (b1.toInt64 <<< ((32 : Int32).toInt64 &&& 63))], (h, q))) rfl ?_
    cases hr2 : iget as (p + 3) with
    | none => rw [hr2] at hv; cases hv
    | some b2 =>
      rw [hr2] at hv
      simp only [Option.bind_some] at hv
      refine mE.iald (v := .int b2) rfl ta (iget_ix hr2) ?_
      refine mE.sn 4 (g' := (20, [some (.ref a), some (.int p)], [.long ((b1.toInt64 <<< ((32 : Int32).toInt64 &&& 63)) ||| (b2.toInt64 &&& 4294967295))], (h, q))) rfl ?_
      cases hv
      exact m_ev.fin rfl
def r_many_l (as : List Int32) : Nat → Int32 → Int32 → Int32 → Option Int32
  | 0, _, _, _ => none
  | n + 1, l1, l2, l3 => ((r_next as l1).bind fun r1 => (if r1 ≤ l3 then ((iget as l1).bind fun b3 => (if b3 = (6 : Int32) then some (l2 / 2) else some l2)) else ((r_next as l3).bind fun r5 => r_many_l as n l1 (l2 + 1) r5)))
theorem r_many_l_ok (ta : h[a]? = some (1001, as.map Value.int)) : ∀ (n : Nat) (l1 : Int32) (l2 : Int32) (l3 : Int32) (v : Int32), r_many_l as n l1 l2 l3 = some v → mE (d + 1) mm239 (6, [some (.ref a), some (.int l1), some (.int l2), some (.int l3)], [], (h, q)) (.returned (some (.int v)), (h, q)) := by
  intro n
  induction n with
  | zero => intro l1 l2 l3 v hv; cases hv
  | succ n ih =>
    intro l1 l2 l3 v hv
    unfold r_many_l at hv
    refine mE.sn 3 (g' := (9, [some (.ref a), some (.int l1), some (.int l2), some (.int l3)], [.int l1, .ref a, .int l3], (h, q))) rfl ?_
    cases hr1 : r_next as l1 with
    | none => rw [hr1] at hv; cases hv
    | some r1 =>
      rw [hr1] at hv
      simp only [Option.bind_some] at hv
      refine mE.call rfl rfl rfl rfl rfl (x199 ta hr1) ?_
      refine mE.br (g1 := (27, [some (.ref a), some (.int l1), some (.int l2), some (.int l3)], [], (h, q))) (g2 := (15, [some (.ref a), some (.int l1), some (.int l2), some (.int l3)], [], (h, q))) (c := r1 ≤ l3) rfl (fun hc2 => ?_) (fun hc2 => ?_)
      · rw [if_pos hc2] at hv
        refine mE.sn 2 (g' := (29, [some (.ref a), some (.int l1), some (.int l2), some (.int l3)], [.int l1, .ref a], (h, q))) rfl ?_
        cases hr3 : iget as l1 with
        | none => rw [hr3] at hv; cases hv
        | some b3 =>
          rw [hr3] at hv
          simp only [Option.bind_some] at hv
          refine mE.iald (v := .int b3) rfl ta (iget_ix hr3) ?_
          refine mE.sn 1 (g' := (32, [some (.ref a), some (.int l1), some (.int l2), some (.int l3)], [.int 6, .int b3], (h, q))) rfl ?_
          refine mE.br (g1 := (35, [some (.ref a), some (.int l1), some (.int l2), some (.int l3)], [], (h, q))) (g2 := (41, [some (.ref a), some (.int l1), some (.int l2), some (.int l3)], [], (h, q))) (c := b3 = (6 : Int32)) rfl (fun hc4 => ?_) (fun hc4 => ?_)
          · rw [if_pos hc4] at hv
            refine mE.sn 4 (g' := (42, [some (.ref a), some (.int l1), some (.int l2), some (.int l3)], [.int (l2 / 2)], (h, q))) rfl ?_
            cases hv
            exact m_ev.fin rfl
          · rw [if_neg hc4] at hv
            refine mE.sn 1 (g' := (42, [some (.ref a), some (.int l1), some (.int l2), some (.int l3)], [.int l2], (h, q))) rfl ?_
            cases hv
            exact m_ev.fin rfl
      · rw [if_neg hc2] at hv
        refine mE.sn 3 (g' := (20, [some (.ref a), some (.int l1), some (.int (l2 + 1)), some (.int l3)], [.int l3, .ref a], (h, q))) rfl ?_
        cases hr5 : r_next as l3 with
        | none => rw [hr5] at hv; cases hv
        | some r5 =>
          rw [hr5] at hv
          simp only [Option.bind_some] at hv
          refine mE.call rfl rfl rfl rfl rfl (x199 ta hr5) ?_
          refine mE.sn 2 (g' := (6, [some (.ref a), some (.int l1), some (.int (l2 + 1)), some (.int r5)], [], (h, q))) rfl ?_
          exact ih _ _ _ v hv
def r_many (as : List Int32) (p : Int32) : Option Int32 := r_many_l as 10000 p 0 (p + 2)
theorem x239 (ta : h[a]? = some (1001, as.map Value.int)) {p : Int32} {v : Int32} (hv : r_many as p = some v) : mE (d + 1) mm239 (0, [some (.ref a), some (.int p), none, none], [], (h, q)) (.returned (some (.int v)), (h, q)) := by
  unfold r_many at hv
  refine mE.sn 6 (g' := (6, [some (.ref a), some (.int p), some (.int 0), some (.int (p + 2))], [], (h, q))) rfl ?_
  exact r_many_l_ok ta _ _ _ _ v hv
def r_element_l (as : List Int32) : Nat → Int32 → Int64 → Int32 → Int64 → Option Int32
  | 0, _, _, _, _ => none
  | n + 1, l1, l2, l4, l5 => (if 0 ≤ (lg_cmp l5 l2) then some l4 else ((r_next as l4).bind fun r2 => r_element_l as n l1 l2 r2 (l5 + 1)))
theorem r_element_l_ok (ta : h[a]? = some (1001, as.map Value.int)) : ∀ (n : Nat) (l1 : Int32) (l2 : Int64) (l4 : Int32) (l5 : Int64) (v : Int32), r_element_l as n l1 l2 l4 l5 = some v → mE (d + 1) mm247 (8, [some (.ref a), some (.int l1), some (.long l2), none, some (.int l4), some (.long l5), none], [], (h, q)) (.returned (some (.int v)), (h, q)) := by
  intro n
  induction n with
  | zero => intro l1 l2 l4 l5 v hv; cases hv
  | succ n ih =>
    intro l1 l2 l4 l5 v hv
    unfold r_element_l at hv
    refine mE.sn 3 (g' := (12, [some (.ref a), some (.int l1), some (.long l2), none, some (.int l4), some (.long l5), none], [.int (lg_cmp l5 l2)], (h, q))) rfl ?_
    refine mE.br (g1 := (32, [some (.ref a), some (.int l1), some (.long l2), none, some (.int l4), some (.long l5), none], [], (h, q))) (g2 := (15, [some (.ref a), some (.int l1), some (.long l2), none, some (.int l4), some (.long l5), none], [], (h, q))) (c := 0 ≤ (lg_cmp l5 l2)) rfl (fun hc1 => ?_) (fun hc1 => ?_)
    · rw [if_pos hc1] at hv
      refine mE.sn 1 (g' := (34, [some (.ref a), some (.int l1), some (.long l2), none, some (.int l4), some (.long l5), none], [.int l4], (h, q))) rfl ?_
      cases hv
      exact m_ev.fin rfl
    · rw [if_neg hc1] at hv
      refine mE.sn 2 (g' := (18, [some (.ref a), some (.int l1), some (.long l2), none, some (.int l4), some (.long l5), none], [.int l4, .ref a], (h, q))) rfl ?_
      cases hr2 : r_next as l4 with
      | none => rw [hr2] at hv; cases hv
      | some r2 =>
        rw [hr2] at hv
        simp only [Option.bind_some] at hv
        refine mE.call rfl rfl rfl rfl rfl (x199 ta hr2) ?_
        refine mE.sn 6 (g' := (8, [some (.ref a), some (.int l1), some (.long l2), none, some (.int r2), some (.long (l5 + 1)), none], [], (h, q))) rfl ?_
        exact ih _ _ _ _ v hv
def r_element (as : List Int32) (p : Int32) (k : Int64) : Option Int32 := r_element_l as 10000 p k (p + 2) 0
theorem x247 (ta : h[a]? = some (1001, as.map Value.int)) {p : Int32} {k : Int64} {v : Int32} (hv : r_element as p k = some v) : mE (d + 1) mm247 (0, [some (.ref a), some (.int p), some (.long k), none, none, none, none], [], (h, q)) (.returned (some (.int v)), (h, q)) := by
  unfold r_element at hv
  refine mE.sn 6 (g' := (8, [some (.ref a), some (.int p), some (.long k), none, some (.int (p + 2)), some (.long 0), none], [], (h, q))) rfl ?_
  exact r_element_l_ok ta _ _ _ _ _ v hv
def r_strings_l (as : List Int32) (bs : List Int32) : Nat → Int32 → Int32 → Int32 → Int32 → Int32 → Option Int32
  | 0, _, _, _, _, _ => none
  | n + 1, l1, l3, l4, l5, l6 => (if l4 ≤ l6 then some (i_cmp l4 l5) else (if l5 ≤ l6 then some (i_cmp l4 l5) else ((iget as (l1 + l6)).bind fun b3 => ((iget bs (l3 + l6)).bind fun b4 => (if b3 = b4 then r_strings_l as bs n l1 l3 l4 l5 (l6 + 1) else (if b4 ≤ b3 then some 1 else some (-1)))))))
theorem r_strings_l_ok (ta : h[a]? = some (1001, as.map Value.int)) (tb : h[b]? = some (1001, bs.map Value.int)) : ∀ (n : Nat) (l1 : Int32) (l3 : Int32) (l4 : Int32) (l5 : Int32) (l6 : Int32) (v : Int32), r_strings_l as bs n l1 l3 l4 l5 l6 = some v → mE (d + 1) mm198 (17, [some (.ref a), some (.int l1), some (.ref b), some (.int l3), some (.int l4), some (.int l5), some (.int l6)], [], (h, q)) (.returned (some (.int v)), (h, q)) := by
  intro n
  induction n with
  | zero => intro l1 l3 l4 l5 l6 v hv; cases hv
  | succ n ih =>
    intro l1 l3 l4 l5 l6 v hv
    unfold r_strings_l at hv
    refine mE.sn 2 (g' := (21, [some (.ref a), some (.int l1), some (.ref b), some (.int l3), some (.int l4), some (.int l5), some (.int l6)], [.int l4, .int l6], (h, q))) rfl ?_
    refine mE.br (g1 := (73, [some (.ref a), some (.int l1), some (.ref b), some (.int l3), some (.int l4), some (.int l5), some (.int l6)], [], (h, q))) (g2 := (24, [some (.ref a), some (.int l1), some (.ref b), some (.int l3), some (.int l4), some (.int l5), some (.int l6)], [], (h, q))) (c := l4 ≤ l6) rfl (fun hc1 => ?_) (fun hc1 => ?_)
    · rw [if_pos hc1] at hv
      refine mE.sn 2 (g' := (77, [some (.ref a), some (.int l1), some (.ref b), some (.int l3), some (.int l4), some (.int l5), some (.int l6)], [.int l5, .int l4], (h, q))) rfl ?_
      refine mE.call rfl rfl rfl rfl rfl (x136 l4 l5) ?_
      cases hv
      exact m_ev.fin rfl
    · rw [if_neg hc1] at hv
      refine mE.sn 2 (g' := (28, [some (.ref a), some (.int l1), some (.ref b), some (.int l3), some (.int l4), some (.int l5), some (.int l6)], [.int l5, .int l6], (h, q))) rfl ?_
      refine mE.br (g1 := (73, [some (.ref a), some (.int l1), some (.ref b), some (.int l3), some (.int l4), some (.int l5), some (.int l6)], [], (h, q))) (g2 := (31, [some (.ref a), some (.int l1), some (.ref b), some (.int l3), some (.int l4), some (.int l5), some (.int l6)], [], (h, q))) (c := l5 ≤ l6) rfl (fun hc2 => ?_) (fun hc2 => ?_)
      · rw [if_pos hc2] at hv
        refine mE.sn 2 (g' := (77, [some (.ref a), some (.int l1), some (.ref b), some (.int l3), some (.int l4), some (.int l5), some (.int l6)], [.int l5, .int l4], (h, q))) rfl ?_
        refine mE.call rfl rfl rfl rfl rfl (x136 l4 l5) ?_
        cases hv
        exact m_ev.fin rfl
      · rw [if_neg hc2] at hv
        refine mE.sn 4 (g' := (36, [some (.ref a), some (.int l1), some (.ref b), some (.int l3), some (.int l4), some (.int l5), some (.int l6)], [.int (l1 + l6), .ref a], (h, q))) rfl ?_
        cases hr3 : iget as (l1 + l6) with
        | none => rw [hr3] at hv; cases hv
        | some b3 =>
          rw [hr3] at hv
          simp only [Option.bind_some] at hv
          refine mE.iald (v := .int b3) rfl ta (iget_ix hr3) ?_
          refine mE.sn 4 (g' := (42, [some (.ref a), some (.int l1), some (.ref b), some (.int l3), some (.int l4), some (.int l5), some (.int l6)], [.int (l3 + l6), .ref b, .int b3], (h, q))) rfl ?_
          cases hr4 : iget bs (l3 + l6) with
          | none => rw [hr4] at hv; cases hv
          | some b4 =>
            rw [hr4] at hv
            simp only [Option.bind_some] at hv
            refine mE.iald (v := .int b4) rfl tb (iget_ix hr4) ?_
            refine mE.br (g1 := (67, [some (.ref a), some (.int l1), some (.ref b), some (.int l3), some (.int l4), some (.int l5), some (.int l6)], [], (h, q))) (g2 := (46, [some (.ref a), some (.int l1), some (.ref b), some (.int l3), some (.int l4), some (.int l5), some (.int l6)], [], (h, q))) (c := b3 = b4) rfl (fun hc5 => ?_) (fun hc5 => ?_)
            · rw [if_pos hc5] at hv
              refine mE.sn 2 (g' := (17, [some (.ref a), some (.int l1), some (.ref b), some (.int l3), some (.int l4), some (.int l5), some (.int (l6 + 1))], [], (h, q))) rfl ?_
              exact ih _ _ _ _ _ v hv
            · rw [if_neg hc5] at hv
              refine mE.sn 4 (g' := (51, [some (.ref a), some (.int l1), some (.ref b), some (.int l3), some (.int l4), some (.int l5), some (.int l6)], [.int (l1 + l6), .ref a], (h, q))) rfl ?_
              refine mE.iald (v := .int b3) rfl ta (iget_ix hr3) ?_
              refine mE.sn 4 (g' := (57, [some (.ref a), some (.int l1), some (.ref b), some (.int l3), some (.int l4), some (.int l5), some (.int l6)], [.int (l3 + l6), .ref b, .int b3], (h, q))) rfl ?_
              refine mE.iald (v := .int b4) rfl tb (iget_ix hr4) ?_
              refine mE.br (g1 := (65, [some (.ref a), some (.int l1), some (.ref b), some (.int l3), some (.int l4), some (.int l5), some (.int l6)], [], (h, q))) (g2 := (61, [some (.ref a), some (.int l1), some (.ref b), some (.int l3), some (.int l4), some (.int l5), some (.int l6)], [], (h, q))) (c := b4 ≤ b3) rfl (fun hc6 => ?_) (fun hc6 => ?_)
              · rw [if_pos hc6] at hv
                refine mE.sn 1 (g' := (66, [some (.ref a), some (.int l1), some (.ref b), some (.int l3), some (.int l4), some (.int l5), some (.int l6)], [.int 1], (h, q))) rfl ?_
                cases hv
                exact m_ev.fin rfl
              · rw [if_neg hc6] at hv
                refine mE.sn 2 (g' := (66, [some (.ref a), some (.int l1), some (.ref b), some (.int l3), some (.int l4), some (.int l5), some (.int l6)], [.int (-1)], (h, q))) rfl ?_
                cases hv
                exact m_ev.fin rfl
def r_strings (as : List Int32) (bs : List Int32) (p : Int32) (p2 : Int32) : Option Int32 := ((iget as (p + 1)).bind fun b7 => ((iget bs (p2 + 1)).bind fun b8 => r_strings_l as bs 10000 p p2 b7 b8 2))
theorem x198 (ta : h[a]? = some (1001, as.map Value.int)) (tb : h[b]? = some (1001, bs.map Value.int)) {p : Int32} {p2 : Int32} {v : Int32} (hv : r_strings as bs p p2 = some v) : mE (d + 1) mm198 (0, [some (.ref a), some (.int p), some (.ref b), some (.int p2), none, none, none], [], (h, q)) (.returned (some (.int v)), (h, q)) := by
  unfold r_strings at hv
  refine mE.sn 4 (g' := (4, [some (.ref a), some (.int p), some (.ref b), some (.int p2), none, none, none], [.int (p + 1), .ref a], (h, q))) rfl ?_
  cases hr7 : iget as (p + 1) with
  | none => rw [hr7] at hv; cases hv
  | some b7 =>
    rw [hr7] at hv
    simp only [Option.bind_some] at hv
    refine mE.iald (v := .int b7) rfl ta (iget_ix hr7) ?_
    refine mE.sn 5 (g' := (11, [some (.ref a), some (.int p), some (.ref b), some (.int p2), some (.int b7), none, none], [.int (p2 + 1), .ref b], (h, q))) rfl ?_
    cases hr8 : iget bs (p2 + 1) with
    | none => rw [hr8] at hv; cases hv
    | some b8 =>
      rw [hr8] at hv
      simp only [Option.bind_some] at hv
      refine mE.iald (v := .int b8) rfl tb (iget_ix hr8) ?_
      refine mE.sn 3 (g' := (17, [some (.ref a), some (.int p), some (.ref b), some (.int p2), some (.int b7), some (.int b8), some (.int 2)], [], (h, q))) rfl ?_
      exact r_strings_l_ok ta tb _ _ _ _ _ _ v hv
def r_named_l (as : List Int32) (bs : List Int32) : Nat → Int32 → Int32 → Int32 → Option Int32
  | 0, _, _, _ => none
  | n + 1, l1, l3, l4 => ((r_next as l1).bind fun r1 => (if r1 ≤ l4 then some (-1) else ((r_strings as bs l4 l3).bind fun r3 => (if r3 = 0 then ((r_next as l4).bind fun r5 => some r5) else ((r_next as l4).bind fun r6 => ((r_next as r6).bind fun r7 => r_named_l as bs n l1 l3 r7))))))
theorem r_named_l_ok (ta : h[a]? = some (1001, as.map Value.int)) (tb : h[b]? = some (1001, bs.map Value.int)) : ∀ (n : Nat) (l1 : Int32) (l3 : Int32) (l4 : Int32) (v : Int32), r_named_l as bs n l1 l3 l4 = some v → mE (d + 2) mm219 (5, [some (.ref a), some (.int l1), some (.ref b), some (.int l3), some (.int l4)], [], (h, q)) (.returned (some (.int v)), (h, q)) := by
  intro n
  induction n with
  | zero => intro l1 l3 l4 v hv; cases hv
  | succ n ih =>
    intro l1 l3 l4 v hv
    unfold r_named_l at hv
    refine mE.sn 3 (g' := (9, [some (.ref a), some (.int l1), some (.ref b), some (.int l3), some (.int l4)], [.int l1, .ref a, .int l4], (h, q))) rfl ?_
    cases hr1 : r_next as l1 with
    | none => rw [hr1] at hv; cases hv
    | some r1 =>
      rw [hr1] at hv
      simp only [Option.bind_some] at hv
      refine mE.call rfl rfl rfl rfl rfl (x199 ta hr1) ?_
      refine mE.br (g1 := (48, [some (.ref a), some (.int l1), some (.ref b), some (.int l3), some (.int l4)], [], (h, q))) (g2 := (15, [some (.ref a), some (.int l1), some (.ref b), some (.int l3), some (.int l4)], [], (h, q))) (c := r1 ≤ l4) rfl (fun hc2 => ?_) (fun hc2 => ?_)
      · rw [if_pos hc2] at hv
        refine mE.sn 1 (g' := (49, [some (.ref a), some (.int l1), some (.ref b), some (.int l3), some (.int l4)], [.int (-1)], (h, q))) rfl ?_
        cases hv
        exact m_ev.fin rfl
      · rw [if_neg hc2] at hv
        refine mE.sn 4 (g' := (20, [some (.ref a), some (.int l1), some (.ref b), some (.int l3), some (.int l4)], [.int l3, .ref b, .int l4, .ref a], (h, q))) rfl ?_
        cases hr3 : r_strings as bs l4 l3 with
        | none => rw [hr3] at hv; cases hv
        | some r3 =>
          rw [hr3] at hv
          simp only [Option.bind_some] at hv
          refine mE.call rfl rfl rfl rfl rfl (x198 ta tb hr3) ?_
          refine mE.br (g1 := (26, [some (.ref a), some (.int l1), some (.ref b), some (.int l3), some (.int l4)], [], (h, q))) (g2 := (33, [some (.ref a), some (.int l1), some (.ref b), some (.int l3), some (.int l4)], [], (h, q))) (c := r3 = 0) rfl (fun hc4 => ?_) (fun hc4 => ?_)
          · rw [if_pos hc4] at hv
            refine mE.sn 2 (g' := (29, [some (.ref a), some (.int l1), some (.ref b), some (.int l3), some (.int l4)], [.int l4, .ref a], (h, q))) rfl ?_
            cases hr5 : r_next as l4 with
            | none => rw [hr5] at hv; cases hv
            | some r5 =>
              rw [hr5] at hv
              simp only [Option.bind_some] at hv
              refine mE.call rfl rfl rfl rfl rfl (x199 ta hr5) ?_
              cases hv
              exact m_ev.fin rfl
          · rw [if_neg hc4] at hv
            refine mE.sn 3 (g' := (37, [some (.ref a), some (.int l1), some (.ref b), some (.int l3), some (.int l4)], [.int l4, .ref a, .ref a], (h, q))) rfl ?_
            cases hr6 : r_next as l4 with
            | none => rw [hr6] at hv; cases hv
            | some r6 =>
              rw [hr6] at hv
              simp only [Option.bind_some] at hv
              refine mE.call rfl rfl rfl rfl rfl (x199 ta hr6) ?_
              cases hr7 : r_next as r6 with
              | none => rw [hr7] at hv; cases hv
              | some r7 =>
                rw [hr7] at hv
                simp only [Option.bind_some] at hv
                refine mE.call rfl rfl rfl rfl rfl (x199 ta hr7) ?_
                refine mE.sn 2 (g' := (5, [some (.ref a), some (.int l1), some (.ref b), some (.int l3), some (.int r7)], [], (h, q))) rfl ?_
                exact ih _ _ _ v hv
def r_named (as : List Int32) (bs : List Int32) (p : Int32) (p2 : Int32) : Option Int32 := r_named_l as bs 10000 p p2 (p + 2)
theorem x219 (ta : h[a]? = some (1001, as.map Value.int)) (tb : h[b]? = some (1001, bs.map Value.int)) {p : Int32} {p2 : Int32} {v : Int32} (hv : r_named as bs p p2 = some v) : mE (d + 2) mm219 (0, [some (.ref a), some (.int p), some (.ref b), some (.int p2), none], [], (h, q)) (.returned (some (.int v)), (h, q)) := by
  unfold r_named at hv
  refine mE.sn 4 (g' := (5, [some (.ref a), some (.int p), some (.ref b), some (.int p2), some (.int (p + 2))], [], (h, q))) rfl ?_
  exact r_named_l_ok ta tb _ _ _ _ v hv
def r_nameAfter_l (as : List Int32) : Nat → Int32 → Int32 → Int32 → Int32 → Option Int32
  | 0, _, _, _, _ => none
  | n + 1, l1, l2, l3, l4 => ((r_next as l1).bind fun r1 => (if r1 ≤ l4 then some l3 else (if l2 = (-1 : Int32) then (if l3 = (-1 : Int32) then ((r_next as l4).bind fun r5 => ((r_next as r5).bind fun r6 => r_nameAfter_l as n l1 l2 l4 r6)) else ((r_strings as as l4 l3).bind fun r7 => (if 0 ≤ r7 then ((r_next as l4).bind fun r9 => ((r_next as r9).bind fun r10 => r_nameAfter_l as n l1 l2 l3 r10)) else ((r_next as l4).bind fun r11 => ((r_next as r11).bind fun r12 => r_nameAfter_l as n l1 l2 l4 r12))))) else ((r_strings as as l4 l2).bind fun r13 => (if 0 < r13 then (if l3 = (-1 : Int32) then ((r_next as l4).bind fun r16 => ((r_next as r16).bind fun r17 => r_nameAfter_l as n l1 l2 l4 r17)) else ((r_strings as as l4 l3).bind fun r18 => (if 0 ≤ r18 then ((r_next as l4).bind fun r20 => ((r_next as r20).bind fun r21 => r_nameAfter_l as n l1 l2 l3 r21)) else ((r_next as l4).bind fun r22 => ((r_next as r22).bind fun r23 => r_nameAfter_l as n l1 l2 l4 r23))))) else ((r_next as l4).bind fun r24 => ((r_next as r24).bind fun r25 => r_nameAfter_l as n l1 l2 l3 r25)))))))
theorem r_nameAfter_l_ok (ta : h[a]? = some (1001, as.map Value.int)) : ∀ (n : Nat) (l1 : Int32) (l2 : Int32) (l3 : Int32) (l4 : Int32) (v : Int32), r_nameAfter_l as n l1 l2 l3 l4 = some v → mE (d + 2) mm218 (7, [some (.ref a), some (.int l1), some (.int l2), some (.int l3), some (.int l4)], [], (h, q)) (.returned (some (.int v)), (h, q)) := by
  intro n
  induction n with
  | zero => intro l1 l2 l3 l4 v hv; cases hv
  | succ n ih =>
    intro l1 l2 l3 l4 v hv
    unfold r_nameAfter_l at hv
    refine mE.sn 3 (g' := (11, [some (.ref a), some (.int l1), some (.int l2), some (.int l3), some (.int l4)], [.int l1, .ref a, .int l4], (h, q))) rfl ?_
    cases hr1 : r_next as l1 with
    | none => rw [hr1] at hv; cases hv
    | some r1 =>
      rw [hr1] at hv
      simp only [Option.bind_some] at hv
      refine mE.call rfl rfl rfl rfl rfl (x199 ta hr1) ?_
      refine mE.br (g1 := (70, [some (.ref a), some (.int l1), some (.int l2), some (.int l3), some (.int l4)], [], (h, q))) (g2 := (17, [some (.ref a), some (.int l1), some (.int l2), some (.int l3), some (.int l4)], [], (h, q))) (c := r1 ≤ l4) rfl (fun hc2 => ?_) (fun hc2 => ?_)
      · rw [if_pos hc2] at hv
        refine mE.sn 1 (g' := (71, [some (.ref a), some (.int l1), some (.int l2), some (.int l3), some (.int l4)], [.int l3], (h, q))) rfl ?_
        cases hv
        exact m_ev.fin rfl
      · rw [if_neg hc2] at hv
        refine mE.sn 2 (g' := (19, [some (.ref a), some (.int l1), some (.int l2), some (.int l3), some (.int l4)], [.int (-1), .int l2], (h, q))) rfl ?_
        refine mE.br (g1 := (36, [some (.ref a), some (.int l1), some (.int l2), some (.int l3), some (.int l4)], [], (h, q))) (g2 := (22, [some (.ref a), some (.int l1), some (.int l2), some (.int l3), some (.int l4)], [], (h, q))) (c := l2 = (-1 : Int32)) rfl (fun hc3 => ?_) (fun hc3 => ?_)
        · rw [if_pos hc3] at hv
          refine mE.sn 2 (g' := (38, [some (.ref a), some (.int l1), some (.int l2), some (.int l3), some (.int l4)], [.int (-1), .int l3], (h, q))) rfl ?_
          refine mE.br (g1 := (52, [some (.ref a), some (.int l1), some (.int l2), some (.int l3), some (.int l4)], [], (h, q))) (g2 := (41, [some (.ref a), some (.int l1), some (.int l2), some (.int l3), some (.int l4)], [], (h, q))) (c := l3 = (-1 : Int32)) rfl (fun hc4 => ?_) (fun hc4 => ?_)
          · rw [if_pos hc4] at hv
            refine mE.sn 5 (g' := (59, [some (.ref a), some (.int l1), some (.int l2), some (.int l4), some (.int l4)], [.int l4, .ref a, .ref a], (h, q))) rfl ?_
            cases hr5 : r_next as l4 with
            | none => rw [hr5] at hv; cases hv
            | some r5 =>
              rw [hr5] at hv
              simp only [Option.bind_some] at hv
              refine mE.call rfl rfl rfl rfl rfl (x199 ta hr5) ?_
              cases hr6 : r_next as r5 with
              | none => rw [hr6] at hv; cases hv
              | some r6 =>
                rw [hr6] at hv
                simp only [Option.bind_some] at hv
                refine mE.call rfl rfl rfl rfl rfl (x199 ta hr6) ?_
                refine mE.sn 2 (g' := (7, [some (.ref a), some (.int l1), some (.int l2), some (.int l4), some (.int r6)], [], (h, q))) rfl ?_
                exact ih _ _ _ _ v hv
          · rw [if_neg hc4] at hv
            refine mE.sn 4 (g' := (46, [some (.ref a), some (.int l1), some (.int l2), some (.int l3), some (.int l4)], [.int l3, .ref a, .int l4, .ref a], (h, q))) rfl ?_
            cases hr7 : r_strings as as l4 l3 with
            | none => rw [hr7] at hv; cases hv
            | some r7 =>
              rw [hr7] at hv
              simp only [Option.bind_some] at hv
              refine mE.call rfl rfl rfl rfl rfl (x198 ta ta hr7) ?_
              refine mE.br (g1 := (55, [some (.ref a), some (.int l1), some (.int l2), some (.int l3), some (.int l4)], [], (h, q))) (g2 := (52, [some (.ref a), some (.int l1), some (.int l2), some (.int l3), some (.int l4)], [], (h, q))) (c := 0 ≤ r7) rfl (fun hc8 => ?_) (fun hc8 => ?_)
              · rw [if_pos hc8] at hv
                refine mE.sn 3 (g' := (59, [some (.ref a), some (.int l1), some (.int l2), some (.int l3), some (.int l4)], [.int l4, .ref a, .ref a], (h, q))) rfl ?_
                cases hr9 : r_next as l4 with
                | none => rw [hr9] at hv; cases hv
                | some r9 =>
                  rw [hr9] at hv
                  simp only [Option.bind_some] at hv
                  refine mE.call rfl rfl rfl rfl rfl (x199 ta hr9) ?_
                  cases hr10 : r_next as r9 with
                  | none => rw [hr10] at hv; cases hv
                  | some r10 =>
                    rw [hr10] at hv
                    simp only [Option.bind_some] at hv
                    refine mE.call rfl rfl rfl rfl rfl (x199 ta hr10) ?_
                    refine mE.sn 2 (g' := (7, [some (.ref a), some (.int l1), some (.int l2), some (.int l3), some (.int r10)], [], (h, q))) rfl ?_
                    exact ih _ _ _ _ v hv
              · rw [if_neg hc8] at hv
                refine mE.sn 5 (g' := (59, [some (.ref a), some (.int l1), some (.int l2), some (.int l4), some (.int l4)], [.int l4, .ref a, .ref a], (h, q))) rfl ?_
                cases hr11 : r_next as l4 with
                | none => rw [hr11] at hv; cases hv
                | some r11 =>
                  rw [hr11] at hv
                  simp only [Option.bind_some] at hv
                  refine mE.call rfl rfl rfl rfl rfl (x199 ta hr11) ?_
                  cases hr12 : r_next as r11 with
                  | none => rw [hr12] at hv; cases hv
                  | some r12 =>
                    rw [hr12] at hv
                    simp only [Option.bind_some] at hv
                    refine mE.call rfl rfl rfl rfl rfl (x199 ta hr12) ?_
                    refine mE.sn 2 (g' := (7, [some (.ref a), some (.int l1), some (.int l2), some (.int l4), some (.int r12)], [], (h, q))) rfl ?_
                    exact ih _ _ _ _ v hv
        · rw [if_neg hc3] at hv
          refine mE.sn 4 (g' := (27, [some (.ref a), some (.int l1), some (.int l2), some (.int l3), some (.int l4)], [.int l2, .ref a, .int l4, .ref a], (h, q))) rfl ?_
          cases hr13 : r_strings as as l4 l2 with
          | none => rw [hr13] at hv; cases hv
          | some r13 =>
            rw [hr13] at hv
            simp only [Option.bind_some] at hv
            refine mE.call rfl rfl rfl rfl rfl (x198 ta ta hr13) ?_
            refine mE.br (g1 := (36, [some (.ref a), some (.int l1), some (.int l2), some (.int l3), some (.int l4)], [], (h, q))) (g2 := (33, [some (.ref a), some (.int l1), some (.int l2), some (.int l3), some (.int l4)], [], (h, q))) (c := 0 < r13) rfl (fun hc14 => ?_) (fun hc14 => ?_)
            · rw [if_pos hc14] at hv
              refine mE.sn 2 (g' := (38, [some (.ref a), some (.int l1), some (.int l2), some (.int l3), some (.int l4)], [.int (-1), .int l3], (h, q))) rfl ?_
              refine mE.br (g1 := (52, [some (.ref a), some (.int l1), some (.int l2), some (.int l3), some (.int l4)], [], (h, q))) (g2 := (41, [some (.ref a), some (.int l1), some (.int l2), some (.int l3), some (.int l4)], [], (h, q))) (c := l3 = (-1 : Int32)) rfl (fun hc15 => ?_) (fun hc15 => ?_)
              · rw [if_pos hc15] at hv
                refine mE.sn 5 (g' := (59, [some (.ref a), some (.int l1), some (.int l2), some (.int l4), some (.int l4)], [.int l4, .ref a, .ref a], (h, q))) rfl ?_
                cases hr16 : r_next as l4 with
                | none => rw [hr16] at hv; cases hv
                | some r16 =>
                  rw [hr16] at hv
                  simp only [Option.bind_some] at hv
                  refine mE.call rfl rfl rfl rfl rfl (x199 ta hr16) ?_
                  cases hr17 : r_next as r16 with
                  | none => rw [hr17] at hv; cases hv
                  | some r17 =>
                    rw [hr17] at hv
                    simp only [Option.bind_some] at hv
                    refine mE.call rfl rfl rfl rfl rfl (x199 ta hr17) ?_
                    refine mE.sn 2 (g' := (7, [some (.ref a), some (.int l1), some (.int l2), some (.int l4), some (.int r17)], [], (h, q))) rfl ?_
                    exact ih _ _ _ _ v hv
              · rw [if_neg hc15] at hv
                refine mE.sn 4 (g' := (46, [some (.ref a), some (.int l1), some (.int l2), some (.int l3), some (.int l4)], [.int l3, .ref a, .int l4, .ref a], (h, q))) rfl ?_
                cases hr18 : r_strings as as l4 l3 with
                | none => rw [hr18] at hv; cases hv
                | some r18 =>
                  rw [hr18] at hv
                  simp only [Option.bind_some] at hv
                  refine mE.call rfl rfl rfl rfl rfl (x198 ta ta hr18) ?_
                  refine mE.br (g1 := (55, [some (.ref a), some (.int l1), some (.int l2), some (.int l3), some (.int l4)], [], (h, q))) (g2 := (52, [some (.ref a), some (.int l1), some (.int l2), some (.int l3), some (.int l4)], [], (h, q))) (c := 0 ≤ r18) rfl (fun hc19 => ?_) (fun hc19 => ?_)
                  · rw [if_pos hc19] at hv
                    refine mE.sn 3 (g' := (59, [some (.ref a), some (.int l1), some (.int l2), some (.int l3), some (.int l4)], [.int l4, .ref a, .ref a], (h, q))) rfl ?_
                    cases hr20 : r_next as l4 with
                    | none => rw [hr20] at hv; cases hv
                    | some r20 =>
                      rw [hr20] at hv
                      simp only [Option.bind_some] at hv
                      refine mE.call rfl rfl rfl rfl rfl (x199 ta hr20) ?_
                      cases hr21 : r_next as r20 with
                      | none => rw [hr21] at hv; cases hv
                      | some r21 =>
                        rw [hr21] at hv
                        simp only [Option.bind_some] at hv
                        refine mE.call rfl rfl rfl rfl rfl (x199 ta hr21) ?_
                        refine mE.sn 2 (g' := (7, [some (.ref a), some (.int l1), some (.int l2), some (.int l3), some (.int r21)], [], (h, q))) rfl ?_
                        exact ih _ _ _ _ v hv
                  · rw [if_neg hc19] at hv
                    refine mE.sn 5 (g' := (59, [some (.ref a), some (.int l1), some (.int l2), some (.int l4), some (.int l4)], [.int l4, .ref a, .ref a], (h, q))) rfl ?_
                    cases hr22 : r_next as l4 with
                    | none => rw [hr22] at hv; cases hv
                    | some r22 =>
                      rw [hr22] at hv
                      simp only [Option.bind_some] at hv
                      refine mE.call rfl rfl rfl rfl rfl (x199 ta hr22) ?_
                      cases hr23 : r_next as r22 with
                      | none => rw [hr23] at hv; cases hv
                      | some r23 =>
                        rw [hr23] at hv
                        simp only [Option.bind_some] at hv
                        refine mE.call rfl rfl rfl rfl rfl (x199 ta hr23) ?_
                        refine mE.sn 2 (g' := (7, [some (.ref a), some (.int l1), some (.int l2), some (.int l4), some (.int r23)], [], (h, q))) rfl ?_
                        exact ih _ _ _ _ v hv
            · rw [if_neg hc14] at hv
              refine mE.sn 4 (g' := (59, [some (.ref a), some (.int l1), some (.int l2), some (.int l3), some (.int l4)], [.int l4, .ref a, .ref a], (h, q))) rfl ?_
              cases hr24 : r_next as l4 with
              | none => rw [hr24] at hv; cases hv
              | some r24 =>
                rw [hr24] at hv
                simp only [Option.bind_some] at hv
                refine mE.call rfl rfl rfl rfl rfl (x199 ta hr24) ?_
                cases hr25 : r_next as r24 with
                | none => rw [hr25] at hv; cases hv
                | some r25 =>
                  rw [hr25] at hv
                  simp only [Option.bind_some] at hv
                  refine mE.call rfl rfl rfl rfl rfl (x199 ta hr25) ?_
                  refine mE.sn 2 (g' := (7, [some (.ref a), some (.int l1), some (.int l2), some (.int l3), some (.int r25)], [], (h, q))) rfl ?_
                  exact ih _ _ _ _ v hv
def r_nameAfter (as : List Int32) (p : Int32) (l : Int32) : Option Int32 := r_nameAfter_l as 10000 p l (-1) (p + 2)
theorem x218 (ta : h[a]? = some (1001, as.map Value.int)) {p : Int32} {l : Int32} {v : Int32} (hv : r_nameAfter as p l = some v) : mE (d + 2) mm218 (0, [some (.ref a), some (.int p), some (.int l), none, none], [], (h, q)) (.returned (some (.int v)), (h, q)) := by
  unfold r_nameAfter at hv
  refine mE.sn 6 (g' := (7, [some (.ref a), some (.int p), some (.int l), some (.int (-1)), some (.int (p + 2))], [], (h, q))) rfl ?_
  exact r_nameAfter_l_ok ta _ _ _ _ _ v hv
end Ref95
