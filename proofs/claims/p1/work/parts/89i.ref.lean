/-! PRINTED BY wip/whole/t96.py: how the reference compares. -/
section Ref96
variable {d : Nat} {h : mH} {q : Nat × Nat} {a b : Nat} {as bs : List Int32}
def r_arrays_l (as : List Int32) (bs : List Int32) (rec : Int32 → Int32 → Option Int32) : Nat → Int32 → Int32 → Int32 → Int32 → Option Int32
  | 0, _, _, _, _ => none
  | n + 1, l1, l3, l4, l5 => ((r_next as l1).bind fun r1 => (if r1 ≤ l4 then ((r_next bs l3).bind fun r3 => (if r3 ≤ l5 then some 0 else some (-1))) else ((r_next bs l3).bind fun r5 => (if r5 ≤ l5 then some 1 else ((rec l4 l5).bind fun r7 => (if r7 = 0 then ((r_next as l4).bind fun r9 => ((r_next bs l5).bind fun r10 => r_arrays_l as bs rec n l1 l3 r9 r10)) else some r7))))))
theorem r_arrays_l_ok (ta : h[a]? = some (1001, as.map Value.int)) (tb : h[b]? = some (1001, bs.map Value.int)) {rec : Int32 → Int32 → Option Int32} (hrec : ∀ (e : Nat), d ≤ e → ∀ (p p2 v : Int32), rec p p2 = some v → mE e mm215 (0, [some (.ref a), some (.int p), some (.ref b), some (.int p2)], [], (h, q)) (.returned (some (.int v)), (h, q))) : ∀ (n : Nat) (l1 : Int32) (l3 : Int32) (l4 : Int32) (l5 : Int32) (x6 : Option Value) (v : Int32), r_arrays_l as bs rec n l1 l3 l4 l5 = some v → mE (d + 1) mm216 (10, [some (.ref a), some (.int l1), some (.ref b), some (.int l3), some (.int l4), some (.int l5), x6], [], (h, q)) (.returned (some (.int v)), (h, q)) := by
  intro n
  induction n with
  | zero => intro l1 l3 l4 l5 x6 v hv; cases hv
  | succ n ih =>
    intro l1 l3 l4 l5 x6 v hv
    unfold r_arrays_l at hv
    refine mE.sn 3 (g' := (14, [some (.ref a), some (.int l1), some (.ref b), some (.int l3), some (.int l4), some (.int l5), x6], [.int l1, .ref a, .int l4], (h, q))) rfl ?_
    cases hr1 : r_next as l1 with
    | none => rw [hr1] at hv; cases hv
    | some r1 =>
      rw [hr1] at hv
      simp only [Option.bind_some] at hv
      refine mE.call rfl rfl rfl rfl rfl (x199 ta hr1) ?_
      refine mE.br (g1 := (68, [some (.ref a), some (.int l1), some (.ref b), some (.int l3), some (.int l4), some (.int l5), x6], [], (h, q))) (g2 := (20, [some (.ref a), some (.int l1), some (.ref b), some (.int l3), some (.int l4), some (.int l5), x6], [], (h, q))) (c := r1 ≤ l4) rfl (fun hc2 => ?_) (fun hc2 => ?_)
      · rw [if_pos hc2] at hv
        refine mE.sn 3 (g' := (72, [some (.ref a), some (.int l1), some (.ref b), some (.int l3), some (.int l4), some (.int l5), x6], [.int l1, .ref a, .int l4], (h, q))) rfl ?_
        refine mE.call rfl rfl rfl rfl rfl (x199 ta hr1) ?_
        refine mE.yes (g1 := (82, [some (.ref a), some (.int l1), some (.ref b), some (.int l3), some (.int l4), some (.int l5), x6], [], (h, q))) (g2 := (78, [some (.ref a), some (.int l1), some (.ref b), some (.int l3), some (.int l4), some (.int l5), x6], [], (h, q))) (c := r1 ≤ l4) rfl hc2 ?_
        refine mE.sn 3 (g' := (86, [some (.ref a), some (.int l1), some (.ref b), some (.int l3), some (.int l4), some (.int l5), x6], [.int l3, .ref b, .int l5], (h, q))) rfl ?_
        cases hr3 : r_next bs l3 with
        | none => rw [hr3] at hv; cases hv
        | some r3 =>
          rw [hr3] at hv
          simp only [Option.bind_some] at hv
          refine mE.call rfl rfl rfl rfl rfl (x199 tb hr3) ?_
          refine mE.br (g1 := (96, [some (.ref a), some (.int l1), some (.ref b), some (.int l3), some (.int l4), some (.int l5), x6], [], (h, q))) (g2 := (92, [some (.ref a), some (.int l1), some (.ref b), some (.int l3), some (.int l4), some (.int l5), x6], [], (h, q))) (c := r3 ≤ l5) rfl (fun hc4 => ?_) (fun hc4 => ?_)
          · rw [if_pos hc4] at hv
            refine mE.sn 1 (g' := (97, [some (.ref a), some (.int l1), some (.ref b), some (.int l3), some (.int l4), some (.int l5), x6], [.int 0], (h, q))) rfl ?_
            cases hv
            exact m_ev.fin rfl
          · rw [if_neg hc4] at hv
            refine mE.sn 2 (g' := (97, [some (.ref a), some (.int l1), some (.ref b), some (.int l3), some (.int l4), some (.int l5), x6], [.int (-1)], (h, q))) rfl ?_
            cases hv
            exact m_ev.fin rfl
      · rw [if_neg hc2] at hv
        refine mE.sn 3 (g' := (24, [some (.ref a), some (.int l1), some (.ref b), some (.int l3), some (.int l4), some (.int l5), x6], [.int l3, .ref b, .int l5], (h, q))) rfl ?_
        cases hr5 : r_next bs l3 with
        | none => rw [hr5] at hv; cases hv
        | some r5 =>
          rw [hr5] at hv
          simp only [Option.bind_some] at hv
          refine mE.call rfl rfl rfl rfl rfl (x199 tb hr5) ?_
          refine mE.br (g1 := (68, [some (.ref a), some (.int l1), some (.ref b), some (.int l3), some (.int l4), some (.int l5), x6], [], (h, q))) (g2 := (30, [some (.ref a), some (.int l1), some (.ref b), some (.int l3), some (.int l4), some (.int l5), x6], [], (h, q))) (c := r5 ≤ l5) rfl (fun hc6 => ?_) (fun hc6 => ?_)
          · rw [if_pos hc6] at hv
            refine mE.sn 3 (g' := (72, [some (.ref a), some (.int l1), some (.ref b), some (.int l3), some (.int l4), some (.int l5), x6], [.int l1, .ref a, .int l4], (h, q))) rfl ?_
            refine mE.call rfl rfl rfl rfl rfl (x199 ta hr1) ?_
            refine mE.no (g1 := (82, [some (.ref a), some (.int l1), some (.ref b), some (.int l3), some (.int l4), some (.int l5), x6], [], (h, q))) (g2 := (78, [some (.ref a), some (.int l1), some (.ref b), some (.int l3), some (.int l4), some (.int l5), x6], [], (h, q))) (c := r1 ≤ l4) rfl hc2 ?_
            refine mE.sn 2 (g' := (97, [some (.ref a), some (.int l1), some (.ref b), some (.int l3), some (.int l4), some (.int l5), x6], [.int 1], (h, q))) rfl ?_
            cases hv
            exact m_ev.fin rfl
          · rw [if_neg hc6] at hv
            refine mE.sn 4 (g' := (36, [some (.ref a), some (.int l1), some (.ref b), some (.int l3), some (.int l4), some (.int l5), x6], [.int l5, .ref b, .int l4, .ref a], (h, q))) rfl ?_
            cases hr7 : rec l4 l5 with
            | none => rw [hr7] at hv; cases hv
            | some r7 =>
              rw [hr7] at hv
              simp only [Option.bind_some] at hv
              refine mE.call rfl rfl rfl rfl rfl (hrec _ (by omega) _ _ _ hr7) ?_
              refine mE.sn 2 (g' := (43, [some (.ref a), some (.int l1), some (.ref b), some (.int l3), some (.int l4), some (.int l5), some (.int r7)], [.int r7], (h, q))) rfl ?_
              refine mE.br (g1 := (49, [some (.ref a), some (.int l1), some (.ref b), some (.int l3), some (.int l4), some (.int l5), some (.int r7)], [], (h, q))) (g2 := (46, [some (.ref a), some (.int l1), some (.ref b), some (.int l3), some (.int l4), some (.int l5), some (.int r7)], [], (h, q))) (c := r7 = 0) rfl (fun hc8 => ?_) (fun hc8 => ?_)
              · rw [if_pos hc8] at hv
                refine mE.sn 2 (g' := (52, [some (.ref a), some (.int l1), some (.ref b), some (.int l3), some (.int l4), some (.int l5), some (.int r7)], [.int l4, .ref a], (h, q))) rfl ?_
                cases hr9 : r_next as l4 with
                | none => rw [hr9] at hv; cases hv
                | some r9 =>
                  rw [hr9] at hv
                  simp only [Option.bind_some] at hv
                  refine mE.call rfl rfl rfl rfl rfl (x199 ta hr9) ?_
                  refine mE.sn 3 (g' := (60, [some (.ref a), some (.int l1), some (.ref b), some (.int l3), some (.int r9), some (.int l5), some (.int r7)], [.int l5, .ref b], (h, q))) rfl ?_
                  cases hr10 : r_next bs l5 with
                  | none => rw [hr10] at hv; cases hv
                  | some r10 =>
                    rw [hr10] at hv
                    simp only [Option.bind_some] at hv
                    refine mE.call rfl rfl rfl rfl rfl (x199 tb hr10) ?_
                    refine mE.sn 2 (g' := (10, [some (.ref a), some (.int l1), some (.ref b), some (.int l3), some (.int r9), some (.int r10), some (.int r7)], [], (h, q))) rfl ?_
                    exact ih _ _ _ _ _ v hv
              · rw [if_neg hc8] at hv
                refine mE.sn 1 (g' := (48, [some (.ref a), some (.int l1), some (.ref b), some (.int l3), some (.int l4), some (.int l5), some (.int r7)], [.int r7], (h, q))) rfl ?_
                cases hv
                exact m_ev.fin rfl
def r_arrays (as : List Int32) (bs : List Int32) (rec : Int32 → Int32 → Option Int32) (p : Int32) (p2 : Int32) : Option Int32 := r_arrays_l as bs rec 10000 p p2 (p + 2) (p2 + 2)
theorem x216 (ta : h[a]? = some (1001, as.map Value.int)) (tb : h[b]? = some (1001, bs.map Value.int)) {rec : Int32 → Int32 → Option Int32} (hrec : ∀ (e : Nat), d ≤ e → ∀ (p p2 v : Int32), rec p p2 = some v → mE e mm215 (0, [some (.ref a), some (.int p), some (.ref b), some (.int p2)], [], (h, q)) (.returned (some (.int v)), (h, q))) {p : Int32} {p2 : Int32} {v : Int32} (hv : r_arrays as bs rec p p2 = some v) : mE (d + 1) mm216 (0, [some (.ref a), some (.int p), some (.ref b), some (.int p2), none, none, none], [], (h, q)) (.returned (some (.int v)), (h, q)) := by
  unfold r_arrays at hv
  refine mE.sn 8 (g' := (10, [some (.ref a), some (.int p), some (.ref b), some (.int p2), some (.int (p + 2)), some (.int (p2 + 2)), none], [], (h, q))) rfl ?_
  exact r_arrays_l_ok ta tb hrec _ _ _ _ _ _ v hv
def r_objects_l105 (as : List Int32) (bs : List Int32) (rec : Int32 → Int32 → Option Int32) : Nat → Int32 → Int32 → Int32 → Int32 → Option Int32
  | 0, _, _, _, _ => none
  | n + 1, l1, l3, l4, l5 => (if l4 = (-1 : Int32) then some 0 else ((r_next as l4).bind fun r2 => ((r_named bs as l3 l4).bind fun r3 => ((rec r2 r3).bind fun r4 => (if r4 = 0 then ((r_nameAfter as l1 l4).bind fun r6 => r_objects_l105 as bs rec n l1 l3 r6 l5) else some r4)))))
theorem r_objects_l105_ok (ta : h[a]? = some (1001, as.map Value.int)) (tb : h[b]? = some (1001, bs.map Value.int)) {rec : Int32 → Int32 → Option Int32} (hrec : ∀ (e : Nat), d ≤ e → ∀ (p p2 v : Int32), rec p p2 = some v → mE e mm215 (0, [some (.ref a), some (.int p), some (.ref b), some (.int p2)], [], (h, q)) (.returned (some (.int v)), (h, q))) : ∀ (n : Nat) (l1 : Int32) (l3 : Int32) (l4 : Int32) (l5 : Int32) (x6 : Option Value) (v : Int32), r_objects_l105 as bs rec n l1 l3 l4 l5 = some v → mE (d + 3) mm217 (105, [some (.ref a), some (.int l1), some (.ref b), some (.int l3), some (.int l4), some (.int l5), x6], [], (h, q)) (.returned (some (.int v)), (h, q)) := by
  intro n
  induction n with
  | zero => intro l1 l3 l4 l5 x6 v hv; cases hv
  | succ n ih =>
    intro l1 l3 l4 l5 x6 v hv
    unfold r_objects_l105 at hv
    refine mE.sn 2 (g' := (108, [some (.ref a), some (.int l1), some (.ref b), some (.int l3), some (.int l4), some (.int l5), x6], [.int (-1), .int l4], (h, q))) rfl ?_
    refine mE.br (g1 := (152, [some (.ref a), some (.int l1), some (.ref b), some (.int l3), some (.int l4), some (.int l5), x6], [], (h, q))) (g2 := (111, [some (.ref a), some (.int l1), some (.ref b), some (.int l3), some (.int l4), some (.int l5), x6], [], (h, q))) (c := l4 = (-1 : Int32)) rfl (fun hc1 => ?_) (fun hc1 => ?_)
    · rw [if_pos hc1] at hv
      refine mE.sn 1 (g' := (153, [some (.ref a), some (.int l1), some (.ref b), some (.int l3), some (.int l4), some (.int l5), x6], [.int 0], (h, q))) rfl ?_
      cases hv
      exact m_ev.fin rfl
    · rw [if_neg hc1] at hv
      refine mE.sn 3 (g' := (115, [some (.ref a), some (.int l1), some (.ref b), some (.int l3), some (.int l4), some (.int l5), x6], [.int l4, .ref a, .ref a], (h, q))) rfl ?_
      cases hr2 : r_next as l4 with
      | none => rw [hr2] at hv; cases hv
      | some r2 =>
        rw [hr2] at hv
        simp only [Option.bind_some] at hv
        refine mE.call rfl rfl rfl rfl rfl (x199 ta hr2) ?_
        refine mE.sn 5 (g' := (124, [some (.ref a), some (.int l1), some (.ref b), some (.int l3), some (.int l4), some (.int l5), x6], [.int l4, .ref a, .int l3, .ref b, .ref b, .int r2, .ref a], (h, q))) rfl ?_
        cases hr3 : r_named bs as l3 l4 with
        | none => rw [hr3] at hv; cases hv
        | some r3 =>
          rw [hr3] at hv
          simp only [Option.bind_some] at hv
          refine mE.call rfl rfl rfl rfl rfl (x219 tb ta hr3) ?_
          cases hr4 : rec r2 r3 with
          | none => rw [hr4] at hv; cases hv
          | some r4 =>
            rw [hr4] at hv
            simp only [Option.bind_some] at hv
            refine mE.call rfl rfl rfl rfl rfl (hrec _ (by omega) _ _ _ hr4) ?_
            refine mE.sn 2 (g' := (134, [some (.ref a), some (.int l1), some (.ref b), some (.int l3), some (.int l4), some (.int l5), some (.int r4)], [.int r4], (h, q))) rfl ?_
            refine mE.br (g1 := (140, [some (.ref a), some (.int l1), some (.ref b), some (.int l3), some (.int l4), some (.int l5), some (.int r4)], [], (h, q))) (g2 := (137, [some (.ref a), some (.int l1), some (.ref b), some (.int l3), some (.int l4), some (.int l5), some (.int r4)], [], (h, q))) (c := r4 = 0) rfl (fun hc5 => ?_) (fun hc5 => ?_)
            · rw [if_pos hc5] at hv
              refine mE.sn 3 (g' := (144, [some (.ref a), some (.int l1), some (.ref b), some (.int l3), some (.int l4), some (.int l5), some (.int r4)], [.int l4, .int l1, .ref a], (h, q))) rfl ?_
              cases hr6 : r_nameAfter as l1 l4 with
              | none => rw [hr6] at hv; cases hv
              | some r6 =>
                rw [hr6] at hv
                simp only [Option.bind_some] at hv
                refine mE.call rfl rfl rfl rfl rfl (x218 ta hr6) ?_
                refine mE.sn 2 (g' := (105, [some (.ref a), some (.int l1), some (.ref b), some (.int l3), some (.int r6), some (.int l5), some (.int r4)], [], (h, q))) rfl ?_
                exact ih _ _ _ _ _ v hv
            · rw [if_neg hc5] at hv
              refine mE.sn 1 (g' := (139, [some (.ref a), some (.int l1), some (.ref b), some (.int l3), some (.int l4), some (.int l5), some (.int r4)], [.int r4], (h, q))) rfl ?_
              cases hv
              exact m_ev.fin rfl
def r_objects_l16 (as : List Int32) (bs : List Int32) (rec : Int32 → Int32 → Option Int32) : Nat → Int32 → Int32 → Int32 → Int32 → Option Int32
  | 0, _, _, _, _ => none
  | n + 1, l1, l3, l4, l5 => (if l4 = (-1 : Int32) then (if l4 = l5 then ((r_nameAfter as l1 (-1)).bind fun r9 => r_objects_l105 as bs rec 10000 l1 l3 r9 l5) else some (-1)) else (if l5 = (-1 : Int32) then (if l4 = l5 then ((r_nameAfter as l1 (-1)).bind fun r12 => r_objects_l105 as bs rec 10000 l1 l3 r12 l5) else some 1) else ((r_strings as bs l4 l5).bind fun r13 => (if r13 = 0 then ((r_nameAfter as l1 l4).bind fun r15 => ((r_nameAfter bs l3 l5).bind fun r16 => r_objects_l16 as bs rec n l1 l3 r15 r16)) else some r13))))
theorem r_objects_l16_ok (ta : h[a]? = some (1001, as.map Value.int)) (tb : h[b]? = some (1001, bs.map Value.int)) {rec : Int32 → Int32 → Option Int32} (hrec : ∀ (e : Nat), d ≤ e → ∀ (p p2 v : Int32), rec p p2 = some v → mE e mm215 (0, [some (.ref a), some (.int p), some (.ref b), some (.int p2)], [], (h, q)) (.returned (some (.int v)), (h, q))) : ∀ (n : Nat) (l1 : Int32) (l3 : Int32) (l4 : Int32) (l5 : Int32) (x6 : Option Value) (v : Int32), r_objects_l16 as bs rec n l1 l3 l4 l5 = some v → mE (d + 3) mm217 (16, [some (.ref a), some (.int l1), some (.ref b), some (.int l3), some (.int l4), some (.int l5), x6], [], (h, q)) (.returned (some (.int v)), (h, q)) := by
  intro n
  induction n with
  | zero => intro l1 l3 l4 l5 x6 v hv; cases hv
  | succ n ih =>
    intro l1 l3 l4 l5 x6 v hv
    unfold r_objects_l16 at hv
    refine mE.sn 2 (g' := (19, [some (.ref a), some (.int l1), some (.ref b), some (.int l3), some (.int l4), some (.int l5), x6], [.int (-1), .int l4], (h, q))) rfl ?_
    refine mE.br (g1 := (68, [some (.ref a), some (.int l1), some (.ref b), some (.int l3), some (.int l4), some (.int l5), x6], [], (h, q))) (g2 := (22, [some (.ref a), some (.int l1), some (.ref b), some (.int l3), some (.int l4), some (.int l5), x6], [], (h, q))) (c := l4 = (-1 : Int32)) rfl (fun hc7 => ?_) (fun hc7 => ?_)
    · rw [if_pos hc7] at hv
      refine mE.sn 2 (g' := (72, [some (.ref a), some (.int l1), some (.ref b), some (.int l3), some (.int l4), some (.int l5), x6], [.int l5, .int l4], (h, q))) rfl ?_
      refine mE.br (g1 := (97, [some (.ref a), some (.int l1), some (.ref b), some (.int l3), some (.int l4), some (.int l5), x6], [], (h, q))) (g2 := (75, [some (.ref a), some (.int l1), some (.ref b), some (.int l3), some (.int l4), some (.int l5), x6], [], (h, q))) (c := l4 = l5) rfl (fun hc8 => ?_) (fun hc8 => ?_)
      · rw [if_pos hc8] at hv
        refine mE.sn 3 (g' := (100, [some (.ref a), some (.int l1), some (.ref b), some (.int l3), some (.int l4), some (.int l5), x6], [.int (-1), .int l1, .ref a], (h, q))) rfl ?_
        cases hr9 : r_nameAfter as l1 (-1) with
        | none => rw [hr9] at hv; cases hv
        | some r9 =>
          rw [hr9] at hv
          simp only [Option.bind_some] at hv
          refine mE.call rfl rfl rfl rfl rfl (x218 ta hr9) ?_
          refine mE.sn 1 (g' := (105, [some (.ref a), some (.int l1), some (.ref b), some (.int l3), some (.int r9), some (.int l5), x6], [], (h, q))) rfl ?_
          exact r_objects_l105_ok ta tb hrec _ _ _ _ _ _ v hv
      · rw [if_neg hc8] at hv
        refine mE.sn 2 (g' := (78, [some (.ref a), some (.int l1), some (.ref b), some (.int l3), some (.int l4), some (.int l5), x6], [.int (-1), .int l4], (h, q))) rfl ?_
        refine mE.yes (g1 := (81, [some (.ref a), some (.int l1), some (.ref b), some (.int l3), some (.int l4), some (.int l5), x6], [], (h, q))) (g2 := (85, [some (.ref a), some (.int l1), some (.ref b), some (.int l3), some (.int l4), some (.int l5), x6], [], (h, q))) (c := l4 = (-1 : Int32)) rfl hc7 ?_
        refine mE.sn 2 (g' := (96, [some (.ref a), some (.int l1), some (.ref b), some (.int l3), some (.int l4), some (.int l5), x6], [.int (-1)], (h, q))) rfl ?_
        cases hv
        exact m_ev.fin rfl
    · rw [if_neg hc7] at hv
      refine mE.sn 2 (g' := (25, [some (.ref a), some (.int l1), some (.ref b), some (.int l3), some (.int l4), some (.int l5), x6], [.int (-1), .int l5], (h, q))) rfl ?_
      refine mE.br (g1 := (68, [some (.ref a), some (.int l1), some (.ref b), some (.int l3), some (.int l4), some (.int l5), x6], [], (h, q))) (g2 := (28, [some (.ref a), some (.int l1), some (.ref b), some (.int l3), some (.int l4), some (.int l5), x6], [], (h, q))) (c := l5 = (-1 : Int32)) rfl (fun hc10 => ?_) (fun hc10 => ?_)
      · rw [if_pos hc10] at hv
        refine mE.sn 2 (g' := (72, [some (.ref a), some (.int l1), some (.ref b), some (.int l3), some (.int l4), some (.int l5), x6], [.int l5, .int l4], (h, q))) rfl ?_
        refine mE.br (g1 := (97, [some (.ref a), some (.int l1), some (.ref b), some (.int l3), some (.int l4), some (.int l5), x6], [], (h, q))) (g2 := (75, [some (.ref a), some (.int l1), some (.ref b), some (.int l3), some (.int l4), some (.int l5), x6], [], (h, q))) (c := l4 = l5) rfl (fun hc11 => ?_) (fun hc11 => ?_)
        · rw [if_pos hc11] at hv
          refine mE.sn 3 (g' := (100, [some (.ref a), some (.int l1), some (.ref b), some (.int l3), some (.int l4), some (.int l5), x6], [.int (-1), .int l1, .ref a], (h, q))) rfl ?_
          cases hr12 : r_nameAfter as l1 (-1) with
          | none => rw [hr12] at hv; cases hv
          | some r12 =>
            rw [hr12] at hv
            simp only [Option.bind_some] at hv
            refine mE.call rfl rfl rfl rfl rfl (x218 ta hr12) ?_
            refine mE.sn 1 (g' := (105, [some (.ref a), some (.int l1), some (.ref b), some (.int l3), some (.int r12), some (.int l5), x6], [], (h, q))) rfl ?_
            exact r_objects_l105_ok ta tb hrec _ _ _ _ _ _ v hv
        · rw [if_neg hc11] at hv
          refine mE.sn 2 (g' := (78, [some (.ref a), some (.int l1), some (.ref b), some (.int l3), some (.int l4), some (.int l5), x6], [.int (-1), .int l4], (h, q))) rfl ?_
          refine mE.no (g1 := (81, [some (.ref a), some (.int l1), some (.ref b), some (.int l3), some (.int l4), some (.int l5), x6], [], (h, q))) (g2 := (85, [some (.ref a), some (.int l1), some (.ref b), some (.int l3), some (.int l4), some (.int l5), x6], [], (h, q))) (c := l4 = (-1 : Int32)) rfl hc7 ?_
          refine mE.sn 2 (g' := (88, [some (.ref a), some (.int l1), some (.ref b), some (.int l3), some (.int l4), some (.int l5), x6], [.int (-1), .int l5], (h, q))) rfl ?_
          refine mE.yes (g1 := (91, [some (.ref a), some (.int l1), some (.ref b), some (.int l3), some (.int l4), some (.int l5), x6], [], (h, q))) (g2 := (95, [some (.ref a), some (.int l1), some (.ref b), some (.int l3), some (.int l4), some (.int l5), x6], [], (h, q))) (c := l5 = (-1 : Int32)) rfl hc10 ?_
          refine mE.sn 2 (g' := (96, [some (.ref a), some (.int l1), some (.ref b), some (.int l3), some (.int l4), some (.int l5), x6], [.int 1], (h, q))) rfl ?_
          cases hv
          exact m_ev.fin rfl
      · rw [if_neg hc10] at hv
        refine mE.sn 4 (g' := (34, [some (.ref a), some (.int l1), some (.ref b), some (.int l3), some (.int l4), some (.int l5), x6], [.int l5, .ref b, .int l4, .ref a], (h, q))) rfl ?_
        cases hr13 : r_strings as bs l4 l5 with
        | none => rw [hr13] at hv; cases hv
        | some r13 =>
          rw [hr13] at hv
          simp only [Option.bind_some] at hv
          refine mE.call rfl rfl rfl rfl rfl (x198 ta tb hr13) ?_
          refine mE.sn 2 (g' := (41, [some (.ref a), some (.int l1), some (.ref b), some (.int l3), some (.int l4), some (.int l5), some (.int r13)], [.int r13], (h, q))) rfl ?_
          refine mE.br (g1 := (47, [some (.ref a), some (.int l1), some (.ref b), some (.int l3), some (.int l4), some (.int l5), some (.int r13)], [], (h, q))) (g2 := (44, [some (.ref a), some (.int l1), some (.ref b), some (.int l3), some (.int l4), some (.int l5), some (.int r13)], [], (h, q))) (c := r13 = 0) rfl (fun hc14 => ?_) (fun hc14 => ?_)
          · rw [if_pos hc14] at hv
            refine mE.sn 3 (g' := (51, [some (.ref a), some (.int l1), some (.ref b), some (.int l3), some (.int l4), some (.int l5), some (.int r13)], [.int l4, .int l1, .ref a], (h, q))) rfl ?_
            cases hr15 : r_nameAfter as l1 l4 with
            | none => rw [hr15] at hv; cases hv
            | some r15 =>
              rw [hr15] at hv
              simp only [Option.bind_some] at hv
              refine mE.call rfl rfl rfl rfl rfl (x218 ta hr15) ?_
              refine mE.sn 4 (g' := (60, [some (.ref a), some (.int l1), some (.ref b), some (.int l3), some (.int r15), some (.int l5), some (.int r13)], [.int l5, .int l3, .ref b], (h, q))) rfl ?_
              cases hr16 : r_nameAfter bs l3 l5 with
              | none => rw [hr16] at hv; cases hv
              | some r16 =>
                rw [hr16] at hv
                simp only [Option.bind_some] at hv
                refine mE.call rfl rfl rfl rfl rfl (x218 tb hr16) ?_
                refine mE.sn 2 (g' := (16, [some (.ref a), some (.int l1), some (.ref b), some (.int l3), some (.int r15), some (.int r16), some (.int r13)], [], (h, q))) rfl ?_
                exact ih _ _ _ _ _ v hv
          · rw [if_neg hc14] at hv
            refine mE.sn 1 (g' := (46, [some (.ref a), some (.int l1), some (.ref b), some (.int l3), some (.int l4), some (.int l5), some (.int r13)], [.int r13], (h, q))) rfl ?_
            cases hv
            exact m_ev.fin rfl
def r_objects (as : List Int32) (bs : List Int32) (rec : Int32 → Int32 → Option Int32) (p : Int32) (p2 : Int32) : Option Int32 := ((r_nameAfter as p (-1)).bind fun r17 => ((r_nameAfter bs p2 (-1)).bind fun r18 => r_objects_l16 as bs rec 10000 p p2 r17 r18))
theorem x217 (ta : h[a]? = some (1001, as.map Value.int)) (tb : h[b]? = some (1001, bs.map Value.int)) {rec : Int32 → Int32 → Option Int32} (hrec : ∀ (e : Nat), d ≤ e → ∀ (p p2 v : Int32), rec p p2 = some v → mE e mm215 (0, [some (.ref a), some (.int p), some (.ref b), some (.int p2)], [], (h, q)) (.returned (some (.int v)), (h, q))) {p : Int32} {p2 : Int32} {v : Int32} (hv : r_objects as bs rec p p2 = some v) : mE (d + 3) mm217 (0, [some (.ref a), some (.int p), some (.ref b), some (.int p2), none, none, none], [], (h, q)) (.returned (some (.int v)), (h, q)) := by
  unfold r_objects at hv
  refine mE.sn 3 (g' := (3, [some (.ref a), some (.int p), some (.ref b), some (.int p2), none, none, none], [.int (-1), .int p, .ref a], (h, q))) rfl ?_
  cases hr17 : r_nameAfter as p (-1) with
  | none => rw [hr17] at hv; cases hv
  | some r17 =>
    rw [hr17] at hv
    simp only [Option.bind_some] at hv
    refine mE.call rfl rfl rfl rfl rfl (x218 ta hr17) ?_
    refine mE.sn 4 (g' := (11, [some (.ref a), some (.int p), some (.ref b), some (.int p2), some (.int r17), none, none], [.int (-1), .int p2, .ref b], (h, q))) rfl ?_
    cases hr18 : r_nameAfter bs p2 (-1) with
    | none => rw [hr18] at hv; cases hv
    | some r18 =>
      rw [hr18] at hv
      simp only [Option.bind_some] at hv
      refine mE.call rfl rfl rfl rfl rfl (x218 tb hr18) ?_
      refine mE.sn 1 (g' := (16, [some (.ref a), some (.int p), some (.ref b), some (.int p2), some (.int r17), some (.int r18), none], [], (h, q))) rfl ?_
      exact r_objects_l16_ok ta tb hrec _ _ _ _ _ _ v hv
def r_compareB (as : List Int32) (bs : List Int32) (rec : Int32 → Int32 → Option Int32) (p : Int32) (p2 : Int32) : Option Int32 := ((iget as p).bind fun b1 => ((iget bs p2).bind fun b2 => (if b1 = b2 then (if b1 = 3 then ((r_number as p).bind fun r5 => ((r_number bs p2).bind fun r6 => some (l_cmp r5 r6))) else (if b1 = 4 then ((r_strings as bs p p2).bind fun r8 => some r8) else (if b1 = 5 then ((r_arrays as bs rec p p2).bind fun r10 => some r10) else (if b1 = 6 then ((r_objects as bs rec p p2).bind fun r12 => some r12) else some 0)))) else (if b2 ≤ b1 then some 1 else some (-1)))))
theorem x215 (ta : h[a]? = some (1001, as.map Value.int)) (tb : h[b]? = some (1001, bs.map Value.int)) {rec : Int32 → Int32 → Option Int32} (hrec : ∀ (e : Nat), d ≤ e → ∀ (p p2 v : Int32), rec p p2 = some v → mE e mm215 (0, [some (.ref a), some (.int p), some (.ref b), some (.int p2)], [], (h, q)) (.returned (some (.int v)), (h, q))) {p : Int32} {p2 : Int32} {v : Int32} (hv : r_compareB as bs rec p p2 = some v) : mE (d + 4) mm215 (0, [some (.ref a), some (.int p), some (.ref b), some (.int p2)], [], (h, q)) (.returned (some (.int v)), (h, q)) := by
  unfold r_compareB at hv
  refine mE.sn 2 (g' := (2, [some (.ref a), some (.int p), some (.ref b), some (.int p2)], [.int p, .ref a], (h, q))) rfl ?_
  cases hr1 : iget as p with
  | none => rw [hr1] at hv; cases hv
  | some b1 =>
    rw [hr1] at hv
    simp only [Option.bind_some] at hv
    refine mE.iald (v := .int b1) rfl ta (iget_ix hr1) ?_
    refine mE.sn 2 (g' := (5, [some (.ref a), some (.int p), some (.ref b), some (.int p2)], [.int p2, .ref b, .int b1], (h, q))) rfl ?_
    cases hr2 : iget bs p2 with
    | none => rw [hr2] at hv; cases hv
    | some b2 =>
      rw [hr2] at hv
      simp only [Option.bind_some] at hv
      refine mE.iald (v := .int b2) rfl tb (iget_ix hr2) ?_
      refine mE.br (g1 := (24, [some (.ref a), some (.int p), some (.ref b), some (.int p2)], [], (h, q))) (g2 := (9, [some (.ref a), some (.int p), some (.ref b), some (.int p2)], [], (h, q))) (c := b1 = b2) rfl (fun hc3 => ?_) (fun hc3 => ?_)
      · rw [if_pos hc3] at hv
        refine mE.sn 2 (g' := (26, [some (.ref a), some (.int p), some (.ref b), some (.int p2)], [.int p, .ref a], (h, q))) rfl ?_
        refine mE.iald (v := .int b1) rfl ta (iget_ix hr1) ?_
        by_cases hc4 : b1 = 3
        · rw [if_pos hc4] at hv
          refine mE.sn 1 (g' := (56, [some (.ref a), some (.int p), some (.ref b), some (.int p2)], [], (h, q))) (by rw [hc4]; rfl) ?_
          refine mE.sn 2 (g' := (58, [some (.ref a), some (.int p), some (.ref b), some (.int p2)], [.int p, .ref a], (h, q))) rfl ?_
          cases hr5 : r_number as p with
          | none => rw [hr5] at hv; cases hv
          | some r5 =>
            rw [hr5] at hv
            simp only [Option.bind_some] at hv
            refine mE.call rfl rfl rfl rfl rfl (x208 ta hr5) ?_
            refine mE.sn 2 (g' := (63, [some (.ref a), some (.int p), some (.ref b), some (.int p2)], [.int p2, .ref b, .long r5], (h, q))) rfl ?_
            cases hr6 : r_number bs p2 with
            | none => rw [hr6] at hv; cases hv
            | some r6 =>
              rw [hr6] at hv
              simp only [Option.bind_some] at hv
              refine mE.call rfl rfl rfl rfl rfl (x208 tb hr6) ?_
              refine mE.call rfl rfl rfl rfl rfl (x137 r5 r6) ?_
              cases hv
              exact m_ev.fin rfl
        rw [if_neg hc4] at hv
        by_cases hc7 : b1 = 4
        · rw [if_pos hc7] at hv
          refine mE.sn 1 (g' := (70, [some (.ref a), some (.int p), some (.ref b), some (.int p2)], [], (h, q))) (by rw [hc7]; rfl) ?_
          refine mE.sn 4 (g' := (74, [some (.ref a), some (.int p), some (.ref b), some (.int p2)], [.int p2, .ref b, .int p, .ref a], (h, q))) rfl ?_
          cases hr8 : r_strings as bs p p2 with
          | none => rw [hr8] at hv; cases hv
          | some r8 =>
            rw [hr8] at hv
            simp only [Option.bind_some] at hv
            refine mE.call rfl rfl rfl rfl rfl (x198 ta tb hr8) ?_
            cases hv
            exact m_ev.fin rfl
        rw [if_neg hc7] at hv
        by_cases hc9 : b1 = 5
        · rw [if_pos hc9] at hv
          refine mE.sn 1 (g' := (78, [some (.ref a), some (.int p), some (.ref b), some (.int p2)], [], (h, q))) (by rw [hc9]; rfl) ?_
          refine mE.sn 4 (g' := (82, [some (.ref a), some (.int p), some (.ref b), some (.int p2)], [.int p2, .ref b, .int p, .ref a], (h, q))) rfl ?_
          cases hr10 : r_arrays as bs rec p p2 with
          | none => rw [hr10] at hv; cases hv
          | some r10 =>
            rw [hr10] at hv
            simp only [Option.bind_some] at hv
            refine mE.call rfl rfl rfl rfl rfl (x216 ta tb (fun e he => hrec e (by omega)) hr10) ?_
            cases hv
            exact m_ev.fin rfl
        rw [if_neg hc9] at hv
        by_cases hc11 : b1 = 6
        · rw [if_pos hc11] at hv
          refine mE.sn 1 (g' := (86, [some (.ref a), some (.int p), some (.ref b), some (.int p2)], [], (h, q))) (by rw [hc11]; rfl) ?_
          refine mE.sn 4 (g' := (90, [some (.ref a), some (.int p), some (.ref b), some (.int p2)], [.int p2, .ref b, .int p, .ref a], (h, q))) rfl ?_
          cases hr12 : r_objects as bs rec p p2 with
          | none => rw [hr12] at hv; cases hv
          | some r12 =>
            rw [hr12] at hv
            simp only [Option.bind_some] at hv
            refine mE.call rfl rfl rfl rfl rfl (x217 ta tb (fun e he => hrec e (by omega)) hr12) ?_
            cases hv
            exact m_ev.fin rfl
        rw [if_neg hc11] at hv
        have hd12 : m_tsw 27 67 3 6 #[29, 43, 51, 59] b1 = 94 := by
          have n4 : ¬ (3 : Int) = b1.toInt := fun e => hc4 (Int32.toInt_inj.mp (e.symm.trans rfl))
          have n7 : ¬ (4 : Int) = b1.toInt := fun e => hc7 (Int32.toInt_inj.mp (e.symm.trans rfl))
          have n9 : ¬ (5 : Int) = b1.toInt := fun e => hc9 (Int32.toInt_inj.mp (e.symm.trans rfl))
          have n11 : ¬ (6 : Int) = b1.toInt := fun e => hc11 (Int32.toInt_inj.mp (e.symm.trans rfl))
          exact m_tsw_out _ _ _ _ _ _ (by omega)
        refine mE.sn 1 (g' := (94, [some (.ref a), some (.int p), some (.ref b), some (.int p2)], [], (h, q))) (by rw [← hd12]; rfl) ?_
        refine mE.sn 1 (g' := (95, [some (.ref a), some (.int p), some (.ref b), some (.int p2)], [.int 0], (h, q))) rfl ?_
        cases hv
        exact m_ev.fin rfl
      · rw [if_neg hc3] at hv
        refine mE.sn 2 (g' := (11, [some (.ref a), some (.int p), some (.ref b), some (.int p2)], [.int p, .ref a], (h, q))) rfl ?_
        refine mE.iald (v := .int b1) rfl ta (iget_ix hr1) ?_
        refine mE.sn 2 (g' := (14, [some (.ref a), some (.int p), some (.ref b), some (.int p2)], [.int p2, .ref b, .int b1], (h, q))) rfl ?_
        refine mE.iald (v := .int b2) rfl tb (iget_ix hr2) ?_
        refine mE.br (g1 := (22, [some (.ref a), some (.int p), some (.ref b), some (.int p2)], [], (h, q))) (g2 := (18, [some (.ref a), some (.int p), some (.ref b), some (.int p2)], [], (h, q))) (c := b2 ≤ b1) rfl (fun hc13 => ?_) (fun hc13 => ?_)
        · rw [if_pos hc13] at hv
          refine mE.sn 1 (g' := (23, [some (.ref a), some (.int p), some (.ref b), some (.int p2)], [.int 1], (h, q))) rfl ?_
          cases hv
          exact m_ev.fin rfl
        · rw [if_neg hc13] at hv
          refine mE.sn 2 (g' := (23, [some (.ref a), some (.int p), some (.ref b), some (.int p2)], [.int (-1)], (h, q))) rfl ?_
          cases hv
          exact m_ev.fin rfl
def r_cmp (as bs : List Int32) : Nat → Int32 → Int32 → Option Int32
  | 0, _, _ => none
  | n + 1, p, p2 => r_compareB as bs (r_cmp as bs n) p p2
theorem r_cmp_ok (ta : h[a]? = some (1001, as.map Value.int)) (tb : h[b]? = some (1001, bs.map Value.int)) : ∀ (n e : Nat), 4 * n ≤ e → ∀ (p p2 v : Int32), r_cmp as bs n p p2 = some v → mE e mm215 (0, [some (.ref a), some (.int p), some (.ref b), some (.int p2)], [], (h, q)) (.returned (some (.int v)), (h, q)) := by
  intro n
  induction n with
  | zero => intro e he p p2 v hv; cases hv
  | succ n ih =>
    intro e he p p2 v hv
    have := x215 (d := e - 4) ta tb (rec := r_cmp as bs n) (fun e' he' => ih e' (by omega)) hv
    rw [show e = e - 4 + 4 by omega]
    exact this
end Ref96

