/-! The reference goes along a path. -/
section RFollow136
/-- refused for its type -/
def refd (S S' : SS) : Prop := (∀ a, a ≠ 78 → S' a = S a) ∧ (∀ k, k ≠ 12 → k ≠ 17 → k ≠ 18 → rd S' 78 k = rd S 78 k) ∧ (S' 78).length = (S 78).length ∧ rd S' 78 12 = 1
theorem refuse_val {S : SS} (h78 : (S 78).length = 22) (h0 : rd S 78 12 = 0) : ∃ S', ((b_refuse S 1).bind fun r => some r) = some S' ∧ refd S S' := by
  unfold b_refuse
  rw [if_pos h0, o_bind]
  exact ⟨_, rfl, fun a ha => wr_ne ha, fun k h1 _ _ => rd_wr_j (fun e => h1 e.symm), wr_len, rd_wr (by rw [h78]; decide)⟩
theorem frN.refd {S S1 S2 : SS} (a : frN S S1) (b : refd S1 S2) : refd S S2 := ⟨fun x h => (b.1 x h).trans (a.1 x h), fun k h1 h2 h3 => (b.2.1 k h1 h2 h3).trans (a.2.1 k h2 h3), b.2.2.1.trans a.2.2, b.2.2.2⟩
theorem l173_val {S : SS} {aa ab i j : Nat} {y : Int32} {o : Option Vl} {k19 : SS → Int32 → Int32 → Option SS} (h78 : (S 78).length = 22) (haa : aa ≠ 78) (hab : ab ≠ 78) (hb : bdC (S aa) y o) (hn : r_next (S ab) (Int32.ofNat i) = some (Int32.ofNat j)) : ∃ S', b_getv_l173 aa ab k19 S y (Int32.ofNat i) = k19 S' y (Int32.ofNat j) ∧ frN S S' ∧ spRU S' aa (o.map fun v => (v, none)) y := by
  unfold b_getv_l173
  cases o with
  | none =>
    have hb : y = -1 := hb
    rw [if_pos hb, hn, o_bind]
    exact ⟨S, rfl, frN.refl S, hb⟩
  | some v =>
    obtain ⟨b, e, hb9, hc⟩ := hb
    have nx1 := hc.next
    rw [if_neg (by rw [e]; exact i_ne1 (by omega)), wr_ne haa, e, nx1.1, o_bind, wr_ne hab, wr_ne hab, hn, o_bind]
    obtain ⟨d1, d2⟩ := rd_win S (Int32.ofNat b + 2) (Int32.ofNat (b + (cV v).length)) h78
    have eb : Int32.ofNat b + 2 = Int32.ofNat (b + 2) := (Int32.ofNat_add b 2).symm
    refine ⟨_, rfl, frN_wr S _ _, b, rfl, hb9, by rw [(frN_wr S _ _).1 aa haa]; exact hc, (fun _ _ q => by cases q), fun _ => ⟨d1.trans eb, d2⟩, fun hk => ⟨(d1.trans eb).trans ?_, d2.trans ?_⟩⟩
    · congr 1
      show b + 2 = pos v b 0
      unfold pos
      split
      · rfl
      · rw [bp_0]
    · congr 1
      show b + (cV v).length = pos v b (0 + size v)
      unfold pos
      by_cases h4 : v.1 = 4
      · rw [if_pos h4, cat_str_len hc h4]; omega
      · rw [if_neg h4]
        have h5 := hk.resolve_left h4
        have hc' := hc
        rw [vl5 h5] at hc'
        obtain ⟨-, -, r, hd⟩ := hc'
        obtain ⟨c1, c2⟩ := cbox_in (Or.inl rfl) hd
        rw [show (5 == 6) = false from rfl] at c2
        have ev : (cV v).length = (cV (5, v.2.1, v.2.2.1, ofL (toL v.2.2.2))).length := by conv => lhs; rw [vl5 h5]
        have bl := blks_len false (toL v.2.2.2)
        simp only [Bool.false_eq_true, if_false] at bl
        unfold bp size
        rw [if_neg h4, Nat.zero_add, List.take_of_length_le (by omega), ev, c2]
        omega
theorem rfoll_l {aa ab N : Nat} {r : List Int32} (haa : aa ≠ 78) (hab : ab ≠ 78) (hN : N ≤ 9000) : ∀ (l : List Mb) (n i : Nat) (S : SS) (c : Cu) (l3 : Int32), okL l → (S 78).length = 22 → rd S 78 12 = 0 → S 39 = mp_aS → S 40 = mp_aE → (S ab).length ≤ 9000 → iget (S ab) 1 = some (Int32.ofNat N) → (S ab).drop i = (blks false l).flatten ++ r → i + (blks false l).flatten.length = N → l.length < n → spRU S aa c l3 → (∀ c', foll c (l.map fun m => m.2) = some c' → ∃ S' l3' c'', (∃ k, b_getv_l19 aa ab n S l3 (Int32.ofNat i) = b_getv_l208 aa ab k S' l3') ∧ frN S S' ∧ spRU S' aa c'' l3' ∧ cV (outV c'') = cV (outV c')) ∧ (foll c (l.map fun m => m.2) = none → ∃ S', b_getv_l19 aa ab n S l3 (Int32.ofNat i) = some S' ∧ refd S S') := by
  intro l
  induction l with
  | nil =>
    intro n i S c l3 _ h78 h12 h39 h40 h9 h1 hd hi hn hs
    have : (blks false []).flatten.length = 0 := rfl
    cases n with
    | zero => omega
    | succ n =>
      refine ⟨fun c' hc' => ?_, fun hc' => ?_⟩
      · cases c <;> cases hc'
        all_goals
          refine ⟨S, l3, _, ⟨b_getv_l19 aa ab n, ?_⟩, frN.refl S, hs, rfl⟩
          show (iget (S ab) 1).bind _ = _
          rw [h1, o_bind, if_pos ((i_le' (by omega) (by omega)).mpr (by omega))]
      · cases c <;> cases hc'
  | cons m l ih =>
    intro n i S c l3 hw h78 h12 h39 h40 h9 h1 hd hi hn hs
    have eb : blks false (m :: l) = cV m.2 :: blks false l := rfl
    rw [eb] at hd hi
    obtain ⟨s1, s2, s3, s4⟩ := blk_step h9 (by rw [← eb]; exact blks_h hw) hd
    have hp : cat (S ab) i m.2 := ⟨h9, (hw m List.mem_cons_self).2, _, by rw [List.flatten_cons, List.append_assoc] at hd; exact hd⟩
    rw [List.flatten_cons, List.length_append] at hi
    have pk6 := hp.2.1.1
    cases n with
    | zero => omega
    | succ n =>
      have un : ∀ X : Int32 → Option SS, (iget (S ab) 1).bind X = X (Int32.ofNat N) := fun X => by rw [h1, o_bind]
      have c0 : ¬ Int32.ofNat N ≤ Int32.ofNat i := by rw [i_le' (by omega) (by omega)]; omega
      -- go on with the rest of the path
      have go : ∀ (S1 : SS) (c1 : Cu) (y : Int32), frN S S1 → spRU S1 aa c1 y → _ := fun S1 c1 y f1 hs1 => ih n (i + (cV m.2).length) S1 c1 y hw.tail (f1.2.2.trans h78) (by rw [f1.2.1 12 (by decide) (by decide)]; exact h12) (by rw [f1.1 39 (by decide)]; exact h39) (by rw [f1.1 40 (by decide)]; exact h40) (by rw [f1.1 ab hab]; exact h9) (by rw [f1.1 ab hab]; exact h1) (by rw [f1.1 ab hab]; exact s2) (by omega) (by simp only [List.length_cons] at hn; omega) hs1
      cases c with
      | none =>
        have hs : l3 = -1 := hs
        refine ⟨fun c' hc' => ?_, fun hc' => by cases hc'⟩
        cases hc'
        refine ⟨S, l3, none, ⟨b_getv_l19 aa ab n, ?_⟩, frN.refl S, hs, rfl⟩
        show (iget (S ab) 1).bind _ = _
        rw [un, if_neg c0, if_pos hs]
      | some tw =>
        obtain ⟨t, w⟩ := tw
        have hs : spR S aa t w l3 := hs
        obtain ⟨p, e, hp9, hc, hwo, hw0, hwb⟩ := id hs
        have tk6 := hc.2.1.1
        have ik : iget (S aa) l3 = some (Int32.ofNat t.1) := by rw [e]; exact hc.kind
        have n1 : ¬ l3 = -1 := by rw [e]; exact i_ne1 (by omega)
        have ef : foll (some (t, w)) ((m :: l).map fun m => m.2) = if t.1 = 0 then some none else (match stepV t w m.2 with
          | none => none
          | some c => foll c (l.map fun m => m.2)) := rfl
        rw [ef]
        by_cases e0 : t.1 = 0
        · rw [if_pos e0]
          refine ⟨fun c' hc' => ?_, fun hc' => by cases hc'⟩
          cases hc'
          have wn : w = none := by
            cases w with
            | none => rfl
            | some ab => obtain ⟨a, b⟩ := ab; have := (hwo a b rfl).2.2; omega
          refine ⟨S, l3, some (t, w), ⟨b_getv_l19 aa ab n, ?_⟩, frN.refl S, hs, ?_⟩
          · show (iget (S ab) 1).bind _ = _
            rw [un, if_neg c0, if_neg n1, ik, o_bind, if_pos (by rw [e0]; rfl)]
          · rw [wn]
            show cV t = cV vNull
            unfold cV cval
            rw [e0]
            rfl
        rw [if_neg e0]
        have z0 : ¬ Int32.ofNat t.1 = 0 := by rw [show (0 : Int32) = Int32.ofNat 0 from rfl, i_inj (by omega) (by omega)]; exact e0
        have head : b_getv_l19 aa ab (n + 1) S l3 (Int32.ofNat i) = (if Int32.ofNat t.1 = (5 : Int32) then ((iget (S ab) (Int32.ofNat i)).bind fun b21 => (if b21 = (6 : Int32) then ((b_part S ab (Int32.ofNat i)).bind fun r23 => (if r23 = 0 then b_getv_l112 aa ab (b_getv_l19 aa ab n) S l3 (Int32.ofNat i) (Int32.ofNat t.1) 1 else ((b_narrow S aa ab 0 (Int32.ofNat i)).bind fun r60 => ((r_next (r60 ab) (Int32.ofNat i)).bind fun r62 => b_getv_l19 aa ab n r60 l3 r62)))) else b_getv_l112 aa ab (b_getv_l19 aa ab n) S l3 (Int32.ofNat i) (Int32.ofNat t.1) 1)) else ((iget (S ab) (Int32.ofNat i)).bind fun b64 => (if b64 = (6 : Int32) then ((b_part S ab (Int32.ofNat i)).bind fun r66 => (if r66 = 0 then b_getv_l112 aa ab (b_getv_l19 aa ab n) S l3 (Int32.ofNat i) (Int32.ofNat t.1) 0 else (if Int32.ofNat t.1 = (4 : Int32) then ((b_narrow S aa ab 1 (Int32.ofNat i)).bind fun r70 => ((r_next (r70 ab) (Int32.ofNat i)).bind fun r72 => b_getv_l19 aa ab n r70 l3 r72)) else b_getv_l112 aa ab (b_getv_l19 aa ab n) S l3 (Int32.ofNat i) (Int32.ofNat t.1) 0))) else b_getv_l112 aa ab (b_getv_l19 aa ab n) S l3 (Int32.ofNat i) (Int32.ofNat t.1) 0))) := by
          show (iget (S ab) 1).bind _ = _
          rw [un, if_neg c0, if_neg n1, ik, o_bind, if_neg z0]
        have pki := hp.kind
        -- the last choice
        have l112 : ∀ row : Int32, (row = 0 ↔ t.1 ≠ 5) → b_getv_l112 aa ab (b_getv_l19 aa ab n) S l3 (Int32.ofNat i) (Int32.ofNat t.1) row = if m.2.1 = 4 ∧ t.1 = 6 then ((r_named (S aa) (S ab) l3 (Int32.ofNat i)).bind fun r29 => b_getv_l173 aa ab (b_getv_l19 aa ab n) S r29 (Int32.ofNat i)) else if m.2.1 = 3 ∧ t.1 = 5 then ((r_number (S ab) (Int32.ofNat i)).bind fun r54 => ((b_place S aa r54).bind fun r56 => b_getv_l173 aa ab (b_getv_l19 aa ab n) S r56 (Int32.ofNat i))) else ((b_refuse S 1).bind fun r58 => some r58) := by
          intro row hrow
          unfold b_getv_l112
          rw [pki, o_bind]
          have j4 : Int32.ofNat m.2.1 = 4 ↔ m.2.1 = 4 := by rw [show (4 : Int32) = Int32.ofNat 4 from rfl, i_inj (by omega) (by omega)]
          have j3 : Int32.ofNat m.2.1 = 3 ↔ m.2.1 = 3 := by rw [show (3 : Int32) = Int32.ofNat 3 from rfl, i_inj (by omega) (by omega)]
          have j6 : Int32.ofNat t.1 = 6 ↔ t.1 = 6 := by rw [show (6 : Int32) = Int32.ofNat 6 from rfl, i_inj (by omega) (by omega)]
          by_cases m4 : m.2.1 = 4
          · rw [if_pos (j4.mpr m4)]
            by_cases t6 : t.1 = 6
            · rw [if_pos (j6.mpr t6), if_pos ⟨m4, t6⟩]
            · rw [if_neg (fun q => t6 (j6.mp q)), if_neg (show ¬ Int32.ofNat m.2.1 = 3 from fun q => by have := j3.mp q; omega), if_neg (show ¬ (m.2.1 = 4 ∧ t.1 = 6) from fun q => t6 q.2), if_neg (show ¬ (m.2.1 = 3 ∧ t.1 = 5) from fun q => by omega)]
          · rw [if_neg (show ¬ Int32.ofNat m.2.1 = 4 from fun q => m4 (j4.mp q)), if_neg (show ¬ (m.2.1 = 4 ∧ t.1 = 6) from fun q => m4 q.1)]
            by_cases m3 : m.2.1 = 3
            · rw [if_pos (j3.mpr m3)]
              by_cases t5 : t.1 = 5
              · rw [if_neg (show ¬ row = 0 from fun q => (hrow.mp q) t5), if_pos ⟨m3, t5⟩]
              · rw [if_pos (hrow.mpr t5), if_neg (show ¬ (m.2.1 = 3 ∧ t.1 = 5) from fun q => t5 q.2)]
            · rw [if_neg (show ¬ Int32.ofNat m.2.1 = 3 from fun q => m3 (j3.mp q)), if_neg (show ¬ (m.2.1 = 3 ∧ t.1 = 5) from fun q => m3 q.1)]
        -- behind a step to a value
        have done : ∀ (y : Int32) (o : Option Vl), bdC (S aa) y o → b_getv_l19 aa ab (n + 1) S l3 (Int32.ofNat i) = b_getv_l173 aa ab (b_getv_l19 aa ab n) S y (Int32.ofNat i) → (∀ c', foll (o.map fun v => (v, none)) (l.map fun m => m.2) = some c' → ∃ S' l3' c'', (∃ k, b_getv_l19 aa ab (n + 1) S l3 (Int32.ofNat i) = b_getv_l208 aa ab k S' l3') ∧ frN S S' ∧ spRU S' aa c'' l3' ∧ cV (outV c'') = cV (outV c')) ∧ (foll (o.map fun v => (v, none)) (l.map fun m => m.2) = none → ∃ S', b_getv_l19 aa ab (n + 1) S l3 (Int32.ofNat i) = some S' ∧ refd S S') := by
          intro y o hb he
          obtain ⟨S1, v1, v2, v3⟩ := l173_val (k19 := b_getv_l19 aa ab n) h78 haa hab hb s1
          obtain ⟨g1, g2⟩ := go S1 _ y v2 v3
          rw [he, v1]
          refine ⟨fun c' hc' => ?_, fun hc' => ?_⟩
          · obtain ⟨S', l3', c'', q1, q2, q3, q4⟩ := g1 c' hc'
            exact ⟨S', l3', c'', q1, v2.trans q2, q3, q4⟩
          · obtain ⟨S', q1, q2⟩ := g2 hc'
            exact ⟨S', q1, v2.refd q2⟩
        have refu : b_getv_l19 aa ab (n + 1) S l3 (Int32.ofNat i) = ((b_refuse S 1).bind fun r58 => some r58) → ∃ S', b_getv_l19 aa ab (n + 1) S l3 (Int32.ofNat i) = some S' ∧ refd S S' := fun he => by
          rw [he]; exact refuse_val h78 h12
        have t5i : Int32.ofNat t.1 = 5 ↔ t.1 = 5 := by rw [show (5 : Int32) = Int32.ofNat 5 from rfl, i_inj (by omega) (by omega)]
        have t4i : Int32.ofNat t.1 = 4 ↔ t.1 = 4 := by rw [show (4 : Int32) = Int32.ofNat 4 from rfl, i_inj (by omega) (by omega)]
        have m6i : Int32.ofNat m.2.1 = 6 ↔ m.2.1 = 6 := by rw [show (6 : Int32) = Int32.ofNat 6 from rfl, i_inj (by omega) (by omega)]
        by_cases m6 : m.2.1 = 6
        · -- a part
          obtain ⟨pt1, pt2⟩ := part_val hp m6 h39 h40
          have esv : stepV t w m.2 = if @decide (okW t m.2) (Classical.propDecidable _) = true then some (some (t, some (nwA m.2 (winA t w) (winE t w), nwB m.2 (winA t w) (winE t w)))) else none := by
            unfold stepV
            rw [if_neg (by omega), if_neg (by omega), if_pos m6]
          rw [esv]
          have rl : ∀ row : Int32, (row = 0 ↔ t.1 ≠ 5) → b_getv_l112 aa ab (b_getv_l19 aa ab n) S l3 (Int32.ofNat i) (Int32.ofNat t.1) row = ((b_refuse S 1).bind fun r58 => some r58) := fun row hr => by
            rw [l112 row hr, if_neg (by omega), if_neg (by omega)]
          by_cases ok : okW t m.2
          · rw [if_pos (@decide_eq_true _ (Classical.propDecidable _) ok)]
            obtain ⟨S1, v1, v2, v3⟩ := rnarrow_val h78 haa h39 h40 hs hp m6 ok
            have he : b_getv_l19 aa ab (n + 1) S l3 (Int32.ofNat i) = b_getv_l19 aa ab n S1 l3 (Int32.ofNat (i + (cV m.2).length)) := by
              rw [head]
              by_cases t5 : t.1 = 5
              · rw [if_pos t5] at v1
                rw [if_pos (t5i.mpr t5), pki, o_bind, if_pos (m6i.mpr m6), pt1 ok.2, o_bind, if_neg (by decide), v1, o_bind, v2.1 ab hab, s1, o_bind]
              · have t4 := ok.1.resolve_right t5
                rw [if_neg t5] at v1
                rw [if_neg (fun q => t5 (t5i.mp q)), pki, o_bind, if_pos (m6i.mpr m6), pt1 ok.2, o_bind, if_neg (by decide), if_pos (t4i.mpr t4), v1, o_bind, v2.1 ab hab, s1, o_bind]
            obtain ⟨g1, g2⟩ := go S1 (some (t, some (nwA m.2 (winA t w) (winE t w), nwB m.2 (winA t w) (winE t w)))) l3 v2 v3
            rw [he]
            refine ⟨fun c' hc' => ?_, fun hc' => ?_⟩
            · obtain ⟨S', l3', c'', q1, q2, q3, q4⟩ := g1 c' hc'
              exact ⟨S', l3', c'', q1, v2.trans q2, q3, q4⟩
            · obtain ⟨S', q1, q2⟩ := g2 hc'
              exact ⟨S', q1, v2.refd q2⟩
          · rw [if_neg (fun q => ok (@of_decide_eq_true _ (Classical.propDecidable _) q))]
            refine ⟨fun c' hc' => (by cases hc'), fun _ => refu ?_⟩
            rw [head]
            by_cases t5 : t.1 = 5
            · have nb : ¬ (okD (byN m.2 stS) ∧ okD (byN m.2 enS)) := fun q => ok ⟨Or.inr t5, q⟩
              rw [if_pos (t5i.mpr t5), pki, o_bind, if_pos (m6i.mpr m6), pt2 nb, o_bind, if_pos rfl, rl 1 ⟨fun q => absurd q (by decide), fun q => absurd t5 q⟩]
            · rw [if_neg (fun q => t5 (t5i.mp q)), pki, o_bind, if_pos (m6i.mpr m6)]
              by_cases nb : okD (byN m.2 stS) ∧ okD (byN m.2 enS)
              · have t4 : ¬ t.1 = 4 := fun q => ok ⟨Or.inl q, nb⟩
                rw [pt1 nb, o_bind, if_neg (by decide), if_neg (fun q => t4 (t4i.mp q)), rl 0 ⟨fun _ => t5, fun _ => rfl⟩]
              · rw [pt2 nb, o_bind, if_pos rfl, rl 0 ⟨fun _ => t5, fun _ => rfl⟩]
        · have hd2 : ∃ row : Int32, (row = 0 ↔ t.1 ≠ 5) ∧ b_getv_l19 aa ab (n + 1) S l3 (Int32.ofNat i) = b_getv_l112 aa ab (b_getv_l19 aa ab n) S l3 (Int32.ofNat i) (Int32.ofNat t.1) row := by
            by_cases t5 : t.1 = 5
            · refine ⟨1, ⟨fun q => absurd q (by decide), fun q => absurd t5 q⟩, ?_⟩
              rw [head, if_pos (t5i.mpr t5), pki, o_bind, if_neg (fun q => m6 (m6i.mp q))]
            · refine ⟨0, ⟨fun _ => t5, fun _ => rfl⟩, ?_⟩
              rw [head, if_neg (fun q => t5 (t5i.mp q)), pki, o_bind, if_neg (fun q => m6 (m6i.mp q))]
          obtain ⟨row, hr, he⟩ := hd2
          rw [l112 row hr] at he
          by_cases m3 : m.2.1 = 3
          · have esv : stepV t w m.2 = if t.1 = 5 then some ((byP t w m.2.2.1).map fun v => (v, none)) else none := by unfold stepV; rw [if_pos m3]
            rw [esv]
            rw [if_neg (by omega)] at he
            by_cases t5 : t.1 = 5
            · rw [if_pos ⟨m3, t5⟩] at he
              rw [if_pos t5]
              have hp' := hp
              rw [vl3 m3] at hp'
              obtain ⟨y, y1, y2⟩ := rplace_val hs t5 (hp.2.1.2.1 m3)
              rw [hp'.number, o_bind, y1, o_bind] at he
              exact done y _ y2 he
            · rw [if_neg (fun q => t5 q.2)] at he
              rw [if_neg t5]
              exact ⟨fun c' hc' => (by cases hc'), fun _ => refu he⟩
          · rw [show (if m.2.1 = 3 ∧ t.1 = 5 then ((r_number (S ab) (Int32.ofNat i)).bind fun r54 => ((b_place S aa r54).bind fun r56 => b_getv_l173 aa ab (b_getv_l19 aa ab n) S r56 (Int32.ofNat i))) else ((b_refuse S 1).bind fun r58 => some r58)) = ((b_refuse S 1).bind fun r58 => some r58) from if_neg (fun q => m3 q.1)] at he
            by_cases m4 : m.2.1 = 4
            · have esv : stepV t w m.2 = if t.1 = 6 then some ((byN t m.2.2.2.1).map fun v => (v, none)) else none := by unfold stepV; rw [if_neg m3, if_pos m4]
              rw [esv]
              by_cases t6 : t.1 = 6
              · rw [if_pos ⟨m4, t6⟩] at he
                rw [if_pos t6]
                obtain ⟨-, pw, pr, pd⟩ := id hp
                have pd' : (S ab).drop i = cstr m.2.2.2.1 ++ pr := by
                  rw [pd]
                  congr 1
                  conv => lhs; rw [vl4 m4]
                  rfl
                have hc' := hc
                rw [vl6 t6] at hc'
                obtain ⟨b1, b2⟩ := hc'.by h9 pd'
                by_cases hj : (toL t.2.2.2).findIdx (fun m' => m'.1 == m.2.2.2.1) < (toL t.2.2.2).length
                · obtain ⟨b, n1', n2'⟩ := b1 hj
                  rw [e, n1', o_bind] at he
                  have hbd : bdC (S aa) (Int32.ofNat b) (byN t m.2.2.2.1) := by
                    unfold byN
                    rw [dif_pos hj]
                    have := n2'.next
                    have := n2'.1
                    exact ⟨b, rfl, by omega, n2'⟩
                  rw [← e] at he
                  exact done _ _ hbd he
                · rw [e, b2 hj, o_bind] at he
                  have hbd : bdC (S aa) (-1) (byN t m.2.2.2.1) := by
                    unfold byN
                    rw [dif_neg hj]
                    rfl
                  rw [← e] at he
                  exact done _ _ hbd he
              · rw [if_neg (fun q => t6 q.2)] at he
                rw [if_neg t6]
                exact ⟨fun c' hc' => (by cases hc'), fun _ => refu he⟩
            · rw [if_neg (fun q => m4 q.1)] at he
              have esv : stepV t w m.2 = none := by unfold stepV; rw [if_neg m3, if_neg m4, if_neg m6]
              rw [esv]
              exact ⟨fun c' hc' => (by cases hc'), fun _ => refu he⟩
end RFollow136
