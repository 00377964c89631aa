/-! The class goes along a path. -/
section Follow132
/-- where a path has led to: nothing, or a value and its window -/
abbrev Cu : Type := Option (Vl × Option (Nat × Nat))
noncomputable def stepV (t : Vl) (w : Option (Nat × Nat)) (pi : Vl) : Option Cu :=
  if pi.1 = 3 then (if t.1 = 5 then some ((byP t w pi.2.1).map fun v => (v, none)) else none)
  else if pi.1 = 4 then (if t.1 = 6 then some ((byN t pi.2.2.1).map fun v => (v, none)) else none)
  else if pi.1 = 6 then (if @decide (okW t pi) (Classical.propDecidable _) = true then some (some (t, some (nwA pi (winA t w) (winE t w), nwB pi (winA t w) (winE t w)))) else none)
  else none
noncomputable def foll : Cu → List Vl → Option Cu
  | c, [] => some c
  | none, _ :: _ => some none
  | some (t, w), pi :: ps => if t.1 = 0 then some none else (match stepV t w pi with
    | none => none
    | some c => foll c ps)
def spU (S : SS) (ta : Nat) (c : Cu) : Prop := match c with
  | none => spN S ta
  | some (t, w) => spC S ta t w
theorem spO_U {S : SS} {ta : Nat} {o : Option Vl} (h : spO S ta o) : spU S ta (o.map fun v => (v, none)) := by
  cases o <;> exact h
theorem step_val {S : SS} {ta t1 q2 : Nat} {t pi : Vl} {w : Option (Nat × Nat)} (hta : ta < 1000 ∧ ta ≠ 67) (ht1 : t1 ≠ 67) (h : spC S ta t w) (hp : vat (tT S t1) q2 pi) : (∀ c, stepV t w pi = some c → ∃ S', p_step S t1 (Int32.ofNat q2) = some (S', 0) ∧ fr67 S S' ∧ spU S' ta c) ∧ (stepV t w pi = none → p_step S t1 (Int32.ofNat q2) = some (S, 1)) := by
  have k6 := hp.2.2.1.1
  unfold p_step stepV
  rw [hp.kind, o_bind]
  by_cases e3 : pi.1 = 3
  · have hp' := hp
    rw [vl3 e3] at hp'
    obtain ⟨b1, b2⟩ := byPlace_val hta h (hp.2.2.1.2.1 e3)
    rw [e3, if_pos (show Int32.ofNat 3 = 3 from rfl), if_pos (show (3 : Nat) = 3 from rfl), hp'.number, o_bind]
    by_cases e5 : t.1 = 5
    · obtain ⟨S', s1, s2, s3⟩ := b1 e5
      rw [if_pos e5, s1, o_bind]
      exact ⟨fun c hc => by cases hc; exact ⟨S', rfl, s2, spO_U s3⟩, fun hc => by cases hc⟩
    · rw [if_neg e5, b2 e5, o_bind]
      exact ⟨fun c hc => (by cases hc), fun _ => rfl⟩
  have i3 : ¬ Int32.ofNat pi.1 = 3 := by rw [show (3 : Int32) = Int32.ofNat 3 from rfl, i_inj (by omega) (by omega)]; exact e3
  rw [if_neg i3, if_neg e3]
  by_cases e4 : pi.1 = 4
  · obtain ⟨l1, l2, w0, r, d1, -⟩ := id hp
    have d1' : (tT S t1).drop q2 = pstr pi.2.2.1 ++ r := by
      rw [d1]
      congr 1
      conv => lhs; rw [vl4 e4]
      rfl
    obtain ⟨b1, b2⟩ := byName_val hta h l1 w0.2.2.1 d1'
    rw [e4, if_pos (show Int32.ofNat 4 = 4 from rfl), if_pos (show (4 : Nat) = 4 from rfl)]
    by_cases e6 : t.1 = 6
    · obtain ⟨S', s1, s2, s3⟩ := b1 e6
      rw [if_pos e6, s1, o_bind]
      exact ⟨fun c hc => by cases hc; exact ⟨S', rfl, s2, spO_U s3⟩, fun hc => by cases hc⟩
    · rw [if_neg e6, b2 e6, o_bind]
      exact ⟨fun c hc => (by cases hc), fun _ => rfl⟩
  have i4 : ¬ Int32.ofNat pi.1 = 4 := by rw [show (4 : Int32) = Int32.ofNat 4 from rfl, i_inj (by omega) (by omega)]; exact e4
  rw [if_neg i4, if_neg e4]
  by_cases e6 : pi.1 = 6
  · obtain ⟨b1, b2⟩ := byPart_val hta ht1 h hp e6
    rw [e6, if_pos (show Int32.ofNat 6 = 6 from rfl), if_pos (show (6 : Nat) = 6 from rfl)]
    by_cases ok : okW t pi
    · obtain ⟨S', s1, s2, s3⟩ := b1 ok
      rw [if_pos (@decide_eq_true _ (Classical.propDecidable _) ok), s1, o_bind]
      exact ⟨fun c hc => by cases hc; exact ⟨S', rfl, s2, s3⟩, fun hc => by cases hc⟩
    · rw [if_neg (fun e => ok (@of_decide_eq_true _ (Classical.propDecidable _) e)), b2 ok, o_bind]
      exact ⟨fun c hc => (by cases hc), fun _ => rfl⟩
  have i6 : ¬ Int32.ofNat pi.1 = 6 := by rw [show (6 : Int32) = Int32.ofNat 6 from rfl, i_inj (by omega) (by omega)]; exact e6
  rw [if_neg i6, if_neg e6]
  exact ⟨fun c hc => (by cases hc), fun _ => rfl⟩
theorem null_val {S : SS} {ta : Nat} {c : Cu} (hta : ta < 1000) (h : spU S ta c) : (c = none ∨ (∃ t w, c = some (t, w) ∧ t.1 = 0) → p_isNull S = some 1) ∧ (∀ t w, c = some (t, w) → t.1 ≠ 0 → p_isNull S = some 0) := by
  unfold p_isNull
  refine ⟨fun hc => ?_, fun t w hc ht => ?_⟩
  · rcases hc with e | ⟨t, w, e, e0⟩
    · rw [e] at h
      rw [spN.kind hta h, o_bind, if_pos rfl]
    · rw [e] at h
      rw [spC.kind hta h, o_bind, e0, if_pos (by decide)]
  · rw [hc] at h
    have k6 : t.1 ≤ 6 := by obtain ⟨_, _, _, _, _, h2, _⟩ := h; exact h2.2.2.1.1
    rw [spC.kind hta h, o_bind, if_neg (by rw [show (0 : Int32) = Int32.ofNat 0 from rfl, i_inj (by omega) (by omega)]; exact ht)]
theorem spU.row {S : SS} {ta : Nat} {c : Cu} (h : spU S ta c) : ∃ T p it pt lo hi : Int32, S 67 = [T, p, it, pt, lo, hi] ∧ T = Int32.ofNat ta := by
  cases c with
  | none => obtain ⟨it, lo, hi, e⟩ := h; exact ⟨_, _, _, _, _, _, e, rfl⟩
  | some tw => obtain ⟨t, w⟩ := tw; obtain ⟨q, it, lo, hi, e, -⟩ := h; exact ⟨_, _, _, _, _, _, e, rfl⟩
theorem foll_l {ta t1 : Nat} {z : Int32} {r us : List Int32} (hta : ta < 1000 ∧ ta ≠ 67) (ht1 : t1 ≠ 67) (hl : us.length ≤ 4096) (hA : asc us) (hz : z = 93 ∨ z = 125) : ∀ (l : List Mb) (n cn q : Nat) (S : SS) (c : Cu), okL l → l ≠ [] → tT S t1 = us → us.drop q = jn (l.map (bM false)) ++ z :: r → l.length < n → cn ≤ q → spU S ta c → (∀ c', foll c (l.map fun m => m.2) = some c' → ∃ S', p_follow_l15 ta t1 n S (Int32.ofNat q) (Int32.ofNat cn) = some (S', 0) ∧ fr67 S S' ∧ spU S' ta c') ∧ (foll c (l.map fun m => m.2) = none → ∃ S', p_follow_l15 ta t1 n S (Int32.ofNat q) (Int32.ofNat cn) = some (S', 1) ∧ fr67 S S') := by
  intro l
  induction l with
  | nil => intro n cn q S c _ h; exact absurd rfl h
  | cons m l ih =>
    intro n cn q S c hw _ hu h hn hc hsp
    obtain ⟨n1, -, n2, n3⟩ := nx hl hA (hw m List.mem_cons_self) hz h
    have hv := (mem_at hl hA (hw m List.mem_cons_self) hz h).1 rfl
    cases n with
    | zero => omega
    | succ n =>
      obtain ⟨nu1, nu2⟩ := null_val hta.1 hsp
      have e4 : ¬ (4096 : Int32) ≤ Int32.ofNat cn := by rw [show (4096 : Int32) = Int32.ofNat 4096 from rfl, i_le' (by omega) (by omega)]; omega
      have un : p_follow_l15 ta t1 (n + 1) S (Int32.ofNat q) (Int32.ofNat cn) = ((p_isNull S).bind fun r7 => (if r7 = 0 then ((p_step S t1 (Int32.ofNat q)).bind fun r10 => (if r10.2 = 0 then ((t_next (tT r10.1 t1) (Int32.ofNat q)).bind fun r13 => p_follow_l15 ta t1 n r10.1 r13 (Int32.ofNat cn + 1)) else some (r10.1, r10.2))) else ((p_moveTo S (-1) (-1)).bind fun r15 => some (r15, 0)))) := by
        show (if (4096 : Int32) ≤ Int32.ofNat cn then _ else _) = _
        rw [if_neg e4, if_neg (i_ne1 (by omega))]
      rw [un]
      have nothing : (c = none ∨ ∃ t w, c = some (t, w) ∧ t.1 = 0) → ∃ S', ((p_isNull S).bind fun r7 => (if r7 = 0 then ((p_step S t1 (Int32.ofNat q)).bind fun r10 => (if r10.2 = 0 then ((t_next (tT r10.1 t1) (Int32.ofNat q)).bind fun r13 => p_follow_l15 ta t1 n r10.1 r13 (Int32.ofNat cn + 1)) else some (r10.1, r10.2))) else ((p_moveTo S (-1) (-1)).bind fun r15 => some (r15, (0 : Int32))))) = some (S', 0) ∧ fr67 S S' ∧ spN S' ta := by
        intro hcc
        obtain ⟨T, p, it, pt, lo, hi, e, eT⟩ := hsp.row
        rw [nu1 hcc, o_bind, if_neg (by decide), move_val e, o_bind]
        exact ⟨_, rfl, fun a ha => up_ne ha, -1, lo, hi, by rw [up_same, eT]⟩
      cases c with
      | none =>
        obtain ⟨S', s1, s2, s3⟩ := nothing (Or.inl rfl)
        exact ⟨fun c' hc' => by cases hc'; exact ⟨S', s1, s2, s3⟩, fun hc' => by cases hc'⟩
      | some tw =>
        obtain ⟨t, w⟩ := tw
        have ef : foll (some (t, w)) ((m :: l).map fun m => m.2) = if t.1 = 0 then some none else (match stepV t w m.2 with
          | none => none
          | some c => foll c (l.map fun m => m.2)) := rfl
        rw [ef]
        by_cases e0 : t.1 = 0
        · obtain ⟨S', s1, s2, s3⟩ := nothing (Or.inr ⟨t, w, rfl, e0⟩)
          rw [if_pos e0]
          exact ⟨fun c' hc' => by cases hc'; exact ⟨S', s1, s2, s3⟩, fun hc' => by cases hc'⟩
        · rw [if_neg e0, nu2 t w rfl e0, o_bind, if_pos rfl]
          obtain ⟨st1, st2⟩ := step_val hta ht1 hsp (by rw [hu]; exact hv)
          cases hs : stepV t w m.2 with
          | none =>
            rw [st2 hs, o_bind, if_neg (show ¬ (1 : Int32) = 0 by decide)]
            exact ⟨fun c' hc' => (by cases hc'), fun _ => ⟨S, rfl, fun _ _ => rfl⟩⟩
          | some c2 =>
            obtain ⟨S1, s1, s2, s3⟩ := st1 c2 hs
            have hu1 : tT S1 t1 = us := by unfold tT; rw [s2 t1 ht1]; exact hu
            rw [s1, o_bind, if_pos rfl, hu1, n2, o_bind, i_a1]
            simp only
            by_cases el : l = []
            · rw [if_pos el, el]
              have uz : p_follow_l15 ta t1 n S1 (-1) (Int32.ofNat (cn + 1)) = some (S1, 0) := by
                simp only [List.length_cons] at hn
                cases n with
                | zero => rw [el] at hn; simp at hn
                | succ n =>
                  show (if (4096 : Int32) ≤ Int32.ofNat (cn + 1) then some (S1, 0) else _) = _
                  by_cases e5 : (4096 : Int32) ≤ Int32.ofNat (cn + 1)
                  · rw [if_pos e5]
                  · rw [if_neg e5, if_pos rfl]
              rw [uz]
              exact ⟨fun c' hc' => by cases hc'; exact ⟨S1, rfl, s2, s3⟩, fun hc' => by cases hc'⟩
            · rw [if_neg el]
              obtain ⟨i1, i2⟩ := ih n (cn + 1) _ S1 c2 hw.tail el hu1 (n3 el) (by simp only [List.length_cons] at hn; omega) (by omega) s3
              refine ⟨fun c' hc' => ?_, fun hc' => ?_⟩
              · obtain ⟨S', j1, j2, j3⟩ := i1 c' hc'
                exact ⟨S', j1, fun a ha => (j2 a ha).trans (s2 a ha), j3⟩
              · obtain ⟨S', j1, j2⟩ := i2 hc'
                exact ⟨S', j1, fun a ha => (j2 a ha).trans (s2 a ha)⟩
/-- along a path from a text's beginning -/
theorem follow_val {S : SS} {ta t1 : Nat} {t pt : Vl} (hta : ta < 1000 ∧ ta ≠ 67) (ht1 : t1 ≠ 67) (h67 : (S 67).length = 6) {q0 : Nat} (hv : vat (tT S ta) 0 t) (hp : vat (tT S t1) q0 pt) (h5 : pt.1 = 5) : (∀ c', foll (some (t, none)) ((toL pt.2.2.2).map fun m => m.2) = some c' → ∃ S', p_follow S ta t1 (Int32.ofNat q0) = some (S', 0) ∧ fr67 S S' ∧ spU S' ta c') ∧ (foll (some (t, none)) ((toL pt.2.2.2).map fun m => m.2) = none → ∃ S', p_follow S ta t1 (Int32.ofNat q0) = some (S', 1) ∧ fr67 S S') := by
  have hp' := hp
  rw [vl5 h5] at hp'
  obtain ⟨x0, x1, x2, x3, x4, x5, e⟩ : ∃ x0 x1 x2 x3 x4 x5 : Int32, S 67 = [x0, x1, x2, x3, x4, x5] := by
    cases hS : S 67 with
    | nil => rw [hS] at h67; cases h67
    | cons a1 l1 => cases l1 with
      | nil => rw [hS] at h67; cases h67
      | cons a2 l2 => cases l2 with
        | nil => rw [hS] at h67; cases h67
        | cons a3 l3 => cases l3 with
          | nil => rw [hS] at h67; cases h67
          | cons a4 l4 => cases l4 with
            | nil => rw [hS] at h67; cases h67
            | cons a5 l5 => cases l5 with
              | nil => rw [hS] at h67; cases h67
              | cons a6 l6 => cases l6 with
                | nil => exact ⟨_, _, _, _, _, _, rfl⟩
                | cons a7 l7 => rw [hS] at h67; simp at h67
  have es : p_start S ta = some (up S 67 [Int32.ofNat ta, 0, 0, 0, x4, x5]) := by
    unfold p_start
    rw [wr_eq e, wr_up, wr_up, wr_up]
    rfl
  obtain ⟨S1, hS1⟩ : ∃ S1, S1 = up S 67 [Int32.ofNat ta, 0, 0, 0, x4, x5] := ⟨_, rfl⟩
  have f1 : fr67 S S1 := fun a ha => by rw [hS1]; exact up_ne ha
  have u1 : tT S1 t1 = tT S t1 := by unfold tT; rw [f1 t1 ht1]
  have ua : tT S1 ta = tT S ta := by unfold tT; rw [f1 ta hta.2]
  have sp1 : spU S1 ta (some (t, none)) := ⟨0, 0, x4, x5, by rw [hS1, up_same]; rfl, by rw [ua]; exact hv, (fun _ _ e => by cases e), (fun _ _ e => by cases e)⟩
  unfold p_follow
  rw [es, o_bind, ← hS1, u1, hp'.first (Or.inl rfl), o_bind]
  by_cases el : toL pt.2.2.2 = []
  · rw [if_pos el, el]
    have uz : p_follow_l15 ta t1 10000 S1 (-1) 0 = some (S1, 0) := by
      show (if (4096 : Int32) ≤ 0 then some (S1, 0) else _) = _
      rw [if_neg (by decide), if_pos rfl]
    rw [uz]
    exact ⟨fun c' hc' => by cases hc'; exact ⟨S1, rfl, f1, sp1⟩, fun hc' => by cases hc'⟩
  · rw [if_neg el]
    obtain ⟨l1, l2, w0, r, d1, -⟩ := id hp'
    have hb := box_len (Or.inl rfl) d1
    obtain ⟨i1, i2⟩ := foll_l hta ht1 l1 l2 (z := if (5 : Nat) = 5 then 93 else 125) (Or.inl rfl) (toL pt.2.2.2) 10000 0 (q0 + 1) S1 (some (t, none)) w0.kids el u1 (box_in (Or.inl rfl) d1) (by omega) (by omega) sp1
    refine ⟨fun c' hc' => ?_, fun hc' => ?_⟩
    · obtain ⟨S', j1, j2, j3⟩ := i1 c' hc'
      exact ⟨S', j1, fun a ha => (j2 a ha).trans (f1 a ha), j3⟩
    · obtain ⟨S', j1, j2⟩ := i2 hc'
      exact ⟨S', j1, fun a ha => (j2 a ha).trans (f1 a ha)⟩
end Follow132
