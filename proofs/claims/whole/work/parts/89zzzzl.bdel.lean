/-! The call del. -/
section Del178
theorem l355_r {k75 k112 : SS → Int32 → Int32 → Nat → Int32 → Int32 → Option SS} {k162 : SS → Int32 → Int32 → Nat → Int32 → Int32 → Int32 → Option SS} {k236 : SS → Int32 → Int32 → Nat → Int32 → Int32 → Option SS} {n : Nat} {S : SS} {l1 l5 l7 : Int32} {a4 : Nat} (h : l5 ≤ l7 ∨ ¬ rd S 78 12 = 0) : b_del_l355 k75 k112 k162 k236 (n + 1) S l1 a4 l5 l7 = ((b_finish S l1 2 3).bind fun r => some r) := by
  show (if l5 ≤ l7 then ((b_finish S l1 2 3).bind fun r29 => some r29) else (if (rd S 78 12) = 0 then _ else ((b_finish S l1 2 3).bind fun r49 => some r49))) = _
  by_cases c : l5 ≤ l7
  · rw [if_pos c]
  · rw [if_neg c, if_neg (h.resolve_left c)]
theorem l112_r {k75 : SS → Int32 → Int32 → Nat → Int32 → Int32 → Option SS} {n : Nat} {S : SS} {l1 l2 l5 l6 : Int32} {a4 : Nat} (h : l5 ≤ l6 ∨ ¬ rd S 78 12 = 0) : b_del_l112 k75 (n + 1) S l1 l2 a4 l5 l6 = b_del_l162 k75 (b_del_l112 k75 n) 10000 S l1 l2 a4 l5 0 0 := by
  show (if l5 ≤ l6 then b_del_l162 k75 (b_del_l112 k75 n) 10000 S l1 l2 a4 l5 0 0 else (if (rd S 78 12) = 0 then _ else b_del_l162 k75 (b_del_l112 k75 n) 10000 S l1 l2 a4 l5 0 0)) = _
  by_cases c : l5 ≤ l6
  · rw [if_pos c]
  · rw [if_neg c, if_neg (h.resolve_left c)]
theorem l75_0 {n : Nat} {S : SS} {l1 l2 l5 l6 : Int32} {a4 : Nat} (h : l5 ≤ l6) : b_del_l75 (n + 1) S l1 l2 a4 l5 l6 = b_del_l112 (b_del_l75 n) 10000 S l1 l2 a4 l5 0 := by
  show (if l5 ≤ l6 then _ else _) = _
  rw [if_pos h]
theorem bdel_val {T0 : SS} {n0 n1 n2 : Nat} {t pt : Vl} (l78 : (T0 78).length = 22) (l90 : (T0 90).length = 3) (l91 : (T0 91).length = 9000) (l97 : (T0 97).length = 4200) (l98 : (T0 98).length = 9000) (h39 : T0 39 = mp_aS) (h40 : T0 40 = mp_aE) (hn0 : n0 < 8) (hn1 : n1 < 8) (hn2 : n2 < 8) (ca : cat (T0 (82 + n1)) 0 t) (cp : cat (T0 (82 + n2)) 0 pt) (hd : dV t ≤ 60) (hdp : dV pt ≤ 60) : ∃ T2, b_del T0 (Int32.ofNat n0) (Int32.ofNat n1) (Int32.ofNat n2) = ((b_finish T2 (Int32.ofNat n0) 2 3).bind fun r => some r) ∧ (∀ a, a ≠ 78 → a ≠ 90 → a ≠ 91 → a ≠ 97 → a ≠ 98 → T2 a = T0 a) ∧ (∀ k, k = 1 ∨ k = 3 ∨ k = 4 → rd T2 78 k = rd T0 78 k) ∧ rd T2 78 0 = 0 ∧ (T2 78).length = 22 ∧ (T2 91).length = 9000 ∧ (T2 97).length = 4200 ∧ (T2 98).length = 9000 ∧ (¬ (pt.1 = 5 ∧ okE (toL pt.2.2.2)) → ¬ rd T2 78 12 ≤ 0) ∧ (pt.1 = 5 ∧ okE (toL pt.2.2.2) → ¬ ((toL pt.2.2.2).length ≤ 100 ∧ smL (toL pt.2.2.2) ≤ 100) → rd T2 78 12 = 0 ∧ rd T2 90 2 = 1) ∧ (pt.1 = 5 ∧ okE (toL pt.2.2.2) → (toL pt.2.2.2).length ≤ 100 ∧ smL (toL pt.2.2.2) ≤ 100 → ∃ R : List Nat, R.Perm (List.range (toL pt.2.2.2).length) ∧ dscE (toL pt.2.2.2) R ∧ (∀ T, cutL (R.map (stO (toL pt.2.2.2))) t = some T → rd T2 78 12 = 0 ∧ wV T ∧ OutV T2 (cV T)) ∧ (cutL (R.map (stO (toL pt.2.2.2))) t = none → ¬ rd T2 78 12 ≤ 0)) := by
  obtain ⟨S1, b1, b2, b3, b4, b5, b6, b7⟩ := begin_val l78 l90 l91
  have reg : ∀ n, n < 8 → b_none S1 (Int32.ofNat n) = some 0 := by
    intro n hn
    have : ¬ Int32.ofNat n < 0 ∧ Int32.ofNat n < 8 := ⟨i_nn (by omega), by rw [show (8 : Int32) = Int32.ofNat 8 from rfl, i_lt' (by omega) (by omega)]; exact hn⟩
    exact (reg_ok S1 this).2.1
  obtain ⟨d1, d1'⟩ := get81 n1 hn1
  obtain ⟨d2, d2'⟩ := get81 n2 hn2
  have cp1 : cat (S1 (82 + n2)) 0 pt := by rw [b2 _ (by omega) (by omega)]; exact cp
  have head : b_del T0 (Int32.ofNat n0) (Int32.ofNat n1) (Int32.ofNat n2) = (if Int32.ofNat pt.1 = (5 : Int32) then ((r_many (S1 (82 + n2)) 0).bind fun r15 => b_del_l75 10000 S1 (Int32.ofNat n0) (Int32.ofNat n1) (82 + n2) r15 0) else ((b_refuse S1 1).bind fun r93 => b_del_l75 10000 r93 (Int32.ofNat n0) (Int32.ofNat n1) (82 + n2) 0 0)) := by
    unfold b_del
    rw [b1, o_bind, reg n0 hn0, o_bind, if_pos rfl, reg n1 hn1, o_bind, if_pos rfl, reg n2 hn2, o_bind, if_pos rfl, d2, o_bind, d2', show iget (S1 (82 + n2)) 0 = some (Int32.ofNat pt.1) from cp1.kind, o_bind]
  have k6 := cp.2.1.1
  -- from a refusal on
  have refd : ∀ (k75 : SS → Int32 → Int32 → Nat → Int32 → Int32 → Option SS) (n N : Nat) (S : SS), N ≤ 4500 → rfS S1 S → ¬ rd S 78 12 ≤ 0 → (∀ k112, ∃ k162, b_del_l162 k75 k112 (n + 1) S (Int32.ofNat n0) (Int32.ofNat n1) (82 + n2) (Int32.ofNat N) 0 0 = b_del_l236 k75 k112 k162 10000 S (Int32.ofNat n0) (Int32.ofNat n1) (82 + n2) (Int32.ofNat N) 0) := by
    intro k75 n N S hN hS hr k112
    have hr0 : ¬ rd S 78 12 = 0 := fun e => hr (by rw [e]; decide)
    refine ⟨b_del_l162 k75 k112 n, ?_⟩
    show (if Int32.ofNat N ≤ 0 then (if (100 : Int32) < Int32.ofNat N then (if (rd S 78 12) = 0 then _ else _) else (if (0 : Int32) ≤ (100 : Int32) then _ else (if (rd S 78 12) = 0 then _ else _))) else (if (rd S 78 12) = 0 then _ else (if (100 : Int32) < Int32.ofNat N then _ else (if (0 : Int32) ≤ (100 : Int32) then _ else _)))) = _
    rw [if_neg hr0, if_neg hr0, if_pos (show (0 : Int32) ≤ 100 by decide)]
    split <;> split <;> rfl
  have refe : ∀ (k75 k112 : SS → Int32 → Int32 → Nat → Int32 → Int32 → Option SS) (k162 : SS → Int32 → Int32 → Nat → Int32 → Int32 → Int32 → Option SS) (N : Nat) (S : SS), N ≤ 4500 → rfS S1 S → ¬ rd S 78 12 ≤ 0 → ∃ T2, b_del_l236 k75 k112 k162 10000 S (Int32.ofNat n0) (Int32.ofNat n1) (82 + n2) (Int32.ofNat N) 0 = ((b_finish T2 (Int32.ofNat n0) 2 3).bind fun r => some r) ∧ (∀ a, a ≠ 78 → a ≠ 90 → a ≠ 91 → a ≠ 97 → a ≠ 98 → T2 a = T0 a) ∧ (∀ k, k = 1 ∨ k = 3 ∨ k = 4 → rd T2 78 k = rd T0 78 k) ∧ rd T2 78 0 = 0 ∧ (T2 78).length = 22 ∧ (T2 91).length = 9000 ∧ (T2 97).length = 4200 ∧ (T2 98).length = 9000 ∧ ¬ rd T2 78 12 ≤ 0 := by
    intro k75 k112 k162 N S hN hS hr
    have hr0 : ¬ rd S 78 12 = 0 := fun e => hr (by rw [e]; decide)
    have o1 : OutV S [] := by
      unfold OutV rd at b7 ⊢
      rw [hS.1 91 (by decide), hS.1 90 (by decide)]
      exact b7
    obtain ⟨h9, hw, r, hdr⟩ := ca
    obtain ⟨S2, q1, q2, q3⟩ := ocopy (S := S) (aa := 82 + n1) (p := 0) (w := cV t) (r := r) (by omega) (cV_h hw.1) o1 (by rw [hS.1 _ (by omega), b2 _ (by omega) (by omega)]; exact h9) (by rw [hS.1 _ (by omega), b2 _ (by omega) (by omega)]; exact hdr)
    have q1 : q_copy S (82 + n1) 0 = some S2 := q1
    have e90 : rd S 90 2 = 0 := (o1.2.2.1 (by decide)).2.2
    have oth : ∀ a, a ≠ 78 → a ≠ 90 → a ≠ 91 → S2 a = T0 a := fun a x1 x2 x3 => by rw [q3 a x2 x3, hS.1 a x1, b2 a x1 x2]
    refine ⟨S2, ?_, fun a x1 x2 x3 _ _ => oth a x1 x2 x3, fun k hk => by rw [frO_12 q3, hS.2.1 k (by omega), b3 k (by omega) (by omega)], by rw [frO_12 q3, hS.2.1 0 (by decide)]; exact b4, by rw [q3 78 (by decide) (by decide), hS.2.2]; exact b6, q2.1, by rw [oth 97 (by decide) (by decide) (by decide)]; exact l97, by rw [oth 98 (by decide) (by decide) (by decide)]; exact l98, by rw [frO_12 q3]; exact hr⟩
    rw [d236_e (n := 9999) (Or.inr hr0)]
    unfold dEnd
    rw [if_pos e90, d1, o_bind, d1', q1, o_bind]
    exact l355_r (n := 9999) (Or.inr (by rw [frO_12 q3]; exact hr0))
  rw [head]
  by_cases e5 : pt.1 = 5
  · obtain ⟨kp, vp, sp, fp⟩ := pt
    obtain ⟨es, rfl⟩ : ∃ l, fp = ofL l := ⟨toL fp, (ofL_toL fp).symm⟩
    have e5 : kp = 5 := e5
    subst e5
    have etl : toL ((5, vp, sp, ofL es) : Vl).2.2.2 = es := toL_ofL es
    rw [etl]
    obtain ⟨-, -, r, dp⟩ := id cp1
    have hm := many_val (p := 0) (r := r) cp1.1 cp1.2.1.kids (Or.inl rfl) dp
    have hlen : es.length ≤ 4500 := by
      by_cases c : 0 < es.length
      · exact (ep_at cp1 c).2.2.2
      · omega
    have hdk : ∀ y ∈ es, dV y.2 ≤ 59 := fun y hy => by
      have := dV_kid (k := 5) (v := vp) (s := sp) (Or.inl rfl) hy
      omega
    rw [if_pos (show Int32.ofNat ((5, vp, sp, ofL es) : Vl).1 = 5 from rfl), show r_many (S1 (82 + n2)) 0 = some (Int32.ofNat es.length) from hm, o_bind]
    obtain ⟨S2, n', j1, j2, j3⟩ := d75 (l1 := Int32.ofNat n0) (l2 := Int32.ofNat n1) (pb := 82 + n2) (by omega) es.length 0 10000 S1 (by omega) (by omega) cp1 b6 (Or.inl b5)
    have j1 : b_del_l75 10000 S1 (Int32.ofNat n0) (Int32.ofNat n1) (82 + n2) (Int32.ofNat es.length) 0 = _ := j1
    rw [j1]
    rw [List.drop_zero] at j3
    rcases j3 with ⟨-, rfl, a5⟩ | ⟨hr, hno⟩
    · obtain ⟨S3, k112, q1, q2, q3⟩ := d112 (k75 := b_del_l75 n') (l1 := Int32.ofNat n0) (l2 := Int32.ofNat n1) (pb := 82 + n2) (by omega) a5 es.length 0 10000 S2 (by omega) (by omega) cp1 b6 b5
      have q1 : b_del_l112 (b_del_l75 n') 10000 S2 (Int32.ofNat n0) (Int32.ofNat n1) (82 + n2) (Int32.ofNat es.length) 0 = _ := q1
      rw [q1]
      rw [List.drop_zero] at q3
      rcases q3 with ⟨rfl, a6⟩ | ⟨hr, hno⟩
      · have hE : okE es := fun x hx => ⟨a5 x hx, a6 x hx⟩
        obtain ⟨k162, w1⟩ := d162 (k75 := b_del_l75 n') (k112 := k112) (l1 := Int32.ofNat n0) (l2 := Int32.ofNat n1) hE es.length 0 10000 S3 (by omega) (by omega) cp1 b5
        have w1 : b_del_l162 (b_del_l75 n') k112 10000 S3 (Int32.ofNat n0) (Int32.ofNat n1) (82 + n2) (Int32.ofNat es.length) 0 0 = _ := w1
        rw [w1]
        by_cases hfew : es.length ≤ 100 ∧ smL es ≤ 100
        · rw [if_pos hfew]
          obtain ⟨S4, R, post, k236, x1, x2, x3, x4, x5, x6⟩ := d236 (k75 := b_del_l75 n') (k112 := k112) (k162 := k162) (l1 := Int32.ofNat n0) (l2 := Int32.ofNat n1) (pb := 82 + n2) (by omega) hdk hfew.1 es.length 0 10000 S3 [] (S3 97) (by omega) (by omega) cp1 b5 (by rw [List.range_zero]) List.Pairwise.nil rfl (by rw [b2 97 (by decide) (by decide), l97]; omega)
          have x1 : b_del_l236 (b_del_l75 n') k112 k162 10000 S3 (Int32.ofNat n0) (Int32.ofNat n1) (82 + n2) (Int32.ofNat es.length) 0 = _ := x1
          rw [x1]
          have e78 : S4 78 = S3 78 := x2 78 (by decide)
          have o4 : OutV S4 [] := by
            unfold OutV rd at b7 ⊢
            rw [x2 91 (by decide), x2 90 (by decide)]
            exact b7
          have e90 : rd S4 90 2 = 0 := (o4.2.2.1 (by decide)).2.2
          obtain ⟨h9, hw, r', hdr⟩ := id ca
          have cn := ca.next.2
          have e82 : ∀ n, n < 8 → S4 (82 + n) = T0 (82 + n) := fun n hn => by rw [x2 _ (by omega), b2 _ (by omega) (by omega)]
          obtain ⟨S5, y1, y2, y3⟩ := ocopy (S := S4) (aa := 82 + n1) (p := 0) (w := cV t) (r := r') (by omega) (cV_h hw.1) o4 (by rw [e82 n1 hn1]; exact h9) (by rw [e82 n1 hn1]; exact hdr)
          have y1 : q_copy S4 (82 + n1) 0 = some S5 := y1
          rw [List.nil_append] at y2
          have oth5 : ∀ a, a ≠ 78 → a ≠ 90 → a ≠ 91 → a ≠ 97 → S5 a = T0 a := fun a z1 z2 z3 z4 => by rw [y3 a z2 z3, x2 a z4, b2 a z1 z2]
          have k5 : ∀ k, k ≠ 0 → k ≠ 12 → rd S5 78 k = rd T0 78 k := fun k z1 z2 => by rw [frO_12 y3, ← b3 k z1 z2]; unfold rd; rw [e78]
          have k50 : rd S5 78 0 = 0 ∧ rd S5 78 12 = 0 := by rw [frO_12 y3, frO_12 y3]; unfold rd at b4 b5 ⊢; rw [e78]; exact ⟨b4, b5⟩
          obtain ⟨T2, z1, z2, z3, z4, z5, z6⟩ := d355 (k75 := b_del_l75 n') (k112 := k112) (k162 := k162) (k236 := k236) (l1 := Int32.ofNat n0) (post := post) (pb := 82 + n2) (v := vp) (s := sp) (by omega) hE hfew.1 R 10000 0 S5 t [] (by rw [x3.length_eq, List.length_range]; omega) (by rw [x3.length_eq, List.length_range]; omega) rfl (fun j hj => List.mem_range.mp (x3.mem_iff.mp hj)) (by rw [oth5 _ (by omega) (by omega) (by omega) (by omega)]; exact cp) (by rw [y3 78 (by decide) (by decide), e78]; exact b6) (by rw [oth5 39 (by decide) (by decide) (by decide) (by decide)]; exact h39) (by rw [oth5 40 (by decide) (by decide) (by decide) (by decide)]; exact h40) k50.2 (by rw [y3 97 (by decide) (by decide), x5]; rfl) y2 (by omega) (by rw [oth5 98 (by decide) (by decide) (by decide) (by decide)]; exact l98) hw hd
          have z1 : b_del_l355 (b_del_l75 n') k112 k162 k236 10000 S5 (Int32.ofNat n0) (82 + n2) (Int32.ofNat es.length) 0 = _ := z1
          refine ⟨T2, ?_, fun a u1 u2 u3 u4 u5 => by rw [z2.1 a u1 u2 u3 u5, oth5 a u1 u2 u3 u4], fun k hk => by rw [z2.2.1 k (by omega), k5 k (by omega) (by omega)], by rw [z2.2.1 0 (by omega)]; exact k50.1, by rw [z2.2.2, y3 78 (by decide) (by decide), e78]; exact b6, z4, by rw [z2.1 97 (by decide) (by decide) (by decide) (by decide), y3 97 (by decide) (by decide), x6, b2 97 (by decide) (by decide)]; exact l97, z3, fun c => absurd ⟨rfl, hE⟩ c, fun _ c => absurd hfew c, fun _ _ => ⟨R, x3, x4, z5, z6⟩⟩
          unfold dEnd
          rw [if_pos e90, d1, o_bind, d1', y1, o_bind, z1]
        · rw [if_neg hfew]
          have h2 : rd (wr S3 90 2 1) 90 2 = 1 := rd_wr (by rw [b7.2.1]; decide)
          refine ⟨wr S3 90 2 1, ?_, fun a u1 u2 _ _ _ => by rw [wr_ne u2, b2 a u1 u2], fun k hk => by rw [rd_wr_ne (by decide), b3 k (by omega) (by omega)], by rw [rd_wr_ne (by decide)]; exact b4, by rw [wr_ne (by decide)]; exact b6, by rw [wr_ne (by decide)]; exact b7.1, by rw [wr_ne (by decide), b2 97 (by decide) (by decide)]; exact l97, by rw [wr_ne (by decide), b2 98 (by decide) (by decide)]; exact l98, fun c => absurd ⟨rfl, hE⟩ c, fun _ _ => ⟨by rw [rd_wr_ne (by decide)]; exact b5, h2⟩, fun _ c => absurd c hfew⟩
          rw [d236_e (n := 9999) (Or.inl (by decide))]
          unfold dEnd
          rw [if_neg (by rw [h2]; decide)]
          exact l355_r (n := 9999) (Or.inl (by decide))
      · obtain ⟨k162, w1⟩ := refd (b_del_l75 n') 9999 es.length S3 hlen q2 hr k112
        rw [w1]
        obtain ⟨T2, z1, z2, z3, z4, z5, z6, z7, z8, z9⟩ := refe (b_del_l75 n') k112 k162 es.length S3 hlen q2 hr
        have no : ¬ okE es := fun c => hno (fun x hx => (c x hx).2)
        exact ⟨T2, z1, z2, z3, z4, z5, z6, z7, z8, fun _ => z9, fun c => absurd c.2 no, fun c => absurd c.2 no⟩
    · have h112 : ∃ k112, b_del_l112 (b_del_l75 n') 10000 S2 (Int32.ofNat n0) (Int32.ofNat n1) (82 + n2) (Int32.ofNat es.length) 0 = b_del_l162 (b_del_l75 n') k112 10000 S2 (Int32.ofNat n0) (Int32.ofNat n1) (82 + n2) (Int32.ofNat es.length) 0 0 := by
        exact ⟨b_del_l112 (b_del_l75 n') 9999, l112_r (n := 9999) (Or.inr (fun e => hr (by rw [e]; decide)))⟩
      obtain ⟨k112, q1⟩ := h112
      rw [q1]
      obtain ⟨k162, w1⟩ := refd (b_del_l75 n') 9999 es.length S2 hlen j2 hr k112
      rw [w1]
      obtain ⟨T2, z1, z2, z3, z4, z5, z6, z7, z8, z9⟩ := refe (b_del_l75 n') k112 k162 es.length S2 hlen j2 hr
      have no : ¬ okE es := fun c => hno ⟨b5, fun x hx => (c x hx).1⟩
      exact ⟨T2, z1, z2, z3, z4, z5, z6, z7, z8, fun _ => z9, fun c => absurd c.2 no, fun c => absurd c.2 no⟩
  · obtain ⟨S2, q1, q2, q3⟩ := rfS_ref (v := 1) b6 (Or.inl b5) (by decide)
    rw [if_neg (kne5 k6 e5), q1, o_bind]
    have h75 : b_del_l75 10000 S2 (Int32.ofNat n0) (Int32.ofNat n1) (82 + n2) 0 0 = b_del_l162 (b_del_l75 9999) (b_del_l112 (b_del_l75 9999) 9999) 10000 S2 (Int32.ofNat n0) (Int32.ofNat n1) (82 + n2) (Int32.ofNat 0) 0 0 := (l75_0 (n := 9999) (by decide)).trans (l112_r (n := 9999) (Or.inl (by decide)))
    rw [h75]
    obtain ⟨k162, w1⟩ := refd (b_del_l75 9999) 9999 0 S2 (by omega) q2 q3 (b_del_l112 (b_del_l75 9999) 9999)
    rw [w1]
    obtain ⟨T2, z1, z2, z3, z4, z5, z6, z7, z8, z9⟩ := refe (b_del_l75 9999) (b_del_l112 (b_del_l75 9999) 9999) k162 0 S2 (by omega) q2 q3
    exact ⟨T2, z1, z2, z3, z4, z5, z6, z7, z8, fun _ => z9, fun c => absurd c.1 e5, fun c => absurd c.1 e5⟩
end Del178
