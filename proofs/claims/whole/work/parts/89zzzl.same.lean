/-! The call same. -/
section Same153
theorem Inv.order {S S' : SS} (h : Inv S) (hf : frCp S S' 0) : Inv S' := by
  obtain ⟨i1, i2, ⟨tape, i3⟩, ⟨res, i4⟩, ts, dr, ra, i5⟩ := h
  obtain ⟨f1, f2, f3, f4, f5⟩ := hf
  have e : ∀ a k, a ≠ 47 → a ≠ 48 → rd S' a k = rd S a k := fun a k n1 n2 => by unfold rd; rw [f1 a n1 n2]
  obtain ⟨a1, a2, a3, a4, a5, a6, a7, a8, a9, a10, a11, a12, a13, a14⟩ := i1
  have nn : ∀ a ∈ nine, a ≠ 47 ∧ a ≠ 48 := by decide
  refine ⟨⟨f3, f4, ?_⟩, ⟨by rw [e 78 3 (by decide) (by decide), e 41 10 (by decide) (by decide)]; exact i2.1, by rw [e 78 4 (by decide) (by decide), e 41 11 (by decide) (by decide)]; exact i2.2⟩, ⟨tape, i3.move (f1 42 (by decide) (by decide)) (f1 79 (by decide) (by decide)) (e 78 1 (by decide) (by decide))⟩, ⟨res, i4.move (f1 44 (by decide) (by decide)) (f1 92 (by decide) (by decide))⟩, ts, dr, ra, i5.move (f1 46 (by decide) (by decide)) (e 41 9 (by decide) (by decide)) (fun a ha => f1 a (nn a ha).1 (nn a ha).2) (fun r hr => f1 _ (by omega) (by omega))⟩
  rw [f1 71 (by decide) (by decide), f1 74 (by decide) (by decide), f1 76 (by decide) (by decide), f1 77 (by decide) (by decide), f1 80 (by decide) (by decide), f1 91 (by decide) (by decide), f1 97 (by decide) (by decide), f1 98 (by decide) (by decide), f1 99 (by decide) (by decide), f1 100 (by decide) (by decide), f1 39 (by decide) (by decide), f1 40 (by decide) (by decide)]
  exact ⟨a3, a4, a5, a6, a7, a8, a9, a10, a11, a12, a13, a14⟩
theorem op8 : stp8 Inv := by
  intro S p0 p1 hc hI
  obtain ⟨l78, l41, l90, l96, l67, l68, l69, l70, l72, l73, l75, l47⟩ := cs.l78 hc
  obtain ⟨i1, i2, -, -, ts, dr, ra, i5⟩ := id hI
  obtain ⟨g1, g2, g3, g4, g5⟩ := id i5
  have bad : h_same S p0 p1 = some (S, 1) → b_same S p0 p1 = some (wr S 78 0 1, 0) → ∃ (c : SS × Int32) (w : SS × Int32), h_same S p0 p1 = some c ∧ c.1 0 = S 0 ∧ b_same c.1 p0 p1 = some w ∧ rd w.1 78 0 = c.2 ∧ (c.2 = 0 → lg (w.1 101) = if w.2 = 0 then 0 else 1) ∧ w.1 0 = S 0 ∧ Inv w.1 := fun e1 e2 =>
    ⟨(S, 1), (wr S 78 0 1, 0), e1, rfl, e2, rd_wr (by rw [l78]; decide), fun e => absurd e (show ¬ (1 : Int32) = 0 by decide), (show wr S 78 0 1 0 = S 0 from wr_ne (by decide)), note1 hI⟩
  have w1 : ¬ rd (wr S 78 0 1) 78 0 = 0 := by rw [rd_wr (by rw [l78]; decide)]; decide
  by_cases hp : ¬ p0 < 0 ∧ p0 < 8
  rotate_left
  · obtain ⟨a1, a2⟩ := reg_bad S hp
    apply bad
    · unfold h_same a_same
      rw [a1, o_bind, if_neg (show ¬ (2 : Nat) = 0 by decide), o_bind, if_neg (show ¬ (2 : Nat) = 0 by decide), if_pos rfl]
    · unfold b_same
      rw [a2, o_bind, if_neg (by decide), if_neg w1]
  obtain ⟨a1, a2, n, hn, rfl⟩ := reg_ok S hp
  by_cases hp' : ¬ p1 < 0 ∧ p1 < 8
  rotate_left
  · obtain ⟨b1, b2⟩ := reg_bad S hp'
    apply bad
    · unfold h_same a_same
      rw [a1, o_bind, if_pos rfl, b1, o_bind, if_neg (show ¬ (2 : Nat) = 0 by decide), o_bind, if_neg (show ¬ (2 : Nat) = 0 by decide), if_pos rfl]
    · unfold b_same
      rw [a2, o_bind, if_pos rfl, b2, o_bind, if_neg (by decide), if_neg w1]
  obtain ⟨b1, b2, n', hn', rfl⟩ := reg_ok S hp'
  have hm := nine_lt _ (ra_mem g3 g2 hn)
  have hm' := nine_lt _ (ra_mem g3 g2 hn')
  obtain ⟨e46, e46'⟩ := get46 g1 g2 hn hm.1
  obtain ⟨f46, f46'⟩ := get46 g1 g2 hn' hm'.1
  obtain ⟨e81, e81'⟩ := get81 n hn
  obtain ⟨f81, f81'⟩ := get81 n' hn'
  obtain ⟨v1, c1⟩ := reg_vat (g5 n hn)
  obtain ⟨v2, c2⟩ := reg_vat (g5 n' hn')
  obtain ⟨r1, r2, r3, r4, -⟩ := g5 n hn
  obtain ⟨r1', r2', r3', r4', -⟩ := g5 n' hn'
  have nt : ∀ a ∈ nine, nCp a := by unfold nCp; decide
  obtain ⟨S', e, j1, j2, j3⟩ := ocmp_val 61 100 (by decide) S (ra.getD n 0) (ra.getD n' 0) 0 0 0 0 _ _ (ts n) (ts n') (nt _ (ra_mem g3 g2 hn)) (nt _ (ra_mem g3 g2 hn')) ⟨rfl, rfl, l47, i1.1, i1.2.1⟩ v1 v2 (by omega) (by omega) (by omega)
  have eA : a_same S (Int32.ofNat n) (Int32.ofNat n') = if e = 0 then some (S', 0, 1) else some (S', 0, 0) := by
    unfold a_same
    rw [a1, o_bind, if_pos rfl, b1, o_bind, if_pos rfl, e46, o_bind, f46, o_bind, e46', f46', show (0 : Int32) = Int32.ofNat 0 from rfl, j1, o_bind]
  have hI' := hI.order j3
  have key : ∀ y : Int64, ∀ w : Int32, h_same S (Int32.ofNat n) (Int32.ofNat n') = some (up S' 101 (lgE y), 0) → (y = if w = 0 then 0 else 1) → b_same (up S' 101 (lgE y)) (Int32.ofNat n) (Int32.ofNat n') = some (wr (up S' 101 (lgE y)) 78 0 0, w) → ∃ (c : SS × Int32) (w : SS × Int32), h_same S (Int32.ofNat n) (Int32.ofNat n') = some c ∧ c.1 0 = S 0 ∧ b_same c.1 (Int32.ofNat n) (Int32.ofNat n') = some w ∧ rd w.1 78 0 = c.2 ∧ (c.2 = 0 → lg (w.1 101) = if w.2 = 0 then 0 else 1) ∧ w.1 0 = S 0 ∧ Inv w.1 := by
    intro y w h1 h2 h3
    refine ⟨_, _, h1, ?_, h3, ?_, fun _ => ?_, ?_, note0 hI'⟩
    · show up S' 101 (lgE y) 0 = S 0
      rw [up_ne (by decide), j3.1 0 (by decide) (by decide)]
    · rw [rd_wr]; rw [up_ne (by decide), j3.1 78 (by decide) (by decide), l78]; decide
    · show lg (wr (up S' 101 (lgE y)) 78 0 0 101) = _
      rw [wr_ne (by decide), up_same, lg_E, h2]
    · show wr (up S' 101 (lgE y)) 78 0 0 0 = S 0
      rw [wr_ne (by decide), up_ne (by decide), j3.1 0 (by decide) (by decide)]
  obtain ⟨e', k1, k2⟩ := rcmp_val 61 70 (by decide) _ _ 0 0 (ts n) (ts n') c1 c2 (by omega)
  have eB : ∀ y, b_same (up S' 101 y) (Int32.ofNat n) (Int32.ofNat n') = some (wr (up S' 101 y) 78 0 0, if e' = 0 then 1 else 0) := by
    intro y
    have w0 : rd (wr (up S' 101 y) 78 0 0) 78 0 = 0 := by rw [rd_wr]; rw [up_ne (by decide), j3.1 78 (by decide) (by decide), l78]; decide
    have s82 : ∀ k, k < 8 → wr (up S' 101 y) 78 0 0 (82 + k) = S (82 + k) := fun k hk => by rw [wr_ne (by omega), up_ne (by omega), j3.1 _ (by omega) (by omega)]
    unfold b_same
    rw [(reg_ok _ hp).2.1, o_bind, if_pos rfl, (reg_ok _ hp').2.1, o_bind, if_pos rfl, if_pos w0, e81, o_bind, f81, o_bind, e81', f81']
    unfold b_same2
    rw [s82 n hn, s82 n' hn', show (0 : Int32) = Int32.ofNat 0 from rfl, k1, o_bind]
    by_cases he : e' = Int32.ofNat 0
    · rw [if_pos he, o_bind, if_neg (by decide), if_pos he]
    · rw [if_neg he, o_bind, if_pos rfl, if_neg he]
  have hee : e = 0 ↔ e' = 0 := by rw [j2, k2]
  by_cases he : e = 0
  · rw [if_pos he] at eA
    refine key 1 1 ?_ (by decide) ?_
    · unfold h_same
      rw [eA, o_bind, if_pos rfl, if_neg (show ¬ (1 : Int32) = 0 by decide)]
    · rw [eB, if_pos (hee.mp he)]
  · rw [if_neg he] at eA
    refine key 0 0 ?_ (by decide) ?_
    · unfold h_same
      rw [eA, o_bind, if_pos rfl, if_pos rfl]
    · rw [eB, if_neg (fun c => he (hee.mpr c))]
end Same153
