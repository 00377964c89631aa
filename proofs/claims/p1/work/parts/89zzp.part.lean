/-! A step that takes a part, by the class. -/
section Part131
def stS : List Int32 := [115, 116, 97, 114, 116]
def enS : List Int32 := [101, 110, 100]
theorem k9_ : k9 = pstr stS ∧ k11 = pstr enS ∧ okS stS ∧ okS enS ∧ (∀ u ∈ k9, u ≠ -1) ∧ (∀ u ∈ k11, u ≠ -1) ∧ k9.length ≤ 100 ∧ k11.length ≤ 100 := by
  refine ⟨by decide, by decide, ?_, ?_, by decide, by decide, by decide, by decide⟩
  · unfold okS; decide
  · unfold okS; decide
/-- a bound found -/
theorem bd_find {us bs : List Int32} {q : Nat} {pi : Vl} {s' : List Int32} (h : vat us q pi) (h6 : pi.1 = 6) (hs : okS s') (hbs : bs = pstr s') (hb : bs.length ≤ 100) (h3 : ∀ u ∈ bs, u ≠ -1) : ∃ x y, t_itemBy us bs (Int32.ofNat q) = some x ∧ t_valueOf us x = some y ∧ bdT us y (byN pi s') := by
  have h' := h
  rw [vl6 h6] at h'
  obtain ⟨b1, b2⟩ := h'.bound hs hbs hb h3
  by_cases hj : (toL pi.2.2.2).findIdx (fun m => m.1 == s') < (toL pi.2.2.2).length
  · obtain ⟨a, b, n1, n2, n3⟩ := b1 hj
    refine ⟨_, _, n1, n2, ?_⟩
    unfold byN
    rw [dif_pos hj]
    exact ⟨b, rfl, n3⟩
  · refine ⟨-1, -1, b2 hj, by unfold t_valueOf; rw [if_pos rfl], ?_⟩
    unfold byN
    rw [dif_neg hj]
    rfl
/-- the window narrowed -/
def nwA (pi : Vl) (a b : Nat) : Nat := a + lim (byN pi stS) (b - a) 0
def nwB (pi : Vl) (a b : Nat) : Nat := a + max (lim (byN pi stS) (b - a) 0) (lim (byN pi enS) (b - a) (b - a))
theorem narrow_val {S : SS} {t0 a b : Nat} {T pl it y3 y7 : Int32} {pi : Vl} (h : S 67 = [T, pl, it, 1, Int32.ofNat a, Int32.ofNat b]) (ha : a ≤ b) (hb : b ≤ 9000) (h3 : bdT (tT S t0) y3 (byN pi stS)) (h7 : bdT (tT S t0) y7 (byN pi enS)) (o3 : okD (byN pi stS)) (o7 : okD (byN pi enS)) : ((p_bound S t0 y3 ((rd S 67 5) - (rd S 67 4)) 0).bind fun r33 => ((p_bound S t0 y7 ((rd S 67 5) - (rd S 67 4)) ((rd S 67 5) - (rd S 67 4))).bind fun r35 => some (wr (wr S 67 5 ((rd S 67 4) + (imax r33 r35))) 67 4 ((rd (wr S 67 5 ((rd S 67 4) + (imax r33 r35))) 67 4) + r33), (0 : Int32)))) = some (up S 67 [T, pl, it, 1, Int32.ofNat (nwA pi a b), Int32.ofNat (nwB pi a b)], 0) := by
  have e5 : rd S 67 5 - rd S 67 4 = Int32.ofNat (b - a) := by
    unfold rd
    rw [h]
    show Int32.ofNat b - Int32.ofNat a = _
    apply Int32.toInt_inj.mp
    have a1 : (Int32.ofNat a).toInt = a := i_of (by omega)
    have a2 : (Int32.ofNat b).toInt = b := i_of (by omega)
    rw [i_sub (by omega) (by omega), a1, a2, i_of (by omega)]
    omega
  have e4 : rd S 67 4 = Int32.ofNat a := by unfold rd; rw [h]; rfl
  have l1 := lim_le (o := byN pi stS) (n := b - a) (d := 0) (by omega)
  have l2 := lim_le (o := byN pi enS) (n := b - a) (d := b - a) (by omega)
  have im : imax (Int32.ofNat (lim (byN pi stS) (b - a) 0)) (Int32.ofNat (lim (byN pi enS) (b - a) (b - a))) = Int32.ofNat (max (lim (byN pi stS) (b - a) 0) (lim (byN pi enS) (b - a) (b - a))) := by
    apply i_ofnn
    · rw [i_max, i_of (by omega), i_of (by omega)]; omega
    · omega
  rw [e5, e4, show (0 : Int32) = Int32.ofNat 0 from rfl, bd_bound h3 o3 (by omega), o_bind, bd_bound h7 o7 (by omega), o_bind, im, ← Int32.ofNat_add, wr_eq h]
  have e6 : rd (up S 67 ([T, pl, it, 1, Int32.ofNat a, Int32.ofNat b].set 5 (Int32.ofNat (nwB pi a b)))) 67 4 = Int32.ofNat a := by unfold rd; rw [up_same]; rfl
  show some (wr (up S 67 ([T, pl, it, 1, Int32.ofNat a, Int32.ofNat b].set 5 (Int32.ofNat (nwB pi a b)))) 67 4 (rd (up S 67 ([T, pl, it, 1, Int32.ofNat a, Int32.ofNat b].set 5 (Int32.ofNat (nwB pi a b)))) 67 4 + Int32.ofNat (lim (byN pi stS) (b - a) 0)), Int32.ofNat 0) = _
  rw [e6, ← Int32.ofNat_add, wr_up]
  rfl
theorem nw_ok (pi : Vl) {a b : Nat} (h : a ≤ b) : nwA pi a b ≤ nwB pi a b ∧ nwB pi a b ≤ b := by
  have l1 := lim_le (o := byN pi stS) (n := b - a) (d := 0) (by omega)
  have l2 := lim_le (o := byN pi enS) (n := b - a) (d := b - a) (by omega)
  unfold nwA nwB
  omega
theorem vl4 {v : Vl} (h : v.1 = 4) : v = (4, v.2.1, v.2.2.1, v.2.2.2) := by
  obtain ⟨k, x, s, f⟩ := v
  simp only at h
  rw [h]
/-- may a part be taken of it? -/
def okW (t pi : Vl) : Prop := (t.1 = 4 ∨ t.1 = 5) ∧ okD (byN pi stS) ∧ okD (byN pi enS)
def winE (t : Vl) (w : Option (Nat × Nat)) : Nat := winA t w + winN t w
theorem byPart_val {S : SS} {ta t1 q2 : Nat} {t pi : Vl} {w : Option (Nat × Nat)} (hta : ta < 1000 ∧ ta ≠ 67) (ht1 : t1 ≠ 67) (h : spC S ta t w) (hp : vat (tT S t1) q2 pi) (h6 : pi.1 = 6) : (okW t pi → ∃ S', p_byPart S t1 (Int32.ofNat q2) = some (S', 0) ∧ fr67 S S' ∧ spC S' ta t (some (nwA pi (winA t w) (winE t w), nwB pi (winA t w) (winE t w)))) ∧ (¬ okW t pi → p_byPart S t1 (Int32.ofNat q2) = some (S, 1)) := by
  have hk := h.kind hta.1
  obtain ⟨q, it, lo, hi, h1, h2, h3, h4⟩ := h
  have k6 := h2.2.2.1.1
  obtain ⟨g1, g2, g3, g4, g5, g6, g7, g8⟩ := k9_
  obtain ⟨x3, y3, f1, f2, f3⟩ := bd_find hp h6 g3 g1 g7 g5
  obtain ⟨x7, y7, f5, f6, f7⟩ := bd_find hp h6 g4 g2 g8 g6
  have e0 : (rd S 67 0).toNatClampNeg = ta := by unfold rd; rw [h1]; exact i_cl (by omega)
  have e3 : rd S 67 3 = if w.isSome then 1 else 0 := by unfold rd; rw [h1]; rfl
  have lt := h2.lt
  have l4 := h2.1
  have fr : ∀ L, fr67 S (up S 67 L) := fun L a ha => up_ne ha
  have tt : ∀ L a, a ≠ 67 → tT (up S 67 L) a = tT S a := fun L a ha => by unfold tT; rw [up_ne ha]
  have szb : size t ≤ 4096 ∨ ¬ (t.1 = 4 ∨ t.1 = 5) := by
    by_cases e4 : t.1 = 4
    · left
      unfold size
      rw [if_pos e4]
      have h2' := h2
      rw [vl4 e4] at h2'
      obtain ⟨-, -, w0, r, d1, -⟩ := h2'
      have := drop_len d1 (bV_ne _)
      have f := flat_len w0.2.2.1
      have e : (bV (4, t.2.1, t.2.2.1, t.2.2.2)).length = (t.2.2.1.flatMap esc).length + 2 := by
        show (pstr t.2.2.1).length = _
        simp [pstr]
      simp only at f
      omega
    · by_cases e5 : t.1 = 5
      · left
        unfold size
        rw [if_neg e4]
        have h2' := h2
        rw [vl5 e5] at h2'
        have := (h2'.items (Or.inl rfl)).2
        omega
      · right; intro e; exact e.elim e4 e5
  unfold p_byPart
  rw [f1, o_bind, f2, o_bind, f5, o_bind, f6, o_bind, hk, o_bind]
  obtain ⟨ib3, ib3'⟩ := bd_isBound f3
  obtain ⟨ib7, ib7'⟩ := bd_isBound f7
  -- once a window is there
  have rest : ∀ (L : SS) (a b : Nat), L 67 = [Int32.ofNat ta, Int32.ofNat q, it, 1, Int32.ofNat a, Int32.ofNat b] → fr67 S L → a ≤ b → b ≤ size t → (t.1 = 4 ∨ t.1 = 5) → a = winA t w → b = winE t w → okD (byN pi stS) → okD (byN pi enS) → ∃ S', ((p_bound L t1 y3 ((rd L 67 5) - (rd L 67 4)) 0).bind fun r33 => ((p_bound L t1 y7 ((rd L 67 5) - (rd L 67 4)) ((rd L 67 5) - (rd L 67 4))).bind fun r35 => some (wr (wr L 67 5 ((rd L 67 4) + (imax r33 r35))) 67 4 ((rd (wr L 67 5 ((rd L 67 4) + (imax r33 r35))) 67 4) + r33), (0 : Int32)))) = some (S', 0) ∧ fr67 S S' ∧ spC S' ta t (some (nwA pi (winA t w) (winE t w), nwB pi (winA t w) (winE t w))) := by
    intro L a b hL fL hab hbs hkk ea eb o3 o7
    have hT : tT L t1 = tT S t1 := by unfold tT; rw [fL t1 ht1]
    have hTa : tT L ta = tT S ta := by unfold tT; rw [fL ta hta.2]
    have hb9 : b ≤ 9000 := by rcases szb with z | z; omega; exact absurd hkk z
    refine ⟨_, narrow_val hL hab hb9 (by rw [hT]; exact f3) (by rw [hT]; exact f7) o3 o7, fun x hx => by rw [up_ne hx, fL x hx], q, it, _, _, up_same, ?_, ?_, ?_⟩
    · have : tT (up L 67 [Int32.ofNat ta, Int32.ofNat q, it, 1, Int32.ofNat (nwA pi a b), Int32.ofNat (nwB pi a b)]) ta = tT S ta := by unfold tT; rw [up_ne hta.2]; exact hTa
      rw [this]; exact h2
    · intro x y e
      cases e
      rw [← ea, ← eb]
      have := nw_ok pi hab
      exact ⟨this.1, by omega, hkk⟩
    · intro x y e
      cases e
      rw [← ea, ← eb]
      exact ⟨rfl, rfl⟩
  have conds : ∀ (X : Option (SS × Int32)), (okW t pi → (t.1 = 4 ∨ t.1 = 5) → ∃ S', X = some (S', 0) ∧ fr67 S S' ∧ spC S' ta t (some (nwA pi (winA t w) (winE t w), nwB pi (winA t w) (winE t w)))) → (t.1 = 4 ∨ t.1 = 5) → (okW t pi → ∃ S', ((p_isBound S t1 y3).bind fun r40 => (if r40 = 0 then some (S, (1 : Int32)) else ((p_isBound S t1 y7).bind fun r43 => (if r43 = 0 then some (S, 1) else X)))) = some (S', 0) ∧ fr67 S S' ∧ spC S' ta t (some (nwA pi (winA t w) (winE t w), nwB pi (winA t w) (winE t w)))) ∧ (¬ okW t pi → ((p_isBound S t1 y3).bind fun r40 => (if r40 = 0 then some (S, (1 : Int32)) else ((p_isBound S t1 y7).bind fun r43 => (if r43 = 0 then some (S, 1) else X)))) = some (S, 1)) := by
    intro X hX hkk
    refine ⟨fun ok => ?_, fun nok => ?_⟩
    · rw [ib3 ok.2.1, o_bind, if_neg (by decide), ib7 ok.2.2, o_bind, if_neg (by decide)]
      exact hX ok hkk
    · by_cases o3 : okD (byN pi stS)
      · rw [ib3 o3, o_bind, if_neg (by decide)]
        have o7 : ¬ okD (byN pi enS) := fun e => nok ⟨hkk, o3, e⟩
        rw [ib7' o7, o_bind, if_pos rfl]
      · rw [ib3' o3, o_bind, if_pos rfl]
  have hS1 : wr (wr S 67 3 1) 67 4 0 = up S 67 [Int32.ofNat ta, Int32.ofNat q, it, 1, 0, hi] := by rw [wr_eq h1, wr_up]; rfl
  have hS2 : ∀ r, wr (up S 67 [Int32.ofNat ta, Int32.ofNat q, it, 1, 0, hi]) 67 5 r = up S 67 [Int32.ofNat ta, Int32.ofNat q, it, 1, 0, r] := fun r => by rw [wr_up]; rfl
  have hS3 : (rd (up S 67 [Int32.ofNat ta, Int32.ofNat q, it, 1, 0, hi]) 67 0).toNatClampNeg = ta := by unfold rd; rw [up_same]; exact i_cl (by omega)
  have hS4 : rd (up S 67 [Int32.ofNat ta, Int32.ofNat q, it, 1, 0, hi]) 67 1 = Int32.ofNat q := by unfold rd; rw [up_same]; rfl
  have hS5 : tT (up S 67 [Int32.ofNat ta, Int32.ofNat q, it, 1, 0, hi]) ta = tT S ta := tt _ _ hta.2
  by_cases e4 : t.1 = 4
  · rw [e4, if_pos (by decide), if_neg (by decide)]
    refine conds _ (fun ok hkk => ?_) (Or.inl e4)
    rw [e3, hS1, hS3, hS4, hS5]
    cases w with
    | none =>
      have h2' := h2
      rw [vl4 e4] at h2'
      obtain ⟨-, -, w0, r, d1, -⟩ := h2'
      have hc := chars_val (r := r) l4 w0.2.2.1 d1
      have hc : t_chars (tT S ta) (Int32.ofNat q) = some (Int32.ofNat (size t)) := by rw [hc]; unfold size; rw [if_pos e4]
      rw [if_pos (show (if (none : Option (Nat × Nat)).isSome = true then (1 : Int32) else 0) = 0 from rfl), hc, o_bind, hS2]
      exact rest _ 0 (size t) up_same (fr _) (by omega) (Nat.le_refl _) hkk rfl (show size t = 0 + size t by omega) ok.2.1 ok.2.2
    | some ab =>
      obtain ⟨a, b⟩ := ab
      obtain ⟨w1, w2, -⟩ := h3 a b rfl
      obtain ⟨x1, x2⟩ := h4 a b rfl
      rw [if_neg (show ¬ (if (some (a, b) : Option (Nat × Nat)).isSome = true then (1 : Int32) else 0) = 0 from fun e => absurd e (show ¬ (1 : Int32) = 0 by decide))]
      exact rest S a b (by rw [h1, x1, x2]; rfl) (fun _ _ => rfl) w1 w2 hkk rfl (by unfold winE winA winN; simp only; omega) ok.2.1 ok.2.2
  · rw [if_neg (by rw [show (4 : Int32) = Int32.ofNat 4 from rfl, i_inj (by omega) (by omega)]; exact e4)]
    by_cases e5 : t.1 = 5
    · rw [e5, if_pos (by decide)]
      refine conds _ (fun ok hkk => ?_) (Or.inr e5)
      rw [e3, hS1, hS3, hS4, hS5]
      cases w with
      | none =>
        have h2' := h2
        rw [vl5 e5] at h2'
        have hc := (h2'.items (Or.inl rfl)).1
        have hc : t_items (tT S ta) (Int32.ofNat q) = some (Int32.ofNat (size t)) := by rw [hc]; unfold size; rw [if_neg e4]
        rw [if_pos (show (if (none : Option (Nat × Nat)).isSome = true then (1 : Int32) else 0) = 0 from rfl), hc, o_bind, hS2]
        exact rest _ 0 (size t) up_same (fr _) (by omega) (Nat.le_refl _) hkk rfl (show size t = 0 + size t by omega) ok.2.1 ok.2.2
      | some ab =>
        obtain ⟨a, b⟩ := ab
        obtain ⟨w1, w2, -⟩ := h3 a b rfl
        obtain ⟨x1, x2⟩ := h4 a b rfl
        rw [if_neg (show ¬ (if (some (a, b) : Option (Nat × Nat)).isSome = true then (1 : Int32) else 0) = 0 from fun e => absurd e (show ¬ (1 : Int32) = 0 by decide))]
        exact rest S a b (by rw [h1, x1, x2]; rfl) (fun _ _ => rfl) w1 w2 hkk rfl (by unfold winE winA winN; simp only; omega) ok.2.1 ok.2.2
    · rw [if_neg (by rw [show (5 : Int32) = Int32.ofNat 5 from rfl, i_inj (by omega) (by omega)]; exact e5)]
      exact ⟨fun ok => absurd ok.1 (fun e => e.elim e4 e5), fun _ => rfl⟩
end Part131
