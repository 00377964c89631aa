/-! The class's steps, with the places where they lead. -/
section SpotQ154
/-- the spot, with its place and the place of its item -/
def spQ (S : SS) (ta q : Nat) (it : Int32) (t : Vl) (w : Option (Nat × Nat)) : Prop := ∃ (lo hi : Int32), S 67 = [Int32.ofNat ta, Int32.ofNat q, it, (if w.isSome then 1 else 0), lo, hi] ∧ vat (tT S ta) q t ∧ winO t w ∧ ∀ a b, w = some (a, b) → lo = Int32.ofNat a ∧ hi = Int32.ofNat b
theorem spQ.c {S : SS} {ta q : Nat} {it : Int32} {t : Vl} {w : Option (Nat × Nat)} (h : spQ S ta q it t w) : spC S ta t w := by
  obtain ⟨lo, hi, h⟩ := h
  exact ⟨q, it, lo, hi, h⟩
theorem spQ.move {S S' : SS} {ta q : Nat} {it : Int32} {t : Vl} {w : Option (Nat × Nat)} (h : spQ S ta q it t w) (h1 : S' 67 = S 67) (h2 : S' ta = S ta) : spQ S' ta q it t w := by
  unfold spQ tT
  rw [h1, h2]
  exact h
/-- a name of an object -/
theorem nameQ {S : SS} {ta t1 q q2 : Nat} {it : Int32} {v : Int} {s0 : List Int32} {l : List Mb} {w : Option (Nat × Nat)} {s r' : List Int32} (hta : ta < 1000 ∧ ta ≠ 67) (h : spQ S ta q it (6, v, s0, ofL l) w) (hl : (tT S t1).length ≤ 4096) (hs : okS s) (hp : (tT S t1).drop q2 = pstr s ++ r') : (∀ (hj : l.findIdx (fun m => m.1 == s) < l.length), ∃ S', p_byName S t1 (Int32.ofNat q2) = some (S', 0) ∧ fr67 S S' ∧ spQ S' ta (ip true (q + 1) l (l.findIdx (fun m => m.1 == s)) + (pstr (l[l.findIdx (fun m => m.1 == s)]).1).length + 1) (Int32.ofNat (ip true (q + 1) l (l.findIdx (fun m => m.1 == s)))) (l[l.findIdx (fun m => m.1 == s)]).2 none) ∧ (¬ l.findIdx (fun m => m.1 == s) < l.length → ∃ S', p_byName S t1 (Int32.ofNat q2) = some (S', 0) ∧ fr67 S S' ∧ spN S' ta) := by
  have hk := h.c.kind hta.1
  obtain ⟨lo, hi, h1, h2, h3, h4⟩ := h
  unfold p_byName
  rw [hk, o_bind]
  have e0 : (rd S 67 0).toNatClampNeg = ta := by unfold rd; rw [h1]; exact i_cl (by omega)
  have e1 : rd S 67 1 = Int32.ofNat q := by unfold rd; rw [h1]; rfl
  rw [show Int32.ofNat ((6, v, s0, ofL l) : Vl).1 = 6 from rfl, if_pos rfl, e0, e1]
  have fr : ∀ L, fr67 S (up S 67 L) := fun L a ha => up_ne ha
  have tt : ∀ L, tT (up S 67 L) ta = tT S ta := fun L => by unfold tT; rw [up_ne hta.2]
  obtain ⟨u1, u2, u3, r, u4, u5⟩ := id h2
  have hn := named_val u1 u2 hl u3.kids hs hp u4
  refine ⟨fun hj => ?_, fun hj => ?_⟩
  · rw [if_pos hj] at hn
    obtain ⟨i1, ⟨z, r, hz, i2⟩, i3⟩ := h2.item (Or.inr rfl) hj
    have e : (6 == 6) = true := rfl
    rw [e] at i2 i3
    rw [List.drop_eq_getElem_cons hj] at i2
    obtain ⟨m1, m2⟩ := (mem_at u1 u2 (u3.kids _ (List.getElem_mem hj)) hz i2).2 rfl
    rw [hn, o_bind, m1, o_bind, move_val h1, o_bind]
    exact ⟨_, rfl, fr _, lo, hi, up_same, by rw [tt]; exact m2, (fun _ _ e => by cases e), (fun _ _ e => by cases e)⟩
  · rw [if_neg hj] at hn
    have ev : t_valueOf (tT S ta) (-1) = some (-1) := by unfold t_valueOf; rw [if_pos rfl]
    rw [hn, o_bind, ev, o_bind, move_val h1, o_bind]
    exact ⟨_, rfl, fr _, -1, lo, hi, up_same⟩
/-- a place told from the start or from the end -/
def atX (k : Int) (n : Nat) : Int := if k < 0 then k + n else k
/-- where a place of an array leads: nothing, or the element -/
def spPX (S : SS) (ta q : Nat) (t : Vl) (A n : Nat) (x : Int) : Prop :=
  if 0 ≤ x ∧ x < (n : Int) then ∃ hj : A + x.toNat < (toL t.2.2.2).length, spQ S ta (ip false (q + 1) (toL t.2.2.2) (A + x.toNat)) (Int32.ofNat (ip false (q + 1) (toL t.2.2.2) (A + x.toNat))) ((toL t.2.2.2)[A + x.toNat]).2 none else spN S ta
theorem spPX_in {S : SS} {ta q : Nat} {t : Vl} {A n : Nat} {x : Int} (h : 0 ≤ x ∧ x < (n : Int)) (hj : A + x.toNat < (toL t.2.2.2).length) (hs : spQ S ta (ip false (q + 1) (toL t.2.2.2) (A + x.toNat)) (Int32.ofNat (ip false (q + 1) (toL t.2.2.2) (A + x.toNat))) ((toL t.2.2.2)[A + x.toNat]).2 none) : spPX S ta q t A n x := by
  unfold spPX
  rw [if_pos h]
  exact ⟨hj, hs⟩
theorem spPX_out {S : SS} {ta q : Nat} {t : Vl} {A n : Nat} {x : Int} (h : ¬ (0 ≤ x ∧ x < (n : Int))) (hs : spN S ta) : spPX S ta q t A n x := by
  unfold spPX
  rw [if_neg h]
  exact hs
/-- a place of an array -/
theorem placeQ {S : SS} {ta q : Nat} {it : Int32} {t : Vl} {w : Option (Nat × Nat)} {v : Int} (hta : ta < 1000 ∧ ta ≠ 67) (h : spQ S ta q it t w) (hv : -9007199254740991 ≤ v ∧ v ≤ 9007199254740991) : t.1 = 5 → ∃ S', p_byPlace S (Int64.ofInt v) = some (S', 0) ∧ fr67 S S' ∧ spPX S' ta q t (winA t w) (winN t w) (atX v (winN t w)) := by
  intro e
  have hk := h.c.kind hta.1
  obtain ⟨lo, hi, h1, h2, h3, h4⟩ := h
  have k6 := h2.2.2.1.1
  unfold p_byPlace
  rw [hk, o_bind]
  have e0 : (rd S 67 0).toNatClampNeg = ta := by unfold rd; rw [h1]; exact i_cl (by omega)
  have e1 : rd S 67 1 = Int32.ofNat q := by unfold rd; rw [h1]; rfl
  have e3 : rd S 67 3 = if w.isSome then 1 else 0 := by unfold rd; rw [h1]; rfl
  have e4 : rd S 67 4 = lo := by unfold rd; rw [h1]; rfl
  have e5 : rd S 67 5 = hi := by unfold rd; rw [h1]; rfl
  have h2' := h2
  rw [vl5 e] at h2'
  obtain ⟨it1, it2⟩ := h2'.items (Or.inl rfl)
  have hsz : size t = (toL t.2.2.2).length := by unfold size; rw [if_neg (by omega)]
  have fr : ∀ L, fr67 S (up S 67 L) := fun L a ha => up_ne ha
  have tt : ∀ L, tT (up S 67 L) ta = tT S ta := fun L => by unfold tT; rw [up_ne hta.2]
  have z0 : (0 : Int64).toInt = 0 := rfl
  rw [e, if_pos (by decide), e0, e1, e3, e4, e5]
  -- the rest, once size and base are known
  have rest : ∀ (A n : Nat) (sz ba : Int32), sz = Int32.ofNat n → ba = Int32.ofNat A → A + n ≤ (toL t.2.2.2).length → winA t w = A → winN t w = n → ∃ S', ((p_fromStart S (Int64.ofInt v) sz).bind fun r7 => (if (lg_cmp r7 0) < 0 then ((p_moveTo S (-1) (-1)).bind fun r10 => some (r10, (0 : Int32))) else (if 0 ≤ (lg_cmp r7 sz.toInt64) then ((p_moveTo S (-1) (-1)).bind fun r13 => some (r13, 0)) else ((t_item (tT S ta) (Int32.ofNat q) (ba + r7.toInt32)).bind fun r15 => ((p_moveTo S r15 r15).bind fun r17 => some (r17, 0)))))) = some (S', 0) ∧ fr67 S S' ∧ spPX S' ta q t (winA t w) (winN t w) (atX v (winN t w)) := by
    intro A n sz ba hsz' hba hAn hA hN
    have hnt : (sz.toInt64).toInt = n := by rw [hsz', l_32 n (by omega), l_of (by omega) (by omega)]
    have l1 := l_of (z := v) (by omega) (by omega)
    obtain ⟨r, hr, hrv⟩ : ∃ r, p_fromStart S (Int64.ofInt v) sz = some r ∧ r.toInt = if v < 0 then v + n else v := by
      unfold p_fromStart
      by_cases hs : v < 0
      · refine ⟨_, if_neg (by rw [lg_ge, l1, z0]; omega), ?_⟩
        rw [l_add (by rw [l1]; omega) (by rw [hnt]; omega), l1, hnt, if_pos hs]
      · exact ⟨_, if_pos ((lg_ge _ _).mpr (by rw [l1, z0]; omega)), by rw [l1, if_neg hs]⟩
    rw [hr, o_bind]
    rw [hA, hN]
    have hrv : r.toInt = atX v n := hrv
    rw [← hrv]
    by_cases c1 : r.toInt < 0
    · rw [if_pos ((lg_lt _ _).mpr (by rw [z0]; exact c1)), move_val h1, o_bind]
      exact ⟨_, rfl, fr _, spPX_out (by omega) ⟨-1, lo, hi, up_same⟩⟩
    · rw [if_neg (by rw [lg_lt, z0]; exact c1)]
      by_cases c2 : (n : Int) ≤ r.toInt
      · rw [if_pos ((lg_ge _ _).mpr (by rw [hnt]; exact c2)), move_val h1, o_bind]
        exact ⟨_, rfl, fr _, spPX_out (by omega) ⟨-1, lo, hi, up_same⟩⟩
      · have hx : r.toInt.toNat < n := by omega
        have hj : A + r.toInt.toNat < (toL t.2.2.2).length := by omega
        obtain ⟨i1, i2⟩ := h2'.elem hj
        rw [if_neg (by rw [lg_ge, hnt]; exact c2), l_to32 (n := r.toInt.toNat) (by omega) (by omega), hba, ← Int32.ofNat_add, i1, o_bind, move_val h1, o_bind]
        exact ⟨_, rfl, fr _, spPX_in (by omega) hj ⟨lo, hi, up_same, by rw [tt]; exact i2, (fun _ _ e => by cases e), (fun _ _ e => by cases e)⟩⟩
  cases w with
  | none =>
    rw [if_pos (show (if (none : Option (Nat × Nat)).isSome = true then (1 : Int32) else 0) = 0 from rfl), it1, o_bind]
    exact rest 0 (toL t.2.2.2).length _ 0 rfl rfl (by omega) rfl hsz
  | some ab =>
    obtain ⟨a, b⟩ := ab
    obtain ⟨w1, w2, -⟩ := h3 a b rfl
    obtain ⟨x1, x2⟩ := h4 a b rfl
    have es : hi - lo = Int32.ofNat (b - a) := by
      rw [x1, x2]
      apply Int32.toInt_inj.mp
      have a1 : (Int32.ofNat a).toInt = a := i_of (by omega)
      have a2 : (Int32.ofNat b).toInt = b := i_of (by omega)
      rw [i_sub (by omega) (by omega), a1, a2, i_of (by omega)]
      omega
    rw [if_neg (show ¬ (if (some (a, b) : Option (Nat × Nat)).isSome = true then (1 : Int32) else 0) = 0 from fun e => absurd e (show ¬ (1 : Int32) = 0 by decide))]
    exact rest a (b - a) _ lo es x1 (by omega) rfl rfl
/-- a part -/
theorem partQ {S : SS} {ta t1 q q2 : Nat} {it : Int32} {t pi : Vl} {w : Option (Nat × Nat)} (hta : ta < 1000 ∧ ta ≠ 67) (ht1 : t1 ≠ 67) (h : spQ S ta q it t w) (hp : vat (tT S t1) q2 pi) (h6 : pi.1 = 6) : (okW t pi → ∃ S', p_byPart S t1 (Int32.ofNat q2) = some (S', 0) ∧ fr67 S S' ∧ spQ S' ta q it t (some (nwA pi (winA t w) (winE t w), nwB pi (winA t w) (winE t w)))) ∧ (¬ okW t pi → p_byPart S t1 (Int32.ofNat q2) = some (S, 1)) := by
  have hk := h.c.kind hta.1
  obtain ⟨lo, hi, h1, h2, h3, h4⟩ := h
  have k6 := h2.2.2.1.1
  obtain ⟨g1, g2, g3, g4, g5, g6, g7, g8⟩ := k9_
  obtain ⟨x3, y3, f1, f2, f3⟩ := bd_find hp h6 g3 g1 g7 g5
  obtain ⟨x7, y7, f5, f6, f7⟩ := bd_find hp h6 g4 g2 g8 g6
  have e0 : (rd S 67 0).toNatClampNeg = ta := by unfold rd; rw [h1]; exact i_cl (by omega)
  have e3 : rd S 67 3 = if w.isSome then 1 else 0 := by unfold rd; rw [h1]; rfl
  have lt := h2.lt
  have l4 := h2.1
  have fr : ∀ L, fr67 S (up S 67 L) := fun L a ha => up_ne ha
  have tt : ∀ L a, a ≠ 67 → tT (up S 67 L) a = tT S a := fun L a ha => by unfold tT; rw [up_ne ha]
  have szb : size t ≤ 4096 ∨ ¬ (t.1 = 4 ∨ t.1 = 5) := by
    by_cases e4 : t.1 = 4
    · left
      unfold size
      rw [if_pos e4]
      have h2' := h2
      rw [vl4 e4] at h2'
      obtain ⟨-, -, w0, r, d1, -⟩ := h2'
      have := drop_len d1 (bV_ne _)
      have f := flat_len w0.2.2.1
      have e : (bV (4, t.2.1, t.2.2.1, t.2.2.2)).length = (t.2.2.1.flatMap esc).length + 2 := by
        show (pstr t.2.2.1).length = _
        simp [pstr]
      simp only at f
      omega
    · by_cases e5 : t.1 = 5
      · left
        unfold size
        rw [if_neg e4]
        have h2' := h2
        rw [vl5 e5] at h2'
        have := (h2'.items (Or.inl rfl)).2
        omega
      · right; intro e; exact e.elim e4 e5
  unfold p_byPart
  rw [f1, o_bind, f2, o_bind, f5, o_bind, f6, o_bind, hk, o_bind]
  obtain ⟨ib3, ib3'⟩ := bd_isBound f3
  obtain ⟨ib7, ib7'⟩ := bd_isBound f7
  -- once a window is there
  have rest : ∀ (L : SS) (a b : Nat), L 67 = [Int32.ofNat ta, Int32.ofNat q, it, 1, Int32.ofNat a, Int32.ofNat b] → fr67 S L → a ≤ b → b ≤ size t → (t.1 = 4 ∨ t.1 = 5) → a = winA t w → b = winE t w → okD (byN pi stS) → okD (byN pi enS) → ∃ S', ((p_bound L t1 y3 ((rd L 67 5) - (rd L 67 4)) 0).bind fun r33 => ((p_bound L t1 y7 ((rd L 67 5) - (rd L 67 4)) ((rd L 67 5) - (rd L 67 4))).bind fun r35 => some (wr (wr L 67 5 ((rd L 67 4) + (imax r33 r35))) 67 4 ((rd (wr L 67 5 ((rd L 67 4) + (imax r33 r35))) 67 4) + r33), (0 : Int32)))) = some (S', 0) ∧ fr67 S S' ∧ spQ S' ta q it t (some (nwA pi (winA t w) (winE t w), nwB pi (winA t w) (winE t w))) := by
    intro L a b hL fL hab hbs hkk ea eb o3 o7
    have hT : tT L t1 = tT S t1 := by unfold tT; rw [fL t1 ht1]
    have hTa : tT L ta = tT S ta := by unfold tT; rw [fL ta hta.2]
    have hb9 : b ≤ 9000 := by rcases szb with z | z; omega; exact absurd hkk z
    refine ⟨_, narrow_val hL hab hb9 (by rw [hT]; exact f3) (by rw [hT]; exact f7) o3 o7, fun x hx => by rw [up_ne hx, fL x hx], _, _, up_same, ?_, ?_, ?_⟩
    · have : tT (up L 67 [Int32.ofNat ta, Int32.ofNat q, it, 1, Int32.ofNat (nwA pi a b), Int32.ofNat (nwB pi a b)]) ta = tT S ta := by unfold tT; rw [up_ne hta.2]; exact hTa
      rw [this]; exact h2
    · intro x y e
      cases e
      rw [← ea, ← eb]
      have := nw_ok pi hab
      exact ⟨this.1, by omega, hkk⟩
    · intro x y e
      cases e
      rw [← ea, ← eb]
      exact ⟨rfl, rfl⟩
  have conds : ∀ (X : Option (SS × Int32)), (okW t pi → (t.1 = 4 ∨ t.1 = 5) → ∃ S', X = some (S', 0) ∧ fr67 S S' ∧ spQ S' ta q it t (some (nwA pi (winA t w) (winE t w), nwB pi (winA t w) (winE t w)))) → (t.1 = 4 ∨ t.1 = 5) → (okW t pi → ∃ S', ((p_isBound S t1 y3).bind fun r40 => (if r40 = 0 then some (S, (1 : Int32)) else ((p_isBound S t1 y7).bind fun r43 => (if r43 = 0 then some (S, 1) else X)))) = some (S', 0) ∧ fr67 S S' ∧ spQ S' ta q it t (some (nwA pi (winA t w) (winE t w), nwB pi (winA t w) (winE t w)))) ∧ (¬ okW t pi → ((p_isBound S t1 y3).bind fun r40 => (if r40 = 0 then some (S, (1 : Int32)) else ((p_isBound S t1 y7).bind fun r43 => (if r43 = 0 then some (S, 1) else X)))) = some (S, 1)) := by
    intro X hX hkk
    refine ⟨fun ok => ?_, fun nok => ?_⟩
    · rw [ib3 ok.2.1, o_bind, if_neg (by decide), ib7 ok.2.2, o_bind, if_neg (by decide)]
      exact hX ok hkk
    · by_cases o3 : okD (byN pi stS)
      · rw [ib3 o3, o_bind, if_neg (by decide)]
        have o7 : ¬ okD (byN pi enS) := fun e => nok ⟨hkk, o3, e⟩
        rw [ib7' o7, o_bind, if_pos rfl]
      · rw [ib3' o3, o_bind, if_pos rfl]
  have hS1 : wr (wr S 67 3 1) 67 4 0 = up S 67 [Int32.ofNat ta, Int32.ofNat q, it, 1, 0, hi] := by rw [wr_eq h1, wr_up]; rfl
  have hS2 : ∀ r, wr (up S 67 [Int32.ofNat ta, Int32.ofNat q, it, 1, 0, hi]) 67 5 r = up S 67 [Int32.ofNat ta, Int32.ofNat q, it, 1, 0, r] := fun r => by rw [wr_up]; rfl
  have hS3 : (rd (up S 67 [Int32.ofNat ta, Int32.ofNat q, it, 1, 0, hi]) 67 0).toNatClampNeg = ta := by unfold rd; rw [up_same]; exact i_cl (by omega)
  have hS4 : rd (up S 67 [Int32.ofNat ta, Int32.ofNat q, it, 1, 0, hi]) 67 1 = Int32.ofNat q := by unfold rd; rw [up_same]; rfl
  have hS5 : tT (up S 67 [Int32.ofNat ta, Int32.ofNat q, it, 1, 0, hi]) ta = tT S ta := tt _ _ hta.2
  by_cases e4 : t.1 = 4
  · rw [e4, if_pos (by decide), if_neg (by decide)]
    refine conds _ (fun ok hkk => ?_) (Or.inl e4)
    rw [e3, hS1, hS3, hS4, hS5]
    cases w with
    | none =>
      have h2' := h2
      rw [vl4 e4] at h2'
      obtain ⟨-, -, w0, r, d1, -⟩ := h2'
      have hc := chars_val (r := r) l4 w0.2.2.1 d1
      have hc : t_chars (tT S ta) (Int32.ofNat q) = some (Int32.ofNat (size t)) := by rw [hc]; unfold size; rw [if_pos e4]
      rw [if_pos (show (if (none : Option (Nat × Nat)).isSome = true then (1 : Int32) else 0) = 0 from rfl), hc, o_bind, hS2]
      exact rest _ 0 (size t) up_same (fr _) (by omega) (Nat.le_refl _) hkk rfl (show size t = 0 + size t by omega) ok.2.1 ok.2.2
    | some ab =>
      obtain ⟨a, b⟩ := ab
      obtain ⟨w1, w2, -⟩ := h3 a b rfl
      obtain ⟨x1, x2⟩ := h4 a b rfl
      rw [if_neg (show ¬ (if (some (a, b) : Option (Nat × Nat)).isSome = true then (1 : Int32) else 0) = 0 from fun e => absurd e (show ¬ (1 : Int32) = 0 by decide))]
      exact rest S a b (by rw [h1, x1, x2]; rfl) (fun _ _ => rfl) w1 w2 hkk rfl (by unfold winE winA winN; simp only; omega) ok.2.1 ok.2.2
  · rw [if_neg (by rw [show (4 : Int32) = Int32.ofNat 4 from rfl, i_inj (by omega) (by omega)]; exact e4)]
    by_cases e5 : t.1 = 5
    · rw [e5, if_pos (by decide)]
      refine conds _ (fun ok hkk => ?_) (Or.inr e5)
      rw [e3, hS1, hS3, hS4, hS5]
      cases w with
      | none =>
        have h2' := h2
        rw [vl5 e5] at h2'
        have hc := (h2'.items (Or.inl rfl)).1
        have hc : t_items (tT S ta) (Int32.ofNat q) = some (Int32.ofNat (size t)) := by rw [hc]; unfold size; rw [if_neg e4]
        rw [if_pos (show (if (none : Option (Nat × Nat)).isSome = true then (1 : Int32) else 0) = 0 from rfl), hc, o_bind, hS2]
        exact rest _ 0 (size t) up_same (fr _) (by omega) (Nat.le_refl _) hkk rfl (show size t = 0 + size t by omega) ok.2.1 ok.2.2
      | some ab =>
        obtain ⟨a, b⟩ := ab
        obtain ⟨w1, w2, -⟩ := h3 a b rfl
        obtain ⟨x1, x2⟩ := h4 a b rfl
        rw [if_neg (show ¬ (if (some (a, b) : Option (Nat × Nat)).isSome = true then (1 : Int32) else 0) = 0 from fun e => absurd e (show ¬ (1 : Int32) = 0 by decide))]
        exact rest S a b (by rw [h1, x1, x2]; rfl) (fun _ _ => rfl) w1 w2 hkk rfl (by unfold winE winA winN; simp only; omega) ok.2.1 ok.2.2
    · rw [if_neg (by rw [show (5 : Int32) = Int32.ofNat 5 from rfl, i_inj (by omega) (by omega)]; exact e5)]
      exact ⟨fun ok => absurd ok.1 (fun e => e.elim e4 e5), fun _ => rfl⟩
end SpotQ154
