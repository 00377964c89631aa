/-! A step of a path, by the class. -/
section Step130
theorem wr_up (S : SS) (a k : Nat) (L : List Int32) (v : Int32) : wr (up S a L) a k v = up S a (L.set k v) := by
  unfold wr
  rw [up_same, up_up]
theorem wr_eq {S : SS} {a k : Nat} {L : List Int32} {v : Int32} (h : S a = L) : wr S a k v = up S a (L.set k v) := by
  unfold wr
  rw [h]
theorem l_min (x y : Int64) : (lmin x y).toInt = min x.toInt y.toInt := by
  unfold lmin
  by_cases h : 0 < lg_cmp x y
  · rw [if_pos h]; rw [lg_gt] at h; omega
  · rw [if_neg h]; rw [lg_gt] at h; omega
theorem l_max (x y : Int64) : (lmax x y).toInt = max x.toInt y.toInt := by
  unfold lmax
  by_cases h : lg_cmp x y < 0
  · rw [if_pos h]; rw [lg_lt] at h; omega
  · rw [if_neg h]; rw [lg_lt] at h; omega
theorem l_to32 {x : Int64} {n : Nat} (h : x.toInt = n) (hn : n < 2147483648) : x.toInt32 = Int32.ofNat n := by
  apply Int32.toInt_inj.mp
  rw [Int64.toInt_toInt32, h, i_of (by omega), Int.bmod_def]
  omega
theorem l_inj {x : Int64} {n : Int} (h : x.toInt = n) : x = Int64.ofInt n := by
  rw [← h, Int64.ofInt_toInt]
theorem l_add {x y : Int64} (h1 : -4611686018427387904 ≤ x.toInt ∧ x.toInt ≤ 4611686018427387903) (h2 : -4611686018427387904 ≤ y.toInt ∧ y.toInt ≤ 4611686018427387903) : (x + y).toInt = x.toInt + y.toInt := by
  rw [Int64.toInt_add, show (2 ^ 64 : Nat) = 18446744073709551616 from rfl, Int.bmod_def]
  omega
/-- a bound of a part -/
def lim (o : Option Vl) (n d : Nat) : Nat := match o with
  | none => d
  | some v => if v.1 = 0 then d else (max 0 (min (if v.2.1 < 0 then v.2.1 + n else v.2.1) n)).toNat
theorem lim_n (n d : Nat) : lim none n d = d := rfl
theorem lim_0 {v : Vl} (n d : Nat) (h : v.1 = 0) : lim (some v) n d = d := by
  unfold lim
  simp only
  rw [if_pos h]
theorem lim_3 {v : Vl} (n d : Nat) (h : v.1 = 3) : lim (some v) n d = (max 0 (min (if v.2.1 < 0 then v.2.1 + n else v.2.1) n)).toNat := by
  unfold lim
  simp only
  rw [if_neg (by rw [h]; decide)]
theorem lim_le {o : Option Vl} {n d : Nat} (h : d ≤ n) : lim o n d ≤ n := by
  unfold lim
  split
  · exact h
  · split
    · exact h
    · omega
/-- is it a bound? -/
def okD (o : Option Vl) : Prop := ∀ v, o = some v → v.1 = 0 ∨ v.1 = 3
/-- a bound at y in a text, in cells -/
def bdT (us : List Int32) (y : Int32) (o : Option Vl) : Prop := match o with
  | none => y = -1
  | some v => ∃ b, y = Int32.ofNat b ∧ vat us b v
def bdC (as : List Int32) (y : Int32) (o : Option Vl) : Prop := match o with
  | none => y = -1
  | some v => ∃ b, y = Int32.ofNat b ∧ b < 9000 ∧ cat as b v
theorem vl3 {v : Vl} (h : v.1 = 3) : v = (3, v.2.1, v.2.2.1, v.2.2.2) := by
  obtain ⟨k, x, s, f⟩ := v
  simp only at h
  rw [h]
theorem bd_isBound {S : SS} {t0 : Nat} {y : Int32} {o : Option Vl} (h : bdT (tT S t0) y o) : (okD o → p_isBound S t0 y = some 1) ∧ (¬ okD o → p_isBound S t0 y = some 0) := by
  unfold p_isBound
  cases o with
  | none =>
    have h : y = -1 := h
    rw [h, kind_no, o_bind, if_neg (by decide), if_pos rfl]
    exact ⟨fun _ => rfl, fun e => absurd (fun v hv => by cases hv) e⟩
  | some v =>
    obtain ⟨b, hb, hv⟩ := h
    have hk := hv.2.2.1.1
    rw [hb, hv.kind, o_bind]
    by_cases e3 : v.1 = 3
    · rw [e3, if_pos (by decide)]
      exact ⟨fun _ => rfl, fun e => absurd (fun w hw => by cases hw; exact Or.inr e3) e⟩
    · rw [if_neg (by rw [show (3 : Int32) = Int32.ofNat 3 from rfl, i_inj (by omega) (by omega)]; exact e3)]
      by_cases e0 : v.1 = 0
      · rw [e0, if_pos (by decide)]
        exact ⟨fun _ => rfl, fun e => absurd (fun w hw => by cases hw; exact Or.inl e0) e⟩
      · rw [if_neg (by rw [show (0 : Int32) = Int32.ofNat 0 from rfl, i_inj (by omega) (by omega)]; exact e0)]
        exact ⟨fun e => by rcases e v rfl with e | e; exact absurd e e0; exact absurd e e3, fun _ => rfl⟩
theorem bd_bound {S : SS} {t0 : Nat} {y : Int32} {o : Option Vl} {n d : Nat} (h : bdT (tT S t0) y o) (ho : okD o) (hn : n ≤ 9000) : p_bound S t0 y (Int32.ofNat n) (Int32.ofNat d) = some (Int32.ofNat (lim o n d)) := by
  unfold p_bound
  cases o with
  | none =>
    have h : y = -1 := h
    rw [h, kind_no, o_bind, if_pos rfl, lim_n]
  | some v =>
    obtain ⟨b, hb, hv⟩ := h
    rw [hb, hv.kind, o_bind]
    rcases ho v rfl with e | e
    · rw [e, if_pos (by decide), lim_0 n d e]
    · have hv' := hv
      rw [vl3 e] at hv'
      have hx := hv.2.2.1.2.1 e
      have z0 : (0 : Int64).toInt = 0 := rfl
      have hnt : ((Int32.ofNat n).toInt64).toInt = n := by rw [l_32 n (by omega), l_of (by omega) (by omega)]
      rw [e, if_neg (by decide), hv'.number, o_bind]
      unfold p_fromStart
      have key : ∀ r : Int64, r.toInt = (if v.2.1 < 0 then v.2.1 + n else v.2.1) → some ((lmax 0 (lmin r (Int32.ofNat n).toInt64)).toInt32) = some (Int32.ofNat (lim (some v) n d)) := by
        intro r hr
        rw [lim_3 n d e]
        have hm : (lmax 0 (lmin r (Int32.ofNat n).toInt64)).toInt = max 0 (min (if v.2.1 < 0 then v.2.1 + n else v.2.1) n) := by rw [l_max, l_min, hr, z0, hnt]
        generalize (if v.2.1 < 0 then v.2.1 + (n : Int) else v.2.1) = X at hm ⊢
        rw [l_to32 (n := (max 0 (min X n)).toNat) (by omega) (by omega)]
      have l1 := l_of (z := v.2.1) (by omega) (by omega)
      by_cases hs : v.2.1 < 0
      · rw [if_neg (by rw [lg_ge, l1, z0]; omega), o_bind]
        exact key _ (by rw [l_add (by rw [l1]; omega) (by rw [hnt]; omega), l1, hnt, if_pos hs])
      · rw [if_pos ((lg_ge _ _).mpr (by rw [l1, z0]; omega)), o_bind]
        exact key _ (by rw [l1, if_neg hs])
/-- the class's spot: a text's place ta, the value, the window if it is a part -/
def size (t : Vl) : Nat := if t.1 = 4 then t.2.2.1.length else (toL t.2.2.2).length
def winO (t : Vl) (w : Option (Nat × Nat)) : Prop := ∀ a b, w = some (a, b) → a ≤ b ∧ b ≤ size t ∧ (t.1 = 4 ∨ t.1 = 5)
def spC (S : SS) (ta : Nat) (t : Vl) (w : Option (Nat × Nat)) : Prop := ∃ (q : Nat) (it lo hi : Int32), S 67 = [Int32.ofNat ta, Int32.ofNat q, it, (if w.isSome then 1 else 0), lo, hi] ∧ vat (tT S ta) q t ∧ winO t w ∧ ∀ a b, w = some (a, b) → lo = Int32.ofNat a ∧ hi = Int32.ofNat b
def spN (S : SS) (ta : Nat) : Prop := ∃ it lo hi : Int32, S 67 = [Int32.ofNat ta, -1, it, 0, lo, hi]
def fr67 (S S' : SS) : Prop := ∀ a, a ≠ 67 → S' a = S a
theorem spC.kind {S : SS} {ta : Nat} {t : Vl} {w : Option (Nat × Nat)} (hta : ta < 1000) (h : spC S ta t w) : p_kind S = some (Int32.ofNat t.1) := by
  obtain ⟨q, it, lo, hi, h1, h2, -⟩ := h
  unfold p_kind rd
  rw [h1]
  show (t_kind (tT S (Int32.ofNat ta).toNatClampNeg) (Int32.ofNat q)).bind _ = _
  rw [i_cl (by omega), h2.kind, o_bind]
theorem spN.kind {S : SS} {ta : Nat} (hta : ta < 1000) (h : spN S ta) : p_kind S = some 0 := by
  obtain ⟨it, lo, hi, h1⟩ := h
  unfold p_kind rd
  rw [h1]
  show (t_kind (tT S (Int32.ofNat ta).toNatClampNeg) (-1)).bind _ = _
  rw [kind_no, o_bind]
theorem move_val {S : SS} {T p it pt lo hi : Int32} (h : S 67 = [T, p, it, pt, lo, hi]) (x y : Int32) : p_moveTo S x y = some (up S 67 [T, y, x, 0, lo, hi]) := by
  unfold p_moveTo
  rw [wr_eq h, wr_up, wr_up]
  rfl
theorem vl6 {v : Vl} (h : v.1 = 6) : v = (6, v.2.1, v.2.2.1, ofL (toL v.2.2.2)) := by
  obtain ⟨k, x, s, f⟩ := v
  simp only at h
  rw [h, ofL_toL]
theorem vl5 {v : Vl} (h : v.1 = 5) : v = (5, v.2.1, v.2.2.1, ofL (toL v.2.2.2)) := by
  obtain ⟨k, x, s, f⟩ := v
  simp only at h
  rw [h, ofL_toL]
/-- the member by a name -/
def byN (t : Vl) (s : List Int32) : Option Vl := if h : (toL t.2.2.2).findIdx (fun m => m.1 == s) < (toL t.2.2.2).length then some ((toL t.2.2.2)[(toL t.2.2.2).findIdx (fun m => m.1 == s)]).2 else none
/-- where a step leads -/
def spO (S : SS) (ta : Nat) (o : Option Vl) : Prop := match o with
  | none => spN S ta
  | some v => spC S ta v none
theorem byName_val {S : SS} {ta t1 q2 : Nat} {t : Vl} {w : Option (Nat × Nat)} {s r' : List Int32} (hta : ta < 1000 ∧ ta ≠ 67) (h : spC S ta t w) (hl : (tT S t1).length ≤ 4096) (hs : okS s) (hp : (tT S t1).drop q2 = pstr s ++ r') : (t.1 = 6 → ∃ S', p_byName S t1 (Int32.ofNat q2) = some (S', 0) ∧ fr67 S S' ∧ spO S' ta (byN t s)) ∧ (t.1 ≠ 6 → p_byName S t1 (Int32.ofNat q2) = some (S, 1)) := by
  have hk := h.kind hta.1
  obtain ⟨q, it, lo, hi, h1, h2, h3, h4⟩ := h
  have k6 := h2.2.2.1.1
  unfold p_byName
  rw [hk, o_bind]
  refine ⟨fun e => ?_, fun e => by rw [if_neg (by rw [show (6 : Int32) = Int32.ofNat 6 from rfl, i_inj (by omega) (by omega)]; exact e)]⟩
  have e0 : (rd S 67 0).toNatClampNeg = ta := by unfold rd; rw [h1]; exact i_cl (by omega)
  have e1 : rd S 67 1 = Int32.ofNat q := by unfold rd; rw [h1]; rfl
  rw [e, if_pos (by decide), e0, e1]
  have h2' := h2
  rw [vl6 e] at h2'
  obtain ⟨b1, b2⟩ := h2'.by hl hs hp
  have fr : ∀ L, fr67 S (up S 67 L) := fun L a ha => up_ne ha
  have tt : ∀ L, tT (up S 67 L) ta = tT S ta := fun L => by unfold tT; rw [up_ne hta.2]
  by_cases hj : (toL t.2.2.2).findIdx (fun m => m.1 == s) < (toL t.2.2.2).length
  · obtain ⟨a, b, n1, n2, n3, n4⟩ := b1 hj
    rw [n1, o_bind, n3, o_bind, move_val h1, o_bind]
    refine ⟨_, rfl, fr _, ?_⟩
    unfold byN
    rw [dif_pos hj]
    exact ⟨b, Int32.ofNat a, lo, hi, up_same, by rw [tt]; exact n4, (fun _ _ e => by cases e), (fun _ _ e => by cases e)⟩
  · rw [b2 hj, o_bind]
    have ev : t_valueOf (tT S ta) (-1) = some (-1) := by unfold t_valueOf; rw [if_pos rfl]
    rw [ev, o_bind, move_val h1, o_bind]
    refine ⟨_, rfl, fr _, ?_⟩
    unfold byN
    rw [dif_neg hj]
    exact ⟨-1, lo, hi, up_same⟩
/-- the element of a place, within the window -/
def winA (t : Vl) (w : Option (Nat × Nat)) : Nat := match w with
  | none => 0
  | some (a, _) => a
def winN (t : Vl) (w : Option (Nat × Nat)) : Nat := match w with
  | none => size t
  | some (a, b) => b - a
def byP (t : Vl) (w : Option (Nat × Nat)) (v : Int) : Option Vl :=
  let x := if v < 0 then v + winN t w else v
  if 0 ≤ x ∧ x < winN t w then ((toL t.2.2.2)[winA t w + x.toNat]?).map (fun m => m.2) else none
theorem byPlace_val {S : SS} {ta : Nat} {t : Vl} {w : Option (Nat × Nat)} {v : Int} (hta : ta < 1000 ∧ ta ≠ 67) (h : spC S ta t w) (hv : -9007199254740991 ≤ v ∧ v ≤ 9007199254740991) : (t.1 = 5 → ∃ S', p_byPlace S (Int64.ofInt v) = some (S', 0) ∧ fr67 S S' ∧ spO S' ta (byP t w v)) ∧ (t.1 ≠ 5 → p_byPlace S (Int64.ofInt v) = some (S, 1)) := by
  have hk := h.kind hta.1
  obtain ⟨q, it, lo, hi, h1, h2, h3, h4⟩ := h
  have k6 := h2.2.2.1.1
  unfold p_byPlace
  rw [hk, o_bind]
  refine ⟨fun e => ?_, fun e => by rw [if_neg (by rw [show (5 : Int32) = Int32.ofNat 5 from rfl, i_inj (by omega) (by omega)]; exact e)]⟩
  have e0 : (rd S 67 0).toNatClampNeg = ta := by unfold rd; rw [h1]; exact i_cl (by omega)
  have e1 : rd S 67 1 = Int32.ofNat q := by unfold rd; rw [h1]; rfl
  have e3 : rd S 67 3 = if w.isSome then 1 else 0 := by unfold rd; rw [h1]; rfl
  have e4 : rd S 67 4 = lo := by unfold rd; rw [h1]; rfl
  have e5 : rd S 67 5 = hi := by unfold rd; rw [h1]; rfl
  have h2' := h2
  rw [vl5 e] at h2'
  obtain ⟨it1, it2⟩ := h2'.items (Or.inl rfl)
  have hsz : size t = (toL t.2.2.2).length := by unfold size; rw [if_neg (by omega)]
  have fr : ∀ L, fr67 S (up S 67 L) := fun L a ha => up_ne ha
  have tt : ∀ L, tT (up S 67 L) ta = tT S ta := fun L => by unfold tT; rw [up_ne hta.2]
  have z0 : (0 : Int64).toInt = 0 := rfl
  rw [e, if_pos (by decide), e0, e1, e3, e4, e5]
  -- the rest, once size and base are known
  have rest : ∀ (A n : Nat) (sz ba : Int32), sz = Int32.ofNat n → ba = Int32.ofNat A → A + n ≤ (toL t.2.2.2).length → winA t w = A → winN t w = n → ∃ S', ((p_fromStart S (Int64.ofInt v) sz).bind fun r7 => (if (lg_cmp r7 0) < 0 then ((p_moveTo S (-1) (-1)).bind fun r10 => some (r10, (0 : Int32))) else (if 0 ≤ (lg_cmp r7 sz.toInt64) then ((p_moveTo S (-1) (-1)).bind fun r13 => some (r13, 0)) else ((t_item (tT S ta) (Int32.ofNat q) (ba + r7.toInt32)).bind fun r15 => ((p_moveTo S r15 r15).bind fun r17 => some (r17, 0)))))) = some (S', 0) ∧ fr67 S S' ∧ spO S' ta (byP t w v) := by
    intro A n sz ba hsz' hba hAn hA hN
    have hnt : (sz.toInt64).toInt = n := by rw [hsz', l_32 n (by omega), l_of (by omega) (by omega)]
    have l1 := l_of (z := v) (by omega) (by omega)
    obtain ⟨r, hr, hrv⟩ : ∃ r, p_fromStart S (Int64.ofInt v) sz = some r ∧ r.toInt = if v < 0 then v + n else v := by
      unfold p_fromStart
      by_cases hs : v < 0
      · refine ⟨_, if_neg (by rw [lg_ge, l1, z0]; omega), ?_⟩
        rw [l_add (by rw [l1]; omega) (by rw [hnt]; omega), l1, hnt, if_pos hs]
      · exact ⟨_, if_pos ((lg_ge _ _).mpr (by rw [l1, z0]; omega)), by rw [l1, if_neg hs]⟩
    rw [hr, o_bind]
    unfold byP
    simp only [hA, hN]
    by_cases c1 : r.toInt < 0
    · rw [if_pos ((lg_lt _ _).mpr (by rw [z0]; exact c1)), move_val h1, o_bind, if_neg (by rw [← hrv]; omega)]
      exact ⟨_, rfl, fr _, -1, lo, hi, up_same⟩
    · rw [if_neg (by rw [lg_lt, z0]; exact c1)]
      by_cases c2 : (n : Int) ≤ r.toInt
      · rw [if_pos ((lg_ge _ _).mpr (by rw [hnt]; exact c2)), move_val h1, o_bind, if_neg (by rw [← hrv]; omega)]
        exact ⟨_, rfl, fr _, -1, lo, hi, up_same⟩
      · have hx : r.toInt.toNat < n := by omega
        have hj : A + r.toInt.toNat < (toL t.2.2.2).length := by omega
        obtain ⟨i1, i2⟩ := h2'.elem hj
        rw [if_neg (by rw [lg_ge, hnt]; exact c2), l_to32 (n := r.toInt.toNat) (by omega) (by omega), hba, ← Int32.ofNat_add, i1, o_bind, move_val h1, o_bind, if_pos (by rw [← hrv]; omega), ← hrv, List.getElem?_eq_getElem hj]
        exact ⟨_, rfl, fr _, _, _, lo, hi, up_same, by rw [tt]; exact i2, (fun _ _ e => by cases e), (fun _ _ e => by cases e)⟩
  cases w with
  | none =>
    rw [if_pos (show (if (none : Option (Nat × Nat)).isSome = true then (1 : Int32) else 0) = 0 from rfl), it1, o_bind]
    exact rest 0 (toL t.2.2.2).length _ 0 rfl rfl (by omega) rfl hsz
  | some ab =>
    obtain ⟨a, b⟩ := ab
    obtain ⟨w1, w2, -⟩ := h3 a b rfl
    obtain ⟨x1, x2⟩ := h4 a b rfl
    have es : hi - lo = Int32.ofNat (b - a) := by
      rw [x1, x2]
      apply Int32.toInt_inj.mp
      have a1 : (Int32.ofNat a).toInt = a := i_of (by omega)
      have a2 : (Int32.ofNat b).toInt = b := i_of (by omega)
      rw [i_sub (by omega) (by omega), a1, a2, i_of (by omega)]
      omega
    rw [if_neg (show ¬ (if (some (a, b) : Option (Nat × Nat)).isSome = true then (1 : Int32) else 0) = 0 from fun e => absurd e (show ¬ (1 : Int32) = 0 by decide))]
    exact rest a (b - a) _ lo es x1 (by omega) rfl rfl
end Step130
