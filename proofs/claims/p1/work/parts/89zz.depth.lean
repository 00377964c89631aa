/-! Depth, read from the bytes. -/
section Depth115
def dl : Int → Int → Nat → List Int32 → Int
  | _, m, _, [] => m
  | o, m, q, b :: l => if q = 2 then dl o m 1 l else if q = 1 then (if b = 34 then dl o m 0 l else if b = 92 then dl o m 2 l else dl o m 1 l) else if b = 34 then dl o m 1 l else if b = 91 ∨ b = 123 then dl (o + 1) (max m (o + 1)) 0 l else if b = 93 ∨ b = 125 then dl (o - 1) m 0 l else dl o m 0 l
theorem dl_n (o m : Int) (q : Nat) : dl o m q [] = m := by unfold dl; rfl
theorem dl_0 (o m : Int) (b : Int32) (l : List Int32) : dl o m 0 (b :: l) = if b = 34 then dl o m 1 l else if b = 91 ∨ b = 123 then dl (o + 1) (max m (o + 1)) 0 l else if b = 93 ∨ b = 125 then dl (o - 1) m 0 l else dl o m 0 l := rfl
theorem dl_1 (o m : Int) (b : Int32) (l : List Int32) : dl o m 1 (b :: l) = if b = 34 then dl o m 0 l else if b = 92 then dl o m 2 l else dl o m 1 l := rfl
theorem dl_2 (o m : Int) (b : Int32) (l : List Int32) : dl o m 2 (b :: l) = dl o m 1 l := rfl
theorem o_a1 (o : Int) : Int32.ofInt o + 1 = Int32.ofInt (o + 1) := by rw [Int32.ofInt_add]; rfl
theorem o_s1 (o : Int) : Int32.ofInt o + (-1) = Int32.ofInt (o - 1) := by
  rw [Int.sub_eq_add_neg, Int32.ofInt_add]; rfl
theorem o_max {a b : Int} (ha : -10000 ≤ a ∧ a ≤ 10000) (hb : -10000 ≤ b ∧ b ≤ 10000) : imax (Int32.ofInt a) (Int32.ofInt b) = Int32.ofInt (max a b) := by
  apply Int32.toInt_inj.mp
  rw [i_max, i_ofInt (by omega) (by omega), i_ofInt (by omega) (by omega), i_ofInt (by omega) (by omega)]
theorem dep_past {us : List Int32} {a b z : Int32} {n p : Nat} (hl : us.length ≤ 4096) (hp : us.length ≤ p) (hb : p < 2147483648) : t_depth_l us (n + 1) a b z (Int32.ofNat p) = some b := by
  show (if Int32.ofNat us.length ≤ Int32.ofNat p then _ else _) = _
  rw [if_pos ((i_le' (by omega) hb).mpr hp)]
theorem dep_dl {us : List Int32} (hl : us.length ≤ 4096) (hA : asc us) : ∀ (n : Nat) (o m : Int) (q p : Nat), us.length < n + p → p ≤ us.length → -(p : Int) ≤ o ∧ o ≤ p → -(p : Int) ≤ m ∧ m ≤ p → (q = 0 ∨ q = 1) → t_depth_l us n (Int32.ofInt o) (Int32.ofInt m) (Int32.ofNat q) (Int32.ofNat p) = some (Int32.ofInt (dl o m q (us.drop p))) := by
  intro n
  induction n using Nat.strongRecOn with
  | ind n ih =>
    intro o m q p hn hp ho hm hq
    cases n with
    | zero => omega
    | succ n =>
      by_cases he : p = us.length
      · rw [dep_past hl (by omega) (by omega), List.drop_of_length_le (by omega), dl_n]
      have hp' : p < us.length := by omega
      rw [List.drop_eq_getElem_cons hp']
      show (if Int32.ofNat us.length ≤ Int32.ofNat p then _ else _) = _
      rw [if_neg (by rw [i_le' (by omega) (by omega)]; omega), asc_at hl hA hp', o_bind]
      generalize us[p] = b
      have ih1 : ∀ (o' m' : Int) q', -((p : Int) + 1) ≤ o' ∧ o' ≤ p + 1 → -((p : Int) + 1) ≤ m' ∧ m' ≤ p + 1 → (q' = 0 ∨ q' = 1) → t_depth_l us n (Int32.ofInt o') (Int32.ofInt m') (Int32.ofNat q') (Int32.ofNat p + 1) = some (Int32.ofInt (dl o' m' q' (us.drop (p + 1)))) := by
        intro o' m' q' h1 h2 h3
        rw [i_a1]
        exact ih n (by omega) o' m' q' (p + 1) (by omega) (by omega) (by omega) (by omega) h3
      rcases hq with rfl | rfl
      · rw [if_pos (show Int32.ofNat 0 = 0 from rfl), dl_0]
        by_cases b1 : b = 34
        · rw [if_pos b1, if_pos b1]; exact ih1 o m 1 (by omega) (by omega) (Or.inr rfl)
        rw [if_neg b1, if_neg b1]
        by_cases b2 : b = 91
        · rw [if_pos b2, if_pos (Or.inl b2), o_a1, o_max (by omega) (by omega)]; exact ih1 (o + 1) (max m (o + 1)) 0 (by omega) (by omega) (Or.inl rfl)
        rw [if_neg b2]
        by_cases b3 : b = 123
        · rw [if_pos b3, if_pos (Or.inr b3), o_a1, o_max (by omega) (by omega)]; exact ih1 (o + 1) (max m (o + 1)) 0 (by omega) (by omega) (Or.inl rfl)
        rw [if_neg b3, if_neg (show ¬ (b = 91 ∨ b = 123) from fun e => e.elim b2 b3)]
        by_cases b5 : b = 93
        · rw [if_pos b5, if_pos (Or.inl b5), o_s1]; exact ih1 (o - 1) m 0 (by omega) (by omega) (Or.inl rfl)
        rw [if_neg b5]
        by_cases b6 : b = 125
        · rw [if_pos b6, if_pos (Or.inr b6), o_s1]; exact ih1 (o - 1) m 0 (by omega) (by omega) (Or.inl rfl)
        rw [if_neg b6, if_neg (show ¬ (b = 93 ∨ b = 125) from fun e => e.elim b5 b6)]
        exact ih1 o m 0 (by omega) (by omega) (Or.inl rfl)
      · rw [if_neg (show ¬ Int32.ofNat 1 = 0 by decide), dl_1]
        by_cases b1 : b = 34
        · rw [if_pos b1, if_neg (by rw [b1]; decide), if_pos b1]; exact ih1 o m 0 (by omega) (by omega) (Or.inl rfl)
        rw [if_neg b1, if_neg b1]
        by_cases b2 : b = 92
        · rw [if_pos b2, if_pos b2, i_a1, i_a1]
          by_cases h2 : p + 1 = us.length
          · cases n with
            | zero => omega
            | succ n => rw [dep_past hl (by omega) (by omega), List.drop_of_length_le (by omega), dl_n]
          · rw [List.drop_eq_getElem_cons (show p + 1 < us.length by omega), dl_2]
            exact ih n (by omega) o m 1 (p + 1 + 1) (by omega) (by omega) (by omega) (by omega) (Or.inr rfl)
        · rw [if_neg b2, if_neg b2]; exact ih1 o m 1 (by omega) (by omega) (Or.inr rfl)
def D1 (w : List Int32) : Prop := ∀ o m r, dl o m 1 (w ++ r) = dl o m 1 r
def D0 (w : List Int32) (d : Nat) : Prop := ∀ o m r, o ≤ m → dl o m 0 (w ++ r) = dl o (max m (o + d)) 0 r
theorem D1.app {a b : List Int32} (ha : D1 a) (hb : D1 b) : D1 (a ++ b) := fun o m r => by rw [List.append_assoc, ha, hb]
theorem d1_in {x : Int32} (h1 : x ≠ 34) (h2 : x ≠ 92) : D1 [x] := fun o m r => by
  show dl o m 1 (x :: r) = _
  rw [dl_1, if_neg h1, if_neg h2]
theorem escB_d : ∀ l, escB l = true → D1 l := by
  intro l h
  unfold escB at h
  split at h
  · simp only [Bool.and_eq_true, bne_iff_ne, ne_eq] at h
    exact d1_in h.1 h.2
  · simp only [beq_iff_eq] at h
    intro o m r
    rw [h]
    show dl o m 1 (92 :: _ :: r) = _
    rw [dl_1, if_neg (by decide), if_pos rfl, dl_2]
  · simp only [Bool.and_eq_true, bne_iff_ne, ne_eq, beq_iff_eq] at h
    obtain ⟨h0, h1, h2, h3, h4⟩ := h
    intro o m r
    rw [h0]
    show dl o m 1 (92 :: _ :: _) = _
    rw [dl_1, if_neg (by decide), if_pos rfl, dl_2]
    exact (((d1_in h1.1 h1.2).app (d1_in h2.1 h2.2)).app (d1_in h3.1 h3.2)).app (d1_in h4.1 h4.2) o m r
  · cases h
theorem flat_d {s : List Int32} (h : okS s) : D1 (s.flatMap esc) := by
  induction s with
  | nil => exact fun o m r => rfl
  | cons c s ih =>
    rw [List.flatMap_cons]
    obtain ⟨n, hn, rfl⟩ := ch_of (h c List.mem_cons_self)
    have := esc_B n hn
    rw [Bool.and_eq_true] at this
    exact (escB_d _ this.1).app (ih fun x hx => h x (List.mem_cons_of_mem _ hx))
theorem D0.app {a b : List Int32} {d e : Nat} (ha : D0 a d) (hb : D0 b e) : D0 (a ++ b) (max d e) := fun o m r h => by
  rw [List.append_assoc, ha o m _ h, hb o _ _ (by omega)]
  congr 1; omega
theorem D0.nil : D0 [] 0 := fun o m r h => by
  rw [List.nil_append]
  congr 1; omega
theorem pstr_d {s : List Int32} (h : okS s) : D0 (pstr s) 0 := fun o m r hm => by
  show dl o m 0 (34 :: (s.flatMap esc ++ [34] ++ r)) = _
  rw [dl_0, if_pos rfl, List.append_assoc, flat_d h]
  show dl o m 1 (34 :: r) = _
  rw [dl_1, if_pos rfl]
  congr 1; omega
abbrev dull2 (x : Int32) : Prop := x ≠ 34 ∧ x ≠ 91 ∧ x ≠ 123 ∧ x ≠ 93 ∧ x ≠ 125
theorem d0_in {x : Int32} (h : dull2 x) : D0 [x] 0 := fun o m r hm => by
  obtain ⟨h1, h2, h3, h5, h6⟩ := h
  show dl o m 0 (x :: r) = _
  rw [dl_0, if_neg h1, if_neg (show ¬ (x = 91 ∨ x = 123) from fun e => e.elim h2 h3), if_neg (show ¬ (x = 93 ∨ x = 125) from fun e => e.elim h5 h6)]
  congr 1; omega
theorem d0_all {l : List Int32} (h : ∀ x ∈ l, dull2 x) : D0 l 0 := by
  induction l with
  | nil => exact D0.nil
  | cons x l ih => exact (d0_in (h x List.mem_cons_self)).app (ih fun y hy => h y (List.mem_cons_of_mem _ hy))
theorem box_d {a z : Int32} {l : List Int32} {d : Nat} (ha : a = 91 ∨ a = 123) (hz : z = 93 ∨ z = 125) (h : D0 l d) : D0 (a :: (l ++ [z])) (1 + d) := fun o m r hm => by
  show dl o m 0 (a :: (l ++ [z] ++ r)) = _
  rw [dl_0, if_neg (by rcases ha with rfl | rfl <;> decide), if_pos ha, List.append_assoc, h _ _ _ (by omega)]
  show dl (o + 1) _ 0 (z :: r) = _
  rw [dl_0, if_neg (by rcases hz with rfl | rfl <;> decide), if_neg (by rcases hz with rfl | rfl <;> decide), if_pos hz]
  congr 1
  · omega
  · omega
theorem dF_cons (m : Mb) (l : List Mb) : dF (ofL (m :: l)) = max (dV m.2) (dF (ofL l)) := rfl
theorem jn_d {b : Bool} : ∀ (l : List Mb), (∀ m ∈ l, D0 (bM b m) (dV m.2)) → D0 (jn (l.map (bM b))) (dF (ofL l)) := by
  intro l
  induction l with
  | nil => intro _; exact D0.nil
  | cons m l ih =>
    intro h
    rw [jn_cons, dF_cons]
    refine (h m List.mem_cons_self).app ?_
    by_cases e : l = []
    · rw [if_pos e, e]; exact D0.nil
    · rw [if_neg e]
      have := (d0_in (x := 44) (by decide)).app (ih fun x hx => h x (List.mem_cons_of_mem _ hx))
      rw [Nat.zero_max] at this
      exact this
theorem bV_d (t : Vl) : wV t → D0 (bV t) (dV t) := by
  induction t using Vl.ind with
  | h k v s l ih =>
    intro hw
    have hk := hw.kids
    obtain ⟨w1, w2, w3, w4, w5, w6⟩ := hw
    simp only at w1 w2 w3 w4 w5 w6
    have hj : ∀ b, D0 (bF b (ofL l)) (dF (ofL l)) := by
      intro b
      rw [bF_ofL]
      refine jn_d l fun m hm => ?_
      obtain ⟨n1, n2⟩ := hk m hm
      unfold bM
      cases b with
      | false => exact ih m hm n2
      | true =>
        have := ((pstr_d n1).app (d0_in (x := 58) (by decide))).app (ih m hm n2)
        simpa using this
    unfold bV bval dV
    simp only
    have : k = 0 ∨ k = 1 ∨ k = 2 ∨ k = 3 ∨ k = 4 ∨ k = 5 ∨ k = 6 := by omega
    rcases this with rfl | rfl | rfl | rfl | rfl | rfl | rfl
    · exact (show D0 [110, 117, 108, 108] 0 from d0_all (by decide))
    · exact (show D0 [102, 97, 108, 115, 101] 0 from d0_all (by decide))
    · exact (show D0 [116, 114, 117, 101] 0 from d0_all (by decide))
    · exact d0_all fun x hx => by
        have := (pnum_ok v x hx).1
        exact ⟨this.1, this.2.1, this.2.2.1, this.2.2.2.2.1, this.2.2.2.2.2.1⟩
    · exact pstr_d w3
    · exact box_d (Or.inl rfl) (Or.inl rfl) (hj _)
    · exact box_d (Or.inr rfl) (Or.inr rfl) (hj _)
/-- the depth of a printed value -/
theorem depth_val {t : Vl} (hl : (bV t).length ≤ 4096) (hw : wV t) : t_depth (bV t) = some (Int32.ofNat (dV t)) := by
  have h := dep_dl hl (bV_pass t hw).2 10000 0 0 0 0 (by omega) (by omega) (by omega) (by omega) (Or.inl rfl)
  have e : dl 0 0 0 (bV t) = dV t := by
    have := bV_d t hw 0 0 [] (by omega)
    rw [List.append_nil, dl_n] at this
    rw [this]; omega
  rw [List.drop_zero, e] at h
  unfold t_depth
  rw [show Int32.ofNat (dV t) = Int32.ofInt (dV t : Int) from Int32.ofInt_eq_ofNat.symm]
  exact h
end Depth115
