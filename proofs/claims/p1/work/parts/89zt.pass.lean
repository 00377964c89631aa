/-! A reader of signs goes over a value and stands behind it. -/
section Pass109
theorem ch_of {c : Int32} (h : 0 ≤ c ∧ c ≤ 127) : ∃ n, n < 128 ∧ c = Int32.ofNat n := by
  obtain ⟨h1, h2⟩ := h
  rw [i_le] at h1 h2
  have z0 : (0 : Int32).toInt = 0 := rfl
  have z1 : (127 : Int32).toInt = 127 := rfl
  exact ⟨c.toInt.toNat, by omega, i_ofnn (by omega) (by omega)⟩
def escB (l : List Int32) : Bool := match l with
  | [x] => x != 34 && x != 92
  | [a, _] => a == 92
  | [a, _, b, c, d, e] => a == 92 && (b != 34 && b != 92 && (c != 34 && c != 92 && (d != 34 && d != 92 && (e != 34 && e != 92))))
  | _ => false
theorem esc_B : ∀ n, n < 128 → (escB (esc (Int32.ofNat n)) && (esc (Int32.ofNat n)).all (fun u => decide (0 ≤ u ∧ u ≤ 127))) = true := by decide +kernel
def Pass1 (l : List Int32) : Prop := ∀ c k r, sc c k 1 (l ++ r) = l.length + sc c k 1 r
def Pass0 (l : List Int32) : Prop := ∀ c k r, sc c k 0 (l ++ r) = l.length + sc c k 0 r
def PassI (l : List Int32) : Prop := ∀ c k r, sc c (k + 1) 0 (l ++ r) = l.length + sc c (k + 1) 0 r
theorem Pass1.app {a b : List Int32} (ha : Pass1 a) (hb : Pass1 b) : Pass1 (a ++ b) := fun c k r => by rw [List.append_assoc, ha, hb, List.length_append]; omega
theorem Pass0.app {a b : List Int32} (ha : Pass0 a) (hb : Pass0 b) : Pass0 (a ++ b) := fun c k r => by rw [List.append_assoc, ha, hb, List.length_append]; omega
theorem PassI.app {a b : List Int32} (ha : PassI a) (hb : PassI b) : PassI (a ++ b) := fun c k r => by rw [List.append_assoc, ha, hb, List.length_append]; omega
theorem Pass0.i {a : List Int32} (ha : Pass0 a) : PassI a := fun c k r => ha c (k + 1) r
theorem Pass1.nil : Pass1 [] := fun c k r => by rw [List.nil_append, List.length_nil]; omega
theorem Pass0.nil : Pass0 [] := fun c k r => by rw [List.nil_append, List.length_nil]; omega
theorem p1_in {x : Int32} (h1 : x ≠ 34) (h2 : x ≠ 92) : Pass1 [x] := fun c k r => by
  show sc c k 1 (x :: r) = 1 + _
  rw [sc_1, if_neg h1, if_neg h2]
theorem escB_pass : ∀ l, escB l = true → Pass1 l := by
  intro l h
  unfold escB at h
  split at h
  · simp only [Bool.and_eq_true, bne_iff_ne, ne_eq] at h
    exact p1_in h.1 h.2
  · simp only [beq_iff_eq] at h
    intro c k r
    rw [h]
    show sc c k 1 (92 :: _ :: r) = 2 + _
    rw [sc_1, if_neg (by decide), if_pos rfl, sc_2]; omega
  · simp only [Bool.and_eq_true, bne_iff_ne, ne_eq, beq_iff_eq] at h
    obtain ⟨h0, h1, h2, h3, h4⟩ := h
    intro c k r
    rw [h0]
    show sc c k 1 (92 :: _ :: _) = 6 + _
    rw [sc_1, if_neg (by decide), if_pos rfl, sc_2]
    have := (((p1_in h1.1 h1.2).app (p1_in h2.1 h2.2)).app (p1_in h3.1 h3.2)).app (p1_in h4.1 h4.2) c k r
    refine (congrArg (fun z => 1 + (1 + z)) this).trans ?_
    simp only [List.length_append, List.length_cons, List.length_nil]
    omega
  · cases h
theorem esc_pass {c : Int32} (h : 0 ≤ c ∧ c ≤ 127) : Pass1 (esc c) ∧ asc (esc c) := by
  obtain ⟨n, hn, rfl⟩ := ch_of h
  have := esc_B n hn
  rw [Bool.and_eq_true, List.all_eq_true] at this
  exact ⟨escB_pass _ this.1, fun u hu => of_decide_eq_true (this.2 u hu)⟩
theorem asc.app {a b : List Int32} (ha : asc a) (hb : asc b) : asc (a ++ b) := fun u hu => (List.mem_append.mp hu).elim (ha u) (hb u)
theorem asc.cons {a : Int32} {b : List Int32} (ha : 0 ≤ a ∧ a ≤ 127) (hb : asc b) : asc (a :: b) := fun u hu => (List.mem_cons.mp hu).elim (fun e => e ▸ ha) (hb u)
theorem asc.nil : asc [] := fun u hu => by cases hu
theorem flat_pass {s : List Int32} (h : okS s) : Pass1 (s.flatMap esc) ∧ asc (s.flatMap esc) := by
  induction s with
  | nil => exact ⟨Pass1.nil, asc.nil⟩
  | cons c s ih =>
    obtain ⟨a1, a2⟩ := esc_pass (h c List.mem_cons_self)
    obtain ⟨b1, b2⟩ := ih fun x hx => h x (List.mem_cons_of_mem _ hx)
    rw [List.flatMap_cons]
    exact ⟨a1.app b1, a2.app b2⟩
theorem pstr_pass {s : List Int32} (h : okS s) : Pass0 (pstr s) ∧ asc (pstr s) := by
  obtain ⟨a1, a2⟩ := flat_pass h
  refine ⟨fun c k r => ?_, asc.cons (by decide) (a2.app (asc.cons (by decide) asc.nil))⟩
  show sc c k 0 (34 :: (s.flatMap esc ++ [34] ++ r)) = _
  rw [sc_0, if_pos rfl, List.append_assoc, a1]
  show 1 + (_ + sc c k 1 (34 :: r)) = _
  rw [sc_1, if_pos rfl, pstr, List.length_cons, List.length_append]
  simp only [List.length_cons, List.length_nil]
  omega
/-- a sign without a meaning to the reader -/
abbrev dull (x : Int32) : Prop := x ≠ 34 ∧ x ≠ 91 ∧ x ≠ 123 ∧ x ≠ 44 ∧ x ≠ 93 ∧ x ≠ 125 ∧ x ≠ 58
theorem p0_in {x : Int32} (h : dull x) : Pass0 [x] := fun c k r => by
  obtain ⟨h1, h2, h3, h4, h5, h6, h7⟩ := h
  show sc c k 0 (x :: r) = 1 + _
  rw [sc_0, if_neg h1, if_neg (show ¬ (x = 91 ∨ x = 123) from fun e => e.elim h2 h3)]
  by_cases hk : k = 0
  · subst hk
    rw [if_pos rfl, if_neg (show ¬ (x = 44 ∨ x = 93 ∨ x = 125 ∨ (x = 58 ∧ c = true)) by
      rintro (e | e | e | e)
      · exact h4 e
      · exact h5 e
      · exact h6 e
      · exact h7 e.1)]
  · rw [if_neg hk, if_neg (show ¬ (x = 93 ∨ x = 125) from fun e => e.elim h5 h6)]
theorem p0_all {l : List Int32} (h : ∀ x ∈ l, dull x) : Pass0 l := by
  induction l with
  | nil => exact Pass0.nil
  | cons x l ih => exact (p0_in (h x List.mem_cons_self)).app (ih fun y hy => h y (List.mem_cons_of_mem _ hy))
theorem dig_ok : ∀ v, v < 10 → dull (Int32.ofNat (48 + v)) ∧ (0 ≤ Int32.ofNat (48 + v) ∧ Int32.ofNat (48 + v) ≤ 127) := by decide +kernel
theorem digF_ok : ∀ n v, ∀ x ∈ digF n v, dull x ∧ 0 ≤ x ∧ x ≤ 127 := by
  intro n
  induction n with
  | zero => intro v x hx; cases hx
  | succ n ih =>
    intro v x hx
    unfold digF at hx
    split at hx
    · rw [List.mem_singleton.mp hx]; exact dig_ok v (by assumption)
    · rcases List.mem_append.mp hx with hx | hx
      · exact ih _ x hx
      · rw [List.mem_singleton.mp hx]; exact dig_ok _ (Nat.mod_lt _ (by decide))
theorem pnum_ok (v : Int) : ∀ x ∈ pnum v, dull x ∧ 0 ≤ x ∧ x ≤ 127 := by
  intro x hx
  unfold pnum at hx
  rcases List.mem_append.mp hx with hx | hx
  · split at hx
    · rw [List.mem_singleton.mp hx]; decide
    · cases hx
  · exact digF_ok _ _ x hx
theorem pi_one (x : Int32) (h : x = 44 ∨ x = 58) : PassI [x] := fun c k r => by
  show sc c (k + 1) 0 (x :: r) = 1 + _
  rcases h with rfl | rfl <;> rw [sc_0, if_neg (by decide), if_neg (by decide), if_neg (Nat.succ_ne_zero k), if_neg (by decide)]
theorem jn_pass {l : List (List Int32)} (h : ∀ x ∈ l, PassI x ∧ asc x) : PassI (jn l) ∧ asc (jn l) := by
  induction l with
  | nil => exact ⟨Pass0.nil.i, asc.nil⟩
  | cons x l ih =>
    cases l with
    | nil => exact h x List.mem_cons_self
    | cons y l =>
      have hx := h x List.mem_cons_self
      have ih' := ih fun z hz => h z (List.mem_cons_of_mem _ hz)
      exact ⟨hx.1.app ((pi_one 44 (Or.inl rfl)).app ih'.1), hx.2.app (asc.cons (by decide) ih'.2)⟩
theorem box_pass {a z : Int32} {l : List Int32} (ha : a = 91 ∨ a = 123) (hz : z = 93 ∨ z = 125) (h : PassI l) : Pass0 (a :: (l ++ [z])) := fun c k r => by
  show sc c k 0 (a :: (l ++ [z] ++ r)) = _
  have h1 : sc c k 0 (a :: (l ++ [z] ++ r)) = 1 + sc c (k + 1) 0 (l ++ [z] ++ r) := by
    rw [sc_0, if_neg (by rcases ha with rfl | rfl <;> decide), if_pos ha]
  rw [h1, List.append_assoc, h]
  show 1 + (_ + sc c (k + 1) 0 (z :: r)) = _
  have h2 : sc c (k + 1) 0 (z :: r) = 1 + sc c k 0 r := by
    rw [sc_0, if_neg (by rcases hz with rfl | rfl <;> decide), if_neg (by rcases hz with rfl | rfl <;> decide), if_neg (Nat.succ_ne_zero k), if_pos hz]; rfl
  rw [h2, List.length_cons, List.length_append]
  simp only [List.length_cons, List.length_nil]
  omega
/-- a value's bytes: read over, and plain signs -/
theorem bV_pass (t : Vl) : wV t → Pass0 (bV t) ∧ asc (bV t) := by
  induction t using Vl.ind with
  | h k v s l ih =>
    intro hw
    obtain ⟨w1, w2, w3, w4, w5, w6⟩ := hw
    simp only at w1 w2 w3 w4 w5 w6
    unfold bV
    simp only
    have hk : ∀ b, PassI (bF b (ofL l)) ∧ asc (bF b (ofL l)) := by
      intro b
      rw [bF_ofL]
      refine jn_pass fun x hx => ?_
      obtain ⟨m, hm, rfl⟩ := List.mem_map.mp hx
      rw [wF_iff, toL_ofL] at w6
      obtain ⟨n1, n2⟩ := w6 m hm
      obtain ⟨i1, i2⟩ := ih m hm n2
      unfold bM
      cases b with
      | false => exact ⟨i1.i, i2⟩
      | true =>
        obtain ⟨p1, p2⟩ := pstr_pass n1
        exact ⟨(p1.i.app (pi_one 58 (Or.inr rfl))).app i1.i, (p2.app (asc.cons (by decide) asc.nil)).app i2⟩
    unfold bval
    split
    · exact ⟨p0_all (by decide), by unfold asc; decide⟩
    split
    · exact ⟨p0_all (by decide), by unfold asc; decide⟩
    split
    · exact ⟨p0_all (by decide), by unfold asc; decide⟩
    split
    · exact ⟨p0_all fun x hx => (pnum_ok v x hx).1, fun x hx => (pnum_ok v x hx).2⟩
    split
    · exact pstr_pass w3
    split
    · exact ⟨box_pass (Or.inl rfl) (Or.inl rfl) (hk _).1, asc.cons (by decide) ((hk _).2.app (asc.cons (by decide) asc.nil))⟩
    · exact ⟨box_pass (Or.inr rfl) (Or.inr rfl) (hk _).1, asc.cons (by decide) ((hk _).2.app (asc.cons (by decide) asc.nil))⟩
end Pass109
