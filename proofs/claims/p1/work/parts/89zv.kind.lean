/-! Kinds, and counting items. -/
section Kind111
theorem dig_c : ∀ v, v < 10 → t_kind [Int32.ofNat (48 + v)] 0 = some 3 ∧ Int32.ofNat (48 + v) ≠ 93 ∧ Int32.ofNat (48 + v) ≠ 125 := by decide +kernel
/-- what a first byte tells -/
def kindOf (x : Int32) : Option Int32 := if x = -1 then some 0 else if x = 34 then some 4 else if x = 91 then some 5 else if x = 102 then some 1 else if x = 110 then some 0 else if x = 116 then some 2 else if x = 123 then some 6 else some 3
theorem kind_at (us : List Int32) (p : Int32) : t_kind us p = kindOf (tat us p) := rfl
theorem dig_k : ∀ v, v < 10 → kindOf (Int32.ofNat (48 + v)) = some 3 ∧ Int32.ofNat (48 + v) ≠ 93 ∧ Int32.ofNat (48 + v) ≠ 125 := by decide +kernel
theorem digF_hd : ∀ n v, ∃ x y, digF (n + 1) v = x :: y ∧ kindOf x = some 3 ∧ x ≠ 93 ∧ x ≠ 125 := by
  intro n
  induction n with
  | zero =>
    intro v
    unfold digF
    split
    · exact ⟨_, [], rfl, dig_k v (by assumption)⟩
    · exact ⟨_, [], rfl, dig_k _ (Nat.mod_lt _ (by decide))⟩
  | succ n ih =>
    intro v
    unfold digF
    split
    · exact ⟨_, [], rfl, dig_k v (by assumption)⟩
    · obtain ⟨x, y, e, h⟩ := ih (v / 10)
      rw [e]
      exact ⟨x, _, rfl, h⟩
theorem pnum_hd (v : Int) : ∃ x y, pnum v = x :: y ∧ kindOf x = some 3 ∧ x ≠ 93 ∧ x ≠ 125 := by
  unfold pnum
  split
  · exact ⟨45, _, rfl, by decide⟩
  · exact digF_hd 19 _
theorem bV_hd {t : Vl} (hk : t.1 ≤ 6) : ∃ x y, bV t = x :: y ∧ kindOf x = some (Int32.ofNat t.1) ∧ x ≠ 93 ∧ x ≠ 125 := by
  obtain ⟨k, v, s, f⟩ := t
  simp only at hk
  unfold bV bval
  simp only
  have : k = 0 ∨ k = 1 ∨ k = 2 ∨ k = 3 ∨ k = 4 ∨ k = 5 ∨ k = 6 := by omega
  rcases this with rfl | rfl | rfl | rfl | rfl | rfl | rfl
  · exact ⟨110, _, rfl, by decide⟩
  · exact ⟨102, _, rfl, by decide⟩
  · exact ⟨116, _, rfl, by decide⟩
  · exact pnum_hd v
  · exact ⟨34, _, rfl, by decide⟩
  · exact ⟨91, _, rfl, by decide⟩
  · exact ⟨123, _, rfl, by decide⟩
theorem bM_hd {b : Bool} {m : Mb} (hk : m.2.1 ≤ 6) : ∃ x y, bM b m = x :: y ∧ x ≠ 93 ∧ x ≠ 125 := by
  unfold bM
  cases b with
  | false =>
    obtain ⟨x, y, e, h⟩ := bV_hd hk
    exact ⟨x, y, e, h.2⟩
  | true => exact ⟨34, _, rfl, by decide⟩
theorem kind_val {us r : List Int32} {t : Vl} {p : Nat} (hl : us.length ≤ 4096) (hk : t.1 ≤ 6) (h : us.drop p = bV t ++ r) : t_kind us (Int32.ofNat p) = some (Int32.ofNat t.1) := by
  obtain ⟨x, y, e, h1, -⟩ := bV_hd hk
  rw [e] at h
  rw [kind_at, drop_at hl h, h1]
theorem kind_no (us : List Int32) : t_kind us (-1) = some 0 := by
  rw [kind_at]
  rfl
/-- items that may stand there -/
def okL (l : List Mb) : Prop := ∀ m ∈ l, okS m.1 ∧ wV m.2
theorem okL.tail {m : Mb} {l : List Mb} (h : okL (m :: l)) : okL l := fun x hx => h x (List.mem_cons_of_mem _ hx)
theorem wV.kids {k : Nat} {v : Int} {s : List Int32} {l : List Mb} (h : wV (k, v, s, ofL l)) : okL l := by
  have := h.2.2.2.2.2
  rw [wF_iff, toL_ofL] at this
  exact this
theorem first_item {us r : List Int32} {k : Nat} {v : Int} {s : List Int32} {l : List Mb} {p : Nat} (hl : us.length ≤ 4096) (hw : okL l) (hk : k = 5 ∨ k = 6) (h : us.drop p = bV (k, v, s, ofL l) ++ r) : t_first us (Int32.ofNat p) = some (if l = [] then -1 else Int32.ofNat (p + 1)) := by
  have hb := box_in hk h
  unfold t_first
  rw [i_a1]
  cases l with
  | nil =>
    rw [if_pos rfl]
    simp only [List.map_nil, jn, List.nil_append] at hb
    rw [drop_at hl hb]
    rcases hk with rfl | rfl
    · rw [if_pos (by decide)]
    · rw [if_neg (by decide), if_pos (by decide)]
  | cons m l =>
    rw [show (if m :: l = [] then (-1 : Int32) else Int32.ofNat (p + 1)) = Int32.ofNat (p + 1) from if_neg (by simp)]
    obtain ⟨x, y, e, h1, h2⟩ := bM_hd (b := k == 6) (hw m List.mem_cons_self).2.1
    rw [jn_cons, e] at hb
    rw [drop_at hl hb, if_neg h1, if_neg h2]
theorem i_ne1 {q : Nat} (h : q < 2147483648) : ¬ Int32.ofNat q = -1 := by
  intro e
  have := congrArg Int32.toInt e
  rw [i_of (by omega)] at this
  have h1 : (-1 : Int32).toInt = -1 := rfl
  omega
theorem items_l {us r : List Int32} {b : Bool} {z : Int32} {p : Int32} (hl : us.length ≤ 4096) (hA : asc us) (hz : z = 93 ∨ z = 125) : ∀ (l : List Mb) (n c q : Nat), okL l → l ≠ [] → us.drop q = jn (l.map (bM b)) ++ z :: r → l.length < n → c ≤ q → t_items_l us n p (Int32.ofNat c) (Int32.ofNat q) = some (Int32.ofNat (c + l.length)) := by
  intro l
  induction l with
  | nil => intro n c q _ h; exact absurd rfl h
  | cons m l ih =>
    intro n c q hw _ h hn hc
    obtain ⟨n1, -, n2, n3⟩ := nx hl hA (hw m List.mem_cons_self) hz h
    cases n with
    | zero => omega
    | succ n =>
      unfold t_items_l
      rw [if_neg (i_ne1 (by omega)), if_neg (by rw [i_le' (by omega) (by omega)]; omega), n2, o_bind, i_a1]
      by_cases e : l = []
      · rw [if_pos e, e]
        simp only [List.length_cons, List.length_nil] at hn ⊢
        cases n with
        | zero => omega
        | succ n => unfold t_items_l; rw [if_pos rfl]
      · rw [if_neg e, ih n (c + 1) _ hw.tail e (n3 e) (by simp only [List.length_cons] at hn; omega) (by omega)]
        simp only [List.length_cons]
        congr 2; omega
theorem jn_len {b : Bool} : ∀ (l : List Mb), l.length ≤ (jn (l.map (bM b))).length := by
  intro l
  induction l with
  | nil => simp
  | cons m l ih =>
    rw [jn_cons, List.length_append]
    have h0 : 0 < (bM b m).length := List.length_pos_iff.mpr (bM_ne b m)
    by_cases e : l = []
    · rw [e, if_pos rfl]
      simp only [List.length_cons, List.length_nil]; omega
    · rw [if_neg e]
      simp only [List.length_cons]; omega
theorem box_len {us r : List Int32} {k : Nat} {v : Int} {s : List Int32} {l : List Mb} {p : Nat} (hk : k = 5 ∨ k = 6) (h : us.drop p = bV (k, v, s, ofL l) ++ r) : p + l.length + 2 ≤ us.length := by
  have hb := congrArg List.length (box_in hk h)
  have h1 := drop_len h (bV_ne _)
  have h2 := jn_len (b := k == 6) l
  rw [List.length_drop, List.length_append] at hb
  simp only [List.length_cons] at hb
  omega
/-- how many items there are -/
theorem items_val {us r : List Int32} {k : Nat} {v : Int} {s : List Int32} {l : List Mb} {p : Nat} (hl : us.length ≤ 4096) (hA : asc us) (hw : okL l) (hk : k = 5 ∨ k = 6) (h : us.drop p = bV (k, v, s, ofL l) ++ r) : t_items us (Int32.ofNat p) = some (Int32.ofNat l.length) := by
  unfold t_items
  rw [first_item hl hw hk h, o_bind]
  have hb := box_len hk h
  by_cases e : l = []
  · rw [if_pos e, e]
    unfold t_items_l
    rw [if_pos rfl]; rfl
  · rw [if_neg e, i_z 0, items_l hl hA (by rcases hk with rfl | rfl <;> simp) l 10000 0 (p + 1) hw e (box_in hk h) (by omega) (by omega)]
    congr 2; omega
/-- where item j is, if the items begin at q -/
def ip (b : Bool) (q : Nat) (l : List Mb) (j : Nat) : Nat := q + ((l.take j).map fun m => (bM b m).length + 1).sum
theorem ip_0 (b : Bool) (q : Nat) (l : List Mb) : ip b q l 0 = q := by simp [ip]
theorem ip_s (b : Bool) (q : Nat) (m : Mb) (l : List Mb) (j : Nat) : ip b q (m :: l) (j + 1) = ip b (q + (bM b m).length + 1) l j := by
  unfold ip
  simp only [List.take_succ_cons, List.map_cons, List.sum_cons]
  omega
theorem ip_drop {us r : List Int32} {b : Bool} {z : Int32} (hl : us.length ≤ 4096) (hA : asc us) (hz : z = 93 ∨ z = 125) : ∀ (l : List Mb) (q j : Nat), okL l → us.drop q = jn (l.map (bM b)) ++ z :: r → j < l.length → us.drop (ip b q l j) = jn ((l.drop j).map (bM b)) ++ z :: r ∧ ip b q l j < us.length := by
  intro l
  induction l with
  | nil => intro q j _ _ h; exact absurd h (Nat.not_lt_zero _)
  | cons m l ih =>
    intro q j hw h hj
    obtain ⟨n1, -, -, n3⟩ := nx hl hA (hw m List.mem_cons_self) hz h
    cases j with
    | zero => rw [ip_0]; exact ⟨h, by omega⟩
    | succ j =>
      rw [ip_s, List.drop_succ_cons]
      have e : l ≠ [] := by intro e; rw [e] at hj; simp at hj
      exact ih _ j hw.tail (n3 e) (by simp only [List.length_cons] at hj; omega)
theorem item_l {us r : List Int32} {b : Bool} {z : Int32} {p : Int32} {k : Nat} (hl : us.length ≤ 4096) (hA : asc us) (hz : z = 93 ∨ z = 125) (hk : k < 2147483648) : ∀ (l : List Mb) (n c q : Nat), okL l → l ≠ [] → us.drop q = jn (l.map (bM b)) ++ z :: r → l.length < n → c ≤ k → t_item_l us n p (Int32.ofNat k) (Int32.ofNat q) (Int32.ofNat c) = some (if k - c < l.length then Int32.ofNat (ip b q l (k - c)) else -1) := by
  intro l
  induction l with
  | nil => intro n c q _ h; exact absurd rfl h
  | cons m l ih =>
    intro n c q hw _ h hn hc
    obtain ⟨n1, -, n2, n3⟩ := nx hl hA (hw m List.mem_cons_self) hz h
    cases n with
    | zero => omega
    | succ n =>
      unfold t_item_l
      by_cases e0 : k = c
      · rw [if_pos ((i_le' (by omega) (by omega)).mpr (by omega)), e0, Nat.sub_self, ip_0, if_pos (by simp)]
      rw [if_neg (by rw [i_le' (by omega) (by omega)]; omega), if_neg (i_ne1 (by omega)), n2, o_bind, i_a1]
      have ek : k - c = (k - (c + 1)) + 1 := by omega
      by_cases e : l = []
      · rw [if_pos e, e, if_neg (by simp only [List.length_cons, List.length_nil]; omega)]
        simp only [List.length_cons, List.length_nil] at hn
        cases n with
        | zero => omega
        | succ n =>
          unfold t_item_l
          by_cases e2 : Int32.ofNat k ≤ Int32.ofNat (c + 1)
          · rw [if_pos e2]
          · rw [if_neg e2, if_pos rfl]
      · rw [if_neg e, ih n (c + 1) _ hw.tail e (n3 e) (by simp only [List.length_cons] at hn; omega) (by omega), ek, ip_s]
        congr 1
        by_cases e3 : k - (c + 1) < l.length
        · rw [if_pos e3, if_pos (by simp only [List.length_cons]; omega)]
        · rw [if_neg e3, if_neg (by simp only [List.length_cons]; omega)]
theorem item_val {us r : List Int32} {k : Nat} {v : Int} {s : List Int32} {l : List Mb} {p j : Nat} (hl : us.length ≤ 4096) (hA : asc us) (hw : okL l) (hk : k = 5 ∨ k = 6) (hj : j < 2147483648) (h : us.drop p = bV (k, v, s, ofL l) ++ r) : t_item us (Int32.ofNat p) (Int32.ofNat j) = some (if j < l.length then Int32.ofNat (ip (k == 6) (p + 1) l j) else -1) := by
  unfold t_item
  rw [first_item hl hw hk h, o_bind]
  have hb := box_len hk h
  by_cases e : l = []
  · rw [if_pos e, e, if_neg (by simp)]
    unfold t_item_l
    by_cases e2 : Int32.ofNat j ≤ 0
    · rw [if_pos e2]
    · rw [if_neg e2, if_pos rfl]
  · rw [if_neg e, i_z 0, item_l hl hA (by rcases hk with rfl | rfl <;> simp) hj l 10000 0 (p + 1) hw e (box_in hk h) (by omega) (by omega), Nat.sub_zero]
end Kind111
