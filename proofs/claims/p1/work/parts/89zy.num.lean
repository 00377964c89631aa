/-! Characters counted, numbers read, depth. -/
section Num114
theorem chars_l {us r : List Int32} {p : Int32} (hl : us.length ≤ 4096) : ∀ (s : List Int32) (n c i : Nat), okS s → us.drop i = s.flatMap esc ++ 34 :: r → s.length < n → t_chars_l us n p (Int32.ofNat c) (Int32.ofNat i) = some (Int32.ofNat (c + s.length)) := by
  intro s
  induction s with
  | nil =>
    intro n c i _ h hn
    cases n with
    | zero => omega
    | succ n =>
      have l1 := drop_len (w := [34]) h (by simp)
      simp only [List.length_cons, List.length_nil] at l1
      unfold t_chars_l
      rw [if_neg (by rw [i_le' (by omega) (by omega)]; omega), drop_at hl h, if_pos rfl]
      rfl
  | cons ch s ih =>
    intro n c i hs h hn
    cases n with
    | zero => omega
    | succ n =>
      rw [List.flatMap_cons, List.append_assoc] at h
      obtain ⟨x, y, e, hx⟩ := esc_hd (hs ch List.mem_cons_self)
      have l1 := drop_len h (by rw [e]; simp)
      have h' := h
      rw [e] at h'
      have l2 : 0 < (esc ch).length := by rw [e]; simp
      unfold t_chars_l
      rw [if_neg (by rw [i_le' (by omega) (by omega)]; omega), drop_at hl (by simpa using h'), if_neg hx, (esc_char hl (hs ch List.mem_cons_self) h).1, o_bind, i_a1, ← Int32.ofNat_add, ih n (c + 1) (i + (esc ch).length) (fun x hx => hs x (List.mem_cons_of_mem _ hx)) (drop_more h) (by simp only [List.length_cons] at hn; omega)]
      simp only [List.length_cons]
      congr 2; omega
theorem flat_len {s : List Int32} (hs : okS s) : s.length ≤ (s.flatMap esc).length := by
  induction s with
  | nil => simp
  | cons c s ih =>
    obtain ⟨x, y, e, hx⟩ := esc_hd (hs c List.mem_cons_self)
    have := ih fun x hx => hs x (List.mem_cons_of_mem _ hx)
    rw [List.flatMap_cons, List.length_append, e]
    simp only [List.length_cons]; omega
theorem chars_val {us r s : List Int32} {p : Nat} (hl : us.length ≤ 4096) (hs : okS s) (h : us.drop p = pstr s ++ r) : t_chars us (Int32.ofNat p) = some (Int32.ofNat s.length) := by
  unfold t_chars
  have l1 := drop_len h (by simp [pstr])
  have l2 : (pstr s).length = (s.flatMap esc).length + 2 := by simp [pstr]
  have l3 := flat_len hs
  have e3 := drop_more (w := [34]) (r := s.flatMap esc ++ 34 :: r) (by rw [h, pstr]; simp)
  have := chars_l (p := Int32.ofNat p) hl s 10000 0 (p + 1) hs e3 (by omega)
  rw [i_a1]
  rw [Nat.zero_add] at this
  exact this
theorem charPlace_l {us r : List Int32} {p : Int32} {k : Nat} (hl : us.length ≤ 4096) (hk : k < 2147483648) : ∀ (s : List Int32) (n j i : Nat), okS s → us.drop i = s.flatMap esc ++ 34 :: r → j ≤ k → k - j ≤ s.length → k < n + j → t_charPlace_l us n p (Int32.ofNat k) (Int32.ofNat i) (Int32.ofNat j) = some (Int32.ofNat (i + ((s.take (k - j)).flatMap esc).length)) := by
  intro s
  induction s with
  | nil =>
    intro n j i _ h h1 h2 hn
    simp only [List.length_nil] at h2
    cases n with
    | zero => omega
    | succ n =>
      unfold t_charPlace_l
      rw [if_pos ((i_le' hk (by omega)).mpr (by omega))]
      simp
  | cons ch s ih =>
    intro n j i hs h h1 h2 hn
    cases n with
    | zero => omega
    | succ n =>
      unfold t_charPlace_l
      by_cases e0 : k ≤ j
      · rw [if_pos ((i_le' hk (by omega)).mpr e0), show k - j = 0 by omega]
        simp
      · rw [if_neg (by rw [i_le' hk (by omega)]; omega)]
        rw [List.flatMap_cons, List.append_assoc] at h
        rw [(esc_char hl (hs ch List.mem_cons_self) h).1, o_bind, i_a1, ← Int32.ofNat_add, ih n (j + 1) (i + (esc ch).length) (fun x hx => hs x (List.mem_cons_of_mem _ hx)) (drop_more h) (by omega) (by simp only [List.length_cons] at h2; omega) (by omega)]
        rw [show k - j = (k - (j + 1)) + 1 by omega, List.take_succ_cons, List.flatMap_cons, List.length_append]
        congr 2; omega
theorem charPlace_val {us r s : List Int32} {p k : Nat} (hl : us.length ≤ 4096) (hs : okS s) (h : us.drop p = pstr s ++ r) (hk : k ≤ s.length) : t_charPlace us (Int32.ofNat p) (Int32.ofNat k) = some (Int32.ofNat (p + 1 + ((s.take k).flatMap esc).length)) := by
  unfold t_charPlace
  have l1 := drop_len h (by simp [pstr])
  have l2 : (pstr s).length = (s.flatMap esc).length + 2 := by simp [pstr]
  have l3 := flat_len hs
  have e3 := drop_more (w := [34]) (r := s.flatMap esc ++ 34 :: r) (by rw [h, pstr]; simp)
  have := charPlace_l (p := Int32.ofNat p) (k := k) hl (by omega) s 10000 0 (p + 1) hs e3 (by omega) (by omega) (by omega)
  rw [i_a1]
  rw [Nat.sub_zero] at this
  exact this
/-- digits read -/
theorem dig_v : ∀ d, d < 10 → sg_digit (Int32.ofNat (48 + d)) = 1 ∧ (Int32.ofNat (48 + d) - 48).toInt64 = Int64.ofNat d := by decide +kernel
theorem num_step {us A : List Int32} {p g : Int32} {a d i n : Nat} (hl : us.length ≤ 4096) (hd : d < 10) (h : us.drop i = Int32.ofNat (48 + d) :: A) : t_number_l us (n + 1) p g (Int64.ofNat a) (Int32.ofNat i) = t_number_l us n p g (Int64.ofNat (a * 10 + d)) (Int32.ofNat (i + 1)) := by
  have l1 := drop_len (w := [Int32.ofNat (48 + d)]) h (by simp)
  simp only [List.length_cons, List.length_nil] at l1
  obtain ⟨e1, e2⟩ := dig_v d hd
  show (if Int32.ofNat us.length ≤ Int32.ofNat i then _ else _) = _
  rw [if_neg (by rw [i_le' (by omega) (by omega)]; omega), drop_at hl h, e1, if_neg (by decide), e2, i_a1, Int64.ofNat_add, Int64.ofNat_mul]
  rfl
theorem num_digs {us : List Int32} {p g : Int32} (hl : us.length ≤ 4096) : ∀ (k v a i n : Nat) (A : List Int32), v < 10 ^ k → us.drop i = digF k v ++ A → t_number_l us (n + (digF k v).length) p g (Int64.ofNat a) (Int32.ofNat i) = t_number_l us n p g (Int64.ofNat (a * 10 ^ (digF k v).length + v)) (Int32.ofNat (i + (digF k v).length)) := by
  intro k
  induction k with
  | zero => intro v a i n A hv h; simp only [Nat.pow_zero] at hv; rw [show v = 0 by omega]; simp [digF]
  | succ k ih =>
    intro v a i n A hv h
    by_cases h10 : v < 10
    · have e : digF (k + 1) v = [Int32.ofNat (48 + v)] := by unfold digF; rw [if_pos h10]
      rw [e] at h ⊢
      simp only [List.length_cons, List.length_nil, Nat.zero_add, Nat.pow_one]
      exact num_step hl h10 h
    · have e : digF (k + 1) v = digF k (v / 10) ++ [Int32.ofNat (48 + v % 10)] := by
        show (if v < 10 then _ else _) = _
        rw [if_neg h10]
      rw [e, List.append_assoc] at h
      rw [e, List.length_append]
      simp only [List.length_cons, List.length_nil, Nat.zero_add]
      rw [show n + ((digF k (v / 10)).length + 1) = (n + 1) + (digF k (v / 10)).length by omega, ih (v / 10) a i (n + 1) _ (by rw [Nat.pow_succ] at hv; omega) h, num_step hl (Nat.mod_lt v (by decide)) (drop_more h)]
      congr 2
      rw [Nat.pow_succ, Nat.add_mul, Nat.mul_assoc]
      omega
theorem num_stop {us A : List Int32} {p g : Int32} {x : Int64} {i n : Nat} (hl : us.length ≤ 4096) (hb : i < 2147483648) (h : us.drop i = [] ∨ ∃ z A, us.drop i = z :: A ∧ sg_digit z = 0) : t_number_l us (n + 1) p g x (Int32.ofNat i) = if g = 0 then some x else some (-x) := by
  show (if Int32.ofNat us.length ≤ Int32.ofNat i then _ else _) = _
  by_cases e : Int32.ofNat us.length ≤ Int32.ofNat i
  · rw [if_pos e]
  · rw [if_neg e]
    rcases h with h | ⟨z, A, h, hz⟩
    · exfalso
      rw [i_le' (by omega) hb] at e
      have := congrArg List.length h
      rw [List.length_drop, List.length_nil] at this
      omega
    · rw [drop_at hl h, hz, if_pos rfl]
theorem digF_mem : ∀ n v, ∀ x ∈ digF n v, ∃ k, k < 10 ∧ x = Int32.ofNat (48 + k) := by
  intro n
  induction n with
  | zero => intro v x hx; cases hx
  | succ n ih =>
    intro v x hx
    unfold digF at hx
    split at hx
    · exact ⟨v, by assumption, List.mem_singleton.mp hx⟩
    · rcases List.mem_append.mp hx with hx | hx
      · exact ih _ x hx
      · exact ⟨v % 10, Nat.mod_lt _ (by decide), List.mem_singleton.mp hx⟩
theorem dig_45 : ∀ k, k < 10 → ¬ Int32.ofNat (48 + k) = 45 := by decide +kernel
theorem l_nat (n : Nat) : Int64.ofNat n = Int64.ofInt (n : Int) := Int64.ofInt_eq_ofNat.symm
theorem pow20 : (9007199254740991 : Nat) < 10 ^ 20 := by decide
theorem number_val {us r : List Int32} {v : Int} {p : Nat} (hl : us.length ≤ 4096) (hv : -9007199254740991 ≤ v ∧ v ≤ 9007199254740991) (h : us.drop p = pnum v ++ r) (hr : r = [] ∨ ∃ z A, r = z :: A ∧ sg_digit z = 0) : t_number us (Int32.ofNat p) = some (Int64.ofInt v) := by
  have lt : v.natAbs < 10 ^ 20 := by have := pow20; omega
  have l1 := drop_len h (by unfold pnum; intro e; rw [List.append_eq_nil_iff] at e; obtain ⟨x, y, e2, -⟩ := digF_hd 19 v.natAbs; rw [e2] at e; cases e.2)
  unfold t_number
  have ll : (digF 20 v.natAbs).length ≤ (pnum v).length := by unfold pnum; rw [List.length_append]; omega
  by_cases hn : v < 0
  · have e : pnum v = 45 :: digF 20 v.natAbs := by unfold pnum; rw [if_pos hn]; rfl
    rw [e] at h
    have h0 : tat us (Int32.ofNat p) = 45 := drop_at hl h
    have h1 := drop_more (w := [45]) (by simpa using h)
    simp only [List.length_cons, List.length_nil] at h1
    rw [h0, if_pos rfl, i_a1]
    obtain ⟨k, hk⟩ : ∃ k, 10000 = (k + 1) + (digF 20 v.natAbs).length := ⟨10000 - (digF 20 v.natAbs).length - 1, by omega⟩
    rw [hk, show (0 : Int64) = Int64.ofNat 0 from rfl, num_digs hl 20 v.natAbs 0 (p + (0 + 1)) (k + 1) r lt h1, num_stop (A := []) hl (by rw [e, List.length_cons] at l1; omega) (by rw [drop_more h1]; exact hr), if_neg (by decide), Nat.zero_mul, Nat.zero_add]
    congr 1
    rw [show v = -(v.natAbs : Int) by omega, Int64.ofInt_neg]
    simp
    exact l_nat _
  · have e : pnum v = digF 20 v.natAbs := by unfold pnum; rw [if_neg hn]; rfl
    rw [e] at h
    obtain ⟨x, y, e2, h3, -⟩ := digF_hd 19 v.natAbs
    obtain ⟨k, hk, rfl⟩ := digF_mem 20 v.natAbs x (by rw [e2]; exact List.mem_cons_self)
    have h0 : tat us (Int32.ofNat p) = Int32.ofNat (48 + k) := drop_at (r := y ++ r) hl (by rw [h, e2]; rfl)
    rw [h0, if_neg (dig_45 k hk)]
    obtain ⟨k, hk⟩ : ∃ k, 10000 = (k + 1) + (digF 20 v.natAbs).length := ⟨10000 - (digF 20 v.natAbs).length - 1, by omega⟩
    rw [hk, show (0 : Int64) = Int64.ofNat 0 from rfl, num_digs hl 20 v.natAbs 0 p (k + 1) r lt h, num_stop (A := []) hl (by omega) (by rw [drop_more h]; exact hr), if_pos rfl, Nat.zero_mul, Nat.zero_add]
    congr 1
    rw [show v = (v.natAbs : Int) by omega]
    simp
    exact l_nat _
end Num114
