/-! Strings compared by the class. -/
section OStr140
theorem char_end {us r : List Int32} {p : Nat} (hl : us.length ≤ 4096) (h : us.drop p = 34 :: r) : t_char us (Int32.ofNat p) = some (-1) := by
  unfold t_char
  rw [drop_at hl h, if_pos rfl]
theorem ch_ne {c : Int32} (h : 0 ≤ c ∧ c ≤ 127) : c ≠ -1 := by
  intro e
  rw [e] at h
  exact absurd h.1 (by decide)
theorem icmp_ch {c d : Int32} (h1 : 0 ≤ c ∧ c ≤ 127) (h2 : 0 ≤ d ∧ d ≤ 127) (hn : c ≠ d) : i_cmp c d = if d ≤ c then 1 else -1 := by
  unfold i_cmp
  by_cases h : d ≤ c
  · rw [if_pos h, if_neg hn, if_pos h]
  · rw [if_neg h, if_neg h]
theorem icmp_end {c : Int32} (h : 0 ≤ c ∧ c ≤ 127) : i_cmp (-1) c = -1 ∧ i_cmp c (-1) = 1 := by
  obtain ⟨n, hn, rfl⟩ := ch_of h
  have : ∀ n, n < 128 → i_cmp (-1) (Int32.ofNat n) = -1 ∧ i_cmp (Int32.ofNat n) (-1) = 1 := by decide +kernel
  exact this n hn
theorem ostr_l {S : SS} {t0 t1 : Nat} {r r' : List Int32} (hu : (tT S t0).length ≤ 4096) (hv : (tT S t1).length ≤ 4096) : ∀ (s s' : List Int32) (n i j k : Nat), okS s → okS s' → (tT S t0).drop i = s.flatMap esc ++ 34 :: r → (tT S t1).drop j = s'.flatMap esc ++ 34 :: r' → s.length < n → k + 1 ≤ i → o_str_l13 S t0 t1 n (Int32.ofNat i) (Int32.ofNat j) (Int32.ofNat k) = some (cmpS s s') := by
  intro s
  induction s with
  | nil =>
    intro s' n i j k h1 h2 d1 d2 hn hk
    have l1 := drop_len (w := [34]) d1 (by simp)
    simp only [List.length_cons, List.length_nil] at l1
    cases n with
    | zero => omega
    | succ n =>
      have e4 : ¬ (4096 : Int32) ≤ Int32.ofNat k := by rw [show (4096 : Int32) = Int32.ofNat 4096 from rfl, i_le' (by omega) (by omega)]; omega
      unfold o_str_l13
      rw [if_neg e4, char_end hu d1, o_bind]
      cases s' with
      | nil =>
        rw [char_end hv d2, o_bind, if_pos rfl, if_pos rfl]
        rfl
      | cons c' s' =>
        have hc := h2 c' List.mem_cons_self
        rw [List.flatMap_cons, List.append_assoc] at d2
        rw [(esc_char hv hc d2).2, o_bind, if_neg (fun e => ch_ne hc e.symm), (icmp_end hc).1]
        rfl
  | cons c s ih =>
    intro s' n i j k h1 h2 d1 d2 hn hk
    have hc := h1 c List.mem_cons_self
    rw [List.flatMap_cons, List.append_assoc] at d1
    obtain ⟨x, y, e, hx⟩ := esc_hd hc
    have l1 := drop_len d1 (by rw [e]; simp)
    have l2 : 0 < (esc c).length := by rw [e]; simp
    simp only [List.length_append, List.length_cons] at l1
    cases n with
    | zero => omega
    | succ n =>
      have e4 : ¬ (4096 : Int32) ≤ Int32.ofNat k := by rw [show (4096 : Int32) = Int32.ofNat 4096 from rfl, i_le' (by omega) (by omega)]; omega
      unfold o_str_l13
      rw [if_neg e4, (esc_char hu hc d1).2, o_bind]
      cases s' with
      | nil =>
        rw [char_end hv d2, o_bind, if_neg (ch_ne hc), (icmp_end hc).2]
        rfl
      | cons c' s' =>
        have hc' := h2 c' List.mem_cons_self
        rw [List.flatMap_cons, List.append_assoc] at d2
        rw [(esc_char hv hc' d2).2, o_bind]
        unfold cmpS
        by_cases q : c = c'
        · subst q
          rw [if_pos rfl, if_neg (ch_ne hc), (esc_char hu hc d1).1, o_bind, (esc_char hv hc d2).1, o_bind, if_pos rfl, ← Int32.ofNat_add, ← Int32.ofNat_add, i_a1]
          exact ih s' n _ _ (k + 1) (fun z hz => h1 z (List.mem_cons_of_mem _ hz)) (fun z hz => h2 z (List.mem_cons_of_mem _ hz)) (drop_more d1) (drop_more d2) (by simp only [List.length_cons] at hn; omega) (by omega)
        · rw [if_neg q, if_neg q, icmp_ch hc hc' q]
/-- the class compares two printed strings -/
theorem ostr_val {S : SS} {t0 t1 p q : Nat} {s s' r r' : List Int32} (hu : (tT S t0).length ≤ 4096) (hv : (tT S t1).length ≤ 4096) (h1 : okS s) (h2 : okS s') (d1 : (tT S t0).drop p = pstr s ++ r) (d2 : (tT S t1).drop q = pstr s' ++ r') : o_str S t0 t1 (Int32.ofNat p) (Int32.ofNat q) = some (cmpS s s') := by
  have l1 := drop_len d1 (by simp [pstr])
  have l2 : (pstr s).length = (s.flatMap esc).length + 2 := by simp [pstr]
  have l3 := flat_len h1
  have e1 := drop_more (w := [34]) (r := s.flatMap esc ++ 34 :: r) (by rw [d1, pstr]; simp)
  have e2 := drop_more (w := [34]) (r := s'.flatMap esc ++ 34 :: r') (by rw [d2, pstr]; simp)
  unfold o_str
  rw [i_a1, i_a1]
  exact ostr_l hu hv s s' 10000 (p + 1) (q + 1) 0 h1 h2 e1 e2 (by omega) (by omega)
end OStr140
