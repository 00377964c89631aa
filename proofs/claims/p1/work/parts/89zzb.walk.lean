/-! The reference walks from block to block. -/
section Walk117
theorem l_of {z : Int} (h1 : -4611686018427387904 ≤ z) (h2 : z ≤ 4611686018427387904) : (Int64.ofInt z).toInt = z := by
  rw [Int64.toInt_ofInt, show Int64.size = 18446744073709551616 from rfl, Int.bmod_def]
  omega
theorem lg_ge (x y : Int64) : 0 ≤ lg_cmp x y ↔ y.toInt ≤ x.toInt := by
  unfold lg_cmp
  by_cases h : x > y
  · rw [if_pos h]
    have := Int64.lt_iff_toInt_lt.mp h
    exact ⟨fun _ => by omega, fun _ => by decide⟩
  · rw [if_neg h]
    have h' : ¬ y.toInt < x.toInt := fun e => h (Int64.lt_iff_toInt_lt.mpr e)
    by_cases e : x = y
    · rw [if_pos e, e]
      exact ⟨fun _ => by omega, fun _ => by decide⟩
    · rw [if_neg e]
      have : x.toInt ≠ y.toInt := fun q => e (Int64.toInt_inj.mp q)
      exact ⟨fun q => absurd q (by decide), fun q => by omega⟩
theorem lg_le (x y : Int64) : lg_cmp x y ≤ 0 ↔ x.toInt ≤ y.toInt := by
  unfold lg_cmp
  by_cases h : x > y
  · rw [if_pos h]
    have := Int64.lt_iff_toInt_lt.mp h
    exact ⟨fun q => absurd q (by decide), fun _ => by omega⟩
  · rw [if_neg h]
    have h' : ¬ y.toInt < x.toInt := fun e => h (Int64.lt_iff_toInt_lt.mpr e)
    by_cases e : x = y
    · rw [if_pos e]; exact ⟨fun _ => by omega, fun _ => by decide⟩
    · rw [if_neg e]; exact ⟨fun _ => by omega, fun _ => by decide⟩
theorem lg_lt (x y : Int64) : lg_cmp x y < 0 ↔ x.toInt < y.toInt := by
  have := lg_ge x y
  have z0 : (0 : Int32).toInt = 0 := rfl
  rw [i_lt]
  rw [i_le] at this
  omega
theorem lg_gt (x y : Int64) : 0 < lg_cmp x y ↔ y.toInt < x.toInt := by
  have := lg_le x y
  have z0 : (0 : Int32).toInt = 0 := rfl
  rw [i_lt]
  rw [i_le] at this
  omega
theorem lg_eq (x y : Int64) : lg_cmp x y = 0 ↔ x = y := by
  have h1 := lg_le x y
  have h2 := lg_ge x y
  constructor
  · intro e
    rw [e] at h1 h2
    have := h1.mp (by decide)
    have := h2.mp (by decide)
    exact Int64.toInt_inj.mp (by omega)
  · intro e
    rw [e]
    exact lgc_self y
theorem l_a1 (z : Int) : Int64.ofInt z + 1 = Int64.ofInt (z + 1) := by rw [Int64.ofInt_add]; rfl
theorem l_z : (0 : Int64) = Int64.ofInt 0 := rfl
theorem l_32 (n : Nat) (h : n < 2147483648) : (Int32.ofNat n).toInt64 = Int64.ofInt n := by
  apply Int64.toInt_inj.mp
  rw [Int32.toInt_toInt64, i_of (by omega), l_of (by omega) (by omega)]
/-- where block j is -/
def bp (q : Nat) (bs : List (List Int32)) (j : Nat) : Nat := q + (bs.take j).flatten.length
theorem bp_0 (q : Nat) (bs : List (List Int32)) : bp q bs 0 = q := by simp [bp]
theorem bp_s (q : Nat) (w : List Int32) (bs : List (List Int32)) (j : Nat) : bp q (w :: bs) (j + 1) = bp (q + w.length) bs j := by
  unfold bp
  simp only [List.take_succ_cons, List.flatten_cons, List.length_append]
  omega
theorem blk_step {as r w : List Int32} {bs : List (List Int32)} {q : Nat} (hb : as.length ≤ 9000) (hw : ∀ x ∈ w :: bs, hdd x) (h : as.drop q = (w :: bs).flatten ++ r) : r_next as (Int32.ofNat q) = some (Int32.ofNat (q + w.length)) ∧ as.drop (q + w.length) = bs.flatten ++ r ∧ q + w.length ≤ as.length ∧ 2 ≤ w.length := by
  rw [List.flatten_cons, List.append_assoc] at h
  have h0 := hw w List.mem_cons_self
  obtain ⟨h1, h2⟩ := rnext_at hb h0 h
  exact ⟨h1, drop_more h, h2, h0.len⟩
theorem bp_drop {as r : List Int32} {bs : List (List Int32)} {q j : Nat} (h : as.drop q = bs.flatten ++ r) (hj : j ≤ bs.length) : as.drop (bp q bs j) = (bs.drop j).flatten ++ r := by
  have e : bs.flatten = (bs.take j).flatten ++ (bs.drop j).flatten := by rw [← List.flatten_append, List.take_append_drop]
  rw [e, List.append_assoc] at h
  exact drop_more h
theorem between_l {S : SS} {aa : Nat} {r : List Int32} (hb : (S aa).length ≤ 9000) : ∀ (bs : List (List Int32)) (n c q : Nat), (∀ x ∈ bs, hdd x) → (S aa).drop q = bs.flatten ++ r → q ≤ 9000 → rd S 78 18 = Int32.ofNat (q + bs.flatten.length) → bs.length < n → b_between_l7 S aa n (Int32.ofNat c) (Int32.ofNat q) = some (Int32.ofNat (c + bs.length)) := by
  intro bs
  induction bs with
  | nil =>
    intro n c q _ h hq he hn
    cases n with
    | zero => omega
    | succ n =>
      unfold b_between_l7
      rw [he]
      simp only [List.flatten_nil, List.length_nil, Nat.add_zero]
      rw [if_pos ((i_le' (by omega) (by omega)).mpr (Nat.le_refl _))]
  | cons w bs ih =>
    intro n c q hw h hq he hn
    obtain ⟨s1, s2, s3, s4⟩ := blk_step hb hw h
    cases n with
    | zero => omega
    | succ n =>
      have hlen := congrArg List.length h
      rw [List.length_drop, List.length_append] at hlen
      rw [List.flatten_cons, List.length_append] at he hlen
      unfold b_between_l7
      rw [he, if_neg (by rw [i_le' (by omega) (by omega)]; omega), s1, o_bind, i_a1, ih n (c + 1) (q + w.length) (fun x hx => hw x (List.mem_cons_of_mem _ hx)) s2 (by omega) (by rw [he]; congr 1; omega) (by simp only [List.length_cons] at hn; omega)]
      simp only [List.length_cons]
      congr 2; omega
theorem walk_l {S : SS} {aa : Nat} {r : List Int32} {k : Nat} (hb : (S aa).length ≤ 9000) (hk : k ≤ 100000) : ∀ (bs : List (List Int32)) (n j q : Nat), (∀ x ∈ bs, hdd x) → (S aa).drop q = bs.flatten ++ r → j ≤ k → k - j ≤ bs.length → k < n + j → b_walk_l6 S aa n (Int64.ofInt k) (Int32.ofNat q) (Int64.ofInt j) = some (Int32.ofNat (bp q bs (k - j))) := by
  intro bs
  induction bs with
  | nil =>
    intro n j q _ h h1 h2 hn
    simp only [List.length_nil] at h2
    cases n with
    | zero => omega
    | succ n =>
      unfold b_walk_l6
      rw [if_pos ((lg_ge _ _).mpr (by rw [l_of (by omega) (by omega), l_of (by omega) (by omega)]; omega)), show k - j = 0 by omega, bp_0]
  | cons w bs ih =>
    intro n j q hw h h1 h2 hn
    obtain ⟨s1, s2, s3, s4⟩ := blk_step hb hw h
    cases n with
    | zero => omega
    | succ n =>
      unfold b_walk_l6
      by_cases e0 : k ≤ j
      · rw [if_pos ((lg_ge _ _).mpr (by rw [l_of (by omega) (by omega), l_of (by omega) (by omega)]; omega)), show k - j = 0 by omega, bp_0]
      · rw [if_neg (by rw [lg_ge, l_of (by omega) (by omega), l_of (by omega) (by omega)]; omega), s1, o_bind, l_a1]
        have := ih n (j + 1) (q + w.length) (fun x hx => hw x (List.mem_cons_of_mem _ hx)) s2 (by omega) (by simp only [List.length_cons] at h2; omega) (by omega)
        rw [show k - j = (k - (j + 1)) + 1 by omega, bp_s, ← this]
        rfl
theorem elem_l {as r : List Int32} {p : Int32} {k : Nat} (hb : as.length ≤ 9000) (hk : k ≤ 100000) : ∀ (bs : List (List Int32)) (n j q : Nat), (∀ x ∈ bs, hdd x) → as.drop q = bs.flatten ++ r → j ≤ k → k - j ≤ bs.length → k < n + j → r_element_l as n p (Int64.ofInt k) (Int32.ofNat q) (Int64.ofInt j) = some (Int32.ofNat (bp q bs (k - j))) := by
  intro bs
  induction bs with
  | nil =>
    intro n j q _ h h1 h2 hn
    simp only [List.length_nil] at h2
    cases n with
    | zero => omega
    | succ n =>
      unfold r_element_l
      rw [if_pos ((lg_ge _ _).mpr (by rw [l_of (by omega) (by omega), l_of (by omega) (by omega)]; omega)), show k - j = 0 by omega, bp_0]
  | cons w bs ih =>
    intro n j q hw h h1 h2 hn
    obtain ⟨s1, s2, s3, s4⟩ := blk_step hb hw h
    cases n with
    | zero => omega
    | succ n =>
      unfold r_element_l
      by_cases e0 : k ≤ j
      · rw [if_pos ((lg_ge _ _).mpr (by rw [l_of (by omega) (by omega), l_of (by omega) (by omega)]; omega)), show k - j = 0 by omega, bp_0]
      · rw [if_neg (by rw [lg_ge, l_of (by omega) (by omega), l_of (by omega) (by omega)]; omega), s1, o_bind, l_a1]
        have := ih n (j + 1) (q + w.length) (fun x hx => hw x (List.mem_cons_of_mem _ hx)) s2 (by omega) (by simp only [List.length_cons] at h2; omega) (by omega)
        rw [show k - j = (k - (j + 1)) + 1 by omega, bp_s, ← this]
        rfl
theorem flat2 : ∀ (bs : List (List Int32)), (∀ x ∈ bs, hdd x) → 2 * bs.length ≤ bs.flatten.length := by
  intro bs
  induction bs with
  | nil => intro _; simp
  | cons w bs ih =>
    intro h
    have h1 := ih fun x hx => h x (List.mem_cons_of_mem _ hx)
    have h2 := (h w List.mem_cons_self).len
    simp only [List.flatten_cons, List.length_append, List.length_cons]
    omega
theorem many_l {as r : List Int32} {p e : Nat} {k : Int32} (hb : as.length ≤ 9000) (hn0 : r_next as (Int32.ofNat p) = some (Int32.ofNat e)) (hk : iget as (Int32.ofNat p) = some k) : ∀ (bs : List (List Int32)) (n c q : Nat), (∀ x ∈ bs, hdd x) → as.drop q = bs.flatten ++ r → q + bs.flatten.length = e → e ≤ 9000 → bs.length < n → r_many_l as n (Int32.ofNat p) (Int32.ofNat c) (Int32.ofNat q) = some (if k = 6 then Int32.ofNat (c + bs.length) / 2 else Int32.ofNat (c + bs.length)) := by
  intro bs
  induction bs with
  | nil =>
    intro n c q _ h he h9 hn
    simp only [List.flatten_nil, List.length_nil, Nat.add_zero] at he ⊢
    cases n with
    | zero => omega
    | succ n =>
      unfold r_many_l
      rw [hn0, o_bind, if_pos ((i_le' (by omega) (by omega)).mpr (by omega)), hk, o_bind]
      split <;> rfl
  | cons w bs ih =>
    intro n c q hw h he h9 hn
    obtain ⟨s1, s2, s3, s4⟩ := blk_step hb hw h
    rw [List.flatten_cons, List.length_append] at he
    cases n with
    | zero => omega
    | succ n =>
      unfold r_many_l
      rw [hn0, o_bind, if_neg (by rw [i_le' (by omega) (by omega)]; omega), s1, o_bind, i_a1, ih n (c + 1) (q + w.length) (fun x hx => hw x (List.mem_cons_of_mem _ hx)) s2 (by omega) h9 (by simp only [List.length_cons] at hn; omega)]
      simp only [List.length_cons]
      rw [show c + 1 + bs.length = c + (bs.length + 1) by omega]
theorem i_half (n : Nat) (h : n < 5000) : Int32.ofNat (2 * n) / 2 = Int32.ofNat n := by
  apply Int32.toInt_inj.mp
  rw [Int32.toInt_div, i_of (by omega), i_of (by omega), show (2 : Int32).toInt = 2 from rfl, Int.natCast_mul, show ((2 : Nat) : Int) = 2 from rfl, Int.mul_tdiv_cancel_left _ (by decide), Int.bmod_def]
  omega
/-- how many there are -/
theorem many_val {as r : List Int32} {k : Nat} {v : Int} {s : List Int32} {l : List Mb} {p : Nat} (hb : as.length ≤ 9000) (hw : okL l) (hk : k = 5 ∨ k = 6) (h : as.drop p = cV (k, v, s, ofL l) ++ r) : r_many as (Int32.ofNat p) = some (Int32.ofNat l.length) := by
  have h6 : (k, v, s, ofL l).1 ≤ 6 := by show k ≤ 6; omega
  obtain ⟨n1, n2⟩ := rnext_at hb (cV_h h6) h
  obtain ⟨c1, c2⟩ := cbox_in hk h
  obtain ⟨t, ht⟩ := cV_hdd h6
  have hi : iget as (Int32.ofNat p) = some (Int32.ofNat k) := by
    rw [ht] at h
    exact iget_drop hb h
  have hh := blks_h (b := k == 6) hw
  have h2 := flat2 _ hh
  have hlen := congrArg List.length c1
  rw [List.length_drop, List.length_append] at hlen
  have hbl := blks_len (k == 6) l
  have := many_l hb n1 hi (blks (k == 6) l) 10000 0 (p + 2) hh c1 (by omega) (by omega) (by omega)
  unfold r_many
  rw [show Int32.ofNat p + 2 = Int32.ofNat (p + 2) from (Int32.ofNat_add p 2).symm]
  refine (this : r_many_l as 10000 (Int32.ofNat p) 0 (Int32.ofNat (p + 2)) = _).trans ?_
  rw [Nat.zero_add]
  rcases hk with rfl | rfl
  · rw [if_neg (by decide), hbl]; rfl
  · have e : (blks (6 == 6) l).length = 2 * l.length := by rw [blks_len]; rfl
    rw [if_pos (by decide), e, i_half _ (by omega)]
end Walk117
