/-! Strings compared, names found, by the reference; strings compared by the class. -/
section Cmp118
/-- which of two strings comes first -/
def cmpS : List Int32 → List Int32 → Int32
  | [], [] => 0
  | [], _ :: _ => -1
  | _ :: _, [] => 1
  | a :: s, b :: t => if a = b then cmpS s t else if b ≤ a then 1 else -1
theorem cmpS_0 : ∀ (s t : List Int32), cmpS s t = 0 ↔ s = t := by
  intro s
  induction s with
  | nil => intro t; cases t <;> simp [cmpS]
  | cons a s ih =>
    intro t
    cases t with
    | nil => simp [cmpS]
    | cons b t =>
      unfold cmpS
      by_cases e : a = b
      · rw [if_pos e, ih t, e]; simp
      · rw [if_neg e]
        constructor
        · intro h
          split at h <;> exact absurd h (by decide)
        · intro h; exact absurd (List.cons.inj h).1 e
theorem i_cmp_of {a b : Nat} (ha : a < 2147483648) (hb : b < 2147483648) : i_cmp (Int32.ofNat a) (Int32.ofNat b) = if a = b then 0 else if b ≤ a then 1 else -1 := by
  unfold i_cmp
  by_cases h : b ≤ a
  · rw [if_pos ((i_le' hb ha).mpr h)]
    by_cases e : a = b
    · rw [if_pos (by rw [e]), if_pos e]
    · rw [if_neg (by rw [i_inj ha hb]; exact e), if_neg e, if_pos h]
  · rw [if_neg (by rw [i_le' hb ha]; exact h), if_neg (by omega), if_neg h]
theorem rstr_l {as bs r r' : List Int32} {p p2 : Nat} (ha : as.length ≤ 9000) (hb : bs.length ≤ 9000) : ∀ (s s' : List Int32) (n i : Nat), as.drop (p + i) = s ++ r → bs.drop (p2 + i) = s' ++ r' → i + s.length ≤ 9000 → i + s'.length ≤ 9000 → s.length < n → r_strings_l as bs n (Int32.ofNat p) (Int32.ofNat p2) (Int32.ofNat (i + s.length)) (Int32.ofNat (i + s'.length)) (Int32.ofNat i) = some (cmpS s s') := by
  intro s
  induction s with
  | nil =>
    intro s' n i h1 h2 l1 l2 hn
    cases n with
    | zero => omega
    | succ n =>
      unfold r_strings_l
      rw [if_pos ((i_le' (by omega) (by omega)).mpr (by simp)), i_cmp_of (by omega) (by omega)]
      cases s' with
      | nil => simp [cmpS]
      | cons b s' =>
        simp only [List.length_nil, List.length_cons, Nat.add_zero]
        rw [if_neg (by omega), if_neg (by omega)]
        rfl
  | cons a s ih =>
    intro s' n i h1 h2 l1 l2 hn
    cases n with
    | zero => omega
    | succ n =>
      unfold r_strings_l
      simp only [List.length_cons] at l1 hn ⊢
      rw [if_neg (by rw [i_le' (by omega) (by omega)]; omega)]
      cases s' with
      | nil =>
        simp only [List.length_nil, Nat.add_zero]
        rw [if_pos ((i_le' (by omega) (by omega)).mpr (Nat.le_refl _)), i_cmp_of (by omega) (by omega), if_neg (by omega), if_pos (by omega)]
        rfl
      | cons b s' =>
        simp only [List.length_cons] at l2 ⊢
        rw [if_neg (by rw [i_le' (by omega) (by omega)]; omega), ← Int32.ofNat_add, ← Int32.ofNat_add, iget_drop ha h1, o_bind, iget_drop hb h2, o_bind, i_a1]
        unfold cmpS
        by_cases e : a = b
        · rw [if_pos e, if_pos e]
          have := ih s' n (i + 1) (drop_more (w := [a]) h1) (drop_more (w := [b]) h2) (by omega) (by omega) (by omega)
          rw [show i + 1 + s.length = i + (s.length + 1) by omega, show i + 1 + s'.length = i + (s'.length + 1) by omega] at this
          exact this
        · rw [if_neg e, if_neg e]
          split <;> rfl
theorem rstr_val {as bs r r' s s' : List Int32} {p p2 : Nat} (ha : as.length ≤ 9000) (hb : bs.length ≤ 9000) (h1 : as.drop p = cstr s ++ r) (h2 : bs.drop p2 = cstr s' ++ r') : r_strings as bs (Int32.ofNat p) (Int32.ofNat p2) = some (cmpS s s') := by
  have l1 := drop_len h1 (by simp [cstr])
  have l2 := drop_len h2 (by simp [cstr])
  have e1 : (cstr s).length = s.length + 2 := by simp [cstr]
  have e2 : (cstr s').length = s'.length + 2 := by simp [cstr]
  unfold r_strings
  rw [i_a1, i_a1, iget_nth ha h1 (j := 1) (by omega), o_bind, iget_nth hb h2 (j := 1) (by omega), o_bind]
  have d1 : as.drop (p + 2) = s ++ r := drop_more (w := [4, Int32.ofNat (s.length + 2)]) h1
  have d2 : bs.drop (p2 + 2) = s' ++ r' := drop_more (w := [4, Int32.ofNat (s'.length + 2)]) h2
  have := rstr_l ha hb s s' 10000 2 d1 d2 (by omega) (by omega) (by omega)
  rw [Nat.add_comm 2 s.length, Nat.add_comm 2 s'.length] at this
  exact this
theorem rnamed_l {as bs r r' s : List Int32} {p p2 e : Nat} (ha : as.length ≤ 9000) (hb : bs.length ≤ 9000) (hs : bs.drop p2 = cstr s ++ r') (hn0 : r_next as (Int32.ofNat p) = some (Int32.ofNat e)) : ∀ (l : List Mb) (n q : Nat), okL l → as.drop q = (blks true l).flatten ++ r → q + (blks true l).flatten.length = e → e ≤ 9000 → l.length < n → r_named_l as bs n (Int32.ofNat p) (Int32.ofNat p2) (Int32.ofNat q) = some (if l.findIdx (fun m => m.1 == s) < l.length then Int32.ofNat (bp q (blks true l) (2 * l.findIdx (fun m => m.1 == s) + 1)) else -1) := by
  intro l
  induction l with
  | nil =>
    intro n q _ h he h9 hn
    cases n with
    | zero => omega
    | succ n =>
      unfold r_named_l
      have : (blks true []).flatten.length = 0 := rfl
      rw [hn0, o_bind, if_pos ((i_le' (by omega) (by omega)).mpr (by omega))]
      simp
  | cons m l ih =>
    intro n q hw h he h9 hn
    have eb : blks true (m :: l) = cstr m.1 :: cV m.2 :: blks true l := rfl
    rw [eb] at h he
    have hh : ∀ x ∈ cstr m.1 :: cV m.2 :: blks true l, hdd x := by rw [← eb]; exact blks_h hw
    obtain ⟨s1, s2, s3, s4⟩ := blk_step ha hh h
    obtain ⟨u1, u2, u3, u4⟩ := blk_step ha (fun x hx => hh x (List.mem_cons_of_mem _ hx)) s2
    rw [List.flatten_cons, List.length_append, List.flatten_cons, List.length_append] at he
    rw [List.flatten_cons, List.append_assoc] at h
    cases n with
    | zero => omega
    | succ n =>
      unfold r_named_l
      rw [hn0, o_bind, if_neg (by rw [i_le' (by omega) (by omega)]; omega), rstr_val ha hb h hs, o_bind]
      by_cases e2 : m.1 = s
      · rw [if_pos ((cmpS_0 _ _).mpr e2), s1, o_bind]
        have : (m :: l).findIdx (fun m => m.1 == s) = 0 := by rw [List.findIdx_cons]; simp [e2]
        rw [this, if_pos (by simp), eb, Nat.mul_zero, Nat.zero_add, show (1 : Nat) = 0 + 1 from rfl, bp_s, bp_0]
      · rw [if_neg (fun e3 => e2 ((cmpS_0 _ _).mp e3)), s1, o_bind, u1, o_bind, ih n _ hw.tail u2 (by omega) h9 (by simp only [List.length_cons] at hn; omega)]
        have ef : (m :: l).findIdx (fun m => m.1 == s) = l.findIdx (fun m => m.1 == s) + 1 := by
          rw [List.findIdx_cons, show (m.1 == s) = false by simp [e2]]; rfl
        rw [ef, eb, show 2 * (l.findIdx (fun m => m.1 == s) + 1) + 1 = (2 * l.findIdx (fun m => m.1 == s) + 1) + 1 + 1 by omega, bp_s, bp_s]
        congr 1
        by_cases e3 : l.findIdx (fun m => m.1 == s) < l.length
        · rw [if_pos e3, if_pos (by simp only [List.length_cons]; omega)]
        · rw [if_neg e3, if_neg (by simp only [List.length_cons]; omega)]
/-- the value of a name -/
theorem rnamed_val {as bs r r' s : List Int32} {v : Int} {s0 : List Int32} {l : List Mb} {p p2 : Nat} (ha : as.length ≤ 9000) (hb : bs.length ≤ 9000) (hw : okL l) (hs : bs.drop p2 = cstr s ++ r') (h : as.drop p = cV (6, v, s0, ofL l) ++ r) : r_named as bs (Int32.ofNat p) (Int32.ofNat p2) = some (if l.findIdx (fun m => m.1 == s) < l.length then Int32.ofNat (bp (p + 2) (blks true l) (2 * l.findIdx (fun m => m.1 == s) + 1)) else -1) := by
  obtain ⟨n1, n2⟩ := rnext_at ha (cV_h (t := (6, v, s0, ofL l)) (Nat.le_refl _)) h
  obtain ⟨c1, c2⟩ := cbox_in (Or.inr rfl) h
  have hbl := blks_len true l
  have h2 := flat2 _ (blks_h (b := true) hw)
  have hlen := congrArg List.length c1
  rw [List.length_drop, List.length_append] at hlen
  simp only [if_true] at hbl
  have e6 : (6 == 6) = true := rfl
  rw [e6] at c1 c2 hlen
  unfold r_named
  rw [show Int32.ofNat p + 2 = Int32.ofNat (p + 2) from (Int32.ofNat_add p 2).symm]
  exact rnamed_l ha hb hs n1 l 10000 (p + 2) hw c1 (by omega) (by omega) (by omega)
end Cmp118
