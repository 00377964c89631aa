/-! Names looked for, bounds looked for, characters counted, numbers read. -/
section Named113
theorem member_str {us r : List Int32} {m : Mb} {l : List Mb} {q : Nat} {z : Int32} (h : us.drop q = jn ((m :: l).map (bM true)) ++ z :: r) : ∃ r', us.drop q = pstr m.1 ++ 58 :: r' := by
  rw [jn_cons] at h
  unfold bM at h
  simp only [if_true, List.append_assoc] at h
  exact ⟨_, h⟩
theorem named_l {us vs r r' s : List Int32} {z : Int32} {p : Int32} {q2 : Nat} (hl : us.length ≤ 4096) (hA : asc us) (hv : vs.length ≤ 4096) (hs : okS s) (h2 : vs.drop q2 = pstr s ++ r') (hz : z = 93 ∨ z = 125) : ∀ (l : List Mb) (n c q : Nat), okL l → l ≠ [] → us.drop q = jn (l.map (bM true)) ++ z :: r → l.length < n → c ≤ q → t_named_l us vs n p (Int32.ofNat q2) (Int32.ofNat q) (Int32.ofNat c) = some (if l.findIdx (fun m => m.1 == s) < l.length then Int32.ofNat (ip true q l (l.findIdx (fun m => m.1 == s))) else -1) := by
  intro l
  induction l with
  | nil => intro n c q _ h; exact absurd rfl h
  | cons m l ih =>
    intro n c q hw _ h hn hc
    obtain ⟨n1, -, n2, n3⟩ := nx hl hA (hw m List.mem_cons_self) hz h
    obtain ⟨r'', hm⟩ := member_str h
    cases n with
    | zero => omega
    | succ n =>
      unfold t_named_l
      rw [if_neg (by rw [i_le' (by omega) (by omega)]; omega), if_neg (i_ne1 (by omega)), same_str hl hv (hw m List.mem_cons_self).1 hs hm h2, o_bind]
      by_cases e : m.1 = s
      · rw [if_pos e, if_neg (by decide)]
        have : (m :: l).findIdx (fun m => m.1 == s) = 0 := by rw [List.findIdx_cons]; simp [e]
        rw [this, ip_0, if_pos (by simp)]
      · rw [if_neg e, if_pos rfl, n2, o_bind, i_a1]
        have ef : (m :: l).findIdx (fun m => m.1 == s) = l.findIdx (fun m => m.1 == s) + 1 := by
          rw [List.findIdx_cons, show (m.1 == s) = false by simp [e]]; rfl
        rw [ef]
        by_cases en : l = []
        · rw [if_pos en, en]
          simp only [List.length_cons, List.length_nil] at hn
          cases n with
          | zero => omega
          | succ n =>
            unfold t_named_l
            rw [if_neg (show ¬ List.findIdx (fun m => m.1 == s) ([] : List Mb) + 1 < [m].length by simp)]
            by_cases e3 : Int32.ofNat us.length ≤ Int32.ofNat (c + 1)
            · rw [if_pos e3]
            · rw [if_neg e3, if_pos rfl]
        · rw [if_neg en, ih n (c + 1) _ hw.tail en (n3 en) (by simp only [List.length_cons] at hn; omega) (by omega), ip_s]
          congr 1
          by_cases e3 : l.findIdx (fun m => m.1 == s) < l.length
          · rw [if_pos e3, if_pos (by simp only [List.length_cons]; omega)]
          · rw [if_neg e3, if_neg (by simp only [List.length_cons]; omega)]
/-- the member of a name -/
theorem named_val {us vs r r' s : List Int32} {v : Int} {s0 : List Int32} {l : List Mb} {p q2 : Nat} (hl : us.length ≤ 4096) (hA : asc us) (hv : vs.length ≤ 4096) (hw : okL l) (hs : okS s) (h2 : vs.drop q2 = pstr s ++ r') (h : us.drop p = bV (6, v, s0, ofL l) ++ r) : t_named us vs (Int32.ofNat p) (Int32.ofNat q2) = some (if l.findIdx (fun m => m.1 == s) < l.length then Int32.ofNat (ip true (p + 1) l (l.findIdx (fun m => m.1 == s))) else -1) := by
  unfold t_named
  rw [first_item hl hw (Or.inr rfl) h, o_bind]
  have hb := box_len (Or.inr rfl) h
  by_cases e : l = []
  · rw [if_pos e, e]
    unfold t_named_l
    rw [if_neg (by rw [i_z 0, i_le' (by omega) (by omega)]; omega), if_pos rfl]
    simp
  · rw [if_neg e, i_z 0]
    exact named_l hl hA hv hs h2 (by simp) l 10000 0 (p + 1) hw e (box_in (Or.inr rfl) h) (by omega) (by omega)
/-- a beginning -/
theorem begins_l {us bs : List Int32} {p : Nat} (hl : us.length ≤ 4096) (hp : p ≤ us.length) (hb : bs.length ≤ 100) : ∀ (n i : Nat), bs.length < n + i → i ≤ bs.length → (∀ u ∈ bs, u ≠ -1) → t_begins_l us bs n (Int32.ofNat p) (Int32.ofNat i) = some (if (bs.drop i) <+: us.drop (p + i) then 1 else 0) := by
  intro n
  induction n with
  | zero => intro i h1 h2; omega
  | succ n ih =>
    intro i h1 h2 h3
    unfold t_begins_l
    by_cases e : i = bs.length
    · rw [if_pos ((i_le' (by omega) (by omega)).mpr (by omega)), List.drop_of_length_le (by omega), if_pos (List.nil_prefix)]
    · have hi : i < bs.length := by omega
      have es : sch bs (Int32.ofNat i) = some bs[i] := by
        unfold sch
        rw [if_neg (i_nn (by omega)), i_cl (by omega), List.getElem?_eq_getElem hi]
      rw [if_neg (by rw [i_le' (by omega) (by omega)]; omega), es, o_bind, ← Int32.ofNat_add, i_a1, List.drop_eq_getElem_cons hi]
      by_cases hq : p + i < us.length
      · rw [tat_in hl hq, List.drop_eq_getElem_cons hq]
        by_cases ex : us[p + i] = bs[i]
        · rw [if_pos ex, ih (i + 1) (by omega) (by omega) h3, ex, show p + (i + 1) = p + i + 1 by omega]
          congr 1
          by_cases e3 : (bs.drop (i + 1)) <+: us.drop (p + i + 1)
          · rw [if_pos e3, if_pos ((List.prefix_cons_inj _).mpr e3)]
          · rw [if_neg e3, if_neg (fun e => e3 ((List.prefix_cons_inj _).mp e))]
        · rw [if_neg ex, if_neg (fun e => ex (List.cons_prefix_cons.mp e).1.symm)]
      · rw [tat_out hl (by omega) (by omega), if_neg (fun e => h3 _ (List.getElem_mem hi) e.symm), List.drop_of_length_le (show us.length ≤ p + i by omega), if_neg (fun e => by have := List.prefix_nil.mp e; cases this)]
theorem begins_val {us bs : List Int32} {p : Nat} (hl : us.length ≤ 4096) (hp : p ≤ us.length) (hb : bs.length ≤ 100) (h3 : ∀ u ∈ bs, u ≠ -1) : t_begins us bs (Int32.ofNat p) = some (if bs <+: us.drop p then 1 else 0) := by
  have := begins_l hl hp hb 10000 0 (by omega) (by omega) h3
  rw [List.drop_zero, Nat.add_zero] at this
  exact this
/-- a printed string begins another only if they are the same -/
theorem pre_dif : ∀ (a b A B : List Int32) (f : Bool), dif f a b = true → ¬ (a ++ A) <+: (b ++ B) := by
  intro a
  induction a with
  | nil => intro b A B f h; cases b <;> cases h
  | cons x a ih =>
    intro b A B f h
    cases b with
    | nil => cases h
    | cons y b =>
      unfold dif at h
      intro hp
      have hp := List.cons_prefix_cons.mp hp
      rw [if_pos hp.1] at h
      split at h
      · cases h
      · exact ih b A B _ h hp.2
theorem pre_str : ∀ (s s' r r' : List Int32), okS s → okS s' → ((s.flatMap esc ++ 34 :: r) <+: (s'.flatMap esc ++ 34 :: r')) → s = s' := by
  intro s
  induction s with
  | nil =>
    intro s' r r' _ h2 hp
    cases s' with
    | nil => rfl
    | cons c' s' =>
      obtain ⟨x, y, e, hx⟩ := esc_hd (h2 c' List.mem_cons_self)
      rw [List.flatMap_cons, e] at hp
      exact absurd (List.cons_prefix_cons.mp hp).1.symm hx
  | cons c s ih =>
    intro s' r r' h1 h2 hp
    rw [List.flatMap_cons, List.append_assoc] at hp
    cases s' with
    | nil =>
      obtain ⟨x, y, e, hx⟩ := esc_hd (h1 c List.mem_cons_self)
      rw [e] at hp
      exact absurd (List.cons_prefix_cons.mp hp).1 hx
    | cons c' s' =>
      rw [List.flatMap_cons, List.append_assoc] at hp
      by_cases hc : c = c'
      · subst hc
        rw [ih s' r r' (fun x hx => h1 x (List.mem_cons_of_mem _ hx)) (fun x hx => h2 x (List.mem_cons_of_mem _ hx)) ((List.prefix_append_right_inj _).mp hp)]
      · exact absurd hp (pre_dif _ _ _ _ false (esc_dif (h1 c List.mem_cons_self) (h2 c' List.mem_cons_self) hc))
theorem pre_pstr {s s' r' : List Int32} (h1 : okS s) (h2 : okS s') : pstr s <+: (pstr s' ++ r') ↔ s = s' := by
  constructor
  · intro hp
    unfold pstr at hp
    rw [List.cons_append, List.cons_prefix_cons, List.append_assoc] at hp
    exact pre_str s s' [] r' h1 h2 hp.2
  · intro e
    rw [e]
    exact List.prefix_append _ _
theorem itemBy_l {us bs r s : List Int32} {z : Int32} {p : Int32} (hl : us.length ≤ 4096) (hA : asc us) (hs : okS s) (hbs : bs = pstr s) (hb : bs.length ≤ 100) (h3 : ∀ u ∈ bs, u ≠ -1) (hz : z = 93 ∨ z = 125) : ∀ (l : List Mb) (n c q : Nat), okL l → l ≠ [] → us.drop q = jn (l.map (bM true)) ++ z :: r → l.length < n → c ≤ q → t_itemBy_l us bs n p (Int32.ofNat q) (Int32.ofNat c) = some (if l.findIdx (fun m => m.1 == s) < l.length then Int32.ofNat (ip true q l (l.findIdx (fun m => m.1 == s))) else -1) := by
  intro l
  induction l with
  | nil => intro n c q _ h; exact absurd rfl h
  | cons m l ih =>
    intro n c q hw _ h hn hc
    obtain ⟨n1, -, n2, n3⟩ := nx hl hA (hw m List.mem_cons_self) hz h
    obtain ⟨r'', hm⟩ := member_str h
    cases n with
    | zero => omega
    | succ n =>
      unfold t_itemBy_l
      rw [if_neg (by rw [i_le' (by omega) (by omega)]; omega), if_neg (i_ne1 (by omega)), begins_val hl (by omega) hb h3, o_bind, hm, hbs]
      by_cases e : m.1 = s
      · rw [if_pos ((pre_pstr hs (hw m List.mem_cons_self).1).mpr e.symm), if_neg (by decide)]
        have : (m :: l).findIdx (fun m => m.1 == s) = 0 := by rw [List.findIdx_cons]; simp [e]
        rw [this, ip_0, if_pos (by simp)]
      · rw [if_neg (fun e2 => e ((pre_pstr hs (hw m List.mem_cons_self).1).mp e2).symm), if_pos rfl, n2, o_bind, i_a1, ← hbs]
        have ef : (m :: l).findIdx (fun m => m.1 == s) = l.findIdx (fun m => m.1 == s) + 1 := by
          rw [List.findIdx_cons, show (m.1 == s) = false by simp [e]]; rfl
        rw [ef]
        by_cases en : l = []
        · rw [if_pos en, en]
          simp only [List.length_cons, List.length_nil] at hn
          cases n with
          | zero => omega
          | succ n =>
            unfold t_itemBy_l
            rw [if_neg (show ¬ List.findIdx (fun m => m.1 == s) ([] : List Mb) + 1 < [m].length by simp)]
            by_cases e3 : Int32.ofNat us.length ≤ Int32.ofNat (c + 1)
            · rw [if_pos e3]
            · rw [if_neg e3, if_pos rfl]
        · rw [if_neg en, ih n (c + 1) _ hw.tail en (n3 en) (by simp only [List.length_cons] at hn; omega) (by omega), ip_s]
          congr 1
          by_cases e3 : l.findIdx (fun m => m.1 == s) < l.length
          · rw [if_pos e3, if_pos (by simp only [List.length_cons]; omega)]
          · rw [if_neg e3, if_neg (by simp only [List.length_cons]; omega)]
theorem itemBy_val {us bs r s : List Int32} {v : Int} {s0 : List Int32} {l : List Mb} {p : Nat} (hl : us.length ≤ 4096) (hA : asc us) (hw : okL l) (hs : okS s) (hbs : bs = pstr s) (hb : bs.length ≤ 100) (h3 : ∀ u ∈ bs, u ≠ -1) (h : us.drop p = bV (6, v, s0, ofL l) ++ r) : t_itemBy us bs (Int32.ofNat p) = some (if l.findIdx (fun m => m.1 == s) < l.length then Int32.ofNat (ip true (p + 1) l (l.findIdx (fun m => m.1 == s))) else -1) := by
  unfold t_itemBy
  rw [first_item hl hw (Or.inr rfl) h, o_bind]
  have hb' := box_len (Or.inr rfl) h
  by_cases e : l = []
  · rw [if_pos e, e]
    unfold t_itemBy_l
    rw [if_neg (by rw [i_z 0, i_le' (by omega) (by omega)]; omega), if_pos rfl]
    simp
  · rw [if_neg e, i_z 0]
    exact itemBy_l hl hA hs hbs hb h3 (by simp) l 10000 0 (p + 1) hw e (box_in (Or.inr rfl) h) (by omega) (by omega)
end Named113
