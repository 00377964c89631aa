/-! Printed strings: compared, counted. -/
section Str112
def escC (n : Nat) (l : List Int32) : Bool := match l with
  | [x] => x == Int32.ofNat n && (x != 34 && x != 92)
  | [a, x] => a == 92 && (x != 117 && sg_meaning x == Int32.ofNat n)
  | [a, b, _, _, x, y] => a == 92 && (b == 117 && sg_hexv x * 16 + sg_hexv y == Int32.ofNat n)
  | _ => false
theorem esc_C : ∀ n, n < 128 → escC n (esc (Int32.ofNat n)) = true := by decide +kernel
theorem drop_nth {us w r : List Int32} {p j : Nat} (hl : us.length ≤ 4096) (h : us.drop p = w ++ r) (hj : j < w.length) : tat us (Int32.ofNat (p + j)) = w[j] := by
  have h1 : us.drop (p + j) = (w ++ r).drop j := by rw [← List.drop_drop, h]
  rw [List.drop_append_of_le_length (by omega), List.drop_eq_getElem_cons hj] at h1
  exact drop_at hl h1
theorem esc_char {us r : List Int32} {c : Int32} {p : Nat} (hl : us.length ≤ 4096) (hc : 0 ≤ c ∧ c ≤ 127) (h : us.drop p = esc c ++ r) : t_width us (Int32.ofNat p) = some (Int32.ofNat (esc c).length) ∧ t_char us (Int32.ofNat p) = some c := by
  obtain ⟨n, hn, rfl⟩ := ch_of hc
  have := esc_C n hn
  generalize esc (Int32.ofNat n) = l at this h
  unfold escC at this
  have h0 : ∀ j, j < l.length → Int32.ofNat p + Int32.ofNat j = Int32.ofNat (p + j) := fun j _ => (Int32.ofNat_add p j).symm
  split at this
  · rename_i x
    simp only [Bool.and_eq_true, beq_iff_eq, bne_iff_ne, ne_eq] at this
    obtain ⟨t1, t2, t3⟩ := this
    have a0 := drop_nth hl h (j := 0) (by simp)
    simp only [Nat.add_zero, List.getElem_cons_zero] at a0
    unfold t_width t_char
    rw [a0, if_neg t3, if_neg t2, if_neg t3, t1]
    exact ⟨rfl, rfl⟩
  · rename_i a x
    simp only [Bool.and_eq_true, beq_iff_eq, bne_iff_ne, ne_eq] at this
    obtain ⟨t1, t2, t3⟩ := this
    have a0 := drop_nth hl h (j := 0) (by simp)
    have a1 := drop_nth hl h (j := 1) (by simp)
    simp only [Nat.add_zero, List.getElem_cons_zero, List.getElem_cons_succ] at a0 a1
    unfold t_width t_char
    rw [a0, t1, i_a1, a1, if_pos rfl, if_neg t2, if_neg (by decide), if_pos rfl, if_neg t2, t3]
    exact ⟨rfl, rfl⟩
  · rename_i a b u w x y
    simp only [Bool.and_eq_true, beq_iff_eq] at this
    obtain ⟨t1, t2, t3⟩ := this
    have a0 := drop_nth hl h (j := 0) (by simp)
    have a1 := drop_nth hl h (j := 1) (by simp)
    have a4 := drop_nth hl h (j := 4) (by simp)
    have a5 := drop_nth hl h (j := 5) (by simp)
    simp only [Nat.add_zero, List.getElem_cons_zero, List.getElem_cons_succ] at a0 a1 a4 a5
    unfold t_width t_char
    rw [show Int32.ofNat p + 4 = Int32.ofNat (p + 4) from (Int32.ofNat_add p 4).symm, show Int32.ofNat p + 5 = Int32.ofNat (p + 5) from (Int32.ofNat_add p 5).symm, a0, t1, i_a1, a1, t2, a4, a5, if_pos rfl, if_pos rfl, if_neg (by decide), if_pos rfl, if_pos rfl, t3]
    exact ⟨rfl, rfl⟩
  · cases this
/-- steps of the comparison -/
def dif : Bool → List Int32 → List Int32 → Bool
  | f, x :: a, y :: b => if x = y then (if x = 34 ∧ f = false then false else dif (x == 92 && !f) a b) else true
  | _, _, _ => false
def run : Bool → List Int32 → Option Bool
  | f, [] => some f
  | f, x :: a => if x = 34 ∧ f = false then none else run (x == 92 && !f) a
def escT : List (List Int32) := (List.range 128).map fun n => esc (Int32.ofNat n)
theorem esc_R : ∀ n, n < 128 → run false (esc (Int32.ofNat n)) = some false := by decide +kernel
theorem esc_D : ((List.range 128).all fun n => (List.range 128).all fun m => n == m || dif false (esc (Int32.ofNat n)) (esc (Int32.ofNat m))) = true := by decide +kernel
theorem esc_dif {c c' : Int32} (h : 0 ≤ c ∧ c ≤ 127) (h' : 0 ≤ c' ∧ c' ≤ 127) (hn : c ≠ c') : dif false (esc c) (esc c') = true := by
  obtain ⟨n, h1, rfl⟩ := ch_of h
  obtain ⟨m, h2, rfl⟩ := ch_of h'
  have := List.all_eq_true.mp (List.all_eq_true.mp esc_D n (List.mem_range.mpr h1)) m (List.mem_range.mpr h2)
  rw [Bool.or_eq_true, beq_iff_eq] at this
  rcases this with e | e
  · exact absurd (by rw [e]) hn
  · exact e
theorem esc_run {c : Int32} (h : 0 ≤ c ∧ c ≤ 127) : run false (esc c) = some false := by
  obtain ⟨n, h1, rfl⟩ := ch_of h
  exact esc_R n h1
def fl (f : Bool) : Int32 := if f then 1 else 0
/-- both have the same sign -/
theorem same_step {us vs A B : List Int32} {x : Int32} {f : Bool} {p q i n : Nat} (hu : us.length ≤ 4096) (hv : vs.length ≤ 4096) (h1 : us.drop (p + i) = x :: A) (h2 : vs.drop (q + i) = x :: B) : t_same_l us vs (n + 1) (Int32.ofNat p) (Int32.ofNat q) (fl f) (Int32.ofNat i) = if x = 34 ∧ f = false then some 1 else t_same_l us vs n (Int32.ofNat p) (Int32.ofNat q) (fl (x == 92 && !f)) (Int32.ofNat (i + 1)) := by
  have l1 := drop_len (w := [x]) h1 (by simp)
  simp only [List.length_cons, List.length_nil] at l1
  have e1 : tat us (Int32.ofNat p + Int32.ofNat i) = x := by rw [← Int32.ofNat_add]; exact drop_at hu h1
  have e2 : tat vs (Int32.ofNat q + Int32.ofNat i) = x := by rw [← Int32.ofNat_add]; exact drop_at hv h2
  have e3 : ¬ (4096 : Int32) ≤ Int32.ofNat i := by
    rw [show (4096 : Int32) = Int32.ofNat 4096 from rfl, i_le' (by omega) (by omega)]; omega
  show (if (4096 : Int32) ≤ Int32.ofNat i then some 0 else _) = _
  rw [if_neg e3, e1, e2, if_pos rfl, i_a1]
  cases f with
  | false =>
    by_cases b1 : x = 34
    · rw [if_pos b1, if_pos (show fl false = 0 from rfl), if_pos ⟨b1, rfl⟩]
    · rw [if_neg b1, if_neg (show ¬ (x = 34 ∧ false = false) from fun e => b1 e.1)]
      by_cases b2 : x = 92
      · rw [if_pos b2, if_pos (show fl false = 0 from rfl), b2]; rfl
      · rw [if_neg b2, show (x == 92 && !false) = false by simp [b2]]; rfl
  | true =>
    rw [show (x == 92 && !true) = false by simp, if_neg (show ¬ (x = 34 ∧ true = false) from fun e => absurd e.2 (by decide))]
    by_cases b1 : x = 34
    · rw [if_pos b1, if_neg (show ¬ fl true = 0 by decide), if_neg (by rw [b1]; decide)]; rfl
    · rw [if_neg b1]
      by_cases b2 : x = 92
      · rw [if_pos b2, if_neg (show ¬ fl true = 0 by decide)]; rfl
      · rw [if_neg b2]; rfl
theorem same_stop {us vs A B : List Int32} {x y : Int32} {f : Bool} {p q i n : Nat} (hu : us.length ≤ 4096) (hv : vs.length ≤ 4096) (h1 : us.drop (p + i) = x :: A) (h2 : vs.drop (q + i) = y :: B) (hn : x ≠ y) : t_same_l us vs (n + 1) (Int32.ofNat p) (Int32.ofNat q) (fl f) (Int32.ofNat i) = some 0 := by
  have l1 := drop_len (w := [x]) h1 (by simp)
  simp only [List.length_cons, List.length_nil] at l1
  have e1 : tat us (Int32.ofNat p + Int32.ofNat i) = x := by rw [← Int32.ofNat_add]; exact drop_at hu h1
  have e2 : tat vs (Int32.ofNat q + Int32.ofNat i) = y := by rw [← Int32.ofNat_add]; exact drop_at hv h2
  have e3 : ¬ (4096 : Int32) ≤ Int32.ofNat i := by
    rw [show (4096 : Int32) = Int32.ofNat 4096 from rfl, i_le' (by omega) (by omega)]; omega
  show (if (4096 : Int32) ≤ Int32.ofNat i then some 0 else _) = _
  rw [if_neg e3, e1, e2, if_neg hn]
theorem same_dif {us vs : List Int32} {p q : Nat} (hu : us.length ≤ 4096) (hv : vs.length ≤ 4096) : ∀ (a b A B : List Int32) (f : Bool) (i n : Nat), dif f a b = true → us.drop (p + i) = a ++ A → vs.drop (q + i) = b ++ B → a.length ≤ n → t_same_l us vs n (Int32.ofNat p) (Int32.ofNat q) (fl f) (Int32.ofNat i) = some 0 := by
  intro a
  induction a with
  | nil => intro b A B f i n h; cases b <;> cases h
  | cons x a ih =>
    intro b A B f i n h h1 h2 hn
    cases b with
    | nil => cases h
    | cons y b =>
      cases n with
      | zero => simp at hn
      | succ n =>
        unfold dif at h
        by_cases e : x = y
        · subst e
          rw [if_pos rfl] at h
          by_cases e2 : x = 34 ∧ f = false
          · rw [if_pos e2] at h; cases h
          · rw [if_neg e2] at h
            rw [same_step hu hv h1 h2, if_neg e2]
            exact ih b A B _ (i + 1) n h (drop_more (w := [x]) h1) (drop_more (w := [x]) h2) (by simp only [List.length_cons] at hn; omega)
        · exact same_stop hu hv h1 h2 e
theorem same_run {us vs : List Int32} {p q : Nat} (hu : us.length ≤ 4096) (hv : vs.length ≤ 4096) : ∀ (a A B : List Int32) (f g : Bool) (i n : Nat), run f a = some g → us.drop (p + i) = a ++ A → vs.drop (q + i) = a ++ B → t_same_l us vs (n + a.length) (Int32.ofNat p) (Int32.ofNat q) (fl f) (Int32.ofNat i) = t_same_l us vs n (Int32.ofNat p) (Int32.ofNat q) (fl g) (Int32.ofNat (i + a.length)) := by
  intro a
  induction a with
  | nil => intro A B f g i n h _ _; cases h; rfl
  | cons x a ih =>
    intro A B f g i n h h1 h2
    unfold run at h
    by_cases e2 : x = 34 ∧ f = false
    · rw [if_pos e2] at h; cases h
    · rw [if_neg e2] at h
      rw [show n + (x :: a).length = (n + a.length) + 1 from rfl, same_step hu hv h1 h2, if_neg e2, ih A B _ g (i + 1) n h (drop_more (w := [x]) h1) (drop_more (w := [x]) h2)]
      simp only [List.length_cons]
      rw [show i + 1 + a.length = i + (a.length + 1) by omega]
theorem esc_hd {c : Int32} (h : 0 ≤ c ∧ c ≤ 127) : ∃ x y, esc c = x :: y ∧ x ≠ 34 := by
  have := esc_run h
  cases hc : esc c with
  | nil =>
    have := (esc_pass h).1 false 0 []
    obtain ⟨n, h1, rfl⟩ := ch_of h
    have := esc_C n h1
    rw [hc] at this
    cases this
  | cons x y =>
    refine ⟨x, y, rfl, fun e => ?_⟩
    rw [hc] at this
    unfold run at this
    rw [if_pos ⟨e, rfl⟩] at this
    cases this
theorem same_chars {us vs r r' : List Int32} {p q : Nat} (hu : us.length ≤ 4096) (hv : vs.length ≤ 4096) : ∀ (s s' : List Int32) (i n : Nat), okS s → okS s' → us.drop (p + i) = s.flatMap esc ++ 34 :: r → vs.drop (q + i) = s'.flatMap esc ++ 34 :: r' → (s.flatMap esc).length + 1 ≤ n → t_same_l us vs n (Int32.ofNat p) (Int32.ofNat q) 0 (Int32.ofNat i) = some (if s = s' then 1 else 0) := by
  intro s
  induction s with
  | nil =>
    intro s' i n _ h2 h3 h4 hn
    cases n with
    | zero => omega
    | succ n =>
      cases s' with
      | nil =>
        rw [show (0 : Int32) = fl false from rfl, same_step hu hv h3 h4, if_pos ⟨rfl, rfl⟩]
        rfl
      | cons c' s' =>
        obtain ⟨x, y, e, hx⟩ := esc_hd (h2 c' List.mem_cons_self)
        rw [List.flatMap_cons, e] at h4
        rw [show (0 : Int32) = fl false from rfl, same_stop hu hv h3 (by simpa using h4) (fun e => hx e.symm)]
        rfl
  | cons c s ih =>
    intro s' i n h1 h2 h3 h4 hn
    rw [List.flatMap_cons, List.append_assoc] at h3
    rw [List.flatMap_cons, List.length_append] at hn
    cases s' with
    | nil =>
      obtain ⟨x, y, e, hx⟩ := esc_hd (h1 c List.mem_cons_self)
      rw [e] at h3 hn
      cases n with
      | zero => omega
      | succ n =>
        rw [show (0 : Int32) = fl false from rfl, same_stop hu hv (by simpa using h3) h4 hx]
        rfl
    | cons c' s' =>
      rw [List.flatMap_cons, List.append_assoc] at h4
      by_cases hc : c = c'
      · subst hc
        obtain ⟨k, rfl⟩ : ∃ k, n = k + (esc c).length := ⟨n - (esc c).length, by omega⟩
        rw [show (0 : Int32) = fl false from rfl, same_run hu hv _ _ _ false false i k (esc_run (h1 c List.mem_cons_self)) h3 h4]
        have := ih s' (i + (esc c).length) k (fun x hx => h1 x (List.mem_cons_of_mem _ hx)) (fun x hx => h2 x (List.mem_cons_of_mem _ hx)) (by rw [← Nat.add_assoc]; exact drop_more h3) (by rw [← Nat.add_assoc]; exact drop_more h4) (by omega)
        rw [show fl false = 0 from rfl, this]
        simp
      · rw [if_neg (by simp [hc])]
        exact same_dif hu hv _ _ _ _ false i n (esc_dif (h1 c List.mem_cons_self) (h2 c' List.mem_cons_self) hc) h3 h4 (by omega)
/-- two printed strings are the same when what they stand for is -/
theorem same_str {us vs r r' s s' : List Int32} {p q : Nat} (hu : us.length ≤ 4096) (hv : vs.length ≤ 4096) (h1 : okS s) (h2 : okS s') (h3 : us.drop p = pstr s ++ r) (h4 : vs.drop q = pstr s' ++ r') : t_same us vs (Int32.ofNat p) (Int32.ofNat q) = some (if s = s' then 1 else 0) := by
  unfold t_same
  have l1 := drop_len h3 (by simp [pstr])
  have e3 := drop_more (w := [34]) (r := s.flatMap esc ++ 34 :: r) (by rw [h3, pstr]; simp)
  have e4 := drop_more (w := [34]) (r := s'.flatMap esc ++ 34 :: r') (by rw [h4, pstr]; simp)
  have : (pstr s).length = (s.flatMap esc).length + 2 := by simp [pstr]
  exact same_chars hu hv s s' 1 10000 h1 h2 e3 e4 (by omega)
end Str112
