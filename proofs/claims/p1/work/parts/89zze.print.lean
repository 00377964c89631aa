/-! The reference prints a value: its bytes. -/
section Print120
def wch52 (c l2 : Int32) : Option (List Int32) := if c = 34 then some [92, c] else if c = 92 then some [92, c] else if l2 < 0 then (if c < 32 then ((sch k37 (c / 16)).bind fun a => (sch k37 (c - c / 16 * 16)).bind fun b => some (92 :: (k35 ++ [a, b]))) else if c = 127 then ((sch k37 (c / 16)).bind fun a => (sch k37 (c - c / 16 * 16)).bind fun b => some (92 :: (k35 ++ [a, b]))) else some [c]) else (sch k33 l2).bind fun a => some [92, a]
def wch (c : Int32) : Option (List Int32) := if c = 8 then wch52 c 0 else if c = 9 then wch52 c 1 else if c = 10 then wch52 c 2 else if c = 12 then wch52 c 3 else if c = 13 then wch52 c 4 else wch52 c (-1)
theorem wch_52 (S : SS) (o : Nat) (B : List Int32) (c l2 : Int32) : w_char_l52 o (up S o (pv B)) c l2 = (wch52 c l2).map fun l => up S o (pv (B ++ l)) := by
  have hx : ∀ a b : Int32, B ++ [92] ++ k35 ++ [a] ++ [b] = B ++ 92 :: (k35 ++ [a, b]) := by intro a b; simp
  have ew : ∀ (x y : Option Int32), ((w_words (sppu (up S o (pv B)) o 92) o k35).bind fun r11 => (x.bind fun r13 => (y.bind fun r16 => some (sppu (sppu r11 o r13) o r16)))) = ((x.bind fun a => y.bind fun b => some (92 :: (k35 ++ [a, b])))).map fun l => up S o (pv (B ++ l)) := by
    intro x y
    rw [sppu_pv, words_pv (by decide), o_bind]
    cases x with
    | none => rfl
    | some x =>
      cases y with
      | none => rfl
      | some y =>
        simp only [Option.bind_some, Option.map_some]
        rw [sppu_pv, sppu_pv, hx]
  unfold w_char_l52 wch52
  by_cases h1 : c = 34
  · rw [if_pos h1, if_pos h1, sppu_pv, sppu_pv, List.append_assoc]; rfl
  rw [if_neg h1, if_neg h1]
  by_cases h2 : c = 92
  · rw [if_pos h2, if_pos h2, sppu_pv, sppu_pv, List.append_assoc]; rfl
  rw [if_neg h2, if_neg h2]
  by_cases h3 : l2 < 0
  · rw [if_pos h3, if_pos h3]
    by_cases h4 : c < 32
    · rw [if_pos h4, if_pos h4]; exact ew _ _
    rw [if_neg h4, if_neg h4]
    by_cases h5 : c = 127
    · rw [if_pos h5, if_pos h5]; exact ew _ _
    rw [if_neg h5, if_neg h5, sppu_pv]; rfl
  · rw [if_neg h3, if_neg h3]
    cases sch k33 l2 with
    | none => rfl
    | some a =>
      simp only [Option.bind_some, Option.map_some]
      rw [sppu_pv, sppu_pv, List.append_assoc]; rfl
theorem wch_esc : ∀ n, n < 128 → wch (Int32.ofNat n) = some (esc (Int32.ofNat n)) := by decide +kernel
theorem char_pv {c : Int32} (h : 0 ≤ c ∧ c ≤ 127) (S : SS) (o : Nat) (B : List Int32) : w_char (up S o (pv B)) o c = some (up S o (pv (B ++ esc c))) := by
  have e : w_char (up S o (pv B)) o c = (wch c).map fun l => up S o (pv (B ++ l)) := by
    unfold w_char wch
    by_cases h1 : c = 8
    · rw [if_pos h1, if_pos h1, wch_52]
    rw [if_neg h1, if_neg h1]
    by_cases h1 : c = 9
    · rw [if_pos h1, if_pos h1, wch_52]
    rw [if_neg h1, if_neg h1]
    by_cases h1 : c = 10
    · rw [if_pos h1, if_pos h1, wch_52]
    rw [if_neg h1, if_neg h1]
    by_cases h1 : c = 12
    · rw [if_pos h1, if_pos h1, wch_52]
    rw [if_neg h1, if_neg h1]
    by_cases h1 : c = 13
    · rw [if_pos h1, if_pos h1, wch_52]
    rw [if_neg h1, if_neg h1, wch_52]
  obtain ⟨n, hn, rfl⟩ := ch_of h
  rw [e, wch_esc n hn]
  rfl
/-- digits -/
theorem l_div10 (v : Nat) (h : v < 4611686018427387904) : Int64.ofInt v / 10 = Int64.ofInt ((v / 10 : Nat) : Int) := by
  apply Int64.toInt_inj.mp
  have e : (v : Int).tdiv 10 = ((v / 10 : Nat) : Int) := (Int.ofNat_tdiv v 10).symm
  rw [Int64.toInt_div, l_of (by omega) (by omega), l_of (by omega) (by omega), show (10 : Int64).toInt = 10 from rfl, e, Int.bmod_def]
  omega
theorem l_mod10 (v : Nat) (h : v < 4611686018427387904) : (48 + (Int64.ofInt v - Int64.ofInt v / 10 * 10)).toInt32 = Int32.ofNat (48 + v % 10) := by
  rw [l_div10 v h, show (48 : Int64) = Int64.ofInt 48 from rfl, show (10 : Int64) = Int64.ofInt 10 from rfl, ← Int64.ofInt_mul, ← Int64.ofInt_sub, ← Int64.ofInt_add]
  have e : (48 + ((v : Int) - ((v / 10 : Nat) : Int) * 10)) = ((48 + v % 10 : Nat) : Int) := by omega
  rw [e]
  apply Int32.toInt_inj.mp
  rw [Int64.toInt_toInt32, l_of (by omega) (by omega), i_of (by omega), Int.bmod_def]
  omega
theorem digits_pv {o : Nat} : ∀ (n v : Nat) (S : SS) (B : List Int32), v < 10 ^ n → v < 4611686018427387904 → 0 < n → w_digits n (up S o (pv B)) o (Int64.ofInt v) = some (up S o (pv (B ++ digF n v))) := by
  intro n
  induction n with
  | zero => intro v S B _ _ h; omega
  | succ n ih =>
    intro v S B hv h9 _
    show w_digitsB _ _ _ _ = _
    unfold w_digitsB digF
    rw [l_mod10 v h9]
    by_cases h : v < 10
    · rw [if_pos ((lg_le _ _).mpr (by rw [l_of (by omega) (by omega), show (9 : Int64).toInt = 9 from rfl]; omega)), if_pos h, sppu_pv, show v % 10 = v by omega]
    · cases n with
      | zero => simp at hv; omega
      | succ n =>
        rw [if_neg (by rw [lg_le, l_of (by omega) (by omega), show (9 : Int64).toInt = 9 from rfl]; omega), if_neg h, l_div10 v h9, ih (v / 10) S B (by rw [Nat.pow_succ] at hv; omega) (by omega) (by omega), o_bind, sppu_pv, List.append_assoc]
theorem strs_l {o aa : Nat} {rec : SS → Nat → Nat → Int32 → Option SS} {r : List Int32} {e : Nat} (hne : aa ≠ o) : ∀ (s : List Int32) (n q : Nat) (S : SS) (B : List Int32), (S aa).length ≤ 9000 → okS s → (S aa).drop q = s ++ r → q + s.length = e → e ≤ 9000 → s.length < n → w_valueB_l127 o aa rec n (up S o (pv B)) (Int32.ofNat e) (Int32.ofNat q) = some (up S o (pv (B ++ (s.flatMap esc ++ [34])))) := by
  intro s
  induction s with
  | nil =>
    intro n q S B hb _ h he h9 hn
    cases n with
    | zero => omega
    | succ n =>
      unfold w_valueB_l127
      rw [if_pos ((i_le' (by omega) (by simp at he; omega)).mpr (by simp at he; omega)), sppu_pv]
      rfl
  | cons c s ih =>
    intro n q S B hb hs h he h9 hn
    simp only [List.length_cons] at he hn
    cases n with
    | zero => omega
    | succ n =>
      unfold w_valueB_l127
      rw [if_neg (by rw [i_le' (by omega) (by omega)]; omega), up_ne hne, iget_drop hb h, o_bind, char_pv (hs c List.mem_cons_self), o_bind, i_a1, ih n (q + 1) S _ hb (fun x hx => hs x (List.mem_cons_of_mem _ hx)) (drop_more (w := [c]) h) (by omega) h9 (by omega), List.flatMap_cons]
      simp [List.append_assoc]
/-- what comes behind an item -/
def tl (b : Bool) (l : List Mb) : List Int32 := if l = [] then [] else 44 :: jn (l.map (bM b))
theorem jn_tl (b : Bool) (m : Mb) (l : List Mb) : jn ((m :: l).map (bM b)) = bM b m ++ tl b l := jn_cons b m l
theorem tl_cons (b : Bool) (m : Mb) (l : List Mb) : tl b (m :: l) = 44 :: (bM b m ++ tl b l) := by
  unfold tl
  rw [if_neg (by simp), jn_cons]
theorem arr_l {o aa p e : Nat} {rec : SS → Nat → Nat → Int32 → Option SS} {r : List Int32} {S : SS} (hne : aa ≠ o) (hb : (S aa).length ≤ 9000) : ∀ (l : List Mb) (n q : Nat) (B : List Int32), okL l → (∀ m ∈ l, ∀ (q : Nat) (B r' : List Int32), (S aa).drop q = cV m.2 ++ r' → rec (up S o (pv B)) o aa (Int32.ofNat q) = some (up S o (pv (B ++ bV m.2)))) → (S aa).drop q = (blks false l).flatten ++ r → q + (blks false l).flatten.length = e → e ≤ 9000 → p + 2 < q → l.length < n → w_valueB_l162 o aa rec n (up S o (pv B)) (Int32.ofNat p) (Int32.ofNat e) (Int32.ofNat q) = some (up S o (pv (B ++ (tl false l ++ [93])))) := by
  intro l
  induction l with
  | nil =>
    intro n q B _ _ h he h9 hp hn
    cases n with
    | zero => omega
    | succ n =>
      have : (blks false []).flatten.length = 0 := rfl
      unfold w_valueB_l162
      rw [if_pos ((i_le' (by omega) (by omega)).mpr (by omega)), sppu_pv]
      rfl
  | cons m l ih =>
    intro n q B hw hr h he h9 hp hn
    have eb : blks false (m :: l) = cV m.2 :: blks false l := rfl
    rw [eb] at h he
    obtain ⟨s1, s2, s3, s4⟩ := blk_step hb (by rw [← eb]; exact blks_h hw) h
    rw [List.flatten_cons, List.length_append] at he
    rw [List.flatten_cons, List.append_assoc] at h
    simp only [List.length_cons] at hn
    cases n with
    | zero => omega
    | succ n =>
      unfold w_valueB_l162
      rw [if_neg (by rw [i_le' (by omega) (by omega)]; omega), show Int32.ofNat p + 2 = Int32.ofNat (p + 2) from (Int32.ofNat_add p 2).symm, if_neg (by rw [i_le' (by omega) (by omega)]; omega), sppu_pv, hr m List.mem_cons_self q _ _ h, o_bind, up_ne hne, s1, o_bind, ih n (q + (cV m.2).length) _ hw.tail (fun m' hm' => hr m' (List.mem_cons_of_mem _ hm')) s2 (by omega) h9 (by omega) (by omega), tl_cons]
      simp [bM, List.append_assoc]
theorem obj_l {o aa p e : Nat} {rec : SS → Nat → Nat → Int32 → Option SS} {r : List Int32} {S : SS} (hne : aa ≠ o) (hb : (S aa).length ≤ 9000) (hst : ∀ (s : List Int32) (q : Nat) (B r' : List Int32), okS s → (S aa).drop q = cstr s ++ r' → rec (up S o (pv B)) o aa (Int32.ofNat q) = some (up S o (pv (B ++ pstr s)))) : ∀ (l : List Mb) (n q : Nat) (B : List Int32), okL l → (∀ m ∈ l, ∀ (q : Nat) (B r' : List Int32), (S aa).drop q = cV m.2 ++ r' → rec (up S o (pv B)) o aa (Int32.ofNat q) = some (up S o (pv (B ++ bV m.2)))) → (S aa).drop q = (blks true l).flatten ++ r → q + (blks true l).flatten.length = e → e ≤ 9000 → p + 2 < q → l.length < n → w_valueB_l215 o aa rec n (up S o (pv B)) (Int32.ofNat p) (Int32.ofNat e) (Int32.ofNat q) = some (up S o (pv (B ++ (tl true l ++ [125])))) := by
  intro l
  induction l with
  | nil =>
    intro n q B _ _ h he h9 hp hn
    cases n with
    | zero => omega
    | succ n =>
      have : (blks true []).flatten.length = 0 := rfl
      unfold w_valueB_l215
      rw [if_pos ((i_le' (by omega) (by omega)).mpr (by omega)), sppu_pv]
      rfl
  | cons m l ih =>
    intro n q B hw hr h he h9 hp hn
    have eb : blks true (m :: l) = cstr m.1 :: cV m.2 :: blks true l := rfl
    rw [eb] at h he
    have hh : ∀ x ∈ cstr m.1 :: cV m.2 :: blks true l, hdd x := by rw [← eb]; exact blks_h hw
    obtain ⟨s1, s2, s3, s4⟩ := blk_step hb hh h
    obtain ⟨u1, u2, u3, u4⟩ := blk_step hb (fun x hx => hh x (List.mem_cons_of_mem _ hx)) s2
    rw [List.flatten_cons, List.length_append, List.flatten_cons, List.length_append] at he
    rw [List.flatten_cons, List.append_assoc] at h
    rw [List.flatten_cons, List.append_assoc] at s2
    simp only [List.length_cons] at hn
    cases n with
    | zero => omega
    | succ n =>
      unfold w_valueB_l215
      rw [if_neg (by rw [i_le' (by omega) (by omega)]; omega), show Int32.ofNat p + 2 = Int32.ofNat (p + 2) from (Int32.ofNat_add p 2).symm, if_neg (by rw [i_le' (by omega) (by omega)]; omega), sppu_pv, hst m.1 q _ _ (hw m List.mem_cons_self).1 h, o_bind, sppu_pv, up_ne hne, s1, o_bind, hr m List.mem_cons_self _ _ _ s2, o_bind, up_ne hne, s1, o_bind, u1, o_bind, ih n _ _ hw.tail (fun m' hm' => hr m' (List.mem_cons_of_mem _ hm')) u2 (by omega) h9 (by omega) (by omega), tl_cons]
      simp [bM, List.append_assoc]
theorem k27_ : k27 = [110, 117, 108, 108] := rfl
/-- a value printed -/
theorem value_str {s : List Int32} (hs : okS s) (n : Nat) (S : SS) (o aa p : Nat) (B r : List Int32) (hne : aa ≠ o) (hb : (S aa).length ≤ 9000) (h : (S aa).drop p = cstr s ++ r) : w_value (n + 1) (up S o (pv B)) o aa (Int32.ofNat p) = some (up S o (pv (B ++ pstr s))) := by
  obtain ⟨n1, n2⟩ := rnext_at hb (cstr_hdd s) h
  have hi : iget (S aa) (Int32.ofNat p) = some 4 := iget_drop hb h
  have e1 : (cstr s).length = s.length + 2 := by simp [cstr]
  show w_valueB _ _ _ _ _ = _
  unfold w_valueB
  rw [up_ne hne, n1, o_bind, hi, o_bind, if_neg (by decide), if_neg (by decide), if_neg (by decide), if_neg (by decide), if_pos rfl, sppu_pv, show Int32.ofNat p + 2 = Int32.ofNat (p + 2) from (Int32.ofNat_add p 2).symm, strs_l hne s 10000 (p + 2) S _ hb hs (drop_more (w := [4, Int32.ofNat (s.length + 2)]) h) (by omega) (by omega) (by omega)]
  simp [pstr]
theorem value_pv (t : Vl) : wV t → ∀ (n : Nat), dV t + 1 ≤ n → ∀ (S : SS) (o aa p : Nat) (B r : List Int32), aa ≠ o → (S aa).length ≤ 9000 → (S aa).drop p = cV t ++ r → w_value n (up S o (pv B)) o aa (Int32.ofNat p) = some (up S o (pv (B ++ bV t))) := by
  induction t using Vl.ind with
  | h k v s l ih =>
    intro hw n hn S o aa p B r hne hb h
    have hk := hw.kids
    obtain ⟨w1, w2, w3, w4, w5, w6⟩ := hw
    simp only at w1 w2 w3 w4 w5 w6
    cases n with
    | zero => omega
    | succ n =>
    have h6 : (k, v, s, ofL l).1 ≤ 6 := w1
    obtain ⟨n1, n2⟩ := rnext_at hb (cV_h h6) h
    obtain ⟨t, ht⟩ := cV_hdd h6
    have hi : iget (S aa) (Int32.ofNat p) = some (Int32.ofNat k) := by
      have h' := h
      rw [ht] at h'
      exact iget_drop hb h'
    have kids : ∀ m ∈ l, dV m.2 + 1 ≤ n ∨ ¬ (k = 5 ∨ k = 6) := by
      intro m hm
      by_cases hkk : k = 5 ∨ k = 6
      · left
        have h1 : dV (k, v, s, ofL l) = 1 + dF (ofL l) := by unfold dV; rw [if_pos hkk]
        have h2 := dF_mem (f := ofL l) (m := m) (by rw [toL_ofL]; exact hm)
        omega
      · exact Or.inr hkk
    show w_valueB _ _ _ _ _ = _
    unfold w_valueB
    rw [up_ne hne, n1, o_bind, hi, o_bind]
    have : k = 0 ∨ k = 1 ∨ k = 2 ∨ k = 3 ∨ k = 4 ∨ k = 5 ∨ k = 6 := by omega
    rcases this with rfl | rfl | rfl | rfl | rfl | rfl | rfl
    · rw [if_pos (by decide), words_pv (by decide), o_bind]; rfl
    · rw [if_neg (by decide), if_pos (by decide), words_pv (by decide), o_bind]; rfl
    · rw [if_neg (by decide), if_neg (by decide), if_pos (by decide), words_pv (by decide), o_bind]; rfl
    · have hv := w2 rfl
      rw [if_neg (by decide), if_neg (by decide), if_neg (by decide), if_pos (by decide), rnum_at hb hv h, o_bind]
      have e : bV (3, v, s, ofL l) = pnum v := rfl
      rw [e]
      unfold pnum
      have lt : v.natAbs < 10 ^ 20 := by have := pow20; omega
      by_cases h0 : v < 0
      · rw [if_neg (by rw [lg_ge, l_of (by omega) (by omega), show (0 : Int64).toInt = 0 from rfl]; omega), if_pos h0, sppu_pv, show -(Int64.ofInt v) = Int64.ofInt (v.natAbs : Int) by rw [← Int64.ofInt_neg]; congr 1; omega, digits_pv 20 _ S _ lt (by omega) (by decide), o_bind]
        simp
      · rw [if_pos ((lg_ge _ _).mpr (by rw [l_of (by omega) (by omega), show (0 : Int64).toInt = 0 from rfl]; omega)), if_neg h0, show Int64.ofInt v = Int64.ofInt (v.natAbs : Int) by congr 1; omega, digits_pv 20 _ S _ lt (by omega) (by decide), o_bind]
        simp
    · have := value_str w3 n S o aa p B r hne hb h
      have e : w_value (n + 1) (up S o (pv B)) o aa (Int32.ofNat p) = w_valueB (up S o (pv B)) o aa (w_value n) (Int32.ofNat p) := rfl
      rw [e] at this
      unfold w_valueB at this
      rw [up_ne hne, n1, o_bind, hi, o_bind] at this
      exact this
    · obtain ⟨c1, c2⟩ := cbox_in (Or.inl rfl) h
      have e5 : (5 == 6) = false := rfl
      rw [e5] at c1 c2
      have h2 := flat2 _ (blks_h (b := false) hk)
      have hbl := blks_len false l
      have hlen := congrArg List.length c1
      rw [List.length_drop, List.length_append] at hlen
      simp only [Bool.false_eq_true, if_false] at hbl
      have hr : ∀ m ∈ l, ∀ (q : Nat) (B r' : List Int32), (S aa).drop q = cV m.2 ++ r' → w_value n (up S o (pv B)) o aa (Int32.ofNat q) = some (up S o (pv (B ++ bV m.2))) := by
        intro m hm q B r' hd
        exact ih m hm (hk m hm).2 n ((kids m hm).elim id fun e => absurd (Or.inl rfl) e) S o aa q B r' hne hb hd
      have eB : bV (5, v, s, ofL l) = 91 :: (jn (l.map (bM false)) ++ [93]) := by
        show 91 :: (bF false (ofL l) ++ [93]) = _
        rw [bF_ofL]
      rw [if_neg (by decide), if_neg (by decide), if_neg (by decide), if_neg (by decide), if_neg (by decide), if_pos (by decide), sppu_pv, show Int32.ofNat p + 2 = Int32.ofNat (p + 2) from (Int32.ofNat_add p 2).symm, eB]
      cases l with
      | nil =>
        have : (blks false []).flatten.length = 0 := rfl
        show (if Int32.ofNat (p + (cV (5, v, s, ofL [])).length) ≤ Int32.ofNat (p + 2) then some _ else _) = _
        rw [if_pos ((i_le' (by omega) (by omega)).mpr (by omega)), sppu_pv]
        simp [jn]
      | cons m l =>
        have eb : blks false (m :: l) = cV m.2 :: blks false l := rfl
        rw [eb] at c1 c2 hlen
        obtain ⟨s1, s2, s3, s4⟩ := blk_step hb (by rw [← eb]; exact blks_h hk) c1
        rw [List.flatten_cons, List.length_append] at c2 hlen
        rw [List.flatten_cons, List.append_assoc] at c1
        simp only [List.length_cons] at hbl
        have hl2 : 2 * (blks false l).length ≤ (blks false l).flatten.length := flat2 _ (blks_h hk.tail)
        have hl3 := blks_len false l
        simp only [Bool.false_eq_true, if_false] at hl3
        show (if Int32.ofNat (p + (cV (5, v, s, ofL (m :: l))).length) ≤ Int32.ofNat (p + 2) then some _ else _) = _
        rw [if_neg (by rw [i_le' (by omega) (by omega)]; omega), show Int32.ofNat p + 2 = Int32.ofNat (p + 2) from (Int32.ofNat_add p 2).symm, if_pos ((i_le' (by omega) (by omega)).mpr (Nat.le_refl _)), hr m List.mem_cons_self _ _ _ c1, o_bind, up_ne hne, s1, o_bind, arr_l hne hb l 9999 _ _ hk.tail (fun m' hm' => hr m' (List.mem_cons_of_mem _ hm')) s2 (by omega) (by omega) (by omega) (by omega), jn_tl]
        simp [bM, List.append_assoc]
    · obtain ⟨c1, c2⟩ := cbox_in (Or.inr rfl) h
      have e6 : (6 == 6) = true := rfl
      rw [e6] at c1 c2
      have h2 := flat2 _ (blks_h (b := true) hk)
      have hbl := blks_len true l
      have hlen := congrArg List.length c1
      rw [List.length_drop, List.length_append] at hlen
      simp only [if_true] at hbl
      have hr : ∀ m ∈ l, ∀ (q : Nat) (B r' : List Int32), (S aa).drop q = cV m.2 ++ r' → w_value n (up S o (pv B)) o aa (Int32.ofNat q) = some (up S o (pv (B ++ bV m.2))) := by
        intro m hm q B r' hd
        exact ih m hm (hk m hm).2 n ((kids m hm).elim id fun e => absurd (Or.inr rfl) e) S o aa q B r' hne hb hd
      have hn1 : 1 ≤ n := by
        have h1 : dV (6, v, s, ofL l) = 1 + dF (ofL l) := rfl
        omega
      obtain ⟨n', rfl⟩ : ∃ n', n = n' + 1 := ⟨n - 1, by omega⟩
      have hst : ∀ (s : List Int32) (q : Nat) (B r' : List Int32), okS s → (S aa).drop q = cstr s ++ r' → w_value (n' + 1) (up S o (pv B)) o aa (Int32.ofNat q) = some (up S o (pv (B ++ pstr s))) := fun s q B r' hs hd => value_str hs n' S o aa q B r' hne hb hd
      have eB : bV (6, v, s, ofL l) = 123 :: (jn (l.map (bM true)) ++ [125]) := by
        show 123 :: (bF true (ofL l) ++ [125]) = _
        rw [bF_ofL]
      rw [if_neg (by decide), if_neg (by decide), if_neg (by decide), if_neg (by decide), if_neg (by decide), if_neg (by decide), sppu_pv, show Int32.ofNat p + 2 = Int32.ofNat (p + 2) from (Int32.ofNat_add p 2).symm, eB]
      cases l with
      | nil =>
        have : (blks true []).flatten.length = 0 := rfl
        show (if Int32.ofNat (p + (cV (6, v, s, ofL [])).length) ≤ Int32.ofNat (p + 2) then some _ else _) = _
        rw [if_pos ((i_le' (by omega) (by omega)).mpr (by omega)), sppu_pv]
        simp [jn]
      | cons m l =>
        have eb : blks true (m :: l) = cstr m.1 :: cV m.2 :: blks true l := rfl
        rw [eb] at c1 c2 hlen
        have hh : ∀ x ∈ cstr m.1 :: cV m.2 :: blks true l, hdd x := by rw [← eb]; exact blks_h hk
        obtain ⟨s1, s2, s3, s4⟩ := blk_step hb hh c1
        obtain ⟨u1, u2, u3, u4⟩ := blk_step hb (fun x hx => hh x (List.mem_cons_of_mem _ hx)) s2
        rw [List.flatten_cons, List.length_append, List.flatten_cons, List.length_append] at c2 hlen
        rw [List.flatten_cons, List.append_assoc] at c1
        rw [List.flatten_cons, List.append_assoc] at s2
        simp only [List.length_cons] at hbl
        have hl2 : 2 * (blks true l).length ≤ (blks true l).flatten.length := flat2 _ (blks_h hk.tail)
        have hl3 := blks_len true l
        simp only [if_true] at hl3
        show (if Int32.ofNat (p + (cV (6, v, s, ofL (m :: l))).length) ≤ Int32.ofNat (p + 2) then some _ else _) = _
        rw [if_neg (by rw [i_le' (by omega) (by omega)]; omega), show Int32.ofNat p + 2 = Int32.ofNat (p + 2) from (Int32.ofNat_add p 2).symm, if_pos ((i_le' (by omega) (by omega)).mpr (Nat.le_refl _)), hst m.1 _ _ _ (hk m List.mem_cons_self).1 c1, o_bind, sppu_pv, up_ne hne, s1, o_bind, hr m List.mem_cons_self _ _ _ s2, o_bind, up_ne hne, s1, o_bind, u1, o_bind, obj_l hne hb hst l 9999 _ _ hk.tail (fun m' hm' => hr m' (List.mem_cons_of_mem _ hm')) u2 (by omega) (by omega) (by omega) (by omega), jn_tl]
        simp [bM, List.append_assoc]
end Print120
