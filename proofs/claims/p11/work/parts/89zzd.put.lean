section
/-! Texts and Papers as they are written: what was put, whether it fits. -/
section Put119
theorem up_up (S : SS) (a : Nat) (l l' : List Int32) : up (up S a l) a l' = up S a l' := by
  funext b
  unfold up
  by_cases e : b = a
  · rw [if_pos e, if_pos e]
  · rw [if_neg e, if_neg e, if_neg e]
theorem up_comm (S : SS) {a b : Nat} (h : a ≠ b) (l l' : List Int32) : up (up S a l) b l' = up (up S b l') a l := by
  funext c
  unfold up
  by_cases e1 : c = a
  · by_cases e2 : c = b
    · exact absurd (e1.symm.trans e2) h
    · rw [if_neg e2, if_pos e1, if_pos e1]
  · by_cases e2 : c = b
    · rw [if_pos e2, if_neg e1, if_pos e2]
    · rw [if_neg e2, if_neg e1, if_neg e1, if_neg e2]
theorem up_self (S : SS) (a : Nat) : up S a (S a) = S := by
  funext b
  unfold up
  by_cases e : b = a
  · rw [if_pos e, e]
  · rw [if_neg e]
/-- a Text or Paper to which B was put -/
def pv (B : List Int32) : List Int32 := (if B.length ≤ 4096 then 0 else 1) :: B.take 4096
theorem pv_T (S : SS) (o : Nat) (B : List Int32) : tT (up S o (pv B)) o = B.take 4096 ∧ tV (up S o (pv B)) o = if B.length ≤ 4096 then 0 else 1 := by
  unfold tT tV
  rw [up_same]
  exact ⟨rfl, rfl⟩
theorem sppu_pv (S : SS) (o : Nat) (B : List Int32) (v : Int32) : sppu (up S o (pv B)) o v = up S o (pv (B ++ [v])) := by
  obtain ⟨e1, e2⟩ := pv_T S o B
  unfold sppu
  rw [e1, e2, up_up]
  congr 1
  unfold pv pputO pput
  rw [List.length_take, List.length_append]
  simp only [List.length_cons, List.length_nil]
  by_cases h1 : B.length < 4096
  · rw [if_neg (show ¬ min 4096 B.length = 4096 by omega), if_neg (show ¬ min 4096 B.length = 4096 by omega), if_pos (show B.length ≤ 4096 by omega), if_pos rfl, if_pos (show B.length + (0 + 1) ≤ 4096 by omega), List.take_of_length_le (by omega), List.take_of_length_le (by rw [List.length_append]; simp only [List.length_cons, List.length_nil]; omega)]
  · rw [if_pos (show min 4096 B.length = 4096 by omega), if_pos (show min 4096 B.length = 4096 by omega), if_neg (show ¬ B.length + (0 + 1) ≤ 4096 by omega), List.take_append_of_le_length (by omega)]
theorem sput_pv (S : SS) (o : Nat) (B : List Int32) (v : Int32) : sput (up S o (pv B)) o v = up S o (pv (B ++ [v &&& 255])) := by
  obtain ⟨e1, e2⟩ := pv_T S o B
  unfold sput
  rw [e1, e2, up_up]
  congr 1
  unfold pv tputO tput
  rw [List.length_take, List.length_append]
  simp only [List.length_cons, List.length_nil]
  by_cases h1 : B.length < 4096
  · rw [if_pos (show min 4096 B.length < 4096 by omega), if_pos (show min 4096 B.length < 4096 by omega), if_pos (show B.length ≤ 4096 by omega), if_pos (show B.length + (0 + 1) ≤ 4096 by omega), List.take_of_length_le (by omega), List.take_of_length_le (by rw [List.length_append]; simp only [List.length_cons, List.length_nil]; omega)]
  · rw [if_neg (show ¬ min 4096 B.length < 4096 by omega), if_neg (show ¬ min 4096 B.length < 4096 by omega), if_neg (show ¬ B.length + (0 + 1) ≤ 4096 by omega), List.take_append_of_le_length (by omega)]
/-- whole bytes -/
def byt (l : List Int32) : Prop := ∀ u ∈ l, u &&& 255 = u
theorem sputs_pv : ∀ (bs : List Int32) (S : SS) (o : Nat) (B : List Int32), byt bs → sputs (up S o (pv B)) o bs = up S o (pv (B ++ bs)) := by
  intro bs S o B hb
  have key : ∀ (bs B : List Int32), byt bs → ((tputs (B.take 4096) (if B.length ≤ 4096 then 0 else 1) bs).2 :: (tputs (B.take 4096) (if B.length ≤ 4096 then 0 else 1) bs).1) = pv (B ++ bs) := by
    intro bs
    induction bs with
    | nil => intro B _; rw [List.append_nil]; rfl
    | cons b bs ih =>
      intro B hb
      have := ih (B ++ [b]) fun u hu => hb u (List.mem_cons_of_mem _ hu)
      rw [List.append_assoc] at this
      rw [show B ++ b :: bs = B ++ ([b] ++ bs) from rfl, ← this]
      have hs := sput_pv (fun _ => []) 0 B b
      rw [hb b List.mem_cons_self] at hs
      have h0 := congrFun hs 0
      unfold sput at h0
      rw [up_same, up_same] at h0
      obtain ⟨e1, e2⟩ := pv_T (fun _ => []) 0 B
      rw [e1, e2] at h0
      unfold pv at h0
      obtain ⟨g1, g2⟩ := List.cons.inj h0
      rw [← g1, ← g2]
      rfl
  obtain ⟨e1, e2⟩ := pv_T S o B
  unfold sputs
  rw [e1, e2, up_up, key bs B hb]
theorem spart_pv {S : SS} {o p : Nat} {B : List Int32} {f w : Int32} (hop : o ≠ p) (hw : ¬ w < -10000) (hf : ¬ 100000 < f) : spart (up S o (pv B)) o p f w = some (up S o (pv (B ++ tcut (tT S p) f w))) := by
  obtain ⟨e1, e2⟩ := pv_T S o B
  unfold spart
  rw [if_neg hop, if_neg hw, if_neg hf, e1, e2, up_up]
  have e3 : tT (up S o (pv B)) p = tT S p := by unfold tT; rw [up_ne (fun e => hop e.symm)]
  rw [e3]
  generalize tcut (tT S p) f w = pt
  congr 2
  unfold pv tpartO tpart
  rw [List.length_take, List.length_append]
  by_cases h1 : B.length ≤ 4096
  · rw [if_pos h1, List.take_of_length_le h1]
    congr 1
    · by_cases h2 : pt.length ≤ 4096 - min 4096 B.length
      · rw [if_pos h2, if_pos (by omega)]
      · rw [if_neg h2, if_neg (by omega)]
    · rw [List.take_append, List.take_of_length_le (show B.length ≤ 4096 from h1), show min 4096 B.length = B.length by omega]
  · rw [if_neg h1, if_neg (show ¬ B.length + pt.length ≤ 4096 by omega)]
    congr 1
    · split <;> rfl
    · rw [List.take_append_of_le_length (show 4096 ≤ B.length by omega), show 4096 - min 4096 B.length = 0 by omega, List.take_zero, List.append_nil]
theorem words_l {o : Nat} {bs : List Int32} (hb : bs.length ≤ 100) : ∀ (n i : Nat) (S : SS) (B : List Int32), bs.length < n + i → i ≤ bs.length → w_words_l2 o bs n (up S o (pv B)) (Int32.ofNat i) = some (up S o (pv (B ++ bs.drop i))) := by
  intro n
  induction n with
  | zero => intro i S B h1 h2; omega
  | succ n ih =>
    intro i S B h1 h2
    unfold w_words_l2
    by_cases e : i = bs.length
    · rw [if_pos ((i_le' (by omega) (by omega)).mpr (by omega)), List.drop_of_length_le (by omega), List.append_nil]
    · have hi : i < bs.length := by omega
      have es : sch bs (Int32.ofNat i) = some bs[i] := by
        unfold sch
        rw [if_neg (i_nn (by omega)), i_cl (by omega), List.getElem?_eq_getElem hi]
      rw [if_neg (by rw [i_le' (by omega) (by omega)]; omega), es, o_bind, sppu_pv, i_a1, ih (i + 1) S _ (by omega) (by omega), List.append_assoc, List.drop_eq_getElem_cons hi]
      rfl
theorem words_pv {o : Nat} {bs : List Int32} (hb : bs.length ≤ 100) (S : SS) (B : List Int32) : w_words (up S o (pv B)) o bs = some (up S o (pv (B ++ bs))) := by
  have := words_l hb 10000 0 S B (o := o) (by omega) (by omega)
  exact this
end Put119
end

section
/-! The reference prints a value: its bytes. -/
section Print120
def wch52 (c l2 : Int32) : Option (List Int32) := if c = 34 then some [92, c] else if c = 92 then some [92, c] else if l2 < 0 then (if c < 32 then ((sch k37 (c / 16)).bind fun a => (sch k37 (c - c / 16 * 16)).bind fun b => some (92 :: (k35 ++ [a, b]))) else if c = 127 then ((sch k37 (c / 16)).bind fun a => (sch k37 (c - c / 16 * 16)).bind fun b => some (92 :: (k35 ++ [a, b]))) else some [c]) else (sch k33 l2).bind fun a => some [92, a]
def wch (c : Int32) : Option (List Int32) := if c = 8 then wch52 c 0 else if c = 9 then wch52 c 1 else if c = 10 then wch52 c 2 else if c = 12 then wch52 c 3 else if c = 13 then wch52 c 4 else wch52 c (-1)
theorem wch_52 (S : SS) (o : Nat) (B : List Int32) (c l2 : Int32) : w_char_l52 o (up S o (pv B)) c l2 = (wch52 c l2).map fun l => up S o (pv (B ++ l)) := by
  have hx : ∀ a b : Int32, B ++ [92] ++ k35 ++ [a] ++ [b] = B ++ 92 :: (k35 ++ [a, b]) := by intro a b; simp
  have ew : ∀ (x y : Option Int32), ((w_words (sppu (up S o (pv B)) o 92) o k35).bind fun r11 => (x.bind fun r13 => (y.bind fun r16 => some (sppu (sppu r11 o r13) o r16)))) = ((x.bind fun a => y.bind fun b => some (92 :: (k35 ++ [a, b])))).map fun l => up S o (pv (B ++ l)) := by
    intro x y
    rw [sppu_pv, words_pv (by decide), o_bind]
    cases x with
    | none => rfl
    | some x =>
      cases y with
      | none => rfl
      | some y =>
        simp only [Option.bind_some, Option.map_some]
        rw [sppu_pv, sppu_pv, hx]
  unfold w_char_l52 wch52
  by_cases h1 : c = 34
  · rw [if_pos h1, if_pos h1, sppu_pv, sppu_pv, List.append_assoc]; rfl
  rw [if_neg h1, if_neg h1]
  by_cases h2 : c = 92
  · rw [if_pos h2, if_pos h2, sppu_pv, sppu_pv, List.append_assoc]; rfl
  rw [if_neg h2, if_neg h2]
  by_cases h3 : l2 < 0
  · rw [if_pos h3, if_pos h3]
    by_cases h4 : c < 32
    · rw [if_pos h4, if_pos h4]; exact ew _ _
    rw [if_neg h4, if_neg h4]
    by_cases h5 : c = 127
    · rw [if_pos h5, if_pos h5]; exact ew _ _
    rw [if_neg h5, if_neg h5, sppu_pv]; rfl
  · rw [if_neg h3, if_neg h3]
    cases sch k33 l2 with
    | none => rfl
    | some a =>
      simp only [Option.bind_some, Option.map_some]
      rw [sppu_pv, sppu_pv, List.append_assoc]; rfl
theorem wch_esc : ∀ n, n < 128 → wch (Int32.ofNat n) = some (esc (Int32.ofNat n)) := by decide +kernel
theorem char_pv {c : Int32} (h : 0 ≤ c ∧ c ≤ 127) (S : SS) (o : Nat) (B : List Int32) : w_char (up S o (pv B)) o c = some (up S o (pv (B ++ esc c))) := by
  have e : w_char (up S o (pv B)) o c = (wch c).map fun l => up S o (pv (B ++ l)) := by
    unfold w_char wch
    by_cases h1 : c = 8
    · rw [if_pos h1, if_pos h1, wch_52]
    rw [if_neg h1, if_neg h1]
    by_cases h1 : c = 9
    · rw [if_pos h1, if_pos h1, wch_52]
    rw [if_neg h1, if_neg h1]
    by_cases h1 : c = 10
    · rw [if_pos h1, if_pos h1, wch_52]
    rw [if_neg h1, if_neg h1]
    by_cases h1 : c = 12
    · rw [if_pos h1, if_pos h1, wch_52]
    rw [if_neg h1, if_neg h1]
    by_cases h1 : c = 13
    · rw [if_pos h1, if_pos h1, wch_52]
    rw [if_neg h1, if_neg h1, wch_52]
  obtain ⟨n, hn, rfl⟩ := ch_of h
  rw [e, wch_esc n hn]
  rfl
/-- digits -/
theorem l_div10 (v : Nat) (h : v < 4611686018427387904) : Int64.ofInt v / 10 = Int64.ofInt ((v / 10 : Nat) : Int) := by
  apply Int64.toInt_inj.mp
  have e : (v : Int).tdiv 10 = ((v / 10 : Nat) : Int) := (Int.ofNat_tdiv v 10).symm
  rw [Int64.toInt_div, l_of (by omega) (by omega), l_of (by omega) (by omega), show (10 : Int64).toInt = 10 from rfl, e, Int.bmod_def]
  omega
theorem l_mod10 (v : Nat) (h : v < 4611686018427387904) : (48 + (Int64.ofInt v - Int64.ofInt v / 10 * 10)).toInt32 = Int32.ofNat (48 + v % 10) := by
  rw [l_div10 v h, show (48 : Int64) = Int64.ofInt 48 from rfl, show (10 : Int64) = Int64.ofInt 10 from rfl, ← Int64.ofInt_mul, ← Int64.ofInt_sub, ← Int64.ofInt_add]
  have e : (48 + ((v : Int) - ((v / 10 : Nat) : Int) * 10)) = ((48 + v % 10 : Nat) : Int) := by omega
  rw [e]
  apply Int32.toInt_inj.mp
  rw [Int64.toInt_toInt32, l_of (by omega) (by omega), i_of (by omega), Int.bmod_def]
  omega
theorem digits_pv {o : Nat} : ∀ (n v : Nat) (S : SS) (B : List Int32), v < 10 ^ n → v < 4611686018427387904 → 0 < n → w_digits n (up S o (pv B)) o (Int64.ofInt v) = some (up S o (pv (B ++ digF n v))) := by
  intro n
  induction n with
  | zero => intro v S B _ _ h; omega
  | succ n ih =>
    intro v S B hv h9 _
    show w_digitsB _ _ _ _ = _
    unfold w_digitsB digF
    rw [l_mod10 v h9]
    by_cases h : v < 10
    · rw [if_pos ((lg_le _ _).mpr (by rw [l_of (by omega) (by omega), show (9 : Int64).toInt = 9 from rfl]; omega)), if_pos h, sppu_pv, show v % 10 = v by omega]
    · cases n with
      | zero => simp at hv; omega
      | succ n =>
        rw [if_neg (by rw [lg_le, l_of (by omega) (by omega), show (9 : Int64).toInt = 9 from rfl]; omega), if_neg h, l_div10 v h9, ih (v / 10) S B (by rw [Nat.pow_succ] at hv; omega) (by omega) (by omega), o_bind, sppu_pv, List.append_assoc]
theorem strs_l {o aa : Nat} {rec : SS → Nat → Nat → Int32 → Option SS} {r : List Int32} {e : Nat} (hne : aa ≠ o) : ∀ (s : List Int32) (n q : Nat) (S : SS) (B : List Int32), (S aa).length ≤ 9000 → okS s → (S aa).drop q = s ++ r → q + s.length = e → e ≤ 9000 → s.length < n → w_valueB_l127 o aa rec n (up S o (pv B)) (Int32.ofNat e) (Int32.ofNat q) = some (up S o (pv (B ++ (s.flatMap esc ++ [34])))) := by
  intro s
  induction s with
  | nil =>
    intro n q S B hb _ h he h9 hn
    cases n with
    | zero => omega
    | succ n =>
      unfold w_valueB_l127
      rw [if_pos ((i_le' (by omega) (by simp at he; omega)).mpr (by simp at he; omega)), sppu_pv]
      rfl
  | cons c s ih =>
    intro n q S B hb hs h he h9 hn
    simp only [List.length_cons] at he hn
    cases n with
    | zero => omega
    | succ n =>
      unfold w_valueB_l127
      rw [if_neg (by rw [i_le' (by omega) (by omega)]; omega), up_ne hne, iget_drop hb h, o_bind, char_pv (hs c List.mem_cons_self), o_bind, i_a1, ih n (q + 1) S _ hb (fun x hx => hs x (List.mem_cons_of_mem _ hx)) (drop_more (w := [c]) h) (by omega) h9 (by omega), List.flatMap_cons]
      simp [List.append_assoc]
/-- what comes behind an item -/
def tl (b : Bool) (l : List Mb) : List Int32 := if l = [] then [] else 44 :: jn (l.map (bM b))
theorem jn_tl (b : Bool) (m : Mb) (l : List Mb) : jn ((m :: l).map (bM b)) = bM b m ++ tl b l := jn_cons b m l
theorem tl_cons (b : Bool) (m : Mb) (l : List Mb) : tl b (m :: l) = 44 :: (bM b m ++ tl b l) := by
  unfold tl
  rw [if_neg (by simp), jn_cons]
theorem arr_l {o aa p e : Nat} {rec : SS → Nat → Nat → Int32 → Option SS} {r : List Int32} {S : SS} (hne : aa ≠ o) (hb : (S aa).length ≤ 9000) : ∀ (l : List Mb) (n q : Nat) (B : List Int32), okL l → (∀ m ∈ l, ∀ (q : Nat) (B r' : List Int32), (S aa).drop q = cV m.2 ++ r' → rec (up S o (pv B)) o aa (Int32.ofNat q) = some (up S o (pv (B ++ bV m.2)))) → (S aa).drop q = (blks false l).flatten ++ r → q + (blks false l).flatten.length = e → e ≤ 9000 → p + 2 < q → l.length < n → w_valueB_l162 o aa rec n (up S o (pv B)) (Int32.ofNat p) (Int32.ofNat e) (Int32.ofNat q) = some (up S o (pv (B ++ (tl false l ++ [93])))) := by
  intro l
  induction l with
  | nil =>
    intro n q B _ _ h he h9 hp hn
    cases n with
    | zero => omega
    | succ n =>
      have : (blks false []).flatten.length = 0 := rfl
      unfold w_valueB_l162
      rw [if_pos ((i_le' (by omega) (by omega)).mpr (by omega)), sppu_pv]
      rfl
  | cons m l ih =>
    intro n q B hw hr h he h9 hp hn
    have eb : blks false (m :: l) = cV m.2 :: blks false l := rfl
    rw [eb] at h he
    obtain ⟨s1, s2, s3, s4⟩ := blk_step hb (by rw [← eb]; exact blks_h hw) h
    rw [List.flatten_cons, List.length_append] at he
    rw [List.flatten_cons, List.append_assoc] at h
    simp only [List.length_cons] at hn
    cases n with
    | zero => omega
    | succ n =>
      unfold w_valueB_l162
      rw [if_neg (by rw [i_le' (by omega) (by omega)]; omega), show Int32.ofNat p + 2 = Int32.ofNat (p + 2) from (Int32.ofNat_add p 2).symm, if_neg (by rw [i_le' (by omega) (by omega)]; omega), sppu_pv, hr m List.mem_cons_self q _ _ h, o_bind, up_ne hne, s1, o_bind, ih n (q + (cV m.2).length) _ hw.tail (fun m' hm' => hr m' (List.mem_cons_of_mem _ hm')) s2 (by omega) h9 (by omega) (by omega), tl_cons]
      simp [bM, List.append_assoc]
theorem obj_l {o aa p e : Nat} {rec : SS → Nat → Nat → Int32 → Option SS} {r : List Int32} {S : SS} (hne : aa ≠ o) (hb : (S aa).length ≤ 9000) (hst : ∀ (s : List Int32) (q : Nat) (B r' : List Int32), okS s → (S aa).drop q = cstr s ++ r' → rec (up S o (pv B)) o aa (Int32.ofNat q) = some (up S o (pv (B ++ pstr s)))) : ∀ (l : List Mb) (n q : Nat) (B : List Int32), okL l → (∀ m ∈ l, ∀ (q : Nat) (B r' : List Int32), (S aa).drop q = cV m.2 ++ r' → rec (up S o (pv B)) o aa (Int32.ofNat q) = some (up S o (pv (B ++ bV m.2)))) → (S aa).drop q = (blks true l).flatten ++ r → q + (blks true l).flatten.length = e → e ≤ 9000 → p + 2 < q → l.length < n → w_valueB_l215 o aa rec n (up S o (pv B)) (Int32.ofNat p) (Int32.ofNat e) (Int32.ofNat q) = some (up S o (pv (B ++ (tl true l ++ [125])))) := by
  intro l
  induction l with
  | nil =>
    intro n q B _ _ h he h9 hp hn
    cases n with
    | zero => omega
    | succ n =>
      have : (blks true []).flatten.length = 0 := rfl
      unfold w_valueB_l215
      rw [if_pos ((i_le' (by omega) (by omega)).mpr (by omega)), sppu_pv]
      rfl
  | cons m l ih =>
    intro n q B hw hr h he h9 hp hn
    have eb : blks true (m :: l) = cstr m.1 :: cV m.2 :: blks true l := rfl
    rw [eb] at h he
    have hh : ∀ x ∈ cstr m.1 :: cV m.2 :: blks true l, hdd x := by rw [← eb]; exact blks_h hw
    obtain ⟨s1, s2, s3, s4⟩ := blk_step hb hh h
    obtain ⟨u1, u2, u3, u4⟩ := blk_step hb (fun x hx => hh x (List.mem_cons_of_mem _ hx)) s2
    rw [List.flatten_cons, List.length_append, List.flatten_cons, List.length_append] at he
    rw [List.flatten_cons, List.append_assoc] at h
    rw [List.flatten_cons, List.append_assoc] at s2
    simp only [List.length_cons] at hn
    cases n with
    | zero => omega
    | succ n =>
      unfold w_valueB_l215
      rw [if_neg (by rw [i_le' (by omega) (by omega)]; omega), show Int32.ofNat p + 2 = Int32.ofNat (p + 2) from (Int32.ofNat_add p 2).symm, if_neg (by rw [i_le' (by omega) (by omega)]; omega), sppu_pv, hst m.1 q _ _ (hw m List.mem_cons_self).1 h, o_bind, sppu_pv, up_ne hne, s1, o_bind, hr m List.mem_cons_self _ _ _ s2, o_bind, up_ne hne, s1, o_bind, u1, o_bind, ih n _ _ hw.tail (fun m' hm' => hr m' (List.mem_cons_of_mem _ hm')) u2 (by omega) h9 (by omega) (by omega), tl_cons]
      simp [bM, List.append_assoc]
theorem k27_ : k27 = [110, 117, 108, 108] := rfl
/-- a value printed -/
theorem value_str {s : List Int32} (hs : okS s) (n : Nat) (S : SS) (o aa p : Nat) (B r : List Int32) (hne : aa ≠ o) (hb : (S aa).length ≤ 9000) (h : (S aa).drop p = cstr s ++ r) : w_value (n + 1) (up S o (pv B)) o aa (Int32.ofNat p) = some (up S o (pv (B ++ pstr s))) := by
  obtain ⟨n1, n2⟩ := rnext_at hb (cstr_hdd s) h
  have hi : iget (S aa) (Int32.ofNat p) = some 4 := iget_drop hb h
  have e1 : (cstr s).length = s.length + 2 := by simp [cstr]
  show w_valueB _ _ _ _ _ = _
  unfold w_valueB
  rw [up_ne hne, n1, o_bind, hi, o_bind, if_neg (by decide), if_neg (by decide), if_neg (by decide), if_neg (by decide), if_pos rfl, sppu_pv, show Int32.ofNat p + 2 = Int32.ofNat (p + 2) from (Int32.ofNat_add p 2).symm, strs_l hne s 10000 (p + 2) S _ hb hs (drop_more (w := [4, Int32.ofNat (s.length + 2)]) h) (by omega) (by omega) (by omega)]
  simp [pstr]
theorem value_pv (t : Vl) : wV t → ∀ (n : Nat), dV t + 1 ≤ n → ∀ (S : SS) (o aa p : Nat) (B r : List Int32), aa ≠ o → (S aa).length ≤ 9000 → (S aa).drop p = cV t ++ r → w_value n (up S o (pv B)) o aa (Int32.ofNat p) = some (up S o (pv (B ++ bV t))) := by
  induction t using Vl.ind with
  | h k v s l ih =>
    intro hw n hn S o aa p B r hne hb h
    have hk := hw.kids
    obtain ⟨w1, w2, w3, w4, w5, w6⟩ := hw
    simp only at w1 w2 w3 w4 w5 w6
    cases n with
    | zero => omega
    | succ n =>
    have h6 : (k, v, s, ofL l).1 ≤ 6 := w1
    obtain ⟨n1, n2⟩ := rnext_at hb (cV_h h6) h
    obtain ⟨t, ht⟩ := cV_hdd h6
    have hi : iget (S aa) (Int32.ofNat p) = some (Int32.ofNat k) := by
      have h' := h
      rw [ht] at h'
      exact iget_drop hb h'
    have kids : ∀ m ∈ l, dV m.2 + 1 ≤ n ∨ ¬ (k = 5 ∨ k = 6) := by
      intro m hm
      by_cases hkk : k = 5 ∨ k = 6
      · left
        have h1 : dV (k, v, s, ofL l) = 1 + dF (ofL l) := by unfold dV; rw [if_pos hkk]
        have h2 := dF_mem (f := ofL l) (m := m) (by rw [toL_ofL]; exact hm)
        omega
      · exact Or.inr hkk
    show w_valueB _ _ _ _ _ = _
    unfold w_valueB
    rw [up_ne hne, n1, o_bind, hi, o_bind]
    have : k = 0 ∨ k = 1 ∨ k = 2 ∨ k = 3 ∨ k = 4 ∨ k = 5 ∨ k = 6 := by omega
    rcases this with rfl | rfl | rfl | rfl | rfl | rfl | rfl
    · rw [if_pos (by decide), words_pv (by decide), o_bind]; rfl
    · rw [if_neg (by decide), if_pos (by decide), words_pv (by decide), o_bind]; rfl
    · rw [if_neg (by decide), if_neg (by decide), if_pos (by decide), words_pv (by decide), o_bind]; rfl
    · have hv := w2 rfl
      rw [if_neg (by decide), if_neg (by decide), if_neg (by decide), if_pos (by decide), rnum_at hb hv h, o_bind]
      have e : bV (3, v, s, ofL l) = pnum v := rfl
      rw [e]
      unfold pnum
      have lt : v.natAbs < 10 ^ 20 := by have := pow20; omega
      by_cases h0 : v < 0
      · rw [if_neg (by rw [lg_ge, l_of (by omega) (by omega), show (0 : Int64).toInt = 0 from rfl]; omega), if_pos h0, sppu_pv, show -(Int64.ofInt v) = Int64.ofInt (v.natAbs : Int) by rw [← Int64.ofInt_neg]; congr 1; omega, digits_pv 20 _ S _ lt (by omega) (by decide), o_bind]
        simp
      · rw [if_pos ((lg_ge _ _).mpr (by rw [l_of (by omega) (by omega), show (0 : Int64).toInt = 0 from rfl]; omega)), if_neg h0, show Int64.ofInt v = Int64.ofInt (v.natAbs : Int) by congr 1; omega, digits_pv 20 _ S _ lt (by omega) (by decide), o_bind]
        simp
    · have := value_str w3 n S o aa p B r hne hb h
      have e : w_value (n + 1) (up S o (pv B)) o aa (Int32.ofNat p) = w_valueB (up S o (pv B)) o aa (w_value n) (Int32.ofNat p) := rfl
      rw [e] at this
      unfold w_valueB at this
      rw [up_ne hne, n1, o_bind, hi, o_bind] at this
      exact this
    · obtain ⟨c1, c2⟩ := cbox_in (Or.inl rfl) h
      have e5 : (5 == 6) = false := rfl
      rw [e5] at c1 c2
      have h2 := flat2 _ (blks_h (b := false) hk)
      have hbl := blks_len false l
      have hlen := congrArg List.length c1
      rw [List.length_drop, List.length_append] at hlen
      simp only [Bool.false_eq_true, if_false] at hbl
      have hr : ∀ m ∈ l, ∀ (q : Nat) (B r' : List Int32), (S aa).drop q = cV m.2 ++ r' → w_value n (up S o (pv B)) o aa (Int32.ofNat q) = some (up S o (pv (B ++ bV m.2))) := by
        intro m hm q B r' hd
        exact ih m hm (hk m hm).2 n ((kids m hm).elim id fun e => absurd (Or.inl rfl) e) S o aa q B r' hne hb hd
      have eB : bV (5, v, s, ofL l) = 91 :: (jn (l.map (bM false)) ++ [93]) := by
        show 91 :: (bF false (ofL l) ++ [93]) = _
        rw [bF_ofL]
      rw [if_neg (by decide), if_neg (by decide), if_neg (by decide), if_neg (by decide), if_neg (by decide), if_pos (by decide), sppu_pv, show Int32.ofNat p + 2 = Int32.ofNat (p + 2) from (Int32.ofNat_add p 2).symm, eB]
      cases l with
      | nil =>
        have : (blks false []).flatten.length = 0 := rfl
        show (if Int32.ofNat (p + (cV (5, v, s, ofL [])).length) ≤ Int32.ofNat (p + 2) then some _ else _) = _
        rw [if_pos ((i_le' (by omega) (by omega)).mpr (by omega)), sppu_pv]
        simp [jn]
      | cons m l =>
        have eb : blks false (m :: l) = cV m.2 :: blks false l := rfl
        rw [eb] at c1 c2 hlen
        obtain ⟨s1, s2, s3, s4⟩ := blk_step hb (by rw [← eb]; exact blks_h hk) c1
        rw [List.flatten_cons, List.length_append] at c2 hlen
        rw [List.flatten_cons, List.append_assoc] at c1
        simp only [List.length_cons] at hbl
        have hl2 : 2 * (blks false l).length ≤ (blks false l).flatten.length := flat2 _ (blks_h hk.tail)
        have hl3 := blks_len false l
        simp only [Bool.false_eq_true, if_false] at hl3
        show (if Int32.ofNat (p + (cV (5, v, s, ofL (m :: l))).length) ≤ Int32.ofNat (p + 2) then some _ else _) = _
        rw [if_neg (by rw [i_le' (by omega) (by omega)]; omega), show Int32.ofNat p + 2 = Int32.ofNat (p + 2) from (Int32.ofNat_add p 2).symm, if_pos ((i_le' (by omega) (by omega)).mpr (Nat.le_refl _)), hr m List.mem_cons_self _ _ _ c1, o_bind, up_ne hne, s1, o_bind, arr_l hne hb l 9999 _ _ hk.tail (fun m' hm' => hr m' (List.mem_cons_of_mem _ hm')) s2 (by omega) (by omega) (by omega) (by omega), jn_tl]
        simp [bM, List.append_assoc]
    · obtain ⟨c1, c2⟩ := cbox_in (Or.inr rfl) h
      have e6 : (6 == 6) = true := rfl
      rw [e6] at c1 c2
      have h2 := flat2 _ (blks_h (b := true) hk)
      have hbl := blks_len true l
      have hlen := congrArg List.length c1
      rw [List.length_drop, List.length_append] at hlen
      simp only [if_true] at hbl
      have hr : ∀ m ∈ l, ∀ (q : Nat) (B r' : List Int32), (S aa).drop q = cV m.2 ++ r' → w_value n (up S o (pv B)) o aa (Int32.ofNat q) = some (up S o (pv (B ++ bV m.2))) := by
        intro m hm q B r' hd
        exact ih m hm (hk m hm).2 n ((kids m hm).elim id fun e => absurd (Or.inr rfl) e) S o aa q B r' hne hb hd
      have hn1 : 1 ≤ n := by
        have h1 : dV (6, v, s, ofL l) = 1 + dF (ofL l) := rfl
        omega
      obtain ⟨n', rfl⟩ : ∃ n', n = n' + 1 := ⟨n - 1, by omega⟩
      have hst : ∀ (s : List Int32) (q : Nat) (B r' : List Int32), okS s → (S aa).drop q = cstr s ++ r' → w_value (n' + 1) (up S o (pv B)) o aa (Int32.ofNat q) = some (up S o (pv (B ++ pstr s))) := fun s q B r' hs hd => value_str hs n' S o aa q B r' hne hb hd
      have eB : bV (6, v, s, ofL l) = 123 :: (jn (l.map (bM true)) ++ [125]) := by
        show 123 :: (bF true (ofL l) ++ [125]) = _
        rw [bF_ofL]
      rw [if_neg (by decide), if_neg (by decide), if_neg (by decide), if_neg (by decide), if_neg (by decide), if_neg (by decide), sppu_pv, show Int32.ofNat p + 2 = Int32.ofNat (p + 2) from (Int32.ofNat_add p 2).symm, eB]
      cases l with
      | nil =>
        have : (blks true []).flatten.length = 0 := rfl
        show (if Int32.ofNat (p + (cV (6, v, s, ofL [])).length) ≤ Int32.ofNat (p + 2) then some _ else _) = _
        rw [if_pos ((i_le' (by omega) (by omega)).mpr (by omega)), sppu_pv]
        simp [jn]
      | cons m l =>
        have eb : blks true (m :: l) = cstr m.1 :: cV m.2 :: blks true l := rfl
        rw [eb] at c1 c2 hlen
        have hh : ∀ x ∈ cstr m.1 :: cV m.2 :: blks true l, hdd x := by rw [← eb]; exact blks_h hk
        obtain ⟨s1, s2, s3, s4⟩ := blk_step hb hh c1
        obtain ⟨u1, u2, u3, u4⟩ := blk_step hb (fun x hx => hh x (List.mem_cons_of_mem _ hx)) s2
        rw [List.flatten_cons, List.length_append, List.flatten_cons, List.length_append] at c2 hlen
        rw [List.flatten_cons, List.append_assoc] at c1
        rw [List.flatten_cons, List.append_assoc] at s2
        simp only [List.length_cons] at hbl
        have hl2 : 2 * (blks true l).length ≤ (blks true l).flatten.length := flat2 _ (blks_h hk.tail)
        have hl3 := blks_len true l
        simp only [if_true] at hl3
        show (if Int32.ofNat (p + (cV (6, v, s, ofL (m :: l))).length) ≤ Int32.ofNat (p + 2) then some _ else _) = _
        rw [if_neg (by rw [i_le' (by omega) (by omega)]; omega), show Int32.ofNat p + 2 = Int32.ofNat (p + 2) from (Int32.ofNat_add p 2).symm, if_pos ((i_le' (by omega) (by omega)).mpr (Nat.le_refl _)), hst m.1 _ _ _ (hk m List.mem_cons_self).1 c1, o_bind, sppu_pv, up_ne hne, s1, o_bind, hr m List.mem_cons_self _ _ _ s2, o_bind, up_ne hne, s1, o_bind, u1, o_bind, obj_l hne hb hst l 9999 _ _ hk.tail (fun m' hm' => hr m' (List.mem_cons_of_mem _ hm')) u2 (by omega) (by omega) (by omega) (by omega), jn_tl]
        simp [bM, List.append_assoc]
end Print120
end

section
/-! The state at the law's loop, before the first call. -/
section Init121
def vI : Value → Int32
  | .int x => x
  | .ref r => Int32.ofNat r
  | _ => 0
def S_of (h : mH) : SS := fun a => if a ∈ shT then (if a = 42 ∨ a = 44 ∨ a = 49 then [0] else [0, 110, 117, 108, 108]) else if a ∈ shP then [0] else if a = 101 then lgE 0 else ((h[a]?).map fun c => c.2.map vI).getD []
def okB (k : Nat) (x : Int32) : Bool := (k != 1 || (x == 0 || x == 1)) && ((k != 4 || decide (x.toNatClampNeg ∈ shT)) && ((k != 5 || (x == 0 || decide (x.toNatClampNeg ∈ shA))) && (k != 6 || (x == 0 || x == 90))))
theorem okB_ok {k : Nat} {x : Int32} (h : okB k x = true) : okV k x := by
  unfold okB at h
  simp only [Bool.and_eq_true, Bool.or_eq_true, bne_iff_ne, ne_eq, beq_iff_eq, decide_eq_true_eq] at h
  obtain ⟨h1, h2, h3, h4⟩ := h
  exact ⟨fun e => h1.resolve_left (fun n => n e), fun e => h2.resolve_left (fun n => n e), fun e => h3.resolve_left (fun n => n e), fun e => h4.resolve_left (fun n => n e)⟩
def chkO (p : Nat × Nat × List Nat) (q : Nat × mC) : Bool := q.1 == p.1 && (q.2.1 == p.2.1 && (q.2.2.length == p.2.2.length && (decide (List.zipWith mkV p.2.2 (q.2.2.map vI) = q.2.2) && (List.zipWith okB p.2.2 (q.2.2.map vI)).all id)))
theorem ini_O : (shO.all fun p => mp_ce.any fun q => chkO p q) = true := by decide +kernel
theorem ini_O2 : (shO.all fun p => !shT.contains p.1 && (!shP.contains p.1 && p.1 != 101)) = true := by decide +kernel
theorem zip_ok : ∀ (ks : List Nat) (l : List Int32), ks.length = l.length → (List.zipWith okB ks l).all id = true → ∀ j k, ks[j]? = some k → okV k (l.getD j 0) := by
  intro ks
  induction ks with
  | nil => intro l _ _ j k h; cases h
  | cons c ks ih =>
    intro l hl h j k hj
    cases l with
    | nil => cases hl
    | cons x l =>
      simp only [List.zipWith_cons_cons, List.all_cons, id_eq, Bool.and_eq_true] at h
      cases j with
      | zero => cases hj; exact okB_ok h.1
      | succ j => exact ih l (by simpa using hl) h.2 j k hj
theorem vs_int : ∀ (vs : List Value), vs.all m_isI = true → vs = (vs.map vI).map Value.int := by
  intro vs
  induction vs with
  | nil => intro _; rfl
  | cons v vs ih =>
    intro h
    rw [List.all_cons, Bool.and_eq_true] at h
    cases v with
    | int x => rw [List.map_cons, List.map_cons, ← ih h.2]; rfl
    | _ => cases h.1
def chkA (a : Nat) : Bool := !shT.contains a && (!shP.contains a && (a != 101 && mp_ar.any fun q => q.1 == a && q.2.1 == 1001))
theorem ini_A : (shW.all chkA) = true := by decide +kernel
theorem ini_A0 : ((mp_ht[38]?) = some (1001, mp_aS.map Value.int)) ∧ ((mp_ht[39]?) = some (1001, mp_aE.map Value.int)) := by decide +kernel
def chkT (o : Nat) : Bool := (mp_ce.any fun q => q.1 == o && decide (q.2 = (4, [.ref (o + 1), .int (if o = 42 ∨ o = 44 ∨ o = 49 then 0 else 4), .int 0]))) && mp_ar.any fun q => q.1 == o + 1 && (q.2.1 == 1000 && (q.2.2.1 == 4096 && decide (q.2.2.2 = if o = 42 ∨ o = 44 ∨ o = 49 then [] else [Value.int 110, .int 117, .int 108, .int 108])))
theorem ini_T : (shT.all fun o => chkT o && decide (41 ≤ o)) = true := by decide +kernel
def chkP (o : Nat) : Bool := (mp_ce.any fun q => q.1 == o && decide (q.2 = (15, [.ref (o + 1), .int 0, .int 0]))) && mp_ar.any fun q => q.1 == o + 1 && (q.2.1 == 1001 && q.2.2.1 == 4096)
theorem ini_P : (shP.all fun o => chkP o && !shT.contains o) = true := by decide +kernel
theorem ini_46 : (mp_ce.any fun q => q.1 == 46 && (q.2.1 == 1003 && (decide (q.2.2 = (q.2.2.map vI).map fun x => Value.ref x.toNatClampNeg) && (q.2.2.map vI).all fun x => decide (x.toNatClampNeg ∈ shT)))) = true := by decide +kernel
theorem ini_81 : (mp_ce.any fun q => q.1 == 81 && decide (q.2 = (1004, sh81.map fun x => Value.ref x.toNatClampNeg))) = true := by decide +kernel
theorem ini_71 : (mp_ar.any fun q => q.1 == 71 && q.2.1 == 1000) = true := by decide +kernel
theorem ini_S : (shS.all fun s => decide (mp_ht[s.1 - 1]? = some (17, [.ref s.2.1, .int 0])) && (decide (mp_ht[s.2.1 - 1]? = some (1000, s.2.2.map Value.int)) && (decide (1 ≤ s.1 ∧ 1 ≤ s.2.1 ∧ s.2.2.length < 65536) && s.2.2.all fun u => decide (u &&& 255 = u ∧ (u.toUInt32 % 65536).toInt32 = u ∧ narrow .char (.int u) = .int u)))) = true := by decide +kernel
theorem cs_of {xs : List Int32} {h : mH} (hm : m_s2 xs h) : cs h (S_of h) := by
  obtain ⟨m1, m2, m3, m4, m5⟩ := hm
  have lo : ∀ k, k < 41 → h[k]? = (mp_h0 xs)[k]? := by
    intro k hk
    rw [← m2, List.getElem?_take_of_lt hk]
  refine ⟨fun u => ⟨fun t ks m => ?_, fun m => ?_, fun m => ?_, fun m => ?_, fun m => ?_, fun m => ?_⟩, ?_, fun s ms => ?_, ?_⟩
  · have h1 := List.all_eq_true.mp ini_O _ m
    have h2 := List.all_eq_true.mp ini_O2 _ m
    simp only [Bool.and_eq_true, Bool.not_eq_true', bne_iff_ne, ne_eq] at h2
    obtain ⟨q, hq, hc⟩ := List.any_eq_true.mp h1
    unfold chkO at hc
    simp only [Bool.and_eq_true, beq_iff_eq, decide_eq_true_eq] at hc
    obtain ⟨e1, e2, e3, e4, e5⟩ := hc
    have hcell := m4 q hq
    rw [e1] at hcell
    have eS : S_of h u = q.2.2.map vI := by
      unfold S_of
      rw [if_neg (fun e => by rw [List.contains_iff_mem.mpr e] at h2; cases h2.1), if_neg (fun e => by rw [List.contains_iff_mem.mpr e] at h2; cases h2.2.1), if_neg h2.2.2, hcell]
      rfl
    rw [eS]
    refine ⟨by rw [List.length_map]; exact e3, ?_, zip_ok ks _ (by rw [List.length_map]; exact e3.symm) e5⟩
    rw [e4, ← e2]
    exact hcell
  · by_cases hw : u ∈ shW
    · have h1 := List.all_eq_true.mp ini_A _ hw
      unfold chkA at h1
      simp only [Bool.and_eq_true, Bool.not_eq_true', bne_iff_ne, ne_eq] at h1
      obtain ⟨h2, h3, h4, h5⟩ := h1
      obtain ⟨q, hq, hc⟩ := List.any_eq_true.mp h5
      simp only [Bool.and_eq_true, beq_iff_eq] at hc
      obtain ⟨vs, v1, v2, v3, v4⟩ := m5 q hq
      rw [hc.1, hc.2] at v1
      have eS : S_of h u = vs.map vI := by
        unfold S_of
        rw [if_neg (fun e => by rw [List.contains_iff_mem.mpr e] at h2; cases h2), if_neg (fun e => by rw [List.contains_iff_mem.mpr e] at h3; cases h3), if_neg h4, v1]
        rfl
      rw [eS, ← vs_int vs v4]
      exact v1
    · have : u = 0 ∨ u = 39 ∨ u = 40 := by
        have hA : ∀ x ∈ shA, x ∈ shW ∨ (x = 0 ∨ x = 39 ∨ x = 40) := by decide
        exact (hA u m).resolve_left hw
      have key : ∀ l : List Int32, u ∉ shT → u ∉ shP → u ≠ 101 → h[u]? = some (1001, l.map Value.int) → h[u]? = some (1001, (S_of h u).map Value.int) := by
        intro l t1 t2 t3 hc
        unfold S_of
        rw [if_neg t1, if_neg t2, if_neg t3, hc]
        simp only [Option.map_some, Option.getD_some, List.map_map]
        rfl
      rcases this with rfl | rfl | rfl
      · exact key xs (by decide) (by decide) (by decide) (by rw [lo 0 (by decide)]; rfl)
      · exact key mp_aS (by decide) (by decide) (by decide) (by rw [lo 39 (by decide)]; exact ini_A0.1)
      · exact key mp_aE (by decide) (by decide) (by decide) (by rw [lo 40 (by decide)]; exact ini_A0.2)
  · have h1 := List.all_eq_true.mp ini_T _ m
    rw [Bool.and_eq_true] at h1
    obtain ⟨h1, h41⟩ := h1
    have h41 := of_decide_eq_true h41
    unfold chkT at h1
    rw [Bool.and_eq_true] at h1
    obtain ⟨q, hq, hc⟩ := List.any_eq_true.mp h1.1
    obtain ⟨q2, hq2, hc2⟩ := List.any_eq_true.mp h1.2
    simp only [Bool.and_eq_true, beq_iff_eq, decide_eq_true_eq] at hc hc2
    have hcell := m4 q hq
    rw [hc.1, hc.2] at hcell
    obtain ⟨vs, v1, v2, v3, v4⟩ := m5 q2 hq2
    rw [hc2.1, hc2.2.1] at v1
    rw [hc2.2.2.1] at v2
    rw [hc2.2.2.2] at v3
    have eS : S_of h u = if u = 42 ∨ u = 44 ∨ u = 49 then [0] else [0, 110, 117, 108, 108] := by
      unfold S_of
      rw [if_pos m]
    rw [eS]
    by_cases e : u = 42 ∨ u = 44 ∨ u = 49
    · rw [if_pos e] at hcell ⊢
      exact ⟨⟨h41, by omega, hcell, by decide, (fun u hu => by cases hu), vs, v1, by simpa using v2⟩, Or.inl rfl⟩
    · rw [if_neg e] at hcell v3 ⊢
      refine ⟨⟨h41, by omega, hcell, by decide, by decide, vs.drop 4, ?_, ?_⟩, Or.inl rfl⟩
      · have e1 : vs = vs.take 4 ++ vs.drop 4 := (List.take_append_drop 4 vs).symm
        have e2 : vs.take 4 = [Value.int 110, .int 117, .int 108, .int 108] := v3
        rw [v1]
        congr 2
        rw [← List.take_append_drop 4 vs, e2]
        simp only [List.drop_append, List.length_cons, List.length_nil]
        rfl
      · rw [List.length_drop, v2]; rfl
  · have h1 := List.all_eq_true.mp ini_P _ m
    rw [Bool.and_eq_true] at h1
    obtain ⟨h1, h2⟩ := h1
    unfold chkP at h1
    rw [Bool.and_eq_true] at h1
    obtain ⟨q, hq, hc⟩ := List.any_eq_true.mp h1.1
    obtain ⟨q2, hq2, hc2⟩ := List.any_eq_true.mp h1.2
    simp only [Bool.and_eq_true, beq_iff_eq, decide_eq_true_eq] at hc hc2
    have hcell := m4 q hq
    rw [hc.1, hc.2] at hcell
    obtain ⟨vs, v1, v2, v3, v4⟩ := m5 q2 hq2
    rw [hc2.1, hc2.2.1] at v1
    rw [hc2.2.2] at v2
    have eS : S_of h u = [0] := by
      unfold S_of
      rw [if_neg (fun e => by rw [List.contains_iff_mem.mpr e] at h2; cases h2), if_pos m]
    rw [eS]
    exact ⟨⟨hcell, by decide, vs.map vI, by rw [List.tail_cons, List.nil_append, ← vs_int vs v4]; exact v1, by simpa using v2⟩, Or.inl rfl⟩
  · subst m
    obtain ⟨q, hq, hc⟩ := List.any_eq_true.mp ini_71
    simp only [Bool.and_eq_true, beq_iff_eq] at hc
    obtain ⟨vs, v1, v2, v3, v4⟩ := m5 q hq
    rw [hc.1, hc.2] at v1
    have eS : S_of h 71 = vs.map vI := by
      unfold S_of
      rw [if_neg (by decide), if_neg (by decide), if_neg (by decide), v1]
      rfl
    rw [eS, ← vs_int vs v4]
    exact v1
  · subst m
    obtain ⟨q, hq, hc⟩ := List.any_eq_true.mp ini_46
    simp only [Bool.and_eq_true, beq_iff_eq, decide_eq_true_eq, List.all_eq_true] at hc
    obtain ⟨c1, c2, c3, c4⟩ := hc
    have hcell := m4 q hq
    rw [c1] at hcell
    have eS : S_of h 46 = q.2.2.map vI := by
      unfold S_of
      rw [if_neg (by decide), if_neg (by decide), if_neg (by decide), hcell]
      rfl
    rw [eS, ← c3]
    exact ⟨by rw [hcell]; congr 1; exact Prod.ext c2 rfl, c4⟩
  · obtain ⟨q, hq, hc⟩ := List.any_eq_true.mp ini_81
    simp only [Bool.and_eq_true, beq_iff_eq, decide_eq_true_eq] at hc
    have hcell := m4 q hq
    rw [hc.1, hc.2] at hcell
    exact hcell
  · have h1 := List.all_eq_true.mp ini_S _ ms
    simp only [Bool.and_eq_true, decide_eq_true_eq, List.all_eq_true] at h1
    obtain ⟨a1, a2, a3, a4⟩ := h1
    obtain ⟨l1, l2⟩ := sx_lt s ms
    have ht : ∀ k, 1 ≤ k → k < 41 → h[k]? = mp_ht[k - 1]? := by
      intro k k1 k2
      rw [lo k k2]
      obtain ⟨j, rfl⟩ : ∃ j, k = j + 1 := ⟨k - 1, by omega⟩
      rfl
    exact ⟨by rw [ht _ a3.1 l1]; exact a1, by rw [ht _ a3.2.1 l2]; exact a2, a3.2.2, a4⟩
  · rw [m3]
    have e : lg (S_of h 101) = 0 := by
      unfold S_of
      rw [if_neg (by decide), if_neg (by decide), if_pos rfl]
      exact lg_E 0
    rw [e]
end Init121
end

section
/-! What is left to show: each call keeps what holds between calls, and both answer alike. -/
section Goal122
theorem and15 (y : Int32) : 0 ≤ (y &&& 15).toInt ∧ (y &&& 15).toInt ≤ 15 := by
  have h : (y &&& 15).toBitVec.toNat ≤ 15 := by
    rw [Int32.toBitVec_and, BitVec.toNat_and]
    exact Nat.and_le_right
  have e : (y &&& 15).toInt = ((y &&& 15).toBitVec.toNat : Int) := by
    show (y &&& 15).toBitVec.toInt = _
    rw [BitVec.toInt_eq_toNat_of_lt]
    omega
  omega
/-- the call feed: both answer alike, and I holds behind it -/
def stp0 (I : SS → Prop) : Prop := ∀ (S : SS) (p0 p1 p2 p3 p4 : Int32), (∃ h, cs h S) → I S → ∃ (c : SS × Int32) (w : SS × Int32), h_feed S p0 p1 p2 p3 p4 = some c ∧ c.1 0 = S 0 ∧ b_feed c.1 p0 p1 p2 p3 p4 = some w ∧ rd w.1 78 0 = c.2 ∧ (c.2 = 0 → lg (w.1 101) = w.2.toInt64) ∧ w.1 0 = S 0 ∧ I w.1
/-- the call end: both answer alike, and I holds behind it -/
def stp1 (I : SS → Prop) : Prop := ∀ (S : SS) (p0 : Int32), (∃ h, cs h S) → I S → ∃ (c : SS × Int32) (w : SS × Int32), h_end S p0 = some c ∧ c.1 0 = S 0 ∧ b_end c.1 p0 = some w ∧ rd w.1 78 0 = c.2 ∧ (c.2 = 0 → lg (w.1 101) = w.2.toInt64) ∧ w.1 0 = S 0 ∧ I w.1
/-- the call read: both answer alike, and I holds behind it -/
def stp2 (I : SS → Prop) : Prop := ∀ (S : SS) (p0 : Int32), (∃ h, cs h S) → I S → ∃ (c : SS × Int32) (w : SS × Int32), h_read S p0 = some c ∧ c.1 0 = S 0 ∧ b_read c.1 p0 = some w ∧ rd w.1 78 0 = c.2 ∧ (c.2 = 0 → lg (w.1 101) = w.2.toInt64) ∧ w.1 0 = S 0 ∧ I w.1
/-- the call print: both answer alike, and I holds behind it -/
def stp3 (I : SS → Prop) : Prop := ∀ (S : SS) (p0 : Int32), (∃ h, cs h S) → I S → ∃ (c : SS × Int32) (w : SS × Int32), h_print S p0 = some c ∧ c.1 0 = S 0 ∧ b_print c.1 p0 = some w ∧ rd w.1 78 0 = c.2 ∧ (c.2 = 0 → lg (w.1 101) = w.2.toInt64) ∧ w.1 0 = S 0 ∧ I w.1
/-- the call get: both answer alike, and I holds behind it -/
def stp4 (I : SS → Prop) : Prop := ∀ (S : SS) (p0 p1 p2 : Int32), (∃ h, cs h S) → I S → ∃ (c : SS × Int32) (w : SS), h_get S p0 p1 p2 = some c ∧ c.1 0 = S 0 ∧ b_get c.1 p0 p1 p2 = some w ∧ rd w 78 0 = c.2 ∧ w 0 = S 0 ∧ I w
/-- the call set: both answer alike, and I holds behind it -/
def stp5 (I : SS → Prop) : Prop := ∀ (S : SS) (p0 p1 p2 p3 : Int32), (∃ h, cs h S) → I S → ∃ (c : SS × Int32) (w : SS), h_set S p0 p1 p2 p3 = some c ∧ c.1 0 = S 0 ∧ b_set c.1 p0 p1 p2 p3 = some w ∧ rd w 78 0 = c.2 ∧ w 0 = S 0 ∧ I w
/-- the call del: both answer alike, and I holds behind it -/
def stp6 (I : SS → Prop) : Prop := ∀ (S : SS) (p0 p1 p2 : Int32), (∃ h, cs h S) → I S → ∃ (c : SS × Int32) (w : SS), h_del S p0 p1 p2 = some c ∧ c.1 0 = S 0 ∧ b_del c.1 p0 p1 p2 = some w ∧ rd w 78 0 = c.2 ∧ w 0 = S 0 ∧ I w
/-- the call all: both answer alike, and I holds behind it -/
def stp7 (I : SS → Prop) : Prop := ∀ (S : SS) (p0 p1 : Int32), (∃ h, cs h S) → I S → ∃ (c : SS × Int32) (w : SS), h_all S p0 p1 = some c ∧ c.1 0 = S 0 ∧ b_all c.1 p0 p1 = some w ∧ rd w 78 0 = c.2 ∧ w 0 = S 0 ∧ I w
/-- the call same: both answer alike, and I holds behind it -/
def stp8 (I : SS → Prop) : Prop := ∀ (S : SS) (p0 p1 : Int32), (∃ h, cs h S) → I S → ∃ (c : SS × Int32) (w : SS × Int32), h_same S p0 p1 = some c ∧ c.1 0 = S 0 ∧ b_same c.1 p0 p1 = some w ∧ rd w.1 78 0 = c.2 ∧ (c.2 = 0 → lg (w.1 101) = if w.2 = 0 then 0 else 1) ∧ w.1 0 = S 0 ∧ I w.1
/-- the call word: both answer alike, and I holds behind it -/
def stp9 (I : SS → Prop) : Prop := ∀ (S : SS) (p0 : Int32), (∃ h, cs h S) → I S → ∃ (c : SS × Int32) (w : SS × Int64), h_word S p0 = some c ∧ c.1 0 = S 0 ∧ b_word c.1 p0 = some w ∧ rd w.1 78 0 = c.2 ∧ (c.2 = 0 → lg (w.1 101) = w.2) ∧ w.1 0 = S 0 ∧ I w.1
/-- the call count: both answer alike, and I holds behind it -/
def stp10 (I : SS → Prop) : Prop := ∀ (S : SS) (p0 : Int32), (∃ h, cs h S) → I S → ∃ (c : SS × Int32) (w : SS × Int32), h_count S p0 = some c ∧ c.1 0 = S 0 ∧ b_count c.1 p0 = some w ∧ rd w.1 78 0 = c.2 ∧ (c.2 = 0 → lg (w.1 101) = w.2.toInt64) ∧ w.1 0 = S 0 ∧ I w.1
end Goal122
end

section
/-! What holds between calls; the calls count, word and end. -/
section Inv123
theorem rd_up {S : SS} {a b k : Nat} {l : List Int32} (h : b ≠ a) : rd (up S a l) b k = rd S b k := by unfold rd; rw [up_ne h]
theorem wr_ne {S : SS} {a b k : Nat} {v : Int32} (h : b ≠ a) : wr S a k v b = S b := up_ne h
theorem rd_wr_ne {S : SS} {a b k j : Nat} {v : Int32} (h : b ≠ a) : rd (wr S a k v) b j = rd S b j := rd_up h
theorem rd_wr {S : SS} {a k : Nat} {v : Int32} (h : k < (S a).length) : rd (wr S a k v) a k = v := by
  unfold rd wr
  rw [up_same, List.getD_eq_getElem?_getD, List.getElem?_set_self h]
  rfl
theorem rd_wr_j {S : SS} {a k j : Nat} {v : Int32} (h : k ≠ j) : rd (wr S a k v) a j = rd S a j := by
  unfold rd wr
  rw [up_same, List.getD_eq_getElem?_getD, List.getElem?_set_ne h, List.getD_eq_getElem?_getD]
theorem wr_len {S : SS} {a k b : Nat} {v : Int32} : (wr S a k v b).length = (S b).length := by
  unfold wr up
  split
  · next e => rw [List.length_set, e]
  · rfl
/-- the places of the nine Texts that change places -/
def nine : List Nat := [49, 51, 53, 55, 57, 59, 61, 63, 65]
/-- rows that calls write anew -/
def InvL (S : SS) : Prop := rd S 47 1 = 0 ∧ (S 48).length = 2048 ∧ (S 71).length = 100 ∧ (S 74).length = 100 ∧ (S 76).length = 60 ∧ (S 77).length = 60 ∧ (S 80).length = 9000 ∧ (S 91).length = 9000 ∧ (S 97).length = 4200 ∧ (S 98).length = 9000 ∧ (S 99).length = 64 ∧ (S 100).length = 64 ∧ S 39 = mp_aS ∧ S 40 = mp_aE
/-- register r, by both -/
def InvR (S : SS) (a r : Nat) (t : Vl) : Prop := S a = 0 :: bV t ∧ (bV t).length ≤ 4096 ∧ wV t ∧ dV t ≤ 60 ∧ (S (82 + r)).length = 9000 ∧ ∃ j, S (82 + r) = cV t ++ j
/-- the registers: their Texts, the draft -/
def InvG (S : SS) (ts : Nat → Vl) (dr : Nat) (ra : List Nat) : Prop := S 46 = ra.map Int32.ofNat ∧ ra.length = 8 ∧ (dr :: ra).Perm nine ∧ rd S 41 9 = Int32.ofNat dr ∧ ∀ r, r < 8 → InvR S (ra.getD r 0) r (ts r)
/-- the tape, by both -/
def InvT (S : SS) (tape : List Int32) : Prop := S 42 = 0 :: tape ∧ tape.length ≤ 4096 ∧ byt tape ∧ (S 79).length = 4096 ∧ (∃ j, S 79 = tape ++ j) ∧ rd S 78 1 = Int32.ofNat tape.length
/-- what was printed last, by both -/
def InvP (S : SS) (res : List Int32) : Prop := S 44 = 0 :: res ∧ S 92 = 0 :: res ∧ res.length ≤ 4096 ∧ asc res
/-- where the tape was broken, why a call was refused -/
def InvB (S : SS) : Prop := (False → rd S 78 3 = rd S 41 10) ∧ (False → rd S 78 4 = rd S 41 11)
/-- the call count, its answers not compared -/
def stu10 (I : SS → Prop) : Prop := ∀ (S : SS) (p0 : Int32), (∃ h, cs h S) → I S → ∃ (c : SS × Int32) (w : SS × Int32), h_count S p0 = some c ∧ c.1 0 = S 0 ∧ b_count c.1 p0 = some w ∧ w.1 0 = S 0 ∧ I w.1
def Inv (S : SS) : Prop := InvL S ∧ InvB S ∧ (∃ tape, InvT S tape) ∧ (∃ res, InvP S res) ∧ ∃ ts dr ra, InvG S ts dr ra
theorem InvL.move {S S' : SS} (h : InvL S) (h1 : ∀ a ∈ [47, 48, 71, 74, 76, 77, 80, 91, 97, 98, 99, 100, 39, 40], S' a = S a) : InvL S' := by
  obtain ⟨a1, a2, a3, a4, a5, a6, a7, a8, a9, a10, a11, a12, a13, a14⟩ := h
  have e : ∀ a, a ∈ [47, 48, 71, 74, 76, 77, 80, 91, 97, 98, 99, 100, 39, 40] → S' a = S a := h1
  unfold InvL rd
  rw [e 47 (by decide), e 48 (by decide), e 71 (by decide), e 74 (by decide), e 76 (by decide), e 77 (by decide), e 80 (by decide), e 91 (by decide), e 97 (by decide), e 98 (by decide), e 99 (by decide), e 100 (by decide), e 39 (by decide), e 40 (by decide)]
  exact ⟨a1, a2, a3, a4, a5, a6, a7, a8, a9, a10, a11, a12, a13, a14⟩
theorem InvR.move {S S' : SS} {a r : Nat} {t : Vl} (h : InvR S a r t) (h1 : S' a = S a) (h2 : S' (82 + r) = S (82 + r)) : InvR S' a r t := by
  unfold InvR
  rw [h1, h2]
  exact h
theorem ra_mem {dr : Nat} {ra : List Nat} (h : (dr :: ra).Perm nine) (hl : ra.length = 8) {r : Nat} (hr : r < 8) : ra.getD r 0 ∈ nine := by
  have : ra.getD r 0 ∈ ra := by
    rw [List.getD_eq_getElem?_getD, List.getElem?_eq_getElem (by omega)]
    exact List.getElem_mem _
  exact h.mem_iff.mp (List.mem_cons_of_mem _ this)
theorem InvG.move {S S' : SS} {ts : Nat → Vl} {dr : Nat} {ra : List Nat} (h : InvG S ts dr ra) (h1 : S' 46 = S 46) (h2 : rd S' 41 9 = rd S 41 9) (h3 : ∀ a ∈ nine, S' a = S a) (h4 : ∀ r, r < 8 → S' (82 + r) = S (82 + r)) : InvG S' ts dr ra := by
  obtain ⟨g1, g2, g3, g4, g5⟩ := h
  exact ⟨h1.trans g1, g2, g3, h2.trans g4, fun r hr => (g5 r hr).move (h3 _ (ra_mem g3 g2 hr)) (h4 r hr)⟩
theorem InvT.move {S S' : SS} {tape : List Int32} (h : InvT S tape) (h1 : S' 42 = S 42) (h2 : S' 79 = S 79) (h3 : rd S' 78 1 = rd S 78 1) : InvT S' tape := by
  unfold InvT
  rw [h1, h2, h3]
  exact h
theorem InvP.move {S S' : SS} {res : List Int32} (h : InvP S res) (h1 : S' 44 = S 44) (h2 : S' 92 = S 92) : InvP S' res := by
  unfold InvP
  rw [h1, h2]
  exact h
/-- only what the law or the reference notes of a call has changed -/
theorem Inv.note {S S' : SS} (h : Inv S) (h1 : ∀ a, a ≠ 78 → a ≠ 101 → S' a = S a) (h2 : rd S' 78 1 = rd S 78 1) (h3 : rd S' 78 3 = rd S 78 3) (h4 : rd S' 78 4 = rd S 78 4) : Inv S' := by
  obtain ⟨i1, i2, ⟨tape, i3⟩, ⟨res, i4⟩, ts, dr, ra, i5⟩ := h
  have e : ∀ k, rd S' 41 k = rd S 41 k := fun k => by unfold rd; rw [h1 41 (by decide) (by decide)]
  refine ⟨i1.move fun a ha => h1 a ?_ ?_, ⟨by rw [h3, e]; exact i2.1, by rw [h4, e]; exact i2.2⟩, ⟨tape, i3.move (h1 42 (by decide) (by decide)) (h1 79 (by decide) (by decide)) h2⟩, ⟨res, i4.move (h1 44 (by decide) (by decide)) (h1 92 (by decide) (by decide))⟩, ts, dr, ra, i5.move (h1 46 (by decide) (by decide)) (e 9) (fun a ha => h1 a ?_ ?_) (fun r hr => h1 _ (by omega) (by omega))⟩
  · intro e; rw [e] at ha; revert ha; decide
  · intro e; rw [e] at ha; revert ha; decide
  · intro e; rw [e] at ha; revert ha; decide
  · intro e; rw [e] at ha; revert ha; decide
theorem cs.l78 {S : SS} (h : ∃ h, cs h S) : (S 78).length = 22 ∧ (S 41).length = 12 ∧ (S 90).length = 3 ∧ (S 96).length = 5 ∧ (S 67).length = 6 ∧ (S 68).length = 4 ∧ (S 69).length = 9 ∧ (S 70).length = 4 ∧ (S 72).length = 6 ∧ (S 73).length = 4 ∧ (S 75).length = 4 ∧ (S 47).length = 2 := by
  obtain ⟨h, hs⟩ := h
  exact ⟨(hs.ob o78).1, (hs.ob o41).1, (hs.ob o90).1, (hs.ob o96).1, (hs.ob o67).1, (hs.ob o68).1, (hs.ob o69).1, (hs.ob o70).1, (hs.ob o72).1, (hs.ob o73).1, (hs.ob o75).1, (hs.ob o47).1⟩
/-- noted: nothing was thrown, or what -/
theorem note0 {S : SS} {y : Int64} {v : Int32} (h : Inv S) : Inv (wr (up S 101 (lgE y)) 78 0 v) :=
  h.note (fun a n1 n2 => by rw [wr_ne n1, up_ne n2]) (by rw [rd_wr_j (by decide), rd_up (by decide)]) (by rw [rd_wr_j (by decide), rd_up (by decide)]) (by rw [rd_wr_j (by decide), rd_up (by decide)])
theorem note1 {S : SS} {v : Int32} (h : Inv S) : Inv (wr S 78 0 v) :=
  h.note (fun a n1 _ => wr_ne n1) (rd_wr_j (by decide)) (rd_wr_j (by decide)) (rd_wr_j (by decide))
theorem wr_wr (S : SS) (a k : Nat) (v v' : Int32) : wr (wr S a k v) a k v' = wr S a k v' := by
  unfold wr
  rw [up_up, up_same, List.set_set]
theorem fail_eq (S : SS) (v w : Int32) : b_fail (wr S 78 0 v) w = some (wr S 78 0 w, 0) := by unfold b_fail; rw [wr_wr]
/-- count -/
theorem oq10 : stu10 Inv := by
  intro S p0 hc hI
  obtain ⟨l78, l41, -⟩ := cs.l78 hc
  have hI' := hI
  obtain ⟨i1, i2, ⟨tape, i3⟩, ⟨res, i4⟩, -⟩ := hI'
  have key : ∀ v v' : Int32, a_count S p0 = some (S, 0, v) → (∀ y, b_count (up S 101 y) p0 = some (wr (up S 101 y) 78 0 0, v')) → ∃ (c : SS × Int32) (w : SS × Int32), h_count S p0 = some c ∧ c.1 0 = S 0 ∧ b_count c.1 p0 = some w ∧ w.1 0 = S 0 ∧ Inv w.1 := by
    intro v v' e1 e2
    refine ⟨(up S 101 (lgE v.toInt64), 0), (wr (up S 101 (lgE v.toInt64)) 78 0 0, v'), ?_, (show up S 101 (lgE v.toInt64) 0 = S 0 from up_ne (by decide)), e2 _, ?_, note0 hI⟩
    · unfold h_count; rw [e1, o_bind, if_pos rfl]
    · show wr (up S 101 (lgE v.toInt64)) 78 0 0 0 = _
      rw [wr_ne (by decide), up_ne (by decide)]
  have r1 : ∀ y, rd (wr (up S 101 y) 78 0 0) 78 1 = rd S 78 1 := fun y => by rw [rd_wr_j (by decide), rd_up (by decide)]
  by_cases h0 : p0 = 0
  · refine key (Int32.ofNat tape.length) (Int32.ofNat tape.length) (by unfold a_count; rw [if_pos h0]; unfold tT; rw [i3.1]; rfl) fun y => ?_
    unfold b_count
    rw [if_pos h0, rd_wr_j (by decide), rd_up (by decide), i3.2.2.2.2.2]
  by_cases h1 : p0 = 1
  · refine key (Int32.ofNat res.length) (Int32.ofNat res.length) (by unfold a_count; rw [if_neg h0, if_pos h1]; unfold tT; rw [i4.1]; rfl) fun y => ?_
    unfold b_count
    rw [if_neg h0, if_pos h1]
    unfold tT
    rw [wr_ne (by decide), up_ne (by decide), i4.2.1]
    rfl
  by_cases h2 : p0 = 2
  · refine key (rd S 41 10) (rd S 78 3) (by unfold a_count; rw [if_neg h0, if_neg h1, if_pos h2]) fun y => ?_
    unfold b_count
    rw [if_neg h0, if_neg h1, if_pos h2, rd_wr_j (by decide), rd_up (by decide)]
  by_cases h3 : p0 = 3
  · refine key (rd S 41 11) (rd S 78 4) (by unfold a_count; rw [if_neg h0, if_neg h1, if_neg h2, if_pos h3]) fun y => ?_
    unfold b_count
    rw [if_neg h0, if_neg h1, if_neg h2, if_pos h3, rd_wr_j (by decide), rd_up (by decide)]
  refine ⟨(S, 1), (wr S 78 0 1, 0), ?_, rfl, ?_, (show wr S 78 0 1 0 = S 0 from wr_ne (by decide)), note1 hI⟩
  · unfold h_count a_count
    rw [if_neg h0, if_neg h1, if_neg h2, if_neg h3, o_bind, if_neg (show ¬ (2 : Nat) = 0 by decide), if_pos rfl]
  · unfold b_count
    rw [if_neg h0, if_neg h1, if_neg h2, if_neg h3, fail_eq, o_bind]
end Inv123
end

section
/-! The calls word, end, print. -/
section Ops124
theorem i_or3 : ∀ x : Int32, x < 0 ∨ 0 ≤ x := by
  intro x
  rw [i_lt, i_le]
  omega
theorem i_dec {x : Int32} (h : ¬ x < 0) : x = Int32.ofNat x.toNatClampNeg ∧ x.toNatClampNeg < 2147483648 := by
  rw [i_lt] at h
  have z0 : (0 : Int32).toInt = 0 := rfl
  have h2 := Int32.toInt_lt x
  rw [i_nat]
  have h3 : x.toInt.toNat < 2147483648 := by omega
  exact ⟨i_ofnn (by omega) h3, h3⟩
theorem word_l {S : SS} {res : List Int32} {i : Nat} (hr : tT S 44 = res) (hl : res.length ≤ 4096) (hA : asc res) (hi : i < res.length) : ∀ (m k : Nat) (acc : Int64), k + m = 8 → ∃ x, (∀ n, m < n → a_word_l28 n S (Int32.ofNat i) acc (Int32.ofNat k) = some (S, 0, x)) ∧ ∀ n S', m < n → tT S' 92 = res → b_word_l32 n S' (Int32.ofNat i) acc (Int32.ofNat (i + k)) = some (S', x) := by
  intro m
  induction m with
  | zero =>
    intro k acc hk
    refine ⟨acc, fun n hn => ?_, fun n S' hn h => ?_⟩
    · obtain ⟨n, rfl⟩ : ∃ j, n = j + 1 := ⟨n - 1, by omega⟩
      unfold a_word_l28
      rw [if_pos (by rw [show (8 : Int32) = Int32.ofNat 8 from rfl, i_le' (by omega) (by omega)]; omega)]
    · obtain ⟨n, rfl⟩ : ∃ j, n = j + 1 := ⟨n - 1, by omega⟩
      unfold b_word_l32
      rw [if_pos (by rw [show Int32.ofNat i + 8 = Int32.ofNat (i + 8) from (Int32.ofNat_add i 8).symm, i_le' (by omega) (by omega)]; omega)]
  | succ m ih =>
    intro k acc hk
    obtain ⟨x, h1, h2⟩ := ih (k + 1) ((acc <<< ((8 : Int32).toInt64 &&& 63)) ||| ((imax (tat res (Int32.ofNat i + Int32.ofNat k)) 0).toInt64)) (by omega)
    refine ⟨x, fun n hn => ?_, fun n S' hn h => ?_⟩
    · obtain ⟨n, rfl⟩ : ∃ j, n = j + 1 := ⟨n - 1, by omega⟩
      unfold a_word_l28
      rw [if_neg (by rw [show (8 : Int32) = Int32.ofNat 8 from rfl, i_le' (by omega) (by omega)]; omega), hr, i_a1, h1 n (by omega)]
    · obtain ⟨n, rfl⟩ : ∃ j, n = j + 1 := ⟨n - 1, by omega⟩
      unfold b_word_l32
      rw [if_neg (by rw [show Int32.ofNat i + 8 = Int32.ofNat (i + 8) from (Int32.ofNat_add i 8).symm, i_le' (by omega) (by omega)]; omega), h, i_a1]
      have h2' := h2 n S' (by omega) h
      rw [← Int32.ofNat_add] at h2'
      by_cases e : i + k < res.length
      · rw [if_neg (by rw [i_le' (by omega) (by omega)]; omega), iget_in e (by omega), o_bind]
        rw [tat_in hl e] at h2'
        have h3 := hA res[i + k] (List.getElem_mem e)
        have e2 : imax res[i + k] 0 = res[i + k] := by
          unfold imax
          rw [if_neg (by have := h3.1; rw [i_le] at this; rw [i_lt]; omega)]
        rw [e2] at h2'
        exact h2'
      · rw [if_pos (by rw [i_le' (by omega) (by omega)]; omega)]
        rw [tat_out hl (by omega) (by omega)] at h2'
        exact h2'
theorem op9 : stp9 Inv := by
  intro S p0 hc hI
  obtain ⟨l78, l41, -⟩ := cs.l78 hc
  obtain ⟨-, -, -, ⟨res, i4⟩, -⟩ := id hI
  obtain ⟨q1, q2, q3, q4⟩ := i4
  have t1 : tT S 44 = res := by unfold tT; rw [q1]; rfl
  have bad : (p0 < 0 ∨ ¬ p0 < Int32.ofNat res.length) → ∃ (c : SS × Int32) (w : SS × Int64), h_word S p0 = some c ∧ c.1 0 = S 0 ∧ b_word c.1 p0 = some w ∧ rd w.1 78 0 = c.2 ∧ (c.2 = 0 → lg (w.1 101) = w.2) ∧ w.1 0 = S 0 ∧ Inv w.1 := by
    intro hb
    have t2 : tT (wr S 78 0 0) 92 = res := by unfold tT; rw [wr_ne (by decide), q2]; rfl
    have e1 : a_word S p0 = some (S, 1, 0) := by
      unfold a_word
      by_cases h : p0 < 0
      · rw [if_pos h]
      · rw [if_neg h, t1, if_neg (hb.resolve_left h)]
    have e2 : b_word S p0 = some (wr S 78 0 1, (0 : Int32).toInt64) := by
      unfold b_word
      by_cases h : p0 < 0
      · rw [if_pos h, fail_eq, o_bind]
      · rw [if_neg h, t2, if_neg (hb.resolve_left h), fail_eq, o_bind]
    refine ⟨(S, 1), (wr S 78 0 1, (0 : Int32).toInt64), ?_, rfl, e2, ?_, fun e => absurd e (show ¬ (1 : Int32) = 0 by decide), (show wr S 78 0 1 0 = S 0 from wr_ne (by decide)), note1 hI⟩
    · unfold h_word; rw [e1, o_bind, if_neg (show ¬ (1 : Nat) = 0 by decide), if_pos rfl]
    · exact rd_wr (by rw [l78]; decide)
  by_cases h : p0 < 0
  · exact bad (Or.inl h)
  by_cases h' : p0 < Int32.ofNat res.length
  · obtain ⟨d1, d2⟩ := i_dec h
    rw [d1, i_lt' d2 (by omega)] at h'
    obtain ⟨x, w1, w2⟩ := word_l t1 q3 q4 h' 8 0 0 (by omega)
    refine ⟨(up S 101 (lgE x), 0), (wr (up S 101 (lgE x)) 78 0 0, x), ?_, (show up S 101 (lgE x) 0 = S 0 from up_ne (by decide)), ?_, ?_, fun _ => ?_, ?_, note0 hI⟩
    · unfold h_word a_word
      rw [if_neg h, t1, if_pos (by rw [d1, i_lt' d2 (by omega)]; exact h'), d1]
      have := w1 10000 (by omega)
      refine Eq.trans (congrArg (fun z => Option.bind z _) (this : a_word_l28 10000 S (Int32.ofNat p0.toNatClampNeg) 0 0 = some (S, 0, x))) ?_
      rw [o_bind, if_pos rfl]
    · have t2 : tT (wr (up S 101 (lgE x)) 78 0 0) 92 = res := by unfold tT; rw [wr_ne (by decide), up_ne (by decide), q2]; rfl
      show b_word (up S 101 (lgE x)) p0 = _
      unfold b_word
      rw [if_neg h, t2, if_pos (by rw [d1, i_lt' d2 (by omega)]; exact h'), d1]
      have := w2 10000 _ (by omega) t2
      rw [Nat.add_zero] at this
      exact this
    · exact rd_wr (by rw [up_ne (by decide), l78]; decide)
    · show lg (wr (up S 101 (lgE x)) 78 0 0 101) = _
      rw [wr_ne (by decide), up_same, lg_E]
    · show wr (up S 101 (lgE x)) 78 0 0 0 = _
      rw [wr_ne (by decide), up_ne (by decide)]
  · exact bad (Or.inr h')
/-- another tape -/
theorem Inv.tape {S S' : SS} {tape' : List Int32} (h : Inv S) (h1 : ∀ a, a ≠ 42 → a ≠ 79 → a ≠ 78 → a ≠ 101 → S' a = S a) (h3 : rd S' 78 3 = rd S 78 3) (h4 : rd S' 78 4 = rd S 78 4) (ht : InvT S' tape') : Inv S' := by
  obtain ⟨i1, i2, -, ⟨res, i4⟩, ts, dr, ra, i5⟩ := h
  have e : ∀ k, rd S' 41 k = rd S 41 k := fun k => by unfold rd; rw [h1 41 (by decide) (by decide) (by decide) (by decide)]
  have d1 : ∀ a ∈ [47, 48, 71, 74, 76, 77, 80, 91, 97, 98, 99, 100, 39, 40], a ≠ 42 ∧ a ≠ 79 ∧ a ≠ 78 ∧ a ≠ 101 := by decide
  have d2 : ∀ a ∈ nine, a ≠ 42 ∧ a ≠ 79 ∧ a ≠ 78 ∧ a ≠ 101 := by decide
  exact ⟨i1.move fun a ha => h1 a (d1 a ha).1 (d1 a ha).2.1 (d1 a ha).2.2.1 (d1 a ha).2.2.2, ⟨by rw [h3, e]; exact i2.1, by rw [h4, e]; exact i2.2⟩, ⟨tape', ht⟩, ⟨res, i4.move (h1 44 (by decide) (by decide) (by decide) (by decide)) (h1 92 (by decide) (by decide) (by decide) (by decide))⟩, ts, dr, ra, i5.move (h1 46 (by decide) (by decide) (by decide) (by decide)) (e 9) (fun a ha => h1 a (d2 a ha).1 (d2 a ha).2.1 (d2 a ha).2.2.1 (d2 a ha).2.2.2) (fun r hr => h1 _ (by omega) (by omega) (by omega) (by omega))⟩
theorem op1 : stp1 Inv := by
  intro S p0 hc hI
  obtain ⟨l78, l41, -⟩ := cs.l78 hc
  obtain ⟨-, -, ⟨tape, i3⟩, -⟩ := id hI
  obtain ⟨q1, q2, q3, q4, ⟨j, q5⟩, q6⟩ := i3
  have t1 : tT S 42 = tape := by unfold tT; rw [q1]; rfl
  have t0 : tV S 42 = 0 := by unfold tV; rw [q1]; rfl
  have r1 : ∀ T : SS, T 78 = S 78 → rd (wr T 78 0 0) 78 1 = Int32.ofNat tape.length := fun T e => by
    rw [rd_wr_j (by decide)]; unfold rd; rw [e]; exact q6
  have bad : (p0 < 0 ∨ ¬ p0 ≤ Int32.ofNat tape.length) → ∃ (c : SS × Int32) (w : SS × Int32), h_end S p0 = some c ∧ c.1 0 = S 0 ∧ b_end c.1 p0 = some w ∧ rd w.1 78 0 = c.2 ∧ (c.2 = 0 → lg (w.1 101) = w.2.toInt64) ∧ w.1 0 = S 0 ∧ Inv w.1 := by
    intro hb
    have e1 : a_end S p0 = some (S, 2, 0) := by
      unfold a_end
      by_cases h : p0 < 0
      · rw [if_pos h]
      · rw [if_neg h, t1, if_neg (hb.resolve_left h)]
    have e2 : b_end S p0 = some (wr S 78 0 1, 0) := by
      unfold b_end
      by_cases h : p0 < 0
      · rw [if_pos h, fail_eq, o_bind]
      · rw [if_neg h, r1 S rfl, if_neg (hb.resolve_left h), fail_eq, o_bind]
    refine ⟨(S, 1), (wr S 78 0 1, 0), ?_, rfl, e2, ?_, fun e => absurd e (show ¬ (1 : Int32) = 0 by decide), (show wr S 78 0 1 0 = S 0 from wr_ne (by decide)), note1 hI⟩
    · unfold h_end; rw [e1, o_bind, if_neg (show ¬ (2 : Nat) = 0 by decide), if_pos rfl]
    · exact rd_wr (by rw [l78]; decide)
  by_cases h : p0 < 0
  · exact bad (Or.inl h)
  by_cases h' : p0 ≤ Int32.ofNat tape.length
  · obtain ⟨d1, d2⟩ := i_dec h
    have h2 := h'
    rw [d1, i_le' d2 (by omega)] at h2
    obtain ⟨n, hn⟩ : ∃ n, n = p0.toNatClampNeg := ⟨_, rfl⟩
    rw [← hn] at d1 d2 h2
    have sk : skeep S 42 p0 = up S 42 (0 :: tape.take n) := by unfold skeep; rw [t0, t1, ← hn]
    obtain ⟨T, hT⟩ : ∃ T, T = up (up S 42 (0 :: tape.take n)) 101 (lgE p0.toInt64) := ⟨_, rfl⟩
    have T78 : T 78 = S 78 := by rw [hT, up_ne (by decide), up_ne (by decide)]
    refine ⟨(T, 0), (wr (wr T 78 0 0) 78 1 p0, p0), ?_, (show T 0 = S 0 by rw [hT, up_ne (by decide), up_ne (by decide)]), ?_, ?_, fun _ => ?_, ?_, ?_⟩
    · unfold h_end a_end
      rw [if_neg h, t1, if_pos h', o_bind, if_pos rfl, sk, hT]
    · show b_end T p0 = _
      unfold b_end
      rw [if_neg h, r1 T T78, if_pos h']
    · show rd (wr (wr T 78 0 0) 78 1 p0) 78 0 = 0
      rw [rd_wr_j (by decide), rd_wr (by rw [T78, l78]; decide)]
    · show lg (wr (wr T 78 0 0) 78 1 p0 101) = _
      rw [wr_ne (by decide), wr_ne (by decide), hT, up_same, lg_E]
    · show wr (wr T 78 0 0) 78 1 p0 0 = S 0
      rw [wr_ne (by decide), wr_ne (by decide), hT, up_ne (by decide), up_ne (by decide)]
    · refine hI.tape (tape' := tape.take n) (fun a n1 n2 n3 n4 => ?_) ?_ ?_ ⟨?_, ?_, ?_, ?_, ⟨tape.drop n ++ j, ?_⟩, ?_⟩
      · show wr (wr T 78 0 0) 78 1 p0 a = S a
        rw [wr_ne n3, wr_ne n3, hT, up_ne n4, up_ne n1]
      · show rd (wr (wr T 78 0 0) 78 1 p0) 78 3 = _
        rw [rd_wr_j (by decide), rd_wr_j (by decide)]; unfold rd; rw [T78]
      · show rd (wr (wr T 78 0 0) 78 1 p0) 78 4 = _
        rw [rd_wr_j (by decide), rd_wr_j (by decide)]; unfold rd; rw [T78]
      · show wr (wr T 78 0 0) 78 1 p0 42 = _
        rw [wr_ne (by decide), wr_ne (by decide), hT, up_ne (by decide), up_same]
      · rw [List.length_take]; omega
      · exact fun u hu => q3 u (List.mem_of_mem_take hu)
      · show (wr (wr T 78 0 0) 78 1 p0 79).length = _
        rw [wr_ne (by decide), wr_ne (by decide), hT, up_ne (by decide), up_ne (by decide)]; exact q4
      · show wr (wr T 78 0 0) 78 1 p0 79 = _
        rw [wr_ne (by decide), wr_ne (by decide), hT, up_ne (by decide), up_ne (by decide), q5, ← List.append_assoc, List.take_append_drop]
      · show rd (wr (wr T 78 0 0) 78 1 p0) 78 1 = _
        rw [rd_wr (by rw [wr_len, T78, l78]; decide), List.length_take, show min n tape.length = n by omega]
        exact d1
  · exact bad (Or.inr h')
end Ops124
end

section
/-! The calls feed and print. -/
section Ops125
/-- an int's bytes -/
def b4 (v : Int32) : List Int32 := [(v >>> (24 &&& 31)) &&& 255, (v >>> (16 &&& 31)) &&& 255, (v >>> (8 &&& 31)) &&& 255, v &&& 255]
theorem b4_byt (v : Int32) : byt (b4 v) := by
  intro u hu
  simp only [b4, List.mem_cons, List.not_mem_nil, or_false] at hu
  rcases hu with rfl | rfl | rfl | rfl <;> exact b_and _
theorem putInt_pv (S : SS) (o : Nat) (B : List Int32) (v : Int32) : c_putInt (up S o (pv B)) o v = some (up S o (pv (B ++ b4 v))) := by
  unfold c_putInt
  rw [sput_pv, sput_pv, sput_pv, sput_pv]
  simp [b4]
/-- the reference's tape, written so far -/
def FT (S : SS) (T : List Int32) : Prop := (S 79).length = 4096 ∧ (∃ j, S 79 = T ++ j) ∧ rd S 78 1 = Int32.ofNat T.length ∧ (S 78).length = 22
def fr78 (S S' : SS) : Prop := (∀ a, a ≠ 78 → a ≠ 79 → S' a = S a) ∧ ∀ k, k ≠ 1 → rd S' 78 k = rd S 78 k
theorem fr78.trans {S S1 S2 : SS} (a : fr78 S S1) (b : fr78 S1 S2) : fr78 S S2 := ⟨fun x h1 h2 => (b.1 x h1 h2).trans (a.1 x h1 h2), fun k hk => (b.2 k hk).trans (a.2 k hk)⟩
theorem four_step {S : SS} {T : List Int32} {v l : Int32} {n : Nat} (h : FT S T) (hT : T.length < 4096) (hl : ¬ l < 0) : ∃ S', b_four_l3 (n + 1) S v l = b_four_l3 n S' v (l + (-8)) ∧ FT S' (T ++ [(v >>> (l &&& 31)) &&& 255]) ∧ fr78 S S' := by
  obtain ⟨h1, ⟨j, h2⟩, h3, h4⟩ := h
  cases j with
  | nil => rw [h2, List.append_nil] at h1; omega
  | cons y j =>
    refine ⟨wr (up S 79 ((S 79).set T.length ((v >>> (l &&& 31)) &&& 255))) 78 1 (rd (up S 79 ((S 79).set T.length ((v >>> (l &&& 31)) &&& 255))) 78 1 + 1), ?_, ⟨?_, ⟨j, ?_⟩, ?_, ?_⟩, fun a n1 n2 => ?_, fun k hk => ?_⟩
    · show b_four_l3 (n + 1) S v l = b_four_l3 n (wr (up S 79 ((S 79).set T.length ((v >>> (l &&& 31)) &&& 255))) 78 1 (rd (up S 79 ((S 79).set T.length ((v >>> (l &&& 31)) &&& 255))) 78 1 + 1)) v (l + (-8))
      have : iset (S 79) (rd S 78 1) ((v >>> (l &&& 31)) &&& 255) = some ((S 79).set T.length ((v >>> (l &&& 31)) &&& 255)) := by
        unfold iset
        rw [h3, if_neg (i_nn (by omega)), i_cl (by omega), if_pos (by omega)]
      show (if l < 0 then some S else _) = _
      rw [if_neg hl, this, o_bind]
    · rw [wr_ne (by decide), up_same, List.length_set]; exact h1
    · rw [wr_ne (by decide), up_same, h2, List.set_append_right _ _ (Nat.le_refl _), Nat.sub_self, List.set_cons_zero, List.append_assoc]; rfl
    · rw [rd_wr (by rw [up_ne (by decide), h4]; decide), rd_up (by decide), h3, i_a1, List.length_append]; rfl
    · rw [wr_len, up_ne (by decide)]; exact h4
    · rw [wr_ne n1, up_ne n2]
    · rw [rd_wr_j (fun e => hk e.symm), rd_up (by decide)]
theorem shr0 (v : Int32) : v >>> ((0 : Int32) &&& 31) = v := by
  rw [show ((0 : Int32) &&& 31) = 0 from by decide]
  exact Int32.shiftRight_zero
theorem four_FT {S : SS} {T : List Int32} (v : Int32) (h : FT S T) (hT : T.length + 4 ≤ 4096) : ∃ S', b_four S v = some S' ∧ FT S' (T ++ b4 v) ∧ fr78 S S' := by
  obtain ⟨S1, e1, f1, g1⟩ := four_step (v := v) (l := 24) (n := 9999) h (by omega) (by decide)
  obtain ⟨S2, e2, f2, g2⟩ := four_step (v := v) (l := 24 + (-8)) (n := 9998) f1 (by rw [List.length_append]; simp only [List.length_cons, List.length_nil]; omega) (by decide)
  obtain ⟨S3, e3, f3, g3⟩ := four_step (v := v) (l := 24 + (-8) + (-8)) (n := 9997) f2 (by rw [List.length_append, List.length_append]; simp only [List.length_cons, List.length_nil]; omega) (by decide)
  obtain ⟨S4, e4, f4, g4⟩ := four_step (v := v) (l := 24 + (-8) + (-8) + (-8)) (n := 9996) f3 (by rw [List.length_append, List.length_append, List.length_append]; simp only [List.length_cons, List.length_nil]; omega) (by decide)
  refine ⟨S4, ?_, ?_, ((g1.trans g2).trans g3).trans g4⟩
  · unfold b_four
    rw [e1, e2, e3, e4]
    show (if (24 + (-8) + (-8) + (-8) + (-8) : Int32) < 0 then some S4 else _) = _
    rw [if_pos (by decide)]
  · have e : T ++ b4 v = T ++ [(v >>> ((24 : Int32) &&& 31)) &&& 255] ++ [(v >>> ((24 + (-8) : Int32) &&& 31)) &&& 255] ++ [(v >>> ((24 + (-8) + (-8) : Int32) &&& 31)) &&& 255] ++ [(v >>> ((24 + (-8) + (-8) + (-8) : Int32) &&& 31)) &&& 255] := by
      rw [show (24 + (-8) + (-8) + (-8) : Int32) = 0 from by decide, shr0, show (24 + (-8) + (-8) : Int32) = 8 from by decide, show (24 + (-8) : Int32) = 16 from by decide]
      simp [b4]
    rw [e]
    exact f4
theorem b4_len (v : Int32) : (b4 v).length = 4 := rfl
theorem byt.app {a b : List Int32} (ha : byt a) (hb : byt b) : byt (a ++ b) := fun u hu => (List.mem_append.mp hu).elim (ha u) (hb u)
theorem pv_fit {B : List Int32} (h : B.length ≤ 4096) : pv B = 0 :: B := by
  unfold pv
  rw [if_pos h, List.take_of_length_le h]
theorem op0 : stp0 Inv := by
  intro S p0 p1 p2 p3 p4 hc hI
  obtain ⟨l78, l41, -⟩ := cs.l78 hc
  obtain ⟨-, -, ⟨tape, i3⟩, -⟩ := id hI
  obtain ⟨q1, q2, q3, q4, q5, q6⟩ := i3
  have t1 : tT S 42 = tape := by unfold tT; rw [q1]; rfl
  have z20 : (20 : Int32) = Int32.ofNat 20 := rfl
  have z4096 : (4096 : Int32) = Int32.ofNat 4096 := rfl
  by_cases h : tape.length + 20 ≤ 4096
  · have hle : Int32.ofNat tape.length + 20 ≤ 4096 := by rw [z20, ← Int32.ofNat_add, z4096, i_le' (by omega) (by omega)]; exact h
    obtain ⟨T5, hT5⟩ : ∃ T5, T5 = tape ++ b4 p0 ++ b4 p1 ++ b4 p2 ++ b4 p3 ++ b4 p4 := ⟨_, rfl⟩
    have lT5 : T5.length = tape.length + 20 := by rw [hT5]; simp only [List.length_append, b4_len]
    have eA : a_feed S p0 p1 p2 p3 p4 = some (up S 42 (0 :: T5), 0, Int32.ofNat T5.length) := by
      unfold a_feed
      have e0 : S = up S 42 (pv tape) := by rw [pv_fit q2, ← q1, up_self]
      have e5 : tT (up S 42 (pv T5)) 42 = T5 := by rw [(pv_T S 42 T5).1, List.take_of_length_le (by omega)]
      rw [t1, if_pos hle]
      conv => lhs; rw [e0]
      rw [putInt_pv, o_bind, putInt_pv, o_bind, putInt_pv, o_bind, putInt_pv, o_bind, putInt_pv, o_bind, ← hT5, e5, pv_fit (by omega)]
    obtain ⟨T, hT⟩ : ∃ T, T = up (up S 42 (0 :: T5)) 101 (lgE (Int32.ofNat T5.length).toInt64) := ⟨_, rfl⟩
    have T78 : T 78 = S 78 := by rw [hT, up_ne (by decide), up_ne (by decide)]
    have T79 : T 79 = S 79 := by rw [hT, up_ne (by decide), up_ne (by decide)]
    have f0 : FT (wr T 78 0 0) tape := ⟨by rw [wr_ne (by decide), T79]; exact q4, by rw [wr_ne (by decide), T79]; exact q5, by rw [rd_wr_j (by decide)]; unfold rd; rw [T78]; exact q6, by rw [wr_len, T78]; exact l78⟩
    obtain ⟨S1, e1, f1, g1⟩ := four_FT p0 f0 (by omega)
    obtain ⟨S2, e2, f2, g2⟩ := four_FT p1 f1 (by simp only [List.length_append, b4_len]; omega)
    obtain ⟨S3, e3, f3, g3⟩ := four_FT p2 f2 (by simp only [List.length_append, b4_len]; omega)
    obtain ⟨S4, e4, f4, g4⟩ := four_FT p3 f3 (by simp only [List.length_append, b4_len]; omega)
    obtain ⟨S5, e5, f5, g5⟩ := four_FT p4 f4 (by simp only [List.length_append, b4_len]; omega)
    have g := (((g1.trans g2).trans g3).trans g4).trans g5
    rw [← hT5] at f5
    obtain ⟨u1, u2, u3, u4⟩ := f5
    have oth : ∀ a, a ≠ 42 → a ≠ 79 → a ≠ 78 → a ≠ 101 → S5 a = S a := fun a n1 n2 n3 n4 => by
      rw [g.1 a n3 n2, wr_ne n3, hT, up_ne n4, up_ne n1]
    refine ⟨(T, 0), (S5, rd S5 78 1), ?_, (show T 0 = S 0 by rw [hT, up_ne (by decide), up_ne (by decide)]), ?_, ?_, fun _ => ?_, oth 0 (by decide) (by decide) (by decide) (by decide), ?_⟩
    · unfold h_feed; rw [eA, o_bind, if_pos rfl, hT]
    · show b_feed T p0 p1 p2 p3 p4 = _
      unfold b_feed
      rw [f0.2.2.1, if_pos hle, e1, o_bind, e2, o_bind, e3, o_bind, e4, o_bind, e5, o_bind]
    · show rd S5 78 0 = 0
      rw [g.2 0 (by decide), rd_wr (by rw [T78, l78]; decide)]
    · show lg (S5 101) = (rd S5 78 1).toInt64
      rw [g.1 101 (by decide) (by decide), wr_ne (by decide), hT, up_same, lg_E, u3]
    · refine hI.tape (tape' := T5) oth ?_ ?_ ⟨?_, by omega, ?_, u1, u2, u3⟩
      · rw [g.2 3 (by decide), rd_wr_j (by decide)]; unfold rd; rw [T78]
      · rw [g.2 4 (by decide), rd_wr_j (by decide)]; unfold rd; rw [T78]
      · show S5 42 = _
        rw [g.1 42 (by decide) (by decide), wr_ne (by decide), hT, up_ne (by decide), up_same]
      · rw [hT5]; exact ((((q3.app (b4_byt p0)).app (b4_byt p1)).app (b4_byt p2)).app (b4_byt p3)).app (b4_byt p4)
  · have hle : ¬ Int32.ofNat tape.length + 20 ≤ 4096 := by rw [z20, ← Int32.ofNat_add, z4096, i_le' (by omega) (by omega)]; exact h
    refine ⟨(S, 1), (wr S 78 0 1, 0), ?_, rfl, ?_, rd_wr (by rw [l78]; decide), fun e => absurd e (show ¬ (1 : Int32) = 0 by decide), (show wr S 78 0 1 0 = S 0 from wr_ne (by decide)), note1 hI⟩
    · unfold h_feed a_feed; rw [t1, if_neg hle, o_bind, if_neg (show ¬ (1 : Nat) = 0 by decide), if_pos rfl]
    · show b_feed S p0 p1 p2 p3 p4 = _
      unfold b_feed; rw [rd_wr_j (by decide), q6, if_neg hle, fail_eq, o_bind]
/-- a register's number -/
theorem reg_ok (S : SS) {r : Int32} (h : ¬ r < 0 ∧ r < 8) : a_reg S r = some (S, 0) ∧ b_none S r = some 0 ∧ ∃ n, n < 8 ∧ r = Int32.ofNat n := by
  obtain ⟨h1, h2⟩ := h
  have h3 : r ≤ 7 := by
    rw [i_lt] at h2; rw [i_le]
    have : (8 : Int32).toInt = 8 := rfl
    have : (7 : Int32).toInt = 7 := rfl
    omega
  refine ⟨?_, ?_, ?_⟩
  · unfold a_reg; rw [if_neg h1, if_pos h2]
  · unfold b_none; rw [if_neg h1, if_pos h3]
  · obtain ⟨d1, d2⟩ := i_dec h1
    refine ⟨_, ?_, d1⟩
    rw [d1, show (8 : Int32) = Int32.ofNat 8 from rfl, i_lt' d2 (by omega)] at h2
    exact h2
theorem reg_bad (S : SS) {r : Int32} (h : ¬ (¬ r < 0 ∧ r < 8)) : a_reg S r = some (S, 2) ∧ b_none S r = some 1 := by
  unfold a_reg b_none
  by_cases h1 : r < 0
  · rw [if_pos h1, if_pos h1]; exact ⟨rfl, rfl⟩
  · have h2 : ¬ r < 8 := fun e => h ⟨h1, e⟩
    have h3 : ¬ r ≤ 7 := by
      rw [i_lt] at h2; rw [i_le]
      have : (8 : Int32).toInt = 8 := rfl
      have : (7 : Int32).toInt = 7 := rfl
      omega
    rw [if_neg h1, if_neg h2, if_neg h1, if_neg h3]; exact ⟨rfl, rfl⟩
theorem get46 {S : SS} {ra : List Nat} {n : Nat} (h : S 46 = ra.map Int32.ofNat) (hl : ra.length = 8) (hn : n < 8) (hm : ra.getD n 0 < 1000) : iget (S 46) (Int32.ofNat n) = some (Int32.ofNat (ra.getD n 0)) ∧ (Int32.ofNat (ra.getD n 0)).toNatClampNeg = ra.getD n 0 := by
  refine ⟨?_, i_cl (by omega)⟩
  rw [iget_in (by rw [h, List.length_map]; omega) (by omega)]
  congr 1
  have : (S 46)[n]'(by rw [h, List.length_map]; omega) = (ra.map Int32.ofNat)[n]'(by rw [List.length_map]; omega) := List.getElem_of_eq h _
  rw [this, List.getElem_map, List.getD_eq_getElem?_getD, List.getElem?_eq_getElem (by omega)]
  rfl
theorem get81 : ∀ n, n < 8 → iget sh81 (Int32.ofNat n) = some (Int32.ofNat (82 + n)) ∧ (Int32.ofNat (82 + n)).toNatClampNeg = 82 + n := by decide
theorem nine_lt : ∀ a ∈ nine, a < 1000 ∧ a ∈ shT ∧ a ≠ 44 ∧ a ≠ 42 ∧ 49 ≤ a ∧ a ≤ 65 := by decide
theorem tcut_all (us : List Int32) (h : us.length < 2147483648) : tcut us 0 (Int32.ofNat us.length) = us := by
  unfold tcut
  rw [i_cl h, List.take_of_length_le (Nat.le_refl _)]
  rfl
theorem op3 : stp3 Inv := by
  intro S p0 hc hI
  obtain ⟨l78, l41, -⟩ := cs.l78 hc
  obtain ⟨i1, i2, ⟨tape, i3⟩, -, ts, dr, ra, i5⟩ := id hI
  obtain ⟨g1, g2, g3, g4, g5⟩ := id i5
  by_cases hp : ¬ p0 < 0 ∧ p0 < 8
  · obtain ⟨a1, -, n, hn, rfl⟩ := reg_ok S hp
    obtain ⟨r1, r2, r3, r4, r5, j, r6⟩ := g5 n hn
    have hm := nine_lt _ (ra_mem g3 g2 hn)
    obtain ⟨e46, e46'⟩ := get46 g1 g2 hn hm.1
    obtain ⟨e81, e81'⟩ := get81 n hn
    have tn : tT S (ra.getD n 0) = bV (ts n) := by unfold tT; rw [r1]; rfl
    have eC : scopy S 44 (ra.getD n 0) = some (up S 44 (0 :: bV (ts n))) := by
      unfold scopy
      rw [show up S 44 [0] = up S 44 (pv []) from rfl, spart_pv (fun e => hm.2.2.1 e.symm) ?_ (by decide), List.nil_append, tn, tcut_all _ (by omega), pv_fit r2]
      rw [show (-10000 : Int32) = Int32.ofInt (-10000) from rfl, i_lt, i_ofInt (by decide) (by decide), i_of (by rw [tn]; omega)]
      omega
    obtain ⟨T, hT⟩ : ∃ T, T = up (up S 44 (0 :: bV (ts n))) 101 (lgE (Int32.ofNat (bV (ts n)).length).toInt64) := ⟨_, rfl⟩
    have T78 : T 78 = S 78 := by rw [hT, up_ne (by decide), up_ne (by decide)]
    have T82 : T (82 + n) = S (82 + n) := by rw [hT, up_ne (by omega), up_ne (by omega)]
    have eV : w_value 64 (up (wr T 78 0 0) 92 [0]) 92 (82 + n) 0 = some (up (wr T 78 0 0) 92 (0 :: bV (ts n))) := by
      have := value_pv (ts n) r3 64 (by omega) (wr T 78 0 0) 92 (82 + n) 0 [] j (by omega) (by rw [wr_ne (by omega), T82]; omega) (by rw [wr_ne (by omega), T82, List.drop_zero, r6])
      rw [List.nil_append, pv_fit r2] at this
      exact this
    obtain ⟨W, hW⟩ : ∃ W, W = up (wr T 78 0 0) 92 (0 :: bV (ts n)) := ⟨_, rfl⟩
    have oth : ∀ a, a ≠ 44 → a ≠ 92 → a ≠ 78 → a ≠ 101 → W a = S a := fun a n1 n2 n3 n4 => by
      rw [hW, up_ne n2, wr_ne n3, hT, up_ne n4, up_ne n1]
    have W78 : ∀ k, k ≠ 0 → rd W 78 k = rd S 78 k := fun k hk => by
      rw [hW, rd_up (by decide), rd_wr_j (fun e => hk e.symm)]; unfold rd; rw [T78]
    refine ⟨(T, 0), (W, Int32.ofNat (bV (ts n)).length), ?_, (show T 0 = S 0 by rw [hT, up_ne (by decide), up_ne (by decide)]), ?_, ?_, fun _ => ?_, oth 0 (by decide) (by decide) (by decide) (by decide), ?_⟩
    · unfold h_print a_print
      have t44 : tT (up S 44 (0 :: bV (ts n))) 44 = bV (ts n) := by unfold tT; rw [up_same]; rfl
      rw [a1, o_bind, if_pos rfl, e46, o_bind, e46', eC, o_bind, o_bind, if_pos rfl, t44, hT]
    · show b_print T (Int32.ofNat n) = _
      unfold b_print
      have t92 : tT W 92 = bV (ts n) := by unfold tT; rw [hW, up_same]; rfl
      rw [(reg_ok (wr T 78 0 0) hp).2.1, o_bind, if_pos rfl, e81, o_bind, e81', eV, o_bind, ← hW, t92]
    · show rd W 78 0 = 0
      rw [hW, rd_up (by decide), rd_wr (by rw [T78, l78]; decide)]
    · show lg (W 101) = _
      rw [hW, up_ne (by decide), wr_ne (by decide), hT, up_same, lg_E]
    · have e41 : ∀ k, rd W 41 k = rd S 41 k := fun k => by unfold rd; rw [oth 41 (by decide) (by decide) (by decide) (by decide)]
      have d1 : ∀ a ∈ [47, 48, 71, 74, 76, 77, 80, 91, 97, 98, 99, 100, 39, 40], a ≠ 44 ∧ a ≠ 92 ∧ a ≠ 78 ∧ a ≠ 101 := by decide
      have d2 : ∀ a ∈ nine, a ≠ 44 ∧ a ≠ 92 ∧ a ≠ 78 ∧ a ≠ 101 := by decide
      refine ⟨i1.move fun a ha => oth a (d1 a ha).1 (d1 a ha).2.1 (d1 a ha).2.2.1 (d1 a ha).2.2.2, ⟨by rw [W78 3 (by decide), e41]; exact i2.1, by rw [W78 4 (by decide), e41]; exact i2.2⟩, ⟨tape, i3.move (oth 42 (by decide) (by decide) (by decide) (by decide)) (oth 79 (by decide) (by decide) (by decide) (by decide)) (W78 1 (by decide))⟩, ⟨bV (ts n), ?_, ?_, r2, (bV_pass (ts n) r3).2⟩, ts, dr, ra, i5.move (oth 46 (by decide) (by decide) (by decide) (by decide)) (e41 9) (fun a ha => oth a (d2 a ha).1 (d2 a ha).2.1 (d2 a ha).2.2.1 (d2 a ha).2.2.2) (fun r hr => oth _ (by omega) (by omega) (by omega) (by omega))⟩
      · show W 44 = _
        rw [hW, up_ne (by decide), wr_ne (by decide), hT, up_ne (by decide), up_same]
      · show W 92 = _
        rw [hW, up_same]
  · obtain ⟨a1, -⟩ := reg_bad S hp
    refine ⟨(S, 1), (wr S 78 0 1, 0), ?_, rfl, ?_, rd_wr (by rw [l78]; decide), fun e => absurd e (show ¬ (1 : Int32) = 0 by decide), (show wr S 78 0 1 0 = S 0 from wr_ne (by decide)), note1 hI⟩
    · unfold h_print a_print; rw [a1, o_bind, if_neg (show ¬ (2 : Nat) = 0 by decide), o_bind, if_neg (show ¬ (2 : Nat) = 0 by decide), if_pos rfl]
    · show b_print S p0 = _
      unfold b_print; rw [(reg_bad (wr S 78 0 0) hp).2, o_bind, if_neg (by decide), fail_eq, o_bind]
end Ops125
end

section
/-! Does it fit? The reference's look at depth and length. -/
section Fits126
def popd (i : Nat) : List Nat → List Nat
  | [] => []
  | z :: Z => if z ≤ i then popd i Z else z :: Z
/-- the ends of what is open, the innermost first -/
def stk (S : SS) (Z : List Nat) : Prop := (S 80).length = 9000 ∧ Z.length ≤ 61 ∧ (∀ z ∈ Z, z ≤ 9000) ∧ ∃ j, S 80 = Z.reverse.map Int32.ofNat ++ j
theorem popd_app {i : Nat} : ∀ (X E : List Nat), (∀ x ∈ X, x ≤ i) → (∀ e ∈ E.head?, i < e) → popd i (X ++ E) = E := by
  intro X
  induction X with
  | nil =>
    intro E _ h
    cases E with
    | nil => rfl
    | cons e E =>
      show (if e ≤ i then _ else _) = _
      rw [if_neg (by have := h e rfl; omega)]
  | cons x X ih =>
    intro E h1 h2
    show (if x ≤ i then _ else _) = _
    rw [if_pos (h1 x List.mem_cons_self)]
    exact ih E (fun y hy => h1 y (List.mem_cons_of_mem _ hy)) h2
theorem stk_top {S : SS} {z : Nat} {Z : List Nat} (h : stk S (z :: Z)) : iget (S 80) (Int32.ofNat (z :: Z).length - 1) = some (Int32.ofNat z) ∧ stk S Z := by
  obtain ⟨h1, h2, h3, j, h4⟩ := h
  rw [List.reverse_cons, List.map_append, List.append_assoc] at h4
  refine ⟨?_, h1, by simp only [List.length_cons] at h2; omega, fun y hy => h3 y (List.mem_cons_of_mem _ hy), _, h4⟩
  have e : Int32.ofNat (z :: Z).length - 1 = Int32.ofNat Z.length := by
    apply Int32.toInt_inj.mp
    simp only [List.length_cons] at h2 ⊢
    have z1 : (1 : Int32).toInt = 1 := rfl
    have a1 : (Int32.ofNat (Z.length + 1)).toInt = ((Z.length + 1 : Nat) : Int) := i_of (by omega)
    rw [i_sub (by rw [a1, z1]; omega) (by rw [a1, z1]; omega), a1, i_of (by omega), z1]
    omega
  rw [e]
  refine iget_drop (r := j) (by omega) ?_
  rw [h4, show Z.length = (Z.reverse.map Int32.ofNat).length by rw [List.length_map, List.length_reverse], List.drop_left]
  rfl
/-- what is done with the block at i -/
def fbody (k16 : SS → Int32 → Int32 → Option (SS × Int32)) (S : SS) (l1 l2 : Int32) : Option (SS × Int32) := ((iget (S 91) l2).bind fun b8 => (if b8 = (5 : Int32) then ((r_next (S 91) l2).bind fun r10 => ((iset (S 80) l1 r10).bind fun z12 => (if (l1 + 1) ≤ (60 : Int32) then k16 (up S 80 z12) (l1 + 1) (l2 + 2) else some (up S 80 z12, 0)))) else (if b8 = (6 : Int32) then ((r_next (S 91) l2).bind fun r16 => ((iset (S 80) l1 r16).bind fun z18 => (if (l1 + 1) ≤ (60 : Int32) then k16 (up S 80 z18) (l1 + 1) (l2 + 2) else some (up S 80 z18, 0)))) else ((r_next (S 91) l2).bind fun r21 => k16 S l1 r21))))
theorem pops {k16 : SS → Int32 → Int32 → Option (SS × Int32)} {S : SS} {i : Nat} (hi : i ≤ 9000) : ∀ (Z : List Nat) (n : Nat), stk S Z → Z.length < n → b_fits_l27 k16 n S (Int32.ofNat Z.length) (Int32.ofNat i) = fbody k16 S (Int32.ofNat (popd i Z).length) (Int32.ofNat i) := by
  intro Z
  induction Z with
  | nil =>
    intro n hs hn
    cases n with
    | zero => omega
    | succ n =>
      show (if Int32.ofNat 0 ≤ 0 then _ else _) = _
      rw [if_pos (by decide)]
      rfl
  | cons z Z ih =>
    intro n hs hn
    cases n with
    | zero => omega
    | succ n =>
      obtain ⟨t1, t2⟩ := stk_top hs
      have hz := hs.2.2.1 z List.mem_cons_self
      have hl := hs.2.1
      show (if Int32.ofNat (z :: Z).length ≤ 0 then _ else _) = _
      rw [if_neg (by rw [show (0 : Int32) = Int32.ofNat 0 from rfl, i_le' (by omega) (by omega)]; simp), t1, o_bind]
      show _ = fbody k16 S (Int32.ofNat (if z ≤ i then popd i Z else z :: Z).length) (Int32.ofNat i)
      by_cases h : z ≤ i
      · rw [if_neg (by rw [i_lt' (by omega) (by omega)]; omega), if_pos h]
        simp only [List.length_cons]
        rw [i_s1 (by omega) (by simp only [List.length_cons] at hl; omega), show Z.length + 1 - 1 = Z.length by omega]
        exact ih n t2 (by simp only [List.length_cons] at hn; omega)
      · rw [if_pos ((i_lt' (by omega) (by omega)).mpr (by omega)), if_neg h]
        rfl
theorem stk_pop {S : SS} : ∀ (X E : List Nat), stk S (X ++ E) → stk S E := by
  intro X
  induction X with
  | nil => intro E h; exact h
  | cons x X ih => intro E h; exact ih E (stk_top h).2
theorem stk_push {S : SS} {E : List Nat} {e : Nat} (h : stk S E) (he : e ≤ 9000) (hl : E.length ≤ 60) : ∃ z, iset (S 80) (Int32.ofNat E.length) (Int32.ofNat e) = some z ∧ stk (up S 80 z) (e :: E) := by
  obtain ⟨h1, h2, h3, j, h4⟩ := h
  have hlen : (E.reverse.map Int32.ofNat).length = E.length := by rw [List.length_map, List.length_reverse]
  cases j with
  | nil => rw [h4, List.append_nil, hlen] at h1; omega
  | cons y j =>
    refine ⟨(S 80).set E.length (Int32.ofNat e), ?_, by rw [up_same, List.length_set]; exact h1, by simp only [List.length_cons]; omega, fun z hz => (List.mem_cons.mp hz).elim (fun q => by omega) (h3 z), j, ?_⟩
    · unfold iset
      rw [if_neg (i_nn (by omega)), i_cl (by omega), if_pos (by omega)]
    · rw [up_same, h4, List.set_append_right _ _ (by omega), hlen, Nat.sub_self, List.set_cons_zero, List.reverse_cons, List.map_append, List.append_assoc]
      rfl
def fr80 (S S' : SS) : Prop := ∀ a, a ≠ 80 → S' a = S a
theorem fr80.trans {S S1 S2 : SS} (a : fr80 S S1) (b : fr80 S1 S2) : fr80 S S2 := fun x h => (b x h).trans (a x h)
/-- how a value is gone over -/
def PV (N : Nat) (t : Vl) : Prop := ∀ (n i : Nat) (S : SS) (X E : List Nat) (r : List Int32), stk S (X ++ E) → (∀ x ∈ X, x ≤ i) → (∀ e ∈ E.head?, i < e) → (S 91).drop i = cV t ++ r → (S 91).length ≤ 9000 → rd S 90 1 = Int32.ofNat N → i + (cV t).length ≤ N → N ≤ 9000 → N < n + i → E.length ≤ 60 →
  (E.length + dV t ≤ 60 → ∃ n' S' X', b_fits_l16 n S (Int32.ofNat (X ++ E).length) (Int32.ofNat i) = b_fits_l16 n' S' (Int32.ofNat (X' ++ E).length) (Int32.ofNat (i + (cV t).length)) ∧ stk S' (X' ++ E) ∧ (∀ x ∈ X', x ≤ i + (cV t).length) ∧ N < n' + (i + (cV t).length) ∧ fr80 S S') ∧
  (60 < E.length + dV t → ∃ S', b_fits_l16 n S (Int32.ofNat (X ++ E).length) (Int32.ofNat i) = some (S', 0) ∧ fr80 S S' ∧ (S' 80).length = 9000)
/-- the start of it: what is over is dropped -/
theorem fstart {N n i : Nat} {S : SS} {X E : List Nat} (hs : stk S (X ++ E)) (h1 : ∀ x ∈ X, x ≤ i) (h2 : ∀ e ∈ E.head?, i < e) (h3 : rd S 90 1 = Int32.ofNat N) (h4 : i < N) (h5 : N ≤ 9000) : b_fits_l16 (n + 1) S (Int32.ofNat (X ++ E).length) (Int32.ofNat i) = fbody (b_fits_l16 n) S (Int32.ofNat E.length) (Int32.ofNat i) := by
  show (if rd S 90 1 ≤ Int32.ofNat i then _ else _) = _
  rw [h3, if_neg (by rw [i_le' (by omega) (by omega)]; omega), pops (by omega) _ _ hs (by have := hs.2.1; omega), popd_app X E h1 h2]
theorem PV_leaf {N : Nat} {t : Vl} (hk : t.1 ≤ 6) (h5 : t.1 ≠ 5) (h6 : t.1 ≠ 6) : PV N t := by
  intro n i S X E r hs h1 h2 h3 h4 h7 h8 h9 hn hE
  have hd : dV t = 0 := by unfold dV; rw [if_neg (fun e => e.elim h5 h6)]
  have h2l := (cV_h hk).len
  obtain ⟨n1, n2⟩ := rnext_at h4 (cV_h hk) h3
  obtain ⟨q, hq⟩ := cV_hdd hk
  have hi : iget (S 91) (Int32.ofNat i) = some (Int32.ofNat t.1) := by
    have h' := h3
    rw [hq] at h'
    exact iget_drop h4 h'
  cases n with
  | zero => omega
  | succ n =>
    refine ⟨fun _ => ⟨n, S, [], ?_, stk_pop X E hs, fun x hx => (by cases hx), by omega, fun _ _ => rfl⟩, fun h => by omega⟩
    rw [fstart hs h1 h2 h7 (by omega) h9]
    unfold fbody
    rw [hi, o_bind, if_neg (by rw [show (5 : Int32) = Int32.ofNat 5 from rfl, i_inj (by omega) (by omega)]; exact h5), if_neg (by rw [show (6 : Int32) = Int32.ofNat 6 from rfl, i_inj (by omega) (by omega)]; exact h6), n1, o_bind]
    rfl
theorem PV_list {N e : Nat} {E : List Nat} (hE : E.length + 1 ≤ 60) : ∀ (vs : List Vl) (n i : Nat) (S : SS) (X : List Nat) (r : List Int32), (∀ v ∈ vs, PV N v ∧ v.1 ≤ 6) → stk S (X ++ e :: E) → (∀ x ∈ X, x ≤ i) → (S 91).drop i = (vs.map cV).flatten ++ r → (S 91).length ≤ 9000 → rd S 90 1 = Int32.ofNat N → i + (vs.map cV).flatten.length = e → e ≤ N → N ≤ 9000 → N < n + i →
    ((∀ v ∈ vs, E.length + 1 + dV v ≤ 60) → ∃ n' S' X', b_fits_l16 n S (Int32.ofNat (X ++ e :: E).length) (Int32.ofNat i) = b_fits_l16 n' S' (Int32.ofNat (X' ++ e :: E).length) (Int32.ofNat e) ∧ stk S' (X' ++ e :: E) ∧ (∀ x ∈ X', x ≤ e) ∧ N < n' + e ∧ fr80 S S') ∧
    ((∃ v ∈ vs, 60 < E.length + 1 + dV v) → ∃ S', b_fits_l16 n S (Int32.ofNat (X ++ e :: E).length) (Int32.ofNat i) = some (S', 0) ∧ fr80 S S' ∧ (S' 80).length = 9000) := by
  intro vs
  induction vs with
  | nil =>
    intro n i S X r _ hs h1 h3 h4 h7 h8 h9 h10 hn
    have : i = e := by simpa using h8
    subst this
    exact ⟨fun _ => ⟨n, S, X, rfl, hs, h1, hn, fun _ _ => rfl⟩, fun ⟨v, hv, _⟩ => by cases hv⟩
  | cons v vs ih =>
    intro n i S X r hv hs h1 h3 h4 h7 h8 h9 h10 hn
    obtain ⟨pv1, k6⟩ := hv v List.mem_cons_self
    have h2l := (cV_h k6).len
    simp only [List.map_cons, List.flatten_cons, List.length_append, List.append_assoc] at h3 h8
    have hp := pv1 n i S X (e :: E) _ hs h1 (fun x hx => by cases hx; omega) h3 h4 h7 (by omega) h10 hn hE
    have go : ∀ (n' : Nat) (S' : SS) (X' : List Nat), fr80 S S' → stk S' (X' ++ e :: E) → (∀ x ∈ X', x ≤ i + (cV v).length) → N < n' + (i + (cV v).length) → _ := fun n' S' X' f1 f2 f3 f4 => ih n' (i + (cV v).length) S' X' r (fun w hw => hv w (List.mem_cons_of_mem _ hw)) f2 f3 (by rw [f1 91 (by decide)]; exact drop_more h3) (by rw [f1 91 (by decide)]; exact h4) (by unfold rd; rw [f1 90 (by decide)]; exact h7) (by omega) h9 h10 f4
    by_cases hd : E.length + 1 + dV v ≤ 60
    · obtain ⟨n', S', X', g1, g2, g3, g4, g5⟩ := hp.1 (by simp only [List.length_cons]; omega)
      obtain ⟨i1, i2⟩ := go n' S' X' g5 g2 g3 g4
      refine ⟨fun ha => ?_, fun hb => ?_⟩
      · obtain ⟨n2, S2, X2, j1, j2, j3, j4, j5⟩ := i1 fun w hw => ha w (List.mem_cons_of_mem _ hw)
        exact ⟨n2, S2, X2, g1.trans j1, j2, j3, j4, g5.trans j5⟩
      · obtain ⟨w, hw, hw2⟩ := hb
        rcases List.mem_cons.mp hw with rfl | hw
        · omega
        · obtain ⟨S2, j1, j2, j3⟩ := i2 ⟨w, hw, hw2⟩
          exact ⟨S2, g1.trans j1, g5.trans j2, j3⟩
    · refine ⟨fun ha => absurd (ha v List.mem_cons_self) hd, fun _ => ?_⟩
      exact hp.2 (by simp only [List.length_cons]; omega)
/-- members as values, their names among them -/
def vals (b : Bool) (l : List Mb) : List Vl := l.flatMap fun m => if b then [(4, 0, m.1, .leaf), m.2] else [m.2]
theorem vals_blks (b : Bool) (l : List Mb) : (vals b l).map cV = blks b l := by
  unfold vals blks
  induction l with
  | nil => rfl
  | cons m l ih =>
    rw [List.flatMap_cons, List.map_append, ih, List.flatMap_cons]
    congr 1
    cases b <;> rfl
theorem dF_le {l : List Mb} {d : Nat} (h : ∀ m ∈ l, dV m.2 ≤ d) : dF (ofL l) ≤ d := by
  induction l with
  | nil => exact Nat.zero_le _
  | cons m l ih =>
    rw [dF_cons]
    have h1 := h m List.mem_cons_self
    have h2 := ih fun x hx => h x (List.mem_cons_of_mem _ hx)
    omega
theorem PV_all {N : Nat} (t : Vl) : wV t → PV N t := by
  induction t using Vl.ind with
  | h k v s l ih =>
    intro hw
    have hk := hw.kids
    have w1 : k ≤ 6 := hw.1
    by_cases hb : k = 5 ∨ k = 6
    · intro n i S X E r hs h1 h2 h3 h4 h7 h8 h9 hn hE
      have h6 : (k, v, s, ofL l).1 ≤ 6 := w1
      have hdV : dV (k, v, s, ofL l) = 1 + dF (ofL l) := by unfold dV; rw [if_pos hb]
      have h2l := (cV_h h6).len
      obtain ⟨n1, n2⟩ := rnext_at h4 (cV_h h6) h3
      obtain ⟨q, hq⟩ := cV_hdd h6
      have hi : iget (S 91) (Int32.ofNat i) = some (Int32.ofNat k) := by
        have h' := h3
        rw [hq] at h'
        exact iget_drop h4 h'
      obtain ⟨c1, c2⟩ := cbox_in hb h3
      cases n with
      | zero => omega
      | succ n =>
        obtain ⟨z, z1, z2⟩ := stk_push (e := i + (cV (k, v, s, ofL l)).length) (stk_pop X E hs) (by omega) hE
        have e1 : b_fits_l16 (n + 1) S (Int32.ofNat (X ++ E).length) (Int32.ofNat i) = if Int32.ofNat E.length + 1 ≤ 60 then b_fits_l16 n (up S 80 z) (Int32.ofNat E.length + 1) (Int32.ofNat i + 2) else some (up S 80 z, 0) := by
          rw [fstart hs h1 h2 h7 (by omega) h9]
          unfold fbody
          rw [hi, o_bind, n1, o_bind, z1, o_bind]
          rcases hb with rfl | rfl
          · rw [if_pos (by decide)]
          · rw [if_neg (by decide), if_pos (by decide)]
        have f80 : fr80 S (up S 80 z) := fun a ha => up_ne ha
        by_cases h60 : E.length + 1 ≤ 60
        · rw [i_a1, if_pos (by rw [show (60 : Int32) = Int32.ofNat 60 from rfl, i_le' (by omega) (by omega)]; exact h60), show Int32.ofNat i + 2 = Int32.ofNat (i + 2) from (Int32.ofNat_add i 2).symm] at e1
          have hvs : ∀ w ∈ vals (k == 6) l, PV N w ∧ w.1 ≤ 6 := by
            intro w hw'
            unfold vals at hw'
            obtain ⟨m, hm, hm2⟩ := List.mem_flatMap.mp hw'
            have hv := ih m hm (hk m hm).2
            have hk6 := (hk m hm).2.1
            cases hkb : (k == 6) with
            | false => rw [hkb] at hm2; simp at hm2; rw [hm2]; exact ⟨hv, hk6⟩
            | true =>
              rw [hkb] at hm2
              simp at hm2
              rcases hm2 with e | e <;> rw [e]
              · exact ⟨PV_leaf (t := (4, 0, m.1, .leaf)) (show (4 : Nat) ≤ 6 by decide) (show (4 : Nat) ≠ 5 by decide) (show (4 : Nat) ≠ 6 by decide), (show (4 : Nat) ≤ 6 by decide)⟩
              · exact ⟨hv, hk6⟩
          have hl := PV_list (N := N) (e := i + (cV (k, v, s, ofL l)).length) h60 (vals (k == 6) l) n (i + 2) (up S 80 z) [] r hvs z2 (fun x hx => by cases hx) (by rw [up_ne (by decide), vals_blks]; exact c1) (by rw [up_ne (by decide)]; exact h4) (by rw [rd_up (by decide)]; exact h7) (by rw [vals_blks]; omega) h8 h9 (by omega)
          have dmem : ∀ w ∈ vals (k == 6) l, dV w ≤ dF (ofL l) := by
            intro w hw'
            unfold vals at hw'
            obtain ⟨m, hm, hm2⟩ := List.mem_flatMap.mp hw'
            have h0 := dF_mem (f := ofL l) (m := m) (by rw [toL_ofL]; exact hm)
            cases hkb : (k == 6) with
            | false => rw [hkb] at hm2; simp at hm2; rw [hm2]; exact h0
            | true =>
              rw [hkb] at hm2
              simp at hm2
              rcases hm2 with e | e <;> rw [e]
              · exact Nat.zero_le _
              · exact h0
          refine ⟨fun hd => ?_, fun hd => ?_⟩
          · obtain ⟨n', S', X', j1, j2, j3, j4, j5⟩ := hl.1 fun w hw' => by have := dmem w hw'; omega
            refine ⟨n', S', X' ++ [i + (cV (k, v, s, ofL l)).length], ?_, ?_, ?_, j4, f80.trans j5⟩
            · rw [e1, List.append_assoc]; exact j1
            · rw [List.append_assoc]; exact j2
            · intro x hx
              rcases List.mem_append.mp hx with hx | hx
              · exact j3 x hx
              · rw [List.mem_singleton.mp hx]; exact Nat.le_refl _
          · have : ∃ w ∈ vals (k == 6) l, 60 < E.length + 1 + dV w := by
              refine Classical.byContradiction fun hno => ?_
              have : dF (ofL l) ≤ 60 - (E.length + 1) := dF_le fun m hm => by
                refine Classical.byContradiction fun hc => hno ⟨m.2, ?_, by omega⟩
                unfold vals
                refine List.mem_flatMap.mpr ⟨m, hm, ?_⟩
                split <;> simp
              omega
            obtain ⟨S', j1, j2, j3⟩ := hl.2 this
            exact ⟨S', by rw [e1]; exact j1, f80.trans j2, j3⟩
        · rw [i_a1, if_neg (by rw [show (60 : Int32) = Int32.ofNat 60 from rfl, i_le' (by omega) (by omega)]; exact h60)] at e1
          exact ⟨fun hd => by omega, fun _ => ⟨_, e1, f80, z2.1⟩⟩
    · exact PV_leaf w1 (fun e => hb (Or.inl e)) (fun e => hb (Or.inr e))
end Fits126
end

section
/-! What was written comes to a register, or is too much. -/
section Keep127
/-- a value has at most so many cells -/
theorem jn_sum {b : Bool} : ∀ (l : List Mb), l ≠ [] → (jn (l.map (bM b))).length + 1 = ((l.map fun m => (bM b m).length + 1)).sum := by
  intro l
  induction l with
  | nil => intro h; exact absurd rfl h
  | cons m l ih =>
    intro _
    rw [jn_cons, List.length_append]
    simp only [List.map_cons, List.sum_cons]
    by_cases e : l = []
    · rw [if_pos e, e]; simp
    · rw [if_neg e, ← ih e]
      simp only [List.length_cons]
      omega
theorem cbound (t : Vl) : wV t → (cV t).length ≤ 2 * (bV t).length + 2 := by
  induction t using Vl.ind with
  | h k v s l ih =>
    intro hw
    have hk := hw.kids
    have w1 : k ≤ 6 := hw.1
    have h0 : 0 < (bV (k, v, s, ofL l)).length := List.length_pos_iff.mpr (bV_ne _)
    by_cases hb : k = 5 ∨ k = 6
    · have e1 : (cV (k, v, s, ofL l)).length = (cF (k == 6) (ofL l)).length + 2 := by
        unfold cV cval
        simp only
        rcases hb with rfl | rfl <;> rfl
      have e2 : (bV (k, v, s, ofL l)).length = (jn (l.map (bM (k == 6)))).length + 2 := by
        unfold bV bval
        simp only
        rw [bF_ofL]
        rcases hb with rfl | rfl <;> simp
      rw [e1, e2, cF_ofL]
      by_cases el : l = []
      · rw [el]; simp
      · have js := jn_sum (b := k == 6) l el
        have : (l.flatMap (cM (k == 6))).length ≤ 2 * ((l.map fun m => (bM (k == 6) m).length + 1)).sum := by
          clear js e1 e2 h0 hw el
          induction l with
          | nil => simp
          | cons m l ihl =>
            rw [List.flatMap_cons, List.length_append]
            simp only [List.map_cons, List.sum_cons]
            have i1 := ihl (fun x hx => ih x (List.mem_cons_of_mem _ hx)) hk.tail
            have i2 := ih m List.mem_cons_self (hk m List.mem_cons_self).2
            have i3 : (cM (k == 6) m).length ≤ 2 * ((bM (k == 6) m).length + 1) := by
              unfold cM bM
              cases (k == 6) with
              | false => simp only [Bool.false_eq_true, if_false, List.nil_append]; omega
              | true =>
                have f := flat_len (hk m List.mem_cons_self).1
                simp only [if_true, List.length_append, cstr, pstr, List.length_cons, List.length_nil]
                omega
            omega
        omega
    · have : k = 0 ∨ k = 1 ∨ k = 2 ∨ k = 3 ∨ k = 4 := by omega
      rcases this with rfl | rfl | rfl | rfl | rfl
      · exact (show (2 : Nat) ≤ 2 * (bV (0, v, s, ofL l)).length + 2 by omega)
      · exact (show (2 : Nat) ≤ 2 * (bV (1, v, s, ofL l)).length + 2 by omega)
      · exact (show (2 : Nat) ≤ 2 * (bV (2, v, s, ofL l)).length + 2 by omega)
      · exact (show (4 : Nat) ≤ 2 * (bV (3, v, s, ofL l)).length + 2 by omega)
      · have f := flat_len hw.2.2.1
        show (cstr s).length ≤ 2 * (pstr s).length + 2
        simp only [cstr, pstr, List.length_cons, List.length_append, List.length_nil]
        simp only at f
        omega
/-- Out, to which C was put -/
def OutV (S : SS) (C : List Int32) : Prop := (S 91).length = 9000 ∧ (S 90).length = 3 ∧ (C.length ≤ 9000 → (∃ j, S 91 = C ++ j) ∧ rd S 90 1 = Int32.ofNat C.length ∧ rd S 90 2 = 0) ∧ (9000 < C.length → rd S 90 2 = 1)
/-- does a value come into a register? -/
abbrev good (t : Vl) : Prop := (bV t).length ≤ 4096 ∧ dV t ≤ 60
theorem fits_val {S : SS} {t : Vl} (hw : wV t) (ho : OutV S (cV t)) (h80 : (S 80).length = 9000) : ∃ S', b_fits S = some (S', if good t then 1 else 0) ∧ (∀ a, a ≠ 80 → a ≠ 94 → S' a = S a) ∧ (S' 80).length = 9000 := by
  obtain ⟨o1, o2, o3, o4⟩ := ho
  have cb := cbound t hw
  unfold b_fits
  by_cases hc : (cV t).length ≤ 9000
  · obtain ⟨⟨j, p1⟩, p2, p3⟩ := o3 hc
    rw [if_pos p3]
    have hs : stk S ([] ++ []) := ⟨h80, by decide, (fun z hz => by cases hz), S 80, rfl⟩
    obtain ⟨f1, f2⟩ := PV_all (N := (cV t).length) t hw 10000 0 S [] [] j hs (fun x hx => by cases hx) (fun e he => by cases he) (by rw [List.drop_zero]; exact p1) (by omega) p2 (by omega) hc (by omega) (by decide)
    simp only [List.length_nil, Nat.zero_add] at f1 f2
    by_cases hd : dV t ≤ 60
    · obtain ⟨n', S', X', g1, g2, g3, g4, g5⟩ := f1 hd
      obtain ⟨n', rfl⟩ : ∃ k, n' = k + 1 := ⟨n' - 1, by omega⟩
      have g1 : b_fits_l16 10000 S 0 0 = b_fits_l16 (n' + 1) S' (Int32.ofNat (X' ++ []).length) (Int32.ofNat (cV t).length) := g1
      rw [g1]
      have r90 : rd S' 90 1 = Int32.ofNat (cV t).length := by unfold rd; rw [g5 90 (by decide)]; exact p2
      have ev := value_pv t hw 64 (by omega) S' 94 91 0 [] j (by decide) (by rw [g5 91 (by decide)]; omega) (by rw [g5 91 (by decide), List.drop_zero]; exact p1)
      rw [List.nil_append] at ev
      have ev : w_value 64 (up S' 94 [0]) 94 91 0 = some (up S' 94 (pv (bV t))) := ev
      show ∃ S'_1, (if rd S' 90 1 ≤ Int32.ofNat (cV t).length then _ else _) = _ ∧ _
      rw [r90, if_pos ((i_le' (by omega) (by omega)).mpr (Nat.le_refl _)), ev, o_bind, (pv_T S' 94 (bV t)).2]
      refine ⟨up S' 94 (pv (bV t)), ?_, fun a n1 n2 => by rw [up_ne n2, g5 a n1], by rw [up_ne (by decide)]; exact g2.1⟩
      by_cases hb : (bV t).length ≤ 4096
      · rw [if_pos hb, if_pos rfl, if_pos ⟨hb, hd⟩]
      · rw [if_neg hb, if_neg (by decide), if_neg (fun e => hb e.1)]
    · obtain ⟨S', g1, g2, g3⟩ := f2 (by omega)
      exact ⟨S', by rw [if_neg (fun e => hd e.2)]; exact g1, fun a n1 _ => g2 a n1, g3⟩
  · rw [o4 (by omega), if_neg (by decide), if_neg (fun e => by have := e.1; omega)]
    exact ⟨S, rfl, fun _ _ _ => rfl, h80⟩
theorem bkeep_l {r : Nat} (hr : r < 8) {C : List Int32} (hC : C.length ≤ 9000) : ∀ (n i : Nat) (S : SS), C.length < n + i → i ≤ C.length → (∃ j, S 91 = C ++ j) → (S 91).length = 9000 → rd S 90 1 = Int32.ofNat C.length → (S (82 + r)).length = 9000 → (∃ j, S (82 + r) = C.take i ++ j) → ∃ S', b_keep_l2 n S (Int32.ofNat r) (Int32.ofNat i) = some S' ∧ (∀ a, a ≠ 82 + r → S' a = S a) ∧ (S' (82 + r)).length = 9000 ∧ ∃ j, S' (82 + r) = C ++ j := by
  intro n
  induction n with
  | zero => intro i S h1 h2; omega
  | succ n ih =>
    intro i S h1 h2 h3 h4 h5 h6 h7
    show ∃ S', (if rd S 90 1 ≤ Int32.ofNat i then some S else _) = some S' ∧ _
    rw [h5]
    by_cases e : i = C.length
    · rw [if_pos ((i_le' (by omega) (by omega)).mpr (by omega))]
      refine ⟨S, rfl, fun _ _ => rfl, h6, ?_⟩
      rw [e, List.take_length] at h7
      exact h7
    · obtain ⟨j, h3'⟩ := h3
      obtain ⟨j7, h7'⟩ := h7
      have hi : i < C.length := by omega
      have d1 : (S 91).drop i = C[i] :: (C.drop (i + 1) ++ j) := by
        rw [h3', List.drop_append_of_le_length (by omega), List.drop_eq_getElem_cons hi]; rfl
      obtain ⟨e1, e2⟩ := get81 r hr
      have tk : (C.take i).length = i := by rw [List.length_take]; omega
      have is : iset (S (82 + r)) (Int32.ofNat i) C[i] = some ((S (82 + r)).set i C[i]) := by
        unfold iset
        rw [if_neg (i_nn (by omega)), i_cl (by omega), if_pos (by omega)]
      rw [if_neg (by rw [i_le' (by omega) (by omega)]; omega), e1, o_bind, e2, iget_drop (by omega) d1, o_bind, is, o_bind, i_a1]
      cases j7 with
      | nil => rw [h7', List.append_nil, tk] at h6; omega
      | cons y j7 =>
        obtain ⟨S', k1, k2, k3, k4⟩ := ih (i + 1) (up S (82 + r) ((S (82 + r)).set i C[i])) (by omega) (by omega) ⟨j, by rw [up_ne (by omega)]; exact h3'⟩ (by rw [up_ne (by omega)]; exact h4) (by rw [rd_up (by omega)]; exact h5) (by rw [up_same, List.length_set]; exact h6) ⟨j7, by
          rw [up_same, h7', List.set_append_right _ _ (by omega), tk, Nat.sub_self, List.set_cons_zero, List.take_succ_eq_append_getElem hi, List.append_assoc]; rfl⟩
        exact ⟨S', k1, fun a ha => (k2 a ha).trans (up_ne ha), k3, k4⟩
theorem bkeep_val {S : SS} {C : List Int32} {r : Nat} (hr : r < 8) (hC : C.length ≤ 9000) (ho : OutV S C) (h6 : (S (82 + r)).length = 9000) : ∃ S', b_keep S (Int32.ofNat r) = some S' ∧ (∀ a, a ≠ 82 + r → S' a = S a) ∧ (S' (82 + r)).length = 9000 ∧ ∃ j, S' (82 + r) = C ++ j := by
  obtain ⟨o1, o2, o3, o4⟩ := ho
  obtain ⟨p1, p2, p3⟩ := o3 hC
  exact bkeep_l hr hC 10000 0 S (by omega) (by omega) p1 o1 p2 h6 ⟨S (82 + r), by simp⟩
theorem dV_len (t : Vl) : (dV t : Int) ≤ (bV t).length := by
  induction t using Vl.ind with
  | h k v s l ih =>
    by_cases hb : k = 5 ∨ k = 6
    · have e2 : (bV (k, v, s, ofL l)).length = (jn (l.map (bM (k == 6)))).length + 2 := by
        unfold bV bval
        simp only
        rw [bF_ofL]
        rcases hb with rfl | rfl <;> simp
      have e1 : dV (k, v, s, ofL l) = 1 + dF (ofL l) := by unfold dV; rw [if_pos hb]
      have : dF (ofL l) ≤ (jn (l.map (bM (k == 6)))).length := by
        refine dF_le fun m hm => ?_
        have h1 := ih m hm
        have h2 : (bV m.2).length ≤ (jn (l.map (bM (k == 6)))).length := by
          clear ih h1 e1 e2
          induction l with
          | nil => cases hm
          | cons m2 l ihl =>
            rw [jn_cons, List.length_append]
            rcases List.mem_cons.mp hm with e | e
            · rw [e]; unfold bM; rw [List.length_append]; omega
            · have hne : l ≠ [] := fun e2 => by rw [e2] at e; cases e
              rw [if_neg hne, List.length_cons]
              have := ihl e
              omega
        omega
      omega
    · have e1 : dV (k, v, s, ofL l) = 0 := by unfold dV; rw [if_neg hb]
      omega
theorem akeep_val {S : SS} {t : Vl} {dr n : Nat} {ra : List Nat} (hw : wV t) (hd : rd S 41 9 = Int32.ofNat dr) (h46 : S 46 = ra.map Int32.ofNat) (hl : ra.length = 8) (hp : (dr :: ra).Perm nine) (ht : S dr = pv (bV t)) (hn : n < 8) : a_keep S (Int32.ofNat n) = some (if good t then (wr (up S 46 ((ra.set n dr).map Int32.ofNat)) 41 9 (Int32.ofNat (ra.getD n 0)), 0) else (S, 1)) := by
  have hdr := nine_lt dr (hp.mem_iff.mp List.mem_cons_self)
  have hrn := nine_lt _ (ra_mem hp hl hn)
  have e0 : (rd S 41 9).toNatClampNeg = dr := by rw [hd, i_cl (by omega)]
  unfold a_keep
  have tv : tV S dr = if (bV t).length ≤ 4096 then 0 else 1 := by unfold tV; rw [ht]; rfl
  have tt : tT S dr = (bV t).take 4096 := by unfold tT; rw [ht]; rfl
  rw [e0, tv, tt]
  by_cases hb : (bV t).length ≤ 4096
  · rw [if_pos hb, if_pos (by decide), List.take_of_length_le hb, depth_val hb hw, o_bind]
    by_cases h60 : dV t ≤ 60
    · obtain ⟨g1, g2⟩ := get46 h46 hl hn hrn.1
      have is : iset (S 46) (Int32.ofNat n) (Int32.ofNat dr) = some ((ra.set n dr).map Int32.ofNat) := by
        unfold iset
        rw [if_neg (i_nn (by omega)), i_cl (by omega), h46, if_pos (by rw [List.length_map]; omega), List.map_set]
      rw [if_pos (by rw [show (60 : Int32) = Int32.ofNat 60 from rfl, i_le' (by have := h60; omega) (by omega)]; exact h60), g1, o_bind, is, o_bind, g2, if_pos ⟨hb, h60⟩]
    · have hb2 : dV t < 2147483648 := by
        have : (dV t : Int) ≤ (bV t).length := dV_len t
        omega
      rw [if_neg (by rw [show (60 : Int32) = Int32.ofNat 60 from rfl, i_le' hb2 (by omega)]; exact h60), if_neg (fun e => h60 e.2)]
  · rw [if_neg hb, if_neg (by decide), if_neg (fun e => hb e.1)]
end Keep127
end
