section
/-! Values as trees: their cells, their bytes. -/
section Tree107
abbrev Lb : Type := List Int32 × Int × List Int32
/-- members, one behind the other: kind; name, number, characters; what is within; the next -/
abbrev Fo : Type := Std.DTreeMap.Internal.Impl Lb (fun _ => Unit)
/-- a value: its kind, number, characters, what is within it -/
abbrev Vl : Type := Nat × Int × List Int32 × Fo
/-- a member: its name (nothing in an array), its value -/
abbrev Mb : Type := List Int32 × Vl
def toL : Fo → List Mb
  | .leaf => []
  | .inner k l _ f r => (l.1, k, l.2.1, l.2.2, f) :: toL r
def ofL : List Mb → Fo
  | [] => .leaf
  | m :: l => .inner m.2.1 (m.1, m.2.2.1, m.2.2.2.1) () m.2.2.2.2 (ofL l)
theorem toL_ofL (l : List Mb) : toL (ofL l) = l := by
  induction l with
  | nil => rfl
  | cons m l ih => unfold ofL toL; rw [ih]
theorem ofL_toL (f : Fo) : ofL (toL f) = f := by
  induction f with
  | leaf => rfl
  | inner k l u f r _ ih => unfold toL ofL; rw [ih]
theorem Fo.ind {P : Vl → Prop} (h : ∀ k v s l, (∀ m ∈ l, P m.2) → P (k, v, s, ofL l)) (f : Fo) : ∀ m ∈ toL f, P m.2 := by
  induction f with
  | leaf => intro m hm; cases hm
  | inner k l u f r ih1 ih2 =>
    intro m hm
    unfold toL at hm
    rcases List.mem_cons.mp hm with e | e
    · rw [e]
      have := h k l.2.1 l.2.2 (toL f) ih1
      rw [ofL_toL] at this
      exact this
    · exact ih2 m e
/-- what holds of a value whenever it holds of all that is within it, holds of every value -/
theorem Vl.ind {P : Vl → Prop} (h : ∀ k v s l, (∀ m ∈ l, P m.2) → P (k, v, s, ofL l)) (t : Vl) : P t := by
  obtain ⟨k, v, s, f⟩ := t
  have := h k v s (toL f) (Fo.ind h f)
  rw [ofL_toL] at this
  exact this
/-- cells of a number, a string -/
def cnum (v : Int) : List Int32 := [3, 4, Int32.ofInt (v / 4294967296), Int32.ofInt v]
def cstr (s : List Int32) : List Int32 := 4 :: Int32.ofNat (s.length + 2) :: s
def cval (k : Nat) (v : Int) (s kc : List Int32) : List Int32 := if k = 3 then cnum v else if k = 4 then cstr s else if k = 5 ∨ k = 6 then Int32.ofNat k :: Int32.ofNat (kc.length + 2) :: kc else [Int32.ofNat k, 2]
def cF : Bool → Fo → List Int32
  | _, .leaf => []
  | b, .inner k l _ f r => (if b then cstr l.1 else []) ++ cval k l.2.1 l.2.2 (cF (k == 6) f) ++ cF b r
def cV (t : Vl) : List Int32 := cval t.1 t.2.1 t.2.2.1 (cF (t.1 == 6) t.2.2.2)
def cM (b : Bool) (m : Mb) : List Int32 := (if b then cstr m.1 else []) ++ cV m.2
theorem cF_ofL (b : Bool) (l : List Mb) : cF b (ofL l) = l.flatMap (cM b) := by
  induction l with
  | nil => rfl
  | cons m l ih => unfold ofL cF; rw [ih]; rfl
/-- a character as printed -/
def esc (c : Int32) : List Int32 := if sg_letter c = -1 then (if c < 32 then [92, 117, 48, 48, sg_hexd (c >>> (4 &&& 31)), sg_hexd c] else if 127 ≤ c then [92, 117, 48, 48, sg_hexd (c >>> (4 &&& 31)), sg_hexd c] else [c]) else [92, sg_letter c]
def pstr (s : List Int32) : List Int32 := 34 :: (s.flatMap esc ++ [34])
/-- decimal digits -/
def digF : Nat → Nat → List Int32
  | 0, _ => []
  | n + 1, v => if v < 10 then [Int32.ofNat (48 + v)] else digF n (v / 10) ++ [Int32.ofNat (48 + v % 10)]
def pnum (v : Int) : List Int32 := (if v < 0 then [45] else []) ++ digF 20 v.natAbs
def bval (k : Nat) (v : Int) (s kb : List Int32) : List Int32 := if k = 0 then [110, 117, 108, 108] else if k = 1 then [102, 97, 108, 115, 101] else if k = 2 then [116, 114, 117, 101] else if k = 3 then pnum v else if k = 4 then pstr s else if k = 5 then 91 :: (kb ++ [93]) else 123 :: (kb ++ [125])
/-- joined by commas -/
def jn : List (List Int32) → List Int32
  | [] => []
  | [x] => x
  | x :: y :: l => x ++ 44 :: jn (y :: l)
def bF : Bool → Fo → List Int32
  | _, .leaf => []
  | b, .inner k l _ f r => (if b then pstr l.1 ++ [58] else []) ++ bval k l.2.1 l.2.2 (bF (k == 6) f) ++ (match r with
    | .leaf => []
    | .inner _ _ _ _ _ => 44 :: bF b r)
def bV (t : Vl) : List Int32 := bval t.1 t.2.1 t.2.2.1 (bF (t.1 == 6) t.2.2.2)
def bM (b : Bool) (m : Mb) : List Int32 := (if b then pstr m.1 ++ [58] else []) ++ bV m.2
theorem bF_ofL (b : Bool) (l : List Mb) : bF b (ofL l) = jn (l.map (bM b)) := by
  induction l with
  | nil => rfl
  | cons m l ih =>
    cases l with
    | nil =>
      show _ ++ _ ++ [] = _
      rw [List.append_nil]
      rfl
    | cons m2 l =>
      have e : bF b (ofL (m :: m2 :: l)) = bM b m ++ 44 :: bF b (ofL (m2 :: l)) := rfl
      rw [e, ih]
      rfl
/-- characters that a string may have -/
def okS (s : List Int32) : Prop := ∀ c ∈ s, 0 ≤ c ∧ c ≤ 127
/-- how many arrays and objects are within one another -/
def dF : Fo → Nat
  | .leaf => 0
  | .inner k _ _ f r => max (if k = 5 ∨ k = 6 then 1 + dF f else 0) (dF r)
def dV (t : Vl) : Nat := if t.1 = 5 ∨ t.1 = 6 then 1 + dF t.2.2.2 else 0
theorem dF_mem {f : Fo} {m : Mb} (hm : m ∈ toL f) : dV m.2 ≤ dF f := by
  induction f with
  | leaf => cases hm
  | inner k l u f r ih1 ih2 =>
    unfold toL at hm
    rcases List.mem_cons.mp hm with e | e
    · rw [e]; exact Nat.le_max_left (dV (k, l.2.1, l.2.2, f)) (dF r)
    · exact Nat.le_trans (ih2 e) (Nat.le_max_right (dV (k, l.2.1, l.2.2, f)) (dF r))
/-- values as they come up -/
def wF : Fo → Prop
  | .leaf => True
  | .inner k l _ f r => k ≤ 6 ∧ (k = 3 → -9007199254740991 ≤ l.2.1 ∧ l.2.1 ≤ 9007199254740991) ∧ okS l.2.2 ∧ okS l.1 ∧ (¬ (k = 5 ∨ k = 6) → f = .leaf) ∧ (k = 6 → ((toL f).map fun m => m.1).Nodup) ∧ wF f ∧ wF r
def wV (t : Vl) : Prop := t.1 ≤ 6 ∧ (t.1 = 3 → -9007199254740991 ≤ t.2.1 ∧ t.2.1 ≤ 9007199254740991) ∧ okS t.2.2.1 ∧ (¬ (t.1 = 5 ∨ t.1 = 6) → t.2.2.2 = .leaf) ∧ (t.1 = 6 → ((toL t.2.2.2).map fun m => m.1).Nodup) ∧ wF t.2.2.2
theorem wF_iff (f : Fo) : wF f ↔ ∀ m ∈ toL f, okS m.1 ∧ wV m.2 := by
  induction f with
  | leaf => exact ⟨fun _ m hm => absurd hm (List.not_mem_nil), fun _ => trivial⟩
  | inner k l u f r ih1 ih2 =>
    have e0 : toL (.inner k l u f r : Fo) = (l.1, k, l.2.1, l.2.2, f) :: toL r := rfl
    rw [e0]
    constructor
    · rintro ⟨h1, h2, h3, h4, h5, h6, h7, h8⟩ m hm
      rcases List.mem_cons.mp hm with e | e
      · rw [e]; exact ⟨h4, h1, h2, h3, h5, h6, h7⟩
      · exact ih2.mp h8 m e
    · intro hm
      obtain ⟨h4, h1, h2, h3, h5, h6, h7⟩ := hm _ List.mem_cons_self
      exact ⟨h1, h2, h3, h4, h5, h6, h7, ih2.mpr fun m e => hm m (List.mem_cons_of_mem _ e)⟩
end Tree107
end

section
/-! How far a value reaches, read byte by byte. -/
section Scan108
theorem i_inj {a b : Nat} (ha : a < 2147483648) (hb : b < 2147483648) : Int32.ofNat a = Int32.ofNat b ↔ a = b := by
  constructor
  · intro e
    have := congrArg Int32.toInt e
    rw [i_of (by omega), i_of (by omega)] at this
    omega
  · intro e; rw [e]
theorem i_lt' {a b : Nat} (ha : a < 2147483648) (hb : b < 2147483648) : Int32.ofNat a < Int32.ofNat b ↔ a < b := by
  rw [i_lt, i_of (by omega), i_of (by omega)]; omega
theorem i_le' {a b : Nat} (ha : a < 2147483648) (hb : b < 2147483648) : Int32.ofNat a ≤ Int32.ofNat b ↔ a ≤ b := by
  rw [i_le, i_of (by omega), i_of (by omega)]; omega
theorem i_nn {a : Nat} (ha : a < 2147483648) : ¬ Int32.ofNat a < 0 := by
  rw [i_lt, i_of (by omega)]
  have : (0 : Int32).toInt = 0 := rfl
  omega
theorem i_cl {a : Nat} (ha : a < 2147483648) : (Int32.ofNat a).toNatClampNeg = a := by
  rw [i_nat, i_of (by omega)]; omega
theorem i_a1 (a : Nat) : Int32.ofNat a + 1 = Int32.ofNat (a + 1) := (Int32.ofNat_add a 1).symm
theorem i_s1 {a : Nat} (h0 : 0 < a) (ha : a < 2147483648) : Int32.ofNat a + (-1) = Int32.ofNat (a - 1) := by
  apply Int32.toInt_inj.mp
  have h1 : (-1 : Int32).toInt = -1 := rfl
  have h2 : (Int32.ofNat a).toInt = a := i_of (by omega)
  rw [i_add (by omega) (by omega), h1, h2, i_of (by omega)]
  omega
theorem i_z (a : Nat) : (0 : Int32) = Int32.ofNat 0 := rfl
/-- signs below 128 -/
def asc (us : List Int32) : Prop := ∀ u ∈ us, 0 ≤ u ∧ u ≤ 127
theorem asc_at {us : List Int32} (hl : us.length ≤ 4096) (hA : asc us) {p : Nat} (hp : p < us.length) : tby us (Int32.ofNat p) = some us[p] := by
  unfold tby
  rw [if_neg (i_nn (by omega)), i_cl (by omega), List.getElem?_eq_getElem hp]
  obtain ⟨h1, h2⟩ := hA us[p] (List.getElem_mem hp)
  rw [i_le] at h1 h2
  have z0 : (0 : Int32).toInt = 0 := rfl
  have z1 : (127 : Int32).toInt = 127 := rfl
  simp only [Option.map_some]
  congr 1
  apply Int32.toInt_inj.mp
  rw [Int8.toInt_toInt32, Int32.toInt_toInt8, Int.bmod_def]
  omega
theorem tat_in {us : List Int32} (hl : us.length ≤ 4096) {p : Nat} (hp : p < us.length) : tat us (Int32.ofNat p) = us[p] := by
  unfold tat
  rw [if_neg (i_nn (by omega)), i_cl (by omega), List.getD_eq_getElem?_getD, List.getElem?_eq_getElem hp]
  rfl
theorem tat_out {us : List Int32} (hl : us.length ≤ 4096) {p : Nat} (hp : us.length ≤ p) (hb : p < 2147483648) : tat us (Int32.ofNat p) = -1 := by
  unfold tat
  rw [if_neg (i_nn hb), i_cl hb, List.getD_eq_getElem?_getD, List.getElem?_eq_none hp]
  rfl
def sc (c : Bool) : Nat → Nat → List Int32 → Nat
  | _, _, [] => 0
  | k, q, b :: l => if q = 2 then 1 + sc c k 1 l else if q = 1 then (if b = 34 then 1 + sc c k 0 l else if b = 92 then 1 + sc c k 2 l else 1 + sc c k 1 l) else if b = 34 then 1 + sc c k 1 l else if b = 91 ∨ b = 123 then 1 + sc c (k + 1) 0 l else if k = 0 then (if b = 44 ∨ b = 93 ∨ b = 125 ∨ (b = 58 ∧ c = true) then 0 else 1 + sc c 0 0 l) else if b = 93 ∨ b = 125 then 1 + sc c (k - 1) 0 l else 1 + sc c k 0 l
theorem sc_n (c : Bool) (k q : Nat) : sc c k q [] = 0 := by unfold sc; rfl
theorem sc_0 (c : Bool) (k : Nat) (b : Int32) (l : List Int32) : sc c k 0 (b :: l) = if b = 34 then 1 + sc c k 1 l else if b = 91 ∨ b = 123 then 1 + sc c (k + 1) 0 l else if k = 0 then (if b = 44 ∨ b = 93 ∨ b = 125 ∨ (b = 58 ∧ c = true) then 0 else 1 + sc c 0 0 l) else if b = 93 ∨ b = 125 then 1 + sc c (k - 1) 0 l else 1 + sc c k 0 l := rfl
theorem sc_1 (c : Bool) (k : Nat) (b : Int32) (l : List Int32) : sc c k 1 (b :: l) = if b = 34 then 1 + sc c k 0 l else if b = 92 then 1 + sc c k 2 l else 1 + sc c k 1 l := rfl
theorem sc_2 (c : Bool) (k : Nat) (b : Int32) (l : List Int32) : sc c k 2 (b :: l) = 1 + sc c k 1 l := rfl
theorem ns_past {us : List Int32} {cc k z : Int32} {n p : Nat} (hl : us.length ≤ 4096) (hp : us.length ≤ p) (hb : p < 2147483648) : ns_l us cc (n + 1) k z (Int32.ofNat p) = some (Int32.ofNat us.length) := by
  unfold ns_l
  rw [if_pos ((i_le' (by omega) hb).mpr hp)]
theorem ns_sc {us : List Int32} (hl : us.length ≤ 4096) (hA : asc us) {cc : Int32} {c : Bool} (hc : cc = 0 ↔ c = false) : ∀ (n k q p : Nat), us.length < n + p → p ≤ us.length → k ≤ p → (q = 0 ∨ q = 1) → ns_l us cc n (Int32.ofNat k) (Int32.ofNat q) (Int32.ofNat p) = some (Int32.ofNat (p + sc c k q (us.drop p))) := by
  intro n
  induction n using Nat.strongRecOn with
  | ind n ih =>
    intro k q p hn hp hk hq
    cases n with
    | zero => omega
    | succ n =>
      by_cases he : p = us.length
      · rw [ns_past hl (by omega) (by omega), List.drop_of_length_le (by omega)]
        rw [sc_n, Nat.add_zero, he]
      have hp' : p < us.length := by omega
      rw [List.drop_eq_getElem_cons hp']
      unfold ns_l
      rw [if_neg (by rw [i_le' (by omega) (by omega)]; omega), asc_at hl hA hp', o_bind]
      generalize us[p] = b
      have ih1 : ∀ k' q', k' ≤ p + 1 → (q' = 0 ∨ q' = 1) → ns_l us cc n (Int32.ofNat k') (Int32.ofNat q') (Int32.ofNat p + 1) = some (Int32.ofNat (p + (1 + sc c k' q' (us.drop (p + 1))))) := by
        intro k' q' h1 h2
        rw [i_a1, ih n (by omega) k' q' (p + 1) (by omega) (by omega) h1 h2]
        congr 2; omega
      rcases hq with rfl | rfl
      · rw [if_pos (show Int32.ofNat 0 = 0 from rfl)]
        rw [sc_0]
        by_cases b1 : b = 34
        · rw [if_pos b1, if_pos b1]; exact ih1 k 1 (by omega) (Or.inr rfl)
        rw [if_neg b1, if_neg b1]
        by_cases b2 : b = 91
        · rw [if_pos b2, if_pos (Or.inl b2), i_a1]; exact ih1 (k + 1) 0 (by omega) (Or.inl rfl)
        rw [if_neg b2]
        by_cases b3 : b = 123
        · rw [if_pos b3, if_pos (Or.inr b3), i_a1]; exact ih1 (k + 1) 0 (by omega) (Or.inl rfl)
        rw [if_neg b3, if_neg (show ¬ (b = 91 ∨ b = 123) from fun e => e.elim b2 b3)]
        by_cases k0 : k = 0
        · subst k0
          rw [if_pos (show Int32.ofNat 0 = 0 from rfl), if_pos rfl]
          by_cases b4 : b = 44
          · rw [if_pos b4, if_pos (Or.inl b4)]; rfl
          rw [if_neg b4]
          by_cases b5 : b = 93
          · rw [if_pos b5, if_pos (Or.inr (Or.inl b5))]; rfl
          rw [if_neg b5]
          by_cases b6 : b = 125
          · rw [if_pos b6, if_pos (Or.inr (Or.inr (Or.inl b6)))]; rfl
          rw [if_neg b6]
          by_cases b7 : b = 58
          · rw [if_pos b7]
            by_cases c0 : cc = 0
            · rw [if_pos c0, if_neg (show ¬ (b = 44 ∨ b = 93 ∨ b = 125 ∨ (b = 58 ∧ c = true)) by
                rintro (e | e | e | e)
                · exact b4 e
                · exact b5 e
                · exact b6 e
                · rw [hc.mp c0] at e; exact absurd e.2 (by decide))]
              exact ih1 0 0 (by omega) (Or.inl rfl)
            · rw [if_neg c0, if_pos (Or.inr (Or.inr (Or.inr ⟨b7, by
                cases c with
                | true => rfl
                | false => exact absurd (hc.mpr rfl) c0⟩)))]
              rfl
          · rw [if_neg b7, if_neg (show ¬ (b = 44 ∨ b = 93 ∨ b = 125 ∨ (b = 58 ∧ c = true)) by
              rintro (e | e | e | e)
              · exact b4 e
              · exact b5 e
              · exact b6 e
              · exact b7 e.1)]
            exact ih1 0 0 (by omega) (Or.inl rfl)
        · rw [if_neg (by rw [i_z 0, i_inj (by omega) (by omega)]; exact k0), if_neg k0]
          by_cases b5 : b = 93
          · rw [if_pos b5, if_pos (Or.inl b5), i_s1 (by omega) (by omega)]; exact ih1 (k - 1) 0 (by omega) (Or.inl rfl)
          rw [if_neg b5]
          by_cases b6 : b = 125
          · rw [if_pos b6, if_pos (Or.inr b6), i_s1 (by omega) (by omega)]; exact ih1 (k - 1) 0 (by omega) (Or.inl rfl)
          rw [if_neg b6, if_neg (show ¬ (b = 93 ∨ b = 125) from fun e => e.elim b5 b6)]
          exact ih1 k 0 (by omega) (Or.inl rfl)
      · rw [if_neg (show ¬ Int32.ofNat 1 = 0 by decide)]
        rw [sc_1]
        by_cases b1 : b = 34
        · rw [if_pos b1, if_neg (by rw [b1]; decide), if_pos b1]; exact ih1 k 0 (by omega) (Or.inl rfl)
        rw [if_neg b1, if_neg b1]
        by_cases b2 : b = 92
        · rw [if_pos b2, if_pos b2, i_a1, i_a1]
          by_cases h2 : p + 1 = us.length
          · cases n with
            | zero => omega
            | succ n =>
              rw [ns_past hl (by omega) (by omega), List.drop_of_length_le (by omega)]
              rw [sc_n]
              congr 2; omega
          · rw [List.drop_eq_getElem_cons (show p + 1 < us.length by omega)]
            show ns_l us cc n (Int32.ofNat k) (Int32.ofNat 1) (Int32.ofNat (p + 1 + 1)) = _
            rw [ih n (by omega) k 1 (p + 1 + 1) (by omega) (by omega) (by omega) (Or.inr rfl)]
            rw [sc_2]
            congr 2; omega
        · rw [if_neg b2, if_neg b2]; exact ih1 k 1 (by omega) (Or.inr rfl)
end Scan108
end

section
/-! A reader of signs goes over a value and stands behind it. -/
section Pass109
theorem ch_of {c : Int32} (h : 0 ≤ c ∧ c ≤ 127) : ∃ n, n < 128 ∧ c = Int32.ofNat n := by
  obtain ⟨h1, h2⟩ := h
  rw [i_le] at h1 h2
  have z0 : (0 : Int32).toInt = 0 := rfl
  have z1 : (127 : Int32).toInt = 127 := rfl
  exact ⟨c.toInt.toNat, by omega, i_ofnn (by omega) (by omega)⟩
def escB (l : List Int32) : Bool := match l with
  | [x] => x != 34 && x != 92
  | [a, _] => a == 92
  | [a, _, b, c, d, e] => a == 92 && (b != 34 && b != 92 && (c != 34 && c != 92 && (d != 34 && d != 92 && (e != 34 && e != 92))))
  | _ => false
theorem esc_B : ∀ n, n < 128 → (escB (esc (Int32.ofNat n)) && (esc (Int32.ofNat n)).all (fun u => decide (0 ≤ u ∧ u ≤ 127))) = true := by decide +kernel
def Pass1 (l : List Int32) : Prop := ∀ c k r, sc c k 1 (l ++ r) = l.length + sc c k 1 r
def Pass0 (l : List Int32) : Prop := ∀ c k r, sc c k 0 (l ++ r) = l.length + sc c k 0 r
def PassI (l : List Int32) : Prop := ∀ c k r, sc c (k + 1) 0 (l ++ r) = l.length + sc c (k + 1) 0 r
theorem Pass1.app {a b : List Int32} (ha : Pass1 a) (hb : Pass1 b) : Pass1 (a ++ b) := fun c k r => by rw [List.append_assoc, ha, hb, List.length_append]; omega
theorem Pass0.app {a b : List Int32} (ha : Pass0 a) (hb : Pass0 b) : Pass0 (a ++ b) := fun c k r => by rw [List.append_assoc, ha, hb, List.length_append]; omega
theorem PassI.app {a b : List Int32} (ha : PassI a) (hb : PassI b) : PassI (a ++ b) := fun c k r => by rw [List.append_assoc, ha, hb, List.length_append]; omega
theorem Pass0.i {a : List Int32} (ha : Pass0 a) : PassI a := fun c k r => ha c (k + 1) r
theorem Pass1.nil : Pass1 [] := fun c k r => by rw [List.nil_append, List.length_nil]; omega
theorem Pass0.nil : Pass0 [] := fun c k r => by rw [List.nil_append, List.length_nil]; omega
theorem p1_in {x : Int32} (h1 : x ≠ 34) (h2 : x ≠ 92) : Pass1 [x] := fun c k r => by
  show sc c k 1 (x :: r) = 1 + _
  rw [sc_1, if_neg h1, if_neg h2]
theorem escB_pass : ∀ l, escB l = true → Pass1 l := by
  intro l h
  unfold escB at h
  split at h
  · simp only [Bool.and_eq_true, bne_iff_ne, ne_eq] at h
    exact p1_in h.1 h.2
  · simp only [beq_iff_eq] at h
    intro c k r
    rw [h]
    show sc c k 1 (92 :: _ :: r) = 2 + _
    rw [sc_1, if_neg (by decide), if_pos rfl, sc_2]; omega
  · simp only [Bool.and_eq_true, bne_iff_ne, ne_eq, beq_iff_eq] at h
    obtain ⟨h0, h1, h2, h3, h4⟩ := h
    intro c k r
    rw [h0]
    show sc c k 1 (92 :: _ :: _) = 6 + _
    rw [sc_1, if_neg (by decide), if_pos rfl, sc_2]
    have := (((p1_in h1.1 h1.2).app (p1_in h2.1 h2.2)).app (p1_in h3.1 h3.2)).app (p1_in h4.1 h4.2) c k r
    refine (congrArg (fun z => 1 + (1 + z)) this).trans ?_
    simp only [List.length_append, List.length_cons, List.length_nil]
    omega
  · cases h
theorem esc_pass {c : Int32} (h : 0 ≤ c ∧ c ≤ 127) : Pass1 (esc c) ∧ asc (esc c) := by
  obtain ⟨n, hn, rfl⟩ := ch_of h
  have := esc_B n hn
  rw [Bool.and_eq_true, List.all_eq_true] at this
  exact ⟨escB_pass _ this.1, fun u hu => of_decide_eq_true (this.2 u hu)⟩
theorem asc.app {a b : List Int32} (ha : asc a) (hb : asc b) : asc (a ++ b) := fun u hu => (List.mem_append.mp hu).elim (ha u) (hb u)
theorem asc.cons {a : Int32} {b : List Int32} (ha : 0 ≤ a ∧ a ≤ 127) (hb : asc b) : asc (a :: b) := fun u hu => (List.mem_cons.mp hu).elim (fun e => e ▸ ha) (hb u)
theorem asc.nil : asc [] := fun u hu => by cases hu
theorem flat_pass {s : List Int32} (h : okS s) : Pass1 (s.flatMap esc) ∧ asc (s.flatMap esc) := by
  induction s with
  | nil => exact ⟨Pass1.nil, asc.nil⟩
  | cons c s ih =>
    obtain ⟨a1, a2⟩ := esc_pass (h c List.mem_cons_self)
    obtain ⟨b1, b2⟩ := ih fun x hx => h x (List.mem_cons_of_mem _ hx)
    rw [List.flatMap_cons]
    exact ⟨a1.app b1, a2.app b2⟩
theorem pstr_pass {s : List Int32} (h : okS s) : Pass0 (pstr s) ∧ asc (pstr s) := by
  obtain ⟨a1, a2⟩ := flat_pass h
  refine ⟨fun c k r => ?_, asc.cons (by decide) (a2.app (asc.cons (by decide) asc.nil))⟩
  show sc c k 0 (34 :: (s.flatMap esc ++ [34] ++ r)) = _
  rw [sc_0, if_pos rfl, List.append_assoc, a1]
  show 1 + (_ + sc c k 1 (34 :: r)) = _
  rw [sc_1, if_pos rfl, pstr, List.length_cons, List.length_append]
  simp only [List.length_cons, List.length_nil]
  omega
/-- a sign without a meaning to the reader -/
abbrev dull (x : Int32) : Prop := x ≠ 34 ∧ x ≠ 91 ∧ x ≠ 123 ∧ x ≠ 44 ∧ x ≠ 93 ∧ x ≠ 125 ∧ x ≠ 58
theorem p0_in {x : Int32} (h : dull x) : Pass0 [x] := fun c k r => by
  obtain ⟨h1, h2, h3, h4, h5, h6, h7⟩ := h
  show sc c k 0 (x :: r) = 1 + _
  rw [sc_0, if_neg h1, if_neg (show ¬ (x = 91 ∨ x = 123) from fun e => e.elim h2 h3)]
  by_cases hk : k = 0
  · subst hk
    rw [if_pos rfl, if_neg (show ¬ (x = 44 ∨ x = 93 ∨ x = 125 ∨ (x = 58 ∧ c = true)) by
      rintro (e | e | e | e)
      · exact h4 e
      · exact h5 e
      · exact h6 e
      · exact h7 e.1)]
  · rw [if_neg hk, if_neg (show ¬ (x = 93 ∨ x = 125) from fun e => e.elim h5 h6)]
theorem p0_all {l : List Int32} (h : ∀ x ∈ l, dull x) : Pass0 l := by
  induction l with
  | nil => exact Pass0.nil
  | cons x l ih => exact (p0_in (h x List.mem_cons_self)).app (ih fun y hy => h y (List.mem_cons_of_mem _ hy))
theorem dig_ok : ∀ v, v < 10 → dull (Int32.ofNat (48 + v)) ∧ (0 ≤ Int32.ofNat (48 + v) ∧ Int32.ofNat (48 + v) ≤ 127) := by decide +kernel
theorem digF_ok : ∀ n v, ∀ x ∈ digF n v, dull x ∧ 0 ≤ x ∧ x ≤ 127 := by
  intro n
  induction n with
  | zero => intro v x hx; cases hx
  | succ n ih =>
    intro v x hx
    unfold digF at hx
    split at hx
    · rw [List.mem_singleton.mp hx]; exact dig_ok v (by assumption)
    · rcases List.mem_append.mp hx with hx | hx
      · exact ih _ x hx
      · rw [List.mem_singleton.mp hx]; exact dig_ok _ (Nat.mod_lt _ (by decide))
theorem pnum_ok (v : Int) : ∀ x ∈ pnum v, dull x ∧ 0 ≤ x ∧ x ≤ 127 := by
  intro x hx
  unfold pnum at hx
  rcases List.mem_append.mp hx with hx | hx
  · split at hx
    · rw [List.mem_singleton.mp hx]; decide
    · cases hx
  · exact digF_ok _ _ x hx
theorem pi_one (x : Int32) (h : x = 44 ∨ x = 58) : PassI [x] := fun c k r => by
  show sc c (k + 1) 0 (x :: r) = 1 + _
  rcases h with rfl | rfl <;> rw [sc_0, if_neg (by decide), if_neg (by decide), if_neg (Nat.succ_ne_zero k), if_neg (by decide)]
theorem jn_pass {l : List (List Int32)} (h : ∀ x ∈ l, PassI x ∧ asc x) : PassI (jn l) ∧ asc (jn l) := by
  induction l with
  | nil => exact ⟨Pass0.nil.i, asc.nil⟩
  | cons x l ih =>
    cases l with
    | nil => exact h x List.mem_cons_self
    | cons y l =>
      have hx := h x List.mem_cons_self
      have ih' := ih fun z hz => h z (List.mem_cons_of_mem _ hz)
      exact ⟨hx.1.app ((pi_one 44 (Or.inl rfl)).app ih'.1), hx.2.app (asc.cons (by decide) ih'.2)⟩
theorem box_pass {a z : Int32} {l : List Int32} (ha : a = 91 ∨ a = 123) (hz : z = 93 ∨ z = 125) (h : PassI l) : Pass0 (a :: (l ++ [z])) := fun c k r => by
  show sc c k 0 (a :: (l ++ [z] ++ r)) = _
  have h1 : sc c k 0 (a :: (l ++ [z] ++ r)) = 1 + sc c (k + 1) 0 (l ++ [z] ++ r) := by
    rw [sc_0, if_neg (by rcases ha with rfl | rfl <;> decide), if_pos ha]
  rw [h1, List.append_assoc, h]
  show 1 + (_ + sc c (k + 1) 0 (z :: r)) = _
  have h2 : sc c (k + 1) 0 (z :: r) = 1 + sc c k 0 r := by
    rw [sc_0, if_neg (by rcases hz with rfl | rfl <;> decide), if_neg (by rcases hz with rfl | rfl <;> decide), if_neg (Nat.succ_ne_zero k), if_pos hz]; rfl
  rw [h2, List.length_cons, List.length_append]
  simp only [List.length_cons, List.length_nil]
  omega
/-- a value's bytes: read over, and plain signs -/
theorem bV_pass (t : Vl) : wV t → Pass0 (bV t) ∧ asc (bV t) := by
  induction t using Vl.ind with
  | h k v s l ih =>
    intro hw
    obtain ⟨w1, w2, w3, w4, w5, w6⟩ := hw
    simp only at w1 w2 w3 w4 w5 w6
    unfold bV
    simp only
    have hk : ∀ b, PassI (bF b (ofL l)) ∧ asc (bF b (ofL l)) := by
      intro b
      rw [bF_ofL]
      refine jn_pass fun x hx => ?_
      obtain ⟨m, hm, rfl⟩ := List.mem_map.mp hx
      rw [wF_iff, toL_ofL] at w6
      obtain ⟨n1, n2⟩ := w6 m hm
      obtain ⟨i1, i2⟩ := ih m hm n2
      unfold bM
      cases b with
      | false => exact ⟨i1.i, i2⟩
      | true =>
        obtain ⟨p1, p2⟩ := pstr_pass n1
        exact ⟨(p1.i.app (pi_one 58 (Or.inr rfl))).app i1.i, (p2.app (asc.cons (by decide) asc.nil)).app i2⟩
    unfold bval
    split
    · exact ⟨p0_all (by decide), by unfold asc; decide⟩
    split
    · exact ⟨p0_all (by decide), by unfold asc; decide⟩
    split
    · exact ⟨p0_all (by decide), by unfold asc; decide⟩
    split
    · exact ⟨p0_all fun x hx => (pnum_ok v x hx).1, fun x hx => (pnum_ok v x hx).2⟩
    split
    · exact pstr_pass w3
    split
    · exact ⟨box_pass (Or.inl rfl) (Or.inl rfl) (hk _).1, asc.cons (by decide) ((hk _).2.app (asc.cons (by decide) asc.nil))⟩
    · exact ⟨box_pass (Or.inr rfl) (Or.inr rfl) (hk _).1, asc.cons (by decide) ((hk _).2.app (asc.cons (by decide) asc.nil))⟩
end Pass109
end

section
/-! Where the items of a printed value are. -/
section Items110
theorem sc_stop {c : Bool} {z : Int32} {r : List Int32} (h : z = 44 ∨ z = 93 ∨ z = 125 ∨ (z = 58 ∧ c = true)) : sc c 0 0 (z :: r) = 0 := by
  rw [sc_0]
  rw [if_neg (by rcases h with rfl | rfl | rfl | ⟨rfl, _⟩ <;> decide), if_neg (by rcases h with rfl | rfl | rfl | ⟨rfl, _⟩ <;> decide), if_pos rfl, if_pos h]
theorem bM_pass {b : Bool} {m : Mb} (h1 : okS m.1) (h2 : wV m.2) (r : List Int32) : sc false 0 0 (bM b m ++ r) = (bM b m).length + sc false 0 0 r := by
  obtain ⟨a1, -⟩ := bV_pass m.2 h2
  unfold bM
  cases b with
  | false => exact a1 false 0 r
  | true =>
    obtain ⟨p1, -⟩ := pstr_pass h1
    simp only [if_true]
    rw [List.append_assoc, List.append_assoc, p1]
    have e : sc false 0 0 ([58] ++ (bV m.2 ++ r)) = 1 + sc false 0 0 (bV m.2 ++ r) := by
      show sc false 0 0 (58 :: (bV m.2 ++ r)) = _
      rw [sc_0, if_neg (by decide), if_neg (by decide), if_pos rfl, if_neg (by decide)]
    rw [e, a1, List.length_append, List.length_append]
    simp only [List.length_cons, List.length_nil]
    omega
theorem drop_len {us w r : List Int32} {p : Nat} (h : us.drop p = w ++ r) (hw : w ≠ []) : p + w.length + r.length = us.length := by
  have := congrArg List.length h
  rw [List.length_drop, List.length_append] at this
  have : 0 < w.length := List.length_pos_iff.mpr hw
  omega
theorem drop_more {us w r : List Int32} {p : Nat} (h : us.drop p = w ++ r) : us.drop (p + w.length) = r := by
  rw [← List.drop_drop, h, List.drop_left]
theorem drop_at {us r : List Int32} {x : Int32} {p : Nat} (hl : us.length ≤ 4096) (h : us.drop p = x :: r) : tat us (Int32.ofNat p) = x := by
  have h1 := drop_len (w := [x]) h (by simp)
  simp only [List.length_cons, List.length_nil] at h1
  have hp : p < us.length := by omega
  rw [tat_in hl hp]
  rw [List.drop_eq_getElem_cons hp] at h
  exact (List.cons.inj h).1
theorem drop_end {us : List Int32} {p : Nat} (hl : us.length ≤ 4096) (hb : p < 2147483648) (h : us.drop p = []) : tat us (Int32.ofNat p) = -1 := by
  refine tat_out hl ?_ hb
  have := congrArg List.length h
  rw [List.length_drop, List.length_nil] at this
  omega
theorem ns_at {us r : List Int32} {cc : Int32} {c : Bool} {p : Nat} (hl : us.length ≤ 4096) (hA : asc us) (hc : cc = 0 ↔ c = false) (h : us.drop p = r) (hp : p ≤ us.length) : ns us cc (Int32.ofNat p) = some (Int32.ofNat (p + sc c 0 0 r)) := by
  unfold ns
  have e : imax (Int32.ofNat p) 0 = Int32.ofNat p := by
    unfold imax
    rw [if_neg (i_nn (by omega))]
  rw [e, i_z 0, ns_sc hl hA hc 10000 0 0 p (by omega) hp (by omega) (Or.inl rfl), h]
/-- behind a value -/
theorem past_val {us r : List Int32} {t : Vl} {p : Nat} {z : Int32} (hl : us.length ≤ 4096) (hA : asc us) (hw : wV t) (h : us.drop p = bV t ++ z :: r) (hz : z = 44 ∨ z = 93 ∨ z = 125 ∨ z = 58) (hp : p ≤ us.length) : t_past us (Int32.ofNat p) = some (Int32.ofNat (p + (bV t).length)) := by
  unfold t_past
  rw [ns_at hl hA (c := true) (by decide) h hp, o_bind, (bV_pass t hw).1, sc_stop (by rcases hz with e | e | e | e <;> simp [e])]
  rfl
theorem past_end {us : List Int32} {t : Vl} {p : Nat} (hl : us.length ≤ 4096) (hA : asc us) (hw : wV t) (h : us.drop p = bV t) (hp : p ≤ us.length) : t_past us (Int32.ofNat p) = some (Int32.ofNat (p + (bV t).length)) := by
  unfold t_past
  have h' : us.drop p = bV t ++ [] := by rw [List.append_nil]; exact h
  rw [ns_at hl hA (c := true) (by decide) h' hp, o_bind, (bV_pass t hw).1, sc_n]
  rfl
theorem past_str {us r : List Int32} {s : List Int32} {p : Nat} (hl : us.length ≤ 4096) (hA : asc us) (hs : okS s) (h : us.drop p = pstr s ++ 58 :: r) (hp : p ≤ us.length) : t_past us (Int32.ofNat p) = some (Int32.ofNat (p + (pstr s).length)) := by
  unfold t_past
  rw [ns_at hl hA (c := true) (by decide) h hp, o_bind, (pstr_pass hs).1, sc_stop (by simp)]
  rfl
theorem jn_cons (b : Bool) (m : Mb) (l : List Mb) : jn ((m :: l).map (bM b)) = bM b m ++ (if l = [] then [] else 44 :: jn (l.map (bM b))) := by
  cases l with
  | nil => simp [jn]
  | cons m2 l => simp only [List.map_cons, jn, reduceCtorEq, if_false]
theorem bV_ne (t : Vl) : bV t ≠ [] := by
  unfold bV bval
  split; · simp
  split; · simp
  split; · simp
  split
  · unfold pnum
    intro e
    rw [List.append_eq_nil_iff] at e
    have := e.2
    unfold digF at this
    split at this
    · cases this
    · rw [List.append_eq_nil_iff] at this; cases this.2
  split; · simp [pstr]
  split <;> simp
theorem bM_ne (b : Bool) (m : Mb) : bM b m ≠ [] := by
  unfold bM
  intro e
  rw [List.append_eq_nil_iff] at e
  exact bV_ne _ e.2
/-- from one item to the next -/
theorem nx {us r : List Int32} {b : Bool} {m : Mb} {l : List Mb} {q : Nat} {z : Int32} (hl : us.length ≤ 4096) (hA : asc us) (hm : okS m.1 ∧ wV m.2) (hz : z = 93 ∨ z = 125) (h : us.drop q = jn ((m :: l).map (bM b)) ++ z :: r) :
    q + (bM b m).length < us.length ∧ t_itemEnd us (Int32.ofNat q) = some (Int32.ofNat (q + (bM b m).length)) ∧ t_next us (Int32.ofNat q) = some (if l = [] then -1 else Int32.ofNat (q + (bM b m).length + 1)) ∧ (l ≠ [] → us.drop (q + (bM b m).length + 1) = jn (l.map (bM b)) ++ z :: r) := by
  rw [jn_cons, List.append_assoc] at h
  have hlen := drop_len h (bM_ne b m)
  have hr : 0 < ((if l = [] then [] else 44 :: jn (l.map (bM b))) ++ z :: r).length := by
    rw [List.length_append]; simp only [List.length_cons]; omega
  have hs0 : sc false 0 0 ((if l = [] then [] else 44 :: jn (l.map (bM b))) ++ z :: r) = 0 := by
    by_cases hn : l = []
    · rw [if_pos hn]
      exact sc_stop (by rcases hz with e | e <;> simp [e])
    · rw [if_neg hn]
      exact sc_stop (Or.inl rfl)
  have en : ns us 0 (Int32.ofNat q) = some (Int32.ofNat (q + (bM b m).length)) := by
    rw [ns_at hl hA (c := false) (by decide) h (by omega), bM_pass hm.1 hm.2, hs0]
    rfl
  have hd := drop_more h
  refine ⟨by omega, ?_, ?_, ?_⟩
  · unfold t_itemEnd; rw [en, o_bind]
  · unfold t_next
    rw [en, o_bind]
    by_cases hn : l = []
    · rw [if_pos hn] at hd ⊢
      rw [drop_at hl hd, if_neg (by rcases hz with e | e <;> rw [e] <;> decide)]
    · rw [if_neg hn] at hd ⊢
      rw [drop_at hl hd, if_pos rfl, i_a1]
  · intro hn
    rw [if_neg hn] at hd
    exact drop_more (w := [44]) hd
/-- what a printed array or object holds -/
theorem box_in {us r : List Int32} {k : Nat} {v : Int} {s : List Int32} {l : List Mb} {p : Nat} (hk : k = 5 ∨ k = 6) (h : us.drop p = bV (k, v, s, ofL l) ++ r) : us.drop (p + 1) = jn (l.map (bM (k == 6))) ++ (if k = 5 then 93 else 125) :: r := by
  have e : bV (k, v, s, ofL l) = (if k = 5 then 91 else 123) :: (jn (l.map (bM (k == 6))) ++ [if k = 5 then 93 else 125]) := by
    unfold bV bval
    simp only
    rw [bF_ofL]
    rcases hk with rfl | rfl <;> rfl
  rw [e] at h
  have := drop_more (w := [if k = 5 then 91 else 123]) (by simpa using h)
  simpa using this
theorem nil_jn {b : Bool} {l : List Mb} (h : l ≠ []) : ∃ x y, jn (l.map (bM b)) = x :: y := by
  cases l with
  | nil => exact absurd rfl h
  | cons m l =>
    rw [jn_cons]
    cases hb : bM b m with
    | nil => exact absurd hb (bM_ne b m)
    | cons x y => exact ⟨x, _, rfl⟩
end Items110
end

section
/-! Kinds, and counting items. -/
section Kind111
theorem dig_c : ∀ v, v < 10 → t_kind [Int32.ofNat (48 + v)] 0 = some 3 ∧ Int32.ofNat (48 + v) ≠ 93 ∧ Int32.ofNat (48 + v) ≠ 125 := by decide +kernel
/-- what a first byte tells -/
def kindOf (x : Int32) : Option Int32 := if x = -1 then some 0 else if x = 34 then some 4 else if x = 91 then some 5 else if x = 102 then some 1 else if x = 110 then some 0 else if x = 116 then some 2 else if x = 123 then some 6 else some 3
theorem kind_at (us : List Int32) (p : Int32) : t_kind us p = kindOf (tat us p) := rfl
theorem dig_k : ∀ v, v < 10 → kindOf (Int32.ofNat (48 + v)) = some 3 ∧ Int32.ofNat (48 + v) ≠ 93 ∧ Int32.ofNat (48 + v) ≠ 125 := by decide +kernel
theorem digF_hd : ∀ n v, ∃ x y, digF (n + 1) v = x :: y ∧ kindOf x = some 3 ∧ x ≠ 93 ∧ x ≠ 125 := by
  intro n
  induction n with
  | zero =>
    intro v
    unfold digF
    split
    · exact ⟨_, [], rfl, dig_k v (by assumption)⟩
    · exact ⟨_, [], rfl, dig_k _ (Nat.mod_lt _ (by decide))⟩
  | succ n ih =>
    intro v
    unfold digF
    split
    · exact ⟨_, [], rfl, dig_k v (by assumption)⟩
    · obtain ⟨x, y, e, h⟩ := ih (v / 10)
      rw [e]
      exact ⟨x, _, rfl, h⟩
theorem pnum_hd (v : Int) : ∃ x y, pnum v = x :: y ∧ kindOf x = some 3 ∧ x ≠ 93 ∧ x ≠ 125 := by
  unfold pnum
  split
  · exact ⟨45, _, rfl, by decide⟩
  · exact digF_hd 19 _
theorem bV_hd {t : Vl} (hk : t.1 ≤ 6) : ∃ x y, bV t = x :: y ∧ kindOf x = some (Int32.ofNat t.1) ∧ x ≠ 93 ∧ x ≠ 125 := by
  obtain ⟨k, v, s, f⟩ := t
  simp only at hk
  unfold bV bval
  simp only
  have : k = 0 ∨ k = 1 ∨ k = 2 ∨ k = 3 ∨ k = 4 ∨ k = 5 ∨ k = 6 := by omega
  rcases this with rfl | rfl | rfl | rfl | rfl | rfl | rfl
  · exact ⟨110, _, rfl, by decide⟩
  · exact ⟨102, _, rfl, by decide⟩
  · exact ⟨116, _, rfl, by decide⟩
  · exact pnum_hd v
  · exact ⟨34, _, rfl, by decide⟩
  · exact ⟨91, _, rfl, by decide⟩
  · exact ⟨123, _, rfl, by decide⟩
theorem bM_hd {b : Bool} {m : Mb} (hk : m.2.1 ≤ 6) : ∃ x y, bM b m = x :: y ∧ x ≠ 93 ∧ x ≠ 125 := by
  unfold bM
  cases b with
  | false =>
    obtain ⟨x, y, e, h⟩ := bV_hd hk
    exact ⟨x, y, e, h.2⟩
  | true => exact ⟨34, _, rfl, by decide⟩
theorem kind_val {us r : List Int32} {t : Vl} {p : Nat} (hl : us.length ≤ 4096) (hk : t.1 ≤ 6) (h : us.drop p = bV t ++ r) : t_kind us (Int32.ofNat p) = some (Int32.ofNat t.1) := by
  obtain ⟨x, y, e, h1, -⟩ := bV_hd hk
  rw [e] at h
  rw [kind_at, drop_at hl h, h1]
theorem kind_no (us : List Int32) : t_kind us (-1) = some 0 := by
  rw [kind_at]
  rfl
/-- items that may stand there -/
def okL (l : List Mb) : Prop := ∀ m ∈ l, okS m.1 ∧ wV m.2
theorem okL.tail {m : Mb} {l : List Mb} (h : okL (m :: l)) : okL l := fun x hx => h x (List.mem_cons_of_mem _ hx)
theorem wV.kids {k : Nat} {v : Int} {s : List Int32} {l : List Mb} (h : wV (k, v, s, ofL l)) : okL l := by
  have := h.2.2.2.2.2
  rw [wF_iff, toL_ofL] at this
  exact this
theorem first_item {us r : List Int32} {k : Nat} {v : Int} {s : List Int32} {l : List Mb} {p : Nat} (hl : us.length ≤ 4096) (hw : okL l) (hk : k = 5 ∨ k = 6) (h : us.drop p = bV (k, v, s, ofL l) ++ r) : t_first us (Int32.ofNat p) = some (if l = [] then -1 else Int32.ofNat (p + 1)) := by
  have hb := box_in hk h
  unfold t_first
  rw [i_a1]
  cases l with
  | nil =>
    rw [if_pos rfl]
    simp only [List.map_nil, jn, List.nil_append] at hb
    rw [drop_at hl hb]
    rcases hk with rfl | rfl
    · rw [if_pos (by decide)]
    · rw [if_neg (by decide), if_pos (by decide)]
  | cons m l =>
    rw [show (if m :: l = [] then (-1 : Int32) else Int32.ofNat (p + 1)) = Int32.ofNat (p + 1) from if_neg (by simp)]
    obtain ⟨x, y, e, h1, h2⟩ := bM_hd (b := k == 6) (hw m List.mem_cons_self).2.1
    rw [jn_cons, e] at hb
    rw [drop_at hl hb, if_neg h1, if_neg h2]
theorem i_ne1 {q : Nat} (h : q < 2147483648) : ¬ Int32.ofNat q = -1 := by
  intro e
  have := congrArg Int32.toInt e
  rw [i_of (by omega)] at this
  have h1 : (-1 : Int32).toInt = -1 := rfl
  omega
theorem items_l {us r : List Int32} {b : Bool} {z : Int32} {p : Int32} (hl : us.length ≤ 4096) (hA : asc us) (hz : z = 93 ∨ z = 125) : ∀ (l : List Mb) (n c q : Nat), okL l → l ≠ [] → us.drop q = jn (l.map (bM b)) ++ z :: r → l.length < n → c ≤ q → t_items_l us n p (Int32.ofNat c) (Int32.ofNat q) = some (Int32.ofNat (c + l.length)) := by
  intro l
  induction l with
  | nil => intro n c q _ h; exact absurd rfl h
  | cons m l ih =>
    intro n c q hw _ h hn hc
    obtain ⟨n1, -, n2, n3⟩ := nx hl hA (hw m List.mem_cons_self) hz h
    cases n with
    | zero => omega
    | succ n =>
      unfold t_items_l
      rw [if_neg (i_ne1 (by omega)), if_neg (by rw [i_le' (by omega) (by omega)]; omega), n2, o_bind, i_a1]
      by_cases e : l = []
      · rw [if_pos e, e]
        simp only [List.length_cons, List.length_nil] at hn ⊢
        cases n with
        | zero => omega
        | succ n => unfold t_items_l; rw [if_pos rfl]
      · rw [if_neg e, ih n (c + 1) _ hw.tail e (n3 e) (by simp only [List.length_cons] at hn; omega) (by omega)]
        simp only [List.length_cons]
        congr 2; omega
theorem jn_len {b : Bool} : ∀ (l : List Mb), l.length ≤ (jn (l.map (bM b))).length := by
  intro l
  induction l with
  | nil => simp
  | cons m l ih =>
    rw [jn_cons, List.length_append]
    have h0 : 0 < (bM b m).length := List.length_pos_iff.mpr (bM_ne b m)
    by_cases e : l = []
    · rw [e, if_pos rfl]
      simp only [List.length_cons, List.length_nil]; omega
    · rw [if_neg e]
      simp only [List.length_cons]; omega
theorem box_len {us r : List Int32} {k : Nat} {v : Int} {s : List Int32} {l : List Mb} {p : Nat} (hk : k = 5 ∨ k = 6) (h : us.drop p = bV (k, v, s, ofL l) ++ r) : p + l.length + 2 ≤ us.length := by
  have hb := congrArg List.length (box_in hk h)
  have h1 := drop_len h (bV_ne _)
  have h2 := jn_len (b := k == 6) l
  rw [List.length_drop, List.length_append] at hb
  simp only [List.length_cons] at hb
  omega
/-- how many items there are -/
theorem items_val {us r : List Int32} {k : Nat} {v : Int} {s : List Int32} {l : List Mb} {p : Nat} (hl : us.length ≤ 4096) (hA : asc us) (hw : okL l) (hk : k = 5 ∨ k = 6) (h : us.drop p = bV (k, v, s, ofL l) ++ r) : t_items us (Int32.ofNat p) = some (Int32.ofNat l.length) := by
  unfold t_items
  rw [first_item hl hw hk h, o_bind]
  have hb := box_len hk h
  by_cases e : l = []
  · rw [if_pos e, e]
    unfold t_items_l
    rw [if_pos rfl]; rfl
  · rw [if_neg e, i_z 0, items_l hl hA (by rcases hk with rfl | rfl <;> simp) l 10000 0 (p + 1) hw e (box_in hk h) (by omega) (by omega)]
    congr 2; omega
/-- where item j is, if the items begin at q -/
def ip (b : Bool) (q : Nat) (l : List Mb) (j : Nat) : Nat := q + ((l.take j).map fun m => (bM b m).length + 1).sum
theorem ip_0 (b : Bool) (q : Nat) (l : List Mb) : ip b q l 0 = q := by simp [ip]
theorem ip_s (b : Bool) (q : Nat) (m : Mb) (l : List Mb) (j : Nat) : ip b q (m :: l) (j + 1) = ip b (q + (bM b m).length + 1) l j := by
  unfold ip
  simp only [List.take_succ_cons, List.map_cons, List.sum_cons]
  omega
theorem ip_drop {us r : List Int32} {b : Bool} {z : Int32} (hl : us.length ≤ 4096) (hA : asc us) (hz : z = 93 ∨ z = 125) : ∀ (l : List Mb) (q j : Nat), okL l → us.drop q = jn (l.map (bM b)) ++ z :: r → j < l.length → us.drop (ip b q l j) = jn ((l.drop j).map (bM b)) ++ z :: r ∧ ip b q l j < us.length := by
  intro l
  induction l with
  | nil => intro q j _ _ h; exact absurd h (Nat.not_lt_zero _)
  | cons m l ih =>
    intro q j hw h hj
    obtain ⟨n1, -, -, n3⟩ := nx hl hA (hw m List.mem_cons_self) hz h
    cases j with
    | zero => rw [ip_0]; exact ⟨h, by omega⟩
    | succ j =>
      rw [ip_s, List.drop_succ_cons]
      have e : l ≠ [] := by intro e; rw [e] at hj; simp at hj
      exact ih _ j hw.tail (n3 e) (by simp only [List.length_cons] at hj; omega)
theorem item_l {us r : List Int32} {b : Bool} {z : Int32} {p : Int32} {k : Nat} (hl : us.length ≤ 4096) (hA : asc us) (hz : z = 93 ∨ z = 125) (hk : k < 2147483648) : ∀ (l : List Mb) (n c q : Nat), okL l → l ≠ [] → us.drop q = jn (l.map (bM b)) ++ z :: r → l.length < n → c ≤ k → t_item_l us n p (Int32.ofNat k) (Int32.ofNat q) (Int32.ofNat c) = some (if k - c < l.length then Int32.ofNat (ip b q l (k - c)) else -1) := by
  intro l
  induction l with
  | nil => intro n c q _ h; exact absurd rfl h
  | cons m l ih =>
    intro n c q hw _ h hn hc
    obtain ⟨n1, -, n2, n3⟩ := nx hl hA (hw m List.mem_cons_self) hz h
    cases n with
    | zero => omega
    | succ n =>
      unfold t_item_l
      by_cases e0 : k = c
      · rw [if_pos ((i_le' (by omega) (by omega)).mpr (by omega)), e0, Nat.sub_self, ip_0, if_pos (by simp)]
      rw [if_neg (by rw [i_le' (by omega) (by omega)]; omega), if_neg (i_ne1 (by omega)), n2, o_bind, i_a1]
      have ek : k - c = (k - (c + 1)) + 1 := by omega
      by_cases e : l = []
      · rw [if_pos e, e, if_neg (by simp only [List.length_cons, List.length_nil]; omega)]
        simp only [List.length_cons, List.length_nil] at hn
        cases n with
        | zero => omega
        | succ n =>
          unfold t_item_l
          by_cases e2 : Int32.ofNat k ≤ Int32.ofNat (c + 1)
          · rw [if_pos e2]
          · rw [if_neg e2, if_pos rfl]
      · rw [if_neg e, ih n (c + 1) _ hw.tail e (n3 e) (by simp only [List.length_cons] at hn; omega) (by omega), ek, ip_s]
        congr 1
        by_cases e3 : k - (c + 1) < l.length
        · rw [if_pos e3, if_pos (by simp only [List.length_cons]; omega)]
        · rw [if_neg e3, if_neg (by simp only [List.length_cons]; omega)]
theorem item_val {us r : List Int32} {k : Nat} {v : Int} {s : List Int32} {l : List Mb} {p j : Nat} (hl : us.length ≤ 4096) (hA : asc us) (hw : okL l) (hk : k = 5 ∨ k = 6) (hj : j < 2147483648) (h : us.drop p = bV (k, v, s, ofL l) ++ r) : t_item us (Int32.ofNat p) (Int32.ofNat j) = some (if j < l.length then Int32.ofNat (ip (k == 6) (p + 1) l j) else -1) := by
  unfold t_item
  rw [first_item hl hw hk h, o_bind]
  have hb := box_len hk h
  by_cases e : l = []
  · rw [if_pos e, e, if_neg (by simp)]
    unfold t_item_l
    by_cases e2 : Int32.ofNat j ≤ 0
    · rw [if_pos e2]
    · rw [if_neg e2, if_pos rfl]
  · rw [if_neg e, i_z 0, item_l hl hA (by rcases hk with rfl | rfl <;> simp) hj l 10000 0 (p + 1) hw e (box_in hk h) (by omega) (by omega), Nat.sub_zero]
end Kind111
end

section
/-! Printed strings: compared, counted. -/
section Str112
def escC (n : Nat) (l : List Int32) : Bool := match l with
  | [x] => x == Int32.ofNat n && (x != 34 && x != 92)
  | [a, x] => a == 92 && (x != 117 && sg_meaning x == Int32.ofNat n)
  | [a, b, _, _, x, y] => a == 92 && (b == 117 && sg_hexv x * 16 + sg_hexv y == Int32.ofNat n)
  | _ => false
theorem esc_C : ∀ n, n < 128 → escC n (esc (Int32.ofNat n)) = true := by decide +kernel
theorem drop_nth {us w r : List Int32} {p j : Nat} (hl : us.length ≤ 4096) (h : us.drop p = w ++ r) (hj : j < w.length) : tat us (Int32.ofNat (p + j)) = w[j] := by
  have h1 : us.drop (p + j) = (w ++ r).drop j := by rw [← List.drop_drop, h]
  rw [List.drop_append_of_le_length (by omega), List.drop_eq_getElem_cons hj] at h1
  exact drop_at hl h1
theorem esc_char {us r : List Int32} {c : Int32} {p : Nat} (hl : us.length ≤ 4096) (hc : 0 ≤ c ∧ c ≤ 127) (h : us.drop p = esc c ++ r) : t_width us (Int32.ofNat p) = some (Int32.ofNat (esc c).length) ∧ t_char us (Int32.ofNat p) = some c := by
  obtain ⟨n, hn, rfl⟩ := ch_of hc
  have := esc_C n hn
  generalize esc (Int32.ofNat n) = l at this h
  unfold escC at this
  have h0 : ∀ j, j < l.length → Int32.ofNat p + Int32.ofNat j = Int32.ofNat (p + j) := fun j _ => (Int32.ofNat_add p j).symm
  split at this
  · rename_i x
    simp only [Bool.and_eq_true, beq_iff_eq, bne_iff_ne, ne_eq] at this
    obtain ⟨t1, t2, t3⟩ := this
    have a0 := drop_nth hl h (j := 0) (by simp)
    simp only [Nat.add_zero, List.getElem_cons_zero] at a0
    unfold t_width t_char
    rw [a0, if_neg t3, if_neg t2, if_neg t3, t1]
    exact ⟨rfl, rfl⟩
  · rename_i a x
    simp only [Bool.and_eq_true, beq_iff_eq, bne_iff_ne, ne_eq] at this
    obtain ⟨t1, t2, t3⟩ := this
    have a0 := drop_nth hl h (j := 0) (by simp)
    have a1 := drop_nth hl h (j := 1) (by simp)
    simp only [Nat.add_zero, List.getElem_cons_zero, List.getElem_cons_succ] at a0 a1
    unfold t_width t_char
    rw [a0, t1, i_a1, a1, if_pos rfl, if_neg t2, if_neg (by decide), if_pos rfl, if_neg t2, t3]
    exact ⟨rfl, rfl⟩
  · rename_i a b u w x y
    simp only [Bool.and_eq_true, beq_iff_eq] at this
    obtain ⟨t1, t2, t3⟩ := this
    have a0 := drop_nth hl h (j := 0) (by simp)
    have a1 := drop_nth hl h (j := 1) (by simp)
    have a4 := drop_nth hl h (j := 4) (by simp)
    have a5 := drop_nth hl h (j := 5) (by simp)
    simp only [Nat.add_zero, List.getElem_cons_zero, List.getElem_cons_succ] at a0 a1 a4 a5
    unfold t_width t_char
    rw [show Int32.ofNat p + 4 = Int32.ofNat (p + 4) from (Int32.ofNat_add p 4).symm, show Int32.ofNat p + 5 = Int32.ofNat (p + 5) from (Int32.ofNat_add p 5).symm, a0, t1, i_a1, a1, t2, a4, a5, if_pos rfl, if_pos rfl, if_neg (by decide), if_pos rfl, if_pos rfl, t3]
    exact ⟨rfl, rfl⟩
  · cases this
/-- steps of the comparison -/
def dif : Bool → List Int32 → List Int32 → Bool
  | f, x :: a, y :: b => if x = y then (if x = 34 ∧ f = false then false else dif (x == 92 && !f) a b) else true
  | _, _, _ => false
def run : Bool → List Int32 → Option Bool
  | f, [] => some f
  | f, x :: a => if x = 34 ∧ f = false then none else run (x == 92 && !f) a
def escT : List (List Int32) := (List.range 128).map fun n => esc (Int32.ofNat n)
theorem esc_R : ∀ n, n < 128 → run false (esc (Int32.ofNat n)) = some false := by decide +kernel
theorem esc_D : ((List.range 128).all fun n => (List.range 128).all fun m => n == m || dif false (esc (Int32.ofNat n)) (esc (Int32.ofNat m))) = true := by decide +kernel
theorem esc_dif {c c' : Int32} (h : 0 ≤ c ∧ c ≤ 127) (h' : 0 ≤ c' ∧ c' ≤ 127) (hn : c ≠ c') : dif false (esc c) (esc c') = true := by
  obtain ⟨n, h1, rfl⟩ := ch_of h
  obtain ⟨m, h2, rfl⟩ := ch_of h'
  have := List.all_eq_true.mp (List.all_eq_true.mp esc_D n (List.mem_range.mpr h1)) m (List.mem_range.mpr h2)
  rw [Bool.or_eq_true, beq_iff_eq] at this
  rcases this with e | e
  · exact absurd (by rw [e]) hn
  · exact e
theorem esc_run {c : Int32} (h : 0 ≤ c ∧ c ≤ 127) : run false (esc c) = some false := by
  obtain ⟨n, h1, rfl⟩ := ch_of h
  exact esc_R n h1
def fl (f : Bool) : Int32 := if f then 1 else 0
/-- both have the same sign -/
theorem same_step {us vs A B : List Int32} {x : Int32} {f : Bool} {p q i n : Nat} (hu : us.length ≤ 4096) (hv : vs.length ≤ 4096) (h1 : us.drop (p + i) = x :: A) (h2 : vs.drop (q + i) = x :: B) : t_same_l us vs (n + 1) (Int32.ofNat p) (Int32.ofNat q) (fl f) (Int32.ofNat i) = if x = 34 ∧ f = false then some 1 else t_same_l us vs n (Int32.ofNat p) (Int32.ofNat q) (fl (x == 92 && !f)) (Int32.ofNat (i + 1)) := by
  have l1 := drop_len (w := [x]) h1 (by simp)
  simp only [List.length_cons, List.length_nil] at l1
  have e1 : tat us (Int32.ofNat p + Int32.ofNat i) = x := by rw [← Int32.ofNat_add]; exact drop_at hu h1
  have e2 : tat vs (Int32.ofNat q + Int32.ofNat i) = x := by rw [← Int32.ofNat_add]; exact drop_at hv h2
  have e3 : ¬ (4096 : Int32) ≤ Int32.ofNat i := by
    rw [show (4096 : Int32) = Int32.ofNat 4096 from rfl, i_le' (by omega) (by omega)]; omega
  show (if (4096 : Int32) ≤ Int32.ofNat i then some 0 else _) = _
  rw [if_neg e3, e1, e2, if_pos rfl, i_a1]
  cases f with
  | false =>
    by_cases b1 : x = 34
    · rw [if_pos b1, if_pos (show fl false = 0 from rfl), if_pos ⟨b1, rfl⟩]
    · rw [if_neg b1, if_neg (show ¬ (x = 34 ∧ false = false) from fun e => b1 e.1)]
      by_cases b2 : x = 92
      · rw [if_pos b2, if_pos (show fl false = 0 from rfl), b2]; rfl
      · rw [if_neg b2, show (x == 92 && !false) = false by simp [b2]]; rfl
  | true =>
    rw [show (x == 92 && !true) = false by simp, if_neg (show ¬ (x = 34 ∧ true = false) from fun e => absurd e.2 (by decide))]
    by_cases b1 : x = 34
    · rw [if_pos b1, if_neg (show ¬ fl true = 0 by decide), if_neg (by rw [b1]; decide)]; rfl
    · rw [if_neg b1]
      by_cases b2 : x = 92
      · rw [if_pos b2, if_neg (show ¬ fl true = 0 by decide)]; rfl
      · rw [if_neg b2]; rfl
theorem same_stop {us vs A B : List Int32} {x y : Int32} {f : Bool} {p q i n : Nat} (hu : us.length ≤ 4096) (hv : vs.length ≤ 4096) (h1 : us.drop (p + i) = x :: A) (h2 : vs.drop (q + i) = y :: B) (hn : x ≠ y) : t_same_l us vs (n + 1) (Int32.ofNat p) (Int32.ofNat q) (fl f) (Int32.ofNat i) = some 0 := by
  have l1 := drop_len (w := [x]) h1 (by simp)
  simp only [List.length_cons, List.length_nil] at l1
  have e1 : tat us (Int32.ofNat p + Int32.ofNat i) = x := by rw [← Int32.ofNat_add]; exact drop_at hu h1
  have e2 : tat vs (Int32.ofNat q + Int32.ofNat i) = y := by rw [← Int32.ofNat_add]; exact drop_at hv h2
  have e3 : ¬ (4096 : Int32) ≤ Int32.ofNat i := by
    rw [show (4096 : Int32) = Int32.ofNat 4096 from rfl, i_le' (by omega) (by omega)]; omega
  show (if (4096 : Int32) ≤ Int32.ofNat i then some 0 else _) = _
  rw [if_neg e3, e1, e2, if_neg hn]
theorem same_dif {us vs : List Int32} {p q : Nat} (hu : us.length ≤ 4096) (hv : vs.length ≤ 4096) : ∀ (a b A B : List Int32) (f : Bool) (i n : Nat), dif f a b = true → us.drop (p + i) = a ++ A → vs.drop (q + i) = b ++ B → a.length ≤ n → t_same_l us vs n (Int32.ofNat p) (Int32.ofNat q) (fl f) (Int32.ofNat i) = some 0 := by
  intro a
  induction a with
  | nil => intro b A B f i n h; cases b <;> cases h
  | cons x a ih =>
    intro b A B f i n h h1 h2 hn
    cases b with
    | nil => cases h
    | cons y b =>
      cases n with
      | zero => simp at hn
      | succ n =>
        unfold dif at h
        by_cases e : x = y
        · subst e
          rw [if_pos rfl] at h
          by_cases e2 : x = 34 ∧ f = false
          · rw [if_pos e2] at h; cases h
          · rw [if_neg e2] at h
            rw [same_step hu hv h1 h2, if_neg e2]
            exact ih b A B _ (i + 1) n h (drop_more (w := [x]) h1) (drop_more (w := [x]) h2) (by simp only [List.length_cons] at hn; omega)
        · exact same_stop hu hv h1 h2 e
theorem same_run {us vs : List Int32} {p q : Nat} (hu : us.length ≤ 4096) (hv : vs.length ≤ 4096) : ∀ (a A B : List Int32) (f g : Bool) (i n : Nat), run f a = some g → us.drop (p + i) = a ++ A → vs.drop (q + i) = a ++ B → t_same_l us vs (n + a.length) (Int32.ofNat p) (Int32.ofNat q) (fl f) (Int32.ofNat i) = t_same_l us vs n (Int32.ofNat p) (Int32.ofNat q) (fl g) (Int32.ofNat (i + a.length)) := by
  intro a
  induction a with
  | nil => intro A B f g i n h _ _; cases h; rfl
  | cons x a ih =>
    intro A B f g i n h h1 h2
    unfold run at h
    by_cases e2 : x = 34 ∧ f = false
    · rw [if_pos e2] at h; cases h
    · rw [if_neg e2] at h
      rw [show n + (x :: a).length = (n + a.length) + 1 from rfl, same_step hu hv h1 h2, if_neg e2, ih A B _ g (i + 1) n h (drop_more (w := [x]) h1) (drop_more (w := [x]) h2)]
      simp only [List.length_cons]
      rw [show i + 1 + a.length = i + (a.length + 1) by omega]
theorem esc_hd {c : Int32} (h : 0 ≤ c ∧ c ≤ 127) : ∃ x y, esc c = x :: y ∧ x ≠ 34 := by
  have := esc_run h
  cases hc : esc c with
  | nil =>
    have := (esc_pass h).1 false 0 []
    obtain ⟨n, h1, rfl⟩ := ch_of h
    have := esc_C n h1
    rw [hc] at this
    cases this
  | cons x y =>
    refine ⟨x, y, rfl, fun e => ?_⟩
    rw [hc] at this
    unfold run at this
    rw [if_pos ⟨e, rfl⟩] at this
    cases this
theorem same_chars {us vs r r' : List Int32} {p q : Nat} (hu : us.length ≤ 4096) (hv : vs.length ≤ 4096) : ∀ (s s' : List Int32) (i n : Nat), okS s → okS s' → us.drop (p + i) = s.flatMap esc ++ 34 :: r → vs.drop (q + i) = s'.flatMap esc ++ 34 :: r' → (s.flatMap esc).length + 1 ≤ n → t_same_l us vs n (Int32.ofNat p) (Int32.ofNat q) 0 (Int32.ofNat i) = some (if s = s' then 1 else 0) := by
  intro s
  induction s with
  | nil =>
    intro s' i n _ h2 h3 h4 hn
    cases n with
    | zero => omega
    | succ n =>
      cases s' with
      | nil =>
        rw [show (0 : Int32) = fl false from rfl, same_step hu hv h3 h4, if_pos ⟨rfl, rfl⟩]
        rfl
      | cons c' s' =>
        obtain ⟨x, y, e, hx⟩ := esc_hd (h2 c' List.mem_cons_self)
        rw [List.flatMap_cons, e] at h4
        rw [show (0 : Int32) = fl false from rfl, same_stop hu hv h3 (by simpa using h4) (fun e => hx e.symm)]
        rfl
  | cons c s ih =>
    intro s' i n h1 h2 h3 h4 hn
    rw [List.flatMap_cons, List.append_assoc] at h3
    rw [List.flatMap_cons, List.length_append] at hn
    cases s' with
    | nil =>
      obtain ⟨x, y, e, hx⟩ := esc_hd (h1 c List.mem_cons_self)
      rw [e] at h3 hn
      cases n with
      | zero => omega
      | succ n =>
        rw [show (0 : Int32) = fl false from rfl, same_stop hu hv (by simpa using h3) h4 hx]
        rfl
    | cons c' s' =>
      rw [List.flatMap_cons, List.append_assoc] at h4
      by_cases hc : c = c'
      · subst hc
        obtain ⟨k, rfl⟩ : ∃ k, n = k + (esc c).length := ⟨n - (esc c).length, by omega⟩
        rw [show (0 : Int32) = fl false from rfl, same_run hu hv _ _ _ false false i k (esc_run (h1 c List.mem_cons_self)) h3 h4]
        have := ih s' (i + (esc c).length) k (fun x hx => h1 x (List.mem_cons_of_mem _ hx)) (fun x hx => h2 x (List.mem_cons_of_mem _ hx)) (by rw [← Nat.add_assoc]; exact drop_more h3) (by rw [← Nat.add_assoc]; exact drop_more h4) (by omega)
        rw [show fl false = 0 from rfl, this]
        simp
      · rw [if_neg (by simp [hc])]
        exact same_dif hu hv _ _ _ _ false i n (esc_dif (h1 c List.mem_cons_self) (h2 c' List.mem_cons_self) hc) h3 h4 (by omega)
/-- two printed strings are the same when what they stand for is -/
theorem same_str {us vs r r' s s' : List Int32} {p q : Nat} (hu : us.length ≤ 4096) (hv : vs.length ≤ 4096) (h1 : okS s) (h2 : okS s') (h3 : us.drop p = pstr s ++ r) (h4 : vs.drop q = pstr s' ++ r') : t_same us vs (Int32.ofNat p) (Int32.ofNat q) = some (if s = s' then 1 else 0) := by
  unfold t_same
  have l1 := drop_len h3 (by simp [pstr])
  have e3 := drop_more (w := [34]) (r := s.flatMap esc ++ 34 :: r) (by rw [h3, pstr]; simp)
  have e4 := drop_more (w := [34]) (r := s'.flatMap esc ++ 34 :: r') (by rw [h4, pstr]; simp)
  have : (pstr s).length = (s.flatMap esc).length + 2 := by simp [pstr]
  exact same_chars hu hv s s' 1 10000 h1 h2 e3 e4 (by omega)
end Str112
end

section
/-! Names looked for, bounds looked for, characters counted, numbers read. -/
section Named113
theorem member_str {us r : List Int32} {m : Mb} {l : List Mb} {q : Nat} {z : Int32} (h : us.drop q = jn ((m :: l).map (bM true)) ++ z :: r) : ∃ r', us.drop q = pstr m.1 ++ 58 :: r' := by
  rw [jn_cons] at h
  unfold bM at h
  simp only [if_true, List.append_assoc] at h
  exact ⟨_, h⟩
theorem named_l {us vs r r' s : List Int32} {z : Int32} {p : Int32} {q2 : Nat} (hl : us.length ≤ 4096) (hA : asc us) (hv : vs.length ≤ 4096) (hs : okS s) (h2 : vs.drop q2 = pstr s ++ r') (hz : z = 93 ∨ z = 125) : ∀ (l : List Mb) (n c q : Nat), okL l → l ≠ [] → us.drop q = jn (l.map (bM true)) ++ z :: r → l.length < n → c ≤ q → t_named_l us vs n p (Int32.ofNat q2) (Int32.ofNat q) (Int32.ofNat c) = some (if l.findIdx (fun m => m.1 == s) < l.length then Int32.ofNat (ip true q l (l.findIdx (fun m => m.1 == s))) else -1) := by
  intro l
  induction l with
  | nil => intro n c q _ h; exact absurd rfl h
  | cons m l ih =>
    intro n c q hw _ h hn hc
    obtain ⟨n1, -, n2, n3⟩ := nx hl hA (hw m List.mem_cons_self) hz h
    obtain ⟨r'', hm⟩ := member_str h
    cases n with
    | zero => omega
    | succ n =>
      unfold t_named_l
      rw [if_neg (by rw [i_le' (by omega) (by omega)]; omega), if_neg (i_ne1 (by omega)), same_str hl hv (hw m List.mem_cons_self).1 hs hm h2, o_bind]
      by_cases e : m.1 = s
      · rw [if_pos e, if_neg (by decide)]
        have : (m :: l).findIdx (fun m => m.1 == s) = 0 := by rw [List.findIdx_cons]; simp [e]
        rw [this, ip_0, if_pos (by simp)]
      · rw [if_neg e, if_pos rfl, n2, o_bind, i_a1]
        have ef : (m :: l).findIdx (fun m => m.1 == s) = l.findIdx (fun m => m.1 == s) + 1 := by
          rw [List.findIdx_cons, show (m.1 == s) = false by simp [e]]; rfl
        rw [ef]
        by_cases en : l = []
        · rw [if_pos en, en]
          simp only [List.length_cons, List.length_nil] at hn
          cases n with
          | zero => omega
          | succ n =>
            unfold t_named_l
            rw [if_neg (show ¬ List.findIdx (fun m => m.1 == s) ([] : List Mb) + 1 < [m].length by simp)]
            by_cases e3 : Int32.ofNat us.length ≤ Int32.ofNat (c + 1)
            · rw [if_pos e3]
            · rw [if_neg e3, if_pos rfl]
        · rw [if_neg en, ih n (c + 1) _ hw.tail en (n3 en) (by simp only [List.length_cons] at hn; omega) (by omega), ip_s]
          congr 1
          by_cases e3 : l.findIdx (fun m => m.1 == s) < l.length
          · rw [if_pos e3, if_pos (by simp only [List.length_cons]; omega)]
          · rw [if_neg e3, if_neg (by simp only [List.length_cons]; omega)]
/-- the member of a name -/
theorem named_val {us vs r r' s : List Int32} {v : Int} {s0 : List Int32} {l : List Mb} {p q2 : Nat} (hl : us.length ≤ 4096) (hA : asc us) (hv : vs.length ≤ 4096) (hw : okL l) (hs : okS s) (h2 : vs.drop q2 = pstr s ++ r') (h : us.drop p = bV (6, v, s0, ofL l) ++ r) : t_named us vs (Int32.ofNat p) (Int32.ofNat q2) = some (if l.findIdx (fun m => m.1 == s) < l.length then Int32.ofNat (ip true (p + 1) l (l.findIdx (fun m => m.1 == s))) else -1) := by
  unfold t_named
  rw [first_item hl hw (Or.inr rfl) h, o_bind]
  have hb := box_len (Or.inr rfl) h
  by_cases e : l = []
  · rw [if_pos e, e]
    unfold t_named_l
    rw [if_neg (by rw [i_z 0, i_le' (by omega) (by omega)]; omega), if_pos rfl]
    simp
  · rw [if_neg e, i_z 0]
    exact named_l hl hA hv hs h2 (by simp) l 10000 0 (p + 1) hw e (box_in (Or.inr rfl) h) (by omega) (by omega)
/-- a beginning -/
theorem begins_l {us bs : List Int32} {p : Nat} (hl : us.length ≤ 4096) (hp : p ≤ us.length) (hb : bs.length ≤ 100) : ∀ (n i : Nat), bs.length < n + i → i ≤ bs.length → (∀ u ∈ bs, u ≠ -1) → t_begins_l us bs n (Int32.ofNat p) (Int32.ofNat i) = some (if (bs.drop i) <+: us.drop (p + i) then 1 else 0) := by
  intro n
  induction n with
  | zero => intro i h1 h2; omega
  | succ n ih =>
    intro i h1 h2 h3
    unfold t_begins_l
    by_cases e : i = bs.length
    · rw [if_pos ((i_le' (by omega) (by omega)).mpr (by omega)), List.drop_of_length_le (by omega), if_pos (List.nil_prefix)]
    · have hi : i < bs.length := by omega
      have es : sch bs (Int32.ofNat i) = some bs[i] := by
        unfold sch
        rw [if_neg (i_nn (by omega)), i_cl (by omega), List.getElem?_eq_getElem hi]
      rw [if_neg (by rw [i_le' (by omega) (by omega)]; omega), es, o_bind, ← Int32.ofNat_add, i_a1, List.drop_eq_getElem_cons hi]
      by_cases hq : p + i < us.length
      · rw [tat_in hl hq, List.drop_eq_getElem_cons hq]
        by_cases ex : us[p + i] = bs[i]
        · rw [if_pos ex, ih (i + 1) (by omega) (by omega) h3, ex, show p + (i + 1) = p + i + 1 by omega]
          congr 1
          by_cases e3 : (bs.drop (i + 1)) <+: us.drop (p + i + 1)
          · rw [if_pos e3, if_pos ((List.prefix_cons_inj _).mpr e3)]
          · rw [if_neg e3, if_neg (fun e => e3 ((List.prefix_cons_inj _).mp e))]
        · rw [if_neg ex, if_neg (fun e => ex (List.cons_prefix_cons.mp e).1.symm)]
      · rw [tat_out hl (by omega) (by omega), if_neg (fun e => h3 _ (List.getElem_mem hi) e.symm), List.drop_of_length_le (show us.length ≤ p + i by omega), if_neg (fun e => by have := List.prefix_nil.mp e; cases this)]
theorem begins_val {us bs : List Int32} {p : Nat} (hl : us.length ≤ 4096) (hp : p ≤ us.length) (hb : bs.length ≤ 100) (h3 : ∀ u ∈ bs, u ≠ -1) : t_begins us bs (Int32.ofNat p) = some (if bs <+: us.drop p then 1 else 0) := by
  have := begins_l hl hp hb 10000 0 (by omega) (by omega) h3
  rw [List.drop_zero, Nat.add_zero] at this
  exact this
/-- a printed string begins another only if they are the same -/
theorem pre_dif : ∀ (a b A B : List Int32) (f : Bool), dif f a b = true → ¬ (a ++ A) <+: (b ++ B) := by
  intro a
  induction a with
  | nil => intro b A B f h; cases b <;> cases h
  | cons x a ih =>
    intro b A B f h
    cases b with
    | nil => cases h
    | cons y b =>
      unfold dif at h
      intro hp
      have hp := List.cons_prefix_cons.mp hp
      rw [if_pos hp.1] at h
      split at h
      · cases h
      · exact ih b A B _ h hp.2
theorem pre_str : ∀ (s s' r r' : List Int32), okS s → okS s' → ((s.flatMap esc ++ 34 :: r) <+: (s'.flatMap esc ++ 34 :: r')) → s = s' := by
  intro s
  induction s with
  | nil =>
    intro s' r r' _ h2 hp
    cases s' with
    | nil => rfl
    | cons c' s' =>
      obtain ⟨x, y, e, hx⟩ := esc_hd (h2 c' List.mem_cons_self)
      rw [List.flatMap_cons, e] at hp
      exact absurd (List.cons_prefix_cons.mp hp).1.symm hx
  | cons c s ih =>
    intro s' r r' h1 h2 hp
    rw [List.flatMap_cons, List.append_assoc] at hp
    cases s' with
    | nil =>
      obtain ⟨x, y, e, hx⟩ := esc_hd (h1 c List.mem_cons_self)
      rw [e] at hp
      exact absurd (List.cons_prefix_cons.mp hp).1 hx
    | cons c' s' =>
      rw [List.flatMap_cons, List.append_assoc] at hp
      by_cases hc : c = c'
      · subst hc
        rw [ih s' r r' (fun x hx => h1 x (List.mem_cons_of_mem _ hx)) (fun x hx => h2 x (List.mem_cons_of_mem _ hx)) ((List.prefix_append_right_inj _).mp hp)]
      · exact absurd hp (pre_dif _ _ _ _ false (esc_dif (h1 c List.mem_cons_self) (h2 c' List.mem_cons_self) hc))
theorem pre_pstr {s s' r' : List Int32} (h1 : okS s) (h2 : okS s') : pstr s <+: (pstr s' ++ r') ↔ s = s' := by
  constructor
  · intro hp
    unfold pstr at hp
    rw [List.cons_append, List.cons_prefix_cons, List.append_assoc] at hp
    exact pre_str s s' [] r' h1 h2 hp.2
  · intro e
    rw [e]
    exact List.prefix_append _ _
theorem itemBy_l {us bs r s : List Int32} {z : Int32} {p : Int32} (hl : us.length ≤ 4096) (hA : asc us) (hs : okS s) (hbs : bs = pstr s) (hb : bs.length ≤ 100) (h3 : ∀ u ∈ bs, u ≠ -1) (hz : z = 93 ∨ z = 125) : ∀ (l : List Mb) (n c q : Nat), okL l → l ≠ [] → us.drop q = jn (l.map (bM true)) ++ z :: r → l.length < n → c ≤ q → t_itemBy_l us bs n p (Int32.ofNat q) (Int32.ofNat c) = some (if l.findIdx (fun m => m.1 == s) < l.length then Int32.ofNat (ip true q l (l.findIdx (fun m => m.1 == s))) else -1) := by
  intro l
  induction l with
  | nil => intro n c q _ h; exact absurd rfl h
  | cons m l ih =>
    intro n c q hw _ h hn hc
    obtain ⟨n1, -, n2, n3⟩ := nx hl hA (hw m List.mem_cons_self) hz h
    obtain ⟨r'', hm⟩ := member_str h
    cases n with
    | zero => omega
    | succ n =>
      unfold t_itemBy_l
      rw [if_neg (by rw [i_le' (by omega) (by omega)]; omega), if_neg (i_ne1 (by omega)), begins_val hl (by omega) hb h3, o_bind, hm, hbs]
      by_cases e : m.1 = s
      · rw [if_pos ((pre_pstr hs (hw m List.mem_cons_self).1).mpr e.symm), if_neg (by decide)]
        have : (m :: l).findIdx (fun m => m.1 == s) = 0 := by rw [List.findIdx_cons]; simp [e]
        rw [this, ip_0, if_pos (by simp)]
      · rw [if_neg (fun e2 => e ((pre_pstr hs (hw m List.mem_cons_self).1).mp e2).symm), if_pos rfl, n2, o_bind, i_a1, ← hbs]
        have ef : (m :: l).findIdx (fun m => m.1 == s) = l.findIdx (fun m => m.1 == s) + 1 := by
          rw [List.findIdx_cons, show (m.1 == s) = false by simp [e]]; rfl
        rw [ef]
        by_cases en : l = []
        · rw [if_pos en, en]
          simp only [List.length_cons, List.length_nil] at hn
          cases n with
          | zero => omega
          | succ n =>
            unfold t_itemBy_l
            rw [if_neg (show ¬ List.findIdx (fun m => m.1 == s) ([] : List Mb) + 1 < [m].length by simp)]
            by_cases e3 : Int32.ofNat us.length ≤ Int32.ofNat (c + 1)
            · rw [if_pos e3]
            · rw [if_neg e3, if_pos rfl]
        · rw [if_neg en, ih n (c + 1) _ hw.tail en (n3 en) (by simp only [List.length_cons] at hn; omega) (by omega), ip_s]
          congr 1
          by_cases e3 : l.findIdx (fun m => m.1 == s) < l.length
          · rw [if_pos e3, if_pos (by simp only [List.length_cons]; omega)]
          · rw [if_neg e3, if_neg (by simp only [List.length_cons]; omega)]
theorem itemBy_val {us bs r s : List Int32} {v : Int} {s0 : List Int32} {l : List Mb} {p : Nat} (hl : us.length ≤ 4096) (hA : asc us) (hw : okL l) (hs : okS s) (hbs : bs = pstr s) (hb : bs.length ≤ 100) (h3 : ∀ u ∈ bs, u ≠ -1) (h : us.drop p = bV (6, v, s0, ofL l) ++ r) : t_itemBy us bs (Int32.ofNat p) = some (if l.findIdx (fun m => m.1 == s) < l.length then Int32.ofNat (ip true (p + 1) l (l.findIdx (fun m => m.1 == s))) else -1) := by
  unfold t_itemBy
  rw [first_item hl hw (Or.inr rfl) h, o_bind]
  have hb' := box_len (Or.inr rfl) h
  by_cases e : l = []
  · rw [if_pos e, e]
    unfold t_itemBy_l
    rw [if_neg (by rw [i_z 0, i_le' (by omega) (by omega)]; omega), if_pos rfl]
    simp
  · rw [if_neg e, i_z 0]
    exact itemBy_l hl hA hs hbs hb h3 (by simp) l 10000 0 (p + 1) hw e (box_in (Or.inr rfl) h) (by omega) (by omega)
end Named113
end

section
/-! Characters counted, numbers read, depth. -/
section Num114
theorem chars_l {us r : List Int32} {p : Int32} (hl : us.length ≤ 4096) : ∀ (s : List Int32) (n c i : Nat), okS s → us.drop i = s.flatMap esc ++ 34 :: r → s.length < n → t_chars_l us n p (Int32.ofNat c) (Int32.ofNat i) = some (Int32.ofNat (c + s.length)) := by
  intro s
  induction s with
  | nil =>
    intro n c i _ h hn
    cases n with
    | zero => omega
    | succ n =>
      have l1 := drop_len (w := [34]) h (by simp)
      simp only [List.length_cons, List.length_nil] at l1
      unfold t_chars_l
      rw [if_neg (by rw [i_le' (by omega) (by omega)]; omega), drop_at hl h, if_pos rfl]
      rfl
  | cons ch s ih =>
    intro n c i hs h hn
    cases n with
    | zero => omega
    | succ n =>
      rw [List.flatMap_cons, List.append_assoc] at h
      obtain ⟨x, y, e, hx⟩ := esc_hd (hs ch List.mem_cons_self)
      have l1 := drop_len h (by rw [e]; simp)
      have h' := h
      rw [e] at h'
      have l2 : 0 < (esc ch).length := by rw [e]; simp
      unfold t_chars_l
      rw [if_neg (by rw [i_le' (by omega) (by omega)]; omega), drop_at hl (by simpa using h'), if_neg hx, (esc_char hl (hs ch List.mem_cons_self) h).1, o_bind, i_a1, ← Int32.ofNat_add, ih n (c + 1) (i + (esc ch).length) (fun x hx => hs x (List.mem_cons_of_mem _ hx)) (drop_more h) (by simp only [List.length_cons] at hn; omega)]
      simp only [List.length_cons]
      congr 2; omega
theorem flat_len {s : List Int32} (hs : okS s) : s.length ≤ (s.flatMap esc).length := by
  induction s with
  | nil => simp
  | cons c s ih =>
    obtain ⟨x, y, e, hx⟩ := esc_hd (hs c List.mem_cons_self)
    have := ih fun x hx => hs x (List.mem_cons_of_mem _ hx)
    rw [List.flatMap_cons, List.length_append, e]
    simp only [List.length_cons]; omega
theorem chars_val {us r s : List Int32} {p : Nat} (hl : us.length ≤ 4096) (hs : okS s) (h : us.drop p = pstr s ++ r) : t_chars us (Int32.ofNat p) = some (Int32.ofNat s.length) := by
  unfold t_chars
  have l1 := drop_len h (by simp [pstr])
  have l2 : (pstr s).length = (s.flatMap esc).length + 2 := by simp [pstr]
  have l3 := flat_len hs
  have e3 := drop_more (w := [34]) (r := s.flatMap esc ++ 34 :: r) (by rw [h, pstr]; simp)
  have := chars_l (p := Int32.ofNat p) hl s 10000 0 (p + 1) hs e3 (by omega)
  rw [i_a1]
  rw [Nat.zero_add] at this
  exact this
theorem charPlace_l {us r : List Int32} {p : Int32} {k : Nat} (hl : us.length ≤ 4096) (hk : k < 2147483648) : ∀ (s : List Int32) (n j i : Nat), okS s → us.drop i = s.flatMap esc ++ 34 :: r → j ≤ k → k - j ≤ s.length → k < n + j → t_charPlace_l us n p (Int32.ofNat k) (Int32.ofNat i) (Int32.ofNat j) = some (Int32.ofNat (i + ((s.take (k - j)).flatMap esc).length)) := by
  intro s
  induction s with
  | nil =>
    intro n j i _ h h1 h2 hn
    simp only [List.length_nil] at h2
    cases n with
    | zero => omega
    | succ n =>
      unfold t_charPlace_l
      rw [if_pos ((i_le' hk (by omega)).mpr (by omega))]
      simp
  | cons ch s ih =>
    intro n j i hs h h1 h2 hn
    cases n with
    | zero => omega
    | succ n =>
      unfold t_charPlace_l
      by_cases e0 : k ≤ j
      · rw [if_pos ((i_le' hk (by omega)).mpr e0), show k - j = 0 by omega]
        simp
      · rw [if_neg (by rw [i_le' hk (by omega)]; omega)]
        rw [List.flatMap_cons, List.append_assoc] at h
        rw [(esc_char hl (hs ch List.mem_cons_self) h).1, o_bind, i_a1, ← Int32.ofNat_add, ih n (j + 1) (i + (esc ch).length) (fun x hx => hs x (List.mem_cons_of_mem _ hx)) (drop_more h) (by omega) (by simp only [List.length_cons] at h2; omega) (by omega)]
        rw [show k - j = (k - (j + 1)) + 1 by omega, List.take_succ_cons, List.flatMap_cons, List.length_append]
        congr 2; omega
theorem charPlace_val {us r s : List Int32} {p k : Nat} (hl : us.length ≤ 4096) (hs : okS s) (h : us.drop p = pstr s ++ r) (hk : k ≤ s.length) : t_charPlace us (Int32.ofNat p) (Int32.ofNat k) = some (Int32.ofNat (p + 1 + ((s.take k).flatMap esc).length)) := by
  unfold t_charPlace
  have l1 := drop_len h (by simp [pstr])
  have l2 : (pstr s).length = (s.flatMap esc).length + 2 := by simp [pstr]
  have l3 := flat_len hs
  have e3 := drop_more (w := [34]) (r := s.flatMap esc ++ 34 :: r) (by rw [h, pstr]; simp)
  have := charPlace_l (p := Int32.ofNat p) (k := k) hl (by omega) s 10000 0 (p + 1) hs e3 (by omega) (by omega) (by omega)
  rw [i_a1]
  rw [Nat.sub_zero] at this
  exact this
/-- digits read -/
theorem dig_v : ∀ d, d < 10 → sg_digit (Int32.ofNat (48 + d)) = 1 ∧ (Int32.ofNat (48 + d) - 48).toInt64 = Int64.ofNat d := by decide +kernel
theorem num_step {us A : List Int32} {p g : Int32} {a d i n : Nat} (hl : us.length ≤ 4096) (hd : d < 10) (h : us.drop i = Int32.ofNat (48 + d) :: A) : t_number_l us (n + 1) p g (Int64.ofNat a) (Int32.ofNat i) = t_number_l us n p g (Int64.ofNat (a * 10 + d)) (Int32.ofNat (i + 1)) := by
  have l1 := drop_len (w := [Int32.ofNat (48 + d)]) h (by simp)
  simp only [List.length_cons, List.length_nil] at l1
  obtain ⟨e1, e2⟩ := dig_v d hd
  show (if Int32.ofNat us.length ≤ Int32.ofNat i then _ else _) = _
  rw [if_neg (by rw [i_le' (by omega) (by omega)]; omega), drop_at hl h, e1, if_neg (by decide), e2, i_a1, Int64.ofNat_add, Int64.ofNat_mul]
  rfl
theorem num_digs {us : List Int32} {p g : Int32} (hl : us.length ≤ 4096) : ∀ (k v a i n : Nat) (A : List Int32), v < 10 ^ k → us.drop i = digF k v ++ A → t_number_l us (n + (digF k v).length) p g (Int64.ofNat a) (Int32.ofNat i) = t_number_l us n p g (Int64.ofNat (a * 10 ^ (digF k v).length + v)) (Int32.ofNat (i + (digF k v).length)) := by
  intro k
  induction k with
  | zero => intro v a i n A hv h; simp only [Nat.pow_zero] at hv; rw [show v = 0 by omega]; simp [digF]
  | succ k ih =>
    intro v a i n A hv h
    by_cases h10 : v < 10
    · have e : digF (k + 1) v = [Int32.ofNat (48 + v)] := by unfold digF; rw [if_pos h10]
      rw [e] at h ⊢
      simp only [List.length_cons, List.length_nil, Nat.zero_add, Nat.pow_one]
      exact num_step hl h10 h
    · have e : digF (k + 1) v = digF k (v / 10) ++ [Int32.ofNat (48 + v % 10)] := by
        show (if v < 10 then _ else _) = _
        rw [if_neg h10]
      rw [e, List.append_assoc] at h
      rw [e, List.length_append]
      simp only [List.length_cons, List.length_nil, Nat.zero_add]
      rw [show n + ((digF k (v / 10)).length + 1) = (n + 1) + (digF k (v / 10)).length by omega, ih (v / 10) a i (n + 1) _ (by rw [Nat.pow_succ] at hv; omega) h, num_step hl (Nat.mod_lt v (by decide)) (drop_more h)]
      congr 2
      rw [Nat.pow_succ, Nat.add_mul, Nat.mul_assoc]
      omega
theorem num_stop {us A : List Int32} {p g : Int32} {x : Int64} {i n : Nat} (hl : us.length ≤ 4096) (hb : i < 2147483648) (h : us.drop i = [] ∨ ∃ z A, us.drop i = z :: A ∧ sg_digit z = 0) : t_number_l us (n + 1) p g x (Int32.ofNat i) = if g = 0 then some x else some (-x) := by
  show (if Int32.ofNat us.length ≤ Int32.ofNat i then _ else _) = _
  by_cases e : Int32.ofNat us.length ≤ Int32.ofNat i
  · rw [if_pos e]
  · rw [if_neg e]
    rcases h with h | ⟨z, A, h, hz⟩
    · exfalso
      rw [i_le' (by omega) hb] at e
      have := congrArg List.length h
      rw [List.length_drop, List.length_nil] at this
      omega
    · rw [drop_at hl h, hz, if_pos rfl]
theorem digF_mem : ∀ n v, ∀ x ∈ digF n v, ∃ k, k < 10 ∧ x = Int32.ofNat (48 + k) := by
  intro n
  induction n with
  | zero => intro v x hx; cases hx
  | succ n ih =>
    intro v x hx
    unfold digF at hx
    split at hx
    · exact ⟨v, by assumption, List.mem_singleton.mp hx⟩
    · rcases List.mem_append.mp hx with hx | hx
      · exact ih _ x hx
      · exact ⟨v % 10, Nat.mod_lt _ (by decide), List.mem_singleton.mp hx⟩
theorem dig_45 : ∀ k, k < 10 → ¬ Int32.ofNat (48 + k) = 45 := by decide +kernel
theorem l_nat (n : Nat) : Int64.ofNat n = Int64.ofInt (n : Int) := Int64.ofInt_eq_ofNat.symm
theorem pow20 : (9007199254740991 : Nat) < 10 ^ 20 := by decide
theorem number_val {us r : List Int32} {v : Int} {p : Nat} (hl : us.length ≤ 4096) (hv : -9007199254740991 ≤ v ∧ v ≤ 9007199254740991) (h : us.drop p = pnum v ++ r) (hr : r = [] ∨ ∃ z A, r = z :: A ∧ sg_digit z = 0) : t_number us (Int32.ofNat p) = some (Int64.ofInt v) := by
  have lt : v.natAbs < 10 ^ 20 := by have := pow20; omega
  have l1 := drop_len h (by unfold pnum; intro e; rw [List.append_eq_nil_iff] at e; obtain ⟨x, y, e2, -⟩ := digF_hd 19 v.natAbs; rw [e2] at e; cases e.2)
  unfold t_number
  have ll : (digF 20 v.natAbs).length ≤ (pnum v).length := by unfold pnum; rw [List.length_append]; omega
  by_cases hn : v < 0
  · have e : pnum v = 45 :: digF 20 v.natAbs := by unfold pnum; rw [if_pos hn]; rfl
    rw [e] at h
    have h0 : tat us (Int32.ofNat p) = 45 := drop_at hl h
    have h1 := drop_more (w := [45]) (by simpa using h)
    simp only [List.length_cons, List.length_nil] at h1
    rw [h0, if_pos rfl, i_a1]
    obtain ⟨k, hk⟩ : ∃ k, 10000 = (k + 1) + (digF 20 v.natAbs).length := ⟨10000 - (digF 20 v.natAbs).length - 1, by omega⟩
    rw [hk, show (0 : Int64) = Int64.ofNat 0 from rfl, num_digs hl 20 v.natAbs 0 (p + (0 + 1)) (k + 1) r lt h1, num_stop (A := []) hl (by rw [e, List.length_cons] at l1; omega) (by rw [drop_more h1]; exact hr), if_neg (by decide), Nat.zero_mul, Nat.zero_add]
    congr 1
    rw [show v = -(v.natAbs : Int) by omega, Int64.ofInt_neg]
    simp
    exact l_nat _
  · have e : pnum v = digF 20 v.natAbs := by unfold pnum; rw [if_neg hn]; rfl
    rw [e] at h
    obtain ⟨x, y, e2, h3, -⟩ := digF_hd 19 v.natAbs
    obtain ⟨k, hk, rfl⟩ := digF_mem 20 v.natAbs x (by rw [e2]; exact List.mem_cons_self)
    have h0 : tat us (Int32.ofNat p) = Int32.ofNat (48 + k) := drop_at (r := y ++ r) hl (by rw [h, e2]; rfl)
    rw [h0, if_neg (dig_45 k hk)]
    obtain ⟨k, hk⟩ : ∃ k, 10000 = (k + 1) + (digF 20 v.natAbs).length := ⟨10000 - (digF 20 v.natAbs).length - 1, by omega⟩
    rw [hk, show (0 : Int64) = Int64.ofNat 0 from rfl, num_digs hl 20 v.natAbs 0 p (k + 1) r lt h, num_stop (A := []) hl (by omega) (by rw [drop_more h]; exact hr), if_pos rfl, Nat.zero_mul, Nat.zero_add]
    congr 1
    rw [show v = (v.natAbs : Int) by omega]
    simp
    exact l_nat _
end Num114
end

section
/-! Depth, read from the bytes. -/
section Depth115
def dl : Int → Int → Nat → List Int32 → Int
  | _, m, _, [] => m
  | o, m, q, b :: l => if q = 2 then dl o m 1 l else if q = 1 then (if b = 34 then dl o m 0 l else if b = 92 then dl o m 2 l else dl o m 1 l) else if b = 34 then dl o m 1 l else if b = 91 ∨ b = 123 then dl (o + 1) (max m (o + 1)) 0 l else if b = 93 ∨ b = 125 then dl (o - 1) m 0 l else dl o m 0 l
theorem dl_n (o m : Int) (q : Nat) : dl o m q [] = m := by unfold dl; rfl
theorem dl_0 (o m : Int) (b : Int32) (l : List Int32) : dl o m 0 (b :: l) = if b = 34 then dl o m 1 l else if b = 91 ∨ b = 123 then dl (o + 1) (max m (o + 1)) 0 l else if b = 93 ∨ b = 125 then dl (o - 1) m 0 l else dl o m 0 l := rfl
theorem dl_1 (o m : Int) (b : Int32) (l : List Int32) : dl o m 1 (b :: l) = if b = 34 then dl o m 0 l else if b = 92 then dl o m 2 l else dl o m 1 l := rfl
theorem dl_2 (o m : Int) (b : Int32) (l : List Int32) : dl o m 2 (b :: l) = dl o m 1 l := rfl
theorem o_a1 (o : Int) : Int32.ofInt o + 1 = Int32.ofInt (o + 1) := by rw [Int32.ofInt_add]; rfl
theorem o_s1 (o : Int) : Int32.ofInt o + (-1) = Int32.ofInt (o - 1) := by
  rw [Int.sub_eq_add_neg, Int32.ofInt_add]; rfl
theorem o_max {a b : Int} (ha : -10000 ≤ a ∧ a ≤ 10000) (hb : -10000 ≤ b ∧ b ≤ 10000) : imax (Int32.ofInt a) (Int32.ofInt b) = Int32.ofInt (max a b) := by
  apply Int32.toInt_inj.mp
  rw [i_max, i_ofInt (by omega) (by omega), i_ofInt (by omega) (by omega), i_ofInt (by omega) (by omega)]
theorem dep_past {us : List Int32} {a b z : Int32} {n p : Nat} (hl : us.length ≤ 4096) (hp : us.length ≤ p) (hb : p < 2147483648) : t_depth_l us (n + 1) a b z (Int32.ofNat p) = some b := by
  show (if Int32.ofNat us.length ≤ Int32.ofNat p then _ else _) = _
  rw [if_pos ((i_le' (by omega) hb).mpr hp)]
theorem dep_dl {us : List Int32} (hl : us.length ≤ 4096) (hA : asc us) : ∀ (n : Nat) (o m : Int) (q p : Nat), us.length < n + p → p ≤ us.length → -(p : Int) ≤ o ∧ o ≤ p → -(p : Int) ≤ m ∧ m ≤ p → (q = 0 ∨ q = 1) → t_depth_l us n (Int32.ofInt o) (Int32.ofInt m) (Int32.ofNat q) (Int32.ofNat p) = some (Int32.ofInt (dl o m q (us.drop p))) := by
  intro n
  induction n using Nat.strongRecOn with
  | ind n ih =>
    intro o m q p hn hp ho hm hq
    cases n with
    | zero => omega
    | succ n =>
      by_cases he : p = us.length
      · rw [dep_past hl (by omega) (by omega), List.drop_of_length_le (by omega), dl_n]
      have hp' : p < us.length := by omega
      rw [List.drop_eq_getElem_cons hp']
      show (if Int32.ofNat us.length ≤ Int32.ofNat p then _ else _) = _
      rw [if_neg (by rw [i_le' (by omega) (by omega)]; omega), asc_at hl hA hp', o_bind]
      generalize us[p] = b
      have ih1 : ∀ (o' m' : Int) q', -((p : Int) + 1) ≤ o' ∧ o' ≤ p + 1 → -((p : Int) + 1) ≤ m' ∧ m' ≤ p + 1 → (q' = 0 ∨ q' = 1) → t_depth_l us n (Int32.ofInt o') (Int32.ofInt m') (Int32.ofNat q') (Int32.ofNat p + 1) = some (Int32.ofInt (dl o' m' q' (us.drop (p + 1)))) := by
        intro o' m' q' h1 h2 h3
        rw [i_a1]
        exact ih n (by omega) o' m' q' (p + 1) (by omega) (by omega) (by omega) (by omega) h3
      rcases hq with rfl | rfl
      · rw [if_pos (show Int32.ofNat 0 = 0 from rfl), dl_0]
        by_cases b1 : b = 34
        · rw [if_pos b1, if_pos b1]; exact ih1 o m 1 (by omega) (by omega) (Or.inr rfl)
        rw [if_neg b1, if_neg b1]
        by_cases b2 : b = 91
        · rw [if_pos b2, if_pos (Or.inl b2), o_a1, o_max (by omega) (by omega)]; exact ih1 (o + 1) (max m (o + 1)) 0 (by omega) (by omega) (Or.inl rfl)
        rw [if_neg b2]
        by_cases b3 : b = 123
        · rw [if_pos b3, if_pos (Or.inr b3), o_a1, o_max (by omega) (by omega)]; exact ih1 (o + 1) (max m (o + 1)) 0 (by omega) (by omega) (Or.inl rfl)
        rw [if_neg b3, if_neg (show ¬ (b = 91 ∨ b = 123) from fun e => e.elim b2 b3)]
        by_cases b5 : b = 93
        · rw [if_pos b5, if_pos (Or.inl b5), o_s1]; exact ih1 (o - 1) m 0 (by omega) (by omega) (Or.inl rfl)
        rw [if_neg b5]
        by_cases b6 : b = 125
        · rw [if_pos b6, if_pos (Or.inr b6), o_s1]; exact ih1 (o - 1) m 0 (by omega) (by omega) (Or.inl rfl)
        rw [if_neg b6, if_neg (show ¬ (b = 93 ∨ b = 125) from fun e => e.elim b5 b6)]
        exact ih1 o m 0 (by omega) (by omega) (Or.inl rfl)
      · rw [if_neg (show ¬ Int32.ofNat 1 = 0 by decide), dl_1]
        by_cases b1 : b = 34
        · rw [if_pos b1, if_neg (by rw [b1]; decide), if_pos b1]; exact ih1 o m 0 (by omega) (by omega) (Or.inl rfl)
        rw [if_neg b1, if_neg b1]
        by_cases b2 : b = 92
        · rw [if_pos b2, if_pos b2, i_a1, i_a1]
          by_cases h2 : p + 1 = us.length
          · cases n with
            | zero => omega
            | succ n => rw [dep_past hl (by omega) (by omega), List.drop_of_length_le (by omega), dl_n]
          · rw [List.drop_eq_getElem_cons (show p + 1 < us.length by omega), dl_2]
            exact ih n (by omega) o m 1 (p + 1 + 1) (by omega) (by omega) (by omega) (by omega) (Or.inr rfl)
        · rw [if_neg b2, if_neg b2]; exact ih1 o m 1 (by omega) (by omega) (Or.inr rfl)
def D1 (w : List Int32) : Prop := ∀ o m r, dl o m 1 (w ++ r) = dl o m 1 r
def D0 (w : List Int32) (d : Nat) : Prop := ∀ o m r, o ≤ m → dl o m 0 (w ++ r) = dl o (max m (o + d)) 0 r
theorem D1.app {a b : List Int32} (ha : D1 a) (hb : D1 b) : D1 (a ++ b) := fun o m r => by rw [List.append_assoc, ha, hb]
theorem d1_in {x : Int32} (h1 : x ≠ 34) (h2 : x ≠ 92) : D1 [x] := fun o m r => by
  show dl o m 1 (x :: r) = _
  rw [dl_1, if_neg h1, if_neg h2]
theorem escB_d : ∀ l, escB l = true → D1 l := by
  intro l h
  unfold escB at h
  split at h
  · simp only [Bool.and_eq_true, bne_iff_ne, ne_eq] at h
    exact d1_in h.1 h.2
  · simp only [beq_iff_eq] at h
    intro o m r
    rw [h]
    show dl o m 1 (92 :: _ :: r) = _
    rw [dl_1, if_neg (by decide), if_pos rfl, dl_2]
  · simp only [Bool.and_eq_true, bne_iff_ne, ne_eq, beq_iff_eq] at h
    obtain ⟨h0, h1, h2, h3, h4⟩ := h
    intro o m r
    rw [h0]
    show dl o m 1 (92 :: _ :: _) = _
    rw [dl_1, if_neg (by decide), if_pos rfl, dl_2]
    exact (((d1_in h1.1 h1.2).app (d1_in h2.1 h2.2)).app (d1_in h3.1 h3.2)).app (d1_in h4.1 h4.2) o m r
  · cases h
theorem flat_d {s : List Int32} (h : okS s) : D1 (s.flatMap esc) := by
  induction s with
  | nil => exact fun o m r => rfl
  | cons c s ih =>
    rw [List.flatMap_cons]
    obtain ⟨n, hn, rfl⟩ := ch_of (h c List.mem_cons_self)
    have := esc_B n hn
    rw [Bool.and_eq_true] at this
    exact (escB_d _ this.1).app (ih fun x hx => h x (List.mem_cons_of_mem _ hx))
theorem D0.app {a b : List Int32} {d e : Nat} (ha : D0 a d) (hb : D0 b e) : D0 (a ++ b) (max d e) := fun o m r h => by
  rw [List.append_assoc, ha o m _ h, hb o _ _ (by omega)]
  congr 1; omega
theorem D0.nil : D0 [] 0 := fun o m r h => by
  rw [List.nil_append]
  congr 1; omega
theorem pstr_d {s : List Int32} (h : okS s) : D0 (pstr s) 0 := fun o m r hm => by
  show dl o m 0 (34 :: (s.flatMap esc ++ [34] ++ r)) = _
  rw [dl_0, if_pos rfl, List.append_assoc, flat_d h]
  show dl o m 1 (34 :: r) = _
  rw [dl_1, if_pos rfl]
  congr 1; omega
abbrev dull2 (x : Int32) : Prop := x ≠ 34 ∧ x ≠ 91 ∧ x ≠ 123 ∧ x ≠ 93 ∧ x ≠ 125
theorem d0_in {x : Int32} (h : dull2 x) : D0 [x] 0 := fun o m r hm => by
  obtain ⟨h1, h2, h3, h5, h6⟩ := h
  show dl o m 0 (x :: r) = _
  rw [dl_0, if_neg h1, if_neg (show ¬ (x = 91 ∨ x = 123) from fun e => e.elim h2 h3), if_neg (show ¬ (x = 93 ∨ x = 125) from fun e => e.elim h5 h6)]
  congr 1; omega
theorem d0_all {l : List Int32} (h : ∀ x ∈ l, dull2 x) : D0 l 0 := by
  induction l with
  | nil => exact D0.nil
  | cons x l ih => exact (d0_in (h x List.mem_cons_self)).app (ih fun y hy => h y (List.mem_cons_of_mem _ hy))
theorem box_d {a z : Int32} {l : List Int32} {d : Nat} (ha : a = 91 ∨ a = 123) (hz : z = 93 ∨ z = 125) (h : D0 l d) : D0 (a :: (l ++ [z])) (1 + d) := fun o m r hm => by
  show dl o m 0 (a :: (l ++ [z] ++ r)) = _
  rw [dl_0, if_neg (by rcases ha with rfl | rfl <;> decide), if_pos ha, List.append_assoc, h _ _ _ (by omega)]
  show dl (o + 1) _ 0 (z :: r) = _
  rw [dl_0, if_neg (by rcases hz with rfl | rfl <;> decide), if_neg (by rcases hz with rfl | rfl <;> decide), if_pos hz]
  congr 1
  · omega
  · omega
theorem dF_cons (m : Mb) (l : List Mb) : dF (ofL (m :: l)) = max (dV m.2) (dF (ofL l)) := rfl
theorem jn_d {b : Bool} : ∀ (l : List Mb), (∀ m ∈ l, D0 (bM b m) (dV m.2)) → D0 (jn (l.map (bM b))) (dF (ofL l)) := by
  intro l
  induction l with
  | nil => intro _; exact D0.nil
  | cons m l ih =>
    intro h
    rw [jn_cons, dF_cons]
    refine (h m List.mem_cons_self).app ?_
    by_cases e : l = []
    · rw [if_pos e, e]; exact D0.nil
    · rw [if_neg e]
      have := (d0_in (x := 44) (by decide)).app (ih fun x hx => h x (List.mem_cons_of_mem _ hx))
      rw [Nat.zero_max] at this
      exact this
theorem bV_d (t : Vl) : wV t → D0 (bV t) (dV t) := by
  induction t using Vl.ind with
  | h k v s l ih =>
    intro hw
    have hk := hw.kids
    obtain ⟨w1, w2, w3, w4, w5, w6⟩ := hw
    simp only at w1 w2 w3 w4 w5 w6
    have hj : ∀ b, D0 (bF b (ofL l)) (dF (ofL l)) := by
      intro b
      rw [bF_ofL]
      refine jn_d l fun m hm => ?_
      obtain ⟨n1, n2⟩ := hk m hm
      unfold bM
      cases b with
      | false => exact ih m hm n2
      | true =>
        have := ((pstr_d n1).app (d0_in (x := 58) (by decide))).app (ih m hm n2)
        simpa using this
    unfold bV bval dV
    simp only
    have : k = 0 ∨ k = 1 ∨ k = 2 ∨ k = 3 ∨ k = 4 ∨ k = 5 ∨ k = 6 := by omega
    rcases this with rfl | rfl | rfl | rfl | rfl | rfl | rfl
    · exact (show D0 [110, 117, 108, 108] 0 from d0_all (by decide))
    · exact (show D0 [102, 97, 108, 115, 101] 0 from d0_all (by decide))
    · exact (show D0 [116, 114, 117, 101] 0 from d0_all (by decide))
    · exact d0_all fun x hx => by
        have := (pnum_ok v x hx).1
        exact ⟨this.1, this.2.1, this.2.2.1, this.2.2.2.2.1, this.2.2.2.2.2.1⟩
    · exact pstr_d w3
    · exact box_d (Or.inl rfl) (Or.inl rfl) (hj _)
    · exact box_d (Or.inr rfl) (Or.inr rfl) (hj _)
/-- the depth of a printed value -/
theorem depth_val {t : Vl} (hl : (bV t).length ≤ 4096) (hw : wV t) : t_depth (bV t) = some (Int32.ofNat (dV t)) := by
  have h := dep_dl hl (bV_pass t hw).2 10000 0 0 0 0 (by omega) (by omega) (by omega) (by omega) (Or.inl rfl)
  have e : dl 0 0 0 (bV t) = dV t := by
    have := bV_d t hw 0 0 [] (by omega)
    rw [List.append_nil, dl_n] at this
    rw [this]; omega
  rw [List.drop_zero, e] at h
  unfold t_depth
  rw [show Int32.ofNat (dV t) = Int32.ofInt (dV t : Int) from Int32.ofInt_eq_ofNat.symm]
  exact h
end Depth115
end

section
/-! The reference's cells: headed blocks, numbers. -/
section Cells116
theorem mask32 : ∀ i : Fin 64, (4294967295#64).getLsbD i.val = decide (i.val < 32) := by decide
theorem cat_bits (hi lo : BitVec 32) : (hi.signExtend 64) <<< 32 ||| (lo.signExtend 64 &&& 4294967295#64) = hi ++ lo := by
  apply BitVec.eq_of_getLsbD_eq
  intro i hlt
  have hm := mask32 ⟨i, hlt⟩
  simp only at hm
  rw [BitVec.getLsbD_or, BitVec.getLsbD_and, hm, BitVec.getLsbD_shiftLeft, BitVec.getLsbD_append]
  by_cases h : i < 32
  · simp [h, BitVec.getLsbD_signExtend]
    intros; omega
  · have h2 : i - 32 < 32 := by omega
    simp [h, h2, hlt, BitVec.getLsbD_signExtend]
    intros
    omega
theorem l_join (v : Int) (h : -9007199254740991 ≤ v ∧ v ≤ 9007199254740991) : ((Int32.ofInt (v / 4294967296)).toInt64 <<< ((32 : Int32).toInt64 &&& 63)) ||| ((Int32.ofInt v).toInt64 &&& 4294967295) = Int64.ofInt v := by
  apply Int64.toBitVec_inj.mp
  rw [Int64.toBitVec_or, Int64.toBitVec_and, Int64.toBitVec_shiftLeft, Int32.toBitVec_toInt64, Int32.toBitVec_toInt64, show (BitVec.smod ((32 : Int32).toInt64 &&& 63).toBitVec 64) = 32#64 from by decide]
  have e := cat_bits (Int32.ofInt (v / 4294967296)).toBitVec (Int32.ofInt v).toBitVec
  refine (e : _ = _).trans ?_
  apply BitVec.eq_of_toInt_eq
  rw [BitVec.toInt_append, if_neg (by decide)]
  have e1 : (Int32.ofInt (v / 4294967296)).toBitVec.toInt = v / 4294967296 := i_ofInt (by omega) (by omega)
  have e2 : ((Int32.ofInt v).toBitVec.toNat : Int) = v % 4294967296 := by
    show (((BitVec.ofInt 32 v).toNat : Nat) : Int) = _
    rw [BitVec.toNat_ofInt]
    have : ((2 ^ 32 : Nat) : Int) = 4294967296 := rfl
    omega
  have e3 : (Int64.ofInt v).toBitVec.toInt = v := by
    show (Int64.ofInt v).toInt = v
    rw [Int64.toInt_ofInt, show Int64.size = 18446744073709551616 from rfl, Int.bmod_def]
    omega
  rw [e1, e2, e3]
  have : (2 ^ 32 : Int) = 4294967296 := rfl
  omega
theorem iget_in {as : List Int32} {p : Nat} (hp : p < as.length) (hb : p < 2147483648) : iget as (Int32.ofNat p) = some as[p] := by
  unfold iget
  rw [if_neg (i_nn hb), i_cl hb, List.getElem?_eq_getElem hp]
theorem iget_drop {as r : List Int32} {x : Int32} {p : Nat} (hb : as.length ≤ 9000) (h : as.drop p = x :: r) : iget as (Int32.ofNat p) = some x := by
  have h1 := drop_len (w := [x]) h (by simp)
  simp only [List.length_cons, List.length_nil] at h1
  have hp : p < as.length := by omega
  rw [iget_in hp (by omega)]
  rw [List.drop_eq_getElem_cons hp] at h
  rw [(List.cons.inj h).1]
theorem iget_nth {as w r : List Int32} {p j : Nat} (hb : as.length ≤ 9000) (h : as.drop p = w ++ r) (hj : j < w.length) : iget as (Int32.ofNat (p + j)) = some w[j] := by
  have h1 : as.drop (p + j) = (w ++ r).drop j := by rw [← List.drop_drop, h]
  rw [List.drop_append_of_le_length (by omega), List.drop_eq_getElem_cons hj] at h1
  exact iget_drop hb h1
/-- a block that tells its length -/
def hdd (w : List Int32) : Prop := ∃ x t, w = x :: Int32.ofNat w.length :: t
theorem hdd.len {w : List Int32} (h : hdd w) : 2 ≤ w.length := by
  obtain ⟨x, t, e⟩ := h
  rw [e]; simp
theorem cstr_hdd (s : List Int32) : hdd (cstr s) := ⟨4, s, rfl⟩
theorem cV_hdd {t : Vl} (hk : t.1 ≤ 6) : ∃ r, cV t = Int32.ofNat t.1 :: Int32.ofNat (cV t).length :: r := by
  obtain ⟨k, v, s, f⟩ := t
  simp only at hk
  unfold cV cval
  simp only
  have : k = 0 ∨ k = 1 ∨ k = 2 ∨ k = 3 ∨ k = 4 ∨ k = 5 ∨ k = 6 := by omega
  rcases this with rfl | rfl | rfl | rfl | rfl | rfl | rfl
  · exact ⟨[], rfl⟩
  · exact ⟨[], rfl⟩
  · exact ⟨[], rfl⟩
  · exact ⟨_, rfl⟩
  · exact ⟨s, rfl⟩
  · exact ⟨_, rfl⟩
  · exact ⟨_, rfl⟩
theorem cV_h {t : Vl} (hk : t.1 ≤ 6) : hdd (cV t) := by
  obtain ⟨r, e⟩ := cV_hdd hk
  exact ⟨_, r, e⟩
theorem rnext_at {as w r : List Int32} {p : Nat} (hb : as.length ≤ 9000) (hw : hdd w) (h : as.drop p = w ++ r) : r_next as (Int32.ofNat p) = some (Int32.ofNat (p + w.length)) ∧ p + w.length ≤ as.length := by
  have h2 := hw.len
  have hl := drop_len h (by intro e; rw [e] at h2; simp at h2)
  refine ⟨?_, by omega⟩
  unfold r_next
  rw [i_a1, iget_nth hb h (j := 1) (by omega), o_bind, Int32.ofNat_add]
  obtain ⟨x, t, e⟩ := hw
  congr 2
  have : w[1]'(by omega) = Int32.ofNat w.length := by
    conv => lhs; rw [List.getElem_of_eq e]
    rfl
  exact this
theorem rnum_at {as r : List Int32} {v : Int} {p : Nat} (hb : as.length ≤ 9000) (hv : -9007199254740991 ≤ v ∧ v ≤ 9007199254740991) (h : as.drop p = cnum v ++ r) : r_number as (Int32.ofNat p) = some (Int64.ofInt v) := by
  unfold r_number
  rw [show Int32.ofNat p + 2 = Int32.ofNat (p + 2) from (Int32.ofNat_add p 2).symm, show Int32.ofNat p + 3 = Int32.ofNat (p + 3) from (Int32.ofNat_add p 3).symm, iget_nth hb h (j := 2) (by simp [cnum]), o_bind, iget_nth hb h (j := 3) (by simp [cnum]), o_bind]
  congr 1
  exact l_join v hv
/-- the blocks of members -/
def blk (b : Bool) (m : Mb) : List (List Int32) := if b then [cstr m.1, cV m.2] else [cV m.2]
def blks (b : Bool) (l : List Mb) : List (List Int32) := l.flatMap (blk b)
theorem blks_flat (b : Bool) (l : List Mb) : cF b (ofL l) = (blks b l).flatten := by
  rw [cF_ofL]
  unfold blks
  induction l with
  | nil => rfl
  | cons m l ih =>
    rw [List.flatMap_cons, List.flatMap_cons, List.flatten_append, ih]
    congr 1
    unfold cM blk
    cases b <;> simp
theorem blks_h {b : Bool} {l : List Mb} (h : okL l) : ∀ w ∈ blks b l, hdd w := by
  intro w hw
  unfold blks at hw
  obtain ⟨m, hm, hw⟩ := List.mem_flatMap.mp hw
  unfold blk at hw
  have := cV_h (h m hm).2.1
  cases b with
  | false => simp at hw; rw [hw]; exact this
  | true =>
    simp at hw
    rcases hw with e | e <;> rw [e]
    · exact cstr_hdd _
    · exact this
theorem blks_len (b : Bool) (l : List Mb) : (blks b l).length = if b then 2 * l.length else l.length := by
  unfold blks
  induction l with
  | nil => cases b <;> rfl
  | cons m l ih =>
    rw [List.flatMap_cons, List.length_append, ih]
    cases b <;> simp [blk] <;> try omega
/-- within an array or object -/
theorem cbox_in {as r : List Int32} {k : Nat} {v : Int} {s : List Int32} {l : List Mb} {p : Nat} (hk : k = 5 ∨ k = 6) (h : as.drop p = cV (k, v, s, ofL l) ++ r) : as.drop (p + 2) = (blks (k == 6) l).flatten ++ r ∧ (cV (k, v, s, ofL l)).length = (blks (k == 6) l).flatten.length + 2 := by
  have e : cV (k, v, s, ofL l) = [Int32.ofNat k, Int32.ofNat ((blks (k == 6) l).flatten.length + 2)] ++ (blks (k == 6) l).flatten := by
    unfold cV cval
    simp only
    rw [blks_flat]
    rcases hk with rfl | rfl <;> rfl
  rw [e, List.append_assoc] at h
  exact ⟨drop_more h, by rw [e]; simp⟩
end Cells116
end

section
/-! The reference walks from block to block. -/
section Walk117
theorem l_of {z : Int} (h1 : -4611686018427387904 ≤ z) (h2 : z ≤ 4611686018427387904) : (Int64.ofInt z).toInt = z := by
  rw [Int64.toInt_ofInt, show Int64.size = 18446744073709551616 from rfl, Int.bmod_def]
  omega
theorem lg_ge (x y : Int64) : 0 ≤ lg_cmp x y ↔ y.toInt ≤ x.toInt := by
  unfold lg_cmp
  by_cases h : x > y
  · rw [if_pos h]
    have := Int64.lt_iff_toInt_lt.mp h
    exact ⟨fun _ => by omega, fun _ => by decide⟩
  · rw [if_neg h]
    have h' : ¬ y.toInt < x.toInt := fun e => h (Int64.lt_iff_toInt_lt.mpr e)
    by_cases e : x = y
    · rw [if_pos e, e]
      exact ⟨fun _ => by omega, fun _ => by decide⟩
    · rw [if_neg e]
      have : x.toInt ≠ y.toInt := fun q => e (Int64.toInt_inj.mp q)
      exact ⟨fun q => absurd q (by decide), fun q => by omega⟩
theorem lg_le (x y : Int64) : lg_cmp x y ≤ 0 ↔ x.toInt ≤ y.toInt := by
  unfold lg_cmp
  by_cases h : x > y
  · rw [if_pos h]
    have := Int64.lt_iff_toInt_lt.mp h
    exact ⟨fun q => absurd q (by decide), fun _ => by omega⟩
  · rw [if_neg h]
    have h' : ¬ y.toInt < x.toInt := fun e => h (Int64.lt_iff_toInt_lt.mpr e)
    by_cases e : x = y
    · rw [if_pos e]; exact ⟨fun _ => by omega, fun _ => by decide⟩
    · rw [if_neg e]; exact ⟨fun _ => by omega, fun _ => by decide⟩
theorem lg_lt (x y : Int64) : lg_cmp x y < 0 ↔ x.toInt < y.toInt := by
  have := lg_ge x y
  have z0 : (0 : Int32).toInt = 0 := rfl
  rw [i_lt]
  rw [i_le] at this
  omega
theorem lg_gt (x y : Int64) : 0 < lg_cmp x y ↔ y.toInt < x.toInt := by
  have := lg_le x y
  have z0 : (0 : Int32).toInt = 0 := rfl
  rw [i_lt]
  rw [i_le] at this
  omega
theorem lg_eq (x y : Int64) : lg_cmp x y = 0 ↔ x = y := by
  have h1 := lg_le x y
  have h2 := lg_ge x y
  constructor
  · intro e
    rw [e] at h1 h2
    have := h1.mp (by decide)
    have := h2.mp (by decide)
    exact Int64.toInt_inj.mp (by omega)
  · intro e
    rw [e]
    exact lgc_self y
theorem l_a1 (z : Int) : Int64.ofInt z + 1 = Int64.ofInt (z + 1) := by rw [Int64.ofInt_add]; rfl
theorem l_z : (0 : Int64) = Int64.ofInt 0 := rfl
theorem l_32 (n : Nat) (h : n < 2147483648) : (Int32.ofNat n).toInt64 = Int64.ofInt n := by
  apply Int64.toInt_inj.mp
  rw [Int32.toInt_toInt64, i_of (by omega), l_of (by omega) (by omega)]
/-- where block j is -/
def bp (q : Nat) (bs : List (List Int32)) (j : Nat) : Nat := q + (bs.take j).flatten.length
theorem bp_0 (q : Nat) (bs : List (List Int32)) : bp q bs 0 = q := by simp [bp]
theorem bp_s (q : Nat) (w : List Int32) (bs : List (List Int32)) (j : Nat) : bp q (w :: bs) (j + 1) = bp (q + w.length) bs j := by
  unfold bp
  simp only [List.take_succ_cons, List.flatten_cons, List.length_append]
  omega
theorem blk_step {as r w : List Int32} {bs : List (List Int32)} {q : Nat} (hb : as.length ≤ 9000) (hw : ∀ x ∈ w :: bs, hdd x) (h : as.drop q = (w :: bs).flatten ++ r) : r_next as (Int32.ofNat q) = some (Int32.ofNat (q + w.length)) ∧ as.drop (q + w.length) = bs.flatten ++ r ∧ q + w.length ≤ as.length ∧ 2 ≤ w.length := by
  rw [List.flatten_cons, List.append_assoc] at h
  have h0 := hw w List.mem_cons_self
  obtain ⟨h1, h2⟩ := rnext_at hb h0 h
  exact ⟨h1, drop_more h, h2, h0.len⟩
theorem bp_drop {as r : List Int32} {bs : List (List Int32)} {q j : Nat} (h : as.drop q = bs.flatten ++ r) (hj : j ≤ bs.length) : as.drop (bp q bs j) = (bs.drop j).flatten ++ r := by
  have e : bs.flatten = (bs.take j).flatten ++ (bs.drop j).flatten := by rw [← List.flatten_append, List.take_append_drop]
  rw [e, List.append_assoc] at h
  exact drop_more h
theorem between_l {S : SS} {aa : Nat} {r : List Int32} (hb : (S aa).length ≤ 9000) : ∀ (bs : List (List Int32)) (n c q : Nat), (∀ x ∈ bs, hdd x) → (S aa).drop q = bs.flatten ++ r → q ≤ 9000 → rd S 78 18 = Int32.ofNat (q + bs.flatten.length) → bs.length < n → b_between_l7 S aa n (Int32.ofNat c) (Int32.ofNat q) = some (Int32.ofNat (c + bs.length)) := by
  intro bs
  induction bs with
  | nil =>
    intro n c q _ h hq he hn
    cases n with
    | zero => omega
    | succ n =>
      unfold b_between_l7
      rw [he]
      simp only [List.flatten_nil, List.length_nil, Nat.add_zero]
      rw [if_pos ((i_le' (by omega) (by omega)).mpr (Nat.le_refl _))]
  | cons w bs ih =>
    intro n c q hw h hq he hn
    obtain ⟨s1, s2, s3, s4⟩ := blk_step hb hw h
    cases n with
    | zero => omega
    | succ n =>
      have hlen := congrArg List.length h
      rw [List.length_drop, List.length_append] at hlen
      rw [List.flatten_cons, List.length_append] at he hlen
      unfold b_between_l7
      rw [he, if_neg (by rw [i_le' (by omega) (by omega)]; omega), s1, o_bind, i_a1, ih n (c + 1) (q + w.length) (fun x hx => hw x (List.mem_cons_of_mem _ hx)) s2 (by omega) (by rw [he]; congr 1; omega) (by simp only [List.length_cons] at hn; omega)]
      simp only [List.length_cons]
      congr 2; omega
theorem walk_l {S : SS} {aa : Nat} {r : List Int32} {k : Nat} (hb : (S aa).length ≤ 9000) (hk : k ≤ 100000) : ∀ (bs : List (List Int32)) (n j q : Nat), (∀ x ∈ bs, hdd x) → (S aa).drop q = bs.flatten ++ r → j ≤ k → k - j ≤ bs.length → k < n + j → b_walk_l6 S aa n (Int64.ofInt k) (Int32.ofNat q) (Int64.ofInt j) = some (Int32.ofNat (bp q bs (k - j))) := by
  intro bs
  induction bs with
  | nil =>
    intro n j q _ h h1 h2 hn
    simp only [List.length_nil] at h2
    cases n with
    | zero => omega
    | succ n =>
      unfold b_walk_l6
      rw [if_pos ((lg_ge _ _).mpr (by rw [l_of (by omega) (by omega), l_of (by omega) (by omega)]; omega)), show k - j = 0 by omega, bp_0]
  | cons w bs ih =>
    intro n j q hw h h1 h2 hn
    obtain ⟨s1, s2, s3, s4⟩ := blk_step hb hw h
    cases n with
    | zero => omega
    | succ n =>
      unfold b_walk_l6
      by_cases e0 : k ≤ j
      · rw [if_pos ((lg_ge _ _).mpr (by rw [l_of (by omega) (by omega), l_of (by omega) (by omega)]; omega)), show k - j = 0 by omega, bp_0]
      · rw [if_neg (by rw [lg_ge, l_of (by omega) (by omega), l_of (by omega) (by omega)]; omega), s1, o_bind, l_a1]
        have := ih n (j + 1) (q + w.length) (fun x hx => hw x (List.mem_cons_of_mem _ hx)) s2 (by omega) (by simp only [List.length_cons] at h2; omega) (by omega)
        rw [show k - j = (k - (j + 1)) + 1 by omega, bp_s, ← this]
        rfl
theorem elem_l {as r : List Int32} {p : Int32} {k : Nat} (hb : as.length ≤ 9000) (hk : k ≤ 100000) : ∀ (bs : List (List Int32)) (n j q : Nat), (∀ x ∈ bs, hdd x) → as.drop q = bs.flatten ++ r → j ≤ k → k - j ≤ bs.length → k < n + j → r_element_l as n p (Int64.ofInt k) (Int32.ofNat q) (Int64.ofInt j) = some (Int32.ofNat (bp q bs (k - j))) := by
  intro bs
  induction bs with
  | nil =>
    intro n j q _ h h1 h2 hn
    simp only [List.length_nil] at h2
    cases n with
    | zero => omega
    | succ n =>
      unfold r_element_l
      rw [if_pos ((lg_ge _ _).mpr (by rw [l_of (by omega) (by omega), l_of (by omega) (by omega)]; omega)), show k - j = 0 by omega, bp_0]
  | cons w bs ih =>
    intro n j q hw h h1 h2 hn
    obtain ⟨s1, s2, s3, s4⟩ := blk_step hb hw h
    cases n with
    | zero => omega
    | succ n =>
      unfold r_element_l
      by_cases e0 : k ≤ j
      · rw [if_pos ((lg_ge _ _).mpr (by rw [l_of (by omega) (by omega), l_of (by omega) (by omega)]; omega)), show k - j = 0 by omega, bp_0]
      · rw [if_neg (by rw [lg_ge, l_of (by omega) (by omega), l_of (by omega) (by omega)]; omega), s1, o_bind, l_a1]
        have := ih n (j + 1) (q + w.length) (fun x hx => hw x (List.mem_cons_of_mem _ hx)) s2 (by omega) (by simp only [List.length_cons] at h2; omega) (by omega)
        rw [show k - j = (k - (j + 1)) + 1 by omega, bp_s, ← this]
        rfl
theorem flat2 : ∀ (bs : List (List Int32)), (∀ x ∈ bs, hdd x) → 2 * bs.length ≤ bs.flatten.length := by
  intro bs
  induction bs with
  | nil => intro _; simp
  | cons w bs ih =>
    intro h
    have h1 := ih fun x hx => h x (List.mem_cons_of_mem _ hx)
    have h2 := (h w List.mem_cons_self).len
    simp only [List.flatten_cons, List.length_append, List.length_cons]
    omega
theorem many_l {as r : List Int32} {p e : Nat} {k : Int32} (hb : as.length ≤ 9000) (hn0 : r_next as (Int32.ofNat p) = some (Int32.ofNat e)) (hk : iget as (Int32.ofNat p) = some k) : ∀ (bs : List (List Int32)) (n c q : Nat), (∀ x ∈ bs, hdd x) → as.drop q = bs.flatten ++ r → q + bs.flatten.length = e → e ≤ 9000 → bs.length < n → r_many_l as n (Int32.ofNat p) (Int32.ofNat c) (Int32.ofNat q) = some (if k = 6 then Int32.ofNat (c + bs.length) / 2 else Int32.ofNat (c + bs.length)) := by
  intro bs
  induction bs with
  | nil =>
    intro n c q _ h he h9 hn
    simp only [List.flatten_nil, List.length_nil, Nat.add_zero] at he ⊢
    cases n with
    | zero => omega
    | succ n =>
      unfold r_many_l
      rw [hn0, o_bind, if_pos ((i_le' (by omega) (by omega)).mpr (by omega)), hk, o_bind]
      split <;> rfl
  | cons w bs ih =>
    intro n c q hw h he h9 hn
    obtain ⟨s1, s2, s3, s4⟩ := blk_step hb hw h
    rw [List.flatten_cons, List.length_append] at he
    cases n with
    | zero => omega
    | succ n =>
      unfold r_many_l
      rw [hn0, o_bind, if_neg (by rw [i_le' (by omega) (by omega)]; omega), s1, o_bind, i_a1, ih n (c + 1) (q + w.length) (fun x hx => hw x (List.mem_cons_of_mem _ hx)) s2 (by omega) h9 (by simp only [List.length_cons] at hn; omega)]
      simp only [List.length_cons]
      rw [show c + 1 + bs.length = c + (bs.length + 1) by omega]
theorem i_half (n : Nat) (h : n < 5000) : Int32.ofNat (2 * n) / 2 = Int32.ofNat n := by
  apply Int32.toInt_inj.mp
  rw [Int32.toInt_div, i_of (by omega), i_of (by omega), show (2 : Int32).toInt = 2 from rfl, Int.natCast_mul, show ((2 : Nat) : Int) = 2 from rfl, Int.mul_tdiv_cancel_left _ (by decide), Int.bmod_def]
  omega
/-- how many there are -/
theorem many_val {as r : List Int32} {k : Nat} {v : Int} {s : List Int32} {l : List Mb} {p : Nat} (hb : as.length ≤ 9000) (hw : okL l) (hk : k = 5 ∨ k = 6) (h : as.drop p = cV (k, v, s, ofL l) ++ r) : r_many as (Int32.ofNat p) = some (Int32.ofNat l.length) := by
  have h6 : (k, v, s, ofL l).1 ≤ 6 := by show k ≤ 6; omega
  obtain ⟨n1, n2⟩ := rnext_at hb (cV_h h6) h
  obtain ⟨c1, c2⟩ := cbox_in hk h
  obtain ⟨t, ht⟩ := cV_hdd h6
  have hi : iget as (Int32.ofNat p) = some (Int32.ofNat k) := by
    rw [ht] at h
    exact iget_drop hb h
  have hh := blks_h (b := k == 6) hw
  have h2 := flat2 _ hh
  have hlen := congrArg List.length c1
  rw [List.length_drop, List.length_append] at hlen
  have hbl := blks_len (k == 6) l
  have := many_l hb n1 hi (blks (k == 6) l) 10000 0 (p + 2) hh c1 (by omega) (by omega) (by omega)
  unfold r_many
  rw [show Int32.ofNat p + 2 = Int32.ofNat (p + 2) from (Int32.ofNat_add p 2).symm]
  refine (this : r_many_l as 10000 (Int32.ofNat p) 0 (Int32.ofNat (p + 2)) = _).trans ?_
  rw [Nat.zero_add]
  rcases hk with rfl | rfl
  · rw [if_neg (by decide), hbl]; rfl
  · have e : (blks (6 == 6) l).length = 2 * l.length := by rw [blks_len]; rfl
    rw [if_pos (by decide), e, i_half _ (by omega)]
end Walk117
end

section
/-! Strings compared, names found, by the reference; strings compared by the class. -/
section Cmp118
/-- which of two strings comes first -/
def cmpS : List Int32 → List Int32 → Int32
  | [], [] => 0
  | [], _ :: _ => -1
  | _ :: _, [] => 1
  | a :: s, b :: t => if a = b then cmpS s t else if b ≤ a then 1 else -1
theorem cmpS_0 : ∀ (s t : List Int32), cmpS s t = 0 ↔ s = t := by
  intro s
  induction s with
  | nil => intro t; cases t <;> simp [cmpS]
  | cons a s ih =>
    intro t
    cases t with
    | nil => simp [cmpS]
    | cons b t =>
      unfold cmpS
      by_cases e : a = b
      · rw [if_pos e, ih t, e]; simp
      · rw [if_neg e]
        constructor
        · intro h
          split at h <;> exact absurd h (by decide)
        · intro h; exact absurd (List.cons.inj h).1 e
theorem i_cmp_of {a b : Nat} (ha : a < 2147483648) (hb : b < 2147483648) : i_cmp (Int32.ofNat a) (Int32.ofNat b) = if a = b then 0 else if b ≤ a then 1 else -1 := by
  unfold i_cmp
  by_cases h : b ≤ a
  · rw [if_pos ((i_le' hb ha).mpr h)]
    by_cases e : a = b
    · rw [if_pos (by rw [e]), if_pos e]
    · rw [if_neg (by rw [i_inj ha hb]; exact e), if_neg e, if_pos h]
  · rw [if_neg (by rw [i_le' hb ha]; exact h), if_neg (by omega), if_neg h]
theorem rstr_l {as bs r r' : List Int32} {p p2 : Nat} (ha : as.length ≤ 9000) (hb : bs.length ≤ 9000) : ∀ (s s' : List Int32) (n i : Nat), as.drop (p + i) = s ++ r → bs.drop (p2 + i) = s' ++ r' → i + s.length ≤ 9000 → i + s'.length ≤ 9000 → s.length < n → r_strings_l as bs n (Int32.ofNat p) (Int32.ofNat p2) (Int32.ofNat (i + s.length)) (Int32.ofNat (i + s'.length)) (Int32.ofNat i) = some (cmpS s s') := by
  intro s
  induction s with
  | nil =>
    intro s' n i h1 h2 l1 l2 hn
    cases n with
    | zero => omega
    | succ n =>
      unfold r_strings_l
      rw [if_pos ((i_le' (by omega) (by omega)).mpr (by simp)), i_cmp_of (by omega) (by omega)]
      cases s' with
      | nil => simp [cmpS]
      | cons b s' =>
        simp only [List.length_nil, List.length_cons, Nat.add_zero]
        rw [if_neg (by omega), if_neg (by omega)]
        rfl
  | cons a s ih =>
    intro s' n i h1 h2 l1 l2 hn
    cases n with
    | zero => omega
    | succ n =>
      unfold r_strings_l
      simp only [List.length_cons] at l1 hn ⊢
      rw [if_neg (by rw [i_le' (by omega) (by omega)]; omega)]
      cases s' with
      | nil =>
        simp only [List.length_nil, Nat.add_zero]
        rw [if_pos ((i_le' (by omega) (by omega)).mpr (Nat.le_refl _)), i_cmp_of (by omega) (by omega), if_neg (by omega), if_pos (by omega)]
        rfl
      | cons b s' =>
        simp only [List.length_cons] at l2 ⊢
        rw [if_neg (by rw [i_le' (by omega) (by omega)]; omega), ← Int32.ofNat_add, ← Int32.ofNat_add, iget_drop ha h1, o_bind, iget_drop hb h2, o_bind, i_a1]
        unfold cmpS
        by_cases e : a = b
        · rw [if_pos e, if_pos e]
          have := ih s' n (i + 1) (drop_more (w := [a]) h1) (drop_more (w := [b]) h2) (by omega) (by omega) (by omega)
          rw [show i + 1 + s.length = i + (s.length + 1) by omega, show i + 1 + s'.length = i + (s'.length + 1) by omega] at this
          exact this
        · rw [if_neg e, if_neg e]
          split <;> rfl
theorem rstr_val {as bs r r' s s' : List Int32} {p p2 : Nat} (ha : as.length ≤ 9000) (hb : bs.length ≤ 9000) (h1 : as.drop p = cstr s ++ r) (h2 : bs.drop p2 = cstr s' ++ r') : r_strings as bs (Int32.ofNat p) (Int32.ofNat p2) = some (cmpS s s') := by
  have l1 := drop_len h1 (by simp [cstr])
  have l2 := drop_len h2 (by simp [cstr])
  have e1 : (cstr s).length = s.length + 2 := by simp [cstr]
  have e2 : (cstr s').length = s'.length + 2 := by simp [cstr]
  unfold r_strings
  rw [i_a1, i_a1, iget_nth ha h1 (j := 1) (by omega), o_bind, iget_nth hb h2 (j := 1) (by omega), o_bind]
  have d1 : as.drop (p + 2) = s ++ r := drop_more (w := [4, Int32.ofNat (s.length + 2)]) h1
  have d2 : bs.drop (p2 + 2) = s' ++ r' := drop_more (w := [4, Int32.ofNat (s'.length + 2)]) h2
  have := rstr_l ha hb s s' 10000 2 d1 d2 (by omega) (by omega) (by omega)
  rw [Nat.add_comm 2 s.length, Nat.add_comm 2 s'.length] at this
  exact this
theorem rnamed_l {as bs r r' s : List Int32} {p p2 e : Nat} (ha : as.length ≤ 9000) (hb : bs.length ≤ 9000) (hs : bs.drop p2 = cstr s ++ r') (hn0 : r_next as (Int32.ofNat p) = some (Int32.ofNat e)) : ∀ (l : List Mb) (n q : Nat), okL l → as.drop q = (blks true l).flatten ++ r → q + (blks true l).flatten.length = e → e ≤ 9000 → l.length < n → r_named_l as bs n (Int32.ofNat p) (Int32.ofNat p2) (Int32.ofNat q) = some (if l.findIdx (fun m => m.1 == s) < l.length then Int32.ofNat (bp q (blks true l) (2 * l.findIdx (fun m => m.1 == s) + 1)) else -1) := by
  intro l
  induction l with
  | nil =>
    intro n q _ h he h9 hn
    cases n with
    | zero => omega
    | succ n =>
      unfold r_named_l
      have : (blks true []).flatten.length = 0 := rfl
      rw [hn0, o_bind, if_pos ((i_le' (by omega) (by omega)).mpr (by omega))]
      simp
  | cons m l ih =>
    intro n q hw h he h9 hn
    have eb : blks true (m :: l) = cstr m.1 :: cV m.2 :: blks true l := rfl
    rw [eb] at h he
    have hh : ∀ x ∈ cstr m.1 :: cV m.2 :: blks true l, hdd x := by rw [← eb]; exact blks_h hw
    obtain ⟨s1, s2, s3, s4⟩ := blk_step ha hh h
    obtain ⟨u1, u2, u3, u4⟩ := blk_step ha (fun x hx => hh x (List.mem_cons_of_mem _ hx)) s2
    rw [List.flatten_cons, List.length_append, List.flatten_cons, List.length_append] at he
    rw [List.flatten_cons, List.append_assoc] at h
    cases n with
    | zero => omega
    | succ n =>
      unfold r_named_l
      rw [hn0, o_bind, if_neg (by rw [i_le' (by omega) (by omega)]; omega), rstr_val ha hb h hs, o_bind]
      by_cases e2 : m.1 = s
      · rw [if_pos ((cmpS_0 _ _).mpr e2), s1, o_bind]
        have : (m :: l).findIdx (fun m => m.1 == s) = 0 := by rw [List.findIdx_cons]; simp [e2]
        rw [this, if_pos (by simp), eb, Nat.mul_zero, Nat.zero_add, show (1 : Nat) = 0 + 1 from rfl, bp_s, bp_0]
      · rw [if_neg (fun e3 => e2 ((cmpS_0 _ _).mp e3)), s1, o_bind, u1, o_bind, ih n _ hw.tail u2 (by omega) h9 (by simp only [List.length_cons] at hn; omega)]
        have ef : (m :: l).findIdx (fun m => m.1 == s) = l.findIdx (fun m => m.1 == s) + 1 := by
          rw [List.findIdx_cons, show (m.1 == s) = false by simp [e2]]; rfl
        rw [ef, eb, show 2 * (l.findIdx (fun m => m.1 == s) + 1) + 1 = (2 * l.findIdx (fun m => m.1 == s) + 1) + 1 + 1 by omega, bp_s, bp_s]
        congr 1
        by_cases e3 : l.findIdx (fun m => m.1 == s) < l.length
        · rw [if_pos e3, if_pos (by simp only [List.length_cons]; omega)]
        · rw [if_neg e3, if_neg (by simp only [List.length_cons]; omega)]
/-- the value of a name -/
theorem rnamed_val {as bs r r' s : List Int32} {v : Int} {s0 : List Int32} {l : List Mb} {p p2 : Nat} (ha : as.length ≤ 9000) (hb : bs.length ≤ 9000) (hw : okL l) (hs : bs.drop p2 = cstr s ++ r') (h : as.drop p = cV (6, v, s0, ofL l) ++ r) : r_named as bs (Int32.ofNat p) (Int32.ofNat p2) = some (if l.findIdx (fun m => m.1 == s) < l.length then Int32.ofNat (bp (p + 2) (blks true l) (2 * l.findIdx (fun m => m.1 == s) + 1)) else -1) := by
  obtain ⟨n1, n2⟩ := rnext_at ha (cV_h (t := (6, v, s0, ofL l)) (Nat.le_refl _)) h
  obtain ⟨c1, c2⟩ := cbox_in (Or.inr rfl) h
  have hbl := blks_len true l
  have h2 := flat2 _ (blks_h (b := true) hw)
  have hlen := congrArg List.length c1
  rw [List.length_drop, List.length_append] at hlen
  simp only [if_true] at hbl
  have e6 : (6 == 6) = true := rfl
  rw [e6] at c1 c2 hlen
  unfold r_named
  rw [show Int32.ofNat p + 2 = Int32.ofNat (p + 2) from (Int32.ofNat_add p 2).symm]
  exact rnamed_l ha hb hs n1 l 10000 (p + 2) hw c1 (by omega) (by omega) (by omega)
end Cmp118
end
