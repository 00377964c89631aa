/-! Values as trees: their cells, their bytes. -/
section Tree107
abbrev Lb : Type := List Int32 × Int × List Int32
/-- members, one behind the other: kind; name, number, characters; what is within; the next -/
abbrev Fo : Type := Std.DTreeMap.Internal.Impl Lb (fun _ => Unit)
/-- a value: its kind, number, characters, what is within it -/
abbrev Vl : Type := Nat × Int × List Int32 × Fo
/-- a member: its name (nothing in an array), its value -/
abbrev Mb : Type := List Int32 × Vl
def toL : Fo → List Mb
  | .leaf => []
  | .inner k l _ f r => (l.1, k, l.2.1, l.2.2, f) :: toL r
def ofL : List Mb → Fo
  | [] => .leaf
  | m :: l => .inner m.2.1 (m.1, m.2.2.1, m.2.2.2.1) () m.2.2.2.2 (ofL l)
theorem toL_ofL (l : List Mb) : toL (ofL l) = l := by
  induction l with
  | nil => rfl
  | cons m l ih => unfold ofL toL; rw [ih]
theorem ofL_toL (f : Fo) : ofL (toL f) = f := by
  induction f with
  | leaf => rfl
  | inner k l u f r _ ih => unfold toL ofL; rw [ih]
theorem Fo.ind {P : Vl → Prop} (h : ∀ k v s l, (∀ m ∈ l, P m.2) → P (k, v, s, ofL l)) (f : Fo) : ∀ m ∈ toL f, P m.2 := by
  induction f with
  | leaf => intro m hm; cases hm
  | inner k l u f r ih1 ih2 =>
    intro m hm
    unfold toL at hm
    rcases List.mem_cons.mp hm with e | e
    · rw [e]
      have := h k l.2.1 l.2.2 (toL f) ih1
      rw [ofL_toL] at this
      exact this
    · exact ih2 m e
/-- what holds of a value whenever it holds of all that is within it, holds of every value -/
theorem Vl.ind {P : Vl → Prop} (h : ∀ k v s l, (∀ m ∈ l, P m.2) → P (k, v, s, ofL l)) (t : Vl) : P t := by
  obtain ⟨k, v, s, f⟩ := t
  have := h k v s (toL f) (Fo.ind h f)
  rw [ofL_toL] at this
  exact this
/-- cells of a number, a string -/
def cnum (v : Int) : List Int32 := [3, 4, Int32.ofInt (v / 4294967296), Int32.ofInt v]
def cstr (s : List Int32) : List Int32 := 4 :: Int32.ofNat (s.length + 2) :: s
def cval (k : Nat) (v : Int) (s kc : List Int32) : List Int32 := if k = 3 then cnum v else if k = 4 then cstr s else if k = 5 ∨ k = 6 then Int32.ofNat k :: Int32.ofNat (kc.length + 2) :: kc else [Int32.ofNat k, 2]
def cF : Bool → Fo → List Int32
  | _, .leaf => []
  | b, .inner k l _ f r => (if b then cstr l.1 else []) ++ cval k l.2.1 l.2.2 (cF (k == 6) f) ++ cF b r
def cV (t : Vl) : List Int32 := cval t.1 t.2.1 t.2.2.1 (cF (t.1 == 6) t.2.2.2)
def cM (b : Bool) (m : Mb) : List Int32 := (if b then cstr m.1 else []) ++ cV m.2
theorem cF_ofL (b : Bool) (l : List Mb) : cF b (ofL l) = l.flatMap (cM b) := by
  induction l with
  | nil => rfl
  | cons m l ih => unfold ofL cF; rw [ih]; rfl
/-- a character as printed -/
def esc (c : Int32) : List Int32 := if sg_letter c = -1 then (if c < 32 then [92, 117, 48, 48, sg_hexd (c >>> (4 &&& 31)), sg_hexd c] else if 127 ≤ c then [92, 117, 48, 48, sg_hexd (c >>> (4 &&& 31)), sg_hexd c] else [c]) else [92, sg_letter c]
def pstr (s : List Int32) : List Int32 := 34 :: (s.flatMap esc ++ [34])
/-- decimal digits -/
def digF : Nat → Nat → List Int32
  | 0, _ => []
  | n + 1, v => if v < 10 then [Int32.ofNat (48 + v)] else digF n (v / 10) ++ [Int32.ofNat (48 + v % 10)]
def pnum (v : Int) : List Int32 := (if v < 0 then [45] else []) ++ digF 20 v.natAbs
def bval (k : Nat) (v : Int) (s kb : List Int32) : List Int32 := if k = 0 then [110, 117, 108, 108] else if k = 1 then [102, 97, 108, 115, 101] else if k = 2 then [116, 114, 117, 101] else if k = 3 then pnum v else if k = 4 then pstr s else if k = 5 then 91 :: (kb ++ [93]) else 123 :: (kb ++ [125])
/-- joined by commas -/
def jn : List (List Int32) → List Int32
  | [] => []
  | [x] => x
  | x :: y :: l => x ++ 44 :: jn (y :: l)
def bF : Bool → Fo → List Int32
  | _, .leaf => []
  | b, .inner k l _ f r => (if b then pstr l.1 ++ [58] else []) ++ bval k l.2.1 l.2.2 (bF (k == 6) f) ++ (match r with
    | .leaf => []
    | .inner _ _ _ _ _ => 44 :: bF b r)
def bV (t : Vl) : List Int32 := bval t.1 t.2.1 t.2.2.1 (bF (t.1 == 6) t.2.2.2)
def bM (b : Bool) (m : Mb) : List Int32 := (if b then pstr m.1 ++ [58] else []) ++ bV m.2
theorem bF_ofL (b : Bool) (l : List Mb) : bF b (ofL l) = jn (l.map (bM b)) := by
  induction l with
  | nil => rfl
  | cons m l ih =>
    cases l with
    | nil =>
      show _ ++ _ ++ [] = _
      rw [List.append_nil]
      rfl
    | cons m2 l =>
      have e : bF b (ofL (m :: m2 :: l)) = bM b m ++ 44 :: bF b (ofL (m2 :: l)) := rfl
      rw [e, ih]
      rfl
/-- characters that a string may have -/
def okS (s : List Int32) : Prop := ∀ c ∈ s, 0 ≤ c ∧ c ≤ 127
/-- how many arrays and objects are within one another -/
def dF : Fo → Nat
  | .leaf => 0
  | .inner k _ _ f r => max (if k = 5 ∨ k = 6 then 1 + dF f else 0) (dF r)
def dV (t : Vl) : Nat := if t.1 = 5 ∨ t.1 = 6 then 1 + dF t.2.2.2 else 0
theorem dF_mem {f : Fo} {m : Mb} (hm : m ∈ toL f) : dV m.2 ≤ dF f := by
  induction f with
  | leaf => cases hm
  | inner k l u f r ih1 ih2 =>
    unfold toL at hm
    rcases List.mem_cons.mp hm with e | e
    · rw [e]; exact Nat.le_max_left (dV (k, l.2.1, l.2.2, f)) (dF r)
    · exact Nat.le_trans (ih2 e) (Nat.le_max_right (dV (k, l.2.1, l.2.2, f)) (dF r))
/-- values as they come up -/
def wF : Fo → Prop
  | .leaf => True
  | .inner k l _ f r => k ≤ 6 ∧ (k = 3 → -9007199254740991 ≤ l.2.1 ∧ l.2.1 ≤ 9007199254740991) ∧ okS l.2.2 ∧ okS l.1 ∧ (¬ (k = 5 ∨ k = 6) → f = .leaf) ∧ (k = 6 → ((toL f).map fun m => m.1).Nodup) ∧ wF f ∧ wF r
def wV (t : Vl) : Prop := t.1 ≤ 6 ∧ (t.1 = 3 → -9007199254740991 ≤ t.2.1 ∧ t.2.1 ≤ 9007199254740991) ∧ okS t.2.2.1 ∧ (¬ (t.1 = 5 ∨ t.1 = 6) → t.2.2.2 = .leaf) ∧ (t.1 = 6 → ((toL t.2.2.2).map fun m => m.1).Nodup) ∧ wF t.2.2.2
theorem wF_iff (f : Fo) : wF f ↔ ∀ m ∈ toL f, okS m.1 ∧ wV m.2 := by
  induction f with
  | leaf => exact ⟨fun _ m hm => absurd hm (List.not_mem_nil), fun _ => trivial⟩
  | inner k l u f r ih1 ih2 =>
    have e0 : toL (.inner k l u f r : Fo) = (l.1, k, l.2.1, l.2.2, f) :: toL r := rfl
    rw [e0]
    constructor
    · rintro ⟨h1, h2, h3, h4, h5, h6, h7, h8⟩ m hm
      rcases List.mem_cons.mp hm with e | e
      · rw [e]; exact ⟨h4, h1, h2, h3, h5, h6, h7⟩
      · exact ih2.mp h8 m e
    · intro hm
      obtain ⟨h4, h1, h2, h3, h5, h6, h7⟩ := hm _ List.mem_cons_self
      exact ⟨h1, h2, h3, h4, h5, h6, h7, ih2.mpr fun m e => hm m (List.mem_cons_of_mem _ e)⟩
end Tree107
