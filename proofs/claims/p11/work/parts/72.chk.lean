/-! The links of a program's instructions, checked by program. -/
section Chk
/-- words that stay when the tables are warmed -/
def m_gd (w : Cond) : Bool := (w.onTables && w.keeps) || (match w with
  | .arrayClass _ => true
  | .fieldLinkNest _ _ _ _ _ _ => true
  | .methodLinkNest _ _ _ _ => true
  | _ => false)
theorem m_T.of {s0 : State} {w : Cond} {A : Array Value} (h : w.before A s0 = true) (hg : m_gd w = true) : m_T s0 w := by
  intro s args hW
  unfold m_gd at hg
  rcases Bool.or_eq_true _ _ ▸ hg with hg | hg
  · exact word_at hW (Or.inl hg) h
  · cases w with
    | arrayClass ty => exact word_at hW (Or.inr ⟨ty, rfl⟩) h
    | fieldLinkNest a i b n d q => exact va_Nw.use rfl (va_Nw.warmF hW (va_Nw.of rfl h))
    | methodLinkNest a i x q => exact va_Nw.use rfl (va_Nw.warmM hW (va_Nw.of rfl h))
    | _ => cases hg
/-- a class's links, by their places in its pool -/
abbrev mK : Type := List (Nat × Cond)
def m_at (lk : mK) (idx : Nat) : Option Cond := (lk.find? (fun q => q.1 == idx)).map (fun q => q.2)
theorem m_at_mem {lk : mK} {idx : Nat} {w : Cond} (h : m_at lk idx = some w) : ∃ q ∈ lk, q.2 = w := by
  unfold m_at at h
  cases hq : lk.find? (fun q => q.1 == idx) with
  | none => rw [hq] at h; cases h
  | some q => rw [hq] at h; exact ⟨q, List.mem_of_find?_eq_some hq, by simpa using h⟩
/-- string constants: class, place, text, cell; statics: class, place, class, name, descriptor, cell or number, kind -/
abbrev mSX : Type := List (String × Nat × String × Nat)
abbrev mSZ : Type := List (String × Nat × String × String × String × Nat × Nat)
def m_fk (d : String) : Nat := if d = "I" then 0 else if d = "Z" then 1 else if d = "J" then 3 else 2
variable (cl : List vw_C) (nM : Nat → Option (MethodName × Nat)) (sx : mSX) (sz : mSZ) (own nm : String)
/-- a field's link is that of field b of class a -/
def m_ckF (lk : mK) (idx a b : Nat) : Bool := match cl[a]? with
  | some (_, T, N) => decide (b < N) && decide (a < 1000) && (match m_at lk idx with
    | some (.fieldLink o i r n d) => o == own && i == idx && r == (T b).1 && n == (T b).2.1 && d == (T b).2.2.1
    | some (.fieldLinkNest o i r n d _) => o == own && i == idx && r == (T b).1 && n == (T b).2.1 && d == (T b).2.2.1
    | _ => false)
  | none => false
/-- a method's link is that of method y -/
def m_ckM (lk : mK) (idx : Nat) (y : MethodName) : Bool := match m_at lk idx with
  | some (.methodLink o i x) => o == own && i == idx && x == y
  | some (.methodLinkNest o i x _) => o == own && i == idx && x == y
  | _ => false
def m_ckC (lk : mK) (idx : Nat) (C : String) : Bool := match m_at lk idx with
  | some (.classLink o i c) => o == own && i == idx && c == C
  | _ => false
end Chk
section Chk2
variable (cl : List vw_C) (FL : Nat → List Value) (PG : List mM) (kd np kt : List Nat) (sx : mSX) (sz : mSZ)
/-- a class's links by numbers: its place in the pool, what it is (0 a method, 1 a field, 2 a class, 3 a long, 4 arraycopy, 5 Object's constructor, 6 rows of rows, 7 the constructor of what is thrown), two numbers -/
abbrev mLT : Type := List (Nat × Nat × Nat × Nat)
def m_ckT (lk : mK) (own : String) (q : Nat × Nat × Nat × Nat) : Bool := match q with
  | (idx, 0, x, _) => (match PG[x]? with
    | some M' => m_ckM own lk idx M'.1
    | none => false)
  | (idx, 1, x, y) => m_ckF cl own lk idx x y
  | (idx, 2, x, _) => (match cl[x]? with
    | some (C, _, _) => m_ckC own lk idx C
    | none => false)
  | (idx, 3, x, _) => m_at lk idx == some (.constantLong own idx (Int64.ofNat x))
  | (idx, 4, _, _) => m_at lk idx == some (.methodLink own idx arraycopyName)
  | (idx, 5, _, _) => m_at lk idx == some (.methodLink own idx Lib.objectInit)
  | (idx, 6, _, _) => m_ckC own lk idx "[[I"
  | (idx, 7, x, _) => (match cl[x]? with
    | some (C, _, _) => m_at lk idx == some (.methodLink own idx (Bundle.init0 C))
    | none => false)
  | _ => false
def m_lt (lt : mLT) (idx : Nat) : Option (Nat × Nat × Nat × Nat) := lt.find? (fun q => q.1 == idx)
/-- the program of the check: an instruction of method M at pc, by the links of its class -/
def m_ckE (lt : mLT) (M : mM) (pc : Nat) (q : mI) : Bool := match q with
  | (i, _, a, b, k) => match i with
    | .ldc idx => sx.any (fun z => z.2.1 == idx && z.2.2.2 == a && z.1 == M.1.cls)
    | .ldc2_w idx => m_lt lt idx == some (idx, 3, a, 0)
    | .goto off => (pc : Int) + off == (a : Int)
    | .ifCond _ off => (pc : Int) + off == (a : Int)
    | .if_icmp _ off => (pc : Int) + off == (a : Int)
    | .tableswitch d lo hi offs => decide (0 ≤ (pc : Int) + d) && offs.toList.all (fun o => decide (0 ≤ (pc : Int) + o)) && (offs.size : Int) == hi - lo + 1
    | .lookupswitch d ps => (ps.toList.zip (ps.toList.drop 1)).all (fun (a, next) => a.1 < next.1) && decide (0 ≤ (pc : Int) + d) && ps.toList.all (fun o => decide (0 ≤ (pc : Int) + o.2))
    | .getfield idx => m_lt lt idx == some (idx, 1, a, b)
    | .putfield idx => m_lt lt idx == some (idx, 1, a, b) && (match cl[a]? with
      | some (_, T, _) => k == m_fk (T b).2.2.1 && (parseFieldDescriptor (T b).2.2.1).isSome && (!(T b).2.2.2 || (M.1.name == "<init>" && (T b).1 == M.1.cls)) && decide (4 ≤ a) && decide (a < 17)
      | none => false)
    | .getstatic idx => sz.any (fun z => z.2.1 == idx && z.2.2.2.2.2.1 == a && z.2.2.2.2.2.2 == k && z.1 == M.1.cls)
    | .aaload => a == 1003 || a == 1004
    | .aastore => a == 1003 && b == 4
    | .anewarray idx => a == 1003 && m_lt lt idx == some (idx, 2, 4, 0)
    | .multianewarray idx n => n == 2 && m_lt lt idx == some (idx, 6, 0, 0)
    | .invokevirtual idx => (match k with
      | k' + 1 => m_lt lt idx == some (idx, 0, a, 0) && kd[a]? == some 1 && decide (k' < 1000) && kt[a]? == some k' && np[a]? == some b
      | 0 => false)
    | .invokestatic idx => if a = 999998 then m_lt lt idx == some (idx, 4, 0, 0) else m_lt lt idx == some (idx, 0, a, 0) && kd[a]? == some 0 && np[a]? == some b
    | .invokespecial idx => if a = 999999 then m_lt lt idx == some (idx, 5, 0, 0) else (match k with
      | _ + 1 => m_lt lt idx == some (idx, 0, a, 0) && kd[a]? == some 2 && np[a]? == some b
      | 0 => false)
    | .new idx => m_lt lt idx == some (idx, 2, a, 0) && (match cl[a]? with
      | some (_, _, N) => (if k = 0 then decide (4 ≤ a) && decide (a < 17) && b == N else decide (a < 4) && b == 6 && M.2.2.2.2.1.isEmpty && decide (decode M.2.1 (pc + 3) = .ok (.dup, 1)) && decide (decode M.2.1 (pc + 4) = .ok (.invokespecial (k - 1), 3)) && decide (decode M.2.1 (pc + 7) = .ok (.athrow, 1)) && m_lt lt (k - 1) == some (k - 1, 7, a, 0))
      | none => false)
    | _ => true
/-- a method's instructions: as they are decoded, and their links -/
def m_ckL (lt : mLT) (M : mM) : Nat → List (Option mI) → Bool
  | _, [] => true
  | pc, none :: r => m_ckL lt M (pc + 1) r
  | pc, some q :: r => decide (decode M.2.1 pc = .ok (q.1, m_len q.1 q.2.1)) && m_ckE cl kd np kt sx sz lt M pc q && m_ckL lt M (pc + 1) r
theorem m_ckL_at (lt : mLT) (M : mM) : ∀ (l : List (Option mI)) (pc j : Nat) (q : mI), m_ckL cl kd np kt sx sz lt M pc l = true → l[j]? = some (some q) → decode M.2.1 (pc + j) = .ok (q.1, m_len q.1 q.2.1) ∧ m_ckE cl kd np kt sx sz lt M (pc + j) q = true
  | [], pc, j, q, _, h => by cases h
  | none :: r, pc, 0, q, _, h => by cases h
  | none :: r, pc, j + 1, q, hc, h => by
    have := m_ckL_at lt M r (pc + 1) j q hc h
    rwa [show pc + 1 + j = pc + (j + 1) by omega] at this
  | some z :: r, pc, 0, q, hc, h => by
    cases h
    simp only [m_ckL, Bool.and_eq_true, decide_eq_true_eq] at hc
    exact hc.1
  | some z :: r, pc, j + 1, q, hc, h => by
    simp only [m_ckL, Bool.and_eq_true, decide_eq_true_eq] at hc
    have := m_ckL_at lt M r (pc + 1) j q hc.2 h
    rwa [show pc + 1 + j = pc + (j + 1) by omega] at this
end Chk2
section Chk3
variable {cl : List vw_C} {FL : Nat → List Value} {PG : List mM} {kd : List Nat} {sx : mSX} {sz : mSZ} {s0 : State} {aty : Nat → FieldType} {φ : mF} {lk : mK}
theorem m_ckF_ok {own : String} {idx a b : Nat} (hlk : ∀ q ∈ lk, m_T s0 q.2) (h : m_ckF cl own lk idx a b = true) : ∃ C T N, cl[a]? = some (C, T, N) ∧ b < N ∧ a < 1000 ∧ m_TF s0 own idx (T b).1 (T b).2.1 (T b).2.2.1 := by
  unfold m_ckF at h
  cases hc : cl[a]? with
  | none => rw [hc] at h; cases h
  | some q =>
    obtain ⟨C, T, N⟩ := q
    rw [hc] at h
    simp only [Bool.and_eq_true, decide_eq_true_eq] at h
    refine ⟨C, T, N, rfl, h.1.1, h.1.2, fun s args hW => ?_⟩
    have h2 := h.2
    split at h2
    · next o i r n d hm =>
      simp only [Bool.and_eq_true, beq_iff_eq] at h2
      obtain ⟨⟨⟨⟨rfl, rfl⟩, e3⟩, e4⟩, e5⟩ := h2
      obtain ⟨q, hq, e⟩ := m_at_mem hm
      have := hlk q hq s args hW
      rw [e] at this
      rw [← e3, ← e4, ← e5]
      exact Or.inl this
    · next o i r n d w hm =>
      simp only [Bool.and_eq_true, beq_iff_eq] at h2
      obtain ⟨⟨⟨⟨rfl, rfl⟩, e3⟩, e4⟩, e5⟩ := h2
      obtain ⟨q, hq, e⟩ := m_at_mem hm
      have := hlk q hq s args hW
      rw [e] at this
      rw [← e3, ← e4, ← e5]
      exact Or.inr ⟨w, this⟩
    · cases h2
theorem m_ckM_ok {own : String} {idx : Nat} {y : MethodName} (hlk : ∀ q ∈ lk, m_T s0 q.2) (h : m_ckM own lk idx y = true) : m_TM s0 own idx y := by
  unfold m_ckM at h
  intro s args hW
  split at h
  · next o i x hm =>
    simp only [Bool.and_eq_true, beq_iff_eq] at h
    obtain ⟨⟨rfl, rfl⟩, rfl⟩ := h
    obtain ⟨q, hq, e⟩ := m_at_mem hm
    have := hlk q hq s args hW
    rw [e] at this
    exact Or.inl this
  · next o i x w hm =>
    simp only [Bool.and_eq_true, beq_iff_eq] at h
    obtain ⟨⟨rfl, rfl⟩, rfl⟩ := h
    obtain ⟨q, hq, e⟩ := m_at_mem hm
    have := hlk q hq s args hW
    rw [e] at this
    exact Or.inr ⟨w, this⟩
  · cases h
theorem m_at_T {idx : Nat} {w : Cond} (hlk : ∀ q ∈ lk, m_T s0 q.2) (h : m_at lk idx = some w) : m_T s0 w := by
  obtain ⟨q, hq, e⟩ := m_at_mem h
  rw [← e]
  exact hlk q hq
theorem m_ckC_ok {own C : String} {idx : Nat} (hlk : ∀ q ∈ lk, m_T s0 q.2) (h : m_ckC own lk idx C = true) : m_T s0 (.classLink own idx C) := by
  unfold m_ckC at h
  split at h
  · next o i c hm =>
    simp only [Bool.and_eq_true, beq_iff_eq] at h
    obtain ⟨⟨rfl, rfl⟩, rfl⟩ := h
    exact m_at_T hlk hm
  · cases h
theorem m_fk_kty {d : String} {ty : FieldType} (h : parseFieldDescriptor d = some ty) (hg : ty = .int ∧ d = "I" ∨ ty = .boolean ∧ d = "Z" ∨ ty = .long ∧ d = "J" ∨ ((∃ n, ty = .object n) ∨ ∃ t, ty = .array t) ∧ d ≠ "I" ∧ d ≠ "Z" ∧ d ≠ "J") : m_kty (m_fk d) ty := by
  rcases hg with ⟨rfl, rfl⟩ | ⟨rfl, rfl⟩ | ⟨rfl, rfl⟩ | ⟨h1, h2, h3, h4⟩
  · exact Or.inl ⟨rfl, rfl⟩
  · exact Or.inr (Or.inl ⟨rfl, rfl⟩)
  · exact Or.inr (Or.inr (Or.inr ⟨rfl, rfl⟩))
  · refine Or.inr (Or.inr (Or.inl ⟨?_, h1⟩))
    unfold m_fk
    rw [if_neg h2, if_neg h3, if_neg h4]
end Chk3
section Chk4
variable {cl : List vw_C} {FL : Nat → List Value} {PG : List mM} {kd np kt : List Nat} {sx : mSX} {sz : mSZ} {s0 : State} {aty : Nat → FieldType} {φ : mF} {lk : mK} {lt : mLT}
/-- of a class of the program's own -/
def m_OC (FL : Nat → List Value) (φ : mF) (s0 : State) (a : Nat) (C : String) (T : u_T) (N : Nat) : Prop :=
  (∀ s : State, s0.WarmedH s.vm → m_LY C T N s) ∧ m_T s0 (.instantiable C N) ∧ m_T s0 (.initialized C) ∧ (FL a).length ≤ N ∧
  (∀ (j : Nat) (v : Value), (FL a)[j]? = some v → mf φ v = v ∧ ∃ ty, parseFieldDescriptor (T j).2.2.1 = some ty ∧ defaultValue ty = v) ∧
  ∀ b, b < N → ∀ ty, parseFieldDescriptor (T b).2.2.1 = some ty → (ty = .int ∧ (T b).2.2.1 = "I" ∨ ty = .boolean ∧ (T b).2.2.1 = "Z" ∨ ty = .long ∧ (T b).2.2.1 = "J" ∨ ((∃ n, ty = .object n) ∨ ∃ t, ty = .array t) ∧ (T b).2.2.1 ≠ "I" ∧ (T b).2.2.1 ≠ "Z" ∧ (T b).2.2.1 ≠ "J")
/-- of a kind of thing that is thrown -/
def m_EX (s0 : State) (C : String) : Prop := m_T s0 (.instantiable C 6) ∧ m_T s0 (.initialized C) ∧ Bundle.fit C = true ∧ ∃ names : List String, (∀ n ∈ names, Bundle.fit n = true) ∧ names.length ≤ 2 ∧
  ∀ (own : String) (ic : Nat), m_T s0 (.methodLink own ic (Bundle.init0 C)) → ∀ (s : State) (args : Array Value), m_St s0 s → ∀ w ∈ Bundle.ownAtoms0 own ic C names, w.before args s = true
theorem m_ckE_ok {M : mM} (hlk : ∀ q ∈ lk, m_T s0 q.2) (hlt : ∀ q ∈ lt, m_ckT cl PG lk M.1.cls q = true) (hnp : ∀ (a b : Nat) (M' : mM), PG[a]? = some M' → np[a]? = some b → (parseMethodDescriptor M'.1.desc).map (fun q => q.parameters.length + (if kd[a]? = some 0 then 0 else 1)) = some b) (hkt : ∀ (a k : Nat) (M' : mM), PG[a]? = some M' → kt[a]? = some k → (cl[k]?).map (fun q => q.1) = some M'.1.cls) (hsx : ∀ z ∈ sx, ∀ s : State, s0.WarmedH s.vm → vk_R z.1 z.2.1 z.2.2.1 (φ.1 z.2.2.2) s)
    (hsz : ∀ z ∈ sz, m_T s0 (.fieldLink z.1 z.2.1 z.2.2.1 z.2.2.2.1 z.2.2.2.2.1) ∧ va_Z z.2.2.1 z.2.2.2.1 z.2.2.2.2.1 (if z.2.2.2.2.2.2 = 0 then .int (Int32.ofNat z.2.2.2.2.2.1) else if z.2.2.2.2.2.2 = 1 then .ref (φ.1 z.2.2.2.2.2.1) else mf φ (.retAddr 0)) (fun q => s0.heap.size ≤ q) s0 s0.heap)
    (hoc : ∀ a C T N, 4 ≤ a → a < 17 → cl[a]? = some (C, T, N) → m_OC FL φ s0 a C T N) (htx : ∃ T N, cl[4]? = some ("StepBench$Text", T, N)) (haty : aty 1003 = .object "StepBench$Text" ∧ (aty 1004).isReference = true)
    (harr : m_T s0 (.arrayClass .byte) ∧ m_T s0 (.arrayClass .int) ∧ m_T s0 (.arrayClass .long) ∧ m_T s0 (.arrayOver (.object "StepBench$Text")) ∧ m_T s0 (.arrayOver (.array .int)))
    (hkd : ∀ (a : Nat) (M' : mM), PG[a]? = some M' → (kd[a]? = some 0 → m_T s0 (.static M'.1) ∧ m_T s0 (.initialized M'.1.cls)) ∧ (kd[a]? = some 1 → m_T s0 (.instanceMethod M'.1) ∧ m_T s0 (.selects M'.1.cls M'.1 M'.1)) ∧ (kd[a]? = some 2 → m_T s0 (.instanceMethod M'.1) ∧ M'.1.name = "<init>" ∧ m_T s0 (.code M'.1 M'.2.1 M'.2.2.1 none)) ∧ m_nMH M'.1)
    (hnat : m_T s0 (.native arraycopyName) ∧ m_T s0 (.static arraycopyName) ∧ m_T s0 (.initialized "java/lang/System")) (hobj : m_T s0 (.instanceMethod Lib.objectInit) ∧ m_T s0 (.code Lib.objectInit ⟨#[0xb1]⟩ 1 none))
    (hex : ∀ a C T N, a < 4 → cl[a]? = some (C, T, N) → m_EX s0 C)
    {pc len a b k : Nat} {i : ClassFile.Instr} (h : m_ckE cl kd np kt sx sz lt M pc (i, len, a, b, k) = true) : m_lk cl aty 4 φ FL PG s0 M pc i a b k := by
  have at_ : ∀ {idx n x y : Nat}, m_lt lt idx = some (idx, n, x, y) → m_ckT cl PG lk M.1.cls (idx, n, x, y) = true := fun h => hlt _ (List.mem_of_find?_eq_some h)
  cases i with
  | ldc idx =>
    obtain ⟨z, hz, h2⟩ := List.any_eq_true.mp h
    simp only [Bool.and_eq_true, beq_iff_eq] at h2
    obtain ⟨⟨e2, e3⟩, e1⟩ := h2
    refine ⟨z.2.2.1, fun s hW => ?_⟩
    have := hsx z hz s hW
    rw [e1, e2, e3] at this
    exact this
  | ldc2_w idx => exact m_at_T hlk (eq_of_beq (at_ (eq_of_beq h)))
  | goto off => exact eq_of_beq h
  | ifCond c off => exact eq_of_beq h
  | if_icmp c off => exact eq_of_beq h
  | tableswitch d lo hi offs =>
    simp only [m_ckE, Bool.and_eq_true, decide_eq_true_eq, beq_iff_eq] at h
    exact ⟨h.1.1, fun o ho => by simpa using List.all_eq_true.mp h.1.2 o ho, h.2⟩
  | lookupswitch d ps =>
    simp only [m_ckE, Bool.and_eq_true, decide_eq_true_eq, beq_iff_eq] at h
    exact ⟨h.1.1, h.1.2, fun o ho => by simpa using List.all_eq_true.mp h.2 o ho⟩
  | getfield idx => exact m_ckF_ok hlk (at_ (eq_of_beq h))
  | putfield idx =>
    simp only [m_ckE, Bool.and_eq_true] at h
    obtain ⟨C, T, N, h1, h2, h3, h4⟩ := m_ckF_ok hlk (at_ (eq_of_beq h.1))
    have h5 := h.2
    rw [h1] at h5
    simp only [Bool.and_eq_true, decide_eq_true_eq, beq_iff_eq] at h5
    obtain ⟨⟨⟨⟨e1, e2⟩, e3⟩, e4⟩, e5⟩ := h5
    obtain ⟨ty, hty⟩ := Option.isSome_iff_exists.mp e2
    obtain ⟨o1, o2, o3, o4, o5, o6⟩ := hoc a C T N e4 e5 h1
    refine ⟨C, T, N, ty, h1, h2, h3, h4, hty, by rw [e1]; exact m_fk_kty hty (o6 b h2 ty hty), fun hf => ?_, o1, N, o2⟩
    rw [hf] at e3
    simpa using e3
  | getstatic idx =>
    obtain ⟨z, hz, h2⟩ := List.any_eq_true.mp h
    simp only [Bool.and_eq_true, beq_iff_eq] at h2
    obtain ⟨⟨⟨e2, e3⟩, e4⟩, e1⟩ := h2
    obtain ⟨g1, g2⟩ := hsz z hz
    rw [e1, e2] at g1
    rw [e3, e4] at g2
    exact ⟨_, _, _, g1, g2⟩
  | aaload =>
    simp only [m_ckE, Bool.or_eq_true, beq_iff_eq] at h
    rcases h with rfl | rfl
    · exact ⟨by decide, by rw [haty.1]; rfl⟩
    · exact ⟨by decide, haty.2⟩
  | aastore =>
    simp only [m_ckE, Bool.and_eq_true, beq_iff_eq] at h
    obtain ⟨T, N, ht⟩ := htx
    exact ⟨h.1, h.2, by decide, by rw [haty.1]; rfl, _, _, _, ht⟩
  | newarray t => exact ⟨fun _ => harr.1, fun _ => harr.2.1, fun _ => harr.2.2.1⟩
  | anewarray idx =>
    simp only [m_ckE, Bool.and_eq_true, beq_iff_eq] at h
    obtain ⟨T, N, ht⟩ := htx
    have h3 := at_ h.2
    simp only [m_ckT, ht] at h3
    exact ⟨h.1, _, T, N, haty.1, ht, m_ckC_ok hlk h3, harr.2.2.2.1⟩
  | multianewarray idx n =>
    simp only [m_ckE, Bool.and_eq_true, beq_iff_eq] at h
    exact ⟨h.1, m_ckC_ok hlk (at_ h.2), harr.2.1, harr.2.2.2.2⟩
  | invokevirtual idx =>
    simp only [m_ckE] at h
    split at h
    · next k' =>
      simp only [Bool.and_eq_true, decide_eq_true_eq, beq_iff_eq] at h
      obtain ⟨⟨⟨⟨e0, e1⟩, e3⟩, e4⟩, e5⟩ := h
      have h3 := at_ e0
      simp only [m_ckT] at h3
      split at h3
      · next M' hM =>
        obtain ⟨g1, g2, g3, g4⟩ := hkd a M' hM
        obtain ⟨q, hq1, hq2⟩ := Option.map_eq_some_iff.mp (hkt a k' M' hM e4)
        obtain ⟨C, T, N⟩ := q
        simp only at hq2
        subst hq2
        have hn := hnp a b M' hM e5
        rw [e1, if_neg (by decide)] at hn
        exact ⟨M', hM, ⟨T, N, k', rfl, e3, hq1⟩, m_ckM_ok hlk h3, (g2 e1).1, (g2 e1).2, g4, hn⟩
      · cases h3
    · cases h
  | invokestatic idx =>
    unfold m_lk
    simp only [m_ckE] at h ⊢
    split at h
    · next ha =>
      rw [if_pos ha]
      exact ⟨m_at_T hlk (eq_of_beq (at_ (eq_of_beq h))), hnat⟩
    · next ha =>
      rw [if_neg ha]
      simp only [Bool.and_eq_true, beq_iff_eq] at h
      obtain ⟨⟨e0, e1⟩, e5⟩ := h
      have h3 := at_ e0
      simp only [m_ckT] at h3
      split at h3
      · next M' hM =>
        obtain ⟨g1, g2, g3, g4⟩ := hkd a M' hM
        have hn := hnp a b M' hM e5
        rw [e1, if_pos rfl] at hn
        exact ⟨M', hM, m_ckM_ok hlk h3, (g1 e1).1, (g1 e1).2, g4, hn⟩
      · cases h3
  | invokespecial idx =>
    unfold m_lk
    simp only [m_ckE] at h ⊢
    split at h
    · next ha =>
      rw [if_pos ha]
      exact ⟨m_at_T hlk (eq_of_beq (at_ (eq_of_beq h))), hobj⟩
    · next ha =>
      rw [if_neg ha]
      split at h
      · next k' =>
        simp only [Bool.and_eq_true, beq_iff_eq] at h
        obtain ⟨⟨e0, e1⟩, e5⟩ := h
        have h3 := at_ e0
        simp only [m_ckT] at h3
        split at h3
        · next M' hM =>
          obtain ⟨g1, g2, g3, g4⟩ := hkd a M' hM
          have hn := hnp a b M' hM e5
          rw [e1, if_neg (by decide)] at hn
          exact ⟨M', hM, ⟨k', rfl⟩, m_ckM_ok hlk h3, (g3 e1).1, (g3 e1).2.1, (g3 e1).2.2, g4, hn⟩
        · cases h3
      · cases h
  | new idx =>
    unfold m_lk
    simp only [m_ckE, Bool.and_eq_true] at h ⊢
    obtain ⟨h0, h⟩ := h
    have h3 := at_ (eq_of_beq h0)
    simp only [m_ckT] at h3
    split at h
    · next C0 T N hc =>
      rw [hc] at h3
      simp only at h3
      split at h
      · next hk =>
        rw [if_pos hk]
        simp only [Bool.and_eq_true, decide_eq_true_eq, beq_iff_eq] at h
        obtain ⟨⟨e1, e2⟩, e3⟩ := h
        obtain ⟨o1, o2, o3, o4, o5, o6⟩ := hoc a _ T N e1 e2 hc
        exact ⟨_, T, N, hc, by omega, m_ckC_ok hlk h3, by rw [e3]; exact o2, o3, o1, o4, o5⟩
      · next hk =>
        rw [if_neg hk]
        simp only [Bool.and_eq_true, decide_eq_true_eq, beq_iff_eq] at h
        obtain ⟨⟨⟨⟨⟨⟨e1, e2⟩, e3⟩, e4⟩, e5⟩, e6⟩, e7⟩ := h
        obtain ⟨x1, x2, x3, names, x4, x5, x6⟩ := hex a _ T N e1 hc
        have h8 := at_ e7
        simp only [m_ckT, hc] at h8
        exact ⟨_, T, N, names, k - 1, hc, by omega, e2, List.isEmpty_iff.mp e3, m_ckC_ok hlk h3, x1, x2, x3, x4, x5, x6 _ _ (m_at_T hlk (eq_of_beq h8)), e4, e5, e6⟩
    · cases h
  | _ => exact trivial
end Chk4
