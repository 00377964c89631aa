/-! The run's beginning: what stood there before. -/
section Chk5
variable {cl : List vw_C} {FL : Nat → List Value} {PG : List mM} {kd np kt : List Nat} {sx : mSX} {sz : mSZ} {s0 : State} {aty : Nat → FieldType} {φ : mF} {lk : mK} {lt : mLT}
theorem m_ckE_ok2 {M : mM} (hlk : ∀ q ∈ lk, m_T s0 q.2) (hlt : ∀ q ∈ lt, m_ckT cl PG lk M.1.cls q = true) (hnp : ∀ (a b : Nat) (M' : mM), PG[a]? = some M' → np[a]? = some b → (parseMethodDescriptor M'.1.desc).map (fun q => q.parameters.length + (if kd[a]? = some 0 then 0 else 1)) = some b) (hkt : ∀ (a k : Nat) (M' : mM), PG[a]? = some M' → kd[a]? = some 1 → kt[a]? = some k → (cl[k]?).map (fun q => q.1) = some M'.1.cls) (hsx : ∀ z ∈ sx, ∀ s : State, s0.WarmedH s.vm → vk_R z.1 z.2.1 z.2.2.1 (φ.1 z.2.2.2) s)
    (hsz : ∀ z ∈ sz, m_T s0 (.fieldLink z.1 z.2.1 z.2.2.1 z.2.2.2.1 z.2.2.2.2.1) ∧ va_Z z.2.2.1 z.2.2.2.1 z.2.2.2.2.1 (if z.2.2.2.2.2.2 = 0 then .int (Int32.ofNat z.2.2.2.2.2.1) else if z.2.2.2.2.2.2 = 1 then .ref (φ.1 z.2.2.2.2.2.1) else mf φ (.retAddr 0)) (fun q => s0.heap.size ≤ q) s0 s0.heap)
    (hoc : ∀ a C T N, 4 ≤ a → a < 17 → cl[a]? = some (C, T, N) → m_OC FL φ s0 a C T N) (htx : ∃ T N, cl[4]? = some ("StepBench$Text", T, N)) (haty : aty 1003 = .object "StepBench$Text" ∧ (aty 1004).isReference = true)
    (harr : m_T s0 (.arrayClass .byte) ∧ m_T s0 (.arrayClass .int) ∧ m_T s0 (.arrayClass .long) ∧ m_T s0 (.arrayOver (.object "StepBench$Text")) ∧ m_T s0 (.arrayOver (.array .int)))
    (hkd : ∀ (a : Nat) (M' : mM), PG[a]? = some M' → (kd[a]? = some 0 → m_T s0 (.static M'.1) ∧ m_T s0 (.initialized M'.1.cls)) ∧ (kd[a]? = some 1 → m_T s0 (.instanceMethod M'.1) ∧ m_T s0 (.selects M'.1.cls M'.1 M'.1)) ∧ (kd[a]? = some 2 → m_T s0 (.instanceMethod M'.1) ∧ M'.1.name = "<init>" ∧ m_T s0 (.code M'.1 M'.2.1 M'.2.2.1 none)) ∧ m_nMH M'.1)
    (hnat : m_T s0 (.native arraycopyName) ∧ m_T s0 (.static arraycopyName) ∧ m_T s0 (.initialized "java/lang/System")) (hobj : m_T s0 (.instanceMethod Lib.objectInit) ∧ m_T s0 (.code Lib.objectInit ⟨#[0xb1]⟩ 1 none))
    (hex : ∀ a C T N, a < 4 → cl[a]? = some (C, T, N) → m_EX s0 C)
    {pc len a b k : Nat} {i : ClassFile.Instr} (h : m_ckE cl kd np kt sx sz lt M pc (i, len, a, b, k) = true) : m_lk cl aty 4 φ FL PG s0 M pc i a b k := by
  cases i with
  | invokevirtual idx =>
    have at_ : ∀ {idx n x y : Nat}, m_lt lt idx = some (idx, n, x, y) → m_ckT cl PG lk M.1.cls (idx, n, x, y) = true := fun h => hlt _ (List.mem_of_find?_eq_some h)
    simp only [m_ckE] at h
    split at h
    · next k' =>
      simp only [Bool.and_eq_true, decide_eq_true_eq, beq_iff_eq] at h
      obtain ⟨⟨⟨⟨e0, e1⟩, e3⟩, e4⟩, e5⟩ := h
      have h3 := at_ e0
      simp only [m_ckT] at h3
      split at h3
      · next M' hM =>
        obtain ⟨g1, g2, g3, g4⟩ := hkd a M' hM
        obtain ⟨q, hq1, hq2⟩ := Option.map_eq_some_iff.mp (hkt a k' M' hM e1 e4)
        obtain ⟨C, T, N⟩ := q
        simp only at hq2
        subst hq2
        have hn := hnp a b M' hM e5
        rw [e1, if_neg (by decide)] at hn
        exact ⟨M', hM, ⟨T, N, k', rfl, e3, hq1⟩, m_ckM_ok hlk h3, (g2 e1).1, (g2 e1).2, g4, hn⟩
      · cases h3
    · cases h
  | _ => exact m_ckE_ok (kt := []) (len := len) hlk hlt hnp (fun a k M' _ h => by cases h) hsx hsz hoc htx haty harr hkd hnat hobj hex h
end Chk5
section Begin
/-- a string constant: its object at a, its bytes at t -/
def m_strA (s : State) (a t : Nat) (bs : List Int32) : Prop :=
  (∃ cell : Cell, s.heap[a]? = some cell ∧ cell.vm.isStatics = false ∧ s.vm.findClass "java/lang/String" = some cell.cls ∧ (∃ kC : Class, s.vm.classes[cell.cls]? = some kC)) ∧
  va_OF "java/lang/String" "value" "[B" (.ref t) a (fun q => s.heap.size ≤ q) s s.heap ∧ va_OF "java/lang/String" "coder" "B" (.int 0) a (fun q => s.heap.size ≤ q) s s.heap ∧
  ∃ cell : Cell, s.heap[t]? = some cell ∧ s.isArrayOf cell .byte ∧ cell.vm ≠ .unknown ∧ cell.slots = (bs.map Value.int).toArray
theorem m_arrA {args : Array Value} {s : State} {tm : Term} {ty : FieldType} {bs : List Int32} (hN : bs.length < 2 ^ 31) (harr : (Cond.arrayOf tm ty).before args s = true) (hlen : (Cond.eq (.length tm) (.int (Int32.ofNat bs.length))).before args s = true) (hel : ∀ j : Nat, j < bs.length → (Cond.eq (.elem tm (.int (Int32.ofNat j))) (.int (bs.getD j 0))).before args s = true) :
    ∃ t : Nat, tm.eval args s none [] s = some (.ref t) ∧ ∃ cell : Cell, s.heap[t]? = some cell ∧ s.isArrayOf cell ty ∧ cell.vm ≠ .unknown ∧ cell.slots = (bs.map Value.int).toArray := by
  obtain ⟨t, ht, cell, h1, h2, h3, h4, h5, h6, -⟩ := va_Tof (f := fun j => .int (bs.getD j 0)) (A := fun _ => False) hN harr (va_eqt hlen) (fun j hj => va_eqt (hel j hj)) (fun _ _ z => z)
  have hl := va_eqt hlen
  have hsz : cell.slots.size = bs.length := by
    obtain ⟨t2, cell2, ht2, hat, hv⟩ := Term.length_spec hl
    cases ht.symm.trans ht2
    obtain ⟨hcell, -⟩ := State.arrayAt?_spec hat
    cases h1.symm.trans hcell
    have hlt : cell.slots.size < 2 ^ 31 := by
      rcases Nat.lt_or_ge cell.slots.size (2 ^ 31) with z | z
      · exact z
      · exfalso
        simp only [Term.eval, ht, hat, Option.bind_eq_bind, Option.bind_some] at hl
        rw [if_neg (Nat.not_lt.mpr z)] at hl
        cases hl
    have e1 := toInt_of (n := Int32.ofNat cell.slots.size) rfl hlt
    have e2 := toInt_of (n := Int32.ofNat bs.length) rfl hN
    have e3 : Int32.ofNat cell.slots.size = Int32.ofNat bs.length := h5
    rw [e3, e2] at e1
    omega
  refine ⟨t, ht, cell, h1, h2, h3, ?_⟩
  apply Array.ext_getElem?
  intro k
  by_cases hk : k < bs.length
  · rw [h6 k hk]
    simp [hk]
  · rw [Array.getElem?_eq_none (by omega), Array.getElem?_eq_none (by simp; omega)]
theorem m_str {args : Array Value} {s : State} {tm : Term} {bs : List Int32} (hN : bs.length < 2 ^ 31) (hex : (Cond.exactly tm "java/lang/String").before args s = true) (hco : (Cond.eq (.field tm "java/lang/String" "coder" "B") (.int 0)).before args s = true)
    (har : (Cond.arrayOf (.field tm "java/lang/String" "value" "[B") .byte).before args s = true) (hle : (Cond.eq (.length (.field tm "java/lang/String" "value" "[B")) (.int (Int32.ofNat bs.length))).before args s = true)
    (hel : ∀ j : Nat, j < bs.length → (Cond.eq (.elem (.field tm "java/lang/String" "value" "[B") (.int (Int32.ofNat j))) (.int (bs.getD j 0))).before args s = true) : ∃ a t : Nat, tm.eval args s none [] s = some (.ref a) ∧ m_strA s a t bs := by
  obtain ⟨a, cC, cell, kC, q1, q2, q3, q4, q5, q6, -⟩ := Cond.exactly_spec (args := args) (first := s) (o := none) (s := s) (idx := []) (t := tm) (cls := "java/lang/String") hex
  obtain ⟨t, ht, hT⟩ := m_arrA hN har hle hel
  have hA : ∀ a : Nat, a < s.heap.size → ¬ s.heap.size ≤ a := fun a h => Nat.not_le.mpr h
  exact ⟨a, t, q1, ⟨cell, q3, q5, by rw [q6]; exact q2, kC, by rw [q6]; exact q4⟩, vk_OFof q1 ht hA, vk_OFof q1 (va_eqt hco) hA, hT⟩
/-- the fields of a class of the program's own, by program -/
def m_flk (T : u_T) : Nat → List Value → Bool
  | _, [] => true
  | j, v :: r => (match parseFieldDescriptor (T j).2.2.1 with
    | some ty => decide (defaultValue ty = v) && (match v with
      | .int _ => true
      | .long _ => true
      | .null => true
      | _ => false)
    | none => false) && m_flk T (j + 1) r
theorem m_flk_ok (φ : mF) (T : u_T) : ∀ (fs : List Value) (i : Nat), m_flk T i fs = true → ∀ (j : Nat) (v : Value), fs[j]? = some v → mf φ v = v ∧ ∃ ty, parseFieldDescriptor (T (i + j)).2.2.1 = some ty ∧ defaultValue ty = v
  | [], i, _, j, v, h => by cases h
  | w :: r, i, hc, 0, v, h => by
    cases h
    simp only [m_flk, Bool.and_eq_true] at hc
    have h1 := hc.1
    cases hp : parseFieldDescriptor (T i).2.2.1 with
    | none => rw [hp] at h1; cases h1
    | some ty =>
      rw [hp] at h1
      simp only [Bool.and_eq_true, decide_eq_true_eq] at h1
      refine ⟨?_, ty, rfl, h1.1⟩
      have h2 := h1.2
      cases w <;> first | rfl | cases h2
  | w :: r, i, hc, j + 1, v, h => by
    simp only [m_flk, Bool.and_eq_true] at hc
    have := m_flk_ok φ T r (i + 1) hc.2 j v h
    rwa [show i + 1 + j = i + (j + 1) by omega] at this
def m_tyk (T : u_T) (N : Nat) : Bool := (List.range N).all (fun b => match parseFieldDescriptor (T b).2.2.1 with
  | some .int => (T b).2.2.1 == "I"
  | some .boolean => (T b).2.2.1 == "Z"
  | some .long => (T b).2.2.1 == "J"
  | some (.object _) => !((T b).2.2.1 == "I") && !((T b).2.2.1 == "Z") && !((T b).2.2.1 == "J")
  | some (.array _) => !((T b).2.2.1 == "I") && !((T b).2.2.1 == "Z") && !((T b).2.2.1 == "J")
  | _ => false)
theorem m_tyk_ok {T : u_T} {N : Nat} (h : m_tyk T N = true) (b : Nat) (hb : b < N) : ∃ ty, parseFieldDescriptor (T b).2.2.1 = some ty ∧ (ty = .int ∧ (T b).2.2.1 = "I" ∨ ty = .boolean ∧ (T b).2.2.1 = "Z" ∨ ty = .long ∧ (T b).2.2.1 = "J" ∨ ((∃ n, ty = .object n) ∨ ∃ t, ty = .array t) ∧ (T b).2.2.1 ≠ "I" ∧ (T b).2.2.1 ≠ "Z" ∧ (T b).2.2.1 ≠ "J") := by
  have h1 := List.all_eq_true.mp h b (List.mem_range.mpr hb)
  cases hp : parseFieldDescriptor (T b).2.2.1 with
  | none => rw [hp] at h1; cases h1
  | some ty =>
    rw [hp] at h1
    cases ty <;> simp at h1
    · exact ⟨_, rfl, Or.inl ⟨rfl, h1⟩⟩
    · exact ⟨_, rfl, Or.inr (Or.inr (Or.inl ⟨rfl, h1⟩))⟩
    · exact ⟨_, rfl, Or.inr (Or.inl ⟨rfl, h1⟩)⟩
    · exact ⟨_, rfl, Or.inr (Or.inr (Or.inr ⟨Or.inl ⟨_, rfl⟩, h1.1.1, h1.1.2, h1.2⟩))⟩
    · exact ⟨_, rfl, Or.inr (Or.inr (Or.inr ⟨Or.inr ⟨_, rfl⟩, h1.1.1, h1.1.2, h1.2⟩))⟩
theorem m_oc_ok {FL : Nat → List Value} {φ : mF} {s0 : State} {a : Nat} {C : String} {T : u_T} {N : Nat} (hw : ∀ w ∈ u_ws C T N, m_T s0 w) (hi : m_T s0 (.instantiable C N)) (hz : m_T s0 (.initialized C)) (hl : (FL a).length ≤ N) (hf : m_flk T 0 (FL a) = true) (ht : m_tyk T N = true)
    (hn : ∀ x, x < N → ∀ y, y < N → x ≠ y → (T x).2.1 ≠ (T y).2.1) : m_OC FL φ s0 a C T N := by
  refine ⟨fun s hW => ⟨fun k hk args => hw _ (u_in_lay hk) s args hW, fun k hk => ?_, hn⟩, hi, hz, hl, fun j v hj => ?_, fun b hb ty hty => ?_⟩
  · obtain ⟨ty, h1, -⟩ := m_tyk_ok ht k hk
    exact ⟨ty, h1⟩
  · have := m_flk_ok φ T (FL a) 0 hf j v hj
    rwa [Nat.zero_add] at this
  · obtain ⟨ty', h1, h2⟩ := m_tyk_ok ht b hb
    cases hty.symm.trans h1
    exact h2
theorem m_T.decl {s0 : State} {y : MethodName} {A : Array Value} (h : (Cond.declares y).before A s0 = true) : m_T s0 (.declares y) := by
  intro s args hW
  have h1 : (Cond.declares y).before A (s0.setVm s.vm) = true := Cond.before_shiftedFace (State.Shifted.of_warmed hW) _ rfl h
  exact h1
theorem m_T.cast {s0 : State} {a b : String} {A : Array Value} (h : (Cond.castable a b).before A s0 = true) : m_T s0 (.castable a b) := by
  intro s args hW
  have h1 : (Cond.castable a b).before A (s0.setVm s.vm) = true := Cond.before_shiftedFace (State.Shifted.of_warmed hW) _ rfl h
  exact h1
theorem m_lsMoved {s0 s : State} {A args : Array Value} (hst : m_St s0 s) {O f d : String} (h : (Cond.laysStatic O f d).before A s0 = true) : (Cond.laysStatic O f d).before args s = true := by
  obtain ⟨c, k, i, fd, a, cell, hc, hi, hs1, ha, hcell, hs, hcls, hlt, hty⟩ := Cond.laysStatic_spec h
  obtain ⟨k', hi', hek⟩ := State.fieldFound?_setVm hst.1.alike hi
  have hcell' : s.heap[a]? = some cell := by rw [hst.2.1 a (Array.getElem?_eq_some_iff.mp hcell).1]; exact hcell
  exact Cond.laysStatic_of (s := s) (by rw [hst.1.alike.findClass]; exact hc) hi' hs1 (by rw [hek]; exact ha) hcell' hs hcls hlt (by rw [hek]; exact hty)
theorem m_irMoved {s0 s : State} {A args : Array Value} (hst : m_St s0 s) {O f d : String} (h : (Cond.laysStatic O f d).before A s0 = true) (hr : (Cond.isRef (.static O f d)).before A s0 = true) : (Cond.isRef (.static O f d)).before args s = true := by
  obtain ⟨c, k, i, fd, a, cell, hc, hi, hs1, ha, hcell, hs, hcls, hlt, hty⟩ := Cond.laysStatic_spec h
  obtain ⟨k', hi', hek⟩ := State.fieldFound?_setVm hst.1.alike hi
  have hi2 : s.fieldFound? O f d = some (c, k', i, fd) := hi'
  have hcell' : s.heap[a]? = some cell := by rw [hst.2.1 a (Array.getElem?_eq_some_iff.mp hcell).1]; exact hcell
  cases hv : (Term.static O f d).eval A s0 none [] s0 with
  | none => simp [Cond.before, Cond.holds, Cond.value, hv] at hr
  | some v =>
    obtain ⟨-, a', cell', e1, e2, -, e3⟩ := Term.static_spec hi hv
    cases ha.symm.trans e1
    cases hcell.symm.trans e2
    have ha' : k'.statics = some a := by rw [hek]; exact ha
    have he : (Term.static O f d).eval args s none [] s = some v := by
      simp [Term.eval, State.fieldNamed?, hi2, hs1, ha', hcell', hs, e3]
    simp only [Cond.before, Cond.holds, Cond.value, hv] at hr
    simp only [Cond.before, Cond.holds, Cond.value, he]
    exact hr
/-- words that stay along a run -/
def m_gx (w : Cond) : Bool := m_gd w || (match w with
  | .declares _ => true
  | .castable _ _ => true
  | .laysStatic _ _ _ => true
  | _ => false)
theorem m_gx_ok {s0 s : State} {w : Cond} {A args : Array Value} (hst : m_St s0 s) (h : w.before A s0 = true) (hg : m_gx w = true) : w.before args s = true := by
  unfold m_gx at hg
  rcases Bool.or_eq_true _ _ ▸ hg with hg | hg
  · exact m_T.of h hg s args hst.1
  · cases w with
    | declares y => exact m_T.decl h s args hst.1
    | castable a b => exact m_T.cast h s args hst.1
    | laysStatic O f d => exact m_lsMoved hst h
    | _ => cases hg
def m_xN : List String := ["java/lang/RuntimeException", "java/lang/Exception"]
/-- the words on a kind of thing that is thrown -/
def m_exW (C : String) : List Cond := (Bundle.throwableAtoms ++ Bundle.chain0Atoms C m_xN) ++ [.instantiable C 6, .castable C C, .selects C Bundle.tFill0 Bundle.tFill0, .selects C Bundle.tFill Bundle.tFill, .lays C Bundle.tN "cause" "Ljava/lang/Throwable;", .lays C Bundle.tN "stackTrace" Bundle.steD, .lays C Bundle.tN "suppressedExceptions" Bundle.listD, .lays C Bundle.tN "detailMessage" "Ljava/lang/String;", .fieldLink Bundle.tN 198 Bundle.tN "backtrace" "Ljava/lang/Object;", .lays Bundle.tN Bundle.tN "backtrace" "Ljava/lang/Object;", .lays C Bundle.tN "backtrace" "Ljava/lang/Object;"]
theorem m_ex_ok {s0 : State} {A : Array Value} {C : String} {L : List Cond} (hL : ∀ w ∈ L, w.before A s0 = true) (hw : ∀ w ∈ m_exW C, w ∈ L) (hg : (m_exW C).all m_gx = true) (hr1 : (Cond.isRef (.static Bundle.tN "UNASSIGNED_STACK" Bundle.steD)).before A s0 = true) (hr2 : (Cond.isRef (.static Bundle.tN "SUPPRESSED_SENTINEL" Bundle.listD)).before A s0 = true)
    (hz : (Cond.initialized C).before A s0 = true) (hf : Bundle.fit C = true) : m_EX s0 C := by
  have hx : ∀ (s : State) (args : Array Value), m_St s0 s → ∀ w ∈ m_exW C, w.before args s = true := fun s args hst w h => m_gx_ok hst (hL w (hw w h)) (List.all_eq_true.mp hg w h)
  have hT : ∀ w ∈ Bundle.throwableAtoms, w ∈ m_exW C := fun w h => List.mem_append_left _ (List.mem_append_left _ h)
  have l1 : (Cond.laysStatic Bundle.tN "UNASSIGNED_STACK" Bundle.steD).before A s0 = true := hL _ (hw _ (hT _ (by simp [Bundle.throwableAtoms])))
  have l2 : (Cond.laysStatic Bundle.tN "SUPPRESSED_SENTINEL" Bundle.listD).before A s0 = true := hL _ (hw _ (hT _ (by simp [Bundle.throwableAtoms])))
  have hI : Cond.instantiable C 6 ∈ m_exW C := List.mem_append_right _ List.mem_cons_self
  have hN : ∀ n ∈ m_xN, Bundle.fit n = true := by decide +kernel
  refine ⟨m_T.of (hL _ (hw _ hI)) rfl, m_T.of hz rfl, hf, m_xN, hN, by decide, fun own ic hl s args hst w hw' => ?_⟩
  have hR : ∀ w ∈ [Cond.instantiable C 6, .castable C C, .selects C Bundle.tFill0 Bundle.tFill0, .selects C Bundle.tFill Bundle.tFill, .lays C Bundle.tN "cause" "Ljava/lang/Throwable;", .lays C Bundle.tN "stackTrace" Bundle.steD, .lays C Bundle.tN "suppressedExceptions" Bundle.listD, .lays C Bundle.tN "detailMessage" "Ljava/lang/String;", .fieldLink Bundle.tN 198 Bundle.tN "backtrace" "Ljava/lang/Object;", .lays Bundle.tN Bundle.tN "backtrace" "Ljava/lang/Object;", .lays C Bundle.tN "backtrace" "Ljava/lang/Object;"], w.before args s = true := fun w h => hx s args hst w (List.mem_append_right _ h)
  rcases List.mem_append.mp hw' with h | h
  · exact hx s args hst w (List.mem_append_left _ h)
  · simp only [List.mem_cons, List.not_mem_nil, or_false] at h
    rcases h with rfl | rfl | rfl | rfl | rfl | rfl | rfl | rfl | rfl | rfl | rfl | rfl | rfl | rfl
    · exact hl s args hst.1
    · exact hR _ (by simp)
    · exact hR _ (by simp)
    · exact hR _ (by simp)
    · exact hR _ (by simp)
    · exact hR _ (by simp)
    · exact hR _ (by simp)
    · exact hR _ (by simp)
    · exact hR _ (by simp)
    · exact m_irMoved hst l1 hr1
    · exact m_irMoved hst l2 hr2
    · exact hR _ (by simp)
    · exact hR _ (by simp)
    · exact hR _ (by simp)
/-- a class's places -/
theorem m_kn1 {ws : List Cond} {s : State} {args : Array Value} {C : String} {T : u_T} {N n : Nat} (hts : ∀ w ∈ ws, w.before args s = true) (hin : ∀ w ∈ u_ws C T N, w ∈ ws) (hi : (Cond.instantiable C n).before args s = true) :
    ∃ q : ClassId × (Nat → Nat), (∀ k, k < N → SlotIs s (T k).1 (T k).2.1 (T k).2.2.1 (q.2 k)) ∧ s.vm.findClass C = some q.1 ∧ ∃ kC : Class, s.vm.classes[q.1]? = some kC := by
  obtain ⟨cC, iS, h1, h2, kC, h3, -⟩ := u_known hts hin hi
  exact ⟨(cC, iS), h1, h2, kC, h3⟩
/-- a class's fields are no statics -/
theorem m_cl1 {s0 s : State} {C : String} {T : u_T} {N n : Nat} (hw : ∀ w ∈ u_ws C T N, m_T s0 w) (hi : m_T s0 (.instantiable C n)) (hW : s0.WarmedH s.vm) : ∀ k, k < N → ∀ (cf : ClassId) (kf : Class) (fi : Nat) (f : Field), s.fieldFound? (T k).1 (T k).2.1 (T k).2.2.1 = some (cf, kf, fi, f) → f.isStatic = false := by
  intro k hk cf kf fi f hf
  obtain ⟨cC, kC, hfc, hkC, -⟩ := Cond.instantiable_spec (hi s #[] hW)
  have h := hw _ (u_in_lay hk) s #[] hW
  refine (u_facts (args := #[]) hfc hkC ?_ hf).1
  unfold u_lay at h
  split at h
  · exact Or.inr h
  · exact Or.inl h
/-- the cells that stand there before: the strings -/
def m_hs : Nat → List (String × Nat × List Int32) → List mC
  | _, [] => []
  | i, q :: r => (17, [.ref (2 + 2 * i), .int 0]) :: (1000, q.2.2.map Value.int) :: m_hs (i + 1) r
theorem m_hs_at : ∀ (l : List (String × Nat × List Int32)) (i k : Nat) (c : mC), (m_hs i l)[k]? = some c → ∃ (j : Nat) (q : String × Nat × List Int32), l[j]? = some q ∧ ((k = 2 * j ∧ c = (17, [.ref (2 + 2 * (i + j)), .int 0])) ∨ (k = 2 * j + 1 ∧ c = (1000, q.2.2.map Value.int)))
  | [], i, k, c, h => by cases h
  | q :: r, i, 0, c, h => by
    cases h
    exact ⟨0, q, rfl, Or.inl ⟨rfl, rfl⟩⟩
  | q :: r, i, 1, c, h => by
    cases h
    exact ⟨0, q, rfl, Or.inr ⟨rfl, rfl⟩⟩
  | q :: r, i, k + 2, c, h => by
    obtain ⟨j, q', h1, h2⟩ := m_hs_at r (i + 1) k c h
    refine ⟨j + 1, q', h1, ?_⟩
    rcases h2 with ⟨rfl, rfl⟩ | ⟨rfl, rfl⟩
    · exact Or.inl ⟨by omega, by rw [show i + 1 + j = i + (j + 1) by omega]⟩
    · exact Or.inr ⟨by omega, rfl⟩
theorem m_hs_len : ∀ (l : List (String × Nat × List Int32)) (i : Nat), (m_hs i l).length = 2 * l.length
  | [], i => rfl
  | q :: r, i => by simp only [m_hs, List.length_cons, m_hs_len r (i + 1)]; omega
theorem m_notst {x : Cell} (h : ∀ k, x.vm ≠ .statics k) : x.vm.isStatics = false := by
  cases hv : x.vm with
  | statics k => exact absurd hv (h k)
  | _ => rfl
/-- an array that stands there before -/
theorem m_cR.old {mcl : List vw_C} {D : va_G} {aty : Nat → FieldType} {tX : Nat} {U : State} {φ : mF} {x : Cell} {n : Nat} {bs : List Int32} (hn : 1000 ≤ n) (hn3 : n ≠ 1003) (ha : U.isArrayOf x (aty n)) (hu : x.vm ≠ .unknown) (hs : x.slots = (bs.map Value.int).toArray) (hf : n = 1000 → ∀ v ∈ bs, fits .byte (.int v) = true) : m_cR mcl D aty tX U φ (n, bs.map Value.int) x := by
  obtain ⟨h1, k, h2, comp, h3⟩ := ha
  refine ⟨hu, m_notst h1, fun h => absurd h (by simp only; omega), fun _ => ⟨⟨k, comp, h2, h3, fun h => absurd h hn3⟩, ?_, fun h v hv => ?_⟩⟩
  · rw [hs]
    congr 1
    simp only [List.map_map]
    exact List.map_congr_left fun v _ => rfl
  · obtain ⟨w, hw, rfl⟩ := List.mem_map.mp hv
    exact hf h w hw
end Begin
