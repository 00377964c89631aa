/-! One instruction: what the small machine does, the JVM does. -/
section One
variable {p : Program} {l : Launch} {e : Env} {R : Room} {s : State} {m : MethodId} {args : Array Value} {below : List Frame} {meth : Method} {c : Code} {Q : State → Prop}
variable {mcl : List vw_C} {D : va_G} {aty : Nat → FieldType} {tX nE B : Nat} {ext : mF} {H0 : Heap} {nL K0 N0 : Nat}
/-- wherever the small machine's frame g lies in the JVM, the goal is reached -/
def m_KK (p : Program) (l : Launch) (e : Env) (R : Room) (s : State) (m : MethodId) (args : Array Value) (below : List Frame) (meth : Method) (c : Code) (Q : State → Prop) (mcl : List vw_C) (D : va_G) (aty : Nat → FieldType) (tX nE B : Nat) (ext : mF) (H0 : Heap) (nL K0 N0 : Nat) (g : mG) : Prop :=
  ∀ (ls : Array Slot) (H : Heap) (locs : List Loc) (cells slots : Nat), m_LR (m_phi nE B ext) nL g.2.1 ls → m_HR mcl D aty tX nE B ext H0 s g.2.2.2.1 H → (∀ q ∈ locs, B ≤ q.base) → cells + g.2.2.2.2.1 ≤ K0 → slots + g.2.2.2.2.2 ≤ N0 →
    W p l e R s m args below meth c H locs cells slots Q (F0 m g.1 ls (g.2.2.1.map (mf (m_phi nE B ext))))
variable {pc : Nat} {ml : mL} {st : List Value} {S : mS} {g' : mG} {cc : ByteArray}
theorem m_i2W {f : Int32 → Int32 → Int32} (row : ∀ (x y : Int32) (ls : Array Slot) (rest : List Value) (H : Heap) (locs : List Loc) (cells slots : Nat), W p l e R s m args below meth c H locs cells slots Q (F0 m (pc + 1) ls (.int (f x y) :: rest)) → W p l e R s m args below meth c H locs cells slots Q (F0 m pc ls (.int y :: .int x :: rest)))
    (hm : m_i2 pc ml st S f = some g') (kk : m_KK p l e R s m args below meth c Q mcl D aty tX nE B ext H0 nL K0 N0 g') : m_KK p l e R s m args below meth c Q mcl D aty tX nE B ext H0 nL K0 N0 (pc, ml, st, S) := by
  unfold m_i2 at hm
  split at hm
  next y x r => cases hm; exact fun ls H locs cells slots hL hH hl hc hs => row x y ls _ H locs cells slots (kk ls H locs cells slots hL hH hl hc hs)
  next => cases hm
theorem m_l2W {f : Int64 → Int64 → Int64} (row : ∀ (x y : Int64) (ls : Array Slot) (rest : List Value) (H : Heap) (locs : List Loc) (cells slots : Nat), W p l e R s m args below meth c H locs cells slots Q (F0 m (pc + 1) ls (.long (f x y) :: rest)) → W p l e R s m args below meth c H locs cells slots Q (F0 m pc ls (.long y :: .long x :: rest)))
    (hm : m_l2 pc ml st S f = some g') (kk : m_KK p l e R s m args below meth c Q mcl D aty tX nE B ext H0 nL K0 N0 g') : m_KK p l e R s m args below meth c Q mcl D aty tX nE B ext H0 nL K0 N0 (pc, ml, st, S) := by
  unfold m_l2 at hm
  split at hm
  next y x r => cases hm; exact fun ls H locs cells slots hL hH hl hc hs => row x y ls _ H locs cells slots (kk ls H locs cells slots hL hH hl hc hs)
  next => cases hm
theorem m_div2W {f : Int32 → Int32 → Int32} (row : ∀ (x y : Int32) (ls : Array Slot) (rest : List Value) (H : Heap) (locs : List Loc) (cells slots : Nat), ¬ y = 0 → W p l e R s m args below meth c H locs cells slots Q (F0 m (pc + 1) ls (.int (f x y) :: rest)) → W p l e R s m args below meth c H locs cells slots Q (F0 m pc ls (.int y :: .int x :: rest)))
    (hm : m_div2 pc ml st S f = some g') (kk : m_KK p l e R s m args below meth c Q mcl D aty tX nE B ext H0 nL K0 N0 g') : m_KK p l e R s m args below meth c Q mcl D aty tX nE B ext H0 nL K0 N0 (pc, ml, st, S) := by
  unfold m_div2 at hm
  split at hm
  next y x r =>
    split at hm
    next => cases hm
    next hy => cases hm; exact fun ls H locs cells slots hL hH hl hc hs => row x y ls _ H locs cells slots hy (kk ls H locs cells slots hL hH hl hc hs)
  next => cases hm
theorem m_divL2W {f : Int64 → Int64 → Int64} (row : ∀ (x y : Int64) (ls : Array Slot) (rest : List Value) (H : Heap) (locs : List Loc) (cells slots : Nat), ¬ y = 0 → W p l e R s m args below meth c H locs cells slots Q (F0 m (pc + 1) ls (.long (f x y) :: rest)) → W p l e R s m args below meth c H locs cells slots Q (F0 m pc ls (.long y :: .long x :: rest)))
    (hm : m_divL2 pc ml st S f = some g') (kk : m_KK p l e R s m args below meth c Q mcl D aty tX nE B ext H0 nL K0 N0 g') : m_KK p l e R s m args below meth c Q mcl D aty tX nE B ext H0 nL K0 N0 (pc, ml, st, S) := by
  unfold m_divL2 at hm
  split at hm
  next y x r =>
    split at hm
    next => cases hm
    next hy => cases hm; exact fun ls H locs cells slots hL hH hl hc hs => row x y ls _ H locs cells slots hy (kk ls H locs cells slots hL hH hl hc hs)
  next => cases hm
theorem m_cIW {f : Int32 → Value} (hf : ∀ x, mf (m_phi nE B ext) (f x) = f x) (row : ∀ (x : Int32) (ls : Array Slot) (rest : List Value) (H : Heap) (locs : List Loc) (cells slots : Nat), W p l e R s m args below meth c H locs cells slots Q (F0 m (pc + 1) ls (f x :: rest)) → W p l e R s m args below meth c H locs cells slots Q (F0 m pc ls (.int x :: rest)))
    (hm : m_cI pc ml st S f = some g') (kk : m_KK p l e R s m args below meth c Q mcl D aty tX nE B ext H0 nL K0 N0 g') : m_KK p l e R s m args below meth c Q mcl D aty tX nE B ext H0 nL K0 N0 (pc, ml, st, S) := by
  unfold m_cI at hm
  split at hm
  next x r =>
    cases hm
    intro ls H locs cells slots hL hH hl hc hs
    refine row x ls _ H locs cells slots ?_
    have q := kk ls H locs cells slots hL hH hl hc hs
    rw [← hf x]
    exact q
  next => cases hm
theorem m_cLW {f : Int64 → Value} (hf : ∀ x, mf (m_phi nE B ext) (f x) = f x) (row : ∀ (x : Int64) (ls : Array Slot) (rest : List Value) (H : Heap) (locs : List Loc) (cells slots : Nat), W p l e R s m args below meth c H locs cells slots Q (F0 m (pc + 1) ls (f x :: rest)) → W p l e R s m args below meth c H locs cells slots Q (F0 m pc ls (.long x :: rest)))
    (hm : m_cL pc ml st S f = some g') (kk : m_KK p l e R s m args below meth c Q mcl D aty tX nE B ext H0 nL K0 N0 g') : m_KK p l e R s m args below meth c Q mcl D aty tX nE B ext H0 nL K0 N0 (pc, ml, st, S) := by
  unfold m_cL at hm
  split at hm
  next x r =>
    cases hm
    intro ls H locs cells slots hL hH hl hc hs
    refine row x ls _ H locs cells slots ?_
    have q := kk ls H locs cells slots hL hH hl hc hs
    rw [← hf x]
    exact q
  next => cases hm
theorem m_lshW {f : Int64 → Int32 → Int64} (row : ∀ (x : Int64) (y : Int32) (ls : Array Slot) (rest : List Value) (H : Heap) (locs : List Loc) (cells slots : Nat), W p l e R s m args below meth c H locs cells slots Q (F0 m (pc + 1) ls (.long (f x y) :: rest)) → W p l e R s m args below meth c H locs cells slots Q (F0 m pc ls (.int y :: .long x :: rest)))
    (hm : m_lsh pc ml st S f = some g') (kk : m_KK p l e R s m args below meth c Q mcl D aty tX nE B ext H0 nL K0 N0 g') : m_KK p l e R s m args below meth c Q mcl D aty tX nE B ext H0 nL K0 N0 (pc, ml, st, S) := by
  unfold m_lsh at hm
  split at hm
  next y x r => cases hm; exact fun ls H locs cells slots hL hH hl hc hs => row x y ls _ H locs cells slots (kk ls H locs cells slots hL hH hl hc hs)
  next => cases hm
theorem m_ldIW {i n : Nat} (row : ∀ (x : Int32) (ls : Array Slot) (rest : List Value) (H : Heap) (locs : List Loc) (cells slots : Nat), ls[i]? = some (.val (.int x)) → W p l e R s m args below meth c H locs cells slots Q (F0 m (pc + n) ls (.int x :: rest)) → W p l e R s m args below meth c H locs cells slots Q (F0 m pc ls rest))
    (hm : m_ldI pc ml st S i n = some g') (kk : m_KK p l e R s m args below meth c Q mcl D aty tX nE B ext H0 nL K0 N0 g') : m_KK p l e R s m args below meth c Q mcl D aty tX nE B ext H0 nL K0 N0 (pc, ml, st, S) := by
  unfold m_ldI at hm
  split at hm
  next x hx => cases hm; exact fun ls H locs cells slots hL hH hl hc hs => row x ls _ H locs cells slots (hL.2.2.2 _ _ hx) (kk ls H locs cells slots hL hH hl hc hs)
  next => cases hm
theorem m_ldLW {i n : Nat} (row : ∀ (x : Int64) (ls : Array Slot) (rest : List Value) (H : Heap) (locs : List Loc) (cells slots : Nat), ls[i]? = some (.val (.long x)) → W p l e R s m args below meth c H locs cells slots Q (F0 m (pc + n) ls (.long x :: rest)) → W p l e R s m args below meth c H locs cells slots Q (F0 m pc ls rest))
    (hm : m_ldL pc ml st S i n = some g') (kk : m_KK p l e R s m args below meth c Q mcl D aty tX nE B ext H0 nL K0 N0 g') : m_KK p l e R s m args below meth c Q mcl D aty tX nE B ext H0 nL K0 N0 (pc, ml, st, S) := by
  unfold m_ldL at hm
  split at hm
  next x hx => cases hm; exact fun ls H locs cells slots hL hH hl hc hs => row x ls _ H locs cells slots (hL.2.2.2 _ _ hx) (kk ls H locs cells slots hL hH hl hc hs)
  next => cases hm
theorem m_ldAW {i n : Nat} (row : ∀ (x : Nat) (ls : Array Slot) (rest : List Value) (H : Heap) (locs : List Loc) (cells slots : Nat), ls[i]? = some (.val (.ref x)) → W p l e R s m args below meth c H locs cells slots Q (F0 m (pc + n) ls (.ref x :: rest)) → W p l e R s m args below meth c H locs cells slots Q (F0 m pc ls rest))
    (hm : m_ldA pc ml st S i n = some g') (kk : m_KK p l e R s m args below meth c Q mcl D aty tX nE B ext H0 nL K0 N0 g') : m_KK p l e R s m args below meth c Q mcl D aty tX nE B ext H0 nL K0 N0 (pc, ml, st, S) := by
  unfold m_ldA at hm
  split at hm
  next x hx => cases hm; exact fun ls H locs cells slots hL hH hl hc hs => row _ ls _ H locs cells slots (hL.2.2.2 _ _ hx) (kk ls H locs cells slots hL hH hl hc hs)
  next => cases hm
theorem m_stIW {i n : Nat} (row : ∀ (x : Int32) (lv : List (Nat × Value)) (ls : Array Slot) (rest : List Value) (H : Heap) (locs : List Loc) (cells slots : Nat), lv_has ls nL lv → i < nL → (∀ ls' : Array Slot, lv_has ls' nL ((i, Value.int x) :: lv.filter (fun q => !(q.1 == i) && !(q.1 + 1 == i && q.2.category == 2))) → W p l e R s m args below meth c H locs cells slots Q (F0 m (pc + n) ls' rest)) → W p l e R s m args below meth c H locs cells slots Q (F0 m pc ls (.int x :: rest)))
    (hm : m_stI pc ml st S i n = some g') (kk : m_KK p l e R s m args below meth c Q mcl D aty tX nE B ext H0 nL K0 N0 g') : m_KK p l e R s m args below meth c Q mcl D aty tX nE B ext H0 nL K0 N0 (pc, ml, st, S) := by
  unfold m_stI at hm
  split at hm
  next x r =>
    split at hm
    next hi =>
      cases hm
      exact fun ls H locs cells slots hL hH hl hc hs => row x _ ls _ H locs cells slots hL.has (by rw [← hL.1]; exact hi) (fun ls' h' => kk ls' H locs cells slots (hL.st1 (v := .int x) h') hH hl hc hs)
    next => cases hm
  next => cases hm
theorem m_stAW {i n : Nat} (row : ∀ (x : Nat) (lv : List (Nat × Value)) (ls : Array Slot) (rest : List Value) (H : Heap) (locs : List Loc) (cells slots : Nat), lv_has ls nL lv → i < nL → (∀ ls' : Array Slot, lv_has ls' nL ((i, Value.ref x) :: lv.filter (fun q => !(q.1 == i) && !(q.1 + 1 == i && q.2.category == 2))) → W p l e R s m args below meth c H locs cells slots Q (F0 m (pc + n) ls' rest)) → W p l e R s m args below meth c H locs cells slots Q (F0 m pc ls (.ref x :: rest)))
    (hm : m_stA pc ml st S i n = some g') (kk : m_KK p l e R s m args below meth c Q mcl D aty tX nE B ext H0 nL K0 N0 g') : m_KK p l e R s m args below meth c Q mcl D aty tX nE B ext H0 nL K0 N0 (pc, ml, st, S) := by
  unfold m_stA at hm
  split at hm
  next x r =>
    split at hm
    next hi =>
      cases hm
      exact fun ls H locs cells slots hL hH hl hc hs => row _ _ ls _ H locs cells slots hL.has (by rw [← hL.1]; exact hi) (fun ls' h' => kk ls' H locs cells slots (hL.st1 (v := .ref x) h') hH hl hc hs)
    next => cases hm
  next => cases hm
theorem m_stLW {i n : Nat} (row : ∀ (x : Int64) (lv : List (Nat × Value)) (ls : Array Slot) (rest : List Value) (H : Heap) (locs : List Loc) (cells slots : Nat), lv_has ls nL lv → i + 1 < nL → (∀ ls' : Array Slot, lv_has ls' nL ((i, Value.long x) :: lv.filter (fun q => !(q.1 == i) && (!(q.1 == i + 1) && !(q.1 + 1 == i && q.2.category == 2)))) → W p l e R s m args below meth c H locs cells slots Q (F0 m (pc + n) ls' rest)) → W p l e R s m args below meth c H locs cells slots Q (F0 m pc ls (.long x :: rest)))
    (hm : m_stL pc ml st S i n = some g') (kk : m_KK p l e R s m args below meth c Q mcl D aty tX nE B ext H0 nL K0 N0 g') : m_KK p l e R s m args below meth c Q mcl D aty tX nE B ext H0 nL K0 N0 (pc, ml, st, S) := by
  unfold m_stL at hm
  split at hm
  next x r =>
    split at hm
    next hi =>
      cases hm
      exact fun ls H locs cells slots hL hH hl hc hs => row x _ ls _ H locs cells slots hL.has (by rw [← hL.1]; exact hi) (fun ls' h' => kk ls' H locs cells slots (hL.st2 (v := .long x) h') hH hl hc hs)
    next => cases hm
  next => cases hm
theorem m_incW (hx : p.tables.exec = Jvm.exec) (hb : c.code = cc) {i : Nat} {n : Int} (hd : decode cc pc = .ok (.iinc i n, 3)) (hm : m_inc pc ml st S i n = some g') (kk : m_KK p l e R s m args below meth c Q mcl D aty tX nE B ext H0 nL K0 N0 g') : m_KK p l e R s m args below meth c Q mcl D aty tX nE B ext H0 nL K0 N0 (pc, ml, st, S) := by
  unfold m_inc at hm
  split at hm
  next x hxx =>
    split at hm
    next hi =>
      cases hm
      intro ls H locs cells slots hL hH hl hc hs
      obtain ⟨k, hk⟩ := List.mem_iff_getElem?.mp (m_al_mem (m_phi nE B ext) hxx)
      exact lv_iinc hx hb hd hL.has hk rfl (by rw [← hL.1]; exact hi) rfl (fun ls' h' => kk ls' H locs cells slots (hL.st1 (v := .int (x + Int32.ofInt n)) h') hH hl hc hs)
    next => cases hm
  next => cases hm
theorem m_ifW (hx : p.tables.exec = Jvm.exec) (hb : c.code = cc) {q : ClassFile.Cond} {off : Int} {a : Nat} (hd : decode cc pc = .ok (.ifCond q off, 3)) (ht : (pc : Int) + off = (a : Int)) (hm : m_if pc ml st S q a = some g') (kk : m_KK p l e R s m args below meth c Q mcl D aty tX nE B ext H0 nL K0 N0 g') : m_KK p l e R s m args below meth c Q mcl D aty tX nE B ext H0 nL K0 N0 (pc, ml, st, S) := by
  unfold m_if at hm
  split at hm
  next x r =>
    intro ls H locs cells slots hL hH hl hc hs
    cases q <;> simp only at hm
    · refine lv_if_eq hx hb hd ht (fun h => ?_) (fun h => ?_) <;> simp only [h, if_true, if_false] at hm <;> cases hm <;> exact kk ls H locs cells slots hL hH hl hc hs
    · refine lv_if_ne hx hb hd ht (fun h => ?_) (fun h => ?_) <;> simp only [h, if_true, if_false] at hm <;> cases hm <;> exact kk ls H locs cells slots hL hH hl hc hs
    · refine lv_if_lt hx hb hd ht (fun h => ?_) (fun h => ?_) <;> simp only [h, if_true, if_false] at hm <;> cases hm <;> exact kk ls H locs cells slots hL hH hl hc hs
    · refine lv_if_ge hx hb hd ht (fun h => ?_) (fun h => ?_) <;> simp only [h, if_true, if_false] at hm <;> cases hm <;> exact kk ls H locs cells slots hL hH hl hc hs
    · refine lv_if_gt hx hb hd ht (fun h => ?_) (fun h => ?_) <;> simp only [h, if_true, if_false] at hm <;> cases hm <;> exact kk ls H locs cells slots hL hH hl hc hs
    · refine lv_if_le hx hb hd ht (fun h => ?_) (fun h => ?_) <;> simp only [h, if_true, if_false] at hm <;> cases hm <;> exact kk ls H locs cells slots hL hH hl hc hs
  next => cases hm
theorem m_icmpW (hx : p.tables.exec = Jvm.exec) (hb : c.code = cc) {q : ClassFile.Cond} {off : Int} {a : Nat} (hd : decode cc pc = .ok (.if_icmp q off, 3)) (ht : (pc : Int) + off = (a : Int)) (hm : m_icmp pc ml st S q a = some g') (kk : m_KK p l e R s m args below meth c Q mcl D aty tX nE B ext H0 nL K0 N0 g') : m_KK p l e R s m args below meth c Q mcl D aty tX nE B ext H0 nL K0 N0 (pc, ml, st, S) := by
  unfold m_icmp at hm
  split at hm
  next y x r =>
    intro ls H locs cells slots hL hH hl hc hs
    cases q <;> simp only at hm
    · refine lv_icmp_eq hx hb hd ht (fun h => ?_) (fun h => ?_) <;> simp only [h, if_true, if_false] at hm <;> cases hm <;> exact kk ls H locs cells slots hL hH hl hc hs
    · refine lv_icmp_ne hx hb hd ht (fun h => ?_) (fun h => ?_) <;> simp only [h, if_true, if_false] at hm <;> cases hm <;> exact kk ls H locs cells slots hL hH hl hc hs
    · refine lv_icmp_lt hx hb hd ht (fun h => ?_) (fun h => ?_) <;> simp only [h, if_true, if_false] at hm <;> cases hm <;> exact kk ls H locs cells slots hL hH hl hc hs
    · refine lv_icmp_ge hx hb hd ht (fun h => ?_) (fun h => ?_) <;> simp only [h, if_true, if_false] at hm <;> cases hm <;> exact kk ls H locs cells slots hL hH hl hc hs
    · refine lv_icmp_gt hx hb hd ht (fun h => ?_) (fun h => ?_) <;> simp only [h, if_true, if_false] at hm <;> cases hm <;> exact kk ls H locs cells slots hL hH hl hc hs
    · refine lv_icmp_le hx hb hd ht (fun h => ?_) (fun h => ?_) <;> simp only [h, if_true, if_false] at hm <;> cases hm <;> exact kk ls H locs cells slots hL hH hl hc hs
  next => cases hm
end One
