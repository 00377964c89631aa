/-! 'new int[8][9000]' -/
section Mul
variable {p : Program} {l : Launch} {e : Env} {R : Room} {s : State} {m : MethodId} {args : Array Value} {below : List Frame} {meth : Method} {c : Code} {locs : List Loc} {cells slots : Nat}
/-- the outer row with i inner rows laid -/
def m_ou (cA : ClassId) (h0 i : Nat) : Cell := { cls := cA, slots := ((List.range 8).map (fun k => if k < i then Value.ref (h0 + 1 + k) else .null)).toArray, vm := .none }
def m_inr (cI : ClassId) : Cell := { cls := cI, slots := Array.replicate 9000 (.int 0), vm := .none }
theorem m_ou_set (cA : ClassId) (h0 i : Nat) (hi : i < 8) : (m_ou cA h0 i).setSlot i (.ref (h0 + 1 + i)) = m_ou cA h0 (i + 1) := by
  have e : ((List.range 8).map (fun k => if k < i then Value.ref (h0 + 1 + k) else .null)).set i (.ref (h0 + 1 + i)) = (List.range 8).map (fun k => if k < i + 1 then Value.ref (h0 + 1 + k) else .null) := by
    apply List.ext_getElem?
    intro k
    by_cases hk : k = i
    · subst hk
      rw [List.getElem?_set_self (by simpa using hi)]
      simp [hi]
    · rw [List.getElem?_set_ne (Ne.symm hk)]
      simp only [List.getElem?_map]
      cases hr : (List.range 8)[k]? with
      | none => rfl
      | some z =>
        have hz : z = k := by
          have h8 : k < 8 := by
            have := (List.getElem?_eq_some_iff.mp hr).1
            simpa using this
          rw [List.getElem?_range h8] at hr
          exact (Option.some.inj hr).symm
        subst hz
        simp only [Option.map_some]
        congr 1
        by_cases h1 : z < i
        · rw [if_pos h1, if_pos (by omega)]
        · rw [if_neg h1, if_neg (by omega)]
  unfold m_ou Cell.setSlot
  simp only [List.setIfInBounds_toArray, e]
/-- what stands when i inner rows are laid -/
def m_mst (p : Program) (l : Launch) (e : Env) (R : Room) (s : State) (m : MethodId) (args : Array Value) (below : List Frame) (meth : Method) (c : Code) (locs : List Loc) (cells slots : Nat) (T : State) (cA cI : ClassId) (i : Nat) (U : State) : Prop :=
  Stand p l e R s m args below meth c U locs (cells + 1 + i) (slots + 8 + 9000 * i) ∧ U.vm = T.vm ∧ U.heap.size = T.heap.size + 1 + i ∧ U.heap[T.heap.size]? = some (m_ou cA T.heap.size i) ∧ (∀ j, j < i → U.heap[T.heap.size + 1 + j]? = some (m_inr cI)) ∧ ∀ q, q < T.heap.size → U.heap[q]? = T.heap[q]?
/-- that state -/
def m_rw (T : State) (cA cI : ClassId) : Nat → State
  | 0 => T.pushCell { cls := cA, slots := Array.replicate 8 .null, vm := .none }
  | i + 1 => ((m_rw T cA cI i).pushCell (m_inr cI)).setCell T.heap.size ((m_ou cA T.heap.size i).setSlot i (.ref (m_rw T cA cI i).heap.size))
theorem m_mst.zero {T : State} {cA cI : ClassId} (X : Stand p l e R s m args below meth c T locs cells slots) : m_mst p l e R s m args below meth c locs cells slots T cA cI 0 (T.pushCell { cls := cA, slots := Array.replicate 8 .null, vm := .none }) := by
  have e0 : ({ cls := cA, slots := Array.replicate 8 .null, vm := .none } : Cell) = m_ou cA T.heap.size 0 := by
    unfold m_ou
    congr 1
  refine ⟨by simpa using X.pushed { cls := cA, slots := Array.replicate 8 .null, vm := .none }, rfl, by simp, ?_, fun j hj => absurd hj (Nat.not_lt_zero _), fun q hq => State.heap_pushCell_of_lt _ _ hq⟩
  rw [State.heap_pushCell_size, e0]
theorem m_mst.next {T U : State} {cA cI : ClassId} {i : Nat} (hi : i < 8) (hT : s.heap.size ≤ T.heap.size) (h : m_mst p l e R s m args below meth c locs cells slots T cA cI i U) : m_mst p l e R s m args below meth c locs cells slots T cA cI (i + 1) ((U.pushCell (m_inr cI)).setCell T.heap.size ((m_ou cA T.heap.size i).setSlot i (.ref U.heap.size))) := by
  obtain ⟨X, h1, h2, h3, h4, h5⟩ := h
  have hlt : T.heap.size < U.heap.size := by omega
  have hc : (U.pushCell (m_inr cI)).heap[T.heap.size]? = some (m_ou cA T.heap.size i) := by rw [State.heap_pushCell_of_lt _ _ hlt]; exact h3
  have X1 := X.pushed (m_inr cI)
  have X2 := X1.stored hc i (.ref U.heap.size)
  have X3 := Stand.forget (extra := [⟨T.heap.size, i⟩]) X2 (fun y hy => by rw [List.mem_singleton.mp hy]; exact hT)
  have e1 : slots + 8 + 9000 * i + (m_inr cI).slots.size = slots + 8 + 9000 * (i + 1) := by
    show _ + (Array.replicate 9000 (Value.int 0)).size = _
    simp
    omega
  rw [e1, show cells + 1 + i + 1 = cells + 1 + (i + 1) by omega] at X3
  refine ⟨X3, h1, ?_, ?_, fun j hj => ?_, fun q hq => ?_⟩
  · rw [size_setCell, size_pushCell]
    omega
  · have hl2 : T.heap.size < (U.pushCell (m_inr cI)).heap.size := by rw [size_pushCell]; omega
    have := heapAt_setCell_self (s := U.pushCell (m_inr cI)) ((m_ou cA T.heap.size i).setSlot i (.ref U.heap.size)) hl2
    rw [this, h2, m_ou_set _ _ _ hi]
  · have hne : T.heap.size ≠ T.heap.size + 1 + j := by omega
    rw [heapAt_setCell_ne _ hne]
    by_cases hj2 : j < i
    · have hl3 : T.heap.size + 1 + j < U.heap.size := by omega
      rw [State.heap_pushCell_of_lt _ _ hl3]
      exact h4 j hj2
    · have : T.heap.size + 1 + j = U.heap.size := by omega
      rw [this]
      exact State.heap_pushCell_size _ _
  · have hl4 : q < U.heap.size := by omega
    rw [heapAt_setCell_ne _ (Nat.ne_of_gt hq), State.heap_pushCell_of_lt _ _ hl4]
    exact h5 q hq
variable {E : CtlPost} {d : Bool} {acts : List Action}
theorem m_wmake {T : State} {f : JFrame} {cA cI cc : ClassId} {kA kI : Class} (X : Stand p l e R s m args below meth c T locs cells slots) (hT : s.heap.size ≤ T.heap.size) (hkA : T.vm.classes[cA]? = some kA) (hA : kA.kind = .array cI (.array .int)) (hkI : T.vm.classes[cI]? = some kI) (hI : kI.kind = .array cc .int)
    (hc : cells + 9 ≤ R.cells) (hs : slots + 72008 ≤ R.slots) {Q : Addr → Pre} (hq : ∀ d' acts', m_mst p l e R s m args below meth c locs cells slots T cA cI 8 (m_rw T cA cI 8) → Q T.heap.size d' acts' ((m_rw T cA cI 8).setTop f)) :
    wp (Op.multianewarray.make cA [8, 9000]) Q E e d acts (T.setTop f) := by
  have hlim : e.platform.arrayLengthLimit = 2147483645 ∨ True := Or.inr trivial
  have hl1 : ¬ 8 > e.platform.arrayLengthLimit := by rw [Launch.admits_arrayLengthLimit X.admits]; omega
  have hl2 : ¬ 9000 > e.platform.arrayLengthLimit := by rw [Launch.admits_arrayLengthLimit X.admits]; omega
  have hh1 : ¬ 8 * componentBytes (.array .int) > e.platform.maxHeapBytes := by rw [Launch.admits_maxHeapBytes X.admits]; decide
  have hh2 : ¬ 9000 * componentBytes .int > e.platform.maxHeapBytes := by rw [Launch.admits_maxHeapBytes X.admits]; decide
  have n8 : (8 : Int32).toNatClampNeg = 8 := by decide
  have n9 : (9000 : Int32).toNatClampNeg = 9000 := by decide
  obtain ⟨c1, c2⟩ := X.roomAbove (show cells + 1 ≤ R.cells by omega) (show slots + 8 ≤ R.slots by omega)
  rw [Op.multianewarray.make]
  simp only [wp_bind', W.ite, show ¬ ((8 : Int32) < 0) by decide, if_false, wp_pure', W.theClass, State.vm_setTop, hkA, hA, Option.some.injEq, exists_eq_left', n8]
  refine W.newArray_of (s := T.setTop f) (by simpa using hkA) hA hl1 hh1 (by show T.heap.size < _; omega) (by simpa using c2) rfl (fun acts' => ?_)
  have hfind : ([(9000 : Int32)].find? (· < 0)) = none := by decide
  simp only [hfind]
  rw [ite_self, wp_bind', Std.Legacy.Range.forIn_eq_forIn_range']
  show wp (forIn (List.range' 0 8 1) PUnit.unit _) _ E e d acts' _
  refine wp_forIn_inv (fun rest s' => ∃ (i : Nat) (U : State), i ≤ 8 ∧ rest = List.range' i (8 - i) ∧ s' = U.setTop f ∧ m_mst p l e R s m args below meth c locs cells slots T cA cI i U ∧ U = m_rw T cA cI i) _ _ ⟨0, _, Nat.zero_le _, rfl, State.pushCell_setTop _ _ _, m_mst.zero X, rfl⟩ ?_ ?_
  · rintro x rest s' d' acts'' Q' ⟨i, U, hi, hl, rfl, hm, hU⟩ hnext
    have hi8 : i < 8 := by
      rcases Nat.lt_or_ge i 8 with h | h
      · exact h
      · rw [show 8 - i = 0 by omega] at hl
        cases hl
    rw [show 8 - i = (8 - (i + 1)) + 1 by omega, List.range'_succ] at hl
    obtain ⟨rfl, hl⟩ := List.cons.inj hl
    have hmx := hm.next hi8 hT
    obtain ⟨XU, v1, v2, v3, v4, v5⟩ := hm
    obtain ⟨r1, r2⟩ := XU.roomAbove (show cells + 1 + x + 1 ≤ R.cells by omega) (show slots + 8 + 9000 * x + 9000 ≤ R.slots by omega)
    simp only [wp_bind']
    rw [Op.multianewarray.make]
    simp only [wp_bind', W.ite, show ¬ ((9000 : Int32) < 0) by decide, if_false, wp_pure', W.theClass, State.vm_setTop, v1, hkI, hI, Option.some.injEq, exists_eq_left', n9]
    refine W.newArray_of (s := U.setTop f) (by simpa [v1] using hkI) hI hl2 hh2 (by show U.heap.size < _; omega) (by simpa using r2) rfl (fun acts3 => ?_)
    simp only [wp_bind', W.writeLoc, wp_pure']
    have hlt : T.heap.size < U.heap.size := by omega
    have hc1 : (U.pushCell (m_inr cI)).heap[T.heap.size]? = some (m_ou cA T.heap.size x) := by rw [State.heap_pushCell_of_lt _ _ hlt]; exact v3
    refine ⟨m_ou cA T.heap.size x, hc1, (fun z => by cases z), (by simp [m_ou]; omega), ?_, hnext _ _ _ ⟨x + 1, _, hi8, hl, ?_, hmx, by rw [hU]; rfl⟩⟩
    · have hk1 : U.vm.classes[cA]? = some kA := by rw [v1]; exact hkA
      simp [State.fitsSlot, State.slotType?, m_ou, hk1, hA, fits]
    · rfl
  · rintro s' d' acts'' ⟨i, U, hi, hl, rfl, hm, hU⟩
    have h8 : i = 8 := by
      rcases Nat.lt_or_ge i 8 with h | h
      · rw [show 8 - i = (8 - (i + 1)) + 1 by omega, List.range'_succ] at hl
        cases hl
      · omega
    subst h8
    subst hU
    simp only [wp_pure']
    exact hq _ _ hm
end Mul
section MulW
variable {p : Program} {l : Launch} {e : Env} {R : Room} {s : State} {m : MethodId} {args : Array Value} {below : List Frame} {meth : Method} {c : Code} {Q : State → Prop}
variable {mcl : List vw_C} {D : va_G} {aty : Nat → FieldType} {tX nE B : Nat} {ext : mF} {H0 : Heap} {nL K0 N0 : Nat}
variable {pc : Nat} {ml : mL} {st : List Value} {S : mS} {g' : mG} {cc : ByteArray}
theorem m_rep (n : Nat) (v : Value) : Array.replicate n v = (List.replicate n v).toArray := by simp
/-- the new cells behind the heap -/
theorem m_HR.rows {h : mH} {H H' : Heap} {cA cI cc : ClassId} {kA kI : Class} (hR : m_HR mcl D aty tX nE B ext H0 s h H) (hat : aty 1001 = .int ∧ aty 1004 = .array .int) (hkA : s.vm.classes[cA]? = some kA) (hA : kA.kind = .array cI (.array .int)) (hkI : s.vm.classes[cI]? = some kI) (hI : kI.kind = .array cc .int)
    (e1 : H'.size = H.size + 9) (e2 : H'[H.size]? = some (m_ou cA H.size 8)) (e3 : ∀ j, j < 8 → H'[H.size + 1 + j]? = some (m_inr cI)) (e4 : ∀ q, q < H.size → H'[q]? = H[q]?) :
    m_HR mcl D aty tX nE B ext H0 s (h ++ (1004, (List.range 8).map (fun k => Value.ref (h.length + 1 + k))) :: List.replicate 8 (1001, List.replicate 9000 (Value.int 0))) H' := by
  have hn := hR.next
  obtain ⟨h1, h2, h3, h4, h5⟩ := hR
  have had : ∀ k, h.length ≤ k → m_ad nE B ext k = H.size + (k - h.length) := by
    intro k hk
    rw [m_phi_new (by omega)]
    omega
  refine ⟨by rw [e1, List.length_append, List.length_cons, List.length_replicate]; omega, by rw [List.length_append]; omega, h3, fun q hq => ?_, fun k c hk => ?_⟩
  · rw [e4 q (by omega)]
    exact h4 q hq
  · by_cases hlt : k < h.length
    · rw [List.getElem?_append_left hlt] at hk
      obtain ⟨x, a1, a2⟩ := h5 k c hk
      exact ⟨x, by rw [e4 _ (Array.getElem?_eq_some_iff.mp a1).1]; exact a1, a2⟩
    · rw [List.getElem?_append_right (by omega)] at hk
      rw [had k (by omega)]
      cases hz : k - h.length with
      | zero =>
        rw [hz] at hk
        simp only [List.getElem?_cons_zero] at hk
        cases hk
        refine ⟨_, e2, fun _ => rfl, fun z => (by cases z), rfl, fun z => absurd z (show ¬ (1004 < 1000) by decide), fun _ => ⟨⟨kA, cI, hkA, by rw [hA]; exact congrArg _ hat.2.symm, fun z => by cases z⟩, ?_, fun z => by cases z⟩⟩
        show ((List.range 8).map (fun k => if k < 8 then Value.ref (H.size + 1 + k) else .null)).toArray = _
        congr 1
        rw [List.map_map]
        apply List.map_congr_left
        intro q hq
        have hq8 : q < 8 := List.mem_range.mp hq
        rw [if_pos hq8]
        show _ = Value.ref (m_ad nE B ext (h.length + 1 + q))
        rw [had _ (by omega), show h.length + 1 + q - h.length = 1 + q by omega, Nat.add_assoc]
      | succ j =>
        rw [hz] at hk
        simp only [List.getElem?_cons_succ, List.getElem?_replicate] at hk
        split at hk
        · next hj =>
          cases hk
          refine ⟨m_inr cI, by rw [← e3 j hj]; congr 1; omega, fun _ => rfl, fun z => (by cases z), rfl, fun z => absurd z (show ¬ (1001 < 1000) by decide), fun _ => ⟨⟨kI, cc, hkI, by rw [hI]; exact congrArg _ hat.1.symm, fun z => by cases z⟩, ?_, fun z => by cases z⟩⟩
          show Array.replicate 9000 (Value.int 0) = ((List.replicate 9000 (Value.int 0)).map (mf (m_phi nE B ext))).toArray
          rw [List.map_replicate]
          exact m_rep 9000 (.int 0)
        · cases hk
theorem m_after {U t : State} {f : JFrame} {n : Nat} {acts : List Action} (ht : U.topJava?.isSome) (a : Steps p.tables e below (U.setTop { f with pc := f.pc + n }) t) : Steps p.tables e below (afterInstr e n (.ok () (U.setTop f) acts)).1 t := by
  obtain ⟨f0, h0⟩ := Option.isSome_iff_exists.mp ht
  have e1 : (U.setTop f).modifyTopJava (fun f => { f with pc := f.pc + n }) = U.setTop { f with pc := f.pc + n } := by
    rw [State.modifyTopJava_eq_setTop _ (State.topJava?_setTop' f ht)]
    simp [ht]
  have e2 : (afterInstr e n (.ok () (U.setTop f) acts)).1 = (U.setTop f).modifyTopJava (fun f => { f with pc := f.pc + n }) := by simp [afterInstr]
  rw [e2, e1]
  exact a
set_option maxRecDepth 100000 in
theorem m_mulW (hx : p.tables.exec = Jvm.exec) (hb : c.code = cc) {own : String} {idx : Nat} (hown : s.vm.findClass own = some m.cls) (hcl : (Cond.classLink own idx "[[I").before args s = true) (hai : (Cond.arrayClass .int).before args s = true) (hov : (Cond.arrayOver (.array .int)).before args s = true) (hat : aty 1001 = .int ∧ aty 1004 = .array .int)
    (hK0 : K0 ≤ R.cells) (hN0 : N0 ≤ R.slots) (hd : decode cc pc = .ok (.multianewarray idx 2, 4)) (hm : m_mul pc ml st S = some g') (kk : m_KK p l e R s m args below meth c Q mcl D aty tX nE B ext H0 nL K0 N0 g') : m_KK p l e R s m args below meth c Q mcl D aty tX nE B ext H0 nL K0 N0 (pc, ml, st, S) := by
  unfold m_mul at hm
  split at hm
  next j i rest =>
    split at hm
    next hq =>
      obtain ⟨rfl, rfl, hc9, hs9⟩ := hq
      cases hm
      intro ls H locs cells slots hL hH hl hcc hss T hT X
      have hcc' : cells + S.2.1 ≤ K0 := hcc
      have hss' : slots + S.2.2 ≤ N0 := hss
      have hpl : e.platform.magicAccessors = ({} : Platform).magicAccessors := by rw [X.admits.platform]
      obtain ⟨cI, cA, kA, hcomp, -, hkA, hkindA, hnameA⟩ := arrayOverA_spec hov
      obtain ⟨cI', kI, compI, hnI, hkI, hkindI⟩ := Cond.arrayClass_spec hai
      cases (show some cI = some cI' from hcomp.symm.trans hnI)
      obtain ⟨c', hfc', hlk⟩ := Cond.classLink_spec hown hcl e.platform hpl
      cases (show some cA = some c' from hnameA.symm.trans hfc')
      obtain ⟨hg₁, hwarm₁, hready₁⟩ := State.classEntry (e := e) X.warmed hlk
      generalize hvm : T.vm.noted m.cls idx (.cls cA) = vm₁ at hg₁ hwarm₁ hready₁
      have X₁ := X.noted hwarm₁
      have hal := hwarm₁.alike
      obtain ⟨kA₁, hkA₁, heA⟩ := hal.2.2 _ _ hkA
      obtain ⟨kI₁, hkI₁, heI⟩ := hal.2.2 _ _ hkI
      have hsz : vm₁.classes.size ≤ T.vm.classes.size := by rw [← hvm]; no_record
      have hTs : s.heap.size ≤ T.heap.size := X.same.2.1
      have h9000 : slots + 72008 ≤ R.slots := by omega
      have hms : m_mst p l e R s m args below meth c locs cells slots (T.setVm vm₁) cA cI 8 (m_rw (T.setVm vm₁) cA cI 8) := by
        have hz : ∀ i, i ≤ 8 → m_mst p l e R s m args below meth c locs cells slots (T.setVm vm₁) cA cI i (m_rw (T.setVm vm₁) cA cI i) := by
          intro i
          induction i with
          | zero => exact fun _ => m_mst.zero X₁
          | succ i ih => exact fun hi => (ih (by omega)).next (by omega) hTs
        exact hz 8 (Nat.le_refl _)
      have hwp : ∀ (d : Bool) (acts : List Action) (Q' : Unit → Pre) (E : CtlPost), (∀ d' acts', Q' () d' acts' ((m_rw (T.setVm vm₁) cA cI 8).setTop (F0 m pc ls (.ref T.heap.size :: rest.map (mf (m_phi nE B ext)))))) → wp (Op.multianewarray.sem idx 2) Q' E e d acts (T.setTop (F0 m pc ls (.int 9000 :: .int 8 :: rest.map (mf (m_phi nE B ext))))) := by
        intro d acts Q' E hQ
        unfold Op.multianewarray.sem
        simp only [wp_bind']
        rw [W.resolveClassAt_transfer (s := T.setTop _) (m := m) (State.method?_setTop _ X.here.top) hg₁ hready₁ hsz]
        rw [W.resolveClassAt_ready (m := m) (State.method?_setTop _ X.here.top) hready₁]
        simp only [wp_bind']
        show wp (Jvm.popN ([Value.int 8, Value.int 9000] : List Value).length) _ E e d acts ((T.setVm vm₁).setTop (F0 m pc ls (.int 9000 :: .int 8 :: rest.map (mf (m_phi nE B ext)))))
        rw [Op.popN_top (s := T.setVm vm₁) (f := F0 m pc ls (.int 9000 :: .int 8 :: rest.map (mf (m_phi nE B ext)))) X₁.here.top (args := [.int 8, .int 9000]) (rest := rest.map (mf (m_phi nE B ext))) rfl]
        simp only [List.mapM_cons, List.mapM_nil, wp_bind', wp_pure']
        refine m_wmake X₁ hTs hkA₁ (by rw [heA]; exact hkindA) hkI₁ (by rw [heI]; exact hkindI) (by omega) (by omega) (fun d' acts' hU => ?_)
        have ht := hU.1.here.top
        simp [jvm, ht]
        exact hQ true acts'
      obtain ⟨XU, u1, u2, u3, u4, u5⟩ := hms
      have hk2 : m_HR mcl D aty tX nE B ext H0 s (S.1 ++ (1004, (List.range 8).map (fun k => Value.ref (S.1.length + 1 + k))) :: List.replicate 8 (1001, List.replicate 9000 (Value.int 0))) (m_rw (T.setVm vm₁) cA cI 8).heap := by
        have hTH : (T.setVm vm₁).heap = H := hT
        rw [hTH] at u2 u3 u4 u5
        exact hH.rows hat hkA hkindA hkI hkindI (by omega) u3 u4 u5
      obtain ⟨t, a1, b1⟩ := kk ls _ locs (cells + 9) (slots + 72008) hL hk2 hl (by show cells + 9 + (S.2.1 - 9) ≤ K0; omega) (by show slots + 72008 + (S.2.2 - 72008) ≤ N0; omega) (m_rw (T.setVm vm₁) cA cI 8) rfl (by simpa using XU)
      refine ⟨t, ?_, b1⟩
      refine Steps.instr (c := _) (by simpa using X.here) ?_
      simp [jvm, wpRun, exec, X.here.top, hx, hb, hd]
      refine hwp _ _ _ _ (fun d' acts' acts => ?_)
      have ht := XU.here.top
      have e9 : m_ad nE B ext S.1.length = T.heap.size := by rw [hT]; exact hH.next
      have a2 : Steps p.tables e below ((m_rw (T.setVm vm₁) cA cI 8).setTop (F0 m (pc + 4) ls (.ref (m_ad nE B ext S.1.length) :: rest.map (mf (m_phi nE B ext))))) t := a1
      rw [e9] at a2
      exact m_after ht a2
    next => cases hm
  next => cases hm
end MulW
