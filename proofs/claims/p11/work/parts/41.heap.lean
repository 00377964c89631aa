section HeapW
variable {p : Program} {l : Launch} {e : Env} {R : Room} {s : State} {m : MethodId} {args : Array Value} {below : List Frame} {meth : Method} {c : Code} {Q : State → Prop}
variable {mcl : List vw_C} {D : va_G} {aty : Nat → FieldType} {tX nE B : Nat} {ext : mF} {H0 : Heap} {nL K0 N0 : Nat}
variable {pc : Nat} {ml : mL} {st : List Value} {S : mS} {g' : mG} {cc : ByteArray}
/-- a field's link: within the class, or in a nest mate -/
def m_fl (s : State) (args : Array Value) (own : String) (index : Nat) (ref name desc : String) : Prop :=
  (Cond.fieldLink own index ref name desc).before args s = true ∨ ∃ host, (Cond.fieldLinkNest own index ref name desc host).before args s = true
/-- the classes, by their numbers: their fields' places -/
def m_KN (mcl : List vw_C) (D : va_G) (U : State) : Prop := ∀ (a : Nat) (C : String) (T : u_T) (N : Nat), mcl[a]? = some (C, T, N) →
  (∀ k, k < N → SlotIs U (T k).1 (T k).2.1 (T k).2.2.1 (D.2 a k)) ∧ U.vm.findClass C = some (D.1 a) ∧ ∃ kC : Class, U.vm.classes[D.1 a]? = some kC
theorem m_KN.moved {u U : State} (hvm : u.vm.Alike U.vm) (h : m_KN mcl D u) : m_KN mcl D U := by
  intro a C T N hc
  obtain ⟨h1, h2, kC, h3⟩ := h a C T N hc
  obtain ⟨k', hk', -⟩ := hvm.2.2 _ _ h3
  exact ⟨fun k hk => slotIs_moved hvm (h1 k hk), by rw [hvm.findClass]; exact h2, k', hk'⟩
/-- the classes' fields are no statics -/
def m_CL (mcl : List vw_C) (s : State) : Prop := ∀ (a : Nat) (C : String) (T : u_T) (N : Nat), mcl[a]? = some (C, T, N) → ∀ k, k < N → ∀ (cf : ClassId) (kf : Class) (fi : Nat) (f : Field), s.fieldFound? (T k).1 (T k).2.1 (T k).2.2.1 = some (cf, kf, fi, f) → f.isStatic = false
/-- a class's fields as the tables lay them -/
def m_LY (C : String) (T : u_T) (N : Nat) (s : State) : Prop :=
  (∀ k, k < N → ∀ args, (u_lay C T k).before args s = true) ∧ (∀ k, k < N → ∃ ty, parseFieldDescriptor (T k).2.2.1 = some ty) ∧ ∀ x, x < N → ∀ y, y < N → x ≠ y → (T x).2.1 ≠ (T y).2.1
theorem m_lays (args : Array Value) {C : String} {T : u_T} {N k : Nat} (hY : m_LY C T N s) (hk : k < N) :
    (Cond.lays C (T k).1 (T k).2.1 (T k).2.2.1).before args s = true ∨ (Cond.laysFinal C (T k).1 (T k).2.1 (T k).2.2.1).before args s = true := by
  have h := hY.1 k hk args
  unfold u_lay at h
  split at h
  · exact Or.inr h
  · exact Or.inl h
theorem m_apart {a : Nat} {C : String} {T : u_T} {N : Nat} (hY : m_LY C T N s) (hK : m_KN mcl D s) (hc : mcl[a]? = some (C, T, N)) : ∀ x y, x < N → y < N → x ≠ y → (D.2 a) x ≠ (D.2 a) y := by
  intro x y hx hy hne
  obtain ⟨hS, -⟩ := hK a _ _ _ hc
  obtain ⟨_, _, _, fa, hia, ea⟩ := hS x hx
  obtain ⟨_, _, _, fb, hib, eb⟩ := hS y hy
  rw [← ea, ← eb]
  obtain ⟨-, ht, hn⟩ := id hY
  obtain ⟨tx, htx⟩ := ht x hx
  obtain ⟨ty, hty⟩ := ht y hy
  refine u_apart (m_lays #[] hY hx) (m_lays #[] hY hy) hia hib ?_
  rw [(State.fieldFound?_type hia htx).1, (State.fieldFound?_type hib hty).1]
  exact hn x hx y hy hne
theorem m_getW (hx : p.tables.exec = Jvm.exec) (hb : c.code = cc) {own : String} {idx a b : Nat} {C : String} {T : u_T} {N : Nat} (hown : s.vm.findClass own = some m.cls) (hC : m_CL mcl s) (hK : m_KN mcl D s) (hc : mcl[a]? = some (C, T, N)) (hk : b < N) (ha : a < 1000)
    (hlink : m_fl s args own idx (T b).1 (T b).2.1 (T b).2.2.1) (hd : decode cc pc = .ok (.getfield idx, 3)) (hm : m_get pc ml st S a b = some g') (kk : m_KK p l e R s m args below meth c Q mcl D aty tX nE B ext H0 nL K0 N0 g') : m_KK p l e R s m args below meth c Q mcl D aty tX nE B ext H0 nL K0 N0 (pc, ml, st, S) := by
  unfold m_get at hm
  split at hm
  next r rest =>
    split at hm
    next t fs hr =>
      split at hm
      next ht =>
        subst ht
        split at hm
        next v hv =>
          cases hm
          intro ls H locs cells slots hL hH hl hcc hss
          obtain ⟨x, q1, -, q3, q4, q5, -⟩ := hH.2.2.2.2 r _ hr
          obtain ⟨r1, -, r3⟩ := q5 ha
          obtain ⟨hS, -⟩ := hK _ _ _ _ hc
          obtain ⟨cf, kf, fi, f, hi, hsl⟩ := hS b hk
          have hst := hC _ _ _ _ hc b hk _ _ _ _ hi
          have hslot : x.slots[f.slot]? = some (mf (m_phi nE B ext) v) := by rw [hsl]; exact r3 b v hv
          rcases hlink with hlink | ⟨host, hlink⟩
          · exact W.getf hx hb hown hlink hi hst q1 q3 hslot rfl rfl hd (kk ls H locs cells slots hL hH hl hcc hss)
          · exact va_Wgetf hx hb hown hlink hi hst q1 q3 hslot rfl rfl hd (kk ls H locs cells slots hL hH hl hcc hss)
        next => cases hm
      next => cases hm
    next => cases hm
  next => cases hm
/-- which types a kind of field stands for -/
def m_kty (k : Nat) (ty : FieldType) : Prop := (k = 0 ∧ ty = .int) ∨ (k = 1 ∧ ty = .boolean) ∨ (k = 2 ∧ ((∃ n, ty = .object n) ∨ ∃ t, ty = .array t)) ∨ (k = 3 ∧ ty = .long)
theorem m_fit_ok {k : Nat} {ty : FieldType} {v : Value} (φ : mF) (h : m_kty k ty) (hf : m_fit k v = true) : narrow ty (mf φ v) = mf φ v ∧ fits ty (mf φ v) = true := by
  rcases h with ⟨rfl, rfl⟩ | ⟨rfl, rfl⟩ | ⟨rfl, ⟨n, rfl⟩ | ⟨t, rfl⟩⟩ | ⟨rfl, rfl⟩
  · cases v <;> simp [m_fit] at hf
    exact ⟨rfl, rfl⟩
  · cases v <;> simp [m_fit] at hf
    rcases hf with rfl | rfl
    · exact ⟨rfl, rfl⟩
    · exact ⟨rfl, rfl⟩
  · cases v <;> simp [m_fit] at hf
    exact ⟨rfl, rfl⟩
  · cases v <;> simp [m_fit] at hf
    exact ⟨rfl, rfl⟩
  · cases v <;> simp [m_fit] at hf
    exact ⟨rfl, rfl⟩
theorem m_putW (hx : p.tables.exec = Jvm.exec) (hb : c.code = cc) {own : String} {idx a b k nI0 : Nat} {C : String} {T : u_T} {N : Nat} {ty : FieldType} (hown : s.vm.findClass own = some m.cls) (hY : m_LY C T N s) (hins : (Cond.instantiable C nI0).before args s = true) (hK : m_KN mcl D s) (hc : mcl[a]? = some (C, T, N)) (hk : b < N) (ha : a < 1000)
    (hlink : m_fl s args own idx (T b).1 (T b).2.1 (T b).2.2.1) (hty : parseFieldDescriptor (T b).2.2.1 = some ty) (hkt : m_kty k ty) (hfin : (T b).2.2.2 = true → meth.name = "<init>" ∧ (T b).1 = own) (hd : decode cc pc = .ok (.putfield idx, 3)) (hm : m_put pc ml st S nE a b k = some g')
    (kk : m_KK p l e R s m args below meth c Q mcl D aty tX nE B ext H0 nL K0 N0 g') : m_KK p l e R s m args below meth c Q mcl D aty tX nE B ext H0 nL K0 N0 (pc, ml, st, S) := by
  unfold m_put at hm
  split at hm
  next v r rest =>
    split at hm
    next t fs hr =>
      split at hm
      next ht =>
        obtain ⟨ht, hnr, hbl, hft⟩ := ht
        subst ht
        cases hm
        intro ls H locs cells slots hL hH hl hcc hss
        obtain ⟨x, q1, q2, q3, q4, q5, q6⟩ := hH.2.2.2.2 r _ hr
        obtain ⟨r1, r2, r3⟩ := q5 ha
        obtain ⟨hS, hfc, -⟩ := hK _ _ _ _ hc
        obtain ⟨cC0, kC, hfc0, hkC, hkind, -⟩ := Cond.instantiable_spec hins
        cases hfc.symm.trans hfc0
        obtain ⟨cf, kf, fi, f, hi, hsl⟩ := hS b hk
        have hlay := m_lays args hY hk
        have hst := (u_facts hfc hkC hlay hi).1
        obtain ⟨hn, hft⟩ := m_fit_ok (m_phi nE B ext) hkt hft
        have h6 := u_fits hfc hkC hkind hlay hi hty hn hft
        have hold : x.slots[f.slot]? = some (mf (m_phi nE B ext) (fs[b]'hbl)) := by rw [hsl]; exact r3 b _ (List.getElem?_eq_getElem hbl)
        have hlt : f.slot < x.slots.size := (Array.getElem?_eq_some_iff.mp hold).1
        have hff : hasFlag f.accessFlags Acc.final = false ∨ (m.cls = cf ∧ meth.name = "<init>") := by
          have hl2 := hY.1 b hk args
          unfold u_lay at hl2
          split at hl2
          next hfi =>
            obtain ⟨g1, g2⟩ := hfin hfi
            obtain ⟨_, _, c', _, _, _, -, -, hf', -, -, -, hown2, -⟩ := Cond.laysFinal_spec hl2
            have e1 : c' = cf := by have := hi.symm.trans hf'; simp at this; exact this.1.symm
            rw [g2] at hown2
            exact Or.inr ⟨by rw [← e1]; exact Option.some.inj (hown.symm.trans hown2), g1⟩
          next =>
            obtain ⟨_, _, _, _, _, _, r1, r2, hi', -, hfin', -⟩ := Cond.lays_spec hl2
            cases hi.symm.trans hi'
            exact Or.inl hfin'
        have hv0 : x.vm = .none := q2 hnr
        have key : m_KK p l e R s m args below meth c Q mcl D aty tX nE B ext H0 nL K0 N0 (pc + 3, ml, rest, S.1.set r (t, fs.set b v), S.2) → W p l e R s m args below meth c (H.setIfInBounds (m_ad nE B ext r) (x.setSlot f.slot (mf (m_phi nE B ext) v))) (locs ++ [⟨m_ad nE B ext r, f.slot⟩]) cells slots Q (F0 m (pc + 3) ls (rest.map (mf (m_phi nE B ext)))) := by
          intro kk
          have hlt2 : m_ad nE B ext r < H.size := (Array.getElem?_eq_some_iff.mp q1).1
          refine kk ls _ _ cells slots hL (hH.set hnr (x' := x.setSlot f.slot (mf (m_phi nE B ext) v)) (by simp [Array.getElem?_setIfInBounds, hlt2]) (by simp) (fun q hq => by simp [Array.getElem?_setIfInBounds, Ne.symm hq]) hv0 ?_) ?_ hcc hss
          · refine ⟨q3, q4, fun _ => ⟨r1, ?_, fun j w hj => ?_⟩, fun z => absurd ha (by exact Nat.not_lt.mpr z)⟩
            · obtain ⟨q, hq1, hq2⟩ := r2
              exact ⟨q, hq1, by simpa using hq2⟩
            · by_cases e : j = b
              · subst e
                rw [List.getElem?_set] at hj
                simp only [if_true] at hj
                split at hj
                · cases hj
                  rw [← hsl]
                  simp [Cell.setSlot, Array.getElem?_setIfInBounds, hlt]
                · next hn => exact absurd hbl hn
              · rw [List.getElem?_set_ne (fun q => e q.symm)] at hj
                have hjN : j < N := by
                  obtain ⟨q, hq1, hq2⟩ := r2
                  cases hc.symm.trans hq1
                  exact Nat.lt_of_lt_of_le (List.getElem?_eq_some_iff.mp hj).1 hq2
                rw [slot_ne _ _ (by rw [hsl]; exact m_apart hY hK hc b j hk hjN (Ne.symm e))]
                exact r3 j w hj
          · intro q hq
            rcases List.mem_append.mp hq with h | h
            · exact hl q h
            · rw [List.mem_singleton.mp h]
              show B ≤ m_ad nE B ext r
              rw [m_phi_new hnr]
              omega
        rcases hlink with hlink | ⟨host, hlink⟩
        · exact W.putf hx hb hown hlink hi hst hff q1 q3 hlt h6.1 (by rw [r1, hv0]; exact h6.2) rfl rfl hd (key kk)
        · exact va_Wputf hx hb hown hlink hi hst hff q1 q3 hlt h6.1 (by rw [r1, hv0]; exact h6.2) rfl rfl hd (key kk)
      next => cases hm
    next => cases hm
  next => cases hm
theorem m_ix_lt {j : Int32} {vs : List Value} {v : Value} (h : m_ix j vs = some v) : ¬ j < 0 ∧ j.toNatClampNeg < vs.length ∧ vs[j.toNatClampNeg]? = some v := by
  unfold m_ix at h
  split at h
  next => cases h
  next hj => exact ⟨hj, (List.getElem?_eq_some_iff.mp h).1, h⟩
theorem m_arrG {φ : mF} {vs : List Value} {k : Nat} {v : Value} (h : vs[k]? = some v) : ((vs.map (mf φ)).toArray)[k]? = some (mf φ v) := by
  rw [List.getElem?_toArray, List.getElem?_map, h]; rfl
theorem m_arrS (φ : mF) (vs : List Value) (k : Nat) (v : Value) : ((vs.map (mf φ)).toArray).setIfInBounds k (mf φ v) = ((vs.set k v).map (mf φ)).toArray := by
  rw [List.map_set]
  simp
theorem m_aldW {k : Nat} (hk : 1000 ≤ k) (row : ∀ (a : Addr) (cell : Cell) (j : Int32) (v : Value) (ls : Array Slot) (rest : List Value) (H : Heap) (locs : List Loc) (cells slots : Nat), H[a]? = some cell → s.isArrayOf cell (aty k) → cell.vm ≠ .unknown → ¬ (j < 0 ∨ cell.slots.size ≤ j.toNatClampNeg) → cell.slots[j.toNatClampNeg]? = some v → W p l e R s m args below meth c H locs cells slots Q (F0 m (pc + 1) ls (v :: rest)) → W p l e R s m args below meth c H locs cells slots Q (F0 m pc ls (.int j :: .ref a :: rest)))
    (hm : m_ald pc ml st S k = some g') (kk : m_KK p l e R s m args below meth c Q mcl D aty tX nE B ext H0 nL K0 N0 g') : m_KK p l e R s m args below meth c Q mcl D aty tX nE B ext H0 nL K0 N0 (pc, ml, st, S) := by
  unfold m_ald at hm
  split at hm
  next j r rest =>
    split at hm
    next t vs hr =>
      split at hm
      next ht =>
        subst ht
        split at hm
        next v hv =>
          cases hm
          intro ls H locs cells slots hL hH hl hcc hss
          obtain ⟨x, q1, -, q3⟩ := hH.2.2.2.2 r _ hr
          obtain ⟨hj, hlt, hv⟩ := m_ix_lt hv
          have hs := (q3.2.2.2 hk).2.1
          refine row _ x j _ ls _ H locs cells slots q1 (q3.arr hk) q3.1 ?_ ?_ (kk ls H locs cells slots hL hH hl hcc hss)
          · rw [hs]
            intro z
            rcases z with z | z
            · exact hj z
            · simp at z; omega
          · rw [hs]
            exact m_arrG hv
        next => cases hm
      next => cases hm
    next => cases hm
  next => cases hm
theorem m_fitb (x : Int32) : fits .byte (.int x.toInt8.toInt32) = true := by
  simp only [fits, Bool.and_eq_true, decide_eq_true_eq, Int32.le_iff_toInt_le]
  have h := Int8.toInt_toInt32 x.toInt8
  have h1 := Int8.le_toInt x.toInt8
  have h2 := Int8.toInt_lt x.toInt8
  rw [h]
  constructor
  · show (-128 : Int) ≤ _
    omega
  · show _ ≤ (127 : Int)
    omega
/-- behind a store into an array -/
theorem m_HR.ast {h : mH} {H H' : Heap} {r k i : Nat} {vs : List Value} {x : Cell} {v : Value} (hH : m_HR mcl D aty tX nE B ext H0 s h H) (hr : h[r]? = some (k, vs)) (hk : 1000 ≤ k) (hn : nE ≤ r) (hf : k = 1000 → fits .byte v = true) (q1 : H[m_ad nE B ext r]? = some x)
    (e1 : H'[m_ad nE B ext r]? = some (x.setSlot i (mf (m_phi nE B ext) v))) (e2 : H'.size = H.size) (e3 : ∀ q, q ≠ m_ad nE B ext r → H'[q]? = H[q]?) : m_HR mcl D aty tX nE B ext H0 s (h.set r (k, vs.set i v)) H' := by
  obtain ⟨x', q1', q2, q3⟩ := hH.2.2.2.2 r _ hr
  cases q1.symm.trans q1'
  refine hH.set hn e1 e2 e3 (q2 hn) ⟨q3.1, q3.2.1, fun z => absurd z (Nat.not_lt.mpr hk), fun _ => ⟨(q3.2.2.2 hk).1, ?_, fun hb w hw => ?_⟩⟩
  · show (x.slots.setIfInBounds i _) = _
    rw [(q3.2.2.2 hk).2.1, m_arrS]
  · rcases List.mem_or_eq_of_mem_set hw with h1 | h1
    · exact (q3.2.2.2 hk).2.2 hb w h1
    · rw [h1]; exact hf hb
theorem m_loc {locs : List Loc} {r i : Nat} (hl : ∀ q ∈ locs, B ≤ q.base) (hn : nE ≤ r) : ∀ q ∈ locs ++ [(⟨m_ad nE B ext r, i⟩ : Loc)], B ≤ q.base := by
  intro q hq
  rcases List.mem_append.mp hq with h | h
  · exact hl q h
  · rw [List.mem_singleton.mp h]
    show B ≤ m_ad nE B ext r
    rw [m_phi_new hn]
    omega
theorem m_astW {k : Nat} {f : Int32 → Int32} (hk : 1000 ≤ k) (hf : k = 1000 → ∀ x, fits .byte (.int (f x)) = true) (row : ∀ (a : Addr) (cell : Cell) (j x : Int32) (ls : Array Slot) (rest : List Value) (H : Heap) (locs : List Loc) (cells slots : Nat), H[a]? = some cell → s.isArrayOf cell (aty k) → cell.vm ≠ .unknown → ¬ (j < 0 ∨ cell.slots.size ≤ j.toNatClampNeg) → (∀ H' : Heap, H'[a]? = some (cell.setSlot j.toNatClampNeg (.int (f x))) → H'.size = H.size → (∀ q, q ≠ a → H'[q]? = H[q]?) → W p l e R s m args below meth c H' (locs ++ [⟨a, j.toNatClampNeg⟩]) cells slots Q (F0 m (pc + 1) ls rest)) → W p l e R s m args below meth c H locs cells slots Q (F0 m pc ls (.int x :: .int j :: .ref a :: rest)))
    (hm : m_ast pc ml st S nE k f = some g') (kk : m_KK p l e R s m args below meth c Q mcl D aty tX nE B ext H0 nL K0 N0 g') : m_KK p l e R s m args below meth c Q mcl D aty tX nE B ext H0 nL K0 N0 (pc, ml, st, S) := by
  unfold m_ast at hm
  split at hm
  next x j r rest =>
    split at hm
    next t vs hr =>
      split at hm
      next ht =>
        obtain ⟨ht, hn, hj, hlt⟩ := ht
        subst ht
        cases hm
        intro ls H locs cells slots hL hH hl hcc hss
        obtain ⟨y, q1, -, q3⟩ := hH.2.2.2.2 r _ hr
        have hs := (q3.2.2.2 hk).2.1
        refine row _ y j x ls _ H locs cells slots q1 (q3.arr hk) q3.1 ?_ (fun H' e1 e2 e3 => kk ls H' _ cells slots hL (hH.ast hr hk hn (fun z => hf z x) q1 e1 e2 e3) (m_loc hl hn) hcc hss)
        rw [hs]
        intro z
        rcases z with z | z
        · exact hj z
        · simp at z; omega
      next => cases hm
    next => cases hm
  next => cases hm
theorem m_lstW (hx : p.tables.exec = Jvm.exec) (hb : c.code = cc) (hty : aty 1002 = .long) (hd : decode cc pc = .ok (.lastore, 1)) (hm : m_lst pc ml st S nE = some g') (kk : m_KK p l e R s m args below meth c Q mcl D aty tX nE B ext H0 nL K0 N0 g') : m_KK p l e R s m args below meth c Q mcl D aty tX nE B ext H0 nL K0 N0 (pc, ml, st, S) := by
  unfold m_lst at hm
  split at hm
  next x j r rest =>
    split at hm
    next t vs hr =>
      split at hm
      next ht =>
        obtain ⟨ht, hn, hj, hlt⟩ := ht
        subst ht
        cases hm
        intro ls H locs cells slots hL hH hl hcc hss
        obtain ⟨y, q1, -, q3⟩ := hH.2.2.2.2 r _ hr
        have hk : 1000 ≤ 1002 := by decide
        have hs := (q3.2.2.2 hk).2.1
        have ha := q3.arr hk
        rw [show aty (1002, vs).1 = .long from hty] at ha
        refine W.last hx hb q1 ha q3.1 ?_ rfl rfl hd (fun H' e1 e2 e3 => kk ls H' _ cells slots hL (hH.ast (v := .long x) hr hk hn (fun z => by cases z) q1 e1 e2 e3) (m_loc hl hn) hcc hss)
        rw [hs]
        intro z
        rcases z with z | z
        · exact hj z
        · simp at z; omega
      next => cases hm
    next => cases hm
  next => cases hm
theorem m_rstW (hx : p.tables.exec = Jvm.exec) (hb : c.code = cc) {a b : Nat} (ha : a = 1003) (hbX : b = tX) (hX : tX < 1000) (hty : (aty 1003).isReference = true) (hKX : ∃ kX : Class, s.vm.classes[D.1 tX]? = some kX) (hd : decode cc pc = .ok (.aastore, 1)) (hm : m_rst pc ml st S nE a b = some g') (kk : m_KK p l e R s m args below meth c Q mcl D aty tX nE B ext H0 nL K0 N0 g') : m_KK p l e R s m args below meth c Q mcl D aty tX nE B ext H0 nL K0 N0 (pc, ml, st, S) := by
  subst ha
  subst hbX
  unfold m_rst at hm
  split at hm
  next x j r rest =>
    split at hm
    next t vs t2 ws hr hx2 =>
      split at hm
      next ht =>
        obtain ⟨ht, ht2, hn, hj, hlt⟩ := ht
        subst ht
        subst ht2
        cases hm
        intro ls H locs cells slots hL hH hl hcc hss
        obtain ⟨y, q1, -, q3⟩ := hH.2.2.2.2 r _ hr
        obtain ⟨z, z1, -, z3⟩ := hH.2.2.2.2 x _ hx2
        have hk : 1000 ≤ 1003 := by decide
        have hs := (q3.2.2.2 hk).2.1
        obtain ⟨⟨kA, comp, k1, k2, k3⟩, -⟩ := q3.2.2.2 hk
        obtain ⟨kX, hkX⟩ := hKX
        have hcomp := k3 rfl
        obtain ⟨w1, -⟩ := z3.2.2.1 hX
        refine W.aast hx hb q1 (fun q hq => (by have := q3.2.1; rw [hq] at this; cases this)) q3.1 k1 k2 hty (by rw [hcomp]; exact hkX) ⟨hj, by rw [hs]; simpa using hlt⟩ z1 (fun q hq => (by have := z3.2.1; rw [hq] at this; cases this)) (by rw [w1]; exact hkX) (by rw [w1, hcomp]; exact va_asg _ _) rfl rfl hd (fun H' e1 e2 e3 => kk ls H' _ cells slots hL (hH.ast (v := .ref x) hr hk hn (fun z => by cases z) q1 e1 e2 e3) (m_loc hl hn) hcc hss)
      next => cases hm
    next => cases hm
  next => cases hm
theorem m_alnW (hx : p.tables.exec = Jvm.exec) (hb : c.code = cc) (hd : decode cc pc = .ok (.arraylength, 1)) (hm : m_aln pc ml st S = some g') (kk : m_KK p l e R s m args below meth c Q mcl D aty tX nE B ext H0 nL K0 N0 g') : m_KK p l e R s m args below meth c Q mcl D aty tX nE B ext H0 nL K0 N0 (pc, ml, st, S) := by
  unfold m_aln at hm
  split at hm
  next r rest =>
    split at hm
    next t vs hr =>
      split at hm
      next ht =>
        cases hm
        intro ls H locs cells slots hL hH hl hcc hss
        obtain ⟨y, q1, -, q3⟩ := hH.2.2.2.2 r _ hr
        have hs := (q3.2.2.2 ht).2.1
        refine W.alen (n := Int32.ofNat vs.length) hx hb q1 (q3.arr ht) ?_ rfl rfl hd (kk ls H locs cells slots hL hH hl hcc hss)
        rw [hs]
        simp
      next => cases hm
    next => cases hm
  next => cases hm
/-- a new cell at the heap's end -/
theorem m_HR.pushA {h : mH} {H : Heap} {x' : Cell} {c' : mC} (hR : m_HR mcl D aty tX nE B ext H0 s h H) (hv : x'.vm = .none) (hc : m_cR mcl D aty tX s (m_phi nE B ext) c' x') : m_HR mcl D aty tX nE B ext H0 s (h ++ [c']) (H.push x') :=
  hR.push (by simp) (by simp) (fun q hq => by rw [Array.getElem?_push, if_neg (Nat.ne_of_lt hq)]) hv hc
theorem m_nwaW (hx : p.tables.exec = Jvm.exec) (hb : c.code = cc) {at_ : ArrayType} {k : Nat} {v : Value} (hk : k = 1000 ∨ k = 1001 ∨ k = 1002) (hty : Op.newarray.typeOf at_ = aty k) (hv : defaultValue (aty k) = v) (hvm : mf (m_phi nE B ext) v = v) (hfb : k = 1000 → fits .byte v = true) (hby : componentBytes (aty k) ≤ 8) (harr : (Cond.arrayClass (aty k)).before args s = true)
    (hK0 : K0 ≤ R.cells) (hN0 : N0 ≤ R.slots) (hd : decode cc pc = .ok (.newarray at_, 2)) (hm : m_nwa pc ml st S k 2 v = some g') (kk : m_KK p l e R s m args below meth c Q mcl D aty tX nE B ext H0 nL K0 N0 g') : m_KK p l e R s m args below meth c Q mcl D aty tX nE B ext H0 nL K0 N0 (pc, ml, st, S) := by
  unfold m_nwa at hm
  split at hm
  next j rest =>
    split at hm
    next hj =>
      obtain ⟨hj, hj2⟩ := hj
      split at hm
      next r S' hS =>
        unfold m_mk at hS
        split at hS
        next hq =>
          cases hS
          cases hm
          intro ls H locs cells slots hL hH hl hcc hss
          have hcc' : cells + S.2.1 ≤ K0 := hcc
          have hss' : slots + S.2.2 ≤ N0 := hss
          refine W.newa hx hb (atype := at_) (by rw [hty]; exact harr) rfl hd rfl hj ?_ (by omega) (by omega) (fun cA kA comp h1 h2 h3 => ?_)
          · rw [hty]
            have : j.toNatClampNeg * componentBytes (aty k) ≤ 1000000 * 8 := Nat.mul_le_mul hj2 hby
            omega
          · rw [hty] at h3 ⊢
            rw [hv]
            have q := kk ls (H.push { cls := cA, slots := Array.replicate j.toNatClampNeg v, vm := .none }) locs (cells + 1) (slots + j.toNatClampNeg) hL (hH.pushA (c' := (k, List.replicate j.toNatClampNeg v)) rfl ⟨fun z => (by cases z), rfl, fun z => absurd z (by omega), fun _ => ⟨⟨kA, comp, h2, h3, fun z => by exfalso; have z : k = 1003 := z; omega⟩, ?_, fun hb w hw => ?_⟩⟩) hl ?_ ?_
            · have e9 := hH.next
              rw [← e9]
              exact q
            · show Array.replicate j.toNatClampNeg v = _
              rw [List.map_replicate, hvm]
              simp
            · rw [(List.mem_replicate.mp hw).2]
              exact hfb hb
            · show cells + 1 + (S.2.1 - 1) ≤ K0
              omega
            · show slots + j.toNatClampNeg + (S.2.2 - j.toNatClampNeg) ≤ N0
              omega
        next => cases hS
      next => cases hm
    next => cases hm
  next => cases hm
theorem m_anwW (hx : p.tables.exec = Jvm.exec) (hb : c.code = cc) {own C : String} {idx a : Nat} (hown : s.vm.findClass own = some m.cls) (ha : a = 1003) (hty : aty 1003 = .object C) (hX : s.vm.findClass C = some (D.1 tX)) (hcl : (Cond.classLink own idx C).before args s = true) (hov : (Cond.arrayOver (.object C)).before args s = true)
    (hK0 : K0 ≤ R.cells) (hN0 : N0 ≤ R.slots) (hd : decode cc pc = .ok (.anewarray idx, 3)) (hm : m_nwa pc ml st S a 3 .null = some g') (kk : m_KK p l e R s m args below meth c Q mcl D aty tX nE B ext H0 nL K0 N0 g') : m_KK p l e R s m args below meth c Q mcl D aty tX nE B ext H0 nL K0 N0 (pc, ml, st, S) := by
  subst ha
  unfold m_nwa at hm
  split at hm
  next j rest =>
    split at hm
    next hj =>
      obtain ⟨hj, hj2⟩ := hj
      split at hm
      next r S' hS =>
        unfold m_mk at hS
        split at hS
        next hq =>
          cases hS
          cases hm
          intro ls H locs cells slots hL hH hl hcc hss
          have hcc' : cells + S.2.1 ≤ K0 := hcc
          have hss' : slots + S.2.2 ≤ N0 := hss
          refine W.anew hx hb hown hcl hov rfl hd rfl hj (by omega) (by omega) (by omega) (fun cA kA comp h1 h2 h3 h4 => ?_)
          have q := kk ls (H.push { cls := cA, slots := Array.replicate j.toNatClampNeg .null, vm := .none }) locs (cells + 1) (slots + j.toNatClampNeg) hL (hH.pushA (c' := (1003, List.replicate j.toNatClampNeg .null)) rfl ⟨fun z => (by cases z), rfl, fun z => absurd z (show ¬ (1003 < 1000) by decide), fun _ => ⟨⟨kA, comp, h2, by rw [h3]; exact congrArg _ hty.symm, fun _ => Option.some.inj (h4.symm.trans hX)⟩, ?_, fun hb => by cases hb⟩⟩) hl ?_ ?_
          · have e9 := hH.next
            rw [← e9]
            exact q
          · show Array.replicate j.toNatClampNeg Value.null = _
            rw [List.map_replicate]
            simp [mf]
          · show cells + 1 + (S.2.1 - 1) ≤ K0
            omega
          · show slots + j.toNatClampNeg + (S.2.2 - j.toNatClampNeg) ≤ N0
            omega
        next => cases hS
      next => cases hm
    next => cases hm
  next => cases hm
theorem m_newW (hx : p.tables.exec = Jvm.exec) (hb : c.code = cc) {own : String} {idx a n : Nat} {C : String} {T : u_T} {N : Nat} {fs : List Value} (hown : s.vm.findClass own = some m.cls) (hY : m_LY C T N s) (hK : m_KN mcl D s) (hc : mcl[a]? = some (C, T, N)) (ha : a < 1000)
    (hcl : (Cond.classLink own idx C).before args s = true) (hins : (Cond.instantiable C n).before args s = true) (hini : (Cond.initialized C).before args s = true) (hfl : fs.length ≤ N) (hfs : ∀ (j : Nat) (v : Value), fs[j]? = some v → mf (m_phi nE B ext) v = v ∧ ∃ ty, parseFieldDescriptor (T j).2.2.1 = some ty ∧ defaultValue ty = v)
    (hK0 : K0 ≤ R.cells) (hN0 : N0 ≤ R.slots) (hd : decode cc pc = .ok (.new idx, 3)) (hm : m_new pc ml st S a n fs = some g') (kk : m_KK p l e R s m args below meth c Q mcl D aty tX nE B ext H0 nL K0 N0 g') : m_KK p l e R s m args below meth c Q mcl D aty tX nE B ext H0 nL K0 N0 (pc, ml, st, S) := by
  unfold m_new at hm
  split at hm
  next r S' hS =>
    unfold m_mk at hS
    split at hS
    next hq =>
      cases hS
      cases hm
      intro ls H locs cells slots hL hH hl hcc hss
      have hcc' : cells + S.2.1 ≤ K0 := hcc
      have hss' : slots + S.2.2 ≤ N0 := hss
      obtain ⟨hS, hfc, -⟩ := hK _ _ _ _ hc
      refine W.newc hx hb hown hcl hins hini rfl hd (by omega) (by omega) (fun cC kC h1 h2 h3 h4 => ?_)
      have e0 : D.1 a = cC := Option.some.inj (hfc.symm.trans h1)
      have q := kk ls (H.push { cls := cC, slots := kC.instanceTypes.map defaultValue, vm := .none }) locs (cells + 1) (slots + n) hL (hH.pushA (c' := (a, fs)) rfl ⟨fun z => (by cases z), rfl, fun _ => ⟨e0.symm, ⟨_, hc, hfl⟩, fun j v hj => ?_⟩, fun z => absurd ha (Nat.not_lt.mpr z)⟩) hl ?_ ?_
      · have e9 := hH.next
        show W p l e R s m args below meth c _ locs (cells + 1) (slots + n) Q (F0 m (pc + 3) ls (.ref H.size :: st.map (mf (m_phi nE B ext))))
        rw [← e9]
        exact q
      · have hjN : j < N := Nat.lt_of_lt_of_le (List.getElem?_eq_some_iff.mp hj).1 hfl
        obtain ⟨cf, kf, fi, fd, hi, he⟩ := hS j hjN
        obtain ⟨v1, ty, v2, v3⟩ := hfs j v hj
        have h5 := (u_facts h1 h2 (m_lays args hY hjN) hi).2.2
        rw [(State.fieldFound?_type hi v2).2] at h5
        rw [v1, ← v3]
        show (kC.instanceTypes.map defaultValue)[D.2 a j]? = _
        rw [← he, Array.getElem?_map, h5]
        rfl
      · show cells + 1 + (S.2.1 - 1) ≤ K0
        omega
      · show slots + n + (S.2.2 - n) ≤ N0
        omega
    next => cases hS
  next => cases hm
end HeapW
