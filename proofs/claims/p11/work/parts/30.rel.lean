/-! How the small machine's state lies in the JVM. -/
/-- where the cells lie; what the one unknown constant is (a reference, or null) -/
abbrev mF : Type := (Nat → Nat) × Option Nat
/-- values of the small machine, as they lie in the JVM -/
def mf (φ : mF) (v : Value) : Value := match v with
  | .ref a => .ref (φ.1 a)
  | .retAddr _ => (match φ.2 with
    | some a => .ref a
    | none => .null)
  | v => v
theorem mf_cat (φ : mF) (v : Value) : (mf φ v).category = v.category := by
  cases v with
  | retAddr n =>
    show (match φ.2 with | some a => Value.ref a | none => Value.null).category = 1
    cases φ.2 <;> rfl
  | _ => rfl
theorem mf_cats (φ : mF) (l : List Value) : ((l.map (mf φ)).map fun v => v.category).sum = (l.map fun v => v.category).sum := by
  rw [List.map_map]
  congr 1
  exact List.map_congr_left fun v _ => mf_cat φ v
/-- where cell k lies: the first nE were there before, the others are new -/
def m_ad (nE B : Nat) (ext : mF) (k : Nat) : Nat := if k < nE then ext.1 k else B + (k - nE)
def m_phi (nE B : Nat) (ext : mF) : mF := (m_ad nE B ext, ext.2)
/-- the locals -/
def m_LR (φ : mF) (nL : Nat) (ml : mL) (ls : Array Slot) : Prop := ml.length = nL ∧ ls.size = nL ∧ lv_wf ls ∧ ∀ (i : Nat) (v : Value), m_ld ml i = some v → ls[i]? = some (.val (mf φ v))
def m_al (φ : mF) (ml : mL) : List (Nat × Value) := (List.range ml.length).filterMap (fun i => (m_ld ml i).map (fun v => (i, mf φ v)))
theorem m_ld_lt {ml : mL} {i : Nat} {v : Value} (h : m_ld ml i = some v) : i < ml.length := by
  unfold m_ld at h
  cases hi : ml[i]? with
  | none => rw [hi] at h; cases h
  | some o => exact (List.getElem?_eq_some_iff.mp hi).1
theorem m_ld_eq {ml : mL} {i : Nat} {v : Value} : m_ld ml i = some v ↔ ml[i]? = some (some v) := by
  unfold m_ld
  constructor
  · intro h
    split at h
    next w hw => cases h; exact hw
    next => cases h
  · intro h; rw [h]
theorem m_LR.has {φ : mF} {nL : Nat} {ml : mL} {ls : Array Slot} (h : m_LR φ nL ml ls) : lv_has ls nL (m_al φ ml) := by
  refine ⟨h.2.1, h.2.2.1, fun q hq => ?_⟩
  obtain ⟨i, -, hi⟩ := List.mem_filterMap.mp hq
  cases hv : m_ld ml i with
  | none => rw [hv] at hi; cases hi
  | some v => rw [hv] at hi; cases hi; exact h.2.2.2 i v hv
theorem m_al_mem (φ : mF) {ml : mL} {i : Nat} {v : Value} (h : m_ld ml i = some v) : (i, mf φ v) ∈ m_al φ ml :=
  List.mem_filterMap.mpr ⟨i, List.mem_range.mpr (m_ld_lt h), by rw [h]; rfl⟩
theorem m_clr_len (ml : mL) (i : Nat) : (m_clr ml i).length = ml.length := by
  unfold m_clr
  split
  · rfl
  · split <;> simp
theorem m_ld_set {ml : mL} {i j : Nat} {o : Option Value} {w : Value} (h : m_ld (ml.set i o) j = some w) : (j = i ∧ o = some w) ∨ (j ≠ i ∧ m_ld ml j = some w) := by
  rw [m_ld_eq] at h
  by_cases e : j = i
  · subst e
    left
    rw [List.getElem?_set] at h
    simp only [if_true] at h
    split at h
    · exact ⟨rfl, Option.some.inj h⟩
    · cases h
  · right
    rw [List.getElem?_set_ne (fun q => e q.symm)] at h
    exact ⟨e, m_ld_eq.mpr h⟩
theorem m_ld_clr {ml : mL} {i j : Nat} {w : Value} (h : m_ld (m_clr ml i) j = some w) : m_ld ml j = some w ∧ (j + 1 = i → w.category = 1) := by
  unfold m_clr at h
  split at h
  next => exact ⟨h, fun q => by omega⟩
  next k =>
    split at h
    next x hx =>
      rcases m_ld_set h with ⟨-, q⟩ | ⟨q1, q2⟩
      · cases q
      · exact ⟨q2, fun q => absurd (by omega) q1⟩
    next x hx =>
      rcases m_ld_set h with ⟨-, q⟩ | ⟨q1, q2⟩
      · cases q
      · exact ⟨q2, fun q => absurd (by omega) q1⟩
    next h1 h2 =>
      refine ⟨h, fun q => ?_⟩
      have e : j = k := by omega
      subst e
      cases w with
      | long x => exact absurd h (h1 x)
      | double x => exact absurd h (h2 x)
      | _ => rfl
theorem m_LR.st1 {φ : mF} {nL : Nat} {ml : mL} {ls ls' : Array Slot} {i : Nat} {v : Value} (h : m_LR φ nL ml ls) (h' : lv_has ls' nL ((i, mf φ v) :: (m_al φ ml).filter (fun q => !(q.1 == i) && !(q.1 + 1 == i && q.2.category == 2)))) : m_LR φ nL (m_st1 ml i v) ls' := by
  refine ⟨by rw [m_st1, List.length_set, m_clr_len]; exact h.1, h'.1, h'.2.1, fun j w hj => ?_⟩
  rcases m_ld_set hj with ⟨rfl, e⟩ | ⟨e, hj⟩
  · cases e
    exact h'.2.2 (_, _) List.mem_cons_self
  · obtain ⟨hj, hc⟩ := m_ld_clr hj
    refine h'.2.2 (j, mf φ w) (List.mem_cons_of_mem _ (List.mem_filter.mpr ⟨m_al_mem φ hj, ?_⟩))
    show (!(j == i) && !(j + 1 == i && (mf φ w).category == 2)) = true
    rw [mf_cat]
    by_cases q : j + 1 = i
    · simp [e, hc q]
    · simp [e, q]
theorem m_LR.st2 {φ : mF} {nL : Nat} {ml : mL} {ls ls' : Array Slot} {i : Nat} {v : Value} (h : m_LR φ nL ml ls) (h' : lv_has ls' nL ((i, mf φ v) :: (m_al φ ml).filter (fun q => !(q.1 == i) && (!(q.1 == i + 1) && !(q.1 + 1 == i && q.2.category == 2))))) : m_LR φ nL (m_st2 ml i v) ls' := by
  refine ⟨by rw [m_st2, List.length_set, List.length_set, m_clr_len]; exact h.1, h'.1, h'.2.1, fun j w hj => ?_⟩
  rcases m_ld_set hj with ⟨-, e⟩ | ⟨e1, hj⟩
  · cases e
  rcases m_ld_set hj with ⟨rfl, e⟩ | ⟨e, hj⟩
  · cases e
    exact h'.2.2 (_, _) List.mem_cons_self
  · obtain ⟨hj, hc⟩ := m_ld_clr hj
    refine h'.2.2 (j, mf φ w) (List.mem_cons_of_mem _ (List.mem_filter.mpr ⟨m_al_mem φ hj, ?_⟩))
    show (!(j == i) && (!(j == i + 1) && !(j + 1 == i && (mf φ w).category == 2))) = true
    rw [mf_cat]
    by_cases q : j + 1 = i
    · simp [e, e1, hc q]
    · simp [e, e1, q]
/-- the locals at a method's start -/
theorem m_ent_args (φ : mF) : ∀ (vs : List Value) (n k : Nat) (pre : mL), pre.length = k → ∀ (i : Nat) (v : Value), k ≤ i → m_ld (pre ++ (m_sl vs ++ List.replicate n none)) i = some v → (i, mf φ v) ∈ lv_args k (vs.map (mf φ))
  | [], n, k, pre, hp, i, v, hi, h => by
    rw [m_ld_eq, List.getElem?_append_right (by omega)] at h
    simp only [m_sl, List.nil_append, List.getElem?_replicate] at h
    split at h <;> cases h
  | w :: vs, n, k, pre, hp, i, v, hi, h => by
    by_cases hc : w.category = 2
    · have e : m_sl (w :: vs) = some w :: none :: m_sl vs := by cases w <;> first | rfl | (simp [Value.category] at hc)
      rw [e] at h
      show (i, mf φ v) ∈ (k, mf φ w) :: lv_args (if (mf φ w).category = 2 then k + 2 else k + 1) (vs.map (mf φ))
      rw [mf_cat, if_pos hc]
      by_cases e0 : i = k
      · subst e0
        rw [m_ld_eq, List.getElem?_append_right (by omega), show i - pre.length = 0 by omega] at h
        simp only [List.cons_append, List.getElem?_cons_zero] at h
        cases h
        exact List.mem_cons_self
      · by_cases e1 : i = k + 1
        · subst e1
          rw [m_ld_eq, List.getElem?_append_right (by omega), show k + 1 - pre.length = 1 by omega] at h
          simp only [List.cons_append, List.getElem?_cons_succ, List.getElem?_cons_zero] at h
          cases h
        · refine List.mem_cons_of_mem _ (m_ent_args φ vs n (k + 2) (pre ++ [some w, none]) (by simp [hp]) i v (by omega) ?_)
          rw [← h]
          congr 1
          simp
    · have e : m_sl (w :: vs) = some w :: m_sl vs := by cases w <;> first | rfl | (simp [Value.category] at hc)
      rw [e] at h
      show (i, mf φ v) ∈ (k, mf φ w) :: lv_args (if (mf φ w).category = 2 then k + 2 else k + 1) (vs.map (mf φ))
      rw [mf_cat, if_neg hc]
      by_cases e0 : i = k
      · subst e0
        rw [m_ld_eq, List.getElem?_append_right (by omega), show i - pre.length = 0 by omega] at h
        simp only [List.cons_append, List.getElem?_cons_zero] at h
        cases h
        exact List.mem_cons_self
      · refine List.mem_cons_of_mem _ (m_ent_args φ vs n (k + 1) (pre ++ [some w]) (by simp [hp]) i v (by omega) ?_)
        rw [← h]
        congr 1
        simp
theorem m_LR.ent (φ : mF) (vs : List Value) {n : Nat} (h : (m_sl vs).length ≤ n) : m_LR φ n (m_ent vs n) ((lg_sl (vs.map (mf φ)) ++ List.replicate (n - (lg_sl (vs.map (mf φ))).length) Slot.unset).toArray) := by
  have el : ∀ vs : List Value, (m_sl vs).length = (lg_sl (vs.map (mf φ))).length := by
    intro vs
    induction vs with
    | nil => rfl
    | cons v r ih =>
      have e1 : (m_sl (v :: r)).length = (if v.category = 2 then 2 else 1) + (m_sl r).length := by cases v <;> simp [m_sl, Value.category] <;> omega
      have e2 : (lg_sl ((v :: r).map (mf φ))).length = (if (mf φ v).category = 2 then 2 else 1) + (lg_sl (r.map (mf φ))).length := by
        rw [List.map_cons]
        unfold lg_sl
        rw [List.flatMap_cons, List.length_append]
        congr 1
        split <;> rfl
      rw [e1, e2, mf_cat, ih]
  have q := lv_entry (vs.map (mf φ)) (n := n) (by rw [← el]; exact h)
  refine ⟨by simp [m_ent]; omega, q.1, q.2.1, fun i v hv => ?_⟩
  exact q.2.2 _ (m_ent_args φ vs (n - (m_sl vs).length) 0 [] rfl i v (Nat.zero_le _) hv)
section Heap
variable {mcl : List vw_C} {D : va_G} {aty : Nat → FieldType} {tX nE B : Nat} {ext : mF} {H0 : Heap}
/-- a cell -/
def m_cR (mcl : List vw_C) (D : va_G) (aty : Nat → FieldType) (tX : Nat) (U : State) (φ : mF) (c : mC) (x : Cell) : Prop :=
  x.vm ≠ .unknown ∧ x.vm.isStatics = false ∧
  (c.1 < 1000 → x.cls = D.1 c.1 ∧ (∃ q, mcl[c.1]? = some q ∧ c.2.length ≤ q.2.2) ∧ ∀ (j : Nat) (v : Value), c.2[j]? = some v → x.slots[D.2 c.1 j]? = some (mf φ v)) ∧
  (1000 ≤ c.1 → (∃ (k : Class) (comp : ClassId), U.vm.classes[x.cls]? = some k ∧ k.kind = .array comp (aty c.1) ∧ (c.1 = 1003 → comp = D.1 tX)) ∧ x.slots = (c.2.map (mf φ)).toArray ∧ (c.1 = 1000 → ∀ v ∈ c.2, fits .byte v = true))
theorem m_cR.moved {u U : State} {φ : mF} {c : mC} {x : Cell} (hvm : u.vm.Alike U.vm) (h : m_cR mcl D aty tX u φ c x) : m_cR mcl D aty tX U φ c x := by
  obtain ⟨h1, h2, h3, h4⟩ := h
  refine ⟨h1, h2, h3, fun q => ?_⟩
  obtain ⟨⟨k, comp, a1, a2, a3⟩, a4⟩ := h4 q
  obtain ⟨k', hk', he⟩ := hvm.2.2 _ _ a1
  exact ⟨⟨k', comp, hk', by rw [he]; exact a2, a3⟩, a4⟩
theorem m_cR.arr {U : State} {φ : mF} {c : mC} {x : Cell} (h : m_cR mcl D aty tX U φ c x) (hc : 1000 ≤ c.1) : U.isArrayOf x (aty c.1) := by
  obtain ⟨h1, h2, h3, h4⟩ := h
  obtain ⟨⟨k, comp, a1, a2, a3⟩, a4⟩ := h4 hc
  exact ⟨fun z hz => (by rw [hz] at h2; cases h2), k, a1, comp, a2⟩
/-- the heap -/
def m_HR (mcl : List vw_C) (D : va_G) (aty : Nat → FieldType) (tX nE B : Nat) (ext : mF) (H0 : Heap) (U : State) (h : mH) (H : Heap) : Prop :=
  H.size + nE = B + h.length ∧ nE ≤ h.length ∧ (∀ k, k < nE → ext.1 k < B) ∧ (∀ q : Nat, q < B → H[q]? = H0[q]?) ∧
  ∀ (k : Nat) (c : mC), h[k]? = some c → ∃ x : Cell, H[m_ad nE B ext k]? = some x ∧ (nE ≤ k → x.vm = .none) ∧ m_cR mcl D aty tX U (m_phi nE B ext) c x
theorem m_HR.moved {u U : State} {h : mH} {H : Heap} (hvm : u.vm.Alike U.vm) (hR : m_HR mcl D aty tX nE B ext H0 u h H) : m_HR mcl D aty tX nE B ext H0 U h H := by
  obtain ⟨h1, h2, h3, h4, h5⟩ := hR
  refine ⟨h1, h2, h3, h4, fun k c hk => ?_⟩
  obtain ⟨x, a1, a2, a3⟩ := h5 k c hk
  exact ⟨x, a1, a2, a3.moved hvm⟩
theorem m_phi_new {k : Nat} (hk : nE ≤ k) : m_ad nE B ext k = B + (k - nE) := by
  unfold m_ad
  rw [if_neg (by omega)]
theorem m_phi_ne {h : mH} {H : Heap} {U : State} (hR : m_HR mcl D aty tX nE B ext H0 U h H) {j k : Nat} (hk : nE ≤ k) (hj : j ≠ k) : m_ad nE B ext j ≠ m_ad nE B ext k := by
  rw [m_phi_new hk]
  unfold m_ad
  split
  next q => have := hR.2.2.1 j q; omega
  next q => omega
theorem m_HR.set {U : State} {h : mH} {H H' : Heap} {k : Nat} {c' : mC} {x' : Cell} (hR : m_HR mcl D aty tX nE B ext H0 U h H) (hk : nE ≤ k) (e1 : H'[m_ad nE B ext k]? = some x') (e2 : H'.size = H.size) (e3 : ∀ q, q ≠ m_ad nE B ext k → H'[q]? = H[q]?) (hv : x'.vm = .none) (hc : m_cR mcl D aty tX U (m_phi nE B ext) c' x') :
    m_HR mcl D aty tX nE B ext H0 U (h.set k c') H' := by
  have hR' := hR
  obtain ⟨h1, h2, h3, h4, h5⟩ := hR
  refine ⟨by rw [e2, List.length_set]; exact h1, by rw [List.length_set]; exact h2, h3, fun q hq => ?_, fun j c hj => ?_⟩
  · rw [e3 q (by rw [m_phi_new hk]; omega)]
    exact h4 q hq
  · by_cases e : j = k
    · subst e
      rw [List.getElem?_set] at hj
      simp only [if_true] at hj
      split at hj
      · cases hj
        exact ⟨x', e1, fun _ => hv, hc⟩
      · cases hj
    · rw [List.getElem?_set_ne (fun q => e q.symm)] at hj
      obtain ⟨x, a1, a2⟩ := h5 j c hj
      exact ⟨x, by rw [e3 _ (m_phi_ne hR' hk e)]; exact a1, a2⟩
theorem m_HR.next {U : State} {h : mH} {H : Heap} (hR : m_HR mcl D aty tX nE B ext H0 U h H) : m_ad nE B ext h.length = H.size := by
  rw [m_phi_new hR.2.1]
  have := hR.1
  have := hR.2.1
  omega
theorem m_HR.push {U : State} {h : mH} {H H' : Heap} {c' : mC} {x' : Cell} (hR : m_HR mcl D aty tX nE B ext H0 U h H) (e1 : H'[H.size]? = some x') (e2 : H'.size = H.size + 1) (e3 : ∀ q, q < H.size → H'[q]? = H[q]?) (hv : x'.vm = .none) (hc : m_cR mcl D aty tX U (m_phi nE B ext) c' x') :
    m_HR mcl D aty tX nE B ext H0 U (h ++ [c']) H' := by
  have hn := hR.next
  obtain ⟨h1, h2, h3, h4, h5⟩ := hR
  refine ⟨by rw [e2, List.length_append]; simp; omega, by rw [List.length_append]; omega, h3, fun q hq => ?_, fun j c hj => ?_⟩
  · rw [e3 q (by omega)]
    exact h4 q hq
  · by_cases e : j < h.length
    · rw [List.getElem?_append_left e] at hj
      obtain ⟨x, a1, a2⟩ := h5 j c hj
      exact ⟨x, by rw [e3 _ (Array.getElem?_eq_some_iff.mp a1).1]; exact a1, a2⟩
    · rw [List.getElem?_append_right (by omega)] at hj
      have e : j = h.length := by
        have := (List.getElem?_eq_some_iff.mp hj).1
        simp at this
        omega
      subst e
      simp at hj
      subst hj
      exact ⟨x', by rw [hn]; exact e1, fun _ => hv, hc⟩
end Heap
