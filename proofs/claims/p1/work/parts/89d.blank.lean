/-! A run that never looks at the script goes alike whatever the script is. -/
section Blank
/-- a cell that nothing can be done with -/
def m_bl : mC := (500, [])
variable {h h1 : mH} {c : mC}
theorem bl_get (hb : h[0]? = some m_bl) {r : Nat} {x : mC} (hr : h[r]? = some x) (hx : x ≠ m_bl) : (h.set 0 c)[r]? = some x := by
  by_cases e : r = 0
  · subst e
    exact absurd (Option.some.inj (hr.symm.trans hb)) hx
  · rw [List.getElem?_set_ne (fun z => e z.symm)]
    exact hr
theorem bl_set {r : Nat} {x : mC} (hr : 41 ≤ r) : (h.set r x).set 0 c = (h.set 0 c).set r x := List.set_comm _ _ (by omega)
theorem bl_set0 {r : Nat} {x : mC} (hb : h[0]? = some m_bl) (hr : 41 ≤ r) : (h.set r x)[0]? = some m_bl := by
  rw [List.getElem?_set_ne (by omega)]
  exact hb
theorem bl_app {l : List mC} (hb : h[0]? = some m_bl) : (h ++ l).set 0 c = h.set 0 c ++ l ∧ (h ++ l)[0]? = some m_bl ∧ (h.set 0 c).length = h.length := by
  cases h with
  | nil => cases hb
  | cons y r => exact ⟨rfl, hb, by simp⟩
/-- the one kind of result: the same, with the script in its place -/
def bl_R (c : mC) (x y : Option mG) : Prop := ∀ (pc : Nat) (ml : mL) (st : List Value) (h1 : mH) (K : Nat × Nat), x = some (pc, ml, st, (h1, K)) → h1[0]? = some m_bl ∧ y = some (pc, ml, st, (h1.set 0 c, K))
theorem bl_same {pc : Nat} {ml : mL} {st : List Value} {K : Nat × Nat} (hb : h[0]? = some m_bl) : bl_R c (some (pc, ml, st, (h, K))) (some (pc, ml, st, (h.set 0 c, K))) := by
  intro pc' ml' st' h1 K' e
  cases e
  exact ⟨hb, rfl⟩
theorem bl_none {y : Option mG} : bl_R c none y := by
  intro pc' ml' st' h1 K' e
  cases e
theorem bl_ite {p : Prop} [Decidable p] {x y x' y' : Option mG} (h1 : bl_R c x x') (h2 : bl_R c y y') : bl_R c (if p then x else y) (if p then x' else y') := by
  by_cases e : p
  · rw [if_pos e, if_pos e]; exact h1
  · rw [if_neg e, if_neg e]; exact h2
theorem bl_ald (hb : h[0]? = some m_bl) {k pc : Nat} {ml : mL} {st : List Value} {K : Nat × Nat} : bl_R c (m_ald pc ml st (h, K) k) (m_ald pc ml st (h.set 0 c, K) k) := by
  unfold m_ald
  split
  · next j r rest =>
    simp only
    cases hr : h[r]? with
    | none => exact bl_none
    | some x =>
      obtain ⟨t, fs⟩ := x
      simp only
      by_cases ht : t = k
      · rw [if_pos ht]
        cases hf : m_ix j fs with
        | none => exact bl_none
        | some v =>
          have hne : (t, fs) ≠ m_bl := fun e => by
            cases e
            unfold m_ix at hf
            split at hf <;> cases hf
          rw [bl_get hb hr hne]
          simp only
          rw [if_pos ht, hf]
          exact bl_same hb
      · rw [if_neg ht]; exact bl_none
  · exact bl_none
theorem bl_ast (hb : h[0]? = some m_bl) {k pc : Nat} {f : Int32 → Int32} {ml : mL} {st : List Value} {K : Nat × Nat} : bl_R c (m_ast pc ml st (h, K) 41 k f) (m_ast pc ml st (h.set 0 c, K) 41 k f) := by
  unfold m_ast
  split
  · next v j r rest =>
    simp only
    cases hr : h[r]? with
    | none => exact bl_none
    | some x =>
      obtain ⟨t, fs⟩ := x
      simp only
      by_cases ht : t = k ∧ 41 ≤ r ∧ ¬ j < 0 ∧ j.toNatClampNeg < fs.length
      · rw [if_pos ht, bl_get hb hr (fun e => by cases e; exact absurd ht.2.2.2 (Nat.not_lt_zero _))]
        simp only
        rw [if_pos ht, ← bl_set ht.2.1]
        exact bl_same (bl_set0 hb ht.2.1)
      · rw [if_neg ht]; exact bl_none
  · exact bl_none
theorem bl_mk (hb : h[0]? = some m_bl) {x : mC} {n : Nat} {K : Nat × Nat} {r : Nat} {S' : mS} (hm : m_mk (h, K) x n = some (r, S')) : S'.1[0]? = some m_bl ∧ m_mk (h.set 0 c, K) x n = some (r, (S'.1.set 0 c, S'.2)) := by
  unfold m_mk at hm ⊢
  simp only at hm ⊢
  split at hm
  · next q =>
    cases hm
    rw [if_pos q, (bl_app (c := c) (l := [x]) hb).2.2]
    exact ⟨(bl_app (c := c) hb).2.1, by rw [(bl_app hb).1]⟩
  · cases hm
theorem bl_nwa (hb : h[0]? = some m_bl) {k n pc : Nat} {v : Value} {ml : mL} {st : List Value} {K : Nat × Nat} : bl_R c (m_nwa pc ml st (h, K) k n v) (m_nwa pc ml st (h.set 0 c, K) k n v) := by
  unfold m_nwa
  split
  · next j rest =>
    refine bl_ite ?_ bl_none
    cases hm : m_mk (h, K) (k, List.replicate j.toNatClampNeg v) j.toNatClampNeg with
    | none => exact bl_none
    | some z =>
      obtain ⟨r, S'⟩ := z
      obtain ⟨g1, g2⟩ := bl_mk (c := c) hb hm
      rw [g2]
      exact bl_same g1
  · exact bl_none
theorem bl_new (hb : h[0]? = some m_bl) {a n pc : Nat} {fs : List Value} {ml : mL} {st : List Value} {K : Nat × Nat} : bl_R c (m_new pc ml st (h, K) a n fs) (m_new pc ml st (h.set 0 c, K) a n fs) := by
  unfold m_new
  cases hm : m_mk (h, K) (a, fs) n with
  | none => exact bl_none
  | some z =>
    obtain ⟨r, S'⟩ := z
    obtain ⟨g1, g2⟩ := bl_mk (c := c) hb hm
    rw [g2]
    exact bl_same g1
set_option maxHeartbeats 4000000 in
theorem bl_one (hb : h[0]? = some m_bl) {i : ClassFile.Instr} {a b k pc : Nat} {ml : mL} {st : List Value} {K : Nat × Nat} (hb5 : b ≠ 500) : bl_R c (m_one 41 i a b k pc ml st (h, K)) (m_one 41 i a b k pc ml st (h.set 0 c, K)) := by
  have hl : (h.set 0 c).length = h.length := List.length_set
  cases i with
  | getfield _ =>
    simp only [m_one, m_get]
    split
    · next r rest =>
      cases hr : h[r]? with
      | none => exact bl_none
      | some x =>
        obtain ⟨t, fs⟩ := x
        simp only
        by_cases ht : t = a
        · rw [if_pos ht]
          cases hf : fs[b]? with
          | none => exact bl_none
          | some v =>
            rw [bl_get hb hr (fun e => by cases e; cases hf)]
            simp only
            rw [if_pos ht, hf]
            exact bl_same hb
        · rw [if_neg ht]; exact bl_none
    · exact bl_none
  | putfield _ =>
    simp only [m_one, m_put]
    split
    · next v r rest =>
      cases hr : h[r]? with
      | none => exact bl_none
      | some x =>
        obtain ⟨t, fs⟩ := x
        simp only
        by_cases ht : t = a ∧ 41 ≤ r ∧ b < fs.length ∧ m_fit k v = true
        · rw [if_pos ht, bl_get hb hr (fun e => by cases e; exact absurd ht.2.2.1 (Nat.not_lt_zero _))]
          simp only
          rw [if_pos ht, ← bl_set ht.2.1]
          exact bl_same (bl_set0 hb ht.2.1)
        · rw [if_neg ht]; exact bl_none
    · exact bl_none
  | iaload => exact bl_ald hb
  | baload => exact bl_ald hb
  | laload => exact bl_ald hb
  | aaload => exact bl_ald hb
  | iastore => exact bl_ast hb
  | bastore => exact bl_ast hb
  | lastore =>
    simp only [m_one, m_lst]
    split
    · next v j r rest =>
      cases hr : h[r]? with
      | none => exact bl_none
      | some x =>
        obtain ⟨t, fs⟩ := x
        simp only
        by_cases ht : t = 1002 ∧ 41 ≤ r ∧ ¬ j < 0 ∧ j.toNatClampNeg < fs.length
        · rw [if_pos ht, bl_get hb hr (fun e => by cases e; exact absurd ht.2.2.2 (Nat.not_lt_zero _))]
          simp only
          rw [if_pos ht, ← bl_set ht.2.1]
          exact bl_same (bl_set0 hb ht.2.1)
        · rw [if_neg ht]; exact bl_none
    · exact bl_none
  | aastore =>
    simp only [m_one, m_rst]
    split
    · next x j r rest =>
      cases hr : h[r]? with
      | none => exact bl_none
      | some y =>
        cases hx : h[x]? with
        | none => exact bl_none
        | some z =>
          obtain ⟨t, fs⟩ := y
          obtain ⟨t2, fs2⟩ := z
          simp only
          by_cases ht : t = a ∧ t2 = b ∧ 41 ≤ r ∧ ¬ j < 0 ∧ j.toNatClampNeg < fs.length
          · rw [if_pos ht, bl_get hb hr (fun e => by cases e; exact absurd ht.2.2.2.2 (Nat.not_lt_zero _)), bl_get hb hx (fun e => by cases e; exact hb5 ht.2.1.symm)]
            simp only
            rw [if_pos ht, ← bl_set ht.2.2.1]
            exact bl_same (bl_set0 hb ht.2.2.1)
          · rw [if_neg ht]; exact bl_none
    · exact bl_none
  | arraylength =>
    simp only [m_one, m_aln]
    split
    · next r rest =>
      cases hr : h[r]? with
      | none => exact bl_none
      | some x =>
        obtain ⟨t, fs⟩ := x
        simp only
        by_cases ht : 1000 ≤ t
        · rw [if_pos ht, bl_get hb hr (fun e => by cases e; exact absurd ht (by decide))]
          simp only
          rw [if_pos ht]
          exact bl_same hb
        · rw [if_neg ht]; exact bl_none
    · exact bl_none
  | newarray t => cases t <;> first | exact bl_none | exact bl_nwa hb
  | anewarray _ => exact bl_nwa hb
  | multianewarray _ _ =>
    simp only [m_one, m_mul]
    split
    · next j i' rest =>
      rw [hl]
      refine bl_ite ?_ bl_none
      intro pc' ml' st' h1 K' e
      cases e
      exact ⟨(bl_app (c := c) hb).2.1, by rw [(bl_app hb).1]⟩
    · exact bl_none
  | ifCond q _ =>
    simp only [m_one, m_if]
    split
    · cases q <;> exact bl_ite (bl_same hb) (bl_same hb)
    · exact bl_none
  | if_icmp q _ =>
    simp only [m_one, m_icmp]
    split
    · cases q <;> exact bl_ite (bl_same hb) (bl_same hb)
    · exact bl_none
  | iconst _ => exact bl_same hb
  | bipush _ => exact bl_same hb
  | sipush _ => exact bl_same hb
  | lconst _ => exact bl_same hb
  | ldc _ => exact bl_same hb
  | ldc2_w _ => exact bl_same hb
  | goto _ => exact bl_same hb
  | getstatic _ => exact bl_same hb
  | iinc _ _ =>
    simp only [m_one, m_inc]
    split
    · exact bl_ite (bl_same hb) bl_none
    · exact bl_none
  | _ =>
    simp only [m_one, m_ldI, m_ldL, m_ldA, m_stI, m_stL, m_stA, m_i2, m_l2, m_div2, m_divL2, m_cI, m_cL, m_lsh, m_lcmp, m_dup, m_pop, m_sw]
    first
    | exact bl_none
    | (split <;> first | exact bl_same hb | exact bl_none | exact bl_ite (bl_same hb) bl_none | exact bl_ite bl_none (bl_same hb))
end Blank
