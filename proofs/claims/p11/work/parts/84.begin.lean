/-! The law's entry, and the small machine's run of it. -/
section Entry84
variable {s : State} {b : Nat} {xs : List Int32}
def mp_aty (n : Nat) : FieldType := if n = 1000 then .byte else if n = 1001 then .int else if n = 1002 then .long else if n = 1003 then .object "StepBench$Text" else .array .int
/-- the heap at the start: the script, the strings, the two arrays of the reference -/
def mp_h0 (xs : List Int32) : mH := (1001, xs.map Value.int) :: (m_hs 0 mp_st ++ [(1001, mp_aS.map Value.int), (1001, mp_aE.map Value.int)])
/-- what is known at the start -/
def m_G (b : Nat) (xs : List Int32) (s : State) : Prop := (∀ w ∈ lw_tbl, w.before #[Value.ref b] s = true) ∧ (Jvm.Cond.and given_1 narrow_1).before #[Value.ref b] s = true ∧ ∃ scr : Cell, s.heap[b]? = some scr ∧ s.isArrayOf scr .int ∧ scr.vm ≠ .unknown ∧ scr.slots = (xs.map Value.int).toArray
theorem m_G.w (h : m_G b xs s) {w : Cond} (hw : w ∈ lw_tbl) (hg : m_gd w = true) : m_T s w := m_T.of (h.1 w hw) hg
theorem m_G.f (h : m_G b xs s) {w : Cond} (hw : w ∈ flatC (Jvm.Cond.and given_1 narrow_1)) : w.before #[Value.ref b] s = true := flat_of_before _ h.2.1 w hw
theorem m_gd_ws {C : String} {T : u_T} {N : Nat} : ∀ w ∈ u_ws C T N, m_gd w = true := by
  intro w hw
  obtain ⟨k, -, rfl⟩ := List.mem_map.mp hw
  unfold u_lay
  split <;> rfl
theorem m_gd_cw (M : mM) : m_gd (m_cw M) = true := by
  unfold m_cw
  split <;> rfl
theorem m_gd_kw (M : mM) (k : Nat) : ∀ w ∈ m_kw M k, m_gd w = true := by
  intro w hw
  unfold m_kw at hw
  split at hw
  · simp only [List.mem_cons, List.not_mem_nil, or_false] at hw
    rcases hw with rfl | rfl <;> rfl
  · split at hw
    · simp only [List.mem_cons, List.not_mem_nil, or_false] at hw
      rcases hw with rfl | rfl <;> rfl
    · simp only [List.mem_cons, List.not_mem_nil, or_false] at hw
      subst hw
      rfl
theorem m_el {tm : Term} {bs : List Int32} {P : Cond → Prop} (h : ∀ w ∈ m_elW tm bs, P w) : ∀ j : Nat, j < bs.length → P (.eq (.elem tm (.int (Int32.ofNat j))) (.int (bs.getD j 0))) :=
  fun j hj => h _ (List.mem_map.mpr ⟨j, List.mem_range.mpr hj, rfl⟩)
theorem mb_str (h : m_G b xs s) (i : Nat) (q : String × Nat × List Int32) (hq : mp_st[i]? = some q) : ∃ z : Nat × Nat, (Term.string q.1 q.2.1).eval #[Value.ref b] s none [] s = some (.ref z.1) ∧ m_strA s z.1 z.2 q.2.2 := by
  have hm := List.mem_of_getElem? hq
  have hb := List.all_eq_true.mp st_by q hm
  simp only [Bool.and_eq_true, decide_eq_true_eq] at hb
  have hw : ∀ w ∈ m_stW (.string q.1 q.2.1) q.2.2, w.before #[Value.ref b] s = true := fun w hw => h.f (st_ok q hm w hw)
  have hA : ∀ w ∈ m_arW (.field (.string q.1 q.2.1) "java/lang/String" "value" "[B") .byte q.2.2, w.before #[Value.ref b] s = true := fun w hw' => hw w (List.mem_append_right _ hw')
  obtain ⟨a, t, h1, h2⟩ := m_str hb.1 (hw _ (List.mem_append_left _ List.mem_cons_self)) (hw _ (List.mem_append_left _ (List.mem_cons_of_mem _ List.mem_cons_self))) (hA _ (List.mem_append_left _ List.mem_cons_self)) (hA _ (List.mem_append_left _ (List.mem_cons_of_mem _ List.mem_cons_self))) (m_el fun w hw' => hA w (List.mem_append_right _ hw'))
  exact ⟨(a, t), h1, h2⟩
theorem mb_S (h : m_G b xs s) : ∃ t : Nat, (Term.static "StepBenchModel" "START" "[I").eval #[Value.ref b] s none [] s = some (.ref t) ∧ ∃ cell : Cell, s.heap[t]? = some cell ∧ s.isArrayOf cell .int ∧ cell.vm ≠ .unknown ∧ cell.slots = (mp_aS.map Value.int).toArray := by
  have hA : ∀ w ∈ m_arW (.static "StepBenchModel" "START" "[I") .int mp_aS, w.before #[Value.ref b] s = true := fun w hw => h.f (aS_in w hw)
  exact m_arrA (by decide) (hA _ (List.mem_append_left _ List.mem_cons_self)) (hA _ (List.mem_append_left _ (List.mem_cons_of_mem _ List.mem_cons_self))) (m_el fun w hw' => hA w (List.mem_append_right _ hw'))
theorem mb_E (h : m_G b xs s) : ∃ t : Nat, (Term.static "StepBenchModel" "END" "[I").eval #[Value.ref b] s none [] s = some (.ref t) ∧ ∃ cell : Cell, s.heap[t]? = some cell ∧ s.isArrayOf cell .int ∧ cell.vm ≠ .unknown ∧ cell.slots = (mp_aE.map Value.int).toArray := by
  have hA : ∀ w ∈ m_arW (.static "StepBenchModel" "END" "[I") .int mp_aE, w.before #[Value.ref b] s = true := fun w hw => h.f (aE_in w hw)
  exact m_arrA (by decide) (hA _ (List.mem_append_left _ List.mem_cons_self)) (hA _ (List.mem_append_left _ (List.mem_cons_of_mem _ List.mem_cons_self))) (m_el fun w hw' => hA w (List.mem_append_right _ hw'))
/-- the classes' places -/
theorem mb_D (h : m_G b xs s) : ∃ D : va_G, m_KN mp_cl D s := by
  have k : ∀ a : Nat, ∃ q : ClassId × (Nat → Nat), ∀ (C : String) (T : u_T) (N : Nat), mp_cl[a]? = some (C, T, N) → (∀ k, k < N → SlotIs s (T k).1 (T k).2.1 (T k).2.2.1 (q.2 k)) ∧ s.vm.findClass C = some q.1 ∧ ∃ kC : Class, s.vm.classes[q.1]? = some kC := by
    intro a
    match a with
    | 0 =>
      obtain ⟨q, hq⟩ := m_kn1 (C := "java/lang/IndexOutOfBoundsException") (T := cT0) (N := 0) h.1 (fun w hw => absurd hw (by simp [u_ws])) (h.1 _ (ci0 _ List.mem_cons_self))
      refine ⟨q, fun C T N hc => ?_⟩
      have e : (("java/lang/IndexOutOfBoundsException", cT0, 0) : vw_C) = (C, T, N) := Option.some.inj hc
      cases e
      exact hq
    | 1 =>
      obtain ⟨q, hq⟩ := m_kn1 (C := "java/lang/IllegalArgumentException") (T := cT1) (N := 0) h.1 (fun w hw => absurd hw (by simp [u_ws])) (h.1 _ (ci1 _ List.mem_cons_self))
      refine ⟨q, fun C T N hc => ?_⟩
      have e : (("java/lang/IllegalArgumentException", cT1, 0) : vw_C) = (C, T, N) := Option.some.inj hc
      cases e
      exact hq
    | 2 =>
      obtain ⟨q, hq⟩ := m_kn1 (C := "java/lang/UnsupportedOperationException") (T := cT2) (N := 0) h.1 (fun w hw => absurd hw (by simp [u_ws])) (h.1 _ (ci2 _ List.mem_cons_self))
      refine ⟨q, fun C T N hc => ?_⟩
      have e : (("java/lang/UnsupportedOperationException", cT2, 0) : vw_C) = (C, T, N) := Option.some.inj hc
      cases e
      exact hq
    | 3 =>
      obtain ⟨q, hq⟩ := m_kn1 (C := "java/lang/ArithmeticException") (T := cT3) (N := 0) h.1 (fun w hw => absurd hw (by simp [u_ws])) (h.1 _ (ci3 _ List.mem_cons_self))
      refine ⟨q, fun C T N hc => ?_⟩
      have e : (("java/lang/ArithmeticException", cT3, 0) : vw_C) = (C, T, N) := Option.some.inj hc
      cases e
      exact hq
    | 4 =>
      obtain ⟨q, hq⟩ := m_kn1 (C := "StepBench$Text") (T := cT4) (N := 3) h.1 cw4 (h.1 _ (ci4 _ List.mem_cons_self))
      refine ⟨q, fun C T N hc => ?_⟩
      have e : (("StepBench$Text", cT4, 3) : vw_C) = (C, T, N) := Option.some.inj hc
      cases e
      exact hq
    | 5 =>
      obtain ⟨q, hq⟩ := m_kn1 (C := "StepBench") (T := cT5) (N := 12) h.1 cw5 (h.1 _ (ci5 _ List.mem_cons_self))
      refine ⟨q, fun C T N hc => ?_⟩
      have e : (("StepBench", cT5, 12) : vw_C) = (C, T, N) := Option.some.inj hc
      cases e
      exact hq
    | 6 =>
      obtain ⟨q, hq⟩ := m_kn1 (C := "StepBench$Order") (T := cT6) (N := 2) h.1 cw6 (h.1 _ (ci6 _ List.mem_cons_self))
      refine ⟨q, fun C T N hc => ?_⟩
      have e : (("StepBench$Order", cT6, 2) : vw_C) = (C, T, N) := Option.some.inj hc
      cases e
      exact hq
    | 7 =>
      obtain ⟨q, hq⟩ := m_kn1 (C := "StepBench$Spot") (T := cT7) (N := 6) h.1 cw7 (h.1 _ (ci7 _ List.mem_cons_self))
      refine ⟨q, fun C T N hc => ?_⟩
      have e : (("StepBench$Spot", cT7, 6) : vw_C) = (C, T, N) := Option.some.inj hc
      cases e
      exact hq
    | 8 =>
      obtain ⟨q, hq⟩ := m_kn1 (C := "StepBench$Reader") (T := cT8) (N := 4) h.1 cw8 (h.1 _ (ci8 _ List.mem_cons_self))
      refine ⟨q, fun C T N hc => ?_⟩
      have e : (("StepBench$Reader", cT8, 4) : vw_C) = (C, T, N) := Option.some.inj hc
      cases e
      exact hq
    | 9 =>
      obtain ⟨q, hq⟩ := m_kn1 (C := "StepBench$Putter") (T := cT9) (N := 9) h.1 cw9 (h.1 _ (ci9 _ List.mem_cons_self))
      refine ⟨q, fun C T N hc => ?_⟩
      have e : (("StepBench$Putter", cT9, 9) : vw_C) = (C, T, N) := Option.some.inj hc
      cases e
      exact hq
    | 10 =>
      obtain ⟨q, hq⟩ := m_kn1 (C := "StepBench$Gap") (T := cT10) (N := 4) h.1 cw10 (h.1 _ (ci10 _ List.mem_cons_self))
      refine ⟨q, fun C T N hc => ?_⟩
      have e : (("StepBench$Gap", cT10, 4) : vw_C) = (C, T, N) := Option.some.inj hc
      cases e
      exact hq
    | 11 =>
      obtain ⟨q, hq⟩ := m_kn1 (C := "StepBench$Cutter") (T := cT11) (N := 6) h.1 cw11 (h.1 _ (ci11 _ List.mem_cons_self))
      refine ⟨q, fun C T N hc => ?_⟩
      have e : (("StepBench$Cutter", cT11, 6) : vw_C) = (C, T, N) := Option.some.inj hc
      cases e
      exact hq
    | 12 =>
      obtain ⟨q, hq⟩ := m_kn1 (C := "StepBench$Lister") (T := cT12) (N := 4) h.1 cw12 (h.1 _ (ci12 _ List.mem_cons_self))
      refine ⟨q, fun C T N hc => ?_⟩
      have e : (("StepBench$Lister", cT12, 4) : vw_C) = (C, T, N) := Option.some.inj hc
      cases e
      exact hq
    | 13 =>
      obtain ⟨q, hq⟩ := m_kn1 (C := "StepBenchModel") (T := cT13) (N := 22) h.1 cw13 (h.1 _ (ci13 _ List.mem_cons_self))
      refine ⟨q, fun C T N hc => ?_⟩
      have e : (("StepBenchModel", cT13, 22) : vw_C) = (C, T, N) := Option.some.inj hc
      cases e
      exact hq
    | 14 =>
      obtain ⟨q, hq⟩ := m_kn1 (C := "StepBenchModel$Reader") (T := cT14) (N := 5) h.1 cw14 (h.1 _ (ci14 _ List.mem_cons_self))
      refine ⟨q, fun C T N hc => ?_⟩
      have e : (("StepBenchModel$Reader", cT14, 5) : vw_C) = (C, T, N) := Option.some.inj hc
      cases e
      exact hq
    | 15 =>
      obtain ⟨q, hq⟩ := m_kn1 (C := "StepBenchModel$Paper") (T := cT15) (N := 3) h.1 cw15 (h.1 _ (ci15 _ List.mem_cons_self))
      refine ⟨q, fun C T N hc => ?_⟩
      have e : (("StepBenchModel$Paper", cT15, 3) : vw_C) = (C, T, N) := Option.some.inj hc
      cases e
      exact hq
    | 16 =>
      obtain ⟨q, hq⟩ := m_kn1 (C := "StepBenchModel$Out") (T := cT16) (N := 3) h.1 cw16 (h.1 _ (ci16 _ List.mem_cons_self))
      refine ⟨q, fun C T N hc => ?_⟩
      have e : (("StepBenchModel$Out", cT16, 3) : vw_C) = (C, T, N) := Option.some.inj hc
      cases e
      exact hq
    | 17 =>
      obtain ⟨z, h1, ⟨cell, g1, g2, g3, g4⟩, ⟨cf, kf, i, f, cell1, f1, f2⟩, ⟨cf', kf', i', f', cell2, f1', f2'⟩, -⟩ := mb_str h 0 _ rfl
      refine ⟨(cell.cls, fun k => if k = 0 then f.slot else f'.slot), fun C T N hc => ?_⟩
      have e : (("java/lang/String", cT17, 2) : vw_C) = (C, T, N) := Option.some.inj hc
      cases e
      refine ⟨fun k hk => ?_, g3, g4⟩
      match k, hk with
      | 0, _ => exact ⟨cf, kf, i, f, f1, rfl⟩
      | 1, _ => exact ⟨cf', kf', i', f', f1', rfl⟩
      | k + 2, hk => exact absurd hk (by omega)
    | a + 18 => exact ⟨(0, fun _ => 0), fun C T N hc => by cases hc⟩
  exact ⟨(fun a => (Classical.choose (k a)).1, fun a => (Classical.choose (k a)).2), fun a C T N hc => Classical.choose_spec (k a) C T N hc⟩
theorem mb_CL (h : m_G b xs s) : ∀ s' : State, s.WarmedH s'.vm → m_CL mp_cl s' := by
  intro s' hW a C T N hc k hk cf kf fi f hf
  match a, hc with
  | 0, hc =>
    have e : (("java/lang/IndexOutOfBoundsException", cT0, 0) : vw_C) = (C, T, N) := Option.some.inj hc
    cases e
    exact absurd hk (Nat.not_lt_zero k)
  | 1, hc =>
    have e : (("java/lang/IllegalArgumentException", cT1, 0) : vw_C) = (C, T, N) := Option.some.inj hc
    cases e
    exact absurd hk (Nat.not_lt_zero k)
  | 2, hc =>
    have e : (("java/lang/UnsupportedOperationException", cT2, 0) : vw_C) = (C, T, N) := Option.some.inj hc
    cases e
    exact absurd hk (Nat.not_lt_zero k)
  | 3, hc =>
    have e : (("java/lang/ArithmeticException", cT3, 0) : vw_C) = (C, T, N) := Option.some.inj hc
    cases e
    exact absurd hk (Nat.not_lt_zero k)
  | 4, hc =>
    have e : (("StepBench$Text", cT4, 3) : vw_C) = (C, T, N) := Option.some.inj hc
    cases e
    exact m_cl1 (fun w hw => h.w (cw4 w hw) (m_gd_ws w hw)) (h.w (ci4 _ List.mem_cons_self) rfl) hW k hk cf kf fi f hf
  | 5, hc =>
    have e : (("StepBench", cT5, 12) : vw_C) = (C, T, N) := Option.some.inj hc
    cases e
    exact m_cl1 (fun w hw => h.w (cw5 w hw) (m_gd_ws w hw)) (h.w (ci5 _ List.mem_cons_self) rfl) hW k hk cf kf fi f hf
  | 6, hc =>
    have e : (("StepBench$Order", cT6, 2) : vw_C) = (C, T, N) := Option.some.inj hc
    cases e
    exact m_cl1 (fun w hw => h.w (cw6 w hw) (m_gd_ws w hw)) (h.w (ci6 _ List.mem_cons_self) rfl) hW k hk cf kf fi f hf
  | 7, hc =>
    have e : (("StepBench$Spot", cT7, 6) : vw_C) = (C, T, N) := Option.some.inj hc
    cases e
    exact m_cl1 (fun w hw => h.w (cw7 w hw) (m_gd_ws w hw)) (h.w (ci7 _ List.mem_cons_self) rfl) hW k hk cf kf fi f hf
  | 8, hc =>
    have e : (("StepBench$Reader", cT8, 4) : vw_C) = (C, T, N) := Option.some.inj hc
    cases e
    exact m_cl1 (fun w hw => h.w (cw8 w hw) (m_gd_ws w hw)) (h.w (ci8 _ List.mem_cons_self) rfl) hW k hk cf kf fi f hf
  | 9, hc =>
    have e : (("StepBench$Putter", cT9, 9) : vw_C) = (C, T, N) := Option.some.inj hc
    cases e
    exact m_cl1 (fun w hw => h.w (cw9 w hw) (m_gd_ws w hw)) (h.w (ci9 _ List.mem_cons_self) rfl) hW k hk cf kf fi f hf
  | 10, hc =>
    have e : (("StepBench$Gap", cT10, 4) : vw_C) = (C, T, N) := Option.some.inj hc
    cases e
    exact m_cl1 (fun w hw => h.w (cw10 w hw) (m_gd_ws w hw)) (h.w (ci10 _ List.mem_cons_self) rfl) hW k hk cf kf fi f hf
  | 11, hc =>
    have e : (("StepBench$Cutter", cT11, 6) : vw_C) = (C, T, N) := Option.some.inj hc
    cases e
    exact m_cl1 (fun w hw => h.w (cw11 w hw) (m_gd_ws w hw)) (h.w (ci11 _ List.mem_cons_self) rfl) hW k hk cf kf fi f hf
  | 12, hc =>
    have e : (("StepBench$Lister", cT12, 4) : vw_C) = (C, T, N) := Option.some.inj hc
    cases e
    exact m_cl1 (fun w hw => h.w (cw12 w hw) (m_gd_ws w hw)) (h.w (ci12 _ List.mem_cons_self) rfl) hW k hk cf kf fi f hf
  | 13, hc =>
    have e : (("StepBenchModel", cT13, 22) : vw_C) = (C, T, N) := Option.some.inj hc
    cases e
    exact m_cl1 (fun w hw => h.w (cw13 w hw) (m_gd_ws w hw)) (h.w (ci13 _ List.mem_cons_self) rfl) hW k hk cf kf fi f hf
  | 14, hc =>
    have e : (("StepBenchModel$Reader", cT14, 5) : vw_C) = (C, T, N) := Option.some.inj hc
    cases e
    exact m_cl1 (fun w hw => h.w (cw14 w hw) (m_gd_ws w hw)) (h.w (ci14 _ List.mem_cons_self) rfl) hW k hk cf kf fi f hf
  | 15, hc =>
    have e : (("StepBenchModel$Paper", cT15, 3) : vw_C) = (C, T, N) := Option.some.inj hc
    cases e
    exact m_cl1 (fun w hw => h.w (cw15 w hw) (m_gd_ws w hw)) (h.w (ci15 _ List.mem_cons_self) rfl) hW k hk cf kf fi f hf
  | 16, hc =>
    have e : (("StepBenchModel$Out", cT16, 3) : vw_C) = (C, T, N) := Option.some.inj hc
    cases e
    exact m_cl1 (fun w hw => h.w (cw16 w hw) (m_gd_ws w hw)) (h.w (ci16 _ List.mem_cons_self) rfl) hW k hk cf kf fi f hf
  | 17, hc =>
    have e : (("java/lang/String", cT17, 2) : vw_C) = (C, T, N) := Option.some.inj hc
    cases e
    obtain ⟨z, h1, -, o1, o2, -⟩ := mb_str h 0 _ rfl
    obtain ⟨cf1, kf1, i1, f1, cell1, g1, g2, -⟩ := o1.moved hW.alike
    obtain ⟨cf2, kf2, i2, f2, cell2, g1', g2', -⟩ := o2.moved hW.alike
    match k, hk, hf with
    | 0, _, hf =>
      have e := hf.symm.trans g1
      cases e
      exact g2
    | 1, _, hf =>
      have e := hf.symm.trans g1'
      cases e
      exact g2'
    | k + 2, hk, _ => exact absurd hk (by omega)
  | a + 18, hc => cases hc
theorem mb_oc (h : m_G b xs s) (φ : mF) : ∀ a C T N, 4 ≤ a → a < 17 → mp_cl[a]? = some (C, T, N) → m_OC mp_FL φ s a C T N := by
  intro a C T N h1 h2 hc
  match a, h1, h2, hc with
  | 0, h1, _, _ => exact absurd h1 (by decide)
  | 1, h1, _, _ => exact absurd h1 (by decide)
  | 2, h1, _, _ => exact absurd h1 (by decide)
  | 3, h1, _, _ => exact absurd h1 (by decide)
  | 4, _, _, hc =>
    have e : (("StepBench$Text", cT4, 3) : vw_C) = (C, T, N) := Option.some.inj hc
    cases e
    exact m_oc_ok (fun w hw => h.w (cw4 w hw) (m_gd_ws w hw)) (h.w (ci4 _ List.mem_cons_self) rfl) (h.w (ci4 _ (List.mem_cons_of_mem _ List.mem_cons_self)) rfl) cf4.1 cf4.2.1 cf4.2.2 cn4
  | 5, _, _, hc =>
    have e : (("StepBench", cT5, 12) : vw_C) = (C, T, N) := Option.some.inj hc
    cases e
    exact m_oc_ok (fun w hw => h.w (cw5 w hw) (m_gd_ws w hw)) (h.w (ci5 _ List.mem_cons_self) rfl) (h.w (ci5 _ (List.mem_cons_of_mem _ List.mem_cons_self)) rfl) cf5.1 cf5.2.1 cf5.2.2 cn5
  | 6, _, _, hc =>
    have e : (("StepBench$Order", cT6, 2) : vw_C) = (C, T, N) := Option.some.inj hc
    cases e
    exact m_oc_ok (fun w hw => h.w (cw6 w hw) (m_gd_ws w hw)) (h.w (ci6 _ List.mem_cons_self) rfl) (h.w (ci6 _ (List.mem_cons_of_mem _ List.mem_cons_self)) rfl) cf6.1 cf6.2.1 cf6.2.2 cn6
  | 7, _, _, hc =>
    have e : (("StepBench$Spot", cT7, 6) : vw_C) = (C, T, N) := Option.some.inj hc
    cases e
    exact m_oc_ok (fun w hw => h.w (cw7 w hw) (m_gd_ws w hw)) (h.w (ci7 _ List.mem_cons_self) rfl) (h.w (ci7 _ (List.mem_cons_of_mem _ List.mem_cons_self)) rfl) cf7.1 cf7.2.1 cf7.2.2 cn7
  | 8, _, _, hc =>
    have e : (("StepBench$Reader", cT8, 4) : vw_C) = (C, T, N) := Option.some.inj hc
    cases e
    exact m_oc_ok (fun w hw => h.w (cw8 w hw) (m_gd_ws w hw)) (h.w (ci8 _ List.mem_cons_self) rfl) (h.w (ci8 _ (List.mem_cons_of_mem _ List.mem_cons_self)) rfl) cf8.1 cf8.2.1 cf8.2.2 cn8
  | 9, _, _, hc =>
    have e : (("StepBench$Putter", cT9, 9) : vw_C) = (C, T, N) := Option.some.inj hc
    cases e
    exact m_oc_ok (fun w hw => h.w (cw9 w hw) (m_gd_ws w hw)) (h.w (ci9 _ List.mem_cons_self) rfl) (h.w (ci9 _ (List.mem_cons_of_mem _ List.mem_cons_self)) rfl) cf9.1 cf9.2.1 cf9.2.2 cn9
  | 10, _, _, hc =>
    have e : (("StepBench$Gap", cT10, 4) : vw_C) = (C, T, N) := Option.some.inj hc
    cases e
    exact m_oc_ok (fun w hw => h.w (cw10 w hw) (m_gd_ws w hw)) (h.w (ci10 _ List.mem_cons_self) rfl) (h.w (ci10 _ (List.mem_cons_of_mem _ List.mem_cons_self)) rfl) cf10.1 cf10.2.1 cf10.2.2 cn10
  | 11, _, _, hc =>
    have e : (("StepBench$Cutter", cT11, 6) : vw_C) = (C, T, N) := Option.some.inj hc
    cases e
    exact m_oc_ok (fun w hw => h.w (cw11 w hw) (m_gd_ws w hw)) (h.w (ci11 _ List.mem_cons_self) rfl) (h.w (ci11 _ (List.mem_cons_of_mem _ List.mem_cons_self)) rfl) cf11.1 cf11.2.1 cf11.2.2 cn11
  | 12, _, _, hc =>
    have e : (("StepBench$Lister", cT12, 4) : vw_C) = (C, T, N) := Option.some.inj hc
    cases e
    exact m_oc_ok (fun w hw => h.w (cw12 w hw) (m_gd_ws w hw)) (h.w (ci12 _ List.mem_cons_self) rfl) (h.w (ci12 _ (List.mem_cons_of_mem _ List.mem_cons_self)) rfl) cf12.1 cf12.2.1 cf12.2.2 cn12
  | 13, _, _, hc =>
    have e : (("StepBenchModel", cT13, 22) : vw_C) = (C, T, N) := Option.some.inj hc
    cases e
    exact m_oc_ok (fun w hw => h.w (cw13 w hw) (m_gd_ws w hw)) (h.w (ci13 _ List.mem_cons_self) rfl) (h.w (ci13 _ (List.mem_cons_of_mem _ List.mem_cons_self)) rfl) cf13.1 cf13.2.1 cf13.2.2 cn13
  | 14, _, _, hc =>
    have e : (("StepBenchModel$Reader", cT14, 5) : vw_C) = (C, T, N) := Option.some.inj hc
    cases e
    exact m_oc_ok (fun w hw => h.w (cw14 w hw) (m_gd_ws w hw)) (h.w (ci14 _ List.mem_cons_self) rfl) (h.w (ci14 _ (List.mem_cons_of_mem _ List.mem_cons_self)) rfl) cf14.1 cf14.2.1 cf14.2.2 cn14
  | 15, _, _, hc =>
    have e : (("StepBenchModel$Paper", cT15, 3) : vw_C) = (C, T, N) := Option.some.inj hc
    cases e
    exact m_oc_ok (fun w hw => h.w (cw15 w hw) (m_gd_ws w hw)) (h.w (ci15 _ List.mem_cons_self) rfl) (h.w (ci15 _ (List.mem_cons_of_mem _ List.mem_cons_self)) rfl) cf15.1 cf15.2.1 cf15.2.2 cn15
  | 16, _, _, hc =>
    have e : (("StepBenchModel$Out", cT16, 3) : vw_C) = (C, T, N) := Option.some.inj hc
    cases e
    exact m_oc_ok (fun w hw => h.w (cw16 w hw) (m_gd_ws w hw)) (h.w (ci16 _ List.mem_cons_self) rfl) (h.w (ci16 _ (List.mem_cons_of_mem _ List.mem_cons_self)) rfl) cf16.1 cf16.2.1 cf16.2.2 cn16
  | a + 17, _, h2, _ => exact absurd h2 (by omega)
theorem mb_ex (h : m_G b xs s) : ∀ a C T N, a < 4 → mp_cl[a]? = some (C, T, N) → m_EX s C := by
  intro a C T N h2 hc
  have r1 := h.f (gv_in _ (List.mem_cons_of_mem _ (List.mem_cons_of_mem _ List.mem_cons_self)))
  have r2 := h.f (gv_in _ (List.mem_cons_of_mem _ (List.mem_cons_of_mem _ (List.mem_cons_of_mem _ List.mem_cons_self))))
  match a, h2, hc with
  | 0, _, hc =>
    have e : (("java/lang/IndexOutOfBoundsException", cT0, 0) : vw_C) = (C, T, N) := Option.some.inj hc
    cases e
    exact m_ex_ok h.1 exw0 exg0.1 r1 r2 (h.1 _ (ci0 _ (List.mem_cons_of_mem _ List.mem_cons_self))) exg0.2
  | 1, _, hc =>
    have e : (("java/lang/IllegalArgumentException", cT1, 0) : vw_C) = (C, T, N) := Option.some.inj hc
    cases e
    exact m_ex_ok h.1 exw1 exg1.1 r1 r2 (h.1 _ (ci1 _ (List.mem_cons_of_mem _ List.mem_cons_self))) exg1.2
  | 2, _, hc =>
    have e : (("java/lang/UnsupportedOperationException", cT2, 0) : vw_C) = (C, T, N) := Option.some.inj hc
    cases e
    exact m_ex_ok h.1 exw2 exg2.1 r1 r2 (h.1 _ (ci2 _ (List.mem_cons_of_mem _ List.mem_cons_self))) exg2.2
  | 3, _, hc =>
    have e : (("java/lang/ArithmeticException", cT3, 0) : vw_C) = (C, T, N) := Option.some.inj hc
    cases e
    exact m_ex_ok h.1 exw3 exg3.1 r1 r2 (h.1 _ (ci3 _ (List.mem_cons_of_mem _ List.mem_cons_self))) exg3.2
  | a + 4, h2, _ => exact absurd h2 (by omega)
theorem mb_pl {a : Nat} {M : mM} (h : mp_PG[a]? = some M) : ∃ q, mp_PL[a]? = some q ∧ q.2.2 = M ∧ mp_kd[a]? = some q.2.1 := by
  rw [← pl_map, List.getElem?_map] at h
  obtain ⟨q, h1, h2⟩ := Option.map_eq_some_iff.mp h
  exact ⟨q, h1, h2, by rw [← pl_kd, List.getElem?_map, h1]; rfl⟩
theorem mb_pm {M : mM} (h : M ∈ mp_PG) : ∃ q ∈ mp_PL, q.2.2 = M := by
  rw [← pl_map] at h
  exact List.mem_map.mp h
theorem mb_mq {q : Nat × Nat × mM} (hq : q ∈ mp_PL) : q.2.2.2.2.1 ≤ 21 ∧ plainFor q.2.2.1 = true ∧ m_nMH q.2.2.1 ∧ (q.2.1 = 2 → q.2.2.2.2.2.2.1 = [] ∧ q.2.2.2.2.2.1 = none ∧ q.2.2.1.name = "<init>") ∧ ∀ z ∈ q.2.2.2.2.2.2.1, z.2.2.2 / 1000 ≠ 0 ∧ z.2.2.2 % 1000 < 4 ∧ m_lt (mp_lt q.1) (z.2.2.2 / 1000) = some (z.2.2.2 / 1000, 2, z.2.2.2 % 1000, 0) := by
  have h := List.all_eq_true.mp pl_mq q hq
  unfold m_mq at h
  simp only [Bool.and_eq_true, decide_eq_true_eq, Bool.not_eq_true', beq_eq_false_iff_ne, Bool.or_eq_true, beq_iff_eq] at h
  obtain ⟨⟨⟨⟨⟨h1, h2⟩, h3⟩, h4⟩, h5⟩, h6⟩ := h
  refine ⟨h1, h2, ⟨h3, h4⟩, fun h => ?_, fun z hz => ?_⟩
  · rcases h5 with h5 | h5
    · exact absurd h h5
    · exact ⟨List.isEmpty_iff.mp h5.1.1, h5.1.2, h5.2⟩
  · have := List.all_eq_true.mp h6 z hz
    simp only [Bool.and_eq_true, decide_eq_true_eq, beq_iff_eq] at this
    exact ⟨this.1.1, this.1.2, this.2⟩
theorem mb_kd (h : m_G b xs s) : ∀ (a : Nat) (M' : mM), mp_PG[a]? = some M' → (mp_kd[a]? = some 0 → m_T s (.static M'.1) ∧ m_T s (.initialized M'.1.cls)) ∧ (mp_kd[a]? = some 1 → m_T s (.instanceMethod M'.1) ∧ m_T s (.selects M'.1.cls M'.1 M'.1)) ∧ (mp_kd[a]? = some 2 → m_T s (.instanceMethod M'.1) ∧ M'.1.name = "<init>" ∧ m_T s (.code M'.1 M'.2.1 M'.2.2.1 none)) ∧ m_nMH M'.1 := by
  intro a M' hM
  obtain ⟨q, h1, rfl, h3⟩ := mb_pl hM
  have hq := List.mem_of_getElem? h1
  obtain ⟨p1, p2, p3, p4⟩ := pl_ok q hq
  obtain ⟨m1, m2, m3, m4, m5⟩ := mb_mq hq
  have hw : q.2.1 ≠ 9 → ∀ w ∈ m_cw q.2.2 :: m_kw q.2.2 q.2.1, m_T s w := fun hn w hw => by
    rcases p4 with p4 | p4
    · exact absurd p4.1 hn
    · refine h.w (p4 w hw) ?_
      rcases List.mem_cons.mp hw with rfl | hw
      · exact m_gd_cw _
      · exact m_gd_kw _ _ w hw
  rw [h3]
  refine ⟨fun e => ?_, fun e => ?_, fun e => ?_, m3⟩
  · have e : q.2.1 = 0 := Option.some.inj e
    have hw := hw (by rw [e]; decide)
    rw [e] at hw
    exact ⟨hw _ (List.mem_cons_of_mem _ List.mem_cons_self), hw _ (List.mem_cons_of_mem _ (List.mem_cons_of_mem _ List.mem_cons_self))⟩
  · have e : q.2.1 = 1 := Option.some.inj e
    have hw := hw (by rw [e]; decide)
    rw [e] at hw
    exact ⟨hw _ (List.mem_cons_of_mem _ List.mem_cons_self), hw _ (List.mem_cons_of_mem _ (List.mem_cons_of_mem _ List.mem_cons_self))⟩
  · have e : q.2.1 = 2 := Option.some.inj e
    have hw := hw (by rw [e]; decide)
    rw [e] at hw
    obtain ⟨e1, e2, e3⟩ := m4 e
    have hc := hw _ List.mem_cons_self
    unfold m_cw at hc
    rw [e1, e2] at hc
    exact ⟨hw _ (List.mem_cons_of_mem _ List.mem_cons_self), e3, hc⟩
theorem mb_lk (h : m_G b xs s) {q : Nat × Nat × mM} (hq : q ∈ mp_PL) : (∀ z ∈ mp_lk q.1, m_T s z.2) ∧ ∀ z ∈ mp_lt q.1, m_ckT mp_cl mp_PG (mp_lk q.1) q.2.2.1.cls z = true := by
  obtain ⟨p1, p2, -⟩ := pl_ok q hq
  obtain ⟨l1, l2⟩ := lk_all q.1 p1
  refine ⟨fun z hz => h.w (l1 _ (List.mem_map.mpr ⟨z, hz, rfl⟩)) (List.all_eq_true.mp l2 z hz), fun z hz => ?_⟩
  rw [p2]
  exact List.all_eq_true.mp (lt_all q.1 p1) z hz
end Entry84
