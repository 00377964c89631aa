/-! From a run of the small machine to the law's walk. -/
section Law85
variable {p : Program} {l : Launch} {e : Env} {s : State} {m : MethodId} {below : List Frame} {meth : Method} {c : Code} {b : Nat} {xs : List Int32} {D : va_G}
theorem mb_nc (h : m_G b xs s) (hD : m_KN mp_cl D s) : ∀ t k : Nat, t < 4 → k < 4 → k ≠ t → s.vm.assignable (D.1 t) (D.1 k) = false := by
  intro t k ht hk hn
  match t, k, ht, hk, hn with
  | 0, 0, _, _, hn => exact absurd rfl hn
  | 0, 1, _, _, _ =>
    obtain ⟨c, t, g1, g2, g3⟩ := va_Nc.of (h.f (nc_in _ (List.mem_map.mpr ⟨("java/lang/IndexOutOfBoundsException", "java/lang/IllegalArgumentException"), List.mem_of_getElem? (i := 0) rfl, rfl⟩)))
    cases g1.symm.trans (hD 0 _ _ _ rfl).2.1
    cases g2.symm.trans (hD 1 _ _ _ rfl).2.1
    exact g3
  | 0, 2, _, _, _ =>
    obtain ⟨c, t, g1, g2, g3⟩ := va_Nc.of (h.f (nc_in _ (List.mem_map.mpr ⟨("java/lang/IndexOutOfBoundsException", "java/lang/UnsupportedOperationException"), List.mem_of_getElem? (i := 1) rfl, rfl⟩)))
    cases g1.symm.trans (hD 0 _ _ _ rfl).2.1
    cases g2.symm.trans (hD 2 _ _ _ rfl).2.1
    exact g3
  | 0, 3, _, _, _ =>
    obtain ⟨c, t, g1, g2, g3⟩ := va_Nc.of (h.f (nc_in _ (List.mem_map.mpr ⟨("java/lang/IndexOutOfBoundsException", "java/lang/ArithmeticException"), List.mem_of_getElem? (i := 2) rfl, rfl⟩)))
    cases g1.symm.trans (hD 0 _ _ _ rfl).2.1
    cases g2.symm.trans (hD 3 _ _ _ rfl).2.1
    exact g3
  | 1, 0, _, _, _ =>
    obtain ⟨c, t, g1, g2, g3⟩ := va_Nc.of (h.f (nc_in _ (List.mem_map.mpr ⟨("java/lang/IllegalArgumentException", "java/lang/IndexOutOfBoundsException"), List.mem_of_getElem? (i := 3) rfl, rfl⟩)))
    cases g1.symm.trans (hD 1 _ _ _ rfl).2.1
    cases g2.symm.trans (hD 0 _ _ _ rfl).2.1
    exact g3
  | 1, 1, _, _, hn => exact absurd rfl hn
  | 1, 2, _, _, _ =>
    obtain ⟨c, t, g1, g2, g3⟩ := va_Nc.of (h.f (nc_in _ (List.mem_map.mpr ⟨("java/lang/IllegalArgumentException", "java/lang/UnsupportedOperationException"), List.mem_of_getElem? (i := 4) rfl, rfl⟩)))
    cases g1.symm.trans (hD 1 _ _ _ rfl).2.1
    cases g2.symm.trans (hD 2 _ _ _ rfl).2.1
    exact g3
  | 1, 3, _, _, _ =>
    obtain ⟨c, t, g1, g2, g3⟩ := va_Nc.of (h.f (nc_in _ (List.mem_map.mpr ⟨("java/lang/IllegalArgumentException", "java/lang/ArithmeticException"), List.mem_of_getElem? (i := 5) rfl, rfl⟩)))
    cases g1.symm.trans (hD 1 _ _ _ rfl).2.1
    cases g2.symm.trans (hD 3 _ _ _ rfl).2.1
    exact g3
  | 2, 0, _, _, _ =>
    obtain ⟨c, t, g1, g2, g3⟩ := va_Nc.of (h.f (nc_in _ (List.mem_map.mpr ⟨("java/lang/UnsupportedOperationException", "java/lang/IndexOutOfBoundsException"), List.mem_of_getElem? (i := 6) rfl, rfl⟩)))
    cases g1.symm.trans (hD 2 _ _ _ rfl).2.1
    cases g2.symm.trans (hD 0 _ _ _ rfl).2.1
    exact g3
  | 2, 1, _, _, _ =>
    obtain ⟨c, t, g1, g2, g3⟩ := va_Nc.of (h.f (nc_in _ (List.mem_map.mpr ⟨("java/lang/UnsupportedOperationException", "java/lang/IllegalArgumentException"), List.mem_of_getElem? (i := 7) rfl, rfl⟩)))
    cases g1.symm.trans (hD 2 _ _ _ rfl).2.1
    cases g2.symm.trans (hD 1 _ _ _ rfl).2.1
    exact g3
  | 2, 2, _, _, hn => exact absurd rfl hn
  | 2, 3, _, _, _ =>
    obtain ⟨c, t, g1, g2, g3⟩ := va_Nc.of (h.f (nc_in _ (List.mem_map.mpr ⟨("java/lang/UnsupportedOperationException", "java/lang/ArithmeticException"), List.mem_of_getElem? (i := 8) rfl, rfl⟩)))
    cases g1.symm.trans (hD 2 _ _ _ rfl).2.1
    cases g2.symm.trans (hD 3 _ _ _ rfl).2.1
    exact g3
  | 3, 0, _, _, _ =>
    obtain ⟨c, t, g1, g2, g3⟩ := va_Nc.of (h.f (nc_in _ (List.mem_map.mpr ⟨("java/lang/ArithmeticException", "java/lang/IndexOutOfBoundsException"), List.mem_of_getElem? (i := 9) rfl, rfl⟩)))
    cases g1.symm.trans (hD 3 _ _ _ rfl).2.1
    cases g2.symm.trans (hD 0 _ _ _ rfl).2.1
    exact g3
  | 3, 1, _, _, _ =>
    obtain ⟨c, t, g1, g2, g3⟩ := va_Nc.of (h.f (nc_in _ (List.mem_map.mpr ⟨("java/lang/ArithmeticException", "java/lang/IllegalArgumentException"), List.mem_of_getElem? (i := 10) rfl, rfl⟩)))
    cases g1.symm.trans (hD 3 _ _ _ rfl).2.1
    cases g2.symm.trans (hD 1 _ _ _ rfl).2.1
    exact g3
  | 3, 2, _, _, _ =>
    obtain ⟨c, t, g1, g2, g3⟩ := va_Nc.of (h.f (nc_in _ (List.mem_map.mpr ⟨("java/lang/ArithmeticException", "java/lang/UnsupportedOperationException"), List.mem_of_getElem? (i := 11) rfl, rfl⟩)))
    cases g1.symm.trans (hD 3 _ _ _ rfl).2.1
    cases g2.symm.trans (hD 2 _ _ _ rfl).2.1
    exact g3
  | 3, 3, _, _, hn => exact absurd rfl hn
  | t + 4, _, ht, _, _ => exact absurd ht (by omega)
  | _, k + 4, _, hk, _ => exact absurd hk (by omega)
theorem mb_mt (h : m_G b xs s) (hD : m_KN mp_cl D s) (hw : (Cond.code x code maxLocals ret).before #[Value.ref b] s = true) : ∀ M ∈ mp_PG, m_mt mp_cl D s M := by
  intro M hM
  obtain ⟨q, hq, rfl⟩ := mb_pm hM
  obtain ⟨p1, p2, p3, p4⟩ := pl_ok q hq
  obtain ⟨m1, m2, m3, m4, m5⟩ := mb_mq hq
  obtain ⟨k1, k2⟩ := mb_lk h hq
  refine ⟨?_, m1, m2, fun z hz => ?_⟩
  · rcases p4 with ⟨-, p4⟩ | p4
    · rw [p4]
      exact Or.inl ⟨rfl, m_T.of hw rfl⟩
    · have hc : m_T s (m_cw q.2.2) := h.w (p4 _ List.mem_cons_self) (m_gd_cw _)
      unfold m_cw at hc
      split at hc
      · next he => exact Or.inl ⟨List.isEmpty_iff.mp he, hc⟩
      · exact Or.inr hc
  · obtain ⟨z1, z2, z3⟩ := m5 z hz
    have z4 := k2 _ (List.mem_of_find?_eq_some z3)
    refine ⟨z1, ?_, fun t ht hn => mb_nc h hD t _ ht z2 hn⟩
    simp only [m_ckT] at z4
    split at z4
    · next C T N hc => exact ⟨C, T, N, hc, m_ckC_ok k1 z4⟩
    · cases z4
theorem mb_h0_len : (mp_h0 xs).length = 41 := by
  unfold mp_h0
  rw [List.length_cons, List.length_append, m_hs_len]
  rfl
/-- where the old cells lie -/
def mb_ex1 (b tS tE : Nat) (z : Nat → Nat × Nat) (k : Nat) : Nat := if k = 0 then b else if k = 39 then tS else if k = 40 then tE else if k % 2 = 1 then (z ((k - 1) / 2)).1 else (z ((k - 2) / 2)).2
theorem mb_ex1o {b tS tE : Nat} {z : Nat → Nat × Nat} {j : Nat} (hj : j < 19) : mb_ex1 b tS tE z (1 + 2 * j) = (z j).1 := by
  unfold mb_ex1
  rw [if_neg (by omega), if_neg (by omega), if_neg (by omega), if_pos (by omega), show (1 + 2 * j - 1) / 2 = j by omega]
theorem mb_ex1e {b tS tE : Nat} {z : Nat → Nat × Nat} {j : Nat} (hj : j < 19) : mb_ex1 b tS tE z (2 + 2 * j) = (z j).2 := by
  unfold mb_ex1
  rw [if_neg (by omega), if_neg (by omega), if_neg (by omega), if_neg (by omega), show (2 + 2 * j - 2) / 2 = j by omega]
theorem m_ad_lt {nE B : Nat} {ext : mF} {k : Nat} (h : k < nE) : m_ad nE B ext k = ext.1 k := by
  unfold m_ad
  rw [if_pos h]
theorem mb_ext (h : m_G b xs s) (hD : m_KN mp_cl D s) : ∃ ext : mF, ext.1 0 = b ∧ m_HR mp_cl D mp_aty 4 41 s.heap.size ext s.heap s (mp_h0 xs) s.heap ∧
    (∀ z ∈ mp_sx, ∀ s' : State, s.WarmedH s'.vm → vk_R z.1 z.2.1 z.2.2.1 ((m_phi 41 s.heap.size ext).1 z.2.2.2) s') ∧
    (∀ z ∈ mp_sz, m_T s (.fieldLink z.1 z.2.1 z.2.2.1 z.2.2.2.1 z.2.2.2.2.1) ∧ va_Z z.2.2.1 z.2.2.2.1 z.2.2.2.2.1 (if z.2.2.2.2.2.2 = 0 then .int (Int32.ofNat z.2.2.2.2.2.1) else if z.2.2.2.2.2.2 = 1 then .ref ((m_phi 41 s.heap.size ext).1 z.2.2.2.2.2.1) else mf (m_phi 41 s.heap.size ext) (.retAddr 0)) (fun q => s.heap.size ≤ q) s s.heap) := by
  have k : ∀ i : Nat, ∃ z : Nat × Nat, ∀ q, mp_st[i]? = some q → (Term.string q.1 q.2.1).eval #[Value.ref b] s none [] s = some (.ref z.1) ∧ m_strA s z.1 z.2 q.2.2 := by
    intro i
    cases hq : mp_st[i]? with
    | none => exact ⟨(0, 0), fun q hq' => by cases hq'⟩
    | some q =>
      obtain ⟨z, hz⟩ := mb_str h i q hq
      exact ⟨z, fun q' hq' => by cases hq'; exact hz⟩
  obtain ⟨z, hz⟩ : ∃ z : Nat → Nat × Nat, ∀ i q, mp_st[i]? = some q → (Term.string q.1 q.2.1).eval #[Value.ref b] s none [] s = some (.ref (z i).1) ∧ m_strA s (z i).1 (z i).2 q.2.2 := ⟨fun i => Classical.choose (k i), fun i => Classical.choose_spec (k i)⟩
  have hlen : ∀ {i : Nat} {q : String × Nat × List Int32}, mp_st[i]? = some q → i < 19 := fun hq => (List.getElem?_eq_some_iff.mp hq).1
  obtain ⟨tS, hS, xS, hS1, hS2, hS3, hS4⟩ := mb_S h
  obtain ⟨tE, hE, xE, hE1, hE2, hE3, hE4⟩ := mb_E h
  have hsf := h.f (gv_in _ (List.mem_cons_of_mem _ List.mem_cons_self))
  obtain ⟨x2, hx2⟩ : ∃ x2 : Option Nat, (Term.static "jdk/internal/util/Preconditions" "SIOOBE_FORMATTER" "Ljava/util/function/BiFunction;").eval #[Value.ref b] s none [] s = some (match x2 with
      | some a => Value.ref a
      | none => Value.null) := by
    cases hv : (Term.static "jdk/internal/util/Preconditions" "SIOOBE_FORMATTER" "Ljava/util/function/BiFunction;").eval #[Value.ref b] s none [] s with
    | none => simp [Cond.before, Cond.holds, Cond.value, hv] at hsf
    | some v =>
      cases v with
      | ref a => exact ⟨some a, rfl⟩
      | null => exact ⟨none, rfl⟩
      | _ => simp [Cond.before, Cond.holds, Cond.value, hv] at hsf
  have main : ∀ (k : Nat) (cc : mC), (mp_h0 xs)[k]? = some cc → ∃ y : Cell, s.heap[mb_ex1 b tS tE z k]? = some y ∧ m_cR mp_cl D mp_aty 4 s (m_phi 41 s.heap.size (mb_ex1 b tS tE z, x2)) cc y := by
    intro k cc hk
    match k with
    | 0 =>
      cases hk
      obtain ⟨scr, g1, g2, g3, g4⟩ := h.2.2
      exact ⟨scr, g1, m_cR.old (by decide) (by decide) g2 g3 g4 (fun z => by cases z)⟩
    | k + 1 =>
      have hk : (m_hs 0 mp_st ++ [(1001, mp_aS.map Value.int), (1001, mp_aE.map Value.int)])[k]? = some cc := hk
      have hl : (m_hs 0 mp_st).length = 38 := m_hs_len _ _
      by_cases hlt : k < 38
      · rw [List.getElem?_append_left (by omega)] at hk
        obtain ⟨j, q, hq, hj⟩ := m_hs_at _ _ _ _ hk
        have hj19 := hlen hq
        obtain ⟨e1, ⟨cell, g1, g2, g3, g4⟩, o1, o2, ⟨tc, t1, t2, t3, t4⟩⟩ := hz j q hq
        rcases hj with ⟨rfl, rfl⟩ | ⟨rfl, rfl⟩
        · refine ⟨cell, by rw [show 2 * j + 1 = 1 + 2 * j by omega, mb_ex1o hj19]; exact g1, ?_⟩
          obtain ⟨hS0, hS1, -⟩ := hD 17 _ _ _ rfl
          obtain ⟨cf1, kf1, i1, f1, c1, a1, a2, a3, a4, a5, -⟩ := o1
          obtain ⟨cf2, kf2, i2, f2, c2, b1, b2, b3, b4, b5, -⟩ := o2
          cases g1.symm.trans a3
          cases g1.symm.trans b3
          refine ⟨a4, g2, fun _ => ⟨Option.some.inj (g3.symm.trans hS1), ⟨_, rfl, Nat.le_refl 2⟩, fun j' v hv => ?_⟩, fun hh => absurd hh (show ¬ (1000 ≤ 17) by decide)⟩
          match j', hv with
          | 0, hv =>
            cases hv
            obtain ⟨_, _, _, f, u1, u2⟩ := hS0 0 (by decide)
            cases u1.symm.trans a1
            show cell.slots[D.2 17 0]? = some (Value.ref (m_ad 41 s.heap.size (mb_ex1 b tS tE z, x2) (2 + 2 * (0 + j))))
            rw [← u2, m_ad_lt (by omega), Nat.zero_add]
            show _ = some (Value.ref (mb_ex1 b tS tE z (2 + 2 * j)))
            rw [mb_ex1e hj19]
            exact a5
          | 1, hv =>
            cases hv
            obtain ⟨_, _, _, f, u1, u2⟩ := hS0 1 (by decide)
            cases u1.symm.trans b1
            show cell.slots[D.2 17 1]? = some (Value.int 0)
            rw [← u2]
            exact b5
          | j' + 2, hv => cases hv
        · refine ⟨tc, by rw [show 2 * j + 1 + 1 = 2 + 2 * j by omega, mb_ex1e hj19]; exact t1, m_cR.old (by decide) (by decide) t2 t3 t4 fun _ v hv => ?_⟩
          have hb := List.all_eq_true.mp st_by q (List.mem_of_getElem? hq)
          simp only [Bool.and_eq_true] at hb
          exact List.all_eq_true.mp hb.2 v hv
      · rw [List.getElem?_append_right (by omega), hl] at hk
        by_cases e38 : k = 38
        · subst e38
          cases hk
          exact ⟨xS, hS1, m_cR.old (by decide) (by decide) hS2 hS3 hS4 (fun z => by cases z)⟩
        · by_cases e39 : k = 39
          · subst e39
            cases hk
            exact ⟨xE, hE1, m_cR.old (by decide) (by decide) hE2 hE3 hE4 (fun z => by cases z)⟩
          · obtain ⟨n, rfl⟩ : ∃ n, k = n + 40 := ⟨k - 40, by omega⟩
            rw [show n + 40 - 38 = n + 2 by omega] at hk
            cases hk
  refine ⟨(mb_ex1 b tS tE z, x2), rfl, ⟨by rw [mb_h0_len], by rw [mb_h0_len]; exact Nat.le_refl _, fun k hk => ?_, fun q _ => rfl, fun k cc hk => ?_⟩, fun w hw s' hW => ?_, fun w hw => ?_⟩
  · have hk' : k < (mp_h0 xs).length := by rw [mb_h0_len]; exact hk
    obtain ⟨y, g1, -⟩ := main k _ (List.getElem?_eq_getElem hk')
    exact (Array.getElem?_eq_some_iff.mp g1).1
  · have hk' : k < 41 := by
      have := (List.getElem?_eq_some_iff.mp hk).1
      rw [mb_h0_len] at this
      exact this
    obtain ⟨y, g1, g2⟩ := main k cc hk
    exact ⟨y, by rw [m_ad_lt hk']; exact g1, fun hn => absurd hn (by omega), g2⟩
  · have hc := List.all_eq_true.mp sx_st w hw
    simp only [Bool.and_eq_true, decide_eq_true_eq] at hc
    obtain ⟨⟨c1, c2⟩, c3⟩ := hc
    split at c3
    · next q hq =>
      simp only [Bool.and_eq_true, beq_iff_eq] at c3
      have hj := hlen hq
      obtain ⟨e1, -⟩ := hz _ q hq
      rw [c3.1, c3.2] at e1
      refine vk_R.warm hW (vk_R.of (h.1 _ (sx_in _ (List.mem_map.mpr ⟨w, hw, rfl⟩))) ?_)
      rw [e1]
      show _ = some (Value.ref (m_ad 41 s.heap.size (mb_ex1 b tS tE z, x2) w.2.2.2))
      rw [m_ad_lt (by omega)]
      show _ = some (Value.ref (mb_ex1 b tS tE z w.2.2.2))
      rw [c1, mb_ex1o hj, show (1 + 2 * ((w.2.2.2 - 1) / 2) - 1) / 2 = (w.2.2.2 - 1) / 2 by omega]
    · cases c3
  · refine ⟨h.w (sz_in _ (List.mem_map.mpr ⟨w, hw, rfl⟩)) rfl, ?_⟩
    have l1 := h.1 _ (sz_ls _ (List.mem_map.mpr ⟨w, hw, rfl⟩))
    have l2 := h.1 _ (sz_iz _ (List.mem_map.mpr ⟨w, hw, rfl⟩))
    refine va_Zof l1 l2 ?_ (fun a ha => Nat.not_le.mpr ha)
    simp only [mp_sz, List.mem_cons, List.not_mem_nil, or_false] at hw
    rcases hw with rfl | rfl | rfl | rfl
    · exact hS
    · exact hE
    · exact va_eqi (h.f (gv_in _ List.mem_cons_self))
    · exact hx2
/-- the law's walk, from the small machine's run -/
theorem mb_law (hx : p.tables.exec = Jvm.exec) (htr : e.platform.stackTraces = false) (h : m_G b xs s) (hw : (Cond.code x code maxLocals ret).before #[Value.ref b] s = true) (hcd : m_cd s mm254 m meth c) (hrun : ∃ S' : mS, m_ev 41 mp_FL mp_PG 2000 mm254 (0, m_ent [.ref 0] 8, [], (mp_h0 xs, 601024, 7293034)) (.returned (some (.int 1)), S')) :
    ∃ PQ : Outcome → Heap → List Loc → Nat → Nat → Prop, (∀ o H L k n, PQ o H L k n → o = .returned (some (.int 1)) ∧ (∀ q ∈ L, s.heap.size ≤ q.base) ∧ k ≤ 601024 ∧ n ≤ 7293034) ∧ W p l e room_1 s m #[Value.ref b] below meth c s.heap [] 0 0 (m_Q below s PQ) (entryFrame m ([Value.ref b] : List Value).toArray 8) := by
  obtain ⟨S', fuel, hrun⟩ := hrun
  obtain ⟨D, hD⟩ := mb_D h
  obtain ⟨ext, he0, hHR, hsx, hsz⟩ := mb_ext h hD
  have hLK : ∀ M ∈ mp_PG, ∀ (pc : Nat) (i : ClassFile.Instr) (len a b k : Nat), M.2.2.2.2.2[pc]? = some (some (i, len, a, b, k)) → decode M.2.1 pc = .ok (i, m_len i len) ∧ m_lk mp_cl mp_aty 4 (m_phi 41 s.heap.size ext) mp_FL mp_PG s M pc i a b k := by
    intro M hM pc i len a b k hc
    obtain ⟨q, hq, rfl⟩ := mb_pm hM
    obtain ⟨p1, p2, p3, p4⟩ := pl_ok q hq
    obtain ⟨k1, k2⟩ := mb_lk h hq
    obtain ⟨d1, d2⟩ := m_ckL_at _ _ _ _ _ _ _ _ _ 0 pc _ p3 hc
    rw [Nat.zero_add] at d1 d2
    have ha : ∀ w ∈ [Cond.arrayClass .byte, .arrayClass .int, .arrayClass .long, .arrayOver (.object "StepBench$Text"), .arrayOver (.array .int), .native arraycopyName, .static arraycopyName, .initialized "java/lang/System", .instanceMethod Lib.objectInit, .code Lib.objectInit ⟨#[0xb1]⟩ 1 none], m_gd w = true → m_T s w := fun w hw hg => h.w (ar_in w hw) hg
    refine ⟨d1, m_ckE_ok2 (len := len) k1 k2 ?_ ?_ hsx hsz (mb_oc h _) ⟨_, _, rfl⟩ ⟨rfl, rfl⟩ ⟨ha _ (by simp) rfl, ha _ (by simp) rfl, ha _ (by simp) rfl, fun s' args hW => va_AO.use (va_AO.moved hW.alike (va_AO.of (h.1 _ (ar_in _ (by simp))))), fun s' args hW => over_moved hW.alike (h.1 _ (ar_in _ (by simp)))⟩ (mb_kd h) ⟨ha _ (by simp) rfl, ha _ (by simp) rfl, ha _ (by simp) rfl⟩ ⟨ha _ (by simp) rfl, ha _ (by simp) rfl⟩ (mb_ex h) d2⟩
    · intro a b M' hM' hb
      have h1 : (M', a) ∈ mp_PG.zipIdx := by rw [List.mem_zipIdx_iff_getElem?]; exact hM'
      have hn := List.all_eq_true.mp np_ok _ h1
      simp only at hn
      rw [hb] at hn
      exact eq_of_beq hn
    · intro a k M' hM' hk1 hk2
      have h1 : (M', a) ∈ mp_PG.zipIdx := by rw [List.mem_zipIdx_iff_getElem?]; exact hM'
      have hn := List.all_eq_true.mp kt_ok _ h1
      simp only at hn
      rw [hk1, hk2] at hn
      simp only [beq_self_eq_true, Bool.not_true, Bool.false_or] at hn
      exact eq_of_beq hn
  have h4 : ∀ t, t < 4 → ∃ C T N, mp_cl[t]? = some (C, T, N) := by
    intro t ht
    match t, ht with
    | 0, _ => exact ⟨_, _, _, rfl⟩
    | 1, _ => exact ⟨_, _, _, rfl⟩
    | 2, _ => exact ⟨_, _, _, rfl⟩
    | 3, _ => exact ⟨_, _, _, rfl⟩
    | t + 4, ht => exact absurd ht (by omega)
  have hst : m_St s s := ⟨State.WarmedH.refl s, fun _ _ => rfl, fun q cell hq hc => absurd (Array.getElem?_eq_some_iff.mp hc).1 (Nat.not_lt.mpr hq)⟩
  have K := m_sound (p := p) (l := l) (e := e) (s0 := s) (mcl := mp_cl) (D := D) (aty := mp_aty) (tX := 4) (nE := 41) (ext := ext) hx htr ⟨rfl, rfl, rfl⟩ rfl (FL := mp_FL) (PG := mp_PG) (mb_CL h) hD h4 (mb_mt h hD hw) hLK fuel 2000 mm254 0 (m_ent [.ref 0] 8) [] (mp_h0 xs, 601024, 7293034) (.returned (some (.int 1))) S' (List.mem_of_getElem? (i := 254) rfl) hrun room_1 s m #[Value.ref b] below meth c 601024 7293034 hst hcd (by decide) (by decide) (Nat.le_refl _) (Nat.le_refl _)
  refine ⟨m_P mp_cl D mp_aty 4 41 ext s (.returned (some (.int 1))) S' 601024 7293034, ?_, ?_⟩
  rotate_left
  · have e0 : ([Value.ref b] : List Value) = [Value.ref 0].map (mf (m_phi 41 s.heap.size ext)) := by
      show [Value.ref b] = [Value.ref (m_ad 41 s.heap.size ext 0)]
      rw [m_ad_lt (by decide), he0]
    have e1 : entryFrame m ([Value.ref b] : List Value).toArray 8 = F0 m 0 ((lg_sl ([Value.ref 0].map (mf (m_phi 41 s.heap.size ext))) ++ List.replicate (8 - (lg_sl ([Value.ref 0].map (mf (m_phi 41 s.heap.size ext)))).length) Slot.unset).toArray) [] := by
      rw [e0, lg_entry_eq]
    rw [e1]
    exact K _ s.heap [] 0 0 (m_LR.ent _ [.ref 0] (by decide)) hHR (fun q hq => by cases hq) (Nat.le_of_eq (Nat.zero_add _)) (Nat.le_of_eq (Nat.zero_add _))
  · intro o H L k n hP
    obtain ⟨q1, q2, q3, q4, q5⟩ := hP
    exact ⟨q1, q3, by omega, by omega⟩
end Law85
