/-! The state at the law's loop, before the first call. -/
section Init121
def vI : Value → Int32
  | .int x => x
  | .ref r => Int32.ofNat r
  | _ => 0
def S_of (h : mH) : SS := fun a => if a ∈ shT then (if a = 42 ∨ a = 44 ∨ a = 49 then [0] else [0, 110, 117, 108, 108]) else if a ∈ shP then [0] else if a = 101 then lgE 0 else ((h[a]?).map fun c => c.2.map vI).getD []
def okB (k : Nat) (x : Int32) : Bool := (k != 1 || (x == 0 || x == 1)) && ((k != 4 || decide (x.toNatClampNeg ∈ shT)) && ((k != 5 || (x == 0 || decide (x.toNatClampNeg ∈ shA))) && (k != 6 || (x == 0 || x == 90))))
theorem okB_ok {k : Nat} {x : Int32} (h : okB k x = true) : okV k x := by
  unfold okB at h
  simp only [Bool.and_eq_true, Bool.or_eq_true, bne_iff_ne, ne_eq, beq_iff_eq, decide_eq_true_eq] at h
  obtain ⟨h1, h2, h3, h4⟩ := h
  exact ⟨fun e => h1.resolve_left (fun n => n e), fun e => h2.resolve_left (fun n => n e), fun e => h3.resolve_left (fun n => n e), fun e => h4.resolve_left (fun n => n e)⟩
def chkO (p : Nat × Nat × List Nat) (q : Nat × mC) : Bool := q.1 == p.1 && (q.2.1 == p.2.1 && (q.2.2.length == p.2.2.length && (decide (List.zipWith mkV p.2.2 (q.2.2.map vI) = q.2.2) && (List.zipWith okB p.2.2 (q.2.2.map vI)).all id)))
theorem ini_O : (shO.all fun p => mp_ce.any fun q => chkO p q) = true := by decide +kernel
theorem ini_O2 : (shO.all fun p => !shT.contains p.1 && (!shP.contains p.1 && p.1 != 101)) = true := by decide +kernel
theorem zip_ok : ∀ (ks : List Nat) (l : List Int32), ks.length = l.length → (List.zipWith okB ks l).all id = true → ∀ j k, ks[j]? = some k → okV k (l.getD j 0) := by
  intro ks
  induction ks with
  | nil => intro l _ _ j k h; cases h
  | cons c ks ih =>
    intro l hl h j k hj
    cases l with
    | nil => cases hl
    | cons x l =>
      simp only [List.zipWith_cons_cons, List.all_cons, id_eq, Bool.and_eq_true] at h
      cases j with
      | zero => cases hj; exact okB_ok h.1
      | succ j => exact ih l (by simpa using hl) h.2 j k hj
theorem vs_int : ∀ (vs : List Value), vs.all m_isI = true → vs = (vs.map vI).map Value.int := by
  intro vs
  induction vs with
  | nil => intro _; rfl
  | cons v vs ih =>
    intro h
    rw [List.all_cons, Bool.and_eq_true] at h
    cases v with
    | int x => rw [List.map_cons, List.map_cons, ← ih h.2]; rfl
    | _ => cases h.1
def chkA (a : Nat) : Bool := !shT.contains a && (!shP.contains a && (a != 101 && mp_ar.any fun q => q.1 == a && q.2.1 == 1001))
theorem ini_A : (shW.all chkA) = true := by decide +kernel
theorem ini_A0 : ((mp_ht[38]?) = some (1001, mp_aS.map Value.int)) ∧ ((mp_ht[39]?) = some (1001, mp_aE.map Value.int)) := by decide +kernel
def chkT (o : Nat) : Bool := (mp_ce.any fun q => q.1 == o && decide (q.2 = (4, [.ref (o + 1), .int (if o = 42 ∨ o = 44 ∨ o = 49 then 0 else 4), .int 0]))) && mp_ar.any fun q => q.1 == o + 1 && (q.2.1 == 1000 && (q.2.2.1 == 4096 && decide (q.2.2.2 = if o = 42 ∨ o = 44 ∨ o = 49 then [] else [Value.int 110, .int 117, .int 108, .int 108])))
theorem ini_T : (shT.all fun o => chkT o && decide (41 ≤ o)) = true := by decide +kernel
def chkP (o : Nat) : Bool := (mp_ce.any fun q => q.1 == o && decide (q.2 = (15, [.ref (o + 1), .int 0, .int 0]))) && mp_ar.any fun q => q.1 == o + 1 && (q.2.1 == 1001 && q.2.2.1 == 4096)
theorem ini_P : (shP.all fun o => chkP o && !shT.contains o) = true := by decide +kernel
theorem ini_46 : (mp_ce.any fun q => q.1 == 46 && (q.2.1 == 1003 && (decide (q.2.2 = (q.2.2.map vI).map fun x => Value.ref x.toNatClampNeg) && (q.2.2.map vI).all fun x => decide (x.toNatClampNeg ∈ shT)))) = true := by decide +kernel
theorem ini_81 : (mp_ce.any fun q => q.1 == 81 && decide (q.2 = (1004, sh81.map fun x => Value.ref x.toNatClampNeg))) = true := by decide +kernel
theorem ini_71 : (mp_ar.any fun q => q.1 == 71 && q.2.1 == 1000) = true := by decide +kernel
theorem ini_S : (shS.all fun s => decide (mp_ht[s.1 - 1]? = some (17, [.ref s.2.1, .int 0])) && (decide (mp_ht[s.2.1 - 1]? = some (1000, s.2.2.map Value.int)) && (decide (1 ≤ s.1 ∧ 1 ≤ s.2.1 ∧ s.2.2.length < 65536) && s.2.2.all fun u => decide (u &&& 255 = u ∧ (u.toUInt32 % 65536).toInt32 = u ∧ narrow .char (.int u) = .int u)))) = true := by decide +kernel
theorem cs_of {xs : List Int32} {h : mH} (hm : m_s2 xs h) : cs h (S_of h) := by
  obtain ⟨m1, m2, m3, m4, m5⟩ := hm
  have lo : ∀ k, k < 41 → h[k]? = (mp_h0 xs)[k]? := by
    intro k hk
    rw [← m2, List.getElem?_take_of_lt hk]
  refine ⟨fun u => ⟨fun t ks m => ?_, fun m => ?_, fun m => ?_, fun m => ?_, fun m => ?_, fun m => ?_⟩, ?_, fun s ms => ?_, ?_⟩
  · have h1 := List.all_eq_true.mp ini_O _ m
    have h2 := List.all_eq_true.mp ini_O2 _ m
    simp only [Bool.and_eq_true, Bool.not_eq_true', bne_iff_ne, ne_eq] at h2
    obtain ⟨q, hq, hc⟩ := List.any_eq_true.mp h1
    unfold chkO at hc
    simp only [Bool.and_eq_true, beq_iff_eq, decide_eq_true_eq] at hc
    obtain ⟨e1, e2, e3, e4, e5⟩ := hc
    have hcell := m4 q hq
    rw [e1] at hcell
    have eS : S_of h u = q.2.2.map vI := by
      unfold S_of
      rw [if_neg (fun e => by rw [List.contains_iff_mem.mpr e] at h2; cases h2.1), if_neg (fun e => by rw [List.contains_iff_mem.mpr e] at h2; cases h2.2.1), if_neg h2.2.2, hcell]
      rfl
    rw [eS]
    refine ⟨by rw [List.length_map]; exact e3, ?_, zip_ok ks _ (by rw [List.length_map]; exact e3.symm) e5⟩
    rw [e4, ← e2]
    exact hcell
  · by_cases hw : u ∈ shW
    · have h1 := List.all_eq_true.mp ini_A _ hw
      unfold chkA at h1
      simp only [Bool.and_eq_true, Bool.not_eq_true', bne_iff_ne, ne_eq] at h1
      obtain ⟨h2, h3, h4, h5⟩ := h1
      obtain ⟨q, hq, hc⟩ := List.any_eq_true.mp h5
      simp only [Bool.and_eq_true, beq_iff_eq] at hc
      obtain ⟨vs, v1, v2, v3, v4⟩ := m5 q hq
      rw [hc.1, hc.2] at v1
      have eS : S_of h u = vs.map vI := by
        unfold S_of
        rw [if_neg (fun e => by rw [List.contains_iff_mem.mpr e] at h2; cases h2), if_neg (fun e => by rw [List.contains_iff_mem.mpr e] at h3; cases h3), if_neg h4, v1]
        rfl
      rw [eS, ← vs_int vs v4]
      exact v1
    · have : u = 0 ∨ u = 39 ∨ u = 40 := by
        have hA : ∀ x ∈ shA, x ∈ shW ∨ (x = 0 ∨ x = 39 ∨ x = 40) := by decide
        exact (hA u m).resolve_left hw
      have key : ∀ l : List Int32, u ∉ shT → u ∉ shP → u ≠ 101 → h[u]? = some (1001, l.map Value.int) → h[u]? = some (1001, (S_of h u).map Value.int) := by
        intro l t1 t2 t3 hc
        unfold S_of
        rw [if_neg t1, if_neg t2, if_neg t3, hc]
        simp only [Option.map_some, Option.getD_some, List.map_map]
        rfl
      rcases this with rfl | rfl | rfl
      · exact key xs (by decide) (by decide) (by decide) (by rw [lo 0 (by decide)]; rfl)
      · exact key mp_aS (by decide) (by decide) (by decide) (by rw [lo 39 (by decide)]; exact ini_A0.1)
      · exact key mp_aE (by decide) (by decide) (by decide) (by rw [lo 40 (by decide)]; exact ini_A0.2)
  · have h1 := List.all_eq_true.mp ini_T _ m
    rw [Bool.and_eq_true] at h1
    obtain ⟨h1, h41⟩ := h1
    have h41 := of_decide_eq_true h41
    unfold chkT at h1
    rw [Bool.and_eq_true] at h1
    obtain ⟨q, hq, hc⟩ := List.any_eq_true.mp h1.1
    obtain ⟨q2, hq2, hc2⟩ := List.any_eq_true.mp h1.2
    simp only [Bool.and_eq_true, beq_iff_eq, decide_eq_true_eq] at hc hc2
    have hcell := m4 q hq
    rw [hc.1, hc.2] at hcell
    obtain ⟨vs, v1, v2, v3, v4⟩ := m5 q2 hq2
    rw [hc2.1, hc2.2.1] at v1
    rw [hc2.2.2.1] at v2
    rw [hc2.2.2.2] at v3
    have eS : S_of h u = if u = 42 ∨ u = 44 ∨ u = 49 then [0] else [0, 110, 117, 108, 108] := by
      unfold S_of
      rw [if_pos m]
    rw [eS]
    by_cases e : u = 42 ∨ u = 44 ∨ u = 49
    · rw [if_pos e] at hcell ⊢
      exact ⟨⟨h41, by omega, hcell, by decide, (fun u hu => by cases hu), vs, v1, by simpa using v2⟩, Or.inl rfl⟩
    · rw [if_neg e] at hcell v3 ⊢
      refine ⟨⟨h41, by omega, hcell, by decide, by decide, vs.drop 4, ?_, ?_⟩, Or.inl rfl⟩
      · have e1 : vs = vs.take 4 ++ vs.drop 4 := (List.take_append_drop 4 vs).symm
        have e2 : vs.take 4 = [Value.int 110, .int 117, .int 108, .int 108] := v3
        rw [v1]
        congr 2
        rw [← List.take_append_drop 4 vs, e2]
        simp only [List.drop_append, List.length_cons, List.length_nil]
        rfl
      · rw [List.length_drop, v2]; rfl
  · have h1 := List.all_eq_true.mp ini_P _ m
    rw [Bool.and_eq_true] at h1
    obtain ⟨h1, h2⟩ := h1
    unfold chkP at h1
    rw [Bool.and_eq_true] at h1
    obtain ⟨q, hq, hc⟩ := List.any_eq_true.mp h1.1
    obtain ⟨q2, hq2, hc2⟩ := List.any_eq_true.mp h1.2
    simp only [Bool.and_eq_true, beq_iff_eq, decide_eq_true_eq] at hc hc2
    have hcell := m4 q hq
    rw [hc.1, hc.2] at hcell
    obtain ⟨vs, v1, v2, v3, v4⟩ := m5 q2 hq2
    rw [hc2.1, hc2.2.1] at v1
    rw [hc2.2.2] at v2
    have eS : S_of h u = [0] := by
      unfold S_of
      rw [if_neg (fun e => by rw [List.contains_iff_mem.mpr e] at h2; cases h2), if_pos m]
    rw [eS]
    exact ⟨⟨hcell, by decide, vs.map vI, by rw [List.tail_cons, List.nil_append, ← vs_int vs v4]; exact v1, by simpa using v2⟩, Or.inl rfl⟩
  · subst m
    obtain ⟨q, hq, hc⟩ := List.any_eq_true.mp ini_71
    simp only [Bool.and_eq_true, beq_iff_eq] at hc
    obtain ⟨vs, v1, v2, v3, v4⟩ := m5 q hq
    rw [hc.1, hc.2] at v1
    have eS : S_of h 71 = vs.map vI := by
      unfold S_of
      rw [if_neg (by decide), if_neg (by decide), if_neg (by decide), v1]
      rfl
    rw [eS, ← vs_int vs v4]
    exact v1
  · subst m
    obtain ⟨q, hq, hc⟩ := List.any_eq_true.mp ini_46
    simp only [Bool.and_eq_true, beq_iff_eq, decide_eq_true_eq, List.all_eq_true] at hc
    obtain ⟨c1, c2, c3, c4⟩ := hc
    have hcell := m4 q hq
    rw [c1] at hcell
    have eS : S_of h 46 = q.2.2.map vI := by
      unfold S_of
      rw [if_neg (by decide), if_neg (by decide), if_neg (by decide), hcell]
      rfl
    rw [eS, ← c3]
    exact ⟨by rw [hcell]; congr 1; exact Prod.ext c2 rfl, c4⟩
  · obtain ⟨q, hq, hc⟩ := List.any_eq_true.mp ini_81
    simp only [Bool.and_eq_true, beq_iff_eq, decide_eq_true_eq] at hc
    have hcell := m4 q hq
    rw [hc.1, hc.2] at hcell
    exact hcell
  · have h1 := List.all_eq_true.mp ini_S _ ms
    simp only [Bool.and_eq_true, decide_eq_true_eq, List.all_eq_true] at h1
    obtain ⟨a1, a2, a3, a4⟩ := h1
    obtain ⟨l1, l2⟩ := sx_lt s ms
    have ht : ∀ k, 1 ≤ k → k < 41 → h[k]? = mp_ht[k - 1]? := by
      intro k k1 k2
      rw [lo k k2]
      obtain ⟨j, rfl⟩ : ∃ j, k = j + 1 := ⟨k - 1, by omega⟩
      rfl
    exact ⟨by rw [ht _ a3.1 l1]; exact a1, by rw [ht _ a3.2.1 l2]; exact a2, a3.2.2, a4⟩
  · rw [m3]
    have e : lg (S_of h 101) = 0 := by
      unfold S_of
      rw [if_neg (by decide), if_neg (by decide), if_pos rfl]
      exact lg_E 0
    rw [e]
end Init121
