/-! A whole run that never looks at the script goes alike whatever the script is. -/
section Blank2
variable {h : mH} {c : mC}
theorem bl_cpy (hb : h[0]? = some m_bl) {pc : Nat} {ml : mL} {st : List Value} {K : Nat × Nat} : bl_R c (m_cpy pc ml st (h, K) 41) (m_cpy pc ml st (h.set 0 c, K) 41) := by
  unfold m_cpy
  split
  · next n dp y sp x rest =>
    simp only
    cases hx : h[x]? with
    | none => exact bl_none
    | some u =>
      cases hy : h[y]? with
      | none => exact bl_none
      | some v =>
        obtain ⟨t, vs⟩ := u
        obtain ⟨t2, ws⟩ := v
        simp only
        by_cases ht : t = 1000 ∧ t2 = 1000 ∧ 41 ≤ y ∧ ¬ sp < 0 ∧ ¬ dp < 0 ∧ ¬ n < 0 ∧ sp.toNatClampNeg + n.toNatClampNeg ≤ vs.length ∧ dp.toNatClampNeg + n.toNatClampNeg ≤ ws.length
        · rw [if_pos ht, bl_get hb hx (fun e => by cases e; exact absurd ht.1 (by decide)), bl_get hb hy (fun e => by cases e; exact absurd ht.2.1 (by decide))]
          simp only
          rw [if_pos ht, ← bl_set ht.2.2.1]
          exact bl_same (bl_set0 hb ht.2.2.1)
        · rw [if_neg ht]; exact bl_none
  · exact bl_none
variable {FL : Nat → List Value} {PG : List mM}
set_option maxHeartbeats 4000000 in
theorem bl_run (hT : ∀ M ∈ PG, ∀ (pc : Nat) (i : ClassFile.Instr) (len a b k : Nat), M.2.2.2.2.2[pc]? = some (some (i, len, a, b, k)) → b ≠ 500 ∧ k ≠ 501) : ∀ (n d : Nat) (M : mM) (pc : Nat) (ml : mL) (st : List Value) (h : mH) (K : Nat × Nat) (o : Outcome) (h1 : mH) (K1 : Nat × Nat), M ∈ PG → h[0]? = some m_bl →
    m_run 41 FL PG n d M (pc, ml, st, (h, K)) = some (o, (h1, K1)) → h1[0]? = some m_bl ∧ m_run 41 FL PG n d M (pc, ml, st, (h.set 0 c, K)) = some (o, (h1.set 0 c, K1)) := by
  intro n
  induction n with
  | zero => intro d M pc ml st h K o h1 K1 _ _ hr; cases hr
  | succ n ih =>
    intro d M pc ml st h K o h1 K1 hM hb hr
    rw [m_run_succ] at hr ⊢
    unfold m_turn at hr ⊢
    simp only at hr ⊢
    cases hc : M.2.2.2.2.2[pc]? with
    | none => rw [hc] at hr; cases hr
    | some z =>
      cases z with
      | none => rw [hc] at hr; cases hr
      | some q =>
        obtain ⟨i, len, a, b, k⟩ := q
        obtain ⟨hb5, hk5⟩ := hT M hM pc i len a b k hc
        rw [hc] at hr
        have one : (match m_one 41 i a b k pc ml st (h, K) with | some g' => m_run 41 FL PG n d M g' | none => none) = some (o, (h1, K1)) → h1[0]? = some m_bl ∧ (match m_one 41 i a b k pc ml st (h.set 0 c, K) with | some g' => m_run 41 FL PG n d M g' | none => none) = some (o, (h1.set 0 c, K1)) := by
          intro hr
          cases hq : m_one 41 i a b k pc ml st (h, K) with
          | none => rw [hq] at hr; cases hr
          | some g' =>
            obtain ⟨pc', ml', st', h', K'⟩ := g'
            rw [hq] at hr
            obtain ⟨g1, g2⟩ := bl_one (c := c) hb hb5 _ _ _ _ _ hq
            rw [g2]
            exact ih d M pc' ml' st' h' K' o h1 K1 hM g1 hr
        have back : ∀ (rest : List Value) (o2 : Outcome) (h2 : mH) (K2 : Nat × Nat), h2[0]? = some m_bl → m_back (m_run 41 FL PG n) d M pc ml rest (some (o2, (h2, K2))) = some (o, (h1, K1)) → h1[0]? = some m_bl ∧ m_back (m_run 41 FL PG n) d M pc ml rest (some (o2, (h2.set 0 c, K2))) = some (o, (h1.set 0 c, K1)) := by
          intro rest o2 h2 K2 hb2 hr
          cases o2 with
          | returned v => exact ih d M _ ml _ h2 K2 o h1 K1 hM hb2 hr
          | threw x =>
            unfold m_back at hr ⊢
            simp only at hr ⊢
            cases hx : h2[x]? with
            | none => rw [hx] at hr; cases hr
            | some y =>
              obtain ⟨t, fs⟩ := y
              rw [hx] at hr
              simp only at hr
              obtain ⟨t', fs', hx', htt⟩ : ∃ t' fs', (h2.set 0 c)[x]? = some (t', fs') ∧ (t < 4 → t' = t) := by
                by_cases e : x = 0
                · subst e
                  cases hb2.symm.trans hx
                  refine ⟨c.1, c.2, ?_, fun z => absurd z (by decide)⟩
                  rw [List.getElem?_set_self (List.getElem?_eq_some_iff.mp hb2).1]
                · exact ⟨t, fs, by rw [List.getElem?_set_ne (fun z => e z.symm)]; exact hx, fun _ => rfl⟩
              rw [hx']
              simp only
              by_cases he : M.2.2.2.2.1.isEmpty = true
              · rw [if_pos he] at hr ⊢
                cases hr
                exact ⟨hb2, rfl⟩
              · rw [if_neg he] at hr ⊢
                by_cases ht : t < 4
                · rw [if_pos ht] at hr
                  rw [htt ht, if_pos ht]
                  cases hh : m_hnd M.2.2.2.2.1 pc t with
                  | none => rw [hh] at hr; cases hr
                  | some hp => rw [hh] at hr; exact ih d M hp ml _ h2 K2 o h1 K1 hM hb2 hr
                · rw [if_neg ht] at hr; cases hr
        have call : m_call PG (m_run 41 FL PG n) d M a b k pc ml st (h, K) = some (o, (h1, K1)) → h1[0]? = some m_bl ∧ m_call PG (m_run 41 FL PG n) d M a b k pc ml st (h.set 0 c, K) = some (o, (h1.set 0 c, K1)) := by
          intro hr
          unfold m_call at hr ⊢
          cases d with
          | zero => cases hr
          | succ d =>
            simp only at hr ⊢
            cases hM' : PG[a]? with
            | none => rw [hM'] at hr; cases hr
            | some M' =>
              rw [hM'] at hr
              simp only at hr ⊢
              split at hr
              · next hq =>
                have hrc : m_rcv k (st.take b).reverse (h.set 0 c) = true := by
                  have hq4 := hq.2.2.2
                  unfold m_rcv at hq4 ⊢
                  cases k with
                  | zero => rfl
                  | succ k' =>
                    simp only at hq4 ⊢
                    split at hq4
                    · next r vs hvs =>
                      cases hr0 : h[r]? with
                      | none => rw [hr0] at hq4; cases hq4
                      | some y =>
                        obtain ⟨t, fs⟩ := y
                        rw [hr0] at hq4
                        simp only [beq_iff_eq] at hq4
                        rw [bl_get hb hr0 (fun e => by cases e; exact hk5 (by rw [← hq4]))]
                        simp only [beq_iff_eq]
                        exact hq4
                    · cases hq4
                rw [if_pos ⟨hq.1, hq.2.1, hq.2.2.1, hrc⟩]
                cases hrun : m_run 41 FL PG n d M' (0, m_ent (st.take b).reverse M'.2.2.1, [], (h, K)) with
                | none => rw [hrun] at hr; cases hr
                | some y =>
                  obtain ⟨o2, h2, K2⟩ := y
                  rw [hrun] at hr
                  obtain ⟨g1, g2⟩ := ih d M' 0 _ [] h K o2 h2 K2 (List.mem_of_getElem? hM') hb hrun
                  rw [g2]
                  exact back _ o2 h2 K2 g1 hr
              · cases hr
        cases i with
        | invokevirtual _ => exact call hr
        | invokespecial _ =>
          simp only at hr ⊢
          by_cases ha : a = 999999
          · rw [if_pos ha] at hr ⊢
            split at hr
            · next rest =>
              split at hr
              · next hs =>
                rw [if_pos hs]
                exact ih _ M _ ml _ h K o h1 K1 hM hb hr
              · cases hr
            · cases hr
          · rw [if_neg ha] at hr ⊢
            exact call hr
        | invokestatic _ =>
          simp only at hr ⊢
          by_cases ha : a = 999998
          · rw [if_pos ha] at hr ⊢
            cases hq : m_cpy pc ml st (h, K) 41 with
            | none =>
              rw [hq] at hr
              cases d with
              | zero => cases hr
              | succ d => cases hr
            | some g' =>
              obtain ⟨pc', ml', st', h', K'⟩ := g'
              obtain ⟨g1, g2⟩ := bl_cpy (c := c) hb _ _ _ _ _ hq
              rw [hq] at hr
              rw [g2]
              cases d with
              | zero => cases hr
              | succ d =>
                simp only at hr ⊢
                split at hr
                · next hs =>
                  rw [if_pos hs]
                  exact ih _ M pc' ml' st' h' K' o h1 K1 hM g1 hr
                · cases hr
          · rw [if_neg ha] at hr ⊢
            exact call hr
        | ireturn =>
          simp only at hr ⊢
          split at hr
          · cases hr; exact ⟨hb, rfl⟩
          · cases hr
        | lreturn =>
          simp only at hr ⊢
          split at hr
          · cases hr; exact ⟨hb, rfl⟩
          · cases hr
        | return_ =>
          simp only at hr ⊢
          split at hr
          · cases hr; exact ⟨hb, rfl⟩
          · cases hr
        | new _ =>
          simp only at hr ⊢
          by_cases hk0 : k = 0
          · rw [if_pos hk0] at hr ⊢
            cases hq : m_new pc ml st (h, K) a b (FL a) with
            | none => rw [hq] at hr; cases hr
            | some g' =>
              obtain ⟨pc', ml', st', h', K'⟩ := g'
              obtain ⟨g1, g2⟩ := bl_new (c := c) hb _ _ _ _ _ hq
              rw [hq] at hr
              rw [g2]
              exact ih d M pc' ml' st' h' K' o h1 K1 hM g1 hr
          · rw [if_neg hk0] at hr ⊢
            cases hq : m_mk (h, K) (a, []) b with
            | none =>
              rw [hq] at hr
              cases hh : M.2.2.2.2.1 with
              | cons y l => rw [hh] at hr; cases hr
              | nil => rw [hh] at hr; cases hr
            | some y =>
              obtain ⟨r, S'⟩ := y
              obtain ⟨g1, g2⟩ := bl_mk (c := c) hb hq
              rw [hq] at hr
              rw [g2]
              cases hh : M.2.2.2.2.1 with
              | cons y l => rw [hh] at hr; cases hr
              | nil =>
                rw [hh] at hr
                simp only at hr ⊢
                split at hr
                · next hs =>
                  rw [if_pos hs]
                  cases hr
                  exact ⟨g1, rfl⟩
                · cases hr
        | _ => exact one hr
theorem bl_tab : (mp_PG.all fun M => M.2.2.2.2.2.all fun z => match z with
  | some (_, _, _, b, k) => decide (b ≠ 500 ∧ k ≠ 501)
  | none => true) = true := by decide +kernel
/-- a closed run of a method of the program, with any script -/
theorem mE.blank {n d : Nat} {M : mM} {pc : Nat} {ml : mL} {st : List Value} {h : mH} {K : Nat × Nat} {o : Outcome} {h1 : mH} {K1 : Nat × Nat} (c : mC) (hM : M ∈ mp_PG) (hb : h[0]? = some m_bl) (hr : m_run 41 mp_FL mp_PG n d M (pc, ml, st, (h, K)) = some (o, (h1, K1))) : h1[0]? = some m_bl ∧ mE d M (pc, ml, st, (h.set 0 c, K)) (o, (h1.set 0 c, K1)) := by
  have hT : ∀ M ∈ mp_PG, ∀ (pc : Nat) (i : ClassFile.Instr) (len a b k : Nat), M.2.2.2.2.2[pc]? = some (some (i, len, a, b, k)) → b ≠ 500 ∧ k ≠ 501 := by
    intro M hM pc i len a b k hc
    have h1 := List.all_eq_true.mp (List.all_eq_true.mp bl_tab M hM) _ (List.mem_of_getElem? hc)
    exact of_decide_eq_true h1
  obtain ⟨g1, g2⟩ := bl_run (c := c) hT n d M pc ml st h K o h1 K1 hM hb hr
  exact ⟨g1, n, g2⟩
end Blank2
