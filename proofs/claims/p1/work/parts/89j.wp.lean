/-! The same steps for runs whose end is told by a predicate; more depth does no harm. -/
section Steps86b
/-- the run ends, and so -/
def mW (d : Nat) (M : mM) (g : mG) (P : Outcome → mS → Prop) : Prop := ∃ o S, mE d M g (o, S) ∧ P o S
variable {d : Nat} {M : mM} {pc : Nat} {ml : mL} {st rest : List Value} {S : mS} {P Q : Outcome → mS → Prop}
theorem mW.of {g : mG} {o : Outcome} {S : mS} (h : mE d M g (o, S)) (p : P o S) : mW d M g P := ⟨o, S, h, p⟩
theorem mW.mono {g : mG} (h : mW d M g P) (hp : ∀ o S, P o S → Q o S) : mW d M g Q := by
  obtain ⟨o, S, e, p⟩ := h
  exact ⟨o, S, e, hp o S p⟩
theorem mW.fin {g : mG} {o : Outcome} {S : mS} (h : m_turn 41 mp_FL mp_PG (fun _ _ _ => none) d M g = some (o, S)) (p : P o S) : mW d M g P := ⟨o, S, m_ev.fin h, p⟩
theorem mW.sn {g g' : mG} (n : Nat) (h : m_sn 41 mp_FL M n g = some g') (k : mW d M g' P) : mW d M g P := by
  obtain ⟨o, S, e, p⟩ := k
  exact ⟨o, S, mE.sn n h e, p⟩
theorem mW.yes {g g1 g2 : mG} {c : Prop} [Decidable c] (h : m_s1 41 mp_FL M g = if c then some g1 else some g2) (q : c) (h1 : mW d M g1 P) : mW d M g P := by
  obtain ⟨o, S, e, p⟩ := h1
  exact ⟨o, S, mE.yes h q e, p⟩
theorem mW.no {g g1 g2 : mG} {c : Prop} [Decidable c] (h : m_s1 41 mp_FL M g = if c then some g1 else some g2) (q : ¬ c) (h2 : mW d M g2 P) : mW d M g P := by
  obtain ⟨o, S, e, p⟩ := h2
  exact ⟨o, S, mE.no h q e, p⟩
theorem mW.br {g g1 g2 : mG} {c : Prop} [Decidable c] (h : m_s1 41 mp_FL M g = if c then some g1 else some g2) (h1 : c → mW d M g1 P) (h2 : ¬ c → mW d M g2 P) : mW d M g P := by
  by_cases q : c
  · exact mW.yes h q (h1 q)
  · exact mW.no h q (h2 q)
theorem mW.get {x a b k idx len : Nat} {fs : List Value} {v : Value} (hc : M.2.2.2.2.2[pc]? = some (some (.getfield idx, len, a, b, k))) (hr : S.1[x]? = some (a, fs)) (hv : fs[b]? = some v) (kk : mW d M (pc + 3, ml, v :: rest, S) P) : mW d M (pc, ml, .ref x :: rest, S) P := by
  obtain ⟨o, S, e, p⟩ := kk
  exact ⟨o, S, mE.get hc hr hv e, p⟩
theorem mW.put {x a b k idx len : Nat} {fs : List Value} {v : Value} (hc : M.2.2.2.2.2[pc]? = some (some (.putfield idx, len, a, b, k))) (hr : S.1[x]? = some (a, fs)) (hn : 41 ≤ x) (hb : Nat.ble (b + 1) fs.length = true) (hf : m_fit k v = true) (kk : mW d M (pc + 3, ml, rest, (S.1.set x (a, fs.set b v), S.2)) P) : mW d M (pc, ml, v :: .ref x :: rest, S) P := by
  obtain ⟨o, S, e, p⟩ := kk
  exact ⟨o, S, mE.put hc hr hn hb hf e, p⟩
theorem mW.bald {x a b k len : Nat} {vs : List Value} {j : Int32} {v : Value} (hc : M.2.2.2.2.2[pc]? = some (some (.baload, len, a, b, k))) (hr : S.1[x]? = some (1000, vs)) (hj : m_ix j vs = some v) (kk : mW d M (pc + 1, ml, v :: rest, S) P) : mW d M (pc, ml, .int j :: .ref x :: rest, S) P := by
  obtain ⟨o, S, e, p⟩ := kk
  exact ⟨o, S, mE.bald hc hr hj e, p⟩
theorem mW.iald {x a b k len : Nat} {vs : List Value} {j : Int32} {v : Value} (hc : M.2.2.2.2.2[pc]? = some (some (.iaload, len, a, b, k))) (hr : S.1[x]? = some (1001, vs)) (hj : m_ix j vs = some v) (kk : mW d M (pc + 1, ml, v :: rest, S) P) : mW d M (pc, ml, .int j :: .ref x :: rest, S) P := by
  obtain ⟨o, S, e, p⟩ := kk
  exact ⟨o, S, mE.iald hc hr hj e, p⟩
theorem mW.lald {x a b k len : Nat} {vs : List Value} {j : Int32} {v : Value} (hc : M.2.2.2.2.2[pc]? = some (some (.laload, len, a, b, k))) (hr : S.1[x]? = some (1002, vs)) (hj : m_ix j vs = some v) (kk : mW d M (pc + 1, ml, v :: rest, S) P) : mW d M (pc, ml, .int j :: .ref x :: rest, S) P := by
  obtain ⟨o, S, e, p⟩ := kk
  exact ⟨o, S, mE.lald hc hr hj e, p⟩
theorem mW.aald {x a b k len : Nat} {vs : List Value} {j : Int32} {v : Value} (hc : M.2.2.2.2.2[pc]? = some (some (.aaload, len, a, b, k))) (hr : S.1[x]? = some (a, vs)) (hj : m_ix j vs = some v) (kk : mW d M (pc + 1, ml, v :: rest, S) P) : mW d M (pc, ml, .int j :: .ref x :: rest, S) P := by
  obtain ⟨o, S, e, p⟩ := kk
  exact ⟨o, S, mE.aald hc hr hj e, p⟩
theorem mW.bast {x a b k len : Nat} {vs : List Value} {j y : Int32} (hc : M.2.2.2.2.2[pc]? = some (some (.bastore, len, a, b, k))) (hr : S.1[x]? = some (1000, vs)) (hn : 41 ≤ x) (h0 : ¬ j < 0) (hl : j.toNatClampNeg < vs.length) (kk : mW d M (pc + 1, ml, rest, (S.1.set x (1000, vs.set j.toNatClampNeg (.int y.toInt8.toInt32)), S.2)) P) : mW d M (pc, ml, .int y :: .int j :: .ref x :: rest, S) P := by
  obtain ⟨o, S, e, p⟩ := kk
  exact ⟨o, S, mE.bast hc hr hn h0 hl e, p⟩
theorem mW.iast {x a b k len : Nat} {vs : List Value} {j y : Int32} (hc : M.2.2.2.2.2[pc]? = some (some (.iastore, len, a, b, k))) (hr : S.1[x]? = some (1001, vs)) (hn : 41 ≤ x) (h0 : ¬ j < 0) (hl : j.toNatClampNeg < vs.length) (kk : mW d M (pc + 1, ml, rest, (S.1.set x (1001, vs.set j.toNatClampNeg (.int y)), S.2)) P) : mW d M (pc, ml, .int y :: .int j :: .ref x :: rest, S) P := by
  obtain ⟨o, S, e, p⟩ := kk
  exact ⟨o, S, mE.iast hc hr hn h0 hl e, p⟩
theorem mW.last {x a b k len : Nat} {vs : List Value} {j : Int32} {y : Int64} (hc : M.2.2.2.2.2[pc]? = some (some (.lastore, len, a, b, k))) (hr : S.1[x]? = some (1002, vs)) (hn : 41 ≤ x) (h0 : ¬ j < 0) (hl : j.toNatClampNeg < vs.length) (kk : mW d M (pc + 1, ml, rest, (S.1.set x (1002, vs.set j.toNatClampNeg (.long y)), S.2)) P) : mW d M (pc, ml, .long y :: .int j :: .ref x :: rest, S) P := by
  obtain ⟨o, S, e, p⟩ := kk
  exact ⟨o, S, mE.last hc hr hn h0 hl e, p⟩
theorem mW.aln {x t a b k len : Nat} {vs : List Value} (hc : M.2.2.2.2.2[pc]? = some (some (.arraylength, len, a, b, k))) (hr : S.1[x]? = some (t, vs)) (ht : 1000 ≤ t) (kk : mW d M (pc + 1, ml, .int (Int32.ofNat vs.length) :: rest, S) P) : mW d M (pc, ml, .ref x :: rest, S) P := by
  obtain ⟨o, S, e, p⟩ := kk
  exact ⟨o, S, mE.aln hc hr ht e, p⟩
theorem mW.copy {len b k idx : Nat} {g' : mG} (hc : M.2.2.2.2.2[pc]? = some (some (.invokestatic idx, len, 999998, b, k))) (hg : m_cpy pc ml st S 41 = some g') (hs : (g'.2.2.1.map fun v => v.category).sum ≤ 8) (kk : mW (d + 1) M g' P) : mW (d + 1) M (pc, ml, st, S) P := by
  obtain ⟨o, S, e, p⟩ := kk
  exact ⟨o, S, mE.copy hc hg hs e, p⟩
theorem mW.obj {len b k idx x : Nat} (hc : M.2.2.2.2.2[pc]? = some (some (.invokespecial idx, len, 999999, b, k))) (hs : (rest.map fun v => v.category).sum ≤ 8) (kk : mW (d + 1) M (pc + 3, ml, rest, S) P) : mW (d + 1) M (pc, ml, .ref x :: rest, S) P := by
  obtain ⟨o, S, e, p⟩ := kk
  exact ⟨o, S, mE.obj hc hs e, p⟩
theorem mW.thr {len a b k' idx : Nat} (hc : M.2.2.2.2.2[pc]? = some (some (.new idx, len, a, b, k' + 1))) (hh : M.2.2.2.2.1 = []) (h1 : 1 ≤ S.2.1 ∧ b ≤ S.2.2) (hd : 8 ≤ d) (hs : (st.map fun v => v.category).sum ≤ 8) (p : P (.threw S.1.length) (S.1 ++ [(a, [])], S.2.1 - 1, S.2.2 - b)) : mW d M (pc, ml, st, S) P := ⟨_, _, mE.thr hc hh h1 hd hs, p⟩
/-- a call -/
theorem mW.call {M' : mM} {a b k len : Nat} {i : ClassFile.Instr} (hc : M.2.2.2.2.2[pc]? = some (some (i, len, a, b, k))) (hi : m_isC i a = true) (hM : mp_PG[a]? = some M') (h1 : m_okB M' b st = true) (h2 : m_rcv k (st.take b).reverse S.1 = true) (hcal : mW d M' (0, m_ent (st.take b).reverse M'.2.2.1, [], S) Q)
    (kk : ∀ o S', Q o S' → (∃ v, o = .returned v ∧ mW (d + 1) M (pc + 3, ml, v.toList ++ st.drop b, S') P) ∨ ∃ x t q, o = .threw x ∧ S'.1[x]? = some (t, q) ∧ ((M.2.2.2.2.1 = [] ∧ P (.threw x) S') ∨ ∃ hp, t < 4 ∧ M.2.2.2.2.1.isEmpty = false ∧ m_hnd M.2.2.2.2.1 pc t = some hp ∧ mW (d + 1) M (hp, ml, [.ref x], S') P)) : mW (d + 1) M (pc, ml, st, S) P := by
  obtain ⟨o, S', e, p⟩ := hcal
  rcases kk o S' p with ⟨v, rfl, o2, S2, e2, p2⟩ | ⟨x, t, q, rfl, hx, ⟨hh, p2⟩ | ⟨hp, ht, he, hh, o2, S2, e2, p2⟩⟩
  · exact ⟨o2, S2, mE.call hc hi hM h1 h2 e e2, p2⟩
  · exact ⟨_, _, mE.callT hc hi hM h1 h2 e hx hh, p2⟩
  · exact ⟨o2, S2, mE.callC hc hi hM h1 h2 e hx ht he hh e2, p2⟩
/-- a call that comes back -/
theorem mW.ret {M' : mM} {a b k len : Nat} {i : ClassFile.Instr} (hc : M.2.2.2.2.2[pc]? = some (some (i, len, a, b, k))) (hi : m_isC i a = true) (hM : mp_PG[a]? = some M') (h1 : m_okB M' b st = true) (h2 : m_rcv k (st.take b).reverse S.1 = true) (hcal : mW d M' (0, m_ent (st.take b).reverse M'.2.2.1, [], S) Q)
    (kk : ∀ o S', Q o S' → ∃ v, o = .returned v ∧ mW (d + 1) M (pc + 3, ml, v.toList ++ st.drop b, S') P) : mW (d + 1) M (pc, ml, st, S) P := mW.call hc hi hM h1 h2 hcal fun o S' q => Or.inl (kk o S' q)
end Steps86b
section Deep
variable {nE : Nat} {FL : Nat → List Value} {PG : List mM}
set_option maxHeartbeats 4000000 in
theorem m_run_deep : ∀ (n d : Nat) (M : mM) (g : mG) (r : Outcome × mS), m_run nE FL PG n d M g = some r → m_run nE FL PG n (d + 1) M g = some r := by
  intro n
  induction n with
  | zero => intro d M g r h; cases h
  | succ n ih =>
    intro d M g r hr
    obtain ⟨pc, ml, st, S⟩ := g
    rw [m_run_succ] at hr ⊢
    unfold m_turn at hr ⊢
    simp only at hr ⊢
    cases hc : M.2.2.2.2.2[pc]? with
    | none => rw [hc] at hr; cases hr
    | some z =>
      cases z with
      | none => rw [hc] at hr; cases hr
      | some q =>
        obtain ⟨i, len, a, b, k⟩ := q
        rw [hc] at hr
        have one : (match m_one nE i a b k pc ml st S with | some g' => m_run nE FL PG n d M g' | none => none) = some r → (match m_one nE i a b k pc ml st S with | some g' => m_run nE FL PG n (d + 1) M g' | none => none) = some r := by
          intro hr
          cases hq : m_one nE i a b k pc ml st S with
          | none => rw [hq] at hr; cases hr
          | some g' => rw [hq] at hr; exact ih d M g' r hr
        have back : ∀ (rest : List Value) (y : mR), m_back (m_run nE FL PG n) d M pc ml rest y = some r → m_back (m_run nE FL PG n) (d + 1) M pc ml rest y = some r := by
          intro rest y hr
          unfold m_back at hr ⊢
          cases y with
          | none => cases hr
          | some y =>
            obtain ⟨o, S'⟩ := y
            cases o with
            | returned v => exact ih d M _ r hr
            | threw x =>
              simp only at hr ⊢
              cases hx : S'.1[x]? with
              | none => rw [hx] at hr; cases hr
              | some c =>
                rw [hx] at hr
                simp only at hr ⊢
                refine m_ite hr id (fun hr => m_ite hr (fun hr => ?_) id)
                cases hq : m_hnd M.2.2.2.2.1 pc c.1 with
                | none => rw [hq] at hr; cases hr
                | some z => rw [hq] at hr; exact ih d M _ r hr
        have call : m_call PG (m_run nE FL PG n) d M a b k pc ml st S = some r → m_call PG (m_run nE FL PG n) (d + 1) M a b k pc ml st S = some r := by
          intro hr
          unfold m_call at hr ⊢
          cases d with
          | zero => cases hr
          | succ d =>
            simp only at hr ⊢
            cases hM : PG[a]? with
            | none => rw [hM] at hr; cases hr
            | some M' =>
              rw [hM] at hr
              simp only at hr ⊢
              refine m_ite hr (fun hr => ?_) id
              cases hq : m_run nE FL PG n d M' (0, m_ent (st.take b).reverse M'.2.2.1, [], S) with
              | none => rw [hq] at hr; cases hr
              | some q =>
                rw [hq] at hr
                rw [ih d M' _ q hq]
                exact back _ _ hr
        cases i with
        | invokevirtual _ => exact call hr
        | invokespecial _ =>
          simp only at hr ⊢
          refine m_ite hr (fun hr => ?_) (fun hr => call hr)
          split at hr
          · exact m_ite hr (fun hr => ih _ M _ r hr) id
          · cases hr
        | invokestatic _ =>
          simp only at hr ⊢
          refine m_ite hr (fun hr => ?_) (fun hr => call hr)
          cases hq : m_cpy pc ml st S nE with
          | none =>
            rw [hq] at hr
            cases d with
            | zero => cases hr
            | succ d => cases hr
          | some g' =>
            rw [hq] at hr
            cases d with
            | zero => cases hr
            | succ d => exact m_ite hr (fun hr => ih _ M _ r hr) id
        | ireturn => exact hr
        | lreturn => exact hr
        | return_ => exact hr
        | new _ =>
          simp only at hr ⊢
          refine m_ite hr (fun hr => ?_) (fun hr => ?_)
          · cases hq : m_new pc ml st S a b (FL a) with
            | none => rw [hq] at hr; cases hr
            | some g' => rw [hq] at hr; exact ih d M g' r hr
          · split at hr
            · split at hr
              · next hs => rw [if_pos ⟨by omega, hs.2⟩]; exact hr
              · cases hr
            · cases hr
        | _ => exact one hr
theorem mE.deep {d : Nat} {M : mM} {g : mG} {r : Outcome × mS} (k : Nat) (h : mE d M g r) : mE (d + k) M g r := by
  induction k with
  | zero => exact h
  | succ k ih =>
    obtain ⟨n, hn⟩ := ih
    exact ⟨n, m_run_deep n (d + k) M g r hn⟩
theorem mE.deeper {d e : Nat} {M : mM} {g : mG} {r : Outcome × mS} (h : mE d M g r) (he : d ≤ e) : mE e M g r := by
  obtain ⟨k, rfl⟩ : ∃ k, e = d + k := ⟨e - d, by omega⟩
  exact h.deep k
theorem mW.deeper {d e : Nat} {M : mM} {g : mG} {P : Outcome → mS → Prop} (h : mW d M g P) (he : d ≤ e) : mW e M g P := by
  obtain ⟨o, S, x, p⟩ := h
  exact ⟨o, S, x.deeper he, p⟩
end Deep
