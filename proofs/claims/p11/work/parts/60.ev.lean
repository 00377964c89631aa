/-! Runs of the small machine, without the fuel. -/
section Ev
variable {nE : Nat} {FL : Nat → List Value} {PG : List mM}
theorem m_run_succ (n : Nat) : m_run nE FL PG (n + 1) = m_turn nE FL PG (m_run nE FL PG n) := rfl
theorem m_ite {c : Prop} [Decidable c] {x y x' y' : mR} {r : Outcome × mS} (h : (if c then x else y) = some r) (h1 : x = some r → x' = some r) (h2 : y = some r → y' = some r) : (if c then x' else y') = some r := by
  by_cases q : c
  · rw [if_pos q] at h ⊢; exact h1 h
  · rw [if_neg q] at h ⊢; exact h2 h
/-- more fuel: the same answer -/
theorem m_back_mono {ih ih' : mT} (h : ∀ d M g r, ih d M g = some r → ih' d M g = some r) {d : Nat} {M : mM} {pc : Nat} {ml : mL} {rest : List Value} {q : mR} {r : Outcome × mS} (hb : m_back ih d M pc ml rest q = some r) : m_back ih' d M pc ml rest q = some r := by
  unfold m_back at hb ⊢
  cases q with
  | none => cases hb
  | some q =>
    obtain ⟨o, S⟩ := q
    cases o with
    | returned v => exact h _ _ _ _ hb
    | threw x =>
      simp only at hb ⊢
      cases hx : S.1[x]? with
      | none => rw [hx] at hb; cases hb
      | some c =>
        rw [hx] at hb
        simp only at hb ⊢
        refine m_ite hb id (fun hb => m_ite hb (fun hb => ?_) id)
        cases hq : m_hnd M.2.2.2.2.1 pc c.1 with
        | none => rw [hq] at hb; cases hb
        | some z => rw [hq] at hb; exact h _ _ _ _ hb
theorem m_call_mono {ih ih' : mT} (h : ∀ d M g r, ih d M g = some r → ih' d M g = some r) {d : Nat} {M : mM} {a n k pc : Nat} {ml : mL} {st : List Value} {S : mS} {r : Outcome × mS} (hb : m_call PG ih d M a n k pc ml st S = some r) : m_call PG ih' d M a n k pc ml st S = some r := by
  unfold m_call at hb ⊢
  cases d with
  | zero => cases hb
  | succ d =>
    simp only at hb ⊢
    cases hM : PG[a]? with
    | none => rw [hM] at hb; cases hb
    | some M' =>
      rw [hM] at hb
      simp only at hb ⊢
      refine m_ite hb (fun hb => ?_) id
      cases hq : ih d M' (0, m_ent (st.take n).reverse M'.2.2.1, [], S) with
      | none => rw [hq] at hb; cases hb
      | some q =>
        rw [hq] at hb
        rw [h _ _ _ _ hq]
        exact m_back_mono h hb
theorem m_turn_mono {ih ih' : mT} (h : ∀ d M g r, ih d M g = some r → ih' d M g = some r) {d : Nat} {M : mM} {g : mG} {r : Outcome × mS} (hb : m_turn nE FL PG ih d M g = some r) : m_turn nE FL PG ih' d M g = some r := by
  obtain ⟨pc, ml, st, S⟩ := g
  unfold m_turn at hb ⊢
  simp only at hb ⊢
  cases hc : M.2.2.2.2.2[pc]? with
  | none => rw [hc] at hb; cases hb
  | some o =>
    cases o with
    | none => rw [hc] at hb; cases hb
    | some q =>
      obtain ⟨i, len, a, b, k⟩ := q
      rw [hc] at hb
      simp only at hb ⊢
      split at hb
      · exact m_call_mono h hb
      · refine m_ite hb (fun hb => ?_) (fun hb => m_call_mono h hb)
        split at hb
        · exact m_ite hb (fun hb => h _ _ _ _ hb) id
        · cases hb
      · refine m_ite hb (fun hb => ?_) (fun hb => m_call_mono h hb)
        split at hb
        · exact m_ite hb (fun hb => h _ _ _ _ hb) id
        · cases hb
      · exact hb
      · exact hb
      · exact hb
      · refine m_ite hb (fun hb => ?_) id
        cases hq : m_new pc ml st S a b (FL a) with
        | none => rw [hq] at hb; cases hb
        | some g' => rw [hq] at hb; exact h _ _ _ _ hb
      · next h1 h2 h3 h4 h5 h6 h7 =>
        cases hq : m_one nE i a b k pc ml st S with
        | none => rw [hq] at hb; cases hb
        | some g' =>
          rw [hq] at hb
          cases i <;> first | exact h _ _ _ _ hb | exact absurd rfl (h1 _) | exact absurd rfl (h2 _) | exact absurd rfl (h3 _) | exact absurd rfl h4 | exact absurd rfl h5 | exact absurd rfl h6 | exact absurd rfl (h7 _)
theorem m_run_mono {n : Nat} : ∀ (d : Nat) (M : mM) (g : mG) (r : Outcome × mS), m_run nE FL PG n d M g = some r → m_run nE FL PG (n + 1) d M g = some r := by
  induction n with
  | zero => intro d M g r h; cases h
  | succ n ih => intro d M g r h; rw [m_run_succ] at h ⊢; exact m_turn_mono ih h
theorem m_run_le {n k : Nat} (hk : n ≤ k) {d : Nat} {M : mM} {g : mG} {r : Outcome × mS} (h : m_run nE FL PG n d M g = some r) : m_run nE FL PG k d M g = some r := by
  induction hk with
  | refl => exact h
  | step _ ih => exact m_run_mono _ _ _ _ ih
/-- a run that ends -/
def m_ev (nE : Nat) (FL : Nat → List Value) (PG : List mM) (d : Nat) (M : mM) (g : mG) (r : Outcome × mS) : Prop := ∃ n, m_run nE FL PG n d M g = some r
/-- one instruction -/
def m_s1 (nE : Nat) (FL : Nat → List Value) (M : mM) (g : mG) : Option mG := match g with
  | (pc, ml, st, S) => match M.2.2.2.2.2[pc]? with
    | some (some (i, _, a, b, k)) => match i with
      | .invokevirtual _ => none
      | .invokespecial _ => none
      | .invokestatic _ => none
      | .ireturn => none
      | .lreturn => none
      | .return_ => none
      | .new _ => if k = 0 then m_new pc ml st S a b (FL a) else none
      | _ => m_one nE i a b k pc ml st S
    | _ => none
/-- some instructions -/
def m_sn (nE : Nat) (FL : Nat → List Value) (M : mM) : Nat → mG → Option mG
  | 0, g => some g
  | n + 1, g => match m_s1 nE FL M g with
    | some g' => m_sn nE FL M n g'
    | none => none
theorem m_ev.s1 {d : Nat} {M : mM} {g g' : mG} {r : Outcome × mS} (h : m_s1 nE FL M g = some g') (k : m_ev nE FL PG d M g' r) : m_ev nE FL PG d M g r := by
  obtain ⟨n, hn⟩ := k
  refine ⟨n + 1, ?_⟩
  rw [m_run_succ]
  obtain ⟨pc, ml, st, S⟩ := g
  unfold m_s1 at h
  unfold m_turn
  simp only at h ⊢
  cases hc : M.2.2.2.2.2[pc]? with
  | none => rw [hc] at h; cases h
  | some o =>
    cases o with
    | none => rw [hc] at h; cases h
    | some q =>
      obtain ⟨i, len, a, b, k⟩ := q
      rw [hc] at h
      simp only at h ⊢
      split at h
      · cases h
      · cases h
      · cases h
      · cases h
      · cases h
      · cases h
      · split at h
        · next hk => rw [if_pos hk, h]; exact hn
        · cases h
      · next h1 h2 h3 h4 h5 h6 h7 =>
        rw [h]
        cases i <;> first | exact hn | exact absurd rfl (h1 _) | exact absurd rfl (h2 _) | exact absurd rfl (h3 _) | exact absurd rfl h4 | exact absurd rfl h5 | exact absurd rfl h6 | exact absurd rfl (h7 _)
theorem m_ev.sn {d : Nat} {M : mM} (n : Nat) : ∀ {g g' : mG} {r : Outcome × mS}, m_sn nE FL M n g = some g' → m_ev nE FL PG d M g' r → m_ev nE FL PG d M g r := by
  induction n with
  | zero => intro g g' r h k; cases h; exact k
  | succ n ih =>
    intro g g' r h k
    unfold m_sn at h
    split at h
    · next g1 h1 => exact m_ev.s1 h1 (ih h k)
    · cases h
/-- is this a call of a method of the table? -/
def m_isC (i : ClassFile.Instr) (a : Nat) : Bool := match i with
  | .invokevirtual _ => true
  | .invokespecial _ => !(a == 999999)
  | .invokestatic _ => !(a == 999998)
  | _ => false
/-- may it be done? -/
def m_okC (M' : mM) (b k : Nat) (st : List Value) (h : mH) : Bool := decide (b ≤ st.length ∧ ((st.drop b).map fun v => v.category).sum ≤ 8 ∧ (m_sl (st.take b).reverse).length ≤ M'.2.2.1 ∧ m_rcv k (st.take b).reverse h = true)
theorem m_turn_call {ih : mT} {d : Nat} {M M' : mM} {pc : Nat} {ml : mL} {st : List Value} {S : mS} {i : ClassFile.Instr} {len a b k : Nat} (hc : M.2.2.2.2.2[pc]? = some (some (i, len, a, b, k))) (hi : m_isC i a = true) (hM : PG[a]? = some M') (hk : m_okC M' b k st S.1 = true) :
    m_turn nE FL PG ih (d + 1) M (pc, ml, st, S) = m_back ih (d + 1) M pc ml (st.drop b) (ih d M' (0, m_ent (st.take b).reverse M'.2.2.1, [], S)) := by
  have hk := of_decide_eq_true hk
  have e : m_call PG ih (d + 1) M a b k pc ml st S = m_back ih (d + 1) M pc ml (st.drop b) (ih d M' (0, m_ent (st.take b).reverse M'.2.2.1, [], S)) := by
    unfold m_call
    simp only [hM]
    rw [if_pos hk]
  unfold m_turn
  simp only [hc]
  cases i <;> simp [m_isC] at hi <;> simp [hi, e]
theorem m_ev.call {d : Nat} {M M' : mM} {pc : Nat} {ml : mL} {st : List Value} {S S' : mS} {i : ClassFile.Instr} {len a b k : Nat} {v : Option Value} {r : Outcome × mS} (hc : M.2.2.2.2.2[pc]? = some (some (i, len, a, b, k))) (hi : m_isC i a = true) (hM : PG[a]? = some M') (hk : m_okC M' b k st S.1 = true)
    (hcal : m_ev nE FL PG d M' (0, m_ent (st.take b).reverse M'.2.2.1, [], S) (.returned v, S')) (kk : m_ev nE FL PG (d + 1) M (pc + 3, ml, v.toList ++ st.drop b, S') r) : m_ev nE FL PG (d + 1) M (pc, ml, st, S) r := by
  obtain ⟨n1, h1⟩ := hcal
  obtain ⟨n2, h2⟩ := kk
  refine ⟨max n1 n2 + 1, ?_⟩
  rw [m_run_succ, m_turn_call hc hi hM hk, m_run_le (Nat.le_max_left n1 n2) h1]
  exact m_run_le (Nat.le_max_right n1 n2) h2
theorem m_ev.callT {d : Nat} {M M' : mM} {pc : Nat} {ml : mL} {st : List Value} {S S' : mS} {i : ClassFile.Instr} {len a b k : Nat} {x t : Nat} {q : List Value} (hc : M.2.2.2.2.2[pc]? = some (some (i, len, a, b, k))) (hi : m_isC i a = true) (hM : PG[a]? = some M') (hk : m_okC M' b k st S.1 = true)
    (hcal : m_ev nE FL PG d M' (0, m_ent (st.take b).reverse M'.2.2.1, [], S) (.threw x, S')) (hx : S'.1[x]? = some (t, q)) (hh : M.2.2.2.2.1 = []) : m_ev nE FL PG (d + 1) M (pc, ml, st, S) (.threw x, S') := by
  obtain ⟨n1, h1⟩ := hcal
  refine ⟨n1 + 1, ?_⟩
  rw [m_run_succ, m_turn_call hc hi hM hk, h1]
  unfold m_back
  simp only [hx, hh, List.isEmpty_nil, if_true]
theorem m_ev.callC {d : Nat} {M M' : mM} {pc : Nat} {ml : mL} {st : List Value} {S S' : mS} {i : ClassFile.Instr} {len a b k : Nat} {x t hp : Nat} {q : List Value} {r : Outcome × mS} (hc : M.2.2.2.2.2[pc]? = some (some (i, len, a, b, k))) (hi : m_isC i a = true) (hM : PG[a]? = some M') (hk : m_okC M' b k st S.1 = true)
    (hcal : m_ev nE FL PG d M' (0, m_ent (st.take b).reverse M'.2.2.1, [], S) (.threw x, S')) (hx : S'.1[x]? = some (t, q)) (ht : t < 4) (he : M.2.2.2.2.1.isEmpty = false) (hh : m_hnd M.2.2.2.2.1 pc t = some hp) (kk : m_ev nE FL PG (d + 1) M (hp, ml, [.ref x], S') r) : m_ev nE FL PG (d + 1) M (pc, ml, st, S) r := by
  obtain ⟨n1, h1⟩ := hcal
  obtain ⟨n2, h2⟩ := kk
  refine ⟨max n1 n2 + 1, ?_⟩
  rw [m_run_succ, m_turn_call hc hi hM hk, m_run_le (Nat.le_max_left n1 n2) h1]
  unfold m_back
  simp only [hx, hh, he, ht, if_true]
  exact m_run_le (Nat.le_max_right n1 n2) h2
/-- a frame's end -/
theorem m_ev.fin {d : Nat} {M : mM} {g : mG} {r : Outcome × mS} (h : m_turn nE FL PG (fun _ _ _ => none) d M g = some r) : m_ev nE FL PG d M g r := ⟨1, h⟩
/-- a closed run -/
theorem m_ev.run {d : Nat} {M : mM} {g : mG} {r : Outcome × mS} (n : Nat) (h : m_run nE FL PG n d M g = some r) : m_ev nE FL PG d M g r := ⟨n, h⟩
end Ev
