/-! Steps of the small machine, for the walks of its methods. -/
section Steps86
/-- a run of a method of the program that ends -/
abbrev mE (d : Nat) (M : mM) (g : mG) (r : Outcome × mS) : Prop := m_ev 41 mp_FL mp_PG d M g r
variable {d : Nat} {M : mM} {pc : Nat} {ml : mL} {st rest : List Value} {S : mS} {r : Outcome × mS}
theorem mE.sn {g g' : mG} (n : Nat) (h : m_sn 41 mp_FL M n g = some g') (k : mE d M g' r) : mE d M g r := m_ev.sn n h k
theorem mE.br {g g1 g2 : mG} {c : Prop} [Decidable c] (h : m_s1 41 mp_FL M g = if c then some g1 else some g2) (h1 : c → mE d M g1 r) (h2 : ¬ c → mE d M g2 r) : mE d M g r := by
  by_cases q : c
  · exact m_ev.s1 (by rw [h, if_pos q]) (h1 q)
  · exact m_ev.s1 (by rw [h, if_neg q]) (h2 q)
theorem mE.yes {g g1 g2 : mG} {c : Prop} [Decidable c] (h : m_s1 41 mp_FL M g = if c then some g1 else some g2) (q : c) (h1 : mE d M g1 r) : mE d M g r := m_ev.s1 (by rw [h, if_pos q]) h1
theorem mE.no {g g1 g2 : mG} {c : Prop} [Decidable c] (h : m_s1 41 mp_FL M g = if c then some g1 else some g2) (q : ¬ c) (h2 : mE d M g2 r) : mE d M g r := m_ev.s1 (by rw [h, if_neg q]) h2
theorem mE.get {x a b k idx len : Nat} {fs : List Value} {v : Value} (hc : M.2.2.2.2.2[pc]? = some (some (.getfield idx, len, a, b, k))) (hr : S.1[x]? = some (a, fs)) (hv : fs[b]? = some v) (kk : mE d M (pc + 3, ml, v :: rest, S) r) : mE d M (pc, ml, .ref x :: rest, S) r :=
  m_ev.s1 (by simp only [m_s1, hc, m_one, m_get, hr, hv, if_true]) kk
theorem mE.put {x a b k idx len : Nat} {fs : List Value} {v : Value} (hc : M.2.2.2.2.2[pc]? = some (some (.putfield idx, len, a, b, k))) (hr : S.1[x]? = some (a, fs)) (hn : 41 ≤ x) (hb : Nat.ble (b + 1) fs.length = true) (hf : m_fit k v = true) (kk : mE d M (pc + 3, ml, rest, (S.1.set x (a, fs.set b v), S.2)) r) : mE d M (pc, ml, v :: .ref x :: rest, S) r := by
  refine m_ev.s1 ?_ kk
  simp only [m_s1, hc, m_one, m_put, hr]
  rw [if_pos ⟨trivial, hn, Nat.le_of_ble_eq_true hb, hf⟩]
theorem mE.bald {x a b k len : Nat} {vs : List Value} {j : Int32} {v : Value} (hc : M.2.2.2.2.2[pc]? = some (some (.baload, len, a, b, k))) (hr : S.1[x]? = some (1000, vs)) (hj : m_ix j vs = some v) (kk : mE d M (pc + 1, ml, v :: rest, S) r) : mE d M (pc, ml, .int j :: .ref x :: rest, S) r :=
  m_ev.s1 (by simp only [m_s1, hc, m_one, m_ald, hr, hj, if_true]) kk
theorem mE.iald {x a b k len : Nat} {vs : List Value} {j : Int32} {v : Value} (hc : M.2.2.2.2.2[pc]? = some (some (.iaload, len, a, b, k))) (hr : S.1[x]? = some (1001, vs)) (hj : m_ix j vs = some v) (kk : mE d M (pc + 1, ml, v :: rest, S) r) : mE d M (pc, ml, .int j :: .ref x :: rest, S) r :=
  m_ev.s1 (by simp only [m_s1, hc, m_one, m_ald, hr, hj, if_true]) kk
theorem mE.lald {x a b k len : Nat} {vs : List Value} {j : Int32} {v : Value} (hc : M.2.2.2.2.2[pc]? = some (some (.laload, len, a, b, k))) (hr : S.1[x]? = some (1002, vs)) (hj : m_ix j vs = some v) (kk : mE d M (pc + 1, ml, v :: rest, S) r) : mE d M (pc, ml, .int j :: .ref x :: rest, S) r :=
  m_ev.s1 (by simp only [m_s1, hc, m_one, m_ald, hr, hj, if_true]) kk
theorem mE.aald {x a b k len : Nat} {vs : List Value} {j : Int32} {v : Value} (hc : M.2.2.2.2.2[pc]? = some (some (.aaload, len, a, b, k))) (hr : S.1[x]? = some (a, vs)) (hj : m_ix j vs = some v) (kk : mE d M (pc + 1, ml, v :: rest, S) r) : mE d M (pc, ml, .int j :: .ref x :: rest, S) r :=
  m_ev.s1 (by simp only [m_s1, hc, m_one, m_ald, hr, hj, if_true]) kk
theorem mE.bast {x a b k len : Nat} {vs : List Value} {j y : Int32} (hc : M.2.2.2.2.2[pc]? = some (some (.bastore, len, a, b, k))) (hr : S.1[x]? = some (1000, vs)) (hn : 41 ≤ x) (h0 : ¬ j < 0) (hl : j.toNatClampNeg < vs.length) (kk : mE d M (pc + 1, ml, rest, (S.1.set x (1000, vs.set j.toNatClampNeg (.int y.toInt8.toInt32)), S.2)) r) : mE d M (pc, ml, .int y :: .int j :: .ref x :: rest, S) r := by
  refine m_ev.s1 ?_ kk
  simp only [m_s1, hc, m_one, m_ast, hr]
  rw [if_pos ⟨trivial, hn, h0, hl⟩]
theorem mE.iast {x a b k len : Nat} {vs : List Value} {j y : Int32} (hc : M.2.2.2.2.2[pc]? = some (some (.iastore, len, a, b, k))) (hr : S.1[x]? = some (1001, vs)) (hn : 41 ≤ x) (h0 : ¬ j < 0) (hl : j.toNatClampNeg < vs.length) (kk : mE d M (pc + 1, ml, rest, (S.1.set x (1001, vs.set j.toNatClampNeg (.int y)), S.2)) r) : mE d M (pc, ml, .int y :: .int j :: .ref x :: rest, S) r := by
  refine m_ev.s1 ?_ kk
  simp only [m_s1, hc, m_one, m_ast, hr]
  rw [if_pos ⟨trivial, hn, h0, hl⟩]
theorem mE.last {x a b k len : Nat} {vs : List Value} {j : Int32} {y : Int64} (hc : M.2.2.2.2.2[pc]? = some (some (.lastore, len, a, b, k))) (hr : S.1[x]? = some (1002, vs)) (hn : 41 ≤ x) (h0 : ¬ j < 0) (hl : j.toNatClampNeg < vs.length) (kk : mE d M (pc + 1, ml, rest, (S.1.set x (1002, vs.set j.toNatClampNeg (.long y)), S.2)) r) : mE d M (pc, ml, .long y :: .int j :: .ref x :: rest, S) r := by
  refine m_ev.s1 ?_ kk
  simp only [m_s1, hc, m_one, m_lst, hr]
  rw [if_pos ⟨trivial, hn, h0, hl⟩]
theorem mE.aln {x t a b k len : Nat} {vs : List Value} (hc : M.2.2.2.2.2[pc]? = some (some (.arraylength, len, a, b, k))) (hr : S.1[x]? = some (t, vs)) (ht : 1000 ≤ t) (kk : mE d M (pc + 1, ml, .int (Int32.ofNat vs.length) :: rest, S) r) : mE d M (pc, ml, .ref x :: rest, S) r := by
  refine m_ev.s1 ?_ kk
  simp only [m_s1, hc, m_one, m_aln, hr]
  rw [if_pos ht]
/-- what a call asks, by program -/
def m_okB (M' : mM) (b : Nat) (st : List Value) : Bool := Nat.ble b st.length && (Nat.ble (((st.drop b).map fun v => v.category).sum) 8 && Nat.ble (m_sl (st.take b).reverse).length M'.2.2.1)
theorem m_okB_ok {M' : mM} {b k : Nat} {st : List Value} {h : mH} (h1 : m_okB M' b st = true) (h2 : m_rcv k (st.take b).reverse h = true) : m_okC M' b k st h = true := by
  unfold m_okB at h1
  simp only [Bool.and_eq_true] at h1
  exact decide_eq_true ⟨Nat.le_of_ble_eq_true h1.1, Nat.le_of_ble_eq_true h1.2.1, Nat.le_of_ble_eq_true h1.2.2, h2⟩
theorem m_rcv_ok {t x : Nat} {fs vs : List Value} {h : mH} (hr : h[x]? = some (t, fs)) : m_rcv (t + 1) (.ref x :: vs) h = true := by
  simp only [m_rcv, hr, beq_self_eq_true]
theorem mE.call {M' : mM} {a b k len : Nat} {i : ClassFile.Instr} {v : Option Value} {S' : mS} (hc : M.2.2.2.2.2[pc]? = some (some (i, len, a, b, k))) (hi : m_isC i a = true) (hM : mp_PG[a]? = some M') (h1 : m_okB M' b st = true) (h2 : m_rcv k (st.take b).reverse S.1 = true)
    (hcal : mE d M' (0, m_ent (st.take b).reverse M'.2.2.1, [], S) (.returned v, S')) (kk : mE (d + 1) M (pc + 3, ml, v.toList ++ st.drop b, S') r) : mE (d + 1) M (pc, ml, st, S) r := m_ev.call hc hi hM (m_okB_ok h1 h2) hcal kk
theorem mE.callT {M' : mM} {a b k len x t : Nat} {i : ClassFile.Instr} {q : List Value} {S' : mS} (hc : M.2.2.2.2.2[pc]? = some (some (i, len, a, b, k))) (hi : m_isC i a = true) (hM : mp_PG[a]? = some M') (h1 : m_okB M' b st = true) (h2 : m_rcv k (st.take b).reverse S.1 = true)
    (hcal : mE d M' (0, m_ent (st.take b).reverse M'.2.2.1, [], S) (.threw x, S')) (hx : S'.1[x]? = some (t, q)) (hh : M.2.2.2.2.1 = []) : mE (d + 1) M (pc, ml, st, S) (.threw x, S') := m_ev.callT hc hi hM (m_okB_ok h1 h2) hcal hx hh
theorem mE.callC {M' : mM} {a b k len x t hp : Nat} {i : ClassFile.Instr} {q : List Value} {S' : mS} (hc : M.2.2.2.2.2[pc]? = some (some (i, len, a, b, k))) (hi : m_isC i a = true) (hM : mp_PG[a]? = some M') (h1 : m_okB M' b st = true) (h2 : m_rcv k (st.take b).reverse S.1 = true)
    (hcal : mE d M' (0, m_ent (st.take b).reverse M'.2.2.1, [], S) (.threw x, S')) (hx : S'.1[x]? = some (t, q)) (ht : t < 4) (he : M.2.2.2.2.1.isEmpty = false) (hh : m_hnd M.2.2.2.2.1 pc t = some hp) (kk : mE (d + 1) M (hp, ml, [.ref x], S') r) : mE (d + 1) M (pc, ml, st, S) r := m_ev.callC hc hi hM (m_okB_ok h1 h2) hcal hx ht he hh kk
/-- System.arraycopy -/
theorem mE.copy {len b k idx : Nat} {g' : mG} (hc : M.2.2.2.2.2[pc]? = some (some (.invokestatic idx, len, 999998, b, k))) (hg : m_cpy pc ml st S 41 = some g') (hs : (g'.2.2.1.map fun v => v.category).sum ≤ 8) (kk : mE (d + 1) M g' r) : mE (d + 1) M (pc, ml, st, S) r := by
  obtain ⟨n, hn⟩ := kk
  refine ⟨n + 1, ?_⟩
  rw [m_run_succ]
  unfold m_turn
  simp only [hc, if_true, hg]
  rw [if_pos hs]
  exact hn
/-- Object's constructor -/
theorem mE.obj {len b k idx x : Nat} (hc : M.2.2.2.2.2[pc]? = some (some (.invokespecial idx, len, 999999, b, k))) (hs : (rest.map fun v => v.category).sum ≤ 8) (kk : mE (d + 1) M (pc + 3, ml, rest, S) r) : mE (d + 1) M (pc, ml, .ref x :: rest, S) r := by
  obtain ⟨n, hn⟩ := kk
  refine ⟨n + 1, ?_⟩
  rw [m_run_succ]
  unfold m_turn
  simp only [hc, if_true]
  rw [if_pos hs]
  exact hn
/-- a throw -/
theorem mE.thr {len a b k' idx : Nat} (hc : M.2.2.2.2.2[pc]? = some (some (.new idx, len, a, b, k' + 1))) (hh : M.2.2.2.2.1 = []) (h1 : 1 ≤ S.2.1 ∧ b ≤ S.2.2) (hd : 8 ≤ d) (hs : (st.map fun v => v.category).sum ≤ 8) : mE d M (pc, ml, st, S) (.threw S.1.length, (S.1 ++ [(a, [])], S.2.1 - 1, S.2.2 - b)) := by
  refine ⟨1, ?_⟩
  rw [m_run_succ]
  unfold m_turn m_mk
  simp only [hc, hh]
  rw [if_neg (Nat.succ_ne_zero k'), if_pos h1]
  simp only
  rw [if_pos ⟨hd, hs⟩]
end Steps86
