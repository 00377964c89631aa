/-! Steps over the state. -/
section SSteps
variable {d : Nat} {M : mM} {pc : Nat} {ml : mL} {rest : List Value} {h : mH} {q : Nat × Nat} {P : Outcome → mS → Prop} {S : SS}
/-- a method came back: its answer, the state -/
def mQ (q : Nat × Nat) (S : SS) (v : Option Value) : Outcome → mS → Prop := fun o T => o = .returned v ∧ T.2 = q ∧ cs T.1 S
theorem zip_at {ks : List Nat} {l : List Int32} {b k : Nat} (hl : l.length = ks.length) (hk : ks[b]? = some k) : (List.zipWith mkV ks l)[b]? = some (mkV k (l.getD b 0)) := by
  have hb : b < ks.length := (List.getElem?_eq_some_iff.mp hk).1
  have hb2 : b < l.length := by omega
  rw [List.getElem?_zipWith, hk, List.getD_eq_getElem?_getD, List.getElem?_eq_getElem hb2]
  rfl
theorem cs.fld (hs : cs h S) {a t b k : Nat} {ks : List Nat} (hp : (a, t, ks) ∈ shO) (hk : ks[b]? = some k) : ∃ fs, h[a]? = some (t, fs) ∧ fs[b]? = some (mkV k (rd S a b)) := by
  obtain ⟨o1, o2, -⟩ := hs.ob hp
  exact ⟨_, o2, zip_at o1 hk⟩
theorem cs.rcv (hs : cs h S) {a t : Nat} {ks : List Nat} (hp : (a, t, ks) ∈ shO) {vs : List Value} : m_rcv (t + 1) (.ref a :: vs) h = true := m_rcv_ok (hs.ob hp).2.1
theorem cs.rcvT (hs : cs h S) {a : Nat} (ha : a ∈ shT) {vs : List Value} : m_rcv 5 (.ref a :: vs) h = true := m_rcv_ok (hs.gtx ha).2.2.1
theorem cs.rcvP (hs : cs h S) {a : Nat} (ha : a ∈ shP) {vs : List Value} : m_rcv 16 (.ref a :: vs) h = true := m_rcv_ok (hs.gpa ha).1
theorem cs.gsx (hs : cs h S) {a t : Nat} {bs : List Int32} (ha : (a, t, bs) ∈ shS) : sx h a t bs := hs.2.2.1 _ ha
theorem cs.rcvS (hs : cs h S) {a t : Nat} {bs : List Int32} (ha : (a, t, bs) ∈ shS) {vs : List Value} : m_rcv 18 (.ref a :: vs) h = true := m_rcv_ok (hs.gsx ha).1
theorem sW.getI {a t b k kk' idx len : Nat} {ks : List Nat} (hc : M.2.2.2.2.2[pc]? = some (some (.getfield idx, len, t, b, kk'))) (hs : cs h S) (hp : (a, t, ks) ∈ shO) (hk : ks[b]? = some k) (h2 : Nat.blt k 2 = true) (kk : mW d M (pc + 3, ml, .int (rd S a b) :: rest, (h, q)) P) : mW d M (pc, ml, .ref a :: rest, (h, q)) P := by
  obtain ⟨fs, e1, e2⟩ := hs.fld hp hk
  rw [mkV, if_pos (show k < 2 from Nat.le_of_ble_eq_true h2)] at e2
  exact mW.get hc e1 e2 kk
theorem sW.getT {a t b kk' idx len : Nat} {ks : List Nat} (hc : M.2.2.2.2.2[pc]? = some (some (.getfield idx, len, t, b, kk'))) (hs : cs h S) (hp : (a, t, ks) ∈ shO) (hk : ks[b]? = some 4) (kk : mW d M (pc + 3, ml, .ref (rd S a b).toNatClampNeg :: rest, (h, q)) P) : mW d M (pc, ml, .ref a :: rest, (h, q)) P := by
  obtain ⟨fs, e1, e2⟩ := hs.fld hp hk
  exact mW.get hc e1 e2 kk
theorem cs.okT (hs : cs h S) {a t b : Nat} {ks : List Nat} (hp : (a, t, ks) ∈ shO) (hk : ks[b]? = some 4) : (rd S a b).toNatClampNeg ∈ shT := ((hs.ob hp).2.2 b 4 hk).2.1 rfl
theorem cs.okB (hs : cs h S) {a t b : Nat} {ks : List Nat} (hp : (a, t, ks) ∈ shO) (hk : ks[b]? = some 1) : rd S a b = 0 ∨ rd S a b = 1 := ((hs.ob hp).2.2 b 1 hk).1 rfl
theorem cs.okA (hs : cs h S) {a t b : Nat} {ks : List Nat} (hp : (a, t, ks) ∈ shO) (hk : ks[b]? = some 5) (hz : ¬ rd S a b = 0) : (rd S a b).toNatClampNeg ∈ shA := by
  rcases ((hs.ob hp).2.2 b 5 hk).2.2.1 rfl with e | e
  · exact absurd e hz
  · exact e
theorem sW.getR {a t b k kk' idx len : Nat} {ks : List Nat} (hc : M.2.2.2.2.2[pc]? = some (some (.getfield idx, len, t, b, kk'))) (hs : cs h S) (hp : (a, t, ks) ∈ shO) (hk : ks[b]? = some k) (h2 : Nat.ble 1000 k = true) (kk : mW d M (pc + 3, ml, .ref (k - 1000) :: rest, (h, q)) P) : mW d M (pc, ml, .ref a :: rest, (h, q)) P := by
  obtain ⟨fs, e1, e2⟩ := hs.fld hp hk
  have := Nat.le_of_ble_eq_true h2
  rw [mkV, if_neg (by omega), if_neg (by omega), if_neg (by omega)] at e2
  exact mW.get hc e1 e2 kk
theorem sW.getN {a t b k kk' idx len : Nat} {ks : List Nat} (hc : M.2.2.2.2.2[pc]? = some (some (.getfield idx, len, t, b, kk'))) (hs : cs h S) (hp : (a, t, ks) ∈ shO) (hk : ks[b]? = some k) (h2 : (Nat.ble 5 k && Nat.blt k 1000) = true) (hz : ¬ rd S a b = 0) (kk : mW d M (pc + 3, ml, .ref (rd S a b).toNatClampNeg :: rest, (h, q)) P) : mW d M (pc, ml, .ref a :: rest, (h, q)) P := by
  obtain ⟨fs, e1, e2⟩ := hs.fld hp hk
  rw [Bool.and_eq_true] at h2
  have l1 := Nat.le_of_ble_eq_true h2.1
  have l2 : k < 1000 := Nat.le_of_ble_eq_true h2.2
  rw [mkV, if_neg (by omega), if_neg (by omega), if_pos l2, if_neg hz] at e2
  exact mW.get hc e1 e2 kk
theorem sW.putV {a t b k kk' idx len : Nat} {ks : List Nat} {v : Int32} {w : Value} (hc : M.2.2.2.2.2[pc]? = some (some (.putfield idx, len, t, b, kk'))) (hs : cs h S) (hp : (a, t, ks) ∈ shO) (hk : ks[b]? = some k) (hf : m_fit kk' w = true) (hw : mkV k v = w) (hv : okV k v) (kk : ∀ h', cs h' (wr S a b v) → mW d M (pc + 3, ml, rest, (h', q)) P) : mW d M (pc, ml, w :: .ref a :: rest, (h, q)) P := by
  obtain ⟨o1, o2, -⟩ := hs.ob hp
  subst hw
  have hb : b < (List.zipWith mkV ks (S a)).length := by
    rw [List.length_zipWith, o1, Nat.min_self]
    exact (List.getElem?_eq_some_iff.mp hk).1
  exact mW.put hc o2 (clrO _ hp).2 (Nat.ble_eq_true_of_le hb) hf (kk _ (hs.updO hp hk hv))
theorem sW.putI {a t b idx len : Nat} {ks : List Nat} {v : Int32} (hc : M.2.2.2.2.2[pc]? = some (some (.putfield idx, len, t, b, 0))) (hs : cs h S) (hp : (a, t, ks) ∈ shO) (hk : ks[b]? = some 0) (kk : ∀ h', cs h' (wr S a b v) → mW d M (pc + 3, ml, rest, (h', q)) P) : mW d M (pc, ml, .int v :: .ref a :: rest, (h, q)) P :=
  sW.putV hc hs hp hk rfl rfl ⟨fun e => absurd e (by decide), fun e => absurd e (by decide), fun e => absurd e (by decide), fun e => absurd e (by decide)⟩ kk
theorem sW.putZ {a t b idx len : Nat} {ks : List Nat} {v : Int32} (hc : M.2.2.2.2.2[pc]? = some (some (.putfield idx, len, t, b, 1))) (hs : cs h S) (hp : (a, t, ks) ∈ shO) (hk : ks[b]? = some 1) (hv : v = 0 ∨ v = 1) (kk : ∀ h', cs h' (wr S a b v) → mW d M (pc + 3, ml, rest, (h', q)) P) : mW d M (pc, ml, .int v :: .ref a :: rest, (h, q)) P :=
  sW.putV hc hs hp hk (by rcases hv with rfl | rfl <;> rfl) rfl ⟨fun _ => hv, fun e => absurd e (by decide), fun e => absurd e (by decide), fun e => absurd e (by decide)⟩ kk
theorem i_ad {x : Nat} (hx : x < 1000) : (Int32.ofNat x).toNatClampNeg = x := by
  rw [i_nat, i_of (by omega)]
  omega
theorem shT_lt : ∀ o ∈ shT, o < 1000 := by decide
theorem shA_lt : ∀ o ∈ shA, o < 1000 := by decide
theorem shA_0 : ∀ o ∈ shW, ¬ Int32.ofNat o = 0 := by decide
theorem shW_A : ∀ o ∈ shW, o ∈ shA := by decide
theorem sW.putT {a t b idx len x : Nat} {ks : List Nat} (hc : M.2.2.2.2.2[pc]? = some (some (.putfield idx, len, t, b, 2))) (hs : cs h S) (hp : (a, t, ks) ∈ shO) (hk : ks[b]? = some 4) (hx : x ∈ shT) (kk : ∀ h', cs h' (wr S a b (Int32.ofNat x)) → mW d M (pc + 3, ml, rest, (h', q)) P) : mW d M (pc, ml, .ref x :: .ref a :: rest, (h, q)) P :=
  sW.putV hc hs hp hk rfl (by show Value.ref _ = _; rw [i_ad (shT_lt x hx)]) ⟨fun e => absurd e (by decide), fun _ => by rw [i_ad (shT_lt x hx)]; exact hx, fun e => absurd e (by decide), fun e => absurd e (by decide)⟩ kk
theorem sW.putA {a t b idx len x : Nat} {ks : List Nat} (hc : M.2.2.2.2.2[pc]? = some (some (.putfield idx, len, t, b, 2))) (hs : cs h S) (hp : (a, t, ks) ∈ shO) (hk : ks[b]? = some 5) (hx : x ∈ shW) (kk : ∀ h', cs h' (wr S a b (Int32.ofNat x)) → mW d M (pc + 3, ml, rest, (h', q)) P) : mW d M (pc, ml, .ref x :: .ref a :: rest, (h, q)) P :=
  sW.putV hc hs hp hk rfl (by show (if Int32.ofNat x = 0 then Value.null else Value.ref _) = _; rw [if_neg (shA_0 x hx), i_ad (shA_lt x (shW_A x hx))]) ⟨fun e => absurd e (by decide), fun e => absurd e (by decide), fun _ => Or.inr (by rw [i_ad (shA_lt x (shW_A x hx))]; exact shW_A x hx), fun e => absurd e (by decide)⟩ kk
theorem sW.putU {a t b idx len : Nat} {ks : List Nat} (hc : M.2.2.2.2.2[pc]? = some (some (.putfield idx, len, t, b, 2))) (hs : cs h S) (hp : (a, t, ks) ∈ shO) (hk : ks[b]? = some 6) (kk : ∀ h', cs h' (wr S a b 90) → mW d M (pc + 3, ml, rest, (h', q)) P) : mW d M (pc, ml, .ref 90 :: .ref a :: rest, (h, q)) P :=
  sW.putV hc hs hp hk rfl rfl ⟨fun e => absurd e (by decide), fun e => absurd e (by decide), fun e => absurd e (by decide), fun _ => Or.inr rfl⟩ kk
/-- an element put into an array -/
def iset (l : List Int32) (j v : Int32) : Option (List Int32) := if j < 0 then none else if j.toNatClampNeg < l.length then some (l.set j.toNatClampNeg v) else none
theorem iset_ok {l l' : List Int32} {j v : Int32} (hv : iset l j v = some l') : ¬ j < 0 ∧ j.toNatClampNeg < l.length ∧ l' = l.set j.toNatClampNeg v := by
  unfold iset at hv
  split at hv
  · cases hv
  · split at hv
    · cases hv; exact ⟨by assumption, by assumption, rfl⟩
    · cases hv
theorem sW.iald {x a b k len : Nat} {j v : Int32} (hc : M.2.2.2.2.2[pc]? = some (some (.iaload, len, a, b, k))) (hs : cs h S) (hx : x ∈ shA) (hj : iget (S x) j = some v) (kk : mW d M (pc + 1, ml, .int v :: rest, (h, q)) P) : mW d M (pc, ml, .int j :: .ref x :: rest, (h, q)) P :=
  mW.iald hc (hs.ar hx) (iget_ix hj) kk
theorem sW.iast {x a b k len : Nat} {j v : Int32} {l' : List Int32} (hc : M.2.2.2.2.2[pc]? = some (some (.iastore, len, a, b, k))) (hs : cs h S) (hx : x ∈ shW) (hj : iset (S x) j v = some l') (kk : ∀ h', cs h' (up S x l') → mW d M (pc + 1, ml, rest, (h', q)) P) : mW d M (pc, ml, .int v :: .int j :: .ref x :: rest, (h, q)) P := by
  obtain ⟨i1, i2, rfl⟩ := iset_ok hj
  obtain ⟨c1, c2, c3⟩ := clrA x hx
  refine mW.iast hc (hs.ar c2) c3 i1 (by rw [List.length_map]; exact i2) ?_
  have := kk _ (hs.updA hx ((S x).set j.toNatClampNeg v))
  rw [List.map_set] at this
  exact this
theorem sW.bald71 {a b k len : Nat} {j v : Int32} (hc : M.2.2.2.2.2[pc]? = some (some (.baload, len, a, b, k))) (hs : cs h S) (hj : iget (S 71) j = some v) (kk : mW d M (pc + 1, ml, .int v :: rest, (h, q)) P) : mW d M (pc, ml, .int j :: .ref 71 :: rest, (h, q)) P :=
  mW.bald hc ((hs.1 71).2.2.2.2.1 rfl) (iget_ix hj) kk
theorem sW.bast71 {a b k len : Nat} {j v : Int32} {l' : List Int32} (hc : M.2.2.2.2.2[pc]? = some (some (.bastore, len, a, b, k))) (hs : cs h S) (hj : iset (S 71) j v.toInt8.toInt32 = some l') (kk : ∀ h', cs h' (up S 71 l') → mW d M (pc + 1, ml, rest, (h', q)) P) : mW d M (pc, ml, .int v :: .int j :: .ref 71 :: rest, (h, q)) P := by
  obtain ⟨i1, i2, rfl⟩ := iset_ok hj
  refine mW.bast hc ((hs.1 71).2.2.2.2.1 rfl) (by decide) i1 (by rw [List.length_map]; exact i2) ?_
  have := kk _ (hs.upd71 ((S 71).set j.toNatClampNeg v.toInt8.toInt32))
  rw [List.map_set] at this
  exact this
theorem rget_ix {l : List Int32} {j v : Int32} (hj : iget l j = some v) : m_ix j (l.map fun x => Value.ref x.toNatClampNeg) = some (.ref v.toNatClampNeg) := by
  unfold iget at hj
  unfold m_ix
  split at hj
  · cases hj
  · rename_i hn
    rw [if_neg hn, List.getElem?_map, hj]
    rfl
theorem iget_mem {l : List Int32} {j v : Int32} (hj : iget l j = some v) : v ∈ l := by
  unfold iget at hj
  split at hj
  · cases hj
  · exact List.mem_of_getElem? hj
theorem sW.aald46 {b k len : Nat} {j v : Int32} (hc : M.2.2.2.2.2[pc]? = some (some (.aaload, len, 1003, b, k))) (hs : cs h S) (hj : iget (S 46) j = some v) (kk : mW d M (pc + 1, ml, .ref v.toNatClampNeg :: rest, (h, q)) P) : mW d M (pc, ml, .int j :: .ref 46 :: rest, (h, q)) P :=
  mW.aald hc ((hs.1 46).2.2.2.2.2 rfl).1 (rget_ix hj) kk
theorem cs.ok46 (hs : cs h S) {j v : Int32} (hj : iget (S 46) j = some v) : v.toNatClampNeg ∈ shT := ((hs.1 46).2.2.2.2.2 rfl).2 v (iget_mem hj)
theorem sW.aald81 {b k len : Nat} {j v : Int32} (hc : M.2.2.2.2.2[pc]? = some (some (.aaload, len, 1004, b, k))) (hs : cs h S) (hj : iget sh81 j = some v) (kk : mW d M (pc + 1, ml, .ref v.toNatClampNeg :: rest, (h, q)) P) : mW d M (pc, ml, .int j :: .ref 81 :: rest, (h, q)) P :=
  mW.aald hc hs.2.1 (rget_ix hj) kk
theorem sh81_W : ∀ v ∈ sh81, v.toNatClampNeg ∈ shW := by decide
theorem ok81 {j v : Int32} (hj : iget sh81 j = some v) : v.toNatClampNeg ∈ shW := sh81_W v (iget_mem hj)
theorem sW.aln {x a b k len : Nat} (hc : M.2.2.2.2.2[pc]? = some (some (.arraylength, len, a, b, k))) (hs : cs h S) (hx : x ∈ shA) (kk : mW d M (pc + 1, ml, .int (Int32.ofNat (S x).length) :: rest, (h, q)) P) : mW d M (pc, ml, .ref x :: rest, (h, q)) P := by
  refine mW.aln hc (hs.ar hx) (by decide) ?_
  rw [List.length_map]
  exact kk
theorem sW.aln71 {a b k len : Nat} (hc : M.2.2.2.2.2[pc]? = some (some (.arraylength, len, a, b, k))) (hs : cs h S) (kk : mW d M (pc + 1, ml, .int (Int32.ofNat (S 71).length) :: rest, (h, q)) P) : mW d M (pc, ml, .ref 71 :: rest, (h, q)) P := by
  refine mW.aln hc ((hs.1 71).2.2.2.2.1 rfl) (by decide) ?_
  rw [List.length_map]
  exact kk
/-- a call that comes back with an answer and a state -/
theorem sW.call {st : List Value} {M' : mM} {a b k len : Nat} {i : ClassFile.Instr} {S' : SS} {v : Option Value} (hc : M.2.2.2.2.2[pc]? = some (some (i, len, a, b, k))) (hi : m_isC i a = true) (hM : mp_PG[a]? = some M') (h1 : m_okB M' b st = true) (h2 : m_rcv k (st.take b).reverse h = true) (hcal : mW d M' (0, m_ent (st.take b).reverse M'.2.2.1, [], (h, q)) (mQ q S' v))
    (kk : ∀ h', cs h' S' → mW (d + 1) M (pc + 3, ml, v.toList ++ st.drop b, (h', q)) P) : mW (d + 1) M (pc, ml, st, (h, q)) P := by
  refine mW.ret hc hi hM h1 h2 hcal fun o T p => ?_
  obtain ⟨h', q'⟩ := T
  obtain ⟨p1, p2, p3⟩ := p
  exact ⟨v, p1, by cases p2; exact kk h' p3⟩
/-- what only reads: the heap stays -/
theorem sW.of {M' : mM} {g : mG} {v : Option Value} (hs : cs h S) (e : mE d M' g (.returned v, (h, q))) : mW d M' g (mQ q S v) := mW.of e ⟨rfl, rfl, hs⟩
theorem sW.fin {g : mG} {v : Option Value} {S' : SS} (hs : cs h S') (e : m_turn 41 mp_FL mp_PG (fun _ _ _ => none) d M g = some (.returned v, (h, q))) : mW d M g (mQ q S' v) := mW.fin e ⟨rfl, rfl, hs⟩
/-- Text.clear, put, putText -/
theorem s35 {o : Nat} (hs : cs h S) (ho : o ∈ shT) : mW d mm35 (0, [some (.ref o)], [], (h, q)) (mQ q (up S o [0]) none) := by
  obtain ⟨h', e, t, s⟩ := x35 (d := d) (q := q) (hs.gtx ho)
  exact mW.of e ⟨rfl, rfl, hs.updT ho t ⟨s.1, fun k hk => s.2 k (fun z => hk (by simp at z ⊢; exact Or.inl z))⟩ (Or.inl rfl)⟩
def sput (S : SS) (o : Nat) (b : Int32) : SS := up S o (tputO (tT S o) (tV S o) :: tput (tT S o) b)
theorem tputO_01 {us : List Int32} {ov : Int32} (h : ov = 0 ∨ ov = 1) : tputO us ov = 0 ∨ tputO us ov = 1 := by
  unfold tputO
  split
  · exact h
  · exact Or.inr rfl
theorem s15 {o : Nat} {b : Int32} (hs : cs h S) (ho : o ∈ shT) : mW d mm15 (0, [some (.ref o), some (.int b)], [], (h, q)) (mQ q (sput S o b) none) := by
  obtain ⟨h', e, t, s⟩ := x15 (d := d) (q := q) (hs.gtx ho) b
  exact mW.of e ⟨rfl, rfl, hs.updT ho t s (tputO_01 (hs.tb ho))⟩
def sputs (S : SS) (o : Nat) (bs : List Int32) : SS := up S o ((tputs (tT S o) (tV S o) bs).2 :: (tputs (tT S o) (tV S o) bs).1)
theorem tputs_01 : ∀ {bs us : List Int32} {ov : Int32}, (ov = 0 ∨ ov = 1) → (tputs us ov bs).2 = 0 ∨ (tputs us ov bs).2 = 1 := by
  intro bs
  induction bs with
  | nil => intro us ov h; exact h
  | cons b bs ih => intro us ov h; exact ih (tputO_01 h)
theorem shS_T : ∀ s ∈ shS, ∀ o ∈ shT, s.1 ≠ o ∧ s.1 ≠ o + 1 ∧ s.2.1 ≠ o ∧ s.2.1 ≠ o + 1 := by decide +kernel
theorem s3 {o a t : Nat} {bs : List Int32} (hs : cs h S) (ho : o ∈ shT) (ha : (a, t, bs) ∈ shS) : mW (d + 4) mm3 (0, [some (.ref o), some (.ref a), none], [], (h, q)) (mQ q (sputs S o bs) none) := by
  obtain ⟨h', e, t', s⟩ := x3 (d := d) (q := q) (shS_T _ ha o ho) (hs.gtx ho) (hs.gsx ha)
  exact mW.of e ⟨rfl, rfl, hs.updT ho t' s (tputs_01 (hs.tb ho))⟩
end SSteps
