/-! All paths, by the reference. -/
section RList144
theorem l_lo (v : Int) : (Int64.ofInt v).toInt32 = Int32.ofInt v := Int64.toInt32_ofInt
theorem l_hi (v : Int) (h : -9007199254740991 ≤ v ∧ v ≤ 9007199254740991) : ((Int64.ofInt v) >>> ((32 : Int32).toInt64 &&& 63)).toInt32 = Int32.ofInt (v / 4294967296) := by
  apply Int32.toInt_inj.mp
  rw [Int64.toInt_toInt32, Int32.toInt_ofInt]
  have e3 : (Int64.ofInt v).toBitVec.toInt = v := by
    show (Int64.ofInt v).toInt = v
    exact l_of (by omega) (by omega)
  have : ((Int64.ofInt v) >>> ((32 : Int32).toInt64 &&& 63)).toInt = v / 4294967296 := by
    show ((Int64.ofInt v) >>> ((32 : Int32).toInt64 &&& 63)).toBitVec.toInt = _
    rw [Int64.toBitVec_shiftRight, BitVec.sshiftRight', BitVec.toInt_sshiftRight, e3]
    rw [show (BitVec.smod ((32 : Int32).toInt64 &&& 63).toBitVec 64).toNat = 32 by decide, Int.shiftRight_eq_div_pow]
    rfl
  rw [this]
theorem onum {S : SS} {C : List Int32} (h : OutV S C) (v : Int) (hv : -9007199254740991 ≤ v ∧ v ≤ 9007199254740991) : ∃ S', q_num S (Int64.ofInt v) = some S' ∧ OutV S' (C ++ cnum v) ∧ frO S S' := by
  obtain ⟨S1, at_, e1, o1, f1, a1⟩ := oopen h 3
  obtain ⟨S2, e2, o2, f2⟩ := oput o1 (Int32.ofInt (v / 4294967296))
  obtain ⟨S3, e3, o3, f3⟩ := oput o2 (Int32.ofInt v)
  have o3' : OutV S3 (C ++ 3 :: 0 :: [Int32.ofInt (v / 4294967296), Int32.ofInt v]) := by
    rw [List.append_assoc, List.append_assoc] at o3; exact o3
  obtain ⟨S4, e4, o4, f4⟩ := oclose o3' a1
  unfold q_num
  rw [e1, o_bind, l_hi v hv, e2, o_bind, l_lo, e3, o_bind, e4, o_bind]
  exact ⟨S4, rfl, o4, ((f1.trans f2).trans f3).trans f4⟩
theorem ocopy_l {aa : Nat} {w r : List Int32} {p : Nat} (haa : aa ≠ 90 ∧ aa ≠ 91) (hw : hdd w) (hp : p ≤ 9000) : ∀ (j n i : Nat) (S : SS) (C : List Int32), i + j = w.length → OutV S C → (S aa).length ≤ 9000 → (S aa).drop p = w ++ r → j < n → ∃ S', q_copy_l2 aa n S (Int32.ofNat p) (Int32.ofNat i) = some S' ∧ OutV S' (C ++ w.drop i) ∧ frO S S' := by
  intro j
  induction j with
  | zero =>
    intro n i S C hi ho hl hd hn
    obtain ⟨n, rfl⟩ : ∃ m, n = m + 1 := ⟨n - 1, by omega⟩
    have h2 := hw.len
    have hlen := congrArg List.length hd
    rw [List.length_drop, List.length_append] at hlen
    have g1 : iget (S aa) (Int32.ofNat p + 1) = some (Int32.ofNat w.length) := by
      rw [i_a1, iget_nth hl hd (j := 1) (by omega)]
      obtain ⟨x, t, e⟩ := hw
      congr 1
      conv => lhs; rw [List.getElem_of_eq e]
      rfl
    show ∃ S', ((iget (S aa) (Int32.ofNat p + 1)).bind fun b1 => _) = some S' ∧ _
    rw [g1, o_bind, if_pos ((i_le' (by omega) (by omega)).mpr (by omega)), List.drop_of_length_le (by omega), List.append_nil]
    exact ⟨S, rfl, ho, fun _ _ _ => rfl⟩
  | succ j ih =>
    intro n i S C hi ho hl hd hn
    obtain ⟨n, rfl⟩ : ∃ m, n = m + 1 := ⟨n - 1, by omega⟩
    have h2 := hw.len
    have hlen := congrArg List.length hd
    rw [List.length_drop, List.length_append] at hlen
    have g1 : iget (S aa) (Int32.ofNat p + 1) = some (Int32.ofNat w.length) := by
      rw [i_a1, iget_nth hl hd (j := 1) (by omega)]
      obtain ⟨x, t, e⟩ := hw
      congr 1
      conv => lhs; rw [List.getElem_of_eq e]
      rfl
    have g2 : iget (S aa) (Int32.ofNat p + Int32.ofNat i) = some (w[i]'(by omega)) := by
      rw [← Int32.ofNat_add, iget_nth hl hd (by omega)]
    obtain ⟨S1, e1, o1, f1⟩ := oput ho (w[i]'(by omega))
    obtain ⟨S2, e2, o2, f2⟩ := ih n (i + 1) S1 _ (by omega) o1 (by rw [f1 aa haa.1 haa.2]; exact hl) (by rw [f1 aa haa.1 haa.2]; exact hd) (by omega)
    show ∃ S', ((iget (S aa) (Int32.ofNat p + 1)).bind fun b1 => _) = some S' ∧ _
    rw [g1, o_bind, if_neg (by rw [i_le' (by omega) (by omega)]; omega), g2, o_bind, e1, o_bind, i_a1]
    refine ⟨S2, e2, ?_, f1.trans f2⟩
    rw [List.append_assoc] at o2
    rw [List.drop_eq_getElem_cons (show i < w.length by omega)]
    exact o2
theorem ocopy {S : SS} {aa p : Nat} {w r C : List Int32} (haa : aa ≠ 90 ∧ aa ≠ 91) (hw : hdd w) (ho : OutV S C) (hl : (S aa).length ≤ 9000) (hd : (S aa).drop p = w ++ r) : ∃ S', q_copy S aa (Int32.ofNat p) = some S' ∧ OutV S' (C ++ w) ∧ frO S S' := by
  have h2 := hw.len
  have hlen := congrArg List.length hd
  rw [List.length_drop, List.length_append] at hlen
  obtain ⟨S', e1, e2, e3⟩ := ocopy_l (r := r) haa hw (p := p) (by omega) w.length 10000 0 S C (by omega) ho hl hd (by omega)
  exact ⟨S', e1, e2, e3⟩
/-- the cells of paths -/
def cP (P : List (List Vl)) : List Int32 := P.flatMap fun p => cV (pathT p)
theorem cP_app (P Q : List (List Vl)) : cP (P ++ Q) = cP P ++ cP Q := List.flatMap_append
theorem pathT_c (st : List Vl) : cV (pathT st) = 5 :: Int32.ofNat ((st.flatMap cV).length + 2) :: st.flatMap cV := by
  have : cF false (ofL (st.map fun x => (([], x) : Mb))) = st.flatMap cV := by
    rw [cF_ofL, List.flatMap_map]
    rfl
  show 5 :: Int32.ofNat ((cF false (ofL (st.map fun x => (([], x) : Mb)))).length + 2) :: cF false (ofL (st.map fun x => (([], x) : Mb))) = _
  rw [this]
def stR (S : SS) (us : List Int32) (i : Nat) (x : Vl) : Prop := (∃ k, x = stI k ∧ k < 9000 ∧ iget (S 100) (Int32.ofNat i) = some (-1) ∧ iget (S 99) (Int32.ofNat i) = some (Int32.ofNat k)) ∨ ∃ s q r, x = stN s ∧ q < 9000 ∧ iget (S 100) (Int32.ofNat i) = some (Int32.ofNat q) ∧ us.drop q = cstr s ++ r
def rowR (S : SS) (us : List Int32) (pre : List Vl) : Prop := (S 99).length = 64 ∧ (S 100).length = 64 ∧ ∀ i (h : i < pre.length), stR S us i pre[i]
def fr99 (S S' : SS) : Prop := ∀ a, a ≠ 90 → a ≠ 91 → a ≠ 99 → a ≠ 100 → S' a = S a
theorem fr99.trans {S S1 S2 : SS} (a : fr99 S S1) (b : fr99 S1 S2) : fr99 S S2 := fun x h1 h2 h3 h4 => (b x h1 h2 h3 h4).trans (a x h1 h2 h3 h4)
theorem frO.fr {S S' : SS} (h : frO S S') : fr99 S S' := fun a h1 h2 _ _ => h a h1 h2
theorem rowR.mv {S S' : SS} {us : List Int32} {pre : List Vl} (h : rowR S us pre) (f : frO S S') : rowR S' us pre := by
  have e1 := f 99 (by decide) (by decide)
  have e2 := f 100 (by decide) (by decide)
  unfold rowR stR at *
  rw [e1, e2]; exact h
theorem rowR_pre {S : SS} {us : List Int32} {pre : List Vl} {x : Vl} (h : rowR S us (pre ++ [x])) : rowR S us pre := ⟨h.1, h.2.1, fun i hi => by
  have := h.2.2 i (by rw [List.length_append]; omega)
  rw [List.getElem_append_left hi] at this
  exact this⟩
theorem rowR_push {S : SS} {us : List Int32} {pre : List Vl} {v k : Int32} {x : Vl} (h : rowR S us pre) (hd : pre.length < 64) (hx : (∃ j, x = stI j ∧ j < 9000 ∧ v = -1 ∧ k = Int32.ofNat j) ∨ ∃ s q r, x = stN s ∧ q < 9000 ∧ v = Int32.ofNat q ∧ us.drop q = cstr s ++ r) : rowR (up (up S 100 ((S 100).set pre.length v)) 99 ((S 99).set pre.length k)) us (pre ++ [x]) := by
  obtain ⟨h1, h2, h3⟩ := h
  refine ⟨?_, ?_, fun i hi => ?_⟩
  · rw [up_same, List.length_set]; exact h1
  · rw [up_ne (by decide), up_same, List.length_set]; exact h2
  · have g76 : ∀ j, j < 64 → iget ((up (up S 100 ((S 100).set pre.length v)) 99 ((S 99).set pre.length k)) 100) (Int32.ofNat j) = if pre.length = j then some v else iget (S 100) (Int32.ofNat j) := fun j hj => by
      rw [up_ne (by decide), up_same, iget_set (by omega) (by omega) (by omega)]
    have g77 : ∀ j, j < 64 → iget ((up (up S 100 ((S 100).set pre.length v)) 99 ((S 99).set pre.length k)) 99) (Int32.ofNat j) = if pre.length = j then some k else iget (S 99) (Int32.ofNat j) := fun j hj => by
      rw [up_same, iget_set (by omega) (by omega) (by omega)]
    rw [List.length_append] at hi
    simp only [List.length_cons, List.length_nil] at hi
    unfold stR
    rw [g76 i (by omega), g77 i (by omega)]
    by_cases e : i < pre.length
    · rw [if_neg (by omega), if_neg (by omega), List.getElem_append_left e]
      exact h3 i e
    · have : i = pre.length := by omega
      subst this
      rw [if_pos rfl, if_pos rfl, List.getElem_append_right (Nat.le_refl _)]
      simp only [Nat.sub_self, List.getElem_cons_zero]
      rcases hx with ⟨j, q1, q2, q3, q4⟩ | ⟨s, q, r, q1, q2, q3, q4⟩
      · exact Or.inl ⟨j, q1, q2, by rw [q3], by rw [q4]⟩
      · exact Or.inr ⟨s, q, r, q1, q2, by rw [q3], q4⟩
/-- the steps of a path, written -/
theorem l13_val {aa : Nat} {rec : SS → Nat → Int32 → Int32 → Option SS} {us : List Int32} {p d : Nat} {at_ : Int32} {C : List Int32} (haa : aa ≠ 90 ∧ aa ≠ 91) (hd64 : d ≤ 64) (h9 : us.length ≤ 9000) (ha : C.length ≤ 9000 → at_ = Int32.ofNat C.length) : ∀ (st : List Vl) (n i : Nat) (S : SS) (body : List Int32), OutV S (C ++ 5 :: 0 :: body) → S aa = us → (∀ j (h : j < st.length), stR S us (i + j) st[j]) → i + st.length = d → st.length < n → ∃ S1 m, b_listB_l13 aa rec n S (Int32.ofNat p) (Int32.ofNat d) at_ (Int32.ofNat i) = ((iget (S1 aa) (Int32.ofNat p)).bind fun b6 => (if b6 = (5 : Int32) then b_listB_l102 aa rec (b_listB_l13 aa rec m) 10000 S1 (Int32.ofNat p) (Int32.ofNat d) 0 (Int32.ofNat p + 2) else (if b6 = (6 : Int32) then b_listB_l102 aa rec (b_listB_l13 aa rec m) 10000 S1 (Int32.ofNat p) (Int32.ofNat d) 0 (Int32.ofNat p + 2) else some S1))) ∧ OutV S1 (C ++ 5 :: Int32.ofNat ((body ++ st.flatMap cV).length + 2) :: (body ++ st.flatMap cV)) ∧ frO S S1 := by
  intro st
  induction st with
  | nil =>
    intro n i S body ho hus hst hi hn
    obtain ⟨n, rfl⟩ : ∃ m, n = m + 1 := ⟨n - 1, by omega⟩
    simp only [List.length_nil, Nat.add_zero] at hi
    obtain ⟨S1, e1, o1, f1⟩ := oclose ho ha
    refine ⟨S1, n, ?_, by rw [List.flatMap_nil, List.append_nil]; exact o1, f1⟩
    show (if Int32.ofNat d ≤ Int32.ofNat i then _ else _) = _
    rw [if_pos ((i_le' (by omega) (by omega)).mpr (by omega)), e1, o_bind]
  | cons x st ih =>
    intro n i S body ho hus hst hi hn
    obtain ⟨n, rfl⟩ : ∃ m, n = m + 1 := ⟨n - 1, by omega⟩
    simp only [List.length_cons] at hi hn
    have hx := hst 0 (by simp)
    rw [Nat.add_zero, List.getElem_cons_zero] at hx
    have step : ∀ S2, frO S S2 → OutV S2 (C ++ 5 :: 0 :: (body ++ cV x)) → ∃ S1 m, b_listB_l13 aa rec n S2 (Int32.ofNat p) (Int32.ofNat d) at_ (Int32.ofNat i + 1) = ((iget (S1 aa) (Int32.ofNat p)).bind fun b6 => (if b6 = (5 : Int32) then b_listB_l102 aa rec (b_listB_l13 aa rec m) 10000 S1 (Int32.ofNat p) (Int32.ofNat d) 0 (Int32.ofNat p + 2) else (if b6 = (6 : Int32) then b_listB_l102 aa rec (b_listB_l13 aa rec m) 10000 S1 (Int32.ofNat p) (Int32.ofNat d) 0 (Int32.ofNat p + 2) else some S1))) ∧ OutV S1 (C ++ 5 :: Int32.ofNat ((body ++ (x :: st).flatMap cV).length + 2) :: (body ++ (x :: st).flatMap cV)) ∧ frO S S1 := by
      intro S2 f2 o2
      have e99 := f2 99 (by decide) (by decide)
      have e100 := f2 100 (by decide) (by decide)
      obtain ⟨S1, m, q1, q2, q3⟩ := ih n (i + 1) S2 (body ++ cV x) o2 (by rw [f2 aa haa.1 haa.2]; exact hus) (fun j hj => by
        have := hst (j + 1) (by simp only [List.length_cons]; omega)
        rw [List.getElem_cons_succ] at this
        unfold stR at *
        rw [e99, e100, show i + 1 + j = i + (j + 1) by omega]
        exact this) (by omega) (by omega)
      refine ⟨S1, m, by rw [i_a1]; exact q1, ?_, f2.trans q3⟩
      rw [List.flatMap_cons, ← List.append_assoc]
      exact q2
    rw [show ∀ S' : SS, b_listB_l13 aa rec (n + 1) S' (Int32.ofNat p) (Int32.ofNat d) at_ (Int32.ofNat i) = (if Int32.ofNat d ≤ Int32.ofNat i then _ else _) from fun _ => rfl, if_neg (by rw [i_le' (by omega) (by omega)]; omega)]
    rcases hx with ⟨k, x1, x2, x3, x4⟩ | ⟨s, q, r, x1, x2, x3, x4⟩
    · rw [x3, o_bind, if_pos rfl, x4, o_bind]
      have ek : (Int32.ofNat k).toInt64 = Int64.ofInt (k : Int) := by
        apply Int64.toInt_inj.mp
        rw [Int32.toInt_toInt64, i_of (by omega), l_of (by omega) (by omega)]
      obtain ⟨S2, e2, o2, f2⟩ := onum ho (k : Int) (by omega)
      rw [ek, e2, o_bind]
      refine step S2 f2 ?_
      rw [x1]
      rw [List.append_assoc] at o2
      exact o2
    · rw [x3, o_bind, if_neg (i_ne1 (by omega))]
      obtain ⟨S2, e2, o2, f2⟩ := ocopy haa (cstr_hdd s) ho (by rw [hus]; exact h9) (by rw [hus]; exact x4)
      rw [e2, o_bind]
      refine step S2 f2 ?_
      rw [x1]
      rw [List.append_assoc] at o2
      exact o2
def LR (us : List Int32) (aa : Nat) (t : Vl) : Prop := ∀ (n p : Nat) (pre : List Vl) (S : SS) (C : List Int32), dV t + 1 ≤ n → pre.length + dV t ≤ 60 → cat us p t → S aa = us → rowR S us pre → OutV S C → ∃ S', b_list n S aa (Int32.ofNat p) (Int32.ofNat pre.length) = some S' ∧ rowR S' us pre ∧ fr99 S S' ∧ OutV S' (C ++ cP (plV pre t))
theorem i_set {l : List Int32} {i : Nat} {v : Int32} (hi : i < l.length) (hi' : i < 2147483648) : iset l (Int32.ofNat i) v = some (l.set i v) := by
  unfold iset
  rw [if_neg (i_nn hi'), i_cl hi', if_pos hi]
theorem l102_val {us r : List Int32} {aa p e kd m : Nat} {pre : List Vl} {k13 : SS → Int32 → Int32 → Int32 → Int32 → Option SS} (haa : aa ≠ 90 ∧ aa ≠ 91 ∧ aa ≠ 99 ∧ aa ≠ 100) (h9 : us.length ≤ 9000) (hkd : kd = 5 ∨ kd = 6) (hne : r_next us (Int32.ofNat p) = some (Int32.ofNat e)) (hik : iget us (Int32.ofNat p) = some (Int32.ofNat kd)) (hp : pre.length < 60) : ∀ (l : List Mb) (n k q : Nat) (S : SS) (C : List Int32), okL l → (∀ x ∈ l, LR us aa x.2 ∧ dV x.2 + 1 ≤ m ∧ pre.length + 1 + dV x.2 ≤ 60) → us.drop q = (blks (kd == 6) l).flatten ++ r → q + (blks (kd == 6) l).flatten.length = e → e ≤ 9000 → l.length < n → k + l.length ≤ 9000 → S aa = us → rowR S us pre → OutV S C → ∃ S', b_listB_l102 aa (b_list m) k13 n S (Int32.ofNat p) (Int32.ofNat pre.length) (Int32.ofNat k) (Int32.ofNat q) = some S' ∧ rowR S' us pre ∧ fr99 S S' ∧ OutV S' (C ++ cP (plF (ofL l) (kd == 6) pre k)) := by
  intro l
  induction l with
  | nil =>
    intro n k q S C _ _ hd he he9 hn _ hus hr ho
    obtain ⟨n, rfl⟩ : ∃ j, n = j + 1 := ⟨n - 1, by omega⟩
    have : q = e := by
      simp only [blks, List.flatMap_nil, List.flatten_nil, List.length_nil, Nat.add_zero] at he; exact he
    refine ⟨S, ?_, hr, fun _ _ _ _ _ => rfl, by rw [show cP (plF (ofL []) (kd == 6) pre k) = [] from rfl, List.append_nil]; exact ho⟩
    show ((r_next (S aa) (Int32.ofNat p)).bind fun r8 => _) = _
    rw [hus, hne, o_bind, if_pos ((i_le' (by omega) (by omega)).mpr (by omega))]
  | cons x l ih =>
    intro n k q S C hw hx hd he he9 hn hk hus hr ho
    obtain ⟨n, rfl⟩ : ∃ j, n = j + 1 := ⟨n - 1, by omega⟩
    simp only [List.length_cons] at hn hk
    obtain ⟨lf, lm, lp⟩ := hx x List.mem_cons_self
    have hwx := hw x List.mem_cons_self
    have eb : blks (kd == 6) (x :: l) = blk (kd == 6) x ++ blks (kd == 6) l := List.flatMap_cons
    rw [eb, List.flatten_append] at hd he
    rw [List.append_assoc] at hd
    rw [List.length_append] at he
    have cl2 := (cV_h hwx.2.1).len
    have c6 : Int32.ofNat kd = (6 : Int32) ↔ kd = 6 := i_inj (b := 6) (by omega) (by decide)
    have l1 := hr.1
    have l2 := hr.2.1
    rw [plF_c, cP_app]
    -- what comes behind the step
    have tail : ∀ (v : Int32) (qv : Nat) (st' : Vl), (if (kd == 6) = true then stN x.1 else stI k) = st' → ((∃ j, st' = stI j ∧ j < 9000 ∧ v = -1 ∧ Int32.ofNat k = Int32.ofNat j) ∨ ∃ s q r, st' = stN s ∧ q < 9000 ∧ v = Int32.ofNat q ∧ us.drop q = cstr s ++ r) → cat us qv x.2 → qv + (cV x.2).length = q + (blk (kd == 6) x).flatten.length → ∃ S', ((b_list m (up (up S 100 ((S 100).set pre.length v)) 99 ((S 99).set pre.length (Int32.ofNat k))) aa (Int32.ofNat qv) (Int32.ofNat pre.length + 1)).bind fun r27 => ((r_next (r27 aa) (Int32.ofNat qv)).bind fun r29 => b_listB_l102 aa (b_list m) k13 n r27 (Int32.ofNat p) (Int32.ofNat pre.length) (Int32.ofNat k + 1) r29)) = some S' ∧ rowR S' us pre ∧ fr99 S S' ∧ OutV S' (C ++ (cP (plV (pre ++ [st']) x.2) ++ cP (plF (ofL l) (kd == 6) pre (k + 1)))) := by
      intro v qv st' est hst hc hq
      have hlen : (pre ++ [st']).length = pre.length + 1 := by rw [List.length_append]; rfl
      have hr' := rowR_push (k := Int32.ofNat k) hr (by omega) hst
      obtain ⟨T, hT⟩ : ∃ T, T = up (up S 100 ((S 100).set pre.length v)) 99 ((S 99).set pre.length (Int32.ofNat k)) := ⟨_, rfl⟩
      rw [← hT] at hr' ⊢
      have fT : ∀ a, a ≠ 99 → a ≠ 100 → T a = S a := fun a n1 n2 => by rw [hT, up_ne n1, up_ne n2]
      have oT : OutV T C := by
        unfold OutV rd
        rw [fT 91 (by decide) (by decide), fT 90 (by decide) (by decide)]
        exact ho
      obtain ⟨S1, g1, g2, g3, g4⟩ := lf m qv (pre ++ [st']) T C lm (by omega) hc (by rw [fT aa haa.2.2.1 haa.2.2.2]; exact hus) hr' oT
      rw [hlen, ← i_a1] at g1
      have u1 : S1 aa = us := by rw [g3 aa haa.1 haa.2.1 haa.2.2.1 haa.2.2.2, fT aa haa.2.2.1 haa.2.2.2]; exact hus
      rw [g1, o_bind, u1, hc.next.1, o_bind, i_a1]
      obtain ⟨S2, k1, k2, k3, k4⟩ := ih n (k + 1) (qv + (cV x.2).length) S1 _ (fun y hy => hw y (List.mem_cons_of_mem _ hy)) (fun y hy => hx y (List.mem_cons_of_mem _ hy)) (by rw [hq]; exact drop_more hd) (by omega) he9 (by omega) (by omega) u1 (rowR_pre g2) g4
      refine ⟨S2, k1, k2, fun a n1 n2 n3 n4 => by rw [k3 a n1 n2 n3 n4, g3 a n1 n2 n3 n4, fT a n3 n4], ?_⟩
      rw [← List.append_assoc]
      exact k4
    show ∃ S', ((r_next (S aa) (Int32.ofNat p)).bind fun r8 => _) = some S' ∧ _
    have h1 : iset (S 100) (Int32.ofNat pre.length) (-1) = some ((S 100).set pre.length (-1)) := i_set (by omega) (by omega)
    have hb0 : 0 < (blk (kd == 6) x).flatten.length := by
      rcases hkd with rfl | rfl
      · show 0 < (List.flatten [cV x.2]).length
        simp only [List.flatten_cons, List.flatten_nil, List.length_append, List.length_nil]; omega
      · show 0 < (List.flatten [cstr x.1, cV x.2]).length
        simp only [List.flatten_cons, List.flatten_nil, List.length_append, List.length_nil]; omega
    rw [hus, hne, o_bind, if_neg (by rw [i_le' (by omega) (by omega)]; omega), h1, o_bind, up_ne haa.2.2.2, hus, hik, o_bind]
    rcases hkd with rfl | rfl
    · rw [if_neg (by decide)]
      have ef : (blk (5 == 6) x).flatten = cV x.2 := by
        show (List.flatten [cV x.2]) = _
        simp only [List.flatten_cons, List.flatten_nil, List.append_nil]
      have h2 : iset ((up S 100 ((S 100).set pre.length (-1))) 99) (Int32.ofNat pre.length) (Int32.ofNat k) = some ((S 99).set pre.length (Int32.ofNat k)) := by
        rw [up_ne (by decide)]; exact i_set (by omega) (by omega)
      rw [h2, o_bind]
      exact tail (-1) q (stI k) rfl (Or.inl ⟨k, rfl, by omega, rfl, rfl⟩) ⟨h9, hwx.2, _, by rw [hd, ef]⟩ (by rw [ef])
    · rw [if_pos (by decide), up_same]
      have ef : (blk (6 == 6) x).flatten = cstr x.1 ++ cV x.2 := by
        show (List.flatten [cstr x.1, cV x.2]) = _
        simp only [List.flatten_cons, List.flatten_nil, List.append_nil]
      have hd' := hd
      rw [ef, List.append_assoc] at hd'
      have h3 : iset ((S 100).set pre.length (-1)) (Int32.ofNat pre.length) (Int32.ofNat q) = some ((S 100).set pre.length (Int32.ofNat q)) := by
        rw [i_set (by rw [List.length_set]; omega) (by omega), List.set_set]
      obtain ⟨n1, n2⟩ := rnext_at h9 (cstr_hdd x.1) hd'
      have h2 : iset ((up S 100 ((S 100).set pre.length (Int32.ofNat q))) 99) (Int32.ofNat pre.length) (Int32.ofNat k) = some ((S 99).set pre.length (Int32.ofNat k)) := by
        rw [up_ne (by decide)]; exact i_set (by omega) (by omega)
      have hcl := (cstr_hdd x.1).len
      rw [h3, o_bind, up_up, up_ne haa.2.2.2, hus, n1, o_bind, h2, o_bind]
      exact tail (Int32.ofNat q) (q + (cstr x.1).length) (stN x.1) rfl (Or.inr ⟨x.1, q, _, rfl, by omega, rfl, hd'⟩) ⟨h9, hwx.2, _, drop_more hd'⟩ (by rw [ef, List.length_append]; omega)
theorem lr_all {us : List Int32} {aa : Nat} (haa : aa ≠ 90 ∧ aa ≠ 91 ∧ aa ≠ 99 ∧ aa ≠ 100) (t : Vl) : LR us aa t := by
  induction t using Vl.ind with
  | h k v s l ihl =>
    intro n p pre S C hn hp hc hus hr ho
    obtain ⟨m, rfl⟩ : ∃ m, n = m + 1 := ⟨n - 1, by omega⟩
    obtain ⟨nx1, nx2, nx3⟩ := hc.next
    have h9 := hc.1
    have hk7 : k ≤ 6 := hc.2.1.1
    obtain ⟨S1, at_, e1, o1, f1, a1⟩ := oopen ho 5
    have r1 := hr.mv f1
    obtain ⟨S2, m2, e2, o2, f2⟩ := l13_val (rec := b_list m) (p := p) ⟨haa.1, haa.2.1⟩ (d := pre.length) (by omega) h9 a1 pre 10000 0 S1 [] o1 (by rw [f1 aa haa.1 haa.2.1]; exact hus) (fun j hj => by rw [Nat.zero_add]; exact r1.2.2 j hj) (by omega) (by omega)
    show ∃ S', b_listB S aa (b_list m) (Int32.ofNat p) (Int32.ofNat pre.length) = some S' ∧ _
    unfold b_listB
    rw [e1, o_bind]
    have u2 : S2 aa = us := by rw [f2 aa haa.1 haa.2.1, f1 aa haa.1 haa.2.1]; exact hus
    rw [show b_listB_l13 aa (b_list m) 10000 S1 (Int32.ofNat p) (Int32.ofNat pre.length) at_ 0 = _ from e2, u2, hc.kind, o_bind]
    have o2' : OutV S2 (C ++ cV (pathT pre)) := by rw [pathT_c]; exact o2
    have f12 : fr99 S S2 := (f1.trans f2).fr
    have r2 := r1.mv f2
    by_cases hk : k = 5 ∨ k = 6
    · have hdv : dV (k, v, s, ofL l) = 1 + dF (ofL l) := if_pos hk
      have hpl' : plV pre (k, v, s, ofL l) = pre :: plF (ofL l) (k == 6) pre 0 := by
        show pre :: (if k = 5 ∨ k = 6 then _ else _) = _
        rw [if_pos hk]
      have hw := hc.2.1.kids
      obtain ⟨r, hd⟩ := hc.2.2
      obtain ⟨b1, b2⟩ := cbox_in hk hd
      have fl := flat2 _ (blks_h (b := k == 6) hw)
      have bl := blks_len (k == 6) l
      have bl2 : l.length ≤ (blks (k == 6) l).length := by
        rw [bl]; split <;> omega
      have main : ∀ k13, ∃ S', b_listB_l102 aa (b_list m) k13 10000 S2 (Int32.ofNat p) (Int32.ofNat pre.length) 0 (Int32.ofNat p + 2) = some S' ∧ rowR S' us pre ∧ fr99 S S' ∧ OutV S' (C ++ cP (plV pre (k, v, s, ofL l))) := by
        intro k13
        obtain ⟨S3, q1, q2, q3, q4⟩ := l102_val (k13 := k13) (m := m) haa h9 hk nx1 hc.kind (by omega) l 10000 0 (p + 2) S2 _ hw (fun x hx => ⟨ihl x hx, by have := dF_mem (f := ofL l) (m := x) (by rw [toL_ofL]; exact hx); omega, by have := dF_mem (f := ofL l) (m := x) (by rw [toL_ofL]; exact hx); omega⟩) b1 (by omega) (by omega) (by omega) (by omega) u2 r2 o2'
        refine ⟨S3, by rw [show Int32.ofNat p + 2 = Int32.ofNat (p + 2) from (Int32.ofNat_add p 2).symm]; exact q1, q2, f12.trans q3, ?_⟩
        rw [hpl']
        show OutV S3 (C ++ (cV (pathT pre) ++ cP (plF (ofL l) (k == 6) pre 0)))
        rw [← List.append_assoc]
        exact q4
      have c5 : Int32.ofNat k = (5 : Int32) ↔ k = 5 := i_inj (b := 5) (by omega) (by decide)
      have c6 : Int32.ofNat k = (6 : Int32) ↔ k = 6 := i_inj (b := 6) (by omega) (by decide)
      by_cases e5 : k = 5
      · rw [if_pos (c5.mpr e5)]
        exact main _
      · rw [if_neg (fun e => e5 (c5.mp e)), if_pos (c6.mpr (by omega))]
        exact main _
    · have c5 : ¬ Int32.ofNat k = (5 : Int32) := fun e => hk (Or.inl ((i_inj (b := 5) (by omega) (by decide)).mp e))
      have c6 : ¬ Int32.ofNat k = (6 : Int32) := fun e => hk (Or.inr ((i_inj (b := 6) (by omega) (by decide)).mp e))
      rw [if_neg c5, if_neg c6]
      refine ⟨S2, rfl, r2, f12, ?_⟩
      have : plV pre (k, v, s, ofL l) = [pre] := by
        show pre :: (if k = 5 ∨ k = 6 then _ else _) = _
        rw [if_neg hk]
      rw [this]
      show OutV S2 (C ++ (cV (pathT pre) ++ []))
      rw [List.append_nil]
      exact o2'
end RList144
