/-! PRINTED BY wip/whole/t101.py: the state: what stands at each address, as lists of ints. -/
section State101
/-- what stands at each address: an object's fields, an int array's elements; of a Text or a Paper: whether it is over, then what it holds -/
abbrev SS : Type := Nat → List Int32
def rd (S : SS) (a k : Nat) : Int32 := (S a).getD k 0
def up (S : SS) (a : Nat) (l : List Int32) : SS := fun b => if b = a then l else S b
def wr (S : SS) (a k : Nat) (v : Int32) : SS := up S a ((S a).set k v)
abbrev tT (S : SS) (o : Nat) : List Int32 := (S o).tail
abbrev tV (S : SS) (o : Nat) : Int32 := (S o).headD 0
theorem up_same {S : SS} {a : Nat} {l : List Int32} : up S a l a = l := if_pos rfl
theorem up_ne {S : SS} {a b : Nat} {l : List Int32} (h : b ≠ a) : up S a l b = S b := if_neg h
def shT : List Nat := [42, 44, 49, 51, 53, 55, 57, 59, 61, 63, 65]
def shP : List Nat := [92, 94]
def shA : List Nat := [0, 39, 40, 48, 74, 76, 77, 79, 80, 82, 83, 84, 85, 86, 87, 88, 89, 91, 97, 98, 99, 100]
def shW : List Nat := [48, 74, 76, 77, 79, 80, 82, 83, 84, 85, 86, 87, 88, 89, 91, 97, 98, 99, 100]
def shO : List (Nat × Nat × List Nat) := [(41, 5, [1042, 1044, 1046, 1068, 1047, 1067, 1069, 1072, 1075, 4, 0, 0]), (47, 6, [1048, 0]), (67, 7, [4, 0, 0, 1, 0, 0]), (68, 8, [1042, 4, 0, 0]), (69, 9, [1067, 1070, 1071, 0, 4, 4, 1, 1, 1]), (70, 10, [0, 0, 1, 1]), (72, 11, [1067, 1047, 1073, 1074, 0, 0]), (73, 10, [0, 0, 1, 1]), (75, 12, [1076, 1077, 4, 4]), (78, 13, [0, 0, 0, 0, 0, 1079, 1080, 1081, 1090, 1092, 1094, 1096, 0, 1097, 1098, 1099, 1100, 0, 0, 5, 5, 0]), (90, 16, [1091, 0, 1]), (96, 14, [5, 0, 0, 0, 6])]
def shS : List (Nat × Nat × List Int32) := [(1, 2, [110, 117, 108, 108]), (3, 4, [110, 117, 108, 108]), (5, 6, [102, 97, 108, 115, 101]), (7, 8, [116, 114, 117, 101]), (9, 10, [34, 115, 116, 97, 114, 116, 34]), (11, 12, [34, 101, 110, 100, 34]), (13, 14, [110, 117, 108, 108]), (15, 16, [110, 117, 108, 108, 44]), (17, 18, [110, 117, 108, 108]), (19, 20, [110, 117, 108, 108]), (21, 22, [102, 97, 108, 115, 101]), (23, 24, [116, 114, 117, 101]), (25, 26, [34, 92, 47, 98, 102, 110, 114, 116]), (27, 28, [110, 117, 108, 108]), (29, 30, [102, 97, 108, 115, 101]), (31, 32, [116, 114, 117, 101]), (33, 34, [98, 116, 110, 102, 114]), (35, 36, [117, 48, 48]), (37, 38, [48, 49, 50, 51, 52, 53, 54, 55, 56, 57, 97, 98, 99, 100, 101, 102])]
def mkV (k : Nat) (x : Int32) : Value := if k < 2 then .int x else if k = 4 then .ref x.toNatClampNeg else if k < 1000 then (if x = 0 then .null else .ref x.toNatClampNeg) else .ref (k - 1000)
def okV (k : Nat) (x : Int32) : Prop := (k = 1 → x = 0 ∨ x = 1) ∧ (k = 4 → x.toNatClampNeg ∈ shT) ∧ (k = 5 → x = 0 ∨ x.toNatClampNeg ∈ shA) ∧ (k = 6 → x = 0 ∨ x = 90)
/-- a Paper: what it holds, whether it is over -/
def pa (h : mH) (o : Nat) (l : List Int32) (ov : Int32) : Prop := h[o]? = some (15, [.ref (o + 1), .int (Int32.ofNat l.length), .int ov]) ∧ l.length ≤ 4096 ∧ ∃ tail : List Int32, h[o + 1]? = some (1001, (l ++ tail).map Value.int) ∧ l.length + tail.length = 4096
/-- what stands at u is l -/
def uOK (u : Nat) (h : mH) (l : List Int32) : Prop :=
  (∀ t ks, (u, t, ks) ∈ shO → l.length = ks.length ∧ h[u]? = some (t, List.zipWith mkV ks l) ∧ ∀ j k, ks[j]? = some k → okV k (l.getD j 0)) ∧
  (u ∈ shA → h[u]? = some (1001, l.map Value.int)) ∧
  (u ∈ shT → tx h u (u + 1) l.tail (l.headD 0) ∧ (l.headD 0 = 0 ∨ l.headD 0 = 1)) ∧
  (u ∈ shP → pa h u l.tail (l.headD 0) ∧ (l.headD 0 = 0 ∨ l.headD 0 = 1)) ∧
  (u = 71 → h[u]? = some (1000, l.map Value.int)) ∧
  (u = 46 → h[u]? = some (1003, l.map fun x => Value.ref x.toNatClampNeg) ∧ ∀ x ∈ l, x.toNatClampNeg ∈ shT)
/-- a long as four ints, and back -/
def lgE (y : Int64) : List Int32 := [Int32.ofInt (y.toInt % 65536), Int32.ofInt (y.toInt / 65536 % 65536), Int32.ofInt (y.toInt / 4294967296 % 65536), Int32.ofInt (y.toInt / 281474976710656)]
def lg (l : List Int32) : Int64 := Int64.ofInt ((l.getD 0 0).toInt + 65536 * (l.getD 1 0).toInt + 4294967296 * (l.getD 2 0).toInt + 281474976710656 * (l.getD 3 0).toInt)
theorem i_ofInt {z : Int} (h1 : -2147483648 ≤ z) (h2 : z < 2147483648) : (Int32.ofInt z).toInt = z := by
  rw [Int32.toInt_ofInt, show Int32.size = 4294967296 from rfl, Int.bmod_def]
  omega
theorem lg_E (y : Int64) : lg (lgE y) = y := by
  have a1 := Int64.le_toInt y
  have a2 := Int64.toInt_lt y
  have e : (lgE y).getD 0 0 = Int32.ofInt (y.toInt % 65536) ∧ (lgE y).getD 1 0 = Int32.ofInt (y.toInt / 65536 % 65536) ∧ (lgE y).getD 2 0 = Int32.ofInt (y.toInt / 4294967296 % 65536) ∧ (lgE y).getD 3 0 = Int32.ofInt (y.toInt / 281474976710656) := ⟨rfl, rfl, rfl, rfl⟩
  unfold lg
  rw [e.1, e.2.1, e.2.2.1, e.2.2.2, i_ofInt (by omega) (by omega), i_ofInt (by omega) (by omega), i_ofInt (by omega) (by omega), i_ofInt (by omega) (by omega)]
  have : y.toInt % 65536 + 65536 * (y.toInt / 65536 % 65536) + 4294967296 * (y.toInt / 4294967296 % 65536) + 281474976710656 * (y.toInt / 281474976710656) = y.toInt := by omega
  rw [this]
  exact Int64.ofInt_toInt y
def sh81 : List Int32 := [82, 83, 84, 85, 86, 87, 88, 89]
def cs (h : mH) (S : SS) : Prop := (∀ u, uOK u h (S u)) ∧ h[81]? = some (1004, sh81.map fun x => Value.ref x.toNatClampNeg) ∧ (∀ s ∈ shS, sx h s.1 s.2.1 s.2.2) ∧ h[101]? = some (1002, [.long (lg (S 101))])
def shU : List Nat := shO.map (fun p => p.1) ++ shA ++ shT ++ shP ++ [71, 46]
/-- all that stands elsewhere keeps clear of these cells -/
def clr (A : List Nat) (u : Nat) : Bool := shU.all (fun v => v == u || (!A.contains v && (!(shT ++ shP).contains v || !A.contains (v + 1)))) && (!A.contains 81 && (!A.contains 101 && (u != 101 && A.all (fun v => decide (41 ≤ v)))))
theorem uOK.frame {u : Nat} {h h' : mH} {l : List Int32} (k : uOK u h l) (h1 : u ∈ shU → h'[u]? = h[u]?) (h2 : u ∈ shT ++ shP → h'[u + 1]? = h[u + 1]?) : uOK u h' l := by
  obtain ⟨k1, k2, k3, k4, k5, k6⟩ := k
  have mo : ∀ t ks, (u, t, ks) ∈ shO → u ∈ shU := fun t ks m => by
    unfold shU
    simp only [List.append_assoc, List.mem_append]
    exact Or.inl (List.mem_map.mpr ⟨_, m, rfl⟩)
  have mr : (u ∈ shA ∨ u ∈ shT ∨ u ∈ shP ∨ u = 71 ∨ u = 46) → u ∈ shU := fun m => by
    unfold shU
    simp only [List.append_assoc, List.mem_append, List.mem_cons, List.not_mem_nil, or_false]
    exact Or.inr m
  refine ⟨fun t ks m => ?_, fun m => ?_, fun m => ?_, fun m => ?_, fun m => ?_, fun m => ?_⟩
  · rw [h1 (mo t ks m)]; exact k1 t ks m
  · rw [h1 (mr (Or.inl m))]; exact k2 m
  · have e1 := h1 (mr (Or.inr (Or.inl m)))
    have e2 := h2 (List.mem_append.mpr (Or.inl m))
    obtain ⟨⟨t1, t2, t3, t4, t5, tail, t6, t7⟩, t8⟩ := k3 m
    exact ⟨⟨t1, t2, by rw [e1]; exact t3, t4, t5, tail, by rw [e2]; exact t6, t7⟩, t8⟩
  · have e1 := h1 (mr (Or.inr (Or.inr (Or.inl m))))
    have e2 := h2 (List.mem_append.mpr (Or.inr m))
    obtain ⟨⟨t1, t2, tail, t3, t4⟩, t8⟩ := k4 m
    exact ⟨⟨by rw [e1]; exact t1, t2, tail, by rw [e2]; exact t3, t4⟩, t8⟩
  · rw [h1 (mr (Or.inr (Or.inr (Or.inr (Or.inl m)))))]; exact k5 m
  · rw [h1 (mr (Or.inr (Or.inr (Or.inr (Or.inr m)))))]; exact k6 m
theorem sx_lt : ∀ s ∈ shS, s.1 < 41 ∧ s.2.1 < 41 := by decide
theorem cs.gen {h h' : mH} {S : SS} (hs : cs h S) (A : List Nat) (u : Nat) (l : List Int32) (hA : clr A u = true) (sm' : ∀ k, k ∉ A → h'[k]? = h[k]?) (hu : uOK u h' l) : cs h' (up S u l) := by
  unfold clr at hA
  simp only [Bool.and_eq_true, List.all_eq_true, Bool.or_eq_true, Bool.not_eq_true', beq_iff_eq, bne_iff_ne, decide_eq_true_eq] at hA
  obtain ⟨a1, a2, a3, a5, a4⟩ := hA
  have nc : ∀ {k : Nat}, A.contains k = false → k ∉ A := fun e m => by rw [List.contains_iff_mem.mpr m] at e; cases e
  have lo : ∀ k, k < 41 → k ∉ A := fun k hk m => by have := a4 k m; omega
  obtain ⟨s1, s2, s3, s4⟩ := hs
  refine ⟨fun v => ?_, by rw [sm' 81 (nc a2)]; exact s2, fun s ms => ?_, by rw [sm' 101 (nc a3), up_ne (fun e => a5 e.symm)]; exact s4⟩
  · by_cases e : v = u
    · subst e
      rw [up_same]
      exact hu
    · rw [up_ne e]
      refine (s1 v).frame (fun m => sm' v ?_) (fun m => sm' (v + 1) ?_)
      · rcases a1 v m with q | q
        · exact absurd q e
        · exact nc q.1
      · have mu : v ∈ shU := by
          unfold shU
          simp only [List.append_assoc, List.mem_append] at m ⊢
          exact Or.inr (Or.inr (by rcases m with m | m; exact Or.inl m; exact Or.inr (Or.inl m)))
        rcases a1 v mu with q | q
        · exact absurd q e
        · rcases q.2 with q2 | q2
          · rw [List.contains_iff_mem.mpr m] at q2; cases q2
          · exact nc q2
  · obtain ⟨l1, l2⟩ := sx_lt s ms
    obtain ⟨x1, x2, x3⟩ := s3 s ms
    exact ⟨by rw [sm' _ (lo _ l1)]; exact x1, by rw [sm' _ (lo _ l2)]; exact x2, x3⟩
theorem clrT : ∀ o ∈ shT, clr [o, o + 1] o = true := by decide +kernel
theorem clrP : ∀ o ∈ shP, clr [o, o + 1] o = true := by decide +kernel
theorem clrA : ∀ a ∈ shW, clr [a] a = true ∧ a ∈ shA ∧ 41 ≤ a := by decide +kernel
theorem clrO : ∀ p ∈ shO, clr [p.1] p.1 = true ∧ 41 ≤ p.1 := by decide +kernel
/-- at an address stands one thing -/
theorem oneO : ∀ p ∈ shO, ∀ p2 ∈ shO, p.1 = p2.1 → p = p2 := by decide +kernel
theorem onlyO : ∀ p ∈ shO, p.1 ∉ shA ∧ p.1 ∉ shT ∧ p.1 ∉ shP ∧ p.1 ≠ 71 ∧ p.1 ≠ 46 := by decide +kernel
theorem onlyA : ∀ a ∈ shA, a ∉ shO.map (fun p => p.1) ∧ a ∉ shT ∧ a ∉ shP ∧ a ≠ 71 ∧ a ≠ 46 := by decide +kernel
theorem onlyT : ∀ a ∈ shT, a ∉ shO.map (fun p => p.1) ∧ a ∉ shA ∧ a ∉ shP ∧ a ≠ 71 ∧ a ≠ 46 := by decide +kernel
theorem onlyP : ∀ a ∈ shP, a ∉ shO.map (fun p => p.1) ∧ a ∉ shA ∧ a ∉ shT ∧ a ≠ 71 ∧ a ≠ 46 := by decide +kernel
theorem only71 : 71 ∉ shO.map (fun p => p.1) ∧ 71 ∉ shA ∧ 71 ∉ shT ∧ 71 ∉ shP ∧ clr [71] 71 = true := by decide +kernel
theorem only46 : 46 ∉ shO.map (fun p => p.1) ∧ 46 ∉ shA ∧ 46 ∉ shT ∧ 46 ∉ shP ∧ clr [46] 46 = true := by decide +kernel
theorem noO {u t : Nat} {ks : List Nat} (h : u ∉ shO.map (fun p => p.1)) : (u, t, ks) ∉ shO := fun m => h (List.mem_map.mpr ⟨_, m, rfl⟩)
variable {h h' : mH} {S : SS} {o a : Nat}
theorem cs.gtx (hs : cs h S) (ho : o ∈ shT) : tx h o (o + 1) (tT S o) (tV S o) := ((hs.1 o).2.2.1 ho).1
theorem cs.tb (hs : cs h S) (ho : o ∈ shT) : tV S o = 0 ∨ tV S o = 1 := ((hs.1 o).2.2.1 ho).2
theorem cs.gpa (hs : cs h S) (ho : o ∈ shP) : pa h o (tT S o) (tV S o) := ((hs.1 o).2.2.2.1 ho).1
theorem cs.pb (hs : cs h S) (ho : o ∈ shP) : tV S o = 0 ∨ tV S o = 1 := ((hs.1 o).2.2.2.1 ho).2
theorem cs.ar (hs : cs h S) (ha : a ∈ shA) : h[a]? = some (1001, (S a).map Value.int) := (hs.1 a).2.1 ha
theorem cs.updT (hs : cs h S) (ho : o ∈ shT) {us : List Int32} {ov : Int32} (t : tx h' o (o + 1) us ov) (s : sm [o, o + 1] h h') (hv : ov = 0 ∨ ov = 1) : cs h' (up S o (ov :: us)) := by
  obtain ⟨n1, n2, n3, n4, n5⟩ := onlyT o ho
  exact hs.gen [o, o + 1] o _ (clrT o ho) s.2 ⟨fun t ks m => absurd m (noO n1), fun m => absurd m n2, fun _ => ⟨t, hv⟩, fun m => absurd m n3, fun m => absurd m n4, fun m => absurd m n5⟩
theorem cs.updP (hs : cs h S) (ho : o ∈ shP) {us : List Int32} {ov : Int32} (t : pa h' o us ov) (s : sm [o, o + 1] h h') (hv : ov = 0 ∨ ov = 1) : cs h' (up S o (ov :: us)) := by
  obtain ⟨n1, n2, n3, n4, n5⟩ := onlyP o ho
  exact hs.gen [o, o + 1] o _ (clrP o ho) s.2 ⟨fun t ks m => absurd m (noO n1), fun m => absurd m n2, fun m => absurd m n3, fun _ => ⟨t, hv⟩, fun m => absurd m n4, fun m => absurd m n5⟩
theorem cs.updA (hs : cs h S) (ha : a ∈ shW) (l : List Int32) : cs (h.set a (1001, l.map Value.int)) (up S a l) := by
  obtain ⟨c1, c2, c3⟩ := clrA a ha
  obtain ⟨n1, n2, n3, n4, n5⟩ := onlyA a c2
  have s : sm [a] h (h.set a (1001, l.map Value.int)) := sm.set List.mem_cons_self
  exact hs.gen [a] a _ c1 s.2 ⟨fun t ks m => absurd m (noO n1), fun _ => m_at_set (hs.ar c2), fun m => absurd m n2, fun m => absurd m n3, fun m => absurd m n4, fun m => absurd m n5⟩
theorem cs.upd71 (hs : cs h S) (l : List Int32) : cs (h.set 71 (1000, l.map Value.int)) (up S 71 l) := by
  obtain ⟨n1, n2, n3, n4, c⟩ := only71
  have s : sm [71] h (h.set 71 (1000, l.map Value.int)) := sm.set List.mem_cons_self
  exact hs.gen [71] 71 _ c s.2 ⟨fun t ks m => absurd m (noO n1), fun m => absurd m n2, fun m => absurd m n3, fun m => absurd m n4, fun _ => m_at_set ((hs.1 71).2.2.2.2.1 rfl), fun m => absurd m (by decide)⟩
theorem cs.upd46 (hs : cs h S) (l : List Int32) (hl : ∀ x ∈ l, x.toNatClampNeg ∈ shT) : cs (h.set 46 (1003, l.map fun x => Value.ref x.toNatClampNeg)) (up S 46 l) := by
  obtain ⟨n1, n2, n3, n4, c⟩ := only46
  have s : sm [46] h (h.set 46 (1003, l.map fun x => Value.ref x.toNatClampNeg)) := sm.set List.mem_cons_self
  exact hs.gen [46] 46 _ c s.2 ⟨fun t ks m => absurd m (noO n1), fun m => absurd m n2, fun m => absurd m n3, fun m => absurd m n4, fun m => absurd m (by decide), fun _ => ⟨m_at_set ((hs.1 46).2.2.2.2.2 rfl).1, hl⟩⟩
theorem cs.ob (hs : cs h S) {t : Nat} {ks : List Nat} (hp : (a, t, ks) ∈ shO) : (S a).length = ks.length ∧ h[a]? = some (t, List.zipWith mkV ks (S a)) ∧ ∀ j k, ks[j]? = some k → okV k (rd S a j) := (hs.1 a).1 t ks hp
theorem zip_set {ks : List Nat} : ∀ {l : List Int32} {b k : Nat} {v : Int32}, ks[b]? = some k → (List.zipWith mkV ks l).set b (mkV k v) = List.zipWith mkV ks (l.set b v) := by
  induction ks with
  | nil => intro l b k v h; cases h
  | cons c ks ih =>
    intro l b k v h
    cases l with
    | nil => rfl
    | cons x l =>
      cases b with
      | zero => cases h; rfl
      | succ b => simp only [List.zipWith_cons_cons, List.set_cons_succ]; rw [ih h]
theorem cs.updO (hs : cs h S) {t : Nat} {ks : List Nat} (hp : (a, t, ks) ∈ shO) {b k : Nat} (hk : ks[b]? = some k) {v : Int32} (hv : okV k v) : cs (h.set a (t, (List.zipWith mkV ks (S a)).set b (mkV k v))) (wr S a b v) := by
  obtain ⟨c1, c2⟩ := clrO _ hp
  obtain ⟨n1, n2, n3, n4, n5⟩ := onlyO _ hp
  obtain ⟨o1, o2, o3⟩ := hs.ob hp
  have s : sm [a] h (h.set a (t, (List.zipWith mkV ks (S a)).set b (mkV k v))) := sm.set List.mem_cons_self
  refine hs.gen [a] a _ c1 s.2 ⟨fun t' ks' m => ?_, fun m => absurd m n1, fun m => absurd m n2, fun m => absurd m n3, fun m => absurd m n4, fun m => absurd m n5⟩
  have e := oneO _ hp _ m rfl
  cases e
  refine ⟨by rw [List.length_set]; exact o1, by rw [m_at_set o2, zip_set hk], fun j k' hj => ?_⟩
  by_cases e : b = j
  · subst e
    have : k = k' := by rw [hk] at hj; cases hj; rfl
    subst this
    have hb : b < (S a).length := by rw [o1]; exact (List.getElem?_eq_some_iff.mp hk).1
    rw [List.getD_eq_getElem?_getD, List.getElem?_set_self hb]
    exact hv
  · rw [List.getD_eq_getElem?_getD, List.getElem?_set_ne e]
    exact o3 j k' hj
theorem cs.app (hs : cs h S) (l : List mC) : cs (h ++ l) S := by
  obtain ⟨s1, s2, s3, s4⟩ := hs
  have ap : ∀ {k : Nat} {c : mC}, h[k]? = some c → (h ++ l)[k]? = some c := fun hc => app_get hc
  refine ⟨fun u => ?_, ap s2, fun s ms => ?_, ap s4⟩
  · obtain ⟨k1, k2, k3, k4, k5, k6⟩ := s1 u
    refine ⟨fun t ks m => ⟨(k1 t ks m).1, ap (k1 t ks m).2.1, (k1 t ks m).2.2⟩, fun m => ap (k2 m), fun m => ?_, fun m => ?_, fun m => ap (k5 m), fun m => ⟨ap (k6 m).1, (k6 m).2⟩⟩
    · obtain ⟨⟨t1, t2, t3, t4, t5, tail, t6, t7⟩, t8⟩ := k3 m
      exact ⟨⟨t1, t2, ap t3, t4, t5, tail, ap t6, t7⟩, t8⟩
    · obtain ⟨⟨t1, t2, tail, t3, t4⟩, t8⟩ := k4 m
      exact ⟨⟨ap t1, t2, tail, ap t3, t4⟩, t8⟩
  · obtain ⟨x1, x2, x3⟩ := s3 s ms
    exact ⟨ap x1, ap x2, x3⟩
theorem cs.set101 (hs : cs h S) (y : Int64) : cs (h.set 101 (1002, [.long y])) (up S 101 (lgE y)) := by
  obtain ⟨s1, s2, s3, s4⟩ := hs
  have ap : ∀ {k : Nat}, k ≠ 101 → (h.set 101 (1002, [.long y]))[k]? = h[k]? := fun hk => List.getElem?_set_ne (fun e => hk e.symm)
  have nU : ∀ u ∈ shU, u ≠ 101 := by decide +kernel
  have nP : ∀ u ∈ shT ++ shP, u + 1 ≠ 101 := by decide +kernel
  have n1 : ∀ t ks, (101, t, ks) ∉ shO := fun t ks m => absurd (List.mem_map.mpr ⟨_, m, rfl⟩ : 101 ∈ shO.map (fun p => p.1)) (by decide +kernel)
  refine ⟨fun u => ?_, by rw [ap (by decide)]; exact s2, fun s ms => ?_, by rw [up_same, lg_E]; exact m_at_set s4⟩
  · by_cases e : u = 101
    · subst e
      exact ⟨fun t ks m => absurd m (n1 t ks), fun m => absurd m (by decide), fun m => absurd m (by decide), fun m => absurd m (by decide), fun m => absurd m (by decide), fun m => absurd m (by decide)⟩
    · rw [up_ne e]
      exact (s1 u).frame (fun m => ap (nU u m)) (fun m => ap (nP u m))
  · obtain ⟨l1, l2⟩ := sx_lt s ms
    obtain ⟨x1, x2, x3⟩ := s3 s ms
    exact ⟨by rw [ap (by omega)]; exact x1, by rw [ap (by omega)]; exact x2, x3⟩
end State101
