/-! Where the items of a printed value are. -/
section Items110
theorem sc_stop {c : Bool} {z : Int32} {r : List Int32} (h : z = 44 ∨ z = 93 ∨ z = 125 ∨ (z = 58 ∧ c = true)) : sc c 0 0 (z :: r) = 0 := by
  rw [sc_0]
  rw [if_neg (by rcases h with rfl | rfl | rfl | ⟨rfl, _⟩ <;> decide), if_neg (by rcases h with rfl | rfl | rfl | ⟨rfl, _⟩ <;> decide), if_pos rfl, if_pos h]
theorem bM_pass {b : Bool} {m : Mb} (h1 : okS m.1) (h2 : wV m.2) (r : List Int32) : sc false 0 0 (bM b m ++ r) = (bM b m).length + sc false 0 0 r := by
  obtain ⟨a1, -⟩ := bV_pass m.2 h2
  unfold bM
  cases b with
  | false => exact a1 false 0 r
  | true =>
    obtain ⟨p1, -⟩ := pstr_pass h1
    simp only [if_true]
    rw [List.append_assoc, List.append_assoc, p1]
    have e : sc false 0 0 ([58] ++ (bV m.2 ++ r)) = 1 + sc false 0 0 (bV m.2 ++ r) := by
      show sc false 0 0 (58 :: (bV m.2 ++ r)) = _
      rw [sc_0, if_neg (by decide), if_neg (by decide), if_pos rfl, if_neg (by decide)]
    rw [e, a1, List.length_append, List.length_append]
    simp only [List.length_cons, List.length_nil]
    omega
theorem drop_len {us w r : List Int32} {p : Nat} (h : us.drop p = w ++ r) (hw : w ≠ []) : p + w.length + r.length = us.length := by
  have := congrArg List.length h
  rw [List.length_drop, List.length_append] at this
  have : 0 < w.length := List.length_pos_iff.mpr hw
  omega
theorem drop_more {us w r : List Int32} {p : Nat} (h : us.drop p = w ++ r) : us.drop (p + w.length) = r := by
  rw [← List.drop_drop, h, List.drop_left]
theorem drop_at {us r : List Int32} {x : Int32} {p : Nat} (hl : us.length ≤ 4096) (h : us.drop p = x :: r) : tat us (Int32.ofNat p) = x := by
  have h1 := drop_len (w := [x]) h (by simp)
  simp only [List.length_cons, List.length_nil] at h1
  have hp : p < us.length := by omega
  rw [tat_in hl hp]
  rw [List.drop_eq_getElem_cons hp] at h
  exact (List.cons.inj h).1
theorem drop_end {us : List Int32} {p : Nat} (hl : us.length ≤ 4096) (hb : p < 2147483648) (h : us.drop p = []) : tat us (Int32.ofNat p) = -1 := by
  refine tat_out hl ?_ hb
  have := congrArg List.length h
  rw [List.length_drop, List.length_nil] at this
  omega
theorem ns_at {us r : List Int32} {cc : Int32} {c : Bool} {p : Nat} (hl : us.length ≤ 4096) (hA : asc us) (hc : cc = 0 ↔ c = false) (h : us.drop p = r) (hp : p ≤ us.length) : ns us cc (Int32.ofNat p) = some (Int32.ofNat (p + sc c 0 0 r)) := by
  unfold ns
  have e : imax (Int32.ofNat p) 0 = Int32.ofNat p := by
    unfold imax
    rw [if_neg (i_nn (by omega))]
  rw [e, i_z 0, ns_sc hl hA hc 10000 0 0 p (by omega) hp (by omega) (Or.inl rfl), h]
/-- behind a value -/
theorem past_val {us r : List Int32} {t : Vl} {p : Nat} {z : Int32} (hl : us.length ≤ 4096) (hA : asc us) (hw : wV t) (h : us.drop p = bV t ++ z :: r) (hz : z = 44 ∨ z = 93 ∨ z = 125 ∨ z = 58) (hp : p ≤ us.length) : t_past us (Int32.ofNat p) = some (Int32.ofNat (p + (bV t).length)) := by
  unfold t_past
  rw [ns_at hl hA (c := true) (by decide) h hp, o_bind, (bV_pass t hw).1, sc_stop (by rcases hz with e | e | e | e <;> simp [e])]
  rfl
theorem past_end {us : List Int32} {t : Vl} {p : Nat} (hl : us.length ≤ 4096) (hA : asc us) (hw : wV t) (h : us.drop p = bV t) (hp : p ≤ us.length) : t_past us (Int32.ofNat p) = some (Int32.ofNat (p + (bV t).length)) := by
  unfold t_past
  have h' : us.drop p = bV t ++ [] := by rw [List.append_nil]; exact h
  rw [ns_at hl hA (c := true) (by decide) h' hp, o_bind, (bV_pass t hw).1, sc_n]
  rfl
theorem past_str {us r : List Int32} {s : List Int32} {p : Nat} (hl : us.length ≤ 4096) (hA : asc us) (hs : okS s) (h : us.drop p = pstr s ++ 58 :: r) (hp : p ≤ us.length) : t_past us (Int32.ofNat p) = some (Int32.ofNat (p + (pstr s).length)) := by
  unfold t_past
  rw [ns_at hl hA (c := true) (by decide) h hp, o_bind, (pstr_pass hs).1, sc_stop (by simp)]
  rfl
theorem jn_cons (b : Bool) (m : Mb) (l : List Mb) : jn ((m :: l).map (bM b)) = bM b m ++ (if l = [] then [] else 44 :: jn (l.map (bM b))) := by
  cases l with
  | nil => simp [jn]
  | cons m2 l => simp only [List.map_cons, jn, reduceCtorEq, if_false]
theorem bV_ne (t : Vl) : bV t ≠ [] := by
  unfold bV bval
  split; · simp
  split; · simp
  split; · simp
  split
  · unfold pnum
    intro e
    rw [List.append_eq_nil_iff] at e
    have := e.2
    unfold digF at this
    split at this
    · cases this
    · rw [List.append_eq_nil_iff] at this; cases this.2
  split; · simp [pstr]
  split <;> simp
theorem bM_ne (b : Bool) (m : Mb) : bM b m ≠ [] := by
  unfold bM
  intro e
  rw [List.append_eq_nil_iff] at e
  exact bV_ne _ e.2
/-- from one item to the next -/
theorem nx {us r : List Int32} {b : Bool} {m : Mb} {l : List Mb} {q : Nat} {z : Int32} (hl : us.length ≤ 4096) (hA : asc us) (hm : okS m.1 ∧ wV m.2) (hz : z = 93 ∨ z = 125) (h : us.drop q = jn ((m :: l).map (bM b)) ++ z :: r) :
    q + (bM b m).length < us.length ∧ t_itemEnd us (Int32.ofNat q) = some (Int32.ofNat (q + (bM b m).length)) ∧ t_next us (Int32.ofNat q) = some (if l = [] then -1 else Int32.ofNat (q + (bM b m).length + 1)) ∧ (l ≠ [] → us.drop (q + (bM b m).length + 1) = jn (l.map (bM b)) ++ z :: r) := by
  rw [jn_cons, List.append_assoc] at h
  have hlen := drop_len h (bM_ne b m)
  have hr : 0 < ((if l = [] then [] else 44 :: jn (l.map (bM b))) ++ z :: r).length := by
    rw [List.length_append]; simp only [List.length_cons]; omega
  have hs0 : sc false 0 0 ((if l = [] then [] else 44 :: jn (l.map (bM b))) ++ z :: r) = 0 := by
    by_cases hn : l = []
    · rw [if_pos hn]
      exact sc_stop (by rcases hz with e | e <;> simp [e])
    · rw [if_neg hn]
      exact sc_stop (Or.inl rfl)
  have en : ns us 0 (Int32.ofNat q) = some (Int32.ofNat (q + (bM b m).length)) := by
    rw [ns_at hl hA (c := false) (by decide) h (by omega), bM_pass hm.1 hm.2, hs0]
    rfl
  have hd := drop_more h
  refine ⟨by omega, ?_, ?_, ?_⟩
  · unfold t_itemEnd; rw [en, o_bind]
  · unfold t_next
    rw [en, o_bind]
    by_cases hn : l = []
    · rw [if_pos hn] at hd ⊢
      rw [drop_at hl hd, if_neg (by rcases hz with e | e <;> rw [e] <;> decide)]
    · rw [if_neg hn] at hd ⊢
      rw [drop_at hl hd, if_pos rfl, i_a1]
  · intro hn
    rw [if_neg hn] at hd
    exact drop_more (w := [44]) hd
/-- what a printed array or object holds -/
theorem box_in {us r : List Int32} {k : Nat} {v : Int} {s : List Int32} {l : List Mb} {p : Nat} (hk : k = 5 ∨ k = 6) (h : us.drop p = bV (k, v, s, ofL l) ++ r) : us.drop (p + 1) = jn (l.map (bM (k == 6))) ++ (if k = 5 then 93 else 125) :: r := by
  have e : bV (k, v, s, ofL l) = (if k = 5 then 91 else 123) :: (jn (l.map (bM (k == 6))) ++ [if k = 5 then 93 else 125]) := by
    unfold bV bval
    simp only
    rw [bF_ofL]
    rcases hk with rfl | rfl <;> rfl
  rw [e] at h
  have := drop_more (w := [if k = 5 then 91 else 123]) (by simpa using h)
  simpa using this
theorem nil_jn {b : Bool} {l : List Mb} (h : l ≠ []) : ∃ x y, jn (l.map (bM b)) = x :: y := by
  cases l with
  | nil => exact absurd rfl h
  | cons m l =>
    rw [jn_cons]
    cases hb : bM b m with
    | nil => exact absurd hb (bM_ne b m)
    | cons x y => exact ⟨x, _, rfl⟩
end Items110
