/-! Parts of a box go, or others come. -/
section Gap156
theorem jpost_app (b : Bool) (A B : List Mb) : jpost b (A ++ B) = jpost b A ++ jpost b B := by
  unfold jpost; rw [List.flatMap_append]
theorem jn_ap2 (b : Bool) {A : List Mb} (B : List Mb) (hA : A ≠ []) : jn ((A ++ B).map (bM b)) = jn (A.map (bM b)) ++ jpost b B := by
  cases A with
  | nil => exact absurd rfl hA
  | cons m A => rw [List.cons_append, jn_post, jn_post, jpost_app, List.append_assoc]
theorem mid_ne {l : List Mb} {lo hi : Nat} (h1 : lo < hi) (h2 : hi ≤ l.length) : (l.drop lo).take (hi - lo) ≠ [] := by
  intro e
  have := congrArg List.length e
  rw [List.length_take, List.length_drop] at this
  simp only [List.length_nil] at this
  omega
theorem box_split (b : Bool) {l : List Mb} {lo hi : Nat} (h1 : lo < hi) (h2 : hi ≤ l.length) : jn (l.map (bM b)) = jpre b (l.take lo) ++ (jn (((l.drop lo).take (hi - lo)).map (bM b)) ++ jpost b (l.drop hi)) := by
  have e : l = l.take lo ++ ((l.drop lo).take (hi - lo) ++ l.drop hi) := by
    have : l.drop hi = (l.drop lo).drop (hi - lo) := by rw [List.drop_drop]; congr 1; omega
    rw [this, List.take_append_drop, List.take_append_drop]
  have hne := mid_ne h1 h2
  conv => lhs; rw [e]
  rw [jn_pre b (by simp [hne]), jn_ap2 b _ hne]
/-- the items lo to before hi, in the text -/
theorem span_at {us r : List Int32} {b : Bool} {ob cl : Int32} {l : List Mb} {q lo hi : Nat} (h1 : lo < hi) (h2 : hi ≤ l.length) (hd : us.drop q = ob :: (jn (l.map (bM b)) ++ cl :: r)) : us.take (ip b (q + 1) l lo) = us.take q ++ ob :: jpre b (l.take lo) ∧ us.drop (ip b (q + 1) l (hi - 1) + (bM b (l[hi - 1]'(by omega))).length) = jpost b (l.drop hi) ++ cl :: r := by
  have hs := box_split b h1 h2
  rw [hs] at hd
  have e1 : ip b (q + 1) l lo = q + (ob :: jpre b (l.take lo)).length := by rw [ip_pre]; simp only [List.length_cons]; omega
  have e2 : ip b (q + 1) l (hi - 1) + (bM b (l[hi - 1]'(by omega))).length = q + ((ob :: jpre b (l.take lo)).length + (jn (((l.drop lo).take (hi - lo)).map (bM b))).length) := by
    rw [ip_last h1 h2, e1]; omega
  refine ⟨?_, ?_⟩
  · rw [e1, List.take_add, hd]
    congr 1
    rw [show ob :: (jpre b (l.take lo) ++ (jn (((l.drop lo).take (hi - lo)).map (bM b)) ++ jpost b (l.drop hi)) ++ cl :: r) = (ob :: jpre b (l.take lo)) ++ ((jn (((l.drop lo).take (hi - lo)).map (bM b)) ++ jpost b (l.drop hi)) ++ cl :: r) by simp, List.take_left]
  · rw [e2, ← List.drop_drop, hd, ← List.length_append, show ob :: (jpre b (l.take lo) ++ (jn (((l.drop lo).take (hi - lo)).map (bM b)) ++ jpost b (l.drop hi)) ++ cl :: r) = ((ob :: jpre b (l.take lo)) ++ jn (((l.drop lo).take (hi - lo)).map (bM b))) ++ (jpost b (l.drop hi) ++ cl :: r) by simp, List.drop_left]
/-- items go, with one comma beside them -/
theorem cut_text {us r : List Int32} {b : Bool} {ob cl : Int32} {l : List Mb} {q lo hi f e : Nat} (hob : ob ≠ 44) (hcl : cl ≠ 44) (hl : us.length ≤ 4096) (h1 : lo < hi) (h2 : hi ≤ l.length) (hd : us.drop q = ob :: (jn (l.map (bM b)) ++ cl :: r)) (hf : f = ip b (q + 1) l lo) (he : e = ip b (q + 1) l (hi - 1) + (bM b (l[hi - 1]'(by omega))).length) : 0 < f ∧ e < 4096 ∧ ((tat us (Int32.ofNat e) = 44 ∧ us.take f ++ us.drop (e + 1) = us.take q ++ ob :: (jn ((l.take lo ++ l.drop hi).map (bM b)) ++ cl :: r)) ∨ (tat us (Int32.ofNat e) ≠ 44 ∧ tat us (Int32.ofNat (f - 1)) = 44 ∧ us.take (f - 1) ++ us.drop e = us.take q ++ ob :: (jn ((l.take lo ++ l.drop hi).map (bM b)) ++ cl :: r)) ∨ (tat us (Int32.ofNat e) ≠ 44 ∧ tat us (Int32.ofNat (f - 1)) ≠ 44 ∧ us.take f ++ us.drop e = us.take q ++ ob :: (jn ((l.take lo ++ l.drop hi).map (bM b)) ++ cl :: r))) := by
  obtain ⟨s1, s2⟩ := span_at h1 h2 hd
  rw [← hf] at s1
  rw [← he] at s2
  have f1 : f = q + (1 + (jpre b (l.take lo)).length) := by rw [hf, ip_pre]; omega
  have e1 : e < us.length := by
    apply Classical.byContradiction
    intro c
    rw [List.drop_eq_nil_of_le (by omega)] at s2
    have := congrArg List.length s2
    simp only [List.length_nil, List.length_append, List.length_cons] at this
    omega
  refine ⟨by omega, by omega, ?_⟩
  by_cases hh : hi < l.length
  · have hne : l.drop hi ≠ [] := by rw [Ne, List.drop_eq_nil_iff]; omega
    rw [jpost_jn b hne] at s2
    left
    refine ⟨drop_at hl s2, ?_⟩
    rw [s1, ← List.drop_drop, s2, jn_pre b hne]
    simp
  · have hdr : l.drop hi = [] := List.drop_eq_nil_of_le (by omega)
    rw [hdr] at s2
    right
    have te : tat us (Int32.ofNat e) ≠ 44 := by rw [drop_at hl s2]; exact hcl
    rw [hdr, List.append_nil]
    -- the byte before
    have fl : f ≤ us.length := by
      have := congrArg List.length s1
      rw [List.length_take, List.length_append, List.length_take] at this
      simp only [List.length_cons] at this
      have hq : q < us.length := by
        apply Classical.byContradiction
        intro c
        rw [List.drop_eq_nil_of_le (by omega)] at hd
        cases hd
      omega
    have bf : ∀ (Y : List Int32) (x : Int32), us.take f = Y ++ [x] → tat us (Int32.ofNat (f - 1)) = x ∧ us.take (f - 1) = Y := by
      intro Y x hY
      have hYl : Y.length = f - 1 := by
        have := congrArg List.length hY
        rw [List.length_take, List.length_append] at this
        simp only [List.length_cons, List.length_nil] at this
        omega
      refine ⟨?_, ?_⟩
      · apply drop_at (r := us.drop f) hl
        conv => lhs; rw [← List.take_append_drop f us, hY]
        rw [List.append_assoc, ← hYl, List.drop_left]
        rfl
      · have : us.take (f - 1) = (us.take f).take (f - 1) := by rw [List.take_take, Nat.min_eq_left (by omega)]
        rw [this, hY, ← hYl, List.take_left]
    by_cases h0 : lo = 0
    · subst h0
      right
      have hY : us.take f = us.take q ++ [ob] := by rw [s1]; simp [jpre]
      obtain ⟨b1, b2⟩ := bf _ _ hY
      refine ⟨te, by rw [b1]; exact hob, ?_⟩
      rw [hY, s2]
      simp [jn, jpost]
    · left
      have hne : l.take lo ≠ [] := by
        intro c
        have := congrArg List.length c
        rw [List.length_take] at this
        simp only [List.length_nil] at this
        omega
      have hY : us.take f = (us.take q ++ ob :: jn ((l.take lo).map (bM b))) ++ [44] := by rw [s1, jpre_jn b hne]; simp
      obtain ⟨b1, b2⟩ := bf _ _ hY
      refine ⟨te, b1, ?_⟩
      rw [b2, s2]
      simp [jpost]
/-- others come instead of items -/
theorem put_text {us r : List Int32} {b : Bool} {ob cl : Int32} {l lv : List Mb} {q lo hi : Nat} (h2 : hi ≤ l.length) (hlh : lo ≤ hi) (hv : lv ≠ []) (hd : us.drop q = ob :: (jn (l.map (bM b)) ++ cl :: r)) : (∀ h1 : lo < hi, us.take (ip b (q + 1) l lo) ++ (jn (lv.map (bM b)) ++ us.drop (ip b (q + 1) l (hi - 1) + (bM b (l[hi - 1]'(by omega))).length)) = us.take q ++ ob :: (jn ((l.take lo ++ (lv ++ l.drop hi)).map (bM b)) ++ cl :: r)) ∧ (lo = hi → hi < l.length → us.take (ip b (q + 1) l lo) ++ (jn (lv.map (bM b)) ++ 44 :: us.drop (ip b (q + 1) l lo)) = us.take q ++ ob :: (jn ((l.take lo ++ (lv ++ l.drop hi)).map (bM b)) ++ cl :: r)) ∧ (lo = hi → hi = l.length → us.take (q + (jn (l.map (bM b))).length + 1) ++ ((if l = [] then [] else [44]) ++ (jn (lv.map (bM b)) ++ us.drop (q + (jn (l.map (bM b))).length + 1))) = us.take q ++ ob :: (jn ((l.take lo ++ (lv ++ l.drop hi)).map (bM b)) ++ cl :: r)) := by
  have ej : jn ((l.take lo ++ (lv ++ l.drop hi)).map (bM b)) = jpre b (l.take lo) ++ (jn (lv.map (bM b)) ++ jpost b (l.drop hi)) := by
    rw [jn_pre b (by simp [hv]), jn_ap2 b _ hv]
  refine ⟨fun h1 => ?_, fun e h1 => ?_, fun e h1 => ?_⟩
  · obtain ⟨s1, s2⟩ := span_at h1 h2 hd
    rw [s1, s2, ej]
    simp
  · subst e
    have hne : l.drop lo ≠ [] := by rw [Ne, List.drop_eq_nil_iff]; omega
    have hd' := hd
    rw [show l = l.take lo ++ l.drop lo from (List.take_append_drop lo l).symm, jn_pre b hne] at hd'
    have e1 : ip b (q + 1) l lo = q + (ob :: jpre b (l.take lo)).length := by rw [ip_pre]; simp only [List.length_cons]; omega
    have t1 : us.take (q + (ob :: jpre b (l.take lo)).length) = us.take q ++ ob :: jpre b (l.take lo) := by
      rw [List.take_add, hd]
      congr 1
      conv => lhs; rw [show l = l.take lo ++ l.drop lo from (List.take_append_drop lo l).symm]
      rw [jn_pre b hne, List.take_append_drop, show ob :: (jpre b (l.take lo) ++ jn ((l.drop lo).map (bM b)) ++ cl :: r) = (ob :: jpre b (l.take lo)) ++ (jn ((l.drop lo).map (bM b)) ++ cl :: r) by simp, List.take_left]
    have t2 : us.drop (q + (ob :: jpre b (l.take lo)).length) = jn ((l.drop lo).map (bM b)) ++ cl :: r := by
      rw [← List.drop_drop, hd]
      have : jn (l.map (bM b)) = jpre b (l.take lo) ++ jn ((l.drop lo).map (bM b)) := by
        conv => lhs; rw [show l = l.take lo ++ l.drop lo from (List.take_append_drop lo l).symm]
        rw [jn_pre b hne]
      rw [this, show ob :: (jpre b (l.take lo) ++ jn ((l.drop lo).map (bM b)) ++ cl :: r) = (ob :: jpre b (l.take lo)) ++ (jn ((l.drop lo).map (bM b)) ++ cl :: r) by simp, List.drop_left]
    rw [e1, t1, t2, ej, jpost_jn b hne]
    simp
  · subst e
    have hdr : l.drop lo = [] := List.drop_eq_nil_of_le (by omega)
    have htk : l.take lo = l := List.take_of_length_le (by omega)
    have e1 : q + (jn (l.map (bM b))).length + 1 = q + (ob :: jn (l.map (bM b))).length := by simp only [List.length_cons]; omega
    have hd' : us.drop q = (ob :: jn (l.map (bM b))) ++ cl :: r := by rw [hd]; simp
    have t1 : us.take (q + (ob :: jn (l.map (bM b))).length) = us.take q ++ ob :: jn (l.map (bM b)) := by rw [List.take_add, hd', List.take_left]
    have t2 : us.drop (q + (ob :: jn (l.map (bM b))).length) = cl :: r := by rw [← List.drop_drop, hd', List.drop_left]
    rw [e1, t1, t2, ej, hdr, htk]
    by_cases hn : l = []
    · subst hn
      simp [jpre, jpost, jn]
    · rw [jpre_jn b hn, if_neg hn]
      simp [jpost]
end Gap156
