/-! What a text that was read is like: numbers, values. -/
section Parse181
theorem dig_d {b : Int32} (h : sg_digit b ≠ 0) : ∃ d, d < 10 ∧ b = Int32.ofNat (48 + d) ∧ (b - 48).toNatClampNeg = d ∧ b ≠ -1 := by
  unfold sg_digit at h
  have e48 : (48 : Int32).toInt = 48 := rfl
  have e57 : (57 : Int32).toInt = 57 := rfl
  by_cases h1 : b < 48
  · rw [if_pos h1] at h; exact absurd rfl h
  rw [if_neg h1] at h
  by_cases h2 : 57 < b
  · rw [if_pos h2] at h; exact absurd rfl h
  rw [i_lt, e48] at h1
  rw [i_lt, e57] at h2
  have hb : b = Int32.ofNat (48 + (b.toInt - 48).toNat) := i_ofnn (by omega) (by omega)
  refine ⟨(b.toInt - 48).toNat, by omega, hb, ?_, fun c => ?_⟩
  · rw [i_nat, i_sub (by rw [e48]; omega) (by rw [e48]; omega), e48]
  · rw [c] at h1
    exact h1 (by decide)
def pl (a : Nat) (b : Int32) : Nat := a * 10 + (b - 48).toNatClampNeg
theorem sat_ge : ∀ (ds : List Int32) (a : Nat), 9007199254740991 < a → ds.foldl sat a = a := by
  intro ds
  induction ds with
  | nil => intro a _; rfl
  | cons d ds ih =>
    intro a h
    rw [List.foldl_cons]
    have : sat a d = a := by unfold sat; rw [if_neg (by omega)]
    rw [this]
    exact ih a h
theorem sat_pl : ∀ (ds : List Int32) (a : Nat), ds.foldl sat a ≤ 9007199254740991 → ds.foldl sat a = ds.foldl pl a := by
  intro ds
  induction ds with
  | nil => intro a _; rfl
  | cons d ds ih =>
    intro a h
    by_cases ha : a ≤ 9007199254740991
    · have e : sat a d = pl a d := by unfold sat pl; rw [if_pos ha]
      rw [List.foldl_cons, e] at h
      rw [List.foldl_cons, List.foldl_cons, e]
      exact ih _ h
    · rw [sat_ge _ _ (by omega)] at h
      omega
theorem pl_dig : ∀ (L : Nat) (ds : List Int32), ds.length = L + 1 → (∀ b ∈ ds, sg_digit b ≠ 0) → ds.head? ≠ some 48 → 10 ^ L ≤ ds.foldl pl 0 ∧ ∀ n, L < n → digF n (ds.foldl pl 0) = ds := by
  intro L
  induction L with
  | zero =>
    intro ds hl hd hh
    obtain ⟨b, rfl⟩ : ∃ b, ds = [b] := List.length_eq_one_iff.mp hl
    obtain ⟨d, h1, h2, h3, -⟩ := dig_d (hd b List.mem_cons_self)
    have e : [b].foldl pl 0 = d := by show 0 * 10 + (b - 48).toNatClampNeg = d; rw [h3]; omega
    rw [e]
    refine ⟨?_, fun n hn => ?_⟩
    · have : d ≠ 0 := fun c => hh (by rw [h2, c]; rfl)
      simp only [Nat.pow_zero]
      omega
    · cases n with
      | zero => omega
      | succ n =>
        unfold digF
        rw [if_pos h1, h2]
  | succ L ih =>
    intro ds hl hd hh
    rcases List.eq_nil_or_concat ds with c | ⟨ds', b, c⟩
    · rw [c] at hl; simp at hl
    rw [List.concat_eq_append] at c
    have hl' : ds'.length = L + 1 := by rw [c] at hl; simp at hl; exact hl
    have hh' : ds'.head? ≠ some 48 := by
      intro x
      apply hh
      cases ds' with
      | nil => simp at hl'
      | cons y z => rw [c]; exact x
    obtain ⟨a1, a2⟩ := ih ds' hl' (fun x hx => hd x (by rw [c]; exact List.mem_append_left _ hx)) hh'
    obtain ⟨d, h1, h2, h3, -⟩ := dig_d (hd b (by rw [c]; simp))
    have e : ds.foldl pl 0 = ds'.foldl pl 0 * 10 + d := by
      rw [c, List.foldl_append]
      show pl (ds'.foldl pl 0) b = _
      unfold pl
      rw [h3]
    have hp : 1 ≤ 10 ^ L := Nat.one_le_pow _ _ (by decide)
    rw [e]
    refine ⟨by rw [Nat.pow_succ]; omega, fun n hn => ?_⟩
    cases n with
    | zero => omega
    | succ n =>
      unfold digF
      rw [if_neg (by omega), show (ds'.foldl pl 0 * 10 + d) / 10 = ds'.foldl pl 0 by omega, show (ds'.foldl pl 0 * 10 + d) % 10 = d by omega, a2 n (by omega), c, h2]
theorem take_while_mem {p : Int32 → Bool} : ∀ (l : List Int32), ∀ b ∈ l.takeWhile p, p b = true := by
  intro l
  induction l with
  | nil => intro b hb; cases hb
  | cons x l ih =>
    intro b hb
    by_cases hx : p x = true
    · rw [List.takeWhile_cons_of_pos hx] at hb
      rcases List.mem_cons.mp hb with e | e
      · rw [e]; exact hx
      · exact ih b e
    · rw [List.takeWhile_cons_of_neg hx] at hb
      cases hb
theorem digs_dig (ts : List Int32) (k : Nat) : ∀ b ∈ digs ts k, sg_digit b ≠ 0 := fun b hb => by
  have := take_while_mem (ts.drop k) b hb
  simpa using this
theorem digs_cons {ts : List Int32} (hl : ts.length ≤ 4096) {k : Nat} (hk : k < 100000) (h : sg_digit (atP' ts k) ≠ 0) : k < ts.length ∧ digs ts k = atP' ts k :: digs ts (k + 1) := by
  obtain ⟨d, -, -, -, n1⟩ := dig_d h
  obtain ⟨l1, l2, l3⟩ := at_lt hl hk rfl n1
  refine ⟨l1, ?_⟩
  unfold digs
  rw [l3, List.takeWhile_cons_of_pos (by simpa using h)]
theorem digs_nil {ts : List Int32} (hl : ts.length ≤ 4096) {k : Nat} (hk : k < 100000) (h : sg_digit (atP' ts k) = 0) : digs ts k = [] := by
  unfold digs
  by_cases c : k < ts.length
  · have := tat_in hl c
    unfold atP' at h
    rw [this] at h
    rw [List.drop_eq_getElem_cons c, List.takeWhile_cons_of_neg (by simpa using h)]
  · rw [List.drop_of_length_le (by omega)]
    rfl
theorem digs_len (ts : List Int32) (k : Nat) (h : k ≤ ts.length) : k + (digs ts k).length ≤ ts.length := by
  have := (List.takeWhile_sublist (fun b => sg_digit b != 0) (l := ts.drop k)).length_le
  rw [List.length_drop] at this
  unfold digs
  omega
theorem digs_pre (ts : List Int32) (k : Nat) : (ts.drop k).take (digs ts k).length = digs ts k := by
  unfold digs
  have := List.takeWhile_prefix (fun b => sg_digit b != 0) (l := ts.drop k)
  exact (List.prefix_iff_eq_take.mp this).symm
/-- a number that was read: its digits are those it is printed with -/
theorem digs_num {ts : List Int32} (hl : ts.length ≤ 4096) {k : Nat} (hk : k < 100000) (h : sg_digit (atP' ts k) ≠ 0) (h0 : atP' ts k ≠ 48) (hm : (digs ts k).foldl sat 0 ≤ 9007199254740991) : digF 20 ((digs ts k).foldl sat 0) = digs ts k ∧ 0 < (digs ts k).foldl sat 0 := by
  obtain ⟨l1, e⟩ := digs_cons hl hk h
  have hd := digs_dig ts k
  have hh : (digs ts k).head? ≠ some 48 := by rw [e]; intro c; exact h0 (Option.some.inj c)
  have hs := sat_pl _ _ hm
  rw [hs] at hm ⊢
  obtain ⟨L, hL⟩ : ∃ L, (digs ts k).length = L + 1 := ⟨(digs ts (k + 1)).length, by rw [e]; rfl⟩
  obtain ⟨a1, a2⟩ := pl_dig L _ hL hd hh
  have hp : 1 ≤ 10 ^ L := Nat.one_le_pow _ _ (by decide)
  have : L < 20 := by
    by_cases c : L < 20
    · exact c
    · have := Nat.pow_le_pow_right (n := 10) (by decide) (show 20 ≤ L by omega)
      have p20 : 10 ^ 20 = 100000000000000000000 := by decide
      omega
  exact ⟨a2 20 this, by omega⟩
/-- how a number was read -/
theorem pNum_cases {ts : List Int32} (hl : ts.length ≤ 4096) {k e : Nat} {v : Int} (hk : k ≤ 5000) (h : pNum ts k = some (v, e)) : (-9007199254740991 ≤ v ∧ v ≤ 9007199254740991) ∧ k < e ∧ e ≤ ts.length ∧ (pnum v).length + k ≤ e := by
  unfold pNum at h
  obtain ⟨k', hk'⟩ : ∃ k', k' = if atP' ts k = 45 then k + 1 else k := ⟨_, rfl⟩
  rw [← hk'] at h
  have kk : k ≤ k' ∧ k' ≤ k + 1 := by rw [hk']; split <;> omega
  by_cases h1 : sg_digit (atP' ts k') = 0
  · rw [if_pos h1] at h; cases h
  rw [if_neg h1] at h
  obtain ⟨l1, e1⟩ := digs_cons hl (by omega) h1
  by_cases h2 : atP' ts k' = 48
  · rw [if_pos h2] at h
    cases h
    refine ⟨by omega, by omega, by omega, ?_⟩
    rw [show (pnum 0).length = 1 from by decide]
    omega
  rw [if_neg h2] at h
  by_cases h3 : (digs ts k').foldl sat 0 ≤ 9007199254740991
  rotate_left
  · rw [if_neg h3] at h; cases h
  rw [if_pos h3] at h
  obtain ⟨d1, d2⟩ := digs_num hl (by omega) h1 h2 h3
  have dl := digs_len ts k' (by omega)
  have d0 : 0 < (digs ts k').length := by rw [e1]; simp
  generalize hw : (digs ts k').foldl sat 0 = w at *
  by_cases h4 : atP' ts k = 45
  · rw [if_pos h4] at h hk'
    cases h
    refine ⟨by omega, by omega, by omega, ?_⟩
    unfold pnum
    rw [if_pos (by omega), Int.natAbs_neg, Int.natAbs_natCast, d1, List.length_append]
    simp only [List.length_cons, List.length_nil]
    omega
  · rw [if_neg h4] at h hk'
    cases h
    refine ⟨by omega, by omega, by omega, ?_⟩
    unfold pnum
    rw [if_neg (by omega), Int.natAbs_natCast, d1]
    simp only [List.nil_append]
    omega
theorem pLit_ok {ts w : List Int32} {k e : Nat} (hw : w ≠ []) (h : pLit ts w k = some e) : e = k + w.length ∧ e ≤ ts.length := by
  unfold pLit at h
  by_cases c : (ts.drop k).take w.length = w
  · rw [if_pos c] at h
    cases h
    have := congrArg List.length c
    rw [List.length_take, List.length_drop] at this
    have h0 := List.length_pos_iff.mpr hw
    exact ⟨rfl, by omega⟩
  · rw [if_neg c] at h; cases h
/-- what is known of a value that was read -/
def rdV (ts : List Int32) (k : Nat) (t : Vl) (e : Nat) : Prop := wV t ∧ k + (bV t).length ≤ e ∧ e ≤ ts.length
theorem jn_one (b : Bool) (m : Mb) : jn ([m].map (bM b)) = bM b m := rfl
theorem jn_more (b : Bool) (m : Mb) {l : List Mb} (h : l ≠ []) : jn ((m :: l).map (bM b)) = bM b m ++ 44 :: jn (l.map (bM b)) := by
  rw [jn_cons, if_neg h]
theorem pEl_ok {ts : List Int32} (hl : ts.length ≤ 4096) {rec : Nat → Option (Vl × Nat)} (hrec : ∀ k t e, k ≤ ts.length → rec k = some (t, e) → rdV ts k t e) : ∀ (m k : Nat) (l : List Mb) (e : Nat), k ≤ ts.length → pEl ts rec m k = some (l, e) → l ≠ [] ∧ okL l ∧ k + (jn (l.map (bM false))).length + 1 ≤ e ∧ e ≤ ts.length := by
  intro m
  induction m with
  | zero => intro k l e _ h; cases h
  | succ m ih =>
    intro k l e hk h
    unfold pEl at h
    cases hr : rec k with
    | none => rw [hr] at h; cases h
    | some x =>
      obtain ⟨t, e1⟩ := x
      rw [hr, o_bind] at h
      obtain ⟨a1, a2, a3⟩ := hrec k t e1 hk hr
      obtain ⟨s1, s2⟩ := skp_le ts e1
      have s2 := s2 a3
      simp only at h
      by_cases h1 : atP' ts (skp ts e1) = 44
      · rw [if_pos h1] at h
        obtain ⟨l1, -, -⟩ := at_lt hl (by omega) h1 (by decide)
        obtain ⟨s3, s4⟩ := skp_le ts (skp ts e1 + 1)
        have s4 := s4 (by omega)
        cases hq : pEl ts rec m (skp ts (skp ts e1 + 1)) with
        | none => rw [hq] at h; cases h
        | some y =>
          obtain ⟨l', e'⟩ := y
          rw [hq] at h
          cases h
          dsimp only
          obtain ⟨b1, b2, b3, b4⟩ := ih _ l' e' s4 hq
          refine ⟨by simp, fun x hx => ?_, ?_, b4⟩
          · rcases List.mem_cons.mp hx with c | c
            · rw [c]; exact ⟨fun _ hc => (by cases hc), a1⟩
            · exact b2 x c
          · rw [jn_more false _ b1, List.length_append, List.length_cons, show (bM false ([], t)).length = (bV t).length from rfl]
            omega
      · rw [if_neg h1] at h
        by_cases h2 : atP' ts (skp ts e1) = 93
        · rw [if_pos h2] at h
          cases h
          obtain ⟨l1, -, -⟩ := at_lt hl (by omega) h2 (by decide)
          refine ⟨by simp, fun x hx => ?_, ?_, by omega⟩
          · rw [List.mem_singleton.mp hx]; exact ⟨fun _ hc => (by cases hc), a1⟩
          · rw [jn_one, show (bM false ([], t)).length = (bV t).length from rfl]
            omega
        · rw [if_neg h2] at h; cases h
theorem bM_len (s : List Int32) (t : Vl) : (bM true (s, t)).length = (s.flatMap esc).length + 3 + (bV t).length := by
  unfold bM pstr
  simp only [if_true, List.length_append, List.length_cons, List.length_nil]
theorem pMe_ok {ts : List Int32} (hl : ts.length ≤ 4096) {rec : Nat → Option (Vl × Nat)} (hrec : ∀ k t e, k ≤ ts.length → rec k = some (t, e) → rdV ts k t e) : ∀ (m : Nat) (ns : List (List Int32)) (k : Nat) (l : List Mb) (e : Nat), k ≤ ts.length → pMe ts rec m ns k = some (l, e) → l ≠ [] ∧ okL l ∧ ((l.map fun m => m.1).Nodup ∧ ∀ x ∈ l, x.1 ∉ ns) ∧ k + (jn (l.map (bM true))).length + 1 ≤ e ∧ e ≤ ts.length := by
  intro m
  induction m with
  | zero => intro ns k l e _ h; cases h
  | succ m ih =>
    intro ns k l e hk h
    unfold pMe at h
    by_cases h34 : atP' ts k = 34
    rotate_left
    · rw [if_neg h34] at h; cases h
    rw [if_pos h34] at h
    obtain ⟨l34, -, -⟩ := at_lt hl (by omega) h34 (by decide)
    cases hs : pStr ts 5000 (k + 1) with
    | none => rw [hs] at h; cases h
    | some sx =>
      obtain ⟨s, e0⟩ := sx
      rw [hs, o_bind] at h
      obtain ⟨c1, c2, c3⟩ := pStr_ok hl 5000 (k + 1) s e0 (by omega) hs
      simp only at h
      by_cases hn : s ∈ ns
      · rw [if_pos hn] at h; cases h
      rw [if_neg hn] at h
      obtain ⟨u1, u2⟩ := skp_le ts e0
      have u2 := u2 c3
      by_cases h58 : atP' ts (skp ts e0) = 58
      rotate_left
      · rw [if_neg h58] at h; cases h
      rw [if_pos h58] at h
      obtain ⟨l58, -, -⟩ := at_lt hl (by omega) h58 (by decide)
      obtain ⟨u3, u4⟩ := skp_le ts (skp ts e0 + 1)
      have u4 := u4 (by omega)
      cases hr : rec (skp ts (skp ts e0 + 1)) with
      | none => rw [hr] at h; cases h
      | some x =>
        obtain ⟨t, e1⟩ := x
        rw [hr, o_bind] at h
        obtain ⟨a1, a2, a3⟩ := hrec _ t e1 u4 hr
        obtain ⟨s1, s2⟩ := skp_le ts e1
        have s2 := s2 a3
        simp only at h
        by_cases h1 : atP' ts (skp ts e1) = 44
        · rw [if_pos h1] at h
          obtain ⟨l1, -, -⟩ := at_lt hl (by omega) h1 (by decide)
          obtain ⟨s3, s4⟩ := skp_le ts (skp ts e1 + 1)
          have s4 := s4 (by omega)
          cases hq : pMe ts rec m (ns ++ [s]) (skp ts (skp ts e1 + 1)) with
          | none => rw [hq] at h; cases h
          | some y =>
            obtain ⟨l', e'⟩ := y
            rw [hq] at h
            cases h
            dsimp only
            obtain ⟨b1, b2, ⟨b5, b6⟩, b3, b4⟩ := ih _ _ l' e' s4 hq
            refine ⟨by simp, fun x hx => ?_, ⟨?_, fun x hx => ?_⟩, ?_, b4⟩
            · rcases List.mem_cons.mp hx with c | c
              · rw [c]; exact ⟨c1, a1⟩
              · exact b2 x c
            · rw [List.map_cons, List.nodup_cons]
              refine ⟨fun c => ?_, b5⟩
              obtain ⟨y, y1, y2⟩ := List.mem_map.mp c
              exact b6 y y1 (by rw [y2]; simp)
            · rcases List.mem_cons.mp hx with c | c
              · rw [c]; exact hn
              · intro d; exact b6 x c (List.mem_append_left _ d)
            · rw [jn_more true _ b1, List.length_append, List.length_cons, bM_len]
              omega
        · rw [if_neg h1] at h
          by_cases h2 : atP' ts (skp ts e1) = 125
          · rw [if_pos h2] at h
            cases h
            obtain ⟨l1, -, -⟩ := at_lt hl (by omega) h2 (by decide)
            refine ⟨by simp, fun x hx => ?_, ⟨by simp, fun x hx => ?_⟩, ?_, by omega⟩
            · rw [List.mem_singleton.mp hx]; exact ⟨c1, a1⟩
            · rw [List.mem_singleton.mp hx]; exact hn
            · rw [jn_one, bM_len]
              omega
          · rw [if_neg h2] at h; cases h
theorem map_some {α β : Type} {o : Option α} {f : α → β} {b : β} (h : o.map f = some b) : ∃ a, o = some a ∧ b = f a := by
  cases o with
  | none => cases h
  | some a => exact ⟨a, rfl, (Option.some.inj h).symm⟩
theorem okS_nil : okS [] := fun _ hc => by cases hc
theorem leaf_w {k : Nat} {v : Int} {s : List Int32} (h1 : k ≤ 4) (h2 : k = 3 → -9007199254740991 ≤ v ∧ v ≤ 9007199254740991) (h3 : okS s) : wV (k, v, s, .leaf) :=
  ⟨by show k ≤ 6; omega, h2, h3, fun _ => rfl, fun c => by have c : k = 6 := c; omega, trivial⟩
theorem pVal_ok {ts : List Int32} (hl : ts.length ≤ 4096) : ∀ (n k : Nat) (t : Vl) (e : Nat), k ≤ ts.length → pVal ts n k = some (t, e) → rdV ts k t e := by
  intro n
  induction n with
  | zero => intro k t e _ h; cases h
  | succ n ih =>
    intro k t e hk h
    unfold pVal at h
    obtain ⟨s1, s2⟩ := skp_le ts (k + 1)
    by_cases h91 : atP' ts k = 91
    · rw [if_pos h91] at h
      obtain ⟨l1, -, -⟩ := at_lt hl (by omega) h91 (by decide)
      have s2 := s2 (by omega)
      by_cases hn : n = 0
      · rw [if_pos hn] at h; cases h
      rw [if_neg hn] at h
      by_cases h93 : atP' ts (skp ts (k + 1)) = 93
      · rw [if_pos h93] at h
        cases h
        obtain ⟨l2, -, -⟩ := at_lt hl (by omega) h93 (by decide)
        refine ⟨wV_5 okS_nil (fun m hm => by cases hm), ?_, by omega⟩
        rw [bV_5]
        show k + 2 ≤ _
        omega
      rw [if_neg h93] at h
      obtain ⟨⟨l, e'⟩, q1, q2⟩ := map_some h
      cases q2
      obtain ⟨b1, b2, b3, b4⟩ := pEl_ok hl ih _ _ l e' s2 q1
      refine ⟨wV_5 okS_nil b2, ?_, b4⟩
      rw [bV_5, List.length_cons, List.length_append]
      simp only [List.length_cons, List.length_nil]
      omega
    rw [if_neg h91] at h
    by_cases h123 : atP' ts k = 123
    · rw [if_pos h123] at h
      obtain ⟨l1, -, -⟩ := at_lt hl (by omega) h123 (by decide)
      have s2 := s2 (by omega)
      by_cases hn : n = 0
      · rw [if_pos hn] at h; cases h
      rw [if_neg hn] at h
      by_cases h125 : atP' ts (skp ts (k + 1)) = 125
      · rw [if_pos h125] at h
        cases h
        obtain ⟨l2, -, -⟩ := at_lt hl (by omega) h125 (by decide)
        refine ⟨wV_6 okS_nil (fun m hm => by cases hm) (by unfold nod; simp), ?_, by omega⟩
        rw [bV_6]
        show k + 2 ≤ _
        omega
      rw [if_neg h125] at h
      obtain ⟨⟨l, e'⟩, q1, q2⟩ := map_some h
      cases q2
      obtain ⟨b1, b2, b5, b3, b4⟩ := pMe_ok hl ih _ _ _ l e' s2 q1
      refine ⟨wV_6 okS_nil b2 b5.1, ?_, b4⟩
      rw [bV_6, List.length_cons, List.length_append]
      simp only [List.length_cons, List.length_nil]
      omega
    rw [if_neg h123] at h
    by_cases h34 : atP' ts k = 34
    · rw [if_pos h34] at h
      obtain ⟨⟨s, e'⟩, q1, q2⟩ := map_some h
      cases q2
      obtain ⟨c1, c2, c3⟩ := pStr_ok hl 5000 (k + 1) s e' (by omega) q1
      refine ⟨leaf_w (by decide) (fun c => by omega) c1, ?_, c3⟩
      show k + (pstr s).length ≤ e'
      unfold pstr
      simp only [List.length_cons, List.length_append, List.length_nil]
      omega
    rw [if_neg h34] at h
    by_cases h110 : atP' ts k = 110
    · rw [if_pos h110] at h
      obtain ⟨e', q1, q2⟩ := map_some h
      cases q2
      obtain ⟨c1, c2⟩ := pLit_ok (by simp) q1
      simp only [List.length_cons, List.length_nil] at c1
      exact ⟨leaf_w (by decide) (fun c => by omega) okS_nil, by show k + 4 ≤ e; omega, c2⟩
    rw [if_neg h110] at h
    by_cases h102 : atP' ts k = 102
    · rw [if_pos h102] at h
      obtain ⟨e', q1, q2⟩ := map_some h
      cases q2
      obtain ⟨c1, c2⟩ := pLit_ok (by simp) q1
      simp only [List.length_cons, List.length_nil] at c1
      exact ⟨leaf_w (by decide) (fun c => by omega) okS_nil, by show k + 5 ≤ e; omega, c2⟩
    rw [if_neg h102] at h
    by_cases h116 : atP' ts k = 116
    · rw [if_pos h116] at h
      obtain ⟨e', q1, q2⟩ := map_some h
      cases q2
      obtain ⟨c1, c2⟩ := pLit_ok (by simp) q1
      simp only [List.length_cons, List.length_nil] at c1
      exact ⟨leaf_w (by decide) (fun c => by omega) okS_nil, by show k + 4 ≤ e; omega, c2⟩
    rw [if_neg h116] at h
    obtain ⟨⟨v, e'⟩, q1, q2⟩ := map_some h
    cases q2
    obtain ⟨c1, c2, c3, c4⟩ := pNum_cases hl (by omega) q1
    refine ⟨leaf_w (by decide) (fun _ => c1) okS_nil, ?_, c3⟩
    show k + (pnum v).length ≤ e'
    omega
end Parse181
