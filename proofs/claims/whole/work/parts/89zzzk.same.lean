/-! The reference compares values. -/
section Same152
/-- a member at its place -/
def atM (as : List Int32) (x : Nat) (m : Mb) : Prop := as.length ≤ 9000 ∧ okS m.1 ∧ wV m.2 ∧ ∃ r, as.drop x = cstr m.1 ++ (cV m.2 ++ r)
theorem atM.val {as : List Int32} {x : Nat} {m : Mb} (h : atM as x m) : r_next as (Int32.ofNat x) = some (Int32.ofNat (x + (cstr m.1).length)) ∧ cat as (x + (cstr m.1).length) m.2 ∧ x < 9000 := by
  obtain ⟨h1, h2, h3, r, h4⟩ := h
  obtain ⟨n1, n2⟩ := rnext_at h1 (cstr_hdd m.1) h4
  have := (cstr_hdd m.1).len
  exact ⟨n1, ⟨h1, h3, r, drop_more h4⟩, by omega⟩
def isP (as : List Int32) (v : Int32) : Option Mb → Prop
  | none => v = -1
  | some m => ∃ x, v = Int32.ofNat x ∧ atM as x m
theorem isP.ne {as : List Int32} {v : Int32} {m : Mb} (h : isP as v (some m)) : ¬ v = -1 := by
  obtain ⟨x, e, h⟩ := h
  rw [e]
  have := h.val.2.2
  exact i_ne1 (by omega)
def gtN (lo : Option Mb) (m : Mb) : Bool := match lo with
  | none => true
  | some y => decide (0 < cmpS m.1 y.1)
def ltN (b : Option Mb) (m : Mb) : Bool := match b with
  | none => true
  | some y => decide (¬ 0 ≤ cmpS m.1 y.1)
def stepN (lo b : Option Mb) (m : Mb) : Option Mb := if gtN lo m = true ∧ ltN b m = true then some m else b
theorem gtN_iff (y m : Mb) : gtN (some y) m = true ↔ ltS y.1 m.1 := by
  show decide (0 < cmpS m.1 y.1) = true ↔ _
  rw [decide_eq_true_eq, cmpS_gt]
theorem ltN_iff (y m : Mb) : ltN (some y) m = true ↔ ltS m.1 y.1 := by
  show decide (¬ 0 ≤ cmpS m.1 y.1) = true ↔ _
  rw [decide_eq_true_eq, cmpS_ge]
  exact Classical.not_not
theorem nameAfter_l {as r : List Int32} {p : Int32} {e : Nat} {last : Int32} {lo : Option Mb} (ha : as.length ≤ 9000) (hn0 : r_next as p = some (Int32.ofNat e)) (he9 : e ≤ 9000) (hlo : isP as last lo) : ∀ (l : List Mb) (n q : Nat) (best : Int32) (bo : Option Mb), okL l → as.drop q = (blks true l).flatten ++ r → q + (blks true l).flatten.length = e → l.length < n → isP as best bo → ∃ res, r_nameAfter_l as n p last best (Int32.ofNat q) = some res ∧ isP as res (l.foldl (stepN lo) bo) := by
  intro l
  induction l with
  | nil =>
    intro n q best bo _ h he hn hb
    obtain ⟨n, rfl⟩ : ∃ j, n = j + 1 := ⟨n - 1, by omega⟩
    have : (blks true []).flatten.length = 0 := rfl
    refine ⟨best, ?_, hb⟩
    unfold r_nameAfter_l
    rw [hn0, o_bind, if_pos ((i_le' (by omega) (by omega)).mpr (by omega))]
  | cons m l ih =>
    intro n q best bo hw h he hn hb
    obtain ⟨n, rfl⟩ : ∃ j, n = j + 1 := ⟨n - 1, by omega⟩
    have eb : blks true (m :: l) = cstr m.1 :: cV m.2 :: blks true l := rfl
    rw [eb] at h he
    have hh : ∀ x ∈ cstr m.1 :: cV m.2 :: blks true l, hdd x := by rw [← eb]; exact blks_h hw
    obtain ⟨s1, s2, s3, s4⟩ := blk_step ha hh h
    obtain ⟨u1, u2, u3, u4⟩ := blk_step ha (fun x hx => hh x (List.mem_cons_of_mem _ hx)) s2
    rw [List.flatten_cons, List.length_append, List.flatten_cons, List.length_append] at he
    rw [List.flatten_cons, List.append_assoc, List.flatten_cons, List.append_assoc] at h
    have hm : atM as q m := ⟨ha, (hw m List.mem_cons_self).1, (hw m List.mem_cons_self).2, _, h⟩
    have cont : ∀ best' bo', isP as best' bo' → ∃ res, ((r_next as (Int32.ofNat q)).bind fun r5 => (r_next as r5).bind fun r6 => r_nameAfter_l as n p last best' r6) = some res ∧ isP as res (l.foldl (stepN lo) bo') := by
      intro best' bo' hb'
      rw [s1, o_bind, u1, o_bind]
      exact ih n _ best' bo' hw.tail u2 (by omega) (by simp only [List.length_cons] at hn; omega) hb'
    have take : ∃ res, ((r_next as (Int32.ofNat q)).bind fun r5 => (r_next as r5).bind fun r6 => r_nameAfter_l as n p last (Int32.ofNat q) r6) = some res ∧ isP as res (l.foldl (stepN lo) (some m)) := cont _ (some m) ⟨q, rfl, hm⟩
    have keep := cont best bo hb
    have est : (m :: l).foldl (stepN lo) bo = l.foldl (stepN lo) (stepN lo bo m) := rfl
    rw [est]
    have hgo : r_next as p = some (Int32.ofNat e) := hn0
    have hlt : ¬ Int32.ofNat e ≤ Int32.ofNat q := by rw [i_le' (by omega) (by omega)]; omega
    have str : ∀ (v : Int32) (y : Mb), isP as v (some y) → r_strings as as (Int32.ofNat q) v = some (cmpS m.1 y.1) := by
      intro v y hy
      obtain ⟨x, ex, hx⟩ := hy
      obtain ⟨-, -, -, r2, hx⟩ := hx
      rw [ex]
      exact rstr_val ha ha h hx
    have inner : gtN lo m = true → ∃ res, (if best = (-1 : Int32) then ((r_next as (Int32.ofNat q)).bind fun r5 => ((r_next as r5).bind fun r6 => r_nameAfter_l as n p last (Int32.ofNat q) r6)) else ((r_strings as as (Int32.ofNat q) best).bind fun r7 => (if 0 ≤ r7 then ((r_next as (Int32.ofNat q)).bind fun r9 => ((r_next as r9).bind fun r10 => r_nameAfter_l as n p last best r10)) else ((r_next as (Int32.ofNat q)).bind fun r11 => ((r_next as r11).bind fun r12 => r_nameAfter_l as n p last (Int32.ofNat q) r12))))) = some res ∧ isP as res (l.foldl (stepN lo) (stepN lo bo m)) := by
      intro hg
      cases bo with
      | none =>
        have e1 : stepN lo none m = some m := if_pos ⟨hg, rfl⟩
        rw [if_pos (show best = -1 from hb), e1]
        exact take
      | some y =>
        rw [if_neg hb.ne, str best y hb, o_bind]
        by_cases hc : 0 ≤ cmpS m.1 y.1
        · have e1 : stepN lo (some y) m = some y := if_neg (fun c => by
            have := (ltN_iff y m).mp c.2
            exact (cmpS_ge _ _).mp hc this)
          rw [if_pos hc, e1]
          exact keep
        · have e1 : stepN lo (some y) m = some m := if_pos ⟨hg, (ltN_iff y m).mpr (Classical.byContradiction fun c => hc ((cmpS_ge _ _).mpr c))⟩
          rw [if_neg hc, e1]
          exact take
    unfold r_nameAfter_l
    rw [hn0, o_bind, if_neg hlt]
    cases lo with
    | none =>
      rw [if_pos (show last = -1 from hlo)]
      exact inner rfl
    | some y =>
      rw [if_neg hlo.ne, str last y hlo, o_bind]
      by_cases hc : 0 < cmpS m.1 y.1
      · rw [if_pos hc]
        exact inner ((gtN_iff y m).mpr ((cmpS_gt _ _).mp hc))
      · have e1 : stepN (some y) bo m = bo := if_neg (fun c => hc ((cmpS_gt _ _).mpr ((gtN_iff y m).mp c.1)))
        rw [if_neg hc, e1]
        exact keep
/-- what it comes to -/
theorem fold_N {lo : Option Mb} : ∀ (l : List Mb) (bo : Option Mb), (∀ m, l.foldl (stepN lo) bo = some m → (bo = some m ∨ (m ∈ l ∧ gtN lo m = true)) ∧ (∀ m' ∈ l, gtN lo m' = true → ¬ ltS m'.1 m.1) ∧ (∀ y, bo = some y → ¬ ltS y.1 m.1)) ∧ (l.foldl (stepN lo) bo = none → bo = none ∧ ∀ m ∈ l, ¬ gtN lo m = true) := by
  intro l
  induction l with
  | nil =>
    intro bo
    refine ⟨fun m h => ⟨Or.inl h, fun m' h' => (by cases h'), fun y hy => ?_⟩, fun h => ⟨h, fun m h' => (by cases h')⟩⟩
    rw [show bo = some m from h] at hy
    cases hy
    exact ltS_irr _
  | cons a l ih =>
    intro bo
    have est : (a :: l).foldl (stepN lo) bo = l.foldl (stepN lo) (stepN lo bo a) := rfl
    rw [est]
    by_cases hc : gtN lo a = true ∧ ltN bo a = true
    · rw [show stepN lo bo a = some a from if_pos hc]
      obtain ⟨i1, i2⟩ := ih (some a)
      refine ⟨fun m h => ?_, fun h => absurd (i2 h).1 (by simp)⟩
      obtain ⟨j1, j2, j3⟩ := i1 m h
      have j4 := j3 a rfl
      refine ⟨Or.inr ?_, ?_, ?_⟩
      · rcases j1 with j1 | j1
        · cases j1
          exact ⟨List.mem_cons_self, hc.1⟩
        · exact ⟨List.mem_cons_of_mem _ j1.1, j1.2⟩
      · intro m' hm' hg
        rcases List.mem_cons.mp hm' with e | e
        · rw [e]; exact j4
        · exact j2 m' e hg
      · intro y hy hlt
        rw [hy] at hc
        exact j4 (ltS_trans ((ltN_iff y a).mp hc.2) hlt)
    · rw [show stepN lo bo a = bo from if_neg hc]
      obtain ⟨i1, i2⟩ := ih bo
      refine ⟨fun m h => ?_, fun h => ?_⟩
      · obtain ⟨j1, j2, j3⟩ := i1 m h
        refine ⟨?_, ?_, j3⟩
        · rcases j1 with j1 | j1
          · exact Or.inl j1
          · exact Or.inr ⟨List.mem_cons_of_mem _ j1.1, j1.2⟩
        · intro m' hm' hg
          rcases List.mem_cons.mp hm' with e | e
          · subst e
            cases bo with
            | none => exact absurd ⟨hg, rfl⟩ hc
            | some y =>
              have h1 : ¬ ltS m'.1 y.1 := fun c => hc ⟨hg, (ltN_iff y m').mpr c⟩
              exact not_lt_trans (j3 y rfl) h1
          · exact j2 m' e hg
      · obtain ⟨j1, j2⟩ := i2 h
        refine ⟨j1, fun m hm hg => ?_⟩
        rcases List.mem_cons.mp hm with e | e
        · subst e
          rw [j1] at hc
          exact hc ⟨hg, rfl⟩
        · exact j2 m e hg
/-- the place before a rest of the sorted members -/
def befo (pre : List Mb) (lo : Option Mb) : Prop := (pre = [] ∧ lo = none) ∨ ∃ pre' x, pre = pre' ++ [x] ∧ lo = some x
theorem fold_head {l pre rest : List Mb} {lo : Option Mb} (hn : nod l) (hs : srt l = pre ++ rest) (hb : befo pre lo) : l.foldl (stepN lo) none = rest.head? := by
  have hmem : ∀ m, m ∈ l ↔ m ∈ pre ++ rest := fun m => by rw [← hs]; exact (srt_perm l).mem_iff.symm
  have hlt := srt_lt hn
  rw [hs] at hlt
  have hg : ∀ m ∈ pre ++ rest, gtN lo m = true ↔ m ∈ rest := by
    intro m hm
    rcases hb with ⟨e1, e2⟩ | ⟨pre', x, e1, e2⟩
    · subst e1 e2
      exact ⟨fun _ => by simpa using hm, fun _ => rfl⟩
    · subst e1 e2
      rw [gtN_iff]
      rw [List.append_assoc, List.pairwise_append] at hlt
      obtain ⟨h1, h2, h3⟩ := hlt
      have h4 : (∀ a' ∈ rest, ltS x.1 a'.1) := (List.pairwise_cons.mp h2).1
      refine ⟨fun h => ?_, fun h => h4 m h⟩
      rw [List.append_assoc, List.mem_append, List.singleton_append, List.mem_cons] at hm
      rcases hm with e | e | e
      · exact absurd (ltS_trans h (h3 m e x (by simp))) (ltS_irr _)
      · rw [e] at h; exact absurd h (ltS_irr _)
      · exact e
  obtain ⟨f1, f2⟩ := fold_N (lo := lo) l none
  cases hr : rest with
  | nil =>
    show _ = none
    cases ho : l.foldl (stepN lo) none with
    | none => rfl
    | some m =>
      obtain ⟨j1, -, -⟩ := f1 m ho
      rcases j1 with j1 | j1
      · cases j1
      · have := (hg m ((hmem m).mp j1.1)).mp j1.2
        rw [hr] at this
        cases this
  | cons x rs =>
    show _ = some x
    have hx : x ∈ rest := by rw [hr]; exact List.mem_cons_self
    have hx2 : x ∈ pre ++ rest := List.mem_append_right _ hx
    cases ho : l.foldl (stepN lo) none with
    | none => exact absurd ((hg x hx2).mpr hx) ((f2 ho).2 x ((hmem x).mpr hx2))
    | some m =>
      obtain ⟨j1, j2, -⟩ := f1 m ho
      rcases j1 with j1 | j1
      · cases j1
      · have hm := (hg m ((hmem m).mp j1.1)).mp j1.2
        have hn2 := j2 x ((hmem x).mpr hx2) ((hg x hx2).mpr hx)
        rw [hr] at hm
        rcases List.mem_cons.mp hm with e | e
        · rw [e]
        · rw [hr, List.pairwise_append] at hlt
          exact absurd ((List.pairwise_cons.mp hlt.2.1).1 m e) hn2
theorem cat.nod {as : List Int32} {p : Nat} {v : Int} {s : List Int32} {l : List Mb} (h : cat as p (6, v, s, ofL l)) : nod l := by
  have := h.2.1.2.2.2.2.1 rfl
  rw [toL_ofL] at this
  exact this
theorem nameAfter_val {as : List Int32} {p : Nat} {v : Int} {s : List Int32} {l pre rest : List Mb} {last : Int32} {lo : Option Mb} (h : cat as p (6, v, s, ofL l)) (hs : srt l = pre ++ rest) (hb : befo pre lo) (hlo : isP as last lo) : ∃ res, r_nameAfter as (Int32.ofNat p) last = some res ∧ isP as res rest.head? := by
  obtain ⟨h1, h2, r, h3⟩ := id h
  obtain ⟨n1, n2⟩ := rnext_at h1 (cV_h h2.1) h3
  obtain ⟨c1, c2⟩ := cbox_in (Or.inr rfl) h3
  have e6 : (6 == 6) = true := rfl
  rw [e6] at c1 c2
  have hbl := blks_len true l
  have hf := flat2 _ (blks_h (b := true) h2.kids)
  simp only [if_true] at hbl
  have := nameAfter_l h1 n1 (by omega) hlo l 10000 (p + 2) (-1) none h2.kids c1 (by omega) (by omega) rfl
  rw [fold_head h.nod hs hb] at this
  unfold r_nameAfter
  rw [show Int32.ofNat p + 2 = Int32.ofNat (p + 2) from (Int32.ofNat_add p 2).symm]
  exact this
theorem befo_nil : befo [] none := Or.inl ⟨rfl, rfl⟩
theorem befo_snoc (pre : List Mb) (x : Mb) : befo (pre ++ [x]) (some x) := Or.inr ⟨pre, x, rfl, rfl⟩
/-- the values, in the order of names -/
theorem robj2_l {as bs : List Int32} {p q : Nat} {v v' : Int} {s s' : List Int32} {l l' : List Mb} {R : Vl → Vl → Int32} {rec : Int32 → Int32 → Option Int32} {l5 : Int32} (h : cat as p (6, v, s, ofL l)) (h' : cat bs q (6, v', s', ofL l')) (hrec : ∀ m ∈ l, ∀ m' ∈ l', ∀ (p q : Nat), cat as p m.2 → cat bs q m'.2 → ∃ e, rec (Int32.ofNat p) (Int32.ofNat q) = some e ∧ e = R m.2 m'.2) : ∀ (La Lb pa pb : List Mb) (n : Nat) (l4 : Int32), srt l = pa ++ La → srt l' = pb ++ Lb → nms La = nms Lb → isP as l4 La.head? → La.length < n → ∃ e, r_objects_l105 as bs rec n (Int32.ofNat p) (Int32.ofNat q) l4 l5 = some e ∧ e = arrK R La Lb := by
  intro La
  induction La with
  | nil =>
    intro Lb pa pb n l4 hs hs' hn hP hl
    obtain ⟨n, rfl⟩ : ∃ j, n = j + 1 := ⟨n - 1, by omega⟩
    have : Lb = [] := by
      cases Lb with
      | nil => rfl
      | cons m' Lb => cases hn
    subst this
    refine ⟨0, ?_, rfl⟩
    unfold r_objects_l105
    rw [if_pos (show l4 = -1 from hP)]
  | cons m La ih =>
    intro Lb pa pb n l4 hs hs' hn hP hl
    obtain ⟨n, rfl⟩ : ∃ j, n = j + 1 := ⟨n - 1, by omega⟩
    cases Lb with
    | nil => cases hn
    | cons m' Lb =>
      unfold nms at hn
      rw [List.map_cons, List.map_cons, List.cons.injEq] at hn
      obtain ⟨hn1, hn2⟩ := hn
      have hP' : isP as l4 (some m) := hP
      obtain ⟨x, ex, hx⟩ := id hP'
      obtain ⟨v1, v2, v3⟩ := hx.val
      have hm : m ∈ l := (srt_perm l).mem_iff.mp (by rw [hs]; simp)
      have hm' : m' ∈ l' := (srt_perm l').mem_iff.mp (by rw [hs']; simp)
      obtain ⟨-, -, -, r2, hx4⟩ := id hx
      have hj : l'.findIdx (fun y => y.1 == m.1) < l'.length := List.findIdx_lt_length_of_exists ⟨m', hm', by rw [hn1]; exact beq_self_eq_true _⟩
      obtain ⟨b, b1, b2⟩ := (h'.by hx.1 hx4).1 hj
      have em : l'[l'.findIdx (fun y => y.1 == m.1)] = m' := by
        refine h'.nod.eq (List.getElem_mem hj) hm' ?_
        have := List.findIdx_getElem (w := hj)
        rw [← hn1]
        exact eq_of_beq this
      rw [em] at b2
      obtain ⟨e, e1, e2⟩ := hrec m hm m' hm' _ _ v2 b2
      have step : r_objects_l105 as bs rec (n + 1) (Int32.ofNat p) (Int32.ofNat q) l4 l5 = if e = 0 then ((r_nameAfter as (Int32.ofNat p) l4).bind fun r6 => r_objects_l105 as bs rec n (Int32.ofNat p) (Int32.ofNat q) r6 l5) else some e := by
        show (if l4 = (-1 : Int32) then _ else _) = _
        rw [if_neg hP'.ne, ex, v1, o_bind, b1, o_bind, e1, o_bind]
      rw [step]
      by_cases he : e = 0
      · rw [if_pos he]
        obtain ⟨res, k1, k2⟩ := nameAfter_val h (pre := pa ++ [m]) (rest := La) (by rw [hs]; simp) (befo_snoc pa m) hP'
        obtain ⟨e', j1, j2⟩ := ih Lb (pa ++ [m]) (pb ++ [m']) n res (by rw [hs]; simp) (by rw [hs']; simp) hn2 k2 (by simp only [List.length_cons] at hl; omega)
        refine ⟨e', by rw [k1, o_bind]; exact j1, ?_⟩
        show e' = if R m.2 m'.2 = 0 then arrK R La Lb else R m.2 m'.2
        rw [← e2, if_pos he]
        exact j2
      · rw [if_neg he]
        refine ⟨e, rfl, ?_⟩
        show e = if R m.2 m'.2 = 0 then arrK R La Lb else R m.2 m'.2
        rw [← e2, if_neg he]
/-- the names first -/
theorem robj1_l {as bs : List Int32} {p q : Nat} {v v' : Int} {s s' : List Int32} {l l' : List Mb} {R : Vl → Vl → Int32} {rec : Int32 → Int32 → Option Int32} (h : cat as p (6, v, s, ofL l)) (h' : cat bs q (6, v', s', ofL l')) (hl1 : l.length < 10000) (hrec : ∀ m ∈ l, ∀ m' ∈ l', ∀ (p q : Nat), cat as p m.2 → cat bs q m'.2 → ∃ e, rec (Int32.ofNat p) (Int32.ofNat q) = some e ∧ e = R m.2 m'.2) : ∀ (La Lb pa pb : List Mb) (n : Nat) (l4 l5 : Int32), srt l = pa ++ La → srt l' = pb ++ Lb → nms pa = nms pb → isP as l4 La.head? → isP bs l5 Lb.head? → La.length < n → ∃ e, r_objects_l16 as bs rec n (Int32.ofNat p) (Int32.ofNat q) l4 l5 = some e ∧ (e = if namK (nms La) (nms Lb) = 0 then arrK R (srt l) (srt l') else namK (nms La) (nms Lb)) := by
  intro La
  induction La with
  | nil =>
    intro Lb pa pb n l4 l5 hs hs' hn hP hP' hl
    obtain ⟨n, rfl⟩ : ∃ j, n = j + 1 := ⟨n - 1, by omega⟩
    have h4 : l4 = -1 := hP
    cases Lb with
    | nil =>
      have h5 : l5 = -1 := hP'
      rw [List.append_nil] at hs hs'
      obtain ⟨res, k1, k2⟩ := nameAfter_val h (pre := []) (rest := srt l) (by simp) befo_nil (last := -1) rfl
      obtain ⟨e, j1, j2⟩ := robj2_l (R := R) (l5 := l5) h h' hrec (srt l) (srt l') [] [] 10000 res (by simp) (by simp) (by rw [hs, hs']; exact hn) k2 (by rw [srt_len]; exact hl1)
      refine ⟨e, ?_, by rw [j2, if_pos (show namK (nms []) (nms []) = 0 from rfl)]⟩
      unfold r_objects_l16
      rw [if_pos h4, if_pos (by rw [h4, h5]), k1, o_bind]
      exact j1
    | cons m' Lb =>
      refine ⟨-1, ?_, (show (-1 : Int32) = if (-1 : Int32) = 0 then _ else -1 by rw [if_neg (by decide)])⟩
      have hP2 : isP bs l5 (some m') := hP'
      unfold r_objects_l16
      rw [if_pos h4, if_neg (fun c => hP2.ne (by rw [← c]; exact h4))]
  | cons m La ih =>
    intro Lb pa pb n l4 l5 hs hs' hn hP hP' hl
    obtain ⟨n, rfl⟩ : ∃ j, n = j + 1 := ⟨n - 1, by omega⟩
    have hP1 : isP as l4 (some m) := hP
    cases Lb with
    | nil =>
      have h5 : l5 = -1 := hP'
      refine ⟨1, ?_, (show (1 : Int32) = if (1 : Int32) = 0 then _ else 1 by rw [if_neg (by decide)])⟩
      unfold r_objects_l16
      rw [if_neg hP1.ne, if_pos h5, if_neg (fun c => hP1.ne (by rw [c]; exact h5))]
    | cons m' Lb =>
      have hP2 : isP bs l5 (some m') := hP'
      obtain ⟨x, ex, hx⟩ := id hP1
      obtain ⟨x', ex', hx'⟩ := id hP2
      obtain ⟨a1, -, -, r2, hx4⟩ := id hx
      obtain ⟨b1, -, -, r2', hx4'⟩ := id hx'
      have hst : r_strings as bs l4 l5 = some (cmpS m.1 m'.1) := by rw [ex, ex']; exact rstr_val a1 b1 hx4 hx4'
      have step : r_objects_l16 as bs rec (n + 1) (Int32.ofNat p) (Int32.ofNat q) l4 l5 = if cmpS m.1 m'.1 = 0 then ((r_nameAfter as (Int32.ofNat p) l4).bind fun r15 => ((r_nameAfter bs (Int32.ofNat q) l5).bind fun r16 => r_objects_l16 as bs rec n (Int32.ofNat p) (Int32.ofNat q) r15 r16)) else some (cmpS m.1 m'.1) := by
        show (if l4 = (-1 : Int32) then _ else if l5 = (-1 : Int32) then _ else _) = _
        rw [if_neg hP1.ne, if_neg hP2.ne, hst, o_bind]
      have hd : namK (nms (m :: La)) (nms (m' :: Lb)) = if cmpS m.1 m'.1 = 0 then namK (nms La) (nms Lb) else cmpS m.1 m'.1 := rfl
      rw [step]
      by_cases hc : cmpS m.1 m'.1 = 0
      · rw [if_pos hc]
        have hmm := (cmpS_0 _ _).mp hc
        obtain ⟨res, k1, k2⟩ := nameAfter_val h (pre := pa ++ [m]) (rest := La) (by rw [hs]; simp) (befo_snoc pa m) hP1
        obtain ⟨res', k1', k2'⟩ := nameAfter_val h' (pre := pb ++ [m']) (rest := Lb) (by rw [hs']; simp) (befo_snoc pb m') hP2
        obtain ⟨e, j1, j2⟩ := ih Lb (pa ++ [m]) (pb ++ [m']) n res res' (by rw [hs]; simp) (by rw [hs']; simp) (by
          unfold nms at hn ⊢
          rw [List.map_append, List.map_append, hn]
          simp [hmm]) k2 k2' (by simp only [List.length_cons] at hl; omega)
        refine ⟨e, by rw [k1, o_bind, k1', o_bind]; exact j1, ?_⟩
        rw [j2, hd, if_pos hc]
      · rw [if_neg hc]
        exact ⟨_, rfl, by rw [hd, if_neg hc, if_neg hc]⟩
/-- arrays -/
theorem rarr_l {as bs r r' : List Int32} {p q : Int32} {ea eb : Nat} {R : Vl → Vl → Int32} {rec : Int32 → Int32 → Option Int32} (ha : as.length ≤ 9000) (hb : bs.length ≤ 9000) (hna : r_next as p = some (Int32.ofNat ea)) (hnb : r_next bs q = some (Int32.ofNat eb)) (hea : ea ≤ 9000) (heb : eb ≤ 9000) : ∀ (la lb : List Mb) (n x y : Nat), okL la → okL lb → as.drop x = (blks false la).flatten ++ r → bs.drop y = (blks false lb).flatten ++ r' → x + (blks false la).flatten.length = ea → y + (blks false lb).flatten.length = eb → la.length < n → (∀ m ∈ la, ∀ m' ∈ lb, ∀ (p q : Nat), cat as p m.2 → cat bs q m'.2 → ∃ e, rec (Int32.ofNat p) (Int32.ofNat q) = some e ∧ e = R m.2 m'.2) → ∃ e, r_arrays_l as bs rec n p q (Int32.ofNat x) (Int32.ofNat y) = some e ∧ e = arrK R la lb := by
  intro la
  induction la with
  | nil =>
    intro lb n x y _ hwb dx dy hx hy hn _
    obtain ⟨n, rfl⟩ : ∃ j, n = j + 1 := ⟨n - 1, by omega⟩
    have : (blks false []).flatten.length = 0 := rfl
    cases lb with
    | nil =>
      refine ⟨0, ?_, rfl⟩
      unfold r_arrays_l
      rw [hna, o_bind, if_pos ((i_le' (by omega) (by omega)).mpr (by omega)), hnb, o_bind, if_pos ((i_le' (by omega) (by omega)).mpr (by omega))]
    | cons m' lb =>
      have e2 : blks false (m' :: lb) = cV m'.2 :: blks false lb := rfl
      rw [e2] at dy hy
      have hh : ∀ z ∈ cV m'.2 :: blks false lb, hdd z := by rw [← e2]; exact blks_h hwb
      obtain ⟨s1, s2, s3, s4⟩ := blk_step hb hh dy
      rw [List.flatten_cons, List.length_append] at hy
      refine ⟨-1, ?_, rfl⟩
      unfold r_arrays_l
      rw [hna, o_bind, if_pos ((i_le' (by omega) (by omega)).mpr (by omega)), hnb, o_bind, if_neg (by rw [i_le' (by omega) (by omega)]; omega)]
  | cons m la ih =>
    intro lb n x y hwa hwb dx dy hx hy hn hrec
    obtain ⟨n, rfl⟩ : ∃ j, n = j + 1 := ⟨n - 1, by omega⟩
    have e1 : blks false (m :: la) = cV m.2 :: blks false la := rfl
    rw [e1] at dx hx
    have hh : ∀ z ∈ cV m.2 :: blks false la, hdd z := by rw [← e1]; exact blks_h hwa
    obtain ⟨s1, s2, s3, s4⟩ := blk_step ha hh dx
    rw [List.flatten_cons, List.length_append] at hx
    rw [List.flatten_cons, List.append_assoc] at dx
    cases lb with
    | nil =>
      have : (blks false []).flatten.length = 0 := rfl
      refine ⟨1, ?_, rfl⟩
      unfold r_arrays_l
      rw [hna, o_bind, if_neg (by rw [i_le' (by omega) (by omega)]; omega), hnb, o_bind, if_pos ((i_le' (by omega) (by omega)).mpr (by omega))]
    | cons m' lb =>
      have e2 : blks false (m' :: lb) = cV m'.2 :: blks false lb := rfl
      rw [e2] at dy hy
      have hh' : ∀ z ∈ cV m'.2 :: blks false lb, hdd z := by rw [← e2]; exact blks_h hwb
      obtain ⟨u1, u2, u3, u4⟩ := blk_step hb hh' dy
      rw [List.flatten_cons, List.length_append] at hy
      rw [List.flatten_cons, List.append_assoc] at dy
      obtain ⟨e, r1, r2⟩ := hrec m List.mem_cons_self m' List.mem_cons_self x y ⟨ha, (hwa m List.mem_cons_self).2, _, dx⟩ ⟨hb, (hwb m' List.mem_cons_self).2, _, dy⟩
      have step : r_arrays_l as bs rec (n + 1) p q (Int32.ofNat x) (Int32.ofNat y) = if e = 0 then r_arrays_l as bs rec n p q (Int32.ofNat (x + (cV m.2).length)) (Int32.ofNat (y + (cV m'.2).length)) else some e := by
        show ((r_next as p).bind fun r1 => _) = _
        rw [hna, o_bind, if_neg (by rw [i_le' (by omega) (by omega)]; omega), hnb, o_bind, if_neg (by rw [i_le' (by omega) (by omega)]; omega), r1, o_bind, s1, o_bind, u1, o_bind]
      rw [step]
      by_cases he : e = 0
      · rw [if_pos he]
        obtain ⟨e', j1, j2⟩ := ih lb n _ _ hwa.tail hwb.tail s2 u2 (by omega) (by omega) (by simp only [List.length_cons] at hn; omega) (fun a ha' b hb' => hrec a (List.mem_cons_of_mem _ ha') b (List.mem_cons_of_mem _ hb'))
        refine ⟨e', j1, ?_⟩
        show e' = if R m.2 m'.2 = 0 then arrK R la lb else R m.2 m'.2
        rw [← r2, if_pos he]
        exact j2
      · rw [if_neg he]
        refine ⟨e, rfl, ?_⟩
        show e = if R m.2 m'.2 = 0 then arrK R la lb else R m.2 m'.2
        rw [← r2, if_neg he]
/-- the reference compares values -/
theorem rcmp_val : ∀ (n N : Nat), n ≤ N → ∀ (as bs : List Int32) (p q : Nat) (t u : Vl), cat as p t → cat bs q u → dV t < n → ∃ e, r_cmp as bs N (Int32.ofNat p) (Int32.ofNat q) = some e ∧ e = cmpK n t u := by
  intro n
  induction n with
  | zero => intro N _ as bs p q t u _ _ h; omega
  | succ n ih =>
    intro N hN as bs p q t u hp hq hd
    obtain ⟨N, rfl⟩ : ∃ j, N = j + 1 := ⟨N - 1, by omega⟩
    have k6 := hp.2.1.1
    have k6' := hq.2.1.1
    show ∃ e, r_compareB as bs (r_cmp as bs N) (Int32.ofNat p) (Int32.ofNat q) = some e ∧ _
    unfold r_compareB
    rw [hp.kind, o_bind, hq.kind, o_bind]
    by_cases hk : t.1 = u.1
    · rw [if_pos (by rw [hk])]
      obtain ⟨k, v, s, f⟩ := t
      obtain ⟨k', v', s', f'⟩ := u
      obtain ⟨l, rfl⟩ : ∃ l, f = ofL l := ⟨toL f, (ofL_toL f).symm⟩
      obtain ⟨l', rfl⟩ : ∃ l, f' = ofL l := ⟨toL f', (ofL_toL f').symm⟩
      simp only at hk k6 k6'
      subst hk
      show ∃ e, (if Int32.ofNat k = (3 : Int32) then _ else if Int32.ofNat k = (4 : Int32) then _ else if Int32.ofNat k = (5 : Int32) then _ else if Int32.ofNat k = (6 : Int32) then _ else _) = some e ∧ _
      have ek : ∀ j, j < 10 → (Int32.ofNat k = Int32.ofNat j ↔ k = j) := fun j hj => i_inj (by omega) (by omega)
      have es : cmpK (n + 1) (k, v, s, ofL l) (k, v', s', ofL l') = (if k = 3 then l_cmp (Int64.ofInt v) (Int64.ofInt v') else if k = 4 then cmpS s s' else if k = 5 then arrK (cmpK n) l l' else if k = 6 then (if namK (nms (srt l)) (nms (srt l')) = 0 then arrK (cmpK n) (srt l) (srt l') else namK (nms (srt l)) (nms (srt l'))) else 0) := by
        show (if k = k then _ else _) = _
        rw [if_pos rfl]
        simp only [toL_ofL]
      obtain ⟨r, d1⟩ := hp.2.2
      obtain ⟨r', d2⟩ := hq.2.2
      by_cases e3 : k = 3
      · subst e3
        rw [if_pos (show Int32.ofNat 3 = 3 from rfl), hp.number, o_bind, hq.number, o_bind]
        refine ⟨_, rfl, ?_⟩
        rw [es, if_pos rfl]
      rw [if_neg (show ¬ Int32.ofNat k = 3 from fun c => e3 ((ek 3 (by omega)).mp c))]
      by_cases e4 : k = 4
      · subst e4
        rw [if_pos (show Int32.ofNat 4 = 4 from rfl), rstr_val (s := s) (s' := s') (r := r) (r' := r') hp.1 hq.1 d1 d2, o_bind]
        refine ⟨_, rfl, ?_⟩
        rw [es, if_neg (by decide), if_pos rfl]
      rw [if_neg (show ¬ Int32.ofNat k = 4 from fun c => e4 ((ek 4 (by omega)).mp c))]
      by_cases e5 : k = 5
      · subst e5
        obtain ⟨c1, c2⟩ := cbox_in (Or.inl rfl) d1
        obtain ⟨c1', c2'⟩ := cbox_in (Or.inl rfl) d2
        have e6 : (5 == 6) = false := rfl
        rw [e6] at c1 c2 c1' c2'
        obtain ⟨n1, n2, n3⟩ := hp.next
        obtain ⟨n1', n2', n3'⟩ := hq.next
        have hl := hp.1
        have hl' := hq.1
        have hbl := blks_len false l
        have hf := flat2 _ (blks_h (b := false) hp.2.1.kids)
        simp only [Bool.false_eq_true, if_false] at hbl
        obtain ⟨e, j1, j2⟩ := rarr_l (R := cmpK n) (rec := r_cmp as bs N) hp.1 hq.1 n1 n1' (by omega) (by omega) l l' 10000 (p + 2) (q + 2) hp.2.1.kids hq.2.1.kids c1 c1' (by omega) (by omega) (by omega) (fun m hm m' hm' p q hp' hq' => by
          have x1 := dV_kid (k := 5) (v := v) (s := s) (Or.inl rfl) hm
          exact ih N (by omega) as bs p q m.2 m'.2 hp' hq' (by omega))
        refine ⟨e, ?_, ?_⟩
        · rw [if_pos (show Int32.ofNat 5 = 5 from rfl)]
          unfold r_arrays
          rw [show Int32.ofNat p + 2 = Int32.ofNat (p + 2) from (Int32.ofNat_add p 2).symm, show Int32.ofNat q + 2 = Int32.ofNat (q + 2) from (Int32.ofNat_add q 2).symm, j1, o_bind]
        · rw [es, if_neg (by decide), if_neg (by decide), if_pos rfl]
          exact j2
      rw [if_neg (show ¬ Int32.ofNat k = 5 from fun c => e5 ((ek 5 (by omega)).mp c))]
      by_cases e6 : k = 6
      · subst e6
        have hl : l.length < 10000 := by
          obtain ⟨c1, c2⟩ := cbox_in (Or.inr rfl) d1
          have e6 : (6 == 6) = true := rfl
          rw [e6] at c1 c2
          obtain ⟨n1, n2, n3⟩ := hp.next
          have hl := hp.1
          have hbl := blks_len true l
          have hf := flat2 _ (blks_h (b := true) hp.2.1.kids)
          simp only [if_true] at hbl
          omega
        obtain ⟨res, k1, k2⟩ := nameAfter_val hp (pre := []) (rest := srt l) (by simp) befo_nil (last := -1) rfl
        obtain ⟨res', k1', k2'⟩ := nameAfter_val hq (pre := []) (rest := srt l') (by simp) befo_nil (last := -1) rfl
        obtain ⟨e, j1, j2⟩ := robj1_l (R := cmpK n) (rec := r_cmp as bs N) hp hq hl (fun m hm m' hm' p q hp' hq' => by
          have x1 := dV_kid (k := 6) (v := v) (s := s) (Or.inr rfl) hm
          exact ih N (by omega) as bs p q m.2 m'.2 hp' hq' (by omega)) (srt l) (srt l') [] [] 10000 res res' (by simp) (by simp) rfl k2 k2' (by rw [srt_len]; exact hl)
        refine ⟨e, ?_, ?_⟩
        · rw [if_pos (show Int32.ofNat 6 = 6 from rfl)]
          unfold r_objects
          rw [k1, o_bind, k1', o_bind, j1, o_bind]
        · rw [es, if_neg (by decide), if_neg (by decide), if_neg (by decide), if_pos rfl]
          exact j2
      rw [if_neg (show ¬ Int32.ofNat k = 6 from fun c => e6 ((ek 6 (by omega)).mp c))]
      refine ⟨0, rfl, ?_⟩
      rw [es, if_neg e3, if_neg e4, if_neg e5, if_neg e6]
    · rw [if_neg (by rw [i_inj (by omega) (by omega)]; exact hk)]
      by_cases hc : Int32.ofNat u.1 ≤ Int32.ofNat t.1
      · rw [if_pos hc]
        refine ⟨1, rfl, ?_⟩
        show _ = (if t.1 = u.1 then _ else if u.1 ≤ t.1 then 1 else -1)
        rw [if_neg hk, if_pos ((i_le' (by omega) (by omega)).mp hc)]
      · rw [if_neg hc]
        refine ⟨-1, rfl, ?_⟩
        show _ = (if t.1 = u.1 then _ else if u.1 ≤ t.1 then 1 else -1)
        rw [if_neg hk, if_neg (fun c => hc ((i_le' (by omega) (by omega)).mpr c))]
end Same152
