section
/-! The reference compares values. -/
section Same152
/-- a member at its place -/
def atM (as : List Int32) (x : Nat) (m : Mb) : Prop := as.length ≤ 9000 ∧ okS m.1 ∧ wV m.2 ∧ ∃ r, as.drop x = cstr m.1 ++ (cV m.2 ++ r)
theorem atM.val {as : List Int32} {x : Nat} {m : Mb} (h : atM as x m) : r_next as (Int32.ofNat x) = some (Int32.ofNat (x + (cstr m.1).length)) ∧ cat as (x + (cstr m.1).length) m.2 ∧ x < 9000 := by
  obtain ⟨h1, h2, h3, r, h4⟩ := h
  obtain ⟨n1, n2⟩ := rnext_at h1 (cstr_hdd m.1) h4
  have := (cstr_hdd m.1).len
  exact ⟨n1, ⟨h1, h3, r, drop_more h4⟩, by omega⟩
def isP (as : List Int32) (v : Int32) : Option Mb → Prop
  | none => v = -1
  | some m => ∃ x, v = Int32.ofNat x ∧ atM as x m
theorem isP.ne {as : List Int32} {v : Int32} {m : Mb} (h : isP as v (some m)) : ¬ v = -1 := by
  obtain ⟨x, e, h⟩ := h
  rw [e]
  have := h.val.2.2
  exact i_ne1 (by omega)
def gtN (lo : Option Mb) (m : Mb) : Bool := match lo with
  | none => true
  | some y => decide (0 < cmpS m.1 y.1)
def ltN (b : Option Mb) (m : Mb) : Bool := match b with
  | none => true
  | some y => decide (¬ 0 ≤ cmpS m.1 y.1)
def stepN (lo b : Option Mb) (m : Mb) : Option Mb := if gtN lo m = true ∧ ltN b m = true then some m else b
theorem gtN_iff (y m : Mb) : gtN (some y) m = true ↔ ltS y.1 m.1 := by
  show decide (0 < cmpS m.1 y.1) = true ↔ _
  rw [decide_eq_true_eq, cmpS_gt]
theorem ltN_iff (y m : Mb) : ltN (some y) m = true ↔ ltS m.1 y.1 := by
  show decide (¬ 0 ≤ cmpS m.1 y.1) = true ↔ _
  rw [decide_eq_true_eq, cmpS_ge]
  exact Classical.not_not
theorem nameAfter_l {as r : List Int32} {p : Int32} {e : Nat} {last : Int32} {lo : Option Mb} (ha : as.length ≤ 9000) (hn0 : r_next as p = some (Int32.ofNat e)) (he9 : e ≤ 9000) (hlo : isP as last lo) : ∀ (l : List Mb) (n q : Nat) (best : Int32) (bo : Option Mb), okL l → as.drop q = (blks true l).flatten ++ r → q + (blks true l).flatten.length = e → l.length < n → isP as best bo → ∃ res, r_nameAfter_l as n p last best (Int32.ofNat q) = some res ∧ isP as res (l.foldl (stepN lo) bo) := by
  intro l
  induction l with
  | nil =>
    intro n q best bo _ h he hn hb
    obtain ⟨n, rfl⟩ : ∃ j, n = j + 1 := ⟨n - 1, by omega⟩
    have : (blks true []).flatten.length = 0 := rfl
    refine ⟨best, ?_, hb⟩
    unfold r_nameAfter_l
    rw [hn0, o_bind, if_pos ((i_le' (by omega) (by omega)).mpr (by omega))]
  | cons m l ih =>
    intro n q best bo hw h he hn hb
    obtain ⟨n, rfl⟩ : ∃ j, n = j + 1 := ⟨n - 1, by omega⟩
    have eb : blks true (m :: l) = cstr m.1 :: cV m.2 :: blks true l := rfl
    rw [eb] at h he
    have hh : ∀ x ∈ cstr m.1 :: cV m.2 :: blks true l, hdd x := by rw [← eb]; exact blks_h hw
    obtain ⟨s1, s2, s3, s4⟩ := blk_step ha hh h
    obtain ⟨u1, u2, u3, u4⟩ := blk_step ha (fun x hx => hh x (List.mem_cons_of_mem _ hx)) s2
    rw [List.flatten_cons, List.length_append, List.flatten_cons, List.length_append] at he
    rw [List.flatten_cons, List.append_assoc, List.flatten_cons, List.append_assoc] at h
    have hm : atM as q m := ⟨ha, (hw m List.mem_cons_self).1, (hw m List.mem_cons_self).2, _, h⟩
    have cont : ∀ best' bo', isP as best' bo' → ∃ res, ((r_next as (Int32.ofNat q)).bind fun r5 => (r_next as r5).bind fun r6 => r_nameAfter_l as n p last best' r6) = some res ∧ isP as res (l.foldl (stepN lo) bo') := by
      intro best' bo' hb'
      rw [s1, o_bind, u1, o_bind]
      exact ih n _ best' bo' hw.tail u2 (by omega) (by simp only [List.length_cons] at hn; omega) hb'
    have take : ∃ res, ((r_next as (Int32.ofNat q)).bind fun r5 => (r_next as r5).bind fun r6 => r_nameAfter_l as n p last (Int32.ofNat q) r6) = some res ∧ isP as res (l.foldl (stepN lo) (some m)) := cont _ (some m) ⟨q, rfl, hm⟩
    have keep := cont best bo hb
    have est : (m :: l).foldl (stepN lo) bo = l.foldl (stepN lo) (stepN lo bo m) := rfl
    rw [est]
    have hgo : r_next as p = some (Int32.ofNat e) := hn0
    have hlt : ¬ Int32.ofNat e ≤ Int32.ofNat q := by rw [i_le' (by omega) (by omega)]; omega
    have str : ∀ (v : Int32) (y : Mb), isP as v (some y) → r_strings as as (Int32.ofNat q) v = some (cmpS m.1 y.1) := by
      intro v y hy
      obtain ⟨x, ex, hx⟩ := hy
      obtain ⟨-, -, -, r2, hx⟩ := hx
      rw [ex]
      exact rstr_val ha ha h hx
    have inner : gtN lo m = true → ∃ res, (if best = (-1 : Int32) then ((r_next as (Int32.ofNat q)).bind fun r5 => ((r_next as r5).bind fun r6 => r_nameAfter_l as n p last (Int32.ofNat q) r6)) else ((r_strings as as (Int32.ofNat q) best).bind fun r7 => (if 0 ≤ r7 then ((r_next as (Int32.ofNat q)).bind fun r9 => ((r_next as r9).bind fun r10 => r_nameAfter_l as n p last best r10)) else ((r_next as (Int32.ofNat q)).bind fun r11 => ((r_next as r11).bind fun r12 => r_nameAfter_l as n p last (Int32.ofNat q) r12))))) = some res ∧ isP as res (l.foldl (stepN lo) (stepN lo bo m)) := by
      intro hg
      cases bo with
      | none =>
        have e1 : stepN lo none m = some m := if_pos ⟨hg, rfl⟩
        rw [if_pos (show best = -1 from hb), e1]
        exact take
      | some y =>
        rw [if_neg hb.ne, str best y hb, o_bind]
        by_cases hc : 0 ≤ cmpS m.1 y.1
        · have e1 : stepN lo (some y) m = some y := if_neg (fun c => by
            have := (ltN_iff y m).mp c.2
            exact (cmpS_ge _ _).mp hc this)
          rw [if_pos hc, e1]
          exact keep
        · have e1 : stepN lo (some y) m = some m := if_pos ⟨hg, (ltN_iff y m).mpr (Classical.byContradiction fun c => hc ((cmpS_ge _ _).mpr c))⟩
          rw [if_neg hc, e1]
          exact take
    unfold r_nameAfter_l
    rw [hn0, o_bind, if_neg hlt]
    cases lo with
    | none =>
      rw [if_pos (show last = -1 from hlo)]
      exact inner rfl
    | some y =>
      rw [if_neg hlo.ne, str last y hlo, o_bind]
      by_cases hc : 0 < cmpS m.1 y.1
      · rw [if_pos hc]
        exact inner ((gtN_iff y m).mpr ((cmpS_gt _ _).mp hc))
      · have e1 : stepN (some y) bo m = bo := if_neg (fun c => hc ((cmpS_gt _ _).mpr ((gtN_iff y m).mp c.1)))
        rw [if_neg hc, e1]
        exact keep
/-- what it comes to -/
theorem fold_N {lo : Option Mb} : ∀ (l : List Mb) (bo : Option Mb), (∀ m, l.foldl (stepN lo) bo = some m → (bo = some m ∨ (m ∈ l ∧ gtN lo m = true)) ∧ (∀ m' ∈ l, gtN lo m' = true → ¬ ltS m'.1 m.1) ∧ (∀ y, bo = some y → ¬ ltS y.1 m.1)) ∧ (l.foldl (stepN lo) bo = none → bo = none ∧ ∀ m ∈ l, ¬ gtN lo m = true) := by
  intro l
  induction l with
  | nil =>
    intro bo
    refine ⟨fun m h => ⟨Or.inl h, fun m' h' => (by cases h'), fun y hy => ?_⟩, fun h => ⟨h, fun m h' => (by cases h')⟩⟩
    rw [show bo = some m from h] at hy
    cases hy
    exact ltS_irr _
  | cons a l ih =>
    intro bo
    have est : (a :: l).foldl (stepN lo) bo = l.foldl (stepN lo) (stepN lo bo a) := rfl
    rw [est]
    by_cases hc : gtN lo a = true ∧ ltN bo a = true
    · rw [show stepN lo bo a = some a from if_pos hc]
      obtain ⟨i1, i2⟩ := ih (some a)
      refine ⟨fun m h => ?_, fun h => absurd (i2 h).1 (by simp)⟩
      obtain ⟨j1, j2, j3⟩ := i1 m h
      have j4 := j3 a rfl
      refine ⟨Or.inr ?_, ?_, ?_⟩
      · rcases j1 with j1 | j1
        · cases j1
          exact ⟨List.mem_cons_self, hc.1⟩
        · exact ⟨List.mem_cons_of_mem _ j1.1, j1.2⟩
      · intro m' hm' hg
        rcases List.mem_cons.mp hm' with e | e
        · rw [e]; exact j4
        · exact j2 m' e hg
      · intro y hy hlt
        rw [hy] at hc
        exact j4 (ltS_trans ((ltN_iff y a).mp hc.2) hlt)
    · rw [show stepN lo bo a = bo from if_neg hc]
      obtain ⟨i1, i2⟩ := ih bo
      refine ⟨fun m h => ?_, fun h => ?_⟩
      · obtain ⟨j1, j2, j3⟩ := i1 m h
        refine ⟨?_, ?_, j3⟩
        · rcases j1 with j1 | j1
          · exact Or.inl j1
          · exact Or.inr ⟨List.mem_cons_of_mem _ j1.1, j1.2⟩
        · intro m' hm' hg
          rcases List.mem_cons.mp hm' with e | e
          · subst e
            cases bo with
            | none => exact absurd ⟨hg, rfl⟩ hc
            | some y =>
              have h1 : ¬ ltS m'.1 y.1 := fun c => hc ⟨hg, (ltN_iff y m').mpr c⟩
              exact not_lt_trans (j3 y rfl) h1
          · exact j2 m' e hg
      · obtain ⟨j1, j2⟩ := i2 h
        refine ⟨j1, fun m hm hg => ?_⟩
        rcases List.mem_cons.mp hm with e | e
        · subst e
          rw [j1] at hc
          exact hc ⟨hg, rfl⟩
        · exact j2 m e hg
/-- the place before a rest of the sorted members -/
def befo (pre : List Mb) (lo : Option Mb) : Prop := (pre = [] ∧ lo = none) ∨ ∃ pre' x, pre = pre' ++ [x] ∧ lo = some x
theorem fold_head {l pre rest : List Mb} {lo : Option Mb} (hn : nod l) (hs : srt l = pre ++ rest) (hb : befo pre lo) : l.foldl (stepN lo) none = rest.head? := by
  have hmem : ∀ m, m ∈ l ↔ m ∈ pre ++ rest := fun m => by rw [← hs]; exact (srt_perm l).mem_iff.symm
  have hlt := srt_lt hn
  rw [hs] at hlt
  have hg : ∀ m ∈ pre ++ rest, gtN lo m = true ↔ m ∈ rest := by
    intro m hm
    rcases hb with ⟨e1, e2⟩ | ⟨pre', x, e1, e2⟩
    · subst e1 e2
      exact ⟨fun _ => by simpa using hm, fun _ => rfl⟩
    · subst e1 e2
      rw [gtN_iff]
      rw [List.append_assoc, List.pairwise_append] at hlt
      obtain ⟨h1, h2, h3⟩ := hlt
      have h4 : (∀ a' ∈ rest, ltS x.1 a'.1) := (List.pairwise_cons.mp h2).1
      refine ⟨fun h => ?_, fun h => h4 m h⟩
      rw [List.append_assoc, List.mem_append, List.singleton_append, List.mem_cons] at hm
      rcases hm with e | e | e
      · exact absurd (ltS_trans h (h3 m e x (by simp))) (ltS_irr _)
      · rw [e] at h; exact absurd h (ltS_irr _)
      · exact e
  obtain ⟨f1, f2⟩ := fold_N (lo := lo) l none
  cases hr : rest with
  | nil =>
    show _ = none
    cases ho : l.foldl (stepN lo) none with
    | none => rfl
    | some m =>
      obtain ⟨j1, -, -⟩ := f1 m ho
      rcases j1 with j1 | j1
      · cases j1
      · have := (hg m ((hmem m).mp j1.1)).mp j1.2
        rw [hr] at this
        cases this
  | cons x rs =>
    show _ = some x
    have hx : x ∈ rest := by rw [hr]; exact List.mem_cons_self
    have hx2 : x ∈ pre ++ rest := List.mem_append_right _ hx
    cases ho : l.foldl (stepN lo) none with
    | none => exact absurd ((hg x hx2).mpr hx) ((f2 ho).2 x ((hmem x).mpr hx2))
    | some m =>
      obtain ⟨j1, j2, -⟩ := f1 m ho
      rcases j1 with j1 | j1
      · cases j1
      · have hm := (hg m ((hmem m).mp j1.1)).mp j1.2
        have hn2 := j2 x ((hmem x).mpr hx2) ((hg x hx2).mpr hx)
        rw [hr] at hm
        rcases List.mem_cons.mp hm with e | e
        · rw [e]
        · rw [hr, List.pairwise_append] at hlt
          exact absurd ((List.pairwise_cons.mp hlt.2.1).1 m e) hn2
theorem cat.nod {as : List Int32} {p : Nat} {v : Int} {s : List Int32} {l : List Mb} (h : cat as p (6, v, s, ofL l)) : nod l := by
  have := h.2.1.2.2.2.2.1 rfl
  rw [toL_ofL] at this
  exact this
theorem nameAfter_val {as : List Int32} {p : Nat} {v : Int} {s : List Int32} {l pre rest : List Mb} {last : Int32} {lo : Option Mb} (h : cat as p (6, v, s, ofL l)) (hs : srt l = pre ++ rest) (hb : befo pre lo) (hlo : isP as last lo) : ∃ res, r_nameAfter as (Int32.ofNat p) last = some res ∧ isP as res rest.head? := by
  obtain ⟨h1, h2, r, h3⟩ := id h
  obtain ⟨n1, n2⟩ := rnext_at h1 (cV_h h2.1) h3
  obtain ⟨c1, c2⟩ := cbox_in (Or.inr rfl) h3
  have e6 : (6 == 6) = true := rfl
  rw [e6] at c1 c2
  have hbl := blks_len true l
  have hf := flat2 _ (blks_h (b := true) h2.kids)
  simp only [if_true] at hbl
  have := nameAfter_l h1 n1 (by omega) hlo l 10000 (p + 2) (-1) none h2.kids c1 (by omega) (by omega) rfl
  rw [fold_head h.nod hs hb] at this
  unfold r_nameAfter
  rw [show Int32.ofNat p + 2 = Int32.ofNat (p + 2) from (Int32.ofNat_add p 2).symm]
  exact this
theorem befo_nil : befo [] none := Or.inl ⟨rfl, rfl⟩
theorem befo_snoc (pre : List Mb) (x : Mb) : befo (pre ++ [x]) (some x) := Or.inr ⟨pre, x, rfl, rfl⟩
/-- the values, in the order of names -/
theorem robj2_l {as bs : List Int32} {p q : Nat} {v v' : Int} {s s' : List Int32} {l l' : List Mb} {R : Vl → Vl → Int32} {rec : Int32 → Int32 → Option Int32} {l5 : Int32} (h : cat as p (6, v, s, ofL l)) (h' : cat bs q (6, v', s', ofL l')) (hrec : ∀ m ∈ l, ∀ m' ∈ l', ∀ (p q : Nat), cat as p m.2 → cat bs q m'.2 → ∃ e, rec (Int32.ofNat p) (Int32.ofNat q) = some e ∧ e = R m.2 m'.2) : ∀ (La Lb pa pb : List Mb) (n : Nat) (l4 : Int32), srt l = pa ++ La → srt l' = pb ++ Lb → nms La = nms Lb → isP as l4 La.head? → La.length < n → ∃ e, r_objects_l105 as bs rec n (Int32.ofNat p) (Int32.ofNat q) l4 l5 = some e ∧ e = arrK R La Lb := by
  intro La
  induction La with
  | nil =>
    intro Lb pa pb n l4 hs hs' hn hP hl
    obtain ⟨n, rfl⟩ : ∃ j, n = j + 1 := ⟨n - 1, by omega⟩
    have : Lb = [] := by
      cases Lb with
      | nil => rfl
      | cons m' Lb => cases hn
    subst this
    refine ⟨0, ?_, rfl⟩
    unfold r_objects_l105
    rw [if_pos (show l4 = -1 from hP)]
  | cons m La ih =>
    intro Lb pa pb n l4 hs hs' hn hP hl
    obtain ⟨n, rfl⟩ : ∃ j, n = j + 1 := ⟨n - 1, by omega⟩
    cases Lb with
    | nil => cases hn
    | cons m' Lb =>
      unfold nms at hn
      rw [List.map_cons, List.map_cons, List.cons.injEq] at hn
      obtain ⟨hn1, hn2⟩ := hn
      have hP' : isP as l4 (some m) := hP
      obtain ⟨x, ex, hx⟩ := id hP'
      obtain ⟨v1, v2, v3⟩ := hx.val
      have hm : m ∈ l := (srt_perm l).mem_iff.mp (by rw [hs]; simp)
      have hm' : m' ∈ l' := (srt_perm l').mem_iff.mp (by rw [hs']; simp)
      obtain ⟨-, -, -, r2, hx4⟩ := id hx
      have hj : l'.findIdx (fun y => y.1 == m.1) < l'.length := List.findIdx_lt_length_of_exists ⟨m', hm', by rw [hn1]; exact beq_self_eq_true _⟩
      obtain ⟨b, b1, b2⟩ := (h'.by hx.1 hx4).1 hj
      have em : l'[l'.findIdx (fun y => y.1 == m.1)] = m' := by
        refine h'.nod.eq (List.getElem_mem hj) hm' ?_
        have := List.findIdx_getElem (w := hj)
        rw [← hn1]
        exact eq_of_beq this
      rw [em] at b2
      obtain ⟨e, e1, e2⟩ := hrec m hm m' hm' _ _ v2 b2
      have step : r_objects_l105 as bs rec (n + 1) (Int32.ofNat p) (Int32.ofNat q) l4 l5 = if e = 0 then ((r_nameAfter as (Int32.ofNat p) l4).bind fun r6 => r_objects_l105 as bs rec n (Int32.ofNat p) (Int32.ofNat q) r6 l5) else some e := by
        show (if l4 = (-1 : Int32) then _ else _) = _
        rw [if_neg hP'.ne, ex, v1, o_bind, b1, o_bind, e1, o_bind]
      rw [step]
      by_cases he : e = 0
      · rw [if_pos he]
        obtain ⟨res, k1, k2⟩ := nameAfter_val h (pre := pa ++ [m]) (rest := La) (by rw [hs]; simp) (befo_snoc pa m) hP'
        obtain ⟨e', j1, j2⟩ := ih Lb (pa ++ [m]) (pb ++ [m']) n res (by rw [hs]; simp) (by rw [hs']; simp) hn2 k2 (by simp only [List.length_cons] at hl; omega)
        refine ⟨e', by rw [k1, o_bind]; exact j1, ?_⟩
        show e' = if R m.2 m'.2 = 0 then arrK R La Lb else R m.2 m'.2
        rw [← e2, if_pos he]
        exact j2
      · rw [if_neg he]
        refine ⟨e, rfl, ?_⟩
        show e = if R m.2 m'.2 = 0 then arrK R La Lb else R m.2 m'.2
        rw [← e2, if_neg he]
/-- the names first -/
theorem robj1_l {as bs : List Int32} {p q : Nat} {v v' : Int} {s s' : List Int32} {l l' : List Mb} {R : Vl → Vl → Int32} {rec : Int32 → Int32 → Option Int32} (h : cat as p (6, v, s, ofL l)) (h' : cat bs q (6, v', s', ofL l')) (hl1 : l.length < 10000) (hrec : ∀ m ∈ l, ∀ m' ∈ l', ∀ (p q : Nat), cat as p m.2 → cat bs q m'.2 → ∃ e, rec (Int32.ofNat p) (Int32.ofNat q) = some e ∧ e = R m.2 m'.2) : ∀ (La Lb pa pb : List Mb) (n : Nat) (l4 l5 : Int32), srt l = pa ++ La → srt l' = pb ++ Lb → nms pa = nms pb → isP as l4 La.head? → isP bs l5 Lb.head? → La.length < n → ∃ e, r_objects_l16 as bs rec n (Int32.ofNat p) (Int32.ofNat q) l4 l5 = some e ∧ (e = if namK (nms La) (nms Lb) = 0 then arrK R (srt l) (srt l') else namK (nms La) (nms Lb)) := by
  intro La
  induction La with
  | nil =>
    intro Lb pa pb n l4 l5 hs hs' hn hP hP' hl
    obtain ⟨n, rfl⟩ : ∃ j, n = j + 1 := ⟨n - 1, by omega⟩
    have h4 : l4 = -1 := hP
    cases Lb with
    | nil =>
      have h5 : l5 = -1 := hP'
      rw [List.append_nil] at hs hs'
      obtain ⟨res, k1, k2⟩ := nameAfter_val h (pre := []) (rest := srt l) (by simp) befo_nil (last := -1) rfl
      obtain ⟨e, j1, j2⟩ := robj2_l (R := R) (l5 := l5) h h' hrec (srt l) (srt l') [] [] 10000 res (by simp) (by simp) (by rw [hs, hs']; exact hn) k2 (by rw [srt_len]; exact hl1)
      refine ⟨e, ?_, by rw [j2, if_pos (show namK (nms []) (nms []) = 0 from rfl)]⟩
      unfold r_objects_l16
      rw [if_pos h4, if_pos (by rw [h4, h5]), k1, o_bind]
      exact j1
    | cons m' Lb =>
      refine ⟨-1, ?_, (show (-1 : Int32) = if (-1 : Int32) = 0 then _ else -1 by rw [if_neg (by decide)])⟩
      have hP2 : isP bs l5 (some m') := hP'
      unfold r_objects_l16
      rw [if_pos h4, if_neg (fun c => hP2.ne (by rw [← c]; exact h4))]
  | cons m La ih =>
    intro Lb pa pb n l4 l5 hs hs' hn hP hP' hl
    obtain ⟨n, rfl⟩ : ∃ j, n = j + 1 := ⟨n - 1, by omega⟩
    have hP1 : isP as l4 (some m) := hP
    cases Lb with
    | nil =>
      have h5 : l5 = -1 := hP'
      refine ⟨1, ?_, (show (1 : Int32) = if (1 : Int32) = 0 then _ else 1 by rw [if_neg (by decide)])⟩
      unfold r_objects_l16
      rw [if_neg hP1.ne, if_pos h5, if_neg (fun c => hP1.ne (by rw [c]; exact h5))]
    | cons m' Lb =>
      have hP2 : isP bs l5 (some m') := hP'
      obtain ⟨x, ex, hx⟩ := id hP1
      obtain ⟨x', ex', hx'⟩ := id hP2
      obtain ⟨a1, -, -, r2, hx4⟩ := id hx
      obtain ⟨b1, -, -, r2', hx4'⟩ := id hx'
      have hst : r_strings as bs l4 l5 = some (cmpS m.1 m'.1) := by rw [ex, ex']; exact rstr_val a1 b1 hx4 hx4'
      have step : r_objects_l16 as bs rec (n + 1) (Int32.ofNat p) (Int32.ofNat q) l4 l5 = if cmpS m.1 m'.1 = 0 then ((r_nameAfter as (Int32.ofNat p) l4).bind fun r15 => ((r_nameAfter bs (Int32.ofNat q) l5).bind fun r16 => r_objects_l16 as bs rec n (Int32.ofNat p) (Int32.ofNat q) r15 r16)) else some (cmpS m.1 m'.1) := by
        show (if l4 = (-1 : Int32) then _ else if l5 = (-1 : Int32) then _ else _) = _
        rw [if_neg hP1.ne, if_neg hP2.ne, hst, o_bind]
      have hd : namK (nms (m :: La)) (nms (m' :: Lb)) = if cmpS m.1 m'.1 = 0 then namK (nms La) (nms Lb) else cmpS m.1 m'.1 := rfl
      rw [step]
      by_cases hc : cmpS m.1 m'.1 = 0
      · rw [if_pos hc]
        have hmm := (cmpS_0 _ _).mp hc
        obtain ⟨res, k1, k2⟩ := nameAfter_val h (pre := pa ++ [m]) (rest := La) (by rw [hs]; simp) (befo_snoc pa m) hP1
        obtain ⟨res', k1', k2'⟩ := nameAfter_val h' (pre := pb ++ [m']) (rest := Lb) (by rw [hs']; simp) (befo_snoc pb m') hP2
        obtain ⟨e, j1, j2⟩ := ih Lb (pa ++ [m]) (pb ++ [m']) n res res' (by rw [hs]; simp) (by rw [hs']; simp) (by
          unfold nms at hn ⊢
          rw [List.map_append, List.map_append, hn]
          simp [hmm]) k2 k2' (by simp only [List.length_cons] at hl; omega)
        refine ⟨e, by rw [k1, o_bind, k1', o_bind]; exact j1, ?_⟩
        rw [j2, hd, if_pos hc]
      · rw [if_neg hc]
        exact ⟨_, rfl, by rw [hd, if_neg hc, if_neg hc]⟩
/-- arrays -/
theorem rarr_l {as bs r r' : List Int32} {p q : Int32} {ea eb : Nat} {R : Vl → Vl → Int32} {rec : Int32 → Int32 → Option Int32} (ha : as.length ≤ 9000) (hb : bs.length ≤ 9000) (hna : r_next as p = some (Int32.ofNat ea)) (hnb : r_next bs q = some (Int32.ofNat eb)) (hea : ea ≤ 9000) (heb : eb ≤ 9000) : ∀ (la lb : List Mb) (n x y : Nat), okL la → okL lb → as.drop x = (blks false la).flatten ++ r → bs.drop y = (blks false lb).flatten ++ r' → x + (blks false la).flatten.length = ea → y + (blks false lb).flatten.length = eb → la.length < n → (∀ m ∈ la, ∀ m' ∈ lb, ∀ (p q : Nat), cat as p m.2 → cat bs q m'.2 → ∃ e, rec (Int32.ofNat p) (Int32.ofNat q) = some e ∧ e = R m.2 m'.2) → ∃ e, r_arrays_l as bs rec n p q (Int32.ofNat x) (Int32.ofNat y) = some e ∧ e = arrK R la lb := by
  intro la
  induction la with
  | nil =>
    intro lb n x y _ hwb dx dy hx hy hn _
    obtain ⟨n, rfl⟩ : ∃ j, n = j + 1 := ⟨n - 1, by omega⟩
    have : (blks false []).flatten.length = 0 := rfl
    cases lb with
    | nil =>
      refine ⟨0, ?_, rfl⟩
      unfold r_arrays_l
      rw [hna, o_bind, if_pos ((i_le' (by omega) (by omega)).mpr (by omega)), hnb, o_bind, if_pos ((i_le' (by omega) (by omega)).mpr (by omega))]
    | cons m' lb =>
      have e2 : blks false (m' :: lb) = cV m'.2 :: blks false lb := rfl
      rw [e2] at dy hy
      have hh : ∀ z ∈ cV m'.2 :: blks false lb, hdd z := by rw [← e2]; exact blks_h hwb
      obtain ⟨s1, s2, s3, s4⟩ := blk_step hb hh dy
      rw [List.flatten_cons, List.length_append] at hy
      refine ⟨-1, ?_, rfl⟩
      unfold r_arrays_l
      rw [hna, o_bind, if_pos ((i_le' (by omega) (by omega)).mpr (by omega)), hnb, o_bind, if_neg (by rw [i_le' (by omega) (by omega)]; omega)]
  | cons m la ih =>
    intro lb n x y hwa hwb dx dy hx hy hn hrec
    obtain ⟨n, rfl⟩ : ∃ j, n = j + 1 := ⟨n - 1, by omega⟩
    have e1 : blks false (m :: la) = cV m.2 :: blks false la := rfl
    rw [e1] at dx hx
    have hh : ∀ z ∈ cV m.2 :: blks false la, hdd z := by rw [← e1]; exact blks_h hwa
    obtain ⟨s1, s2, s3, s4⟩ := blk_step ha hh dx
    rw [List.flatten_cons, List.length_append] at hx
    rw [List.flatten_cons, List.append_assoc] at dx
    cases lb with
    | nil =>
      have : (blks false []).flatten.length = 0 := rfl
      refine ⟨1, ?_, rfl⟩
      unfold r_arrays_l
      rw [hna, o_bind, if_neg (by rw [i_le' (by omega) (by omega)]; omega), hnb, o_bind, if_pos ((i_le' (by omega) (by omega)).mpr (by omega))]
    | cons m' lb =>
      have e2 : blks false (m' :: lb) = cV m'.2 :: blks false lb := rfl
      rw [e2] at dy hy
      have hh' : ∀ z ∈ cV m'.2 :: blks false lb, hdd z := by rw [← e2]; exact blks_h hwb
      obtain ⟨u1, u2, u3, u4⟩ := blk_step hb hh' dy
      rw [List.flatten_cons, List.length_append] at hy
      rw [List.flatten_cons, List.append_assoc] at dy
      obtain ⟨e, r1, r2⟩ := hrec m List.mem_cons_self m' List.mem_cons_self x y ⟨ha, (hwa m List.mem_cons_self).2, _, dx⟩ ⟨hb, (hwb m' List.mem_cons_self).2, _, dy⟩
      have step : r_arrays_l as bs rec (n + 1) p q (Int32.ofNat x) (Int32.ofNat y) = if e = 0 then r_arrays_l as bs rec n p q (Int32.ofNat (x + (cV m.2).length)) (Int32.ofNat (y + (cV m'.2).length)) else some e := by
        show ((r_next as p).bind fun r1 => _) = _
        rw [hna, o_bind, if_neg (by rw [i_le' (by omega) (by omega)]; omega), hnb, o_bind, if_neg (by rw [i_le' (by omega) (by omega)]; omega), r1, o_bind, s1, o_bind, u1, o_bind]
      rw [step]
      by_cases he : e = 0
      · rw [if_pos he]
        obtain ⟨e', j1, j2⟩ := ih lb n _ _ hwa.tail hwb.tail s2 u2 (by omega) (by omega) (by simp only [List.length_cons] at hn; omega) (fun a ha' b hb' => hrec a (List.mem_cons_of_mem _ ha') b (List.mem_cons_of_mem _ hb'))
        refine ⟨e', j1, ?_⟩
        show e' = if R m.2 m'.2 = 0 then arrK R la lb else R m.2 m'.2
        rw [← r2, if_pos he]
        exact j2
      · rw [if_neg he]
        refine ⟨e, rfl, ?_⟩
        show e = if R m.2 m'.2 = 0 then arrK R la lb else R m.2 m'.2
        rw [← r2, if_neg he]
/-- the reference compares values -/
theorem rcmp_val : ∀ (n N : Nat), n ≤ N → ∀ (as bs : List Int32) (p q : Nat) (t u : Vl), cat as p t → cat bs q u → dV t < n → ∃ e, r_cmp as bs N (Int32.ofNat p) (Int32.ofNat q) = some e ∧ e = cmpK n t u := by
  intro n
  induction n with
  | zero => intro N _ as bs p q t u _ _ h; omega
  | succ n ih =>
    intro N hN as bs p q t u hp hq hd
    obtain ⟨N, rfl⟩ : ∃ j, N = j + 1 := ⟨N - 1, by omega⟩
    have k6 := hp.2.1.1
    have k6' := hq.2.1.1
    show ∃ e, r_compareB as bs (r_cmp as bs N) (Int32.ofNat p) (Int32.ofNat q) = some e ∧ _
    unfold r_compareB
    rw [hp.kind, o_bind, hq.kind, o_bind]
    by_cases hk : t.1 = u.1
    · rw [if_pos (by rw [hk])]
      obtain ⟨k, v, s, f⟩ := t
      obtain ⟨k', v', s', f'⟩ := u
      obtain ⟨l, rfl⟩ : ∃ l, f = ofL l := ⟨toL f, (ofL_toL f).symm⟩
      obtain ⟨l', rfl⟩ : ∃ l, f' = ofL l := ⟨toL f', (ofL_toL f').symm⟩
      simp only at hk k6 k6'
      subst hk
      show ∃ e, (if Int32.ofNat k = (3 : Int32) then _ else if Int32.ofNat k = (4 : Int32) then _ else if Int32.ofNat k = (5 : Int32) then _ else if Int32.ofNat k = (6 : Int32) then _ else _) = some e ∧ _
      have ek : ∀ j, j < 10 → (Int32.ofNat k = Int32.ofNat j ↔ k = j) := fun j hj => i_inj (by omega) (by omega)
      have es : cmpK (n + 1) (k, v, s, ofL l) (k, v', s', ofL l') = (if k = 3 then l_cmp (Int64.ofInt v) (Int64.ofInt v') else if k = 4 then cmpS s s' else if k = 5 then arrK (cmpK n) l l' else if k = 6 then (if namK (nms (srt l)) (nms (srt l')) = 0 then arrK (cmpK n) (srt l) (srt l') else namK (nms (srt l)) (nms (srt l'))) else 0) := by
        show (if k = k then _ else _) = _
        rw [if_pos rfl]
        simp only [toL_ofL]
      obtain ⟨r, d1⟩ := hp.2.2
      obtain ⟨r', d2⟩ := hq.2.2
      by_cases e3 : k = 3
      · subst e3
        rw [if_pos (show Int32.ofNat 3 = 3 from rfl), hp.number, o_bind, hq.number, o_bind]
        refine ⟨_, rfl, ?_⟩
        rw [es, if_pos rfl]
      rw [if_neg (show ¬ Int32.ofNat k = 3 from fun c => e3 ((ek 3 (by omega)).mp c))]
      by_cases e4 : k = 4
      · subst e4
        rw [if_pos (show Int32.ofNat 4 = 4 from rfl), rstr_val (s := s) (s' := s') (r := r) (r' := r') hp.1 hq.1 d1 d2, o_bind]
        refine ⟨_, rfl, ?_⟩
        rw [es, if_neg (by decide), if_pos rfl]
      rw [if_neg (show ¬ Int32.ofNat k = 4 from fun c => e4 ((ek 4 (by omega)).mp c))]
      by_cases e5 : k = 5
      · subst e5
        obtain ⟨c1, c2⟩ := cbox_in (Or.inl rfl) d1
        obtain ⟨c1', c2'⟩ := cbox_in (Or.inl rfl) d2
        have e6 : (5 == 6) = false := rfl
        rw [e6] at c1 c2 c1' c2'
        obtain ⟨n1, n2, n3⟩ := hp.next
        obtain ⟨n1', n2', n3'⟩ := hq.next
        have hl := hp.1
        have hl' := hq.1
        have hbl := blks_len false l
        have hf := flat2 _ (blks_h (b := false) hp.2.1.kids)
        simp only [Bool.false_eq_true, if_false] at hbl
        obtain ⟨e, j1, j2⟩ := rarr_l (R := cmpK n) (rec := r_cmp as bs N) hp.1 hq.1 n1 n1' (by omega) (by omega) l l' 10000 (p + 2) (q + 2) hp.2.1.kids hq.2.1.kids c1 c1' (by omega) (by omega) (by omega) (fun m hm m' hm' p q hp' hq' => by
          have x1 := dV_kid (k := 5) (v := v) (s := s) (Or.inl rfl) hm
          exact ih N (by omega) as bs p q m.2 m'.2 hp' hq' (by omega))
        refine ⟨e, ?_, ?_⟩
        · rw [if_pos (show Int32.ofNat 5 = 5 from rfl)]
          unfold r_arrays
          rw [show Int32.ofNat p + 2 = Int32.ofNat (p + 2) from (Int32.ofNat_add p 2).symm, show Int32.ofNat q + 2 = Int32.ofNat (q + 2) from (Int32.ofNat_add q 2).symm, j1, o_bind]
        · rw [es, if_neg (by decide), if_neg (by decide), if_pos rfl]
          exact j2
      rw [if_neg (show ¬ Int32.ofNat k = 5 from fun c => e5 ((ek 5 (by omega)).mp c))]
      by_cases e6 : k = 6
      · subst e6
        have hl : l.length < 10000 := by
          obtain ⟨c1, c2⟩ := cbox_in (Or.inr rfl) d1
          have e6 : (6 == 6) = true := rfl
          rw [e6] at c1 c2
          obtain ⟨n1, n2, n3⟩ := hp.next
          have hl := hp.1
          have hbl := blks_len true l
          have hf := flat2 _ (blks_h (b := true) hp.2.1.kids)
          simp only [if_true] at hbl
          omega
        obtain ⟨res, k1, k2⟩ := nameAfter_val hp (pre := []) (rest := srt l) (by simp) befo_nil (last := -1) rfl
        obtain ⟨res', k1', k2'⟩ := nameAfter_val hq (pre := []) (rest := srt l') (by simp) befo_nil (last := -1) rfl
        obtain ⟨e, j1, j2⟩ := robj1_l (R := cmpK n) (rec := r_cmp as bs N) hp hq hl (fun m hm m' hm' p q hp' hq' => by
          have x1 := dV_kid (k := 6) (v := v) (s := s) (Or.inr rfl) hm
          exact ih N (by omega) as bs p q m.2 m'.2 hp' hq' (by omega)) (srt l) (srt l') [] [] 10000 res res' (by simp) (by simp) rfl k2 k2' (by rw [srt_len]; exact hl)
        refine ⟨e, ?_, ?_⟩
        · rw [if_pos (show Int32.ofNat 6 = 6 from rfl)]
          unfold r_objects
          rw [k1, o_bind, k1', o_bind, j1, o_bind]
        · rw [es, if_neg (by decide), if_neg (by decide), if_neg (by decide), if_pos rfl]
          exact j2
      rw [if_neg (show ¬ Int32.ofNat k = 6 from fun c => e6 ((ek 6 (by omega)).mp c))]
      refine ⟨0, rfl, ?_⟩
      rw [es, if_neg e3, if_neg e4, if_neg e5, if_neg e6]
    · rw [if_neg (by rw [i_inj (by omega) (by omega)]; exact hk)]
      by_cases hc : Int32.ofNat u.1 ≤ Int32.ofNat t.1
      · rw [if_pos hc]
        refine ⟨1, rfl, ?_⟩
        show _ = (if t.1 = u.1 then _ else if u.1 ≤ t.1 then 1 else -1)
        rw [if_neg hk, if_pos ((i_le' (by omega) (by omega)).mp hc)]
      · rw [if_neg hc]
        refine ⟨-1, rfl, ?_⟩
        show _ = (if t.1 = u.1 then _ else if u.1 ≤ t.1 then 1 else -1)
        rw [if_neg hk, if_neg (fun c => hc ((i_le' (by omega) (by omega)).mpr c))]
end Same152
end

section
/-! The call same. -/
section Same153
theorem Inv.order {S S' : SS} (h : Inv S) (hf : frCp S S' 0) : Inv S' := by
  obtain ⟨i1, i2, ⟨tape, i3⟩, ⟨res, i4⟩, ts, dr, ra, i5⟩ := h
  obtain ⟨f1, f2, f3, f4, f5⟩ := hf
  have e : ∀ a k, a ≠ 47 → a ≠ 48 → rd S' a k = rd S a k := fun a k n1 n2 => by unfold rd; rw [f1 a n1 n2]
  obtain ⟨a1, a2, a3, a4, a5, a6, a7, a8, a9, a10, a11, a12, a13, a14⟩ := i1
  have nn : ∀ a ∈ nine, a ≠ 47 ∧ a ≠ 48 := by decide
  refine ⟨⟨f3, f4, ?_⟩, ⟨by rw [e 78 3 (by decide) (by decide), e 41 10 (by decide) (by decide)]; exact i2.1, by rw [e 78 4 (by decide) (by decide), e 41 11 (by decide) (by decide)]; exact i2.2⟩, ⟨tape, i3.move (f1 42 (by decide) (by decide)) (f1 79 (by decide) (by decide)) (e 78 1 (by decide) (by decide))⟩, ⟨res, i4.move (f1 44 (by decide) (by decide)) (f1 92 (by decide) (by decide))⟩, ts, dr, ra, i5.move (f1 46 (by decide) (by decide)) (e 41 9 (by decide) (by decide)) (fun a ha => f1 a (nn a ha).1 (nn a ha).2) (fun r hr => f1 _ (by omega) (by omega))⟩
  rw [f1 71 (by decide) (by decide), f1 74 (by decide) (by decide), f1 76 (by decide) (by decide), f1 77 (by decide) (by decide), f1 80 (by decide) (by decide), f1 91 (by decide) (by decide), f1 97 (by decide) (by decide), f1 98 (by decide) (by decide), f1 99 (by decide) (by decide), f1 100 (by decide) (by decide), f1 39 (by decide) (by decide), f1 40 (by decide) (by decide)]
  exact ⟨a3, a4, a5, a6, a7, a8, a9, a10, a11, a12, a13, a14⟩
theorem op8 : stp8 Inv := by
  intro S p0 p1 hc hI
  obtain ⟨l78, l41, l90, l96, l67, l68, l69, l70, l72, l73, l75, l47⟩ := cs.l78 hc
  obtain ⟨i1, i2, -, -, ts, dr, ra, i5⟩ := id hI
  obtain ⟨g1, g2, g3, g4, g5⟩ := id i5
  have bad : h_same S p0 p1 = some (S, 1) → b_same S p0 p1 = some (wr S 78 0 1, 0) → ∃ (c : SS × Int32) (w : SS × Int32), h_same S p0 p1 = some c ∧ c.1 0 = S 0 ∧ b_same c.1 p0 p1 = some w ∧ rd w.1 78 0 = c.2 ∧ (c.2 = 0 → lg (w.1 101) = if w.2 = 0 then 0 else 1) ∧ w.1 0 = S 0 ∧ Inv w.1 := fun e1 e2 =>
    ⟨(S, 1), (wr S 78 0 1, 0), e1, rfl, e2, rd_wr (by rw [l78]; decide), fun e => absurd e (show ¬ (1 : Int32) = 0 by decide), (show wr S 78 0 1 0 = S 0 from wr_ne (by decide)), note1 hI⟩
  have w1 : ¬ rd (wr S 78 0 1) 78 0 = 0 := by rw [rd_wr (by rw [l78]; decide)]; decide
  by_cases hp : ¬ p0 < 0 ∧ p0 < 8
  rotate_left
  · obtain ⟨a1, a2⟩ := reg_bad S hp
    apply bad
    · unfold h_same a_same
      rw [a1, o_bind, if_neg (show ¬ (2 : Nat) = 0 by decide), o_bind, if_neg (show ¬ (2 : Nat) = 0 by decide), if_pos rfl]
    · unfold b_same
      rw [a2, o_bind, if_neg (by decide), if_neg w1]
  obtain ⟨a1, a2, n, hn, rfl⟩ := reg_ok S hp
  by_cases hp' : ¬ p1 < 0 ∧ p1 < 8
  rotate_left
  · obtain ⟨b1, b2⟩ := reg_bad S hp'
    apply bad
    · unfold h_same a_same
      rw [a1, o_bind, if_pos rfl, b1, o_bind, if_neg (show ¬ (2 : Nat) = 0 by decide), o_bind, if_neg (show ¬ (2 : Nat) = 0 by decide), if_pos rfl]
    · unfold b_same
      rw [a2, o_bind, if_pos rfl, b2, o_bind, if_neg (by decide), if_neg w1]
  obtain ⟨b1, b2, n', hn', rfl⟩ := reg_ok S hp'
  have hm := nine_lt _ (ra_mem g3 g2 hn)
  have hm' := nine_lt _ (ra_mem g3 g2 hn')
  obtain ⟨e46, e46'⟩ := get46 g1 g2 hn hm.1
  obtain ⟨f46, f46'⟩ := get46 g1 g2 hn' hm'.1
  obtain ⟨e81, e81'⟩ := get81 n hn
  obtain ⟨f81, f81'⟩ := get81 n' hn'
  obtain ⟨v1, c1⟩ := reg_vat (g5 n hn)
  obtain ⟨v2, c2⟩ := reg_vat (g5 n' hn')
  obtain ⟨r1, r2, r3, r4, -⟩ := g5 n hn
  obtain ⟨r1', r2', r3', r4', -⟩ := g5 n' hn'
  have nt : ∀ a ∈ nine, nCp a := by unfold nCp; decide
  obtain ⟨S', e, j1, j2, j3⟩ := ocmp_val 61 100 (by decide) S (ra.getD n 0) (ra.getD n' 0) 0 0 0 0 _ _ (ts n) (ts n') (nt _ (ra_mem g3 g2 hn)) (nt _ (ra_mem g3 g2 hn')) ⟨rfl, rfl, l47, i1.1, i1.2.1⟩ v1 v2 (by omega) (by omega) (by omega)
  have eA : a_same S (Int32.ofNat n) (Int32.ofNat n') = if e = 0 then some (S', 0, 1) else some (S', 0, 0) := by
    unfold a_same
    rw [a1, o_bind, if_pos rfl, b1, o_bind, if_pos rfl, e46, o_bind, f46, o_bind, e46', f46', show (0 : Int32) = Int32.ofNat 0 from rfl, j1, o_bind]
  have hI' := hI.order j3
  have key : ∀ y : Int64, ∀ w : Int32, h_same S (Int32.ofNat n) (Int32.ofNat n') = some (up S' 101 (lgE y), 0) → (y = if w = 0 then 0 else 1) → b_same (up S' 101 (lgE y)) (Int32.ofNat n) (Int32.ofNat n') = some (wr (up S' 101 (lgE y)) 78 0 0, w) → ∃ (c : SS × Int32) (w : SS × Int32), h_same S (Int32.ofNat n) (Int32.ofNat n') = some c ∧ c.1 0 = S 0 ∧ b_same c.1 (Int32.ofNat n) (Int32.ofNat n') = some w ∧ rd w.1 78 0 = c.2 ∧ (c.2 = 0 → lg (w.1 101) = if w.2 = 0 then 0 else 1) ∧ w.1 0 = S 0 ∧ Inv w.1 := by
    intro y w h1 h2 h3
    refine ⟨_, _, h1, ?_, h3, ?_, fun _ => ?_, ?_, note0 hI'⟩
    · show up S' 101 (lgE y) 0 = S 0
      rw [up_ne (by decide), j3.1 0 (by decide) (by decide)]
    · rw [rd_wr]; rw [up_ne (by decide), j3.1 78 (by decide) (by decide), l78]; decide
    · show lg (wr (up S' 101 (lgE y)) 78 0 0 101) = _
      rw [wr_ne (by decide), up_same, lg_E, h2]
    · show wr (up S' 101 (lgE y)) 78 0 0 0 = S 0
      rw [wr_ne (by decide), up_ne (by decide), j3.1 0 (by decide) (by decide)]
  obtain ⟨e', k1, k2⟩ := rcmp_val 61 70 (by decide) _ _ 0 0 (ts n) (ts n') c1 c2 (by omega)
  have eB : ∀ y, b_same (up S' 101 y) (Int32.ofNat n) (Int32.ofNat n') = some (wr (up S' 101 y) 78 0 0, if e' = 0 then 1 else 0) := by
    intro y
    have w0 : rd (wr (up S' 101 y) 78 0 0) 78 0 = 0 := by rw [rd_wr]; rw [up_ne (by decide), j3.1 78 (by decide) (by decide), l78]; decide
    have s82 : ∀ k, k < 8 → wr (up S' 101 y) 78 0 0 (82 + k) = S (82 + k) := fun k hk => by rw [wr_ne (by omega), up_ne (by omega), j3.1 _ (by omega) (by omega)]
    unfold b_same
    rw [(reg_ok _ hp).2.1, o_bind, if_pos rfl, (reg_ok _ hp').2.1, o_bind, if_pos rfl, if_pos w0, e81, o_bind, f81, o_bind, e81', f81']
    unfold b_same2
    rw [s82 n hn, s82 n' hn', show (0 : Int32) = Int32.ofNat 0 from rfl, k1, o_bind]
    by_cases he : e' = Int32.ofNat 0
    · rw [if_pos he, o_bind, if_neg (by decide), if_pos he]
    · rw [if_neg he, o_bind, if_pos rfl, if_neg he]
  have hee : e = 0 ↔ e' = 0 := by rw [j2, k2]
  by_cases he : e = 0
  · rw [if_pos he] at eA
    refine key 1 1 ?_ (by decide) ?_
    · unfold h_same
      rw [eA, o_bind, if_pos rfl, if_neg (show ¬ (1 : Int32) = 0 by decide)]
    · rw [eB, if_pos (hee.mp he)]
  · rw [if_neg he] at eA
    refine key 0 0 ?_ (by decide) ?_
    · unfold h_same
      rw [eA, o_bind, if_pos rfl, if_pos rfl]
    · rw [eB, if_neg (fun c => he (hee.mpr c))]
end Same153
end

section
/-! The class's steps, with the places where they lead. -/
section SpotQ154
/-- the spot, with its place and the place of its item -/
def spQ (S : SS) (ta q : Nat) (it : Int32) (t : Vl) (w : Option (Nat × Nat)) : Prop := ∃ (lo hi : Int32), S 67 = [Int32.ofNat ta, Int32.ofNat q, it, (if w.isSome then 1 else 0), lo, hi] ∧ vat (tT S ta) q t ∧ winO t w ∧ ∀ a b, w = some (a, b) → lo = Int32.ofNat a ∧ hi = Int32.ofNat b
theorem spQ.c {S : SS} {ta q : Nat} {it : Int32} {t : Vl} {w : Option (Nat × Nat)} (h : spQ S ta q it t w) : spC S ta t w := by
  obtain ⟨lo, hi, h⟩ := h
  exact ⟨q, it, lo, hi, h⟩
theorem spQ.move {S S' : SS} {ta q : Nat} {it : Int32} {t : Vl} {w : Option (Nat × Nat)} (h : spQ S ta q it t w) (h1 : S' 67 = S 67) (h2 : S' ta = S ta) : spQ S' ta q it t w := by
  unfold spQ tT
  rw [h1, h2]
  exact h
/-- a name of an object -/
theorem nameQ {S : SS} {ta t1 q q2 : Nat} {it : Int32} {v : Int} {s0 : List Int32} {l : List Mb} {w : Option (Nat × Nat)} {s r' : List Int32} (hta : ta < 1000 ∧ ta ≠ 67) (h : spQ S ta q it (6, v, s0, ofL l) w) (hl : (tT S t1).length ≤ 4096) (hs : okS s) (hp : (tT S t1).drop q2 = pstr s ++ r') : (∀ (hj : l.findIdx (fun m => m.1 == s) < l.length), ∃ S', p_byName S t1 (Int32.ofNat q2) = some (S', 0) ∧ fr67 S S' ∧ spQ S' ta (ip true (q + 1) l (l.findIdx (fun m => m.1 == s)) + (pstr (l[l.findIdx (fun m => m.1 == s)]).1).length + 1) (Int32.ofNat (ip true (q + 1) l (l.findIdx (fun m => m.1 == s)))) (l[l.findIdx (fun m => m.1 == s)]).2 none) ∧ (¬ l.findIdx (fun m => m.1 == s) < l.length → ∃ S', p_byName S t1 (Int32.ofNat q2) = some (S', 0) ∧ fr67 S S' ∧ spN S' ta) := by
  have hk := h.c.kind hta.1
  obtain ⟨lo, hi, h1, h2, h3, h4⟩ := h
  unfold p_byName
  rw [hk, o_bind]
  have e0 : (rd S 67 0).toNatClampNeg = ta := by unfold rd; rw [h1]; exact i_cl (by omega)
  have e1 : rd S 67 1 = Int32.ofNat q := by unfold rd; rw [h1]; rfl
  rw [show Int32.ofNat ((6, v, s0, ofL l) : Vl).1 = 6 from rfl, if_pos rfl, e0, e1]
  have fr : ∀ L, fr67 S (up S 67 L) := fun L a ha => up_ne ha
  have tt : ∀ L, tT (up S 67 L) ta = tT S ta := fun L => by unfold tT; rw [up_ne hta.2]
  obtain ⟨u1, u2, u3, r, u4, u5⟩ := id h2
  have hn := named_val u1 u2 hl u3.kids hs hp u4
  refine ⟨fun hj => ?_, fun hj => ?_⟩
  · rw [if_pos hj] at hn
    obtain ⟨i1, ⟨z, r, hz, i2⟩, i3⟩ := h2.item (Or.inr rfl) hj
    have e : (6 == 6) = true := rfl
    rw [e] at i2 i3
    rw [List.drop_eq_getElem_cons hj] at i2
    obtain ⟨m1, m2⟩ := (mem_at u1 u2 (u3.kids _ (List.getElem_mem hj)) hz i2).2 rfl
    rw [hn, o_bind, m1, o_bind, move_val h1, o_bind]
    exact ⟨_, rfl, fr _, lo, hi, up_same, by rw [tt]; exact m2, (fun _ _ e => by cases e), (fun _ _ e => by cases e)⟩
  · rw [if_neg hj] at hn
    have ev : t_valueOf (tT S ta) (-1) = some (-1) := by unfold t_valueOf; rw [if_pos rfl]
    rw [hn, o_bind, ev, o_bind, move_val h1, o_bind]
    exact ⟨_, rfl, fr _, -1, lo, hi, up_same⟩
/-- a place told from the start or from the end -/
def atX (k : Int) (n : Nat) : Int := if k < 0 then k + n else k
/-- where a place of an array leads: nothing, or the element -/
def spPX (S : SS) (ta q : Nat) (t : Vl) (A n : Nat) (x : Int) : Prop :=
  if 0 ≤ x ∧ x < (n : Int) then ∃ hj : A + x.toNat < (toL t.2.2.2).length, spQ S ta (ip false (q + 1) (toL t.2.2.2) (A + x.toNat)) (Int32.ofNat (ip false (q + 1) (toL t.2.2.2) (A + x.toNat))) ((toL t.2.2.2)[A + x.toNat]).2 none else spN S ta
theorem spPX_in {S : SS} {ta q : Nat} {t : Vl} {A n : Nat} {x : Int} (h : 0 ≤ x ∧ x < (n : Int)) (hj : A + x.toNat < (toL t.2.2.2).length) (hs : spQ S ta (ip false (q + 1) (toL t.2.2.2) (A + x.toNat)) (Int32.ofNat (ip false (q + 1) (toL t.2.2.2) (A + x.toNat))) ((toL t.2.2.2)[A + x.toNat]).2 none) : spPX S ta q t A n x := by
  unfold spPX
  rw [if_pos h]
  exact ⟨hj, hs⟩
theorem spPX_out {S : SS} {ta q : Nat} {t : Vl} {A n : Nat} {x : Int} (h : ¬ (0 ≤ x ∧ x < (n : Int))) (hs : spN S ta) : spPX S ta q t A n x := by
  unfold spPX
  rw [if_neg h]
  exact hs
/-- a place of an array -/
theorem placeQ {S : SS} {ta q : Nat} {it : Int32} {t : Vl} {w : Option (Nat × Nat)} {v : Int} (hta : ta < 1000 ∧ ta ≠ 67) (h : spQ S ta q it t w) (hv : -9007199254740991 ≤ v ∧ v ≤ 9007199254740991) : t.1 = 5 → ∃ S', p_byPlace S (Int64.ofInt v) = some (S', 0) ∧ fr67 S S' ∧ spPX S' ta q t (winA t w) (winN t w) (atX v (winN t w)) := by
  intro e
  have hk := h.c.kind hta.1
  obtain ⟨lo, hi, h1, h2, h3, h4⟩ := h
  have k6 := h2.2.2.1.1
  unfold p_byPlace
  rw [hk, o_bind]
  have e0 : (rd S 67 0).toNatClampNeg = ta := by unfold rd; rw [h1]; exact i_cl (by omega)
  have e1 : rd S 67 1 = Int32.ofNat q := by unfold rd; rw [h1]; rfl
  have e3 : rd S 67 3 = if w.isSome then 1 else 0 := by unfold rd; rw [h1]; rfl
  have e4 : rd S 67 4 = lo := by unfold rd; rw [h1]; rfl
  have e5 : rd S 67 5 = hi := by unfold rd; rw [h1]; rfl
  have h2' := h2
  rw [vl5 e] at h2'
  obtain ⟨it1, it2⟩ := h2'.items (Or.inl rfl)
  have hsz : size t = (toL t.2.2.2).length := by unfold size; rw [if_neg (by omega)]
  have fr : ∀ L, fr67 S (up S 67 L) := fun L a ha => up_ne ha
  have tt : ∀ L, tT (up S 67 L) ta = tT S ta := fun L => by unfold tT; rw [up_ne hta.2]
  have z0 : (0 : Int64).toInt = 0 := rfl
  rw [e, if_pos (by decide), e0, e1, e3, e4, e5]
  -- the rest, once size and base are known
  have rest : ∀ (A n : Nat) (sz ba : Int32), sz = Int32.ofNat n → ba = Int32.ofNat A → A + n ≤ (toL t.2.2.2).length → winA t w = A → winN t w = n → ∃ S', ((p_fromStart S (Int64.ofInt v) sz).bind fun r7 => (if (lg_cmp r7 0) < 0 then ((p_moveTo S (-1) (-1)).bind fun r10 => some (r10, (0 : Int32))) else (if 0 ≤ (lg_cmp r7 sz.toInt64) then ((p_moveTo S (-1) (-1)).bind fun r13 => some (r13, 0)) else ((t_item (tT S ta) (Int32.ofNat q) (ba + r7.toInt32)).bind fun r15 => ((p_moveTo S r15 r15).bind fun r17 => some (r17, 0)))))) = some (S', 0) ∧ fr67 S S' ∧ spPX S' ta q t (winA t w) (winN t w) (atX v (winN t w)) := by
    intro A n sz ba hsz' hba hAn hA hN
    have hnt : (sz.toInt64).toInt = n := by rw [hsz', l_32 n (by omega), l_of (by omega) (by omega)]
    have l1 := l_of (z := v) (by omega) (by omega)
    obtain ⟨r, hr, hrv⟩ : ∃ r, p_fromStart S (Int64.ofInt v) sz = some r ∧ r.toInt = if v < 0 then v + n else v := by
      unfold p_fromStart
      by_cases hs : v < 0
      · refine ⟨_, if_neg (by rw [lg_ge, l1, z0]; omega), ?_⟩
        rw [l_add (by rw [l1]; omega) (by rw [hnt]; omega), l1, hnt, if_pos hs]
      · exact ⟨_, if_pos ((lg_ge _ _).mpr (by rw [l1, z0]; omega)), by rw [l1, if_neg hs]⟩
    rw [hr, o_bind]
    rw [hA, hN]
    have hrv : r.toInt = atX v n := hrv
    rw [← hrv]
    by_cases c1 : r.toInt < 0
    · rw [if_pos ((lg_lt _ _).mpr (by rw [z0]; exact c1)), move_val h1, o_bind]
      exact ⟨_, rfl, fr _, spPX_out (by omega) ⟨-1, lo, hi, up_same⟩⟩
    · rw [if_neg (by rw [lg_lt, z0]; exact c1)]
      by_cases c2 : (n : Int) ≤ r.toInt
      · rw [if_pos ((lg_ge _ _).mpr (by rw [hnt]; exact c2)), move_val h1, o_bind]
        exact ⟨_, rfl, fr _, spPX_out (by omega) ⟨-1, lo, hi, up_same⟩⟩
      · have hx : r.toInt.toNat < n := by omega
        have hj : A + r.toInt.toNat < (toL t.2.2.2).length := by omega
        obtain ⟨i1, i2⟩ := h2'.elem hj
        rw [if_neg (by rw [lg_ge, hnt]; exact c2), l_to32 (n := r.toInt.toNat) (by omega) (by omega), hba, ← Int32.ofNat_add, i1, o_bind, move_val h1, o_bind]
        exact ⟨_, rfl, fr _, spPX_in (by omega) hj ⟨lo, hi, up_same, by rw [tt]; exact i2, (fun _ _ e => by cases e), (fun _ _ e => by cases e)⟩⟩
  cases w with
  | none =>
    rw [if_pos (show (if (none : Option (Nat × Nat)).isSome = true then (1 : Int32) else 0) = 0 from rfl), it1, o_bind]
    exact rest 0 (toL t.2.2.2).length _ 0 rfl rfl (by omega) rfl hsz
  | some ab =>
    obtain ⟨a, b⟩ := ab
    obtain ⟨w1, w2, -⟩ := h3 a b rfl
    obtain ⟨x1, x2⟩ := h4 a b rfl
    have es : hi - lo = Int32.ofNat (b - a) := by
      rw [x1, x2]
      apply Int32.toInt_inj.mp
      have a1 : (Int32.ofNat a).toInt = a := i_of (by omega)
      have a2 : (Int32.ofNat b).toInt = b := i_of (by omega)
      rw [i_sub (by omega) (by omega), a1, a2, i_of (by omega)]
      omega
    rw [if_neg (show ¬ (if (some (a, b) : Option (Nat × Nat)).isSome = true then (1 : Int32) else 0) = 0 from fun e => absurd e (show ¬ (1 : Int32) = 0 by decide))]
    exact rest a (b - a) _ lo es x1 (by omega) rfl rfl
/-- a part -/
theorem partQ {S : SS} {ta t1 q q2 : Nat} {it : Int32} {t pi : Vl} {w : Option (Nat × Nat)} (hta : ta < 1000 ∧ ta ≠ 67) (ht1 : t1 ≠ 67) (h : spQ S ta q it t w) (hp : vat (tT S t1) q2 pi) (h6 : pi.1 = 6) : (okW t pi → ∃ S', p_byPart S t1 (Int32.ofNat q2) = some (S', 0) ∧ fr67 S S' ∧ spQ S' ta q it t (some (nwA pi (winA t w) (winE t w), nwB pi (winA t w) (winE t w)))) ∧ (¬ okW t pi → p_byPart S t1 (Int32.ofNat q2) = some (S, 1)) := by
  have hk := h.c.kind hta.1
  obtain ⟨lo, hi, h1, h2, h3, h4⟩ := h
  have k6 := h2.2.2.1.1
  obtain ⟨g1, g2, g3, g4, g5, g6, g7, g8⟩ := k9_
  obtain ⟨x3, y3, f1, f2, f3⟩ := bd_find hp h6 g3 g1 g7 g5
  obtain ⟨x7, y7, f5, f6, f7⟩ := bd_find hp h6 g4 g2 g8 g6
  have e0 : (rd S 67 0).toNatClampNeg = ta := by unfold rd; rw [h1]; exact i_cl (by omega)
  have e3 : rd S 67 3 = if w.isSome then 1 else 0 := by unfold rd; rw [h1]; rfl
  have lt := h2.lt
  have l4 := h2.1
  have fr : ∀ L, fr67 S (up S 67 L) := fun L a ha => up_ne ha
  have tt : ∀ L a, a ≠ 67 → tT (up S 67 L) a = tT S a := fun L a ha => by unfold tT; rw [up_ne ha]
  have szb : size t ≤ 4096 ∨ ¬ (t.1 = 4 ∨ t.1 = 5) := by
    by_cases e4 : t.1 = 4
    · left
      unfold size
      rw [if_pos e4]
      have h2' := h2
      rw [vl4 e4] at h2'
      obtain ⟨-, -, w0, r, d1, -⟩ := h2'
      have := drop_len d1 (bV_ne _)
      have f := flat_len w0.2.2.1
      have e : (bV (4, t.2.1, t.2.2.1, t.2.2.2)).length = (t.2.2.1.flatMap esc).length + 2 := by
        show (pstr t.2.2.1).length = _
        simp [pstr]
      simp only at f
      omega
    · by_cases e5 : t.1 = 5
      · left
        unfold size
        rw [if_neg e4]
        have h2' := h2
        rw [vl5 e5] at h2'
        have := (h2'.items (Or.inl rfl)).2
        omega
      · right; intro e; exact e.elim e4 e5
  unfold p_byPart
  rw [f1, o_bind, f2, o_bind, f5, o_bind, f6, o_bind, hk, o_bind]
  obtain ⟨ib3, ib3'⟩ := bd_isBound f3
  obtain ⟨ib7, ib7'⟩ := bd_isBound f7
  -- once a window is there
  have rest : ∀ (L : SS) (a b : Nat), L 67 = [Int32.ofNat ta, Int32.ofNat q, it, 1, Int32.ofNat a, Int32.ofNat b] → fr67 S L → a ≤ b → b ≤ size t → (t.1 = 4 ∨ t.1 = 5) → a = winA t w → b = winE t w → okD (byN pi stS) → okD (byN pi enS) → ∃ S', ((p_bound L t1 y3 ((rd L 67 5) - (rd L 67 4)) 0).bind fun r33 => ((p_bound L t1 y7 ((rd L 67 5) - (rd L 67 4)) ((rd L 67 5) - (rd L 67 4))).bind fun r35 => some (wr (wr L 67 5 ((rd L 67 4) + (imax r33 r35))) 67 4 ((rd (wr L 67 5 ((rd L 67 4) + (imax r33 r35))) 67 4) + r33), (0 : Int32)))) = some (S', 0) ∧ fr67 S S' ∧ spQ S' ta q it t (some (nwA pi (winA t w) (winE t w), nwB pi (winA t w) (winE t w))) := by
    intro L a b hL fL hab hbs hkk ea eb o3 o7
    have hT : tT L t1 = tT S t1 := by unfold tT; rw [fL t1 ht1]
    have hTa : tT L ta = tT S ta := by unfold tT; rw [fL ta hta.2]
    have hb9 : b ≤ 9000 := by rcases szb with z | z; omega; exact absurd hkk z
    refine ⟨_, narrow_val hL hab hb9 (by rw [hT]; exact f3) (by rw [hT]; exact f7) o3 o7, fun x hx => by rw [up_ne hx, fL x hx], _, _, up_same, ?_, ?_, ?_⟩
    · have : tT (up L 67 [Int32.ofNat ta, Int32.ofNat q, it, 1, Int32.ofNat (nwA pi a b), Int32.ofNat (nwB pi a b)]) ta = tT S ta := by unfold tT; rw [up_ne hta.2]; exact hTa
      rw [this]; exact h2
    · intro x y e
      cases e
      rw [← ea, ← eb]
      have := nw_ok pi hab
      exact ⟨this.1, by omega, hkk⟩
    · intro x y e
      cases e
      rw [← ea, ← eb]
      exact ⟨rfl, rfl⟩
  have conds : ∀ (X : Option (SS × Int32)), (okW t pi → (t.1 = 4 ∨ t.1 = 5) → ∃ S', X = some (S', 0) ∧ fr67 S S' ∧ spQ S' ta q it t (some (nwA pi (winA t w) (winE t w), nwB pi (winA t w) (winE t w)))) → (t.1 = 4 ∨ t.1 = 5) → (okW t pi → ∃ S', ((p_isBound S t1 y3).bind fun r40 => (if r40 = 0 then some (S, (1 : Int32)) else ((p_isBound S t1 y7).bind fun r43 => (if r43 = 0 then some (S, 1) else X)))) = some (S', 0) ∧ fr67 S S' ∧ spQ S' ta q it t (some (nwA pi (winA t w) (winE t w), nwB pi (winA t w) (winE t w)))) ∧ (¬ okW t pi → ((p_isBound S t1 y3).bind fun r40 => (if r40 = 0 then some (S, (1 : Int32)) else ((p_isBound S t1 y7).bind fun r43 => (if r43 = 0 then some (S, 1) else X)))) = some (S, 1)) := by
    intro X hX hkk
    refine ⟨fun ok => ?_, fun nok => ?_⟩
    · rw [ib3 ok.2.1, o_bind, if_neg (by decide), ib7 ok.2.2, o_bind, if_neg (by decide)]
      exact hX ok hkk
    · by_cases o3 : okD (byN pi stS)
      · rw [ib3 o3, o_bind, if_neg (by decide)]
        have o7 : ¬ okD (byN pi enS) := fun e => nok ⟨hkk, o3, e⟩
        rw [ib7' o7, o_bind, if_pos rfl]
      · rw [ib3' o3, o_bind, if_pos rfl]
  have hS1 : wr (wr S 67 3 1) 67 4 0 = up S 67 [Int32.ofNat ta, Int32.ofNat q, it, 1, 0, hi] := by rw [wr_eq h1, wr_up]; rfl
  have hS2 : ∀ r, wr (up S 67 [Int32.ofNat ta, Int32.ofNat q, it, 1, 0, hi]) 67 5 r = up S 67 [Int32.ofNat ta, Int32.ofNat q, it, 1, 0, r] := fun r => by rw [wr_up]; rfl
  have hS3 : (rd (up S 67 [Int32.ofNat ta, Int32.ofNat q, it, 1, 0, hi]) 67 0).toNatClampNeg = ta := by unfold rd; rw [up_same]; exact i_cl (by omega)
  have hS4 : rd (up S 67 [Int32.ofNat ta, Int32.ofNat q, it, 1, 0, hi]) 67 1 = Int32.ofNat q := by unfold rd; rw [up_same]; rfl
  have hS5 : tT (up S 67 [Int32.ofNat ta, Int32.ofNat q, it, 1, 0, hi]) ta = tT S ta := tt _ _ hta.2
  by_cases e4 : t.1 = 4
  · rw [e4, if_pos (by decide), if_neg (by decide)]
    refine conds _ (fun ok hkk => ?_) (Or.inl e4)
    rw [e3, hS1, hS3, hS4, hS5]
    cases w with
    | none =>
      have h2' := h2
      rw [vl4 e4] at h2'
      obtain ⟨-, -, w0, r, d1, -⟩ := h2'
      have hc := chars_val (r := r) l4 w0.2.2.1 d1
      have hc : t_chars (tT S ta) (Int32.ofNat q) = some (Int32.ofNat (size t)) := by rw [hc]; unfold size; rw [if_pos e4]
      rw [if_pos (show (if (none : Option (Nat × Nat)).isSome = true then (1 : Int32) else 0) = 0 from rfl), hc, o_bind, hS2]
      exact rest _ 0 (size t) up_same (fr _) (by omega) (Nat.le_refl _) hkk rfl (show size t = 0 + size t by omega) ok.2.1 ok.2.2
    | some ab =>
      obtain ⟨a, b⟩ := ab
      obtain ⟨w1, w2, -⟩ := h3 a b rfl
      obtain ⟨x1, x2⟩ := h4 a b rfl
      rw [if_neg (show ¬ (if (some (a, b) : Option (Nat × Nat)).isSome = true then (1 : Int32) else 0) = 0 from fun e => absurd e (show ¬ (1 : Int32) = 0 by decide))]
      exact rest S a b (by rw [h1, x1, x2]; rfl) (fun _ _ => rfl) w1 w2 hkk rfl (by unfold winE winA winN; simp only; omega) ok.2.1 ok.2.2
  · rw [if_neg (by rw [show (4 : Int32) = Int32.ofNat 4 from rfl, i_inj (by omega) (by omega)]; exact e4)]
    by_cases e5 : t.1 = 5
    · rw [e5, if_pos (by decide)]
      refine conds _ (fun ok hkk => ?_) (Or.inr e5)
      rw [e3, hS1, hS3, hS4, hS5]
      cases w with
      | none =>
        have h2' := h2
        rw [vl5 e5] at h2'
        have hc := (h2'.items (Or.inl rfl)).1
        have hc : t_items (tT S ta) (Int32.ofNat q) = some (Int32.ofNat (size t)) := by rw [hc]; unfold size; rw [if_neg e4]
        rw [if_pos (show (if (none : Option (Nat × Nat)).isSome = true then (1 : Int32) else 0) = 0 from rfl), hc, o_bind, hS2]
        exact rest _ 0 (size t) up_same (fr _) (by omega) (Nat.le_refl _) hkk rfl (show size t = 0 + size t by omega) ok.2.1 ok.2.2
      | some ab =>
        obtain ⟨a, b⟩ := ab
        obtain ⟨w1, w2, -⟩ := h3 a b rfl
        obtain ⟨x1, x2⟩ := h4 a b rfl
        rw [if_neg (show ¬ (if (some (a, b) : Option (Nat × Nat)).isSome = true then (1 : Int32) else 0) = 0 from fun e => absurd e (show ¬ (1 : Int32) = 0 by decide))]
        exact rest S a b (by rw [h1, x1, x2]; rfl) (fun _ _ => rfl) w1 w2 hkk rfl (by unfold winE winA winN; simp only; omega) ok.2.1 ok.2.2
    · rw [if_neg (by rw [show (5 : Int32) = Int32.ofNat 5 from rfl, i_inj (by omega) (by omega)]; exact e5)]
      exact ⟨fun ok => absurd ok.1 (fun e => e.elim e4 e5), fun _ => rfl⟩
end SpotQ154
end

section
/-! A value within a text, and what is put in its place. -/
section Ctx155
def jpre (b : Bool) (l : List Mb) : List Int32 := l.flatMap fun m => bM b m ++ [44]
def jpost (b : Bool) (l : List Mb) : List Int32 := l.flatMap fun m => 44 :: bM b m
theorem jn_post (b : Bool) : ∀ (l : List Mb) (m : Mb), jn ((m :: l).map (bM b)) = bM b m ++ jpost b l := by
  intro l
  induction l with
  | nil => intro m; rw [jn_cons, if_pos rfl]; rfl
  | cons m' l ih =>
    intro m
    rw [jn_cons, if_neg (by simp), ih m']
    rfl
theorem jn_pre (b : Bool) {B : List Mb} (hB : B ≠ []) : ∀ (A : List Mb), jn ((A ++ B).map (bM b)) = jpre b A ++ jn (B.map (bM b)) := by
  intro A
  induction A with
  | nil => rfl
  | cons m A ih =>
    rw [List.cons_append, jn_cons, if_neg (by simp [hB]), ih]
    unfold jpre
    rw [List.flatMap_cons]
    simp
theorem jn_mid (b : Bool) (A B : List Mb) (m : Mb) : jn ((A ++ m :: B).map (bM b)) = jpre b A ++ (bM b m ++ jpost b B) := by
  rw [jn_pre b (by simp), jn_post]
theorem jpre_app (b : Bool) (A B : List Mb) : jpre b (A ++ B) = jpre b A ++ jpre b B := by
  unfold jpre; rw [List.flatMap_append]
theorem jpost_jn (b : Bool) {l : List Mb} (h : l ≠ []) : jpost b l = 44 :: jn (l.map (bM b)) := by
  cases l with
  | nil => exact absurd rfl h
  | cons m l => rw [jn_post]; rfl
theorem jpre_jn (b : Bool) {l : List Mb} (h : l ≠ []) : jpre b l = jn (l.map (bM b)) ++ [44] := by
  induction l with
  | nil => exact absurd rfl h
  | cons m l ih =>
    rw [jn_cons]
    by_cases hn : l = []
    · subst hn
      rw [if_pos rfl]
      simp [jpre]
    · rw [if_neg hn]
      have := ih hn
      unfold jpre at this ⊢
      rw [List.flatMap_cons, this]
      simp
theorem ip_pre (b : Bool) (q : Nat) (l : List Mb) (j : Nat) : ip b q l j = q + (jpre b (l.take j)).length := by
  unfold ip jpre
  rw [List.length_flatMap]
  simp
theorem bV_5 (v : Int) (s : List Int32) (l : List Mb) : bV (5, v, s, ofL l) = 91 :: (jn (l.map (bM false)) ++ [93]) := by
  unfold bV bval
  simp only
  rw [bF_ofL]
  rfl
theorem bV_6 (v : Int) (s : List Int32) (l : List Mb) : bV (6, v, s, ofL l) = 123 :: (jn (l.map (bM true)) ++ [125]) := by
  unfold bV bval
  simp only
  rw [bF_ofL]
  rfl
theorem wV_5 {v : Int} {s : List Int32} {l : List Mb} (hs : okS s) (hl : okL l) : wV (5, v, s, ofL l) :=
  ⟨show (5 : Nat) ≤ 6 by decide, fun e => absurd e (show ¬ (5 : Nat) = 3 by decide), hs, fun e => absurd (Or.inl rfl) e, fun e => absurd e (show ¬ (5 : Nat) = 6 by decide), (wF_iff _).mpr (by rw [toL_ofL]; exact hl)⟩
theorem wV_6 {v : Int} {s : List Int32} {l : List Mb} (hs : okS s) (hl : okL l) (hn : nod l) : wV (6, v, s, ofL l) :=
  ⟨show (6 : Nat) ≤ 6 by decide, fun e => absurd e (show ¬ (6 : Nat) = 3 by decide), hs, fun e => absurd (Or.inr rfl) e, fun _ => by show ((toL (ofL l)).map fun m => m.1).Nodup; rw [toL_ofL]; exact hn, (wF_iff _).mpr (by rw [toL_ofL]; exact hl)⟩
theorem wV.nod {v : Int} {s : List Int32} {l : List Mb} (h : wV (6, v, s, ofL l)) : nod l := by
  have := h.2.2.2.2.1 rfl
  rw [toL_ofL] at this
  exact this
/-- what is written before and behind a value -/
def wctx (B R : List Int32) (K : Vl → Vl) : Prop := (∀ u, wV u → wV (K u)) ∧ ∀ u, bV (K u) = B ++ (bV u ++ R)
/-- the value t at the place p of the text -/
def ctx (us : List Int32) (p : Nat) (t : Vl) (K : Vl → Vl) : Prop := wctx (us.take p) (us.drop (p + (bV t).length)) K
theorem ctx_root (t : Vl) : ctx (bV t) 0 t (fun u => u) := ⟨fun _ h => h, fun u => by simp⟩
theorem ctx.sub {us r X Z : List Int32} {p : Nat} {t t' : Vl} {K F : Vl → Vl} (h : ctx us p t K) (hd : us.drop p = bV t ++ r) (ht : bV t = X ++ (bV t' ++ Z)) (hw : ∀ u, wV u → wV (F u)) (hF : ∀ u, bV (F u) = X ++ (bV u ++ Z)) : ctx us (p + X.length) t' (fun u => K (F u)) := by
  refine ⟨fun u hu => h.1 _ (hw u hu), fun u => ?_⟩
  have e1 : us.take (p + X.length) = us.take p ++ X := by
    rw [List.take_add, hd, ht, List.append_assoc, List.take_left]
  have e2 : us.drop (p + X.length + (bV t').length) = Z ++ r := by
    rw [Nat.add_assoc, ← List.drop_drop, hd, ht, List.append_assoc, List.append_assoc, ← List.append_assoc, ← List.length_append, List.drop_left]
  have e3 : us.drop (p + (bV t).length) = r := by rw [← List.drop_drop, hd, List.drop_left]
  rw [h.2, hF, e1, e2, e3]
  simp
theorem ctx.ins {us r X Z I J : List Int32} {p : Nat} {t : Vl} {K F : Vl → Vl} (h : ctx us p t K) (hd : us.drop p = bV t ++ r) (ht : bV t = X ++ Z) (hw : ∀ u, wV u → wV (F u)) (hF : ∀ u, bV (F u) = X ++ (I ++ (bV u ++ (J ++ Z)))) : wctx (us.take (p + X.length) ++ I) (J ++ us.drop (p + X.length)) (fun u => K (F u)) := by
  refine ⟨fun u hu => h.1 _ (hw u hu), fun u => ?_⟩
  have e1 : us.take (p + X.length) = us.take p ++ X := by
    rw [List.take_add, hd, ht, List.append_assoc, List.take_left]
  have e2 : us.drop (p + X.length) = Z ++ r := by
    rw [← List.drop_drop, hd, ht, List.append_assoc, List.drop_left]
  have e3 : us.drop (p + (bV t).length) = r := by rw [← List.drop_drop, hd, List.drop_left]
  rw [h.2, hF, e1, e2, e3]
  simp
/-- an element -/
theorem ctx.elem {us : List Int32} {q j : Nat} {v : Int} {s : List Int32} {l : List Mb} {K : Vl → Vl} (h : ctx us q (5, v, s, ofL l) K) (hv : vat us q (5, v, s, ofL l)) (hj : j < l.length) : ctx us (ip false (q + 1) l j) (l[j]).2 (fun u => K (5, v, s, ofL (l.set j ((l[j]).1, u)))) := by
  obtain ⟨h1, h2, h3, r, h4, h5⟩ := hv
  have el : l = l.take j ++ l[j] :: l.drop (j + 1) := by rw [← List.drop_eq_getElem_cons hj, List.take_append_drop]
  have es : ∀ u, l.set j ((l[j]).1, u) = l.take j ++ ((l[j]).1, u) :: l.drop (j + 1) := fun u => by rw [List.set_eq_take_append_cons_drop, if_pos hj]
  have e := ctx.sub (X := 91 :: jpre false (l.take j)) (Z := jpost false (l.drop (j + 1)) ++ [93]) (t' := (l[j]).2) (F := fun u => (5, v, s, ofL (l.set j ((l[j]).1, u)))) h h4 ?_ (fun u hu => wV_5 h3.2.2.1 ?_) (fun u => ?_)
  · rw [ip_pre, show q + 1 + (jpre false (l.take j)).length = q + (91 :: jpre false (l.take j)).length by simp only [List.length_cons]; omega]
    exact e
  · rw [bV_5]
    conv => lhs; rw [el]
    rw [jn_mid]
    simp [bM]
  · intro m hm
    rcases List.mem_or_eq_of_mem_set hm with c | c
    · exact h3.kids m c
    · rw [c]; exact ⟨(h3.kids _ (List.getElem_mem hj)).1, hu⟩
  · rw [bV_5, es, jn_mid]
    simp [bM]
/-- the value of a name -/
theorem ctx.memb {us : List Int32} {q j : Nat} {v : Int} {s : List Int32} {l : List Mb} {K : Vl → Vl} (h : ctx us q (6, v, s, ofL l) K) (hv : vat us q (6, v, s, ofL l)) (hj : j < l.length) : ctx us (ip true (q + 1) l j + (pstr (l[j]).1).length + 1) (l[j]).2 (fun u => K (6, v, s, ofL (l.set j ((l[j]).1, u)))) := by
  obtain ⟨h1, h2, h3, r, h4, h5⟩ := hv
  have el : l = l.take j ++ l[j] :: l.drop (j + 1) := by rw [← List.drop_eq_getElem_cons hj, List.take_append_drop]
  have es : ∀ u, l.set j ((l[j]).1, u) = l.take j ++ ((l[j]).1, u) :: l.drop (j + 1) := fun u => by rw [List.set_eq_take_append_cons_drop, if_pos hj]
  have e := ctx.sub (X := 123 :: (jpre true (l.take j) ++ (pstr (l[j]).1 ++ [58]))) (Z := jpost true (l.drop (j + 1)) ++ [125]) (t' := (l[j]).2) (F := fun u => (6, v, s, ofL (l.set j ((l[j]).1, u)))) h h4 ?_ (fun u hu => wV_6 h3.2.2.1 ?_ ?_) (fun u => ?_)
  · rw [ip_pre, show q + 1 + (jpre true (l.take j)).length + (pstr (l[j]).1).length + 1 = q + (123 :: (jpre true (l.take j) ++ (pstr (l[j]).1 ++ [58]))).length by simp only [List.length_cons, List.length_append, List.length_nil]; omega]
    exact e
  · rw [bV_6]
    conv => lhs; rw [el]
    rw [jn_mid]
    simp [bM]
  · intro m hm
    rcases List.mem_or_eq_of_mem_set hm with c | c
    · exact h3.kids m c
    · rw [c]; exact ⟨(h3.kids _ (List.getElem_mem hj)).1, hu⟩
  · have := h3.nod
    unfold nod at this ⊢
    have e2 : (l.map fun m => m.1).set j (l[j]).1 = l.map fun m => m.1 := by
      have := List.set_getElem_self (as := l.map fun m => m.1) (i := j) (by rw [List.length_map]; exact hj)
      rw [List.getElem_map] at this
      exact this
    rw [List.map_set]
    show ((l.map fun m => m.1).set j (l[j]).1).Nodup
    rw [e2]
    exact this
  · rw [bV_6, es, jn_mid]
    simp [bM]
theorem bM_null (m : Mb) (h : m.2 = vNull) : bM false m = [110, 117, 108, 108] := by
  unfold bM
  rw [h]
  rfl
def nulM : Mb := ([], vNull)
def nulB (k : Nat) : List Int32 := jpre false (List.replicate k nulM)
theorem nulB_s (k : Nat) : nulB (k + 1) = [110, 117, 108, 108, 44] ++ nulB k := by
  unfold nulB jpre
  rw [List.replicate_succ, List.flatMap_cons, bM_null nulM rfl]
  rfl
theorem nulB_len (k : Nat) : (nulB k).length = 5 * k := by
  induction k with
  | zero => rfl
  | succ k ih => rw [nulB_s, List.length_append, ih]; simp only [List.length_cons, List.length_nil]; omega
theorem okL_nul (k : Nat) : okL (List.replicate k nulM) := fun m hm => by
  rw [List.eq_of_mem_replicate hm]
  exact ⟨(fun c hc => by cases hc), vNull_ok⟩
/-- elements come before the element hi, or behind all -/
theorem ctx.grow {us : List Int32} {q hi k : Nat} {v : Int} {s : List Int32} {l : List Mb} {K : Vl → Vl} (h : ctx us q (5, v, s, ofL l) K) (hv : vat us q (5, v, s, ofL l)) (hh : hi ≤ l.length) : (hi < l.length → wctx (us.take (ip false (q + 1) l hi) ++ nulB k) (44 :: us.drop (ip false (q + 1) l hi)) (fun u => K (5, v, s, ofL (l.take hi ++ (List.replicate k nulM ++ ([], u) :: l.drop hi))))) ∧ (hi = l.length → wctx (us.take (q + (bV (5, v, s, ofL l)).length - 1) ++ ((if l = [] then [] else [44]) ++ nulB k)) (us.drop (q + (bV (5, v, s, ofL l)).length - 1)) (fun u => K (5, v, s, ofL (l.take hi ++ (List.replicate k nulM ++ ([], u) :: l.drop hi))))) := by
  obtain ⟨h1, h2, h3, r, h4, h5⟩ := hv
  have hw : ∀ u, wV u → wV (5, v, s, ofL (l.take hi ++ (List.replicate k nulM ++ ([], u) :: l.drop hi))) := fun u hu => wV_5 h3.2.2.1 fun m hm => by
    rcases List.mem_append.mp hm with c | c
    · exact h3.kids m (List.mem_of_mem_take c)
    · rcases List.mem_append.mp c with c | c
      · exact okL_nul k m c
      · rcases List.mem_cons.mp c with c | c
        · rw [c]; exact ⟨(fun c hc => by cases hc), hu⟩
        · exact h3.kids m (List.mem_of_mem_drop c)
  have eF : ∀ u, bV (5, v, s, ofL (l.take hi ++ (List.replicate k nulM ++ ([], u) :: l.drop hi))) = 91 :: (jpre false (l.take hi) ++ (nulB k ++ (bV u ++ (jpost false (l.drop hi) ++ [93])))) := fun u => by
    rw [bV_5, ← List.append_assoc, jn_mid, jpre_app]
    unfold nulB
    simp [bM]
  refine ⟨fun c => ?_, fun c => ?_⟩
  · have hne : l.drop hi ≠ [] := by rw [Ne, List.drop_eq_nil_iff]; omega
    have e := ctx.ins (X := 91 :: jpre false (l.take hi)) (Z := jn ((l.drop hi).map (bM false)) ++ [93]) (I := nulB k) (J := [44]) (F := fun u => (5, v, s, ofL (l.take hi ++ (List.replicate k nulM ++ ([], u) :: l.drop hi)))) h h4 ?_ hw (fun u => ?_)
    · rw [ip_pre, show q + 1 + (jpre false (l.take hi)).length = q + (91 :: jpre false (l.take hi)).length by simp only [List.length_cons]; omega]
      exact e
    · rw [bV_5]
      conv => lhs; rw [← List.take_append_drop hi l]
      rw [jn_pre false hne]
      simp
    · rw [eF, jpost_jn false hne]
      simp
  · have hd : l.drop hi = [] := List.drop_eq_nil_of_le (by omega)
    have ht : l.take hi = l := List.take_of_length_le (by omega)
    have e := ctx.ins (X := 91 :: jn (l.map (bM false))) (Z := [93]) (I := (if l = [] then [] else [44]) ++ nulB k) (J := []) (F := fun u => (5, v, s, ofL (l.take hi ++ (List.replicate k nulM ++ ([], u) :: l.drop hi)))) h h4 (by rw [bV_5]; rfl) hw (fun u => ?_)
    · rw [show q + (bV (5, v, s, ofL l)).length - 1 = q + (91 :: jn (l.map (bM false))).length by rw [bV_5]; simp only [List.length_cons, List.length_append, List.length_nil]; omega]
      exact e
    · rw [eF, hd, ht]
      by_cases hn : l = []
      · subst hn
        simp [jpre, jpost, jn]
      · rw [jpre_jn false hn, if_neg hn]
        simp [jpost]
/-- a new name, behind all -/
theorem ctx.newName {us : List Int32} {q : Nat} {v : Int} {s nm : List Int32} {l : List Mb} {K : Vl → Vl} (h : ctx us q (6, v, s, ofL l) K) (hv : vat us q (6, v, s, ofL l)) (hn : okS nm) (hnot : ∀ m ∈ l, m.1 ≠ nm) : wctx (us.take (q + (bV (6, v, s, ofL l)).length - 1) ++ ((if l = [] then [] else [44]) ++ (pstr nm ++ [58]))) (us.drop (q + (bV (6, v, s, ofL l)).length - 1)) (fun u => K (6, v, s, ofL (l ++ [(nm, u)]))) := by
  obtain ⟨h1, h2, h3, r, h4, h5⟩ := hv
  have e := ctx.ins (X := 123 :: jn (l.map (bM true))) (Z := [125]) (I := (if l = [] then [] else [44]) ++ (pstr nm ++ [58])) (J := []) (F := fun u => (6, v, s, ofL (l ++ [(nm, u)]))) h h4 (by rw [bV_6]; rfl) (fun u hu => wV_6 h3.2.2.1 ?_ ?_) (fun u => ?_)
  · rw [show q + (bV (6, v, s, ofL l)).length - 1 = q + (123 :: jn (l.map (bM true))).length by rw [bV_6]; simp only [List.length_cons, List.length_append, List.length_nil]; omega]
    exact e
  · intro m hm
    rcases List.mem_append.mp hm with c | c
    · exact h3.kids m c
    · rw [List.mem_singleton.mp c]; exact ⟨hn, hu⟩
  · have := h3.nod
    unfold nod at this ⊢
    rw [List.map_append, List.nodup_append]
    refine ⟨this, by simp, ?_⟩
    intro a ha b hb e
    obtain ⟨m, hm, rfl⟩ := List.mem_map.mp ha
    have : b = nm := by simpa using hb
    exact hnot m hm (e.trans this)
  · rw [bV_6, jn_mid]
    by_cases hn : l = []
    · subst hn
      simp [jpre, jpost, jn, bM]
    · rw [jpre_jn true hn, if_neg hn]
      simp [jpost, bM]
/-- what null becomes -/
theorem wctx.obj {B R nm : List Int32} {K : Vl → Vl} (h : wctx B R K) (hn : okS nm) : wctx (B ++ (123 :: (pstr nm ++ [58]))) (125 :: R) (fun u => K (6, 0, [], ofL [(nm, u)])) := by
  refine ⟨fun u hu => h.1 _ (wV_6 (fun c hc => by cases hc) (fun m hm => by rw [List.mem_singleton.mp hm]; exact ⟨hn, hu⟩) ?_), fun u => ?_⟩
  · unfold nod; simp
  · rw [h.2, bV_6]
    simp [jn, bM]
theorem wctx.arr {B R : List Int32} {K : Vl → Vl} (h : wctx B R K) (k : Nat) : wctx (B ++ (91 :: nulB k)) (93 :: R) (fun u => K (5, 0, [], ofL (List.replicate k nulM ++ [([], u)]))) := by
  refine ⟨fun u hu => h.1 _ (wV_5 (fun c hc => by cases hc) (fun m hm => ?_)), fun u => ?_⟩
  · rcases List.mem_append.mp hm with c | c
    · exact okL_nul k m c
    · rw [List.mem_singleton.mp c]; exact ⟨(fun c hc => by cases hc), hu⟩
  · rw [h.2, bV_5, jn_mid]
    unfold nulB
    simp [jpost, bM]
end Ctx155
end

section
/-! Parts of a box go, or others come. -/
section Gap156
theorem jpost_app (b : Bool) (A B : List Mb) : jpost b (A ++ B) = jpost b A ++ jpost b B := by
  unfold jpost; rw [List.flatMap_append]
theorem jn_ap2 (b : Bool) {A : List Mb} (B : List Mb) (hA : A ≠ []) : jn ((A ++ B).map (bM b)) = jn (A.map (bM b)) ++ jpost b B := by
  cases A with
  | nil => exact absurd rfl hA
  | cons m A => rw [List.cons_append, jn_post, jn_post, jpost_app, List.append_assoc]
theorem mid_ne {l : List Mb} {lo hi : Nat} (h1 : lo < hi) (h2 : hi ≤ l.length) : (l.drop lo).take (hi - lo) ≠ [] := by
  intro e
  have := congrArg List.length e
  rw [List.length_take, List.length_drop] at this
  simp only [List.length_nil] at this
  omega
theorem box_split (b : Bool) {l : List Mb} {lo hi : Nat} (h1 : lo < hi) (h2 : hi ≤ l.length) : jn (l.map (bM b)) = jpre b (l.take lo) ++ (jn (((l.drop lo).take (hi - lo)).map (bM b)) ++ jpost b (l.drop hi)) := by
  have e : l = l.take lo ++ ((l.drop lo).take (hi - lo) ++ l.drop hi) := by
    have : l.drop hi = (l.drop lo).drop (hi - lo) := by rw [List.drop_drop]; congr 1; omega
    rw [this, List.take_append_drop, List.take_append_drop]
  have hne := mid_ne h1 h2
  conv => lhs; rw [e]
  rw [jn_pre b (by simp [hne]), jn_ap2 b _ hne]
/-- the items lo to before hi, in the text -/
theorem span_at {us r : List Int32} {b : Bool} {ob cl : Int32} {l : List Mb} {q lo hi : Nat} (h1 : lo < hi) (h2 : hi ≤ l.length) (hd : us.drop q = ob :: (jn (l.map (bM b)) ++ cl :: r)) : us.take (ip b (q + 1) l lo) = us.take q ++ ob :: jpre b (l.take lo) ∧ us.drop (ip b (q + 1) l (hi - 1) + (bM b (l[hi - 1]'(by omega))).length) = jpost b (l.drop hi) ++ cl :: r := by
  have hs := box_split b h1 h2
  rw [hs] at hd
  have e1 : ip b (q + 1) l lo = q + (ob :: jpre b (l.take lo)).length := by rw [ip_pre]; simp only [List.length_cons]; omega
  have e2 : ip b (q + 1) l (hi - 1) + (bM b (l[hi - 1]'(by omega))).length = q + ((ob :: jpre b (l.take lo)).length + (jn (((l.drop lo).take (hi - lo)).map (bM b))).length) := by
    rw [ip_last h1 h2, e1]; omega
  refine ⟨?_, ?_⟩
  · rw [e1, List.take_add, hd]
    congr 1
    rw [show ob :: (jpre b (l.take lo) ++ (jn (((l.drop lo).take (hi - lo)).map (bM b)) ++ jpost b (l.drop hi)) ++ cl :: r) = (ob :: jpre b (l.take lo)) ++ ((jn (((l.drop lo).take (hi - lo)).map (bM b)) ++ jpost b (l.drop hi)) ++ cl :: r) by simp, List.take_left]
  · rw [e2, ← List.drop_drop, hd, ← List.length_append, show ob :: (jpre b (l.take lo) ++ (jn (((l.drop lo).take (hi - lo)).map (bM b)) ++ jpost b (l.drop hi)) ++ cl :: r) = ((ob :: jpre b (l.take lo)) ++ jn (((l.drop lo).take (hi - lo)).map (bM b))) ++ (jpost b (l.drop hi) ++ cl :: r) by simp, List.drop_left]
/-- items go, with one comma beside them -/
theorem cut_text {us r : List Int32} {b : Bool} {ob cl : Int32} {l : List Mb} {q lo hi f e : Nat} (hob : ob ≠ 44) (hcl : cl ≠ 44) (hl : us.length ≤ 4096) (h1 : lo < hi) (h2 : hi ≤ l.length) (hd : us.drop q = ob :: (jn (l.map (bM b)) ++ cl :: r)) (hf : f = ip b (q + 1) l lo) (he : e = ip b (q + 1) l (hi - 1) + (bM b (l[hi - 1]'(by omega))).length) : 0 < f ∧ e < 4096 ∧ ((tat us (Int32.ofNat e) = 44 ∧ us.take f ++ us.drop (e + 1) = us.take q ++ ob :: (jn ((l.take lo ++ l.drop hi).map (bM b)) ++ cl :: r)) ∨ (tat us (Int32.ofNat e) ≠ 44 ∧ tat us (Int32.ofNat (f - 1)) = 44 ∧ us.take (f - 1) ++ us.drop e = us.take q ++ ob :: (jn ((l.take lo ++ l.drop hi).map (bM b)) ++ cl :: r)) ∨ (tat us (Int32.ofNat e) ≠ 44 ∧ tat us (Int32.ofNat (f - 1)) ≠ 44 ∧ us.take f ++ us.drop e = us.take q ++ ob :: (jn ((l.take lo ++ l.drop hi).map (bM b)) ++ cl :: r))) := by
  obtain ⟨s1, s2⟩ := span_at h1 h2 hd
  rw [← hf] at s1
  rw [← he] at s2
  have f1 : f = q + (1 + (jpre b (l.take lo)).length) := by rw [hf, ip_pre]; omega
  have e1 : e < us.length := by
    apply Classical.byContradiction
    intro c
    rw [List.drop_eq_nil_of_le (by omega)] at s2
    have := congrArg List.length s2
    simp only [List.length_nil, List.length_append, List.length_cons] at this
    omega
  refine ⟨by omega, by omega, ?_⟩
  by_cases hh : hi < l.length
  · have hne : l.drop hi ≠ [] := by rw [Ne, List.drop_eq_nil_iff]; omega
    rw [jpost_jn b hne] at s2
    left
    refine ⟨drop_at hl s2, ?_⟩
    rw [s1, ← List.drop_drop, s2, jn_pre b hne]
    simp
  · have hdr : l.drop hi = [] := List.drop_eq_nil_of_le (by omega)
    rw [hdr] at s2
    right
    have te : tat us (Int32.ofNat e) ≠ 44 := by rw [drop_at hl s2]; exact hcl
    rw [hdr, List.append_nil]
    -- the byte before
    have fl : f ≤ us.length := by
      have := congrArg List.length s1
      rw [List.length_take, List.length_append, List.length_take] at this
      simp only [List.length_cons] at this
      have hq : q < us.length := by
        apply Classical.byContradiction
        intro c
        rw [List.drop_eq_nil_of_le (by omega)] at hd
        cases hd
      omega
    have bf : ∀ (Y : List Int32) (x : Int32), us.take f = Y ++ [x] → tat us (Int32.ofNat (f - 1)) = x ∧ us.take (f - 1) = Y := by
      intro Y x hY
      have hYl : Y.length = f - 1 := by
        have := congrArg List.length hY
        rw [List.length_take, List.length_append] at this
        simp only [List.length_cons, List.length_nil] at this
        omega
      refine ⟨?_, ?_⟩
      · apply drop_at (r := us.drop f) hl
        conv => lhs; rw [← List.take_append_drop f us, hY]
        rw [List.append_assoc, ← hYl, List.drop_left]
        rfl
      · have : us.take (f - 1) = (us.take f).take (f - 1) := by rw [List.take_take, Nat.min_eq_left (by omega)]
        rw [this, hY, ← hYl, List.take_left]
    by_cases h0 : lo = 0
    · subst h0
      right
      have hY : us.take f = us.take q ++ [ob] := by rw [s1]; simp [jpre]
      obtain ⟨b1, b2⟩ := bf _ _ hY
      refine ⟨te, by rw [b1]; exact hob, ?_⟩
      rw [hY, s2]
      simp [jn, jpost]
    · left
      have hne : l.take lo ≠ [] := by
        intro c
        have := congrArg List.length c
        rw [List.length_take] at this
        simp only [List.length_nil] at this
        omega
      have hY : us.take f = (us.take q ++ ob :: jn ((l.take lo).map (bM b))) ++ [44] := by rw [s1, jpre_jn b hne]; simp
      obtain ⟨b1, b2⟩ := bf _ _ hY
      refine ⟨te, b1, ?_⟩
      rw [b2, s2]
      simp [jpost]
/-- others come instead of items -/
theorem put_text {us r : List Int32} {b : Bool} {ob cl : Int32} {l lv : List Mb} {q lo hi : Nat} (h2 : hi ≤ l.length) (hlh : lo ≤ hi) (hv : lv ≠ []) (hd : us.drop q = ob :: (jn (l.map (bM b)) ++ cl :: r)) : (∀ h1 : lo < hi, us.take (ip b (q + 1) l lo) ++ (jn (lv.map (bM b)) ++ us.drop (ip b (q + 1) l (hi - 1) + (bM b (l[hi - 1]'(by omega))).length)) = us.take q ++ ob :: (jn ((l.take lo ++ (lv ++ l.drop hi)).map (bM b)) ++ cl :: r)) ∧ (lo = hi → hi < l.length → us.take (ip b (q + 1) l lo) ++ (jn (lv.map (bM b)) ++ 44 :: us.drop (ip b (q + 1) l lo)) = us.take q ++ ob :: (jn ((l.take lo ++ (lv ++ l.drop hi)).map (bM b)) ++ cl :: r)) ∧ (lo = hi → hi = l.length → us.take (q + (jn (l.map (bM b))).length + 1) ++ ((if l = [] then [] else [44]) ++ (jn (lv.map (bM b)) ++ us.drop (q + (jn (l.map (bM b))).length + 1))) = us.take q ++ ob :: (jn ((l.take lo ++ (lv ++ l.drop hi)).map (bM b)) ++ cl :: r)) := by
  have ej : jn ((l.take lo ++ (lv ++ l.drop hi)).map (bM b)) = jpre b (l.take lo) ++ (jn (lv.map (bM b)) ++ jpost b (l.drop hi)) := by
    rw [jn_pre b (by simp [hv]), jn_ap2 b _ hv]
  refine ⟨fun h1 => ?_, fun e h1 => ?_, fun e h1 => ?_⟩
  · obtain ⟨s1, s2⟩ := span_at h1 h2 hd
    rw [s1, s2, ej]
    simp
  · subst e
    have hne : l.drop lo ≠ [] := by rw [Ne, List.drop_eq_nil_iff]; omega
    have hd' := hd
    rw [show l = l.take lo ++ l.drop lo from (List.take_append_drop lo l).symm, jn_pre b hne] at hd'
    have e1 : ip b (q + 1) l lo = q + (ob :: jpre b (l.take lo)).length := by rw [ip_pre]; simp only [List.length_cons]; omega
    have t1 : us.take (q + (ob :: jpre b (l.take lo)).length) = us.take q ++ ob :: jpre b (l.take lo) := by
      rw [List.take_add, hd]
      congr 1
      conv => lhs; rw [show l = l.take lo ++ l.drop lo from (List.take_append_drop lo l).symm]
      rw [jn_pre b hne, List.take_append_drop, show ob :: (jpre b (l.take lo) ++ jn ((l.drop lo).map (bM b)) ++ cl :: r) = (ob :: jpre b (l.take lo)) ++ (jn ((l.drop lo).map (bM b)) ++ cl :: r) by simp, List.take_left]
    have t2 : us.drop (q + (ob :: jpre b (l.take lo)).length) = jn ((l.drop lo).map (bM b)) ++ cl :: r := by
      rw [← List.drop_drop, hd]
      have : jn (l.map (bM b)) = jpre b (l.take lo) ++ jn ((l.drop lo).map (bM b)) := by
        conv => lhs; rw [show l = l.take lo ++ l.drop lo from (List.take_append_drop lo l).symm]
        rw [jn_pre b hne]
      rw [this, show ob :: (jpre b (l.take lo) ++ jn ((l.drop lo).map (bM b)) ++ cl :: r) = (ob :: jpre b (l.take lo)) ++ (jn ((l.drop lo).map (bM b)) ++ cl :: r) by simp, List.drop_left]
    rw [e1, t1, t2, ej, jpost_jn b hne]
    simp
  · subst e
    have hdr : l.drop lo = [] := List.drop_eq_nil_of_le (by omega)
    have htk : l.take lo = l := List.take_of_length_le (by omega)
    have e1 : q + (jn (l.map (bM b))).length + 1 = q + (ob :: jn (l.map (bM b))).length := by simp only [List.length_cons]; omega
    have hd' : us.drop q = (ob :: jn (l.map (bM b))) ++ cl :: r := by rw [hd]; simp
    have t1 : us.take (q + (ob :: jn (l.map (bM b))).length) = us.take q ++ ob :: jn (l.map (bM b)) := by rw [List.take_add, hd', List.take_left]
    have t2 : us.drop (q + (ob :: jn (l.map (bM b))).length) = cl :: r := by rw [← List.drop_drop, hd', List.drop_left]
    rw [e1, t1, t2, ej, hdr, htk]
    by_cases hn : l = []
    · subst hn
      simp [jpre, jpost, jn]
    · rw [jpre_jn b hn, if_neg hn]
      simp [jpost]
end Gap156
end

section
/-! What the class's Putter writes. -/
section Put157
/-- the same bytes, or both too many -/
def eqT (X Y : List Int32) : Prop := X = Y ∨ (4096 < X.length ∧ 4096 < Y.length)
theorem eqT.app {X Y : List Int32} (h : eqT X Y) (Z : List Int32) : eqT (X ++ Z) (Y ++ Z) := by
  rcases h with h | ⟨h1, h2⟩
  · exact Or.inl (by rw [h])
  · exact Or.inr ⟨by rw [List.length_append]; omega, by rw [List.length_append]; omega⟩
theorem eqT.refl (X : List Int32) : eqT X X := Or.inl rfl
theorem eqT.trans {X Y Z : List Int32} (h : eqT X Y) (h' : eqT Y Z) : eqT X Z := by
  rcases h with h | ⟨h1, h2⟩
  · rw [h]; exact h'
  · rcases h' with e | ⟨h3, h4⟩
    · rw [← e]; exact Or.inr ⟨h1, h2⟩
    · exact Or.inr ⟨h1, h4⟩
/-- nothing but the Spot, the Putter, its Gap, its closings and the draft -/
def frU (S S' : SS) (dr : Nat) : Prop := ∀ a, a ≠ 67 → a ≠ 69 → a ≠ 70 → a ≠ 71 → a ≠ dr → S' a = S a
theorem frU.refl (S : SS) (dr : Nat) : frU S S dr := fun _ _ _ _ _ _ => rfl
theorem frU.trans {S S1 S2 : SS} {dr : Nat} (h : frU S S1 dr) (h' : frU S1 S2 dr) : frU S S2 dr := fun a n1 n2 n3 n4 n5 => (h' a n1 n2 n3 n4 n5).trans (h a n1 n2 n3 n4 n5)
theorem frU_67 {S S1 : SS} (dr : Nat) (h : fr67 S S1) : frU S S1 dr := fun a n1 _ _ _ _ => h a n1
def pu (S : SS) (ta dr op : Nat) (wri bp nb : Int32) : Prop := ∃ x y z : Int32, S 69 = [x, y, z, Int32.ofNat op, Int32.ofNat ta, Int32.ofNat dr, wri, bp, nb]
def cls (S : SS) (cl : List Int32) : Prop := (S 71).length = 100 ∧ ∃ j, S 71 = cl ++ j
/-- the Putter writes: what it wrote, what it will close -/
def wrS (S : SS) (ta dr : Nat) (bp nb : Int32) (cl B : List Int32) (f to cb ch : Int32) : Prop := pu S ta dr cl.length 1 bp nb ∧ cls S cl ∧ S 70 = [f, to, cb, ch] ∧ S dr = pv B
def nU (dr : Nat) : Prop := dr < 1000 ∧ dr ≠ 67 ∧ dr ≠ 69 ∧ dr ≠ 70 ∧ dr ≠ 71
theorem pu.dr {S : SS} {ta dr op : Nat} {wri bp nb : Int32} (h : pu S ta dr op wri bp nb) (hd : dr < 1000) : (rd S 69 5).toNatClampNeg = dr := by
  obtain ⟨x, y, z, h⟩ := h
  unfold rd
  rw [h]
  exact i_cl (by omega)
theorem pu.ta {S : SS} {ta dr op : Nat} {wri bp nb : Int32} (h : pu S ta dr op wri bp nb) (hd : ta < 1000) : (rd S 69 4).toNatClampNeg = ta := by
  obtain ⟨x, y, z, h⟩ := h
  unfold rd
  rw [h]
  exact i_cl (by omega)
theorem pu.flag {S : SS} {ta dr op : Nat} {wri bp nb : Int32} (h : pu S ta dr op wri bp nb) : rd S 69 3 = Int32.ofNat op ∧ rd S 69 6 = wri ∧ rd S 69 7 = bp ∧ rd S 69 8 = nb := by
  obtain ⟨x, y, z, h⟩ := h
  unfold rd
  rw [h]
  exact ⟨rfl, rfl, rfl, rfl⟩
theorem pu.up {S : SS} {ta dr op a : Nat} {wri bp nb : Int32} {L : List Int32} (h : pu S ta dr op wri bp nb) (ha : a ≠ 69) : pu (up S a L) ta dr op wri bp nb := by
  unfold pu
  rw [up_ne (fun e => ha e.symm)]
  exact h
theorem pu.w7 {S : SS} {ta dr op : Nat} {wri bp nb : Int32} (h : pu S ta dr op wri bp nb) (v : Int32) : pu (wr S 69 7 v) ta dr op wri v nb := by
  obtain ⟨x, y, z, h⟩ := h
  exact ⟨x, y, z, by rw [wr_eq h, up_same]; rfl⟩
theorem pu.w8 {S : SS} {ta dr op : Nat} {wri bp nb : Int32} (h : pu S ta dr op wri bp nb) (v : Int32) : pu (wr S 69 8 v) ta dr op wri bp v := by
  obtain ⟨x, y, z, h⟩ := h
  exact ⟨x, y, z, by rw [wr_eq h, up_same]; rfl⟩
theorem pu.w6 {S : SS} {ta dr op : Nat} {wri bp nb : Int32} (h : pu S ta dr op wri bp nb) (v : Int32) : pu (wr S 69 6 v) ta dr op v bp nb := by
  obtain ⟨x, y, z, h⟩ := h
  exact ⟨x, y, z, by rw [wr_eq h, up_same]; rfl⟩
theorem pu.w3 {S : SS} {ta dr op op' : Nat} {wri bp nb : Int32} (h : pu S ta dr op wri bp nb) : pu (wr S 69 3 (Int32.ofNat op')) ta dr op' wri bp nb := by
  obtain ⟨x, y, z, h⟩ := h
  exact ⟨x, y, z, by rw [wr_eq h, up_same]; rfl⟩
theorem sput_at {S : SS} {o : Nat} {B : List Int32} {v : Int32} (h : S o = pv B) (hv : v &&& 255 = v) : sput S o v = up S o (pv (B ++ [v])) := by
  have := sput_pv S o B v
  rw [hv, ← h, up_self] at this
  exact this
theorem sputs_at {S : SS} {o : Nat} {B bs : List Int32} (h : S o = pv B) (hv : byt bs) : sputs S o bs = up S o (pv (B ++ bs)) := by
  have := sputs_pv bs S o B hv
  rw [← h, up_self] at this
  exact this
theorem spart_at {S : SS} {o p : Nat} {B : List Int32} {f w : Nat} (h : S o = pv B) (hop : o ≠ p) (hf : f ≤ 100000) (hw : w < 2147483648) : spart S o p (Int32.ofNat f) (Int32.ofNat w) = some (up S o (pv (B ++ ((tT S p).take w).drop f))) := by
  have z1 : ¬ Int32.ofNat w < -10000 := by
    rw [show (-10000 : Int32) = Int32.ofInt (-10000) from rfl, i_lt, i_ofInt (by decide) (by decide), i_of (by omega)]
    omega
  have z2 : ¬ 100000 < Int32.ofNat f := by
    rw [show (100000 : Int32) = Int32.ofNat 100000 from rfl, i_lt' (by omega) (by omega)]
    omega
  have := spart_pv (S := S) (o := o) (p := p) (B := B) (f := Int32.ofNat f) (w := Int32.ofNat w) hop z1 z2
  rw [← h, up_self] at this
  rw [this]
  unfold tcut
  rw [i_cl (by omega), i_cl (by omega)]
/-- the draft grows -/
theorem wrS.grow {S : SS} {ta dr : Nat} {bp nb : Int32} {cl B B' : List Int32} {f to cb ch : Int32} (hd : nU dr) (h : wrS S ta dr bp nb cl B f to cb ch) : wrS (up S dr (pv B')) ta dr bp nb cl B' f to cb ch ∧ frU S (up S dr (pv B')) dr ∧ (up S dr (pv B')) 67 = S 67 := by
  obtain ⟨h1, h2, h3, h4⟩ := h
  obtain ⟨d1, d2, d3, d4, d5⟩ := hd
  refine ⟨⟨h1.up d3, ?_, ?_, up_same⟩, fun a n1 n2 n3 n4 n5 => up_ne n5, up_ne (fun e => d2 e.symm)⟩
  · unfold cls
    rw [up_ne (fun e => d5 e.symm)]
    exact h2
  · rw [up_ne (fun e => d4 e.symm)]
    exact h3
theorem uopen_val {S : SS} {ta dr : Nat} {bp nb : Int32} {cl B : List Int32} {f to cb ch x y : Int32} (hd : nU dr) (h : wrS S ta dr bp nb cl B f to cb ch) (hc : cl.length < 100) (hx : x &&& 255 = x) (hy : y.toInt8.toInt32.toInt8.toInt32 = y) : ∃ S', u_open S x y = some S' ∧ wrS S' ta dr 0 nb (cl ++ [y]) (B ++ [x]) f to cb ch ∧ frU S S' dr ∧ S' 67 = S 67 := by
  obtain ⟨h1, ⟨h2, j, h2'⟩, h3, h4⟩ := id h
  obtain ⟨d1, d2, d3, d4, d5⟩ := id hd
  have a1 : wrS (wr S 69 7 0) ta dr 0 nb cl B f to cb ch := by
    refine ⟨h1.w7 0, ?_, ?_, ?_⟩
    · unfold cls; rw [wr_ne (by decide)]; exact ⟨h2, j, h2'⟩
    · rw [wr_ne (by decide)]; exact h3
    · rw [wr_ne d3]; exact h4
  have e5 : (rd (wr S 69 7 0) 69 5).toNatClampNeg = dr := a1.1.dr d1
  have es : sput (wr S 69 7 0) dr x = up (wr S 69 7 0) dr (pv (B ++ [x])) := sput_at a1.2.2.2 hx
  obtain ⟨a2, a3, a4⟩ := wrS.grow (B' := B ++ [x]) hd a1
  obtain ⟨X, hX⟩ : ∃ X, X = up (wr S 69 7 0) dr (pv (B ++ [x])) := ⟨_, rfl⟩
  rw [← hX] at a2 a3 a4
  unfold u_open
  rw [e5, es, ← hX]
  obtain ⟨b1, ⟨b2, j2, b2'⟩, b3, b4⟩ := id a2
  obtain ⟨c1, c2, c3, c4⟩ := b1.flag
  have jl : cl.length + j2.length = 100 := by rw [← List.length_append, ← b2']; exact b2
  rw [c1, b2, if_neg (by rw [i_le' (by omega) (by omega)]; omega), i_set (by rw [b2]; omega) (by omega), o_bind, hy, rd_up (by decide), c1, i_a1]
  refine ⟨_, rfl, ⟨?_, ?_, ?_, ?_⟩, fun a n1 n2 n3 n4 n5 => ?_, ?_⟩
  · have := pu.w3 (op' := cl.length + 1) (b1.up (a := 71) (L := (X 71).set cl.length y) (by decide))
    rw [List.length_append]
    exact this
  · unfold cls
    rw [wr_ne (by decide), up_same, List.length_set]
    refine ⟨b2, j2.drop 1, ?_⟩
    cases j2 with
    | nil => simp only [List.length_nil] at jl; omega
    | cons w j2 =>
      rw [b2', List.set_append_right _ _ (Nat.le_refl _), Nat.sub_self]
      simp
  · rw [wr_ne (by decide), up_ne (by decide)]; exact b3
  · rw [wr_ne d3, up_ne d5]; exact b4
  · rw [wr_ne n2, up_ne n4, a3 a n1 n2 n3 n4 n5, wr_ne n2]
  · rw [wr_ne (by decide), up_ne (by decide), a4, wr_ne (by decide)]
theorem bV_4 {pi : Vl} (e4 : pi.1 = 4) : bV pi = pstr pi.2.2.1 := by
  conv => lhs; rw [vl4 e4]
  rfl
theorem uname_val {S : SS} {ta dr t1 q2 : Nat} {bp nb : Int32} {cl B : List Int32} {f to cb ch : Int32} {pi : Vl} (hd : nU dr) (h : wrS S ta dr bp nb cl B f to cb ch) (ht1 : t1 ≠ dr) (hp : vat (tT S t1) q2 pi) (e4 : pi.1 = 4) : ∃ S', u_name S t1 (Int32.ofNat q2) = some S' ∧ wrS S' ta dr bp nb cl (B ++ (pstr pi.2.2.1 ++ [58])) f to cb ch ∧ frU S S' dr ∧ S' 67 = S 67 := by
  obtain ⟨g1, g2, g3⟩ := wrS.grow (B' := B ++ (pstr pi.2.2.1 ++ [58])) hd h
  refine ⟨_, ?_, g1, g2, g3⟩
  have hl := hp.1
  have hlt := hp.lt
  obtain ⟨-, -, -, r, hd1, -⟩ := id hp
  unfold u_name
  have e5 := h.1.dr hd.1
  rw [hp.past, o_bind, e5, spart_at h.2.2.2 (fun e => ht1 e.symm) (by omega) (by omega), o_bind]
  have ec : ((tT S t1).take (q2 + (bV pi).length)).drop q2 = pstr pi.2.2.1 := by
    rw [List.drop_take, hd1, Nat.add_sub_cancel_left, List.take_left, bV_4 e4]
  obtain ⟨k1, -, -⟩ := wrS.grow (B' := B ++ pstr pi.2.2.1) hd h
  rw [ec, k1.1.dr hd.1, sput_at k1.2.2.2 (by decide), up_up, List.append_assoc]
theorem unulls_l {ta dr : Nat} {bp nb : Int32} {cl : List Int32} {f to cb ch : Int32} {k : Nat} (hd : nU dr) (hk : k ≤ 1000) : ∀ (m j n : Nat) (S : SS) (B : List Int32), j + m = k → m < n → wrS S ta dr bp nb cl B f to cb ch → ∃ S' B', u_nulls_l2 n S (Int32.ofNat k) (Int32.ofNat j) = some S' ∧ wrS S' ta dr bp nb cl B' f to cb ch ∧ eqT B' (B ++ nulB m) ∧ frU S S' dr ∧ S' 67 = S 67 := by
  intro m
  induction m with
  | zero =>
    intro j n S B hj hn h
    obtain ⟨n, rfl⟩ : ∃ j, n = j + 1 := ⟨n - 1, by omega⟩
    refine ⟨S, B, ?_, h, Or.inl (by rw [show nulB 0 = [] from rfl, List.append_nil]), frU.refl _ _, rfl⟩
    unfold u_nulls_l2
    rw [if_pos ((i_le' (by omega) (by omega)).mpr (by omega))]
  | succ m ih =>
    intro j n S B hj hn h
    obtain ⟨n, rfl⟩ : ∃ j, n = j + 1 := ⟨n - 1, by omega⟩
    have e5 := h.1.dr hd.1
    have tv : tV S dr = if B.length ≤ 4096 then 0 else 1 := by unfold tV; rw [h.2.2.2]; rfl
    unfold u_nulls_l2
    rw [if_neg (by rw [i_le' (by omega) (by omega)]; omega), e5, tv]
    by_cases hB : B.length ≤ 4096
    · rw [if_pos hB, if_pos (by decide), sputs_at h.2.2.2 (by unfold byt; decide), i_a1]
      obtain ⟨g1, g2, g3⟩ := wrS.grow (B' := B ++ k15) hd h
      obtain ⟨S', B', j1, j2, j3, j4, j5⟩ := ih (j + 1) n _ _ (by omega) (by omega) g1
      refine ⟨S', B', j1, j2, ?_, g2.trans j4, j5.trans g3⟩
      rw [nulB_s, ← List.append_assoc]
      exact j3
    · rw [if_neg hB, if_neg (by decide)]
      exact ⟨S, B, rfl, h, Or.inr ⟨by omega, by rw [List.length_append]; omega⟩, frU.refl _ _, rfl⟩
theorem unulls_val {S : SS} {ta dr : Nat} {bp nb : Int32} {cl B : List Int32} {f to cb ch : Int32} {k : Nat} (hd : nU dr) (hk : k ≤ 1000) (h : wrS S ta dr bp nb cl B f to cb ch) : ∃ S' B', u_nulls S (Int32.ofNat k) = some S' ∧ wrS S' ta dr bp nb cl B' f to cb ch ∧ eqT B' (B ++ nulB k) ∧ frU S S' dr ∧ S' 67 = S 67 := unulls_l hd hk k 0 10000 S B (by omega) (by omega) h
/-- the end: closings, a comma, what is behind -/
theorem uclose_l {ta dr to : Nat} {bp nb : Int32} {us : List Int32} {f cb ch : Int32} (hd : nU dr) (hta : ta < 1000) (htd : ta ≠ dr) (hus : us.length ≤ 4096) (hto : to ≤ us.length) (hch : ch = 0 ∨ ch = 1) : ∀ (k n : Nat) (S : SS) (cl B : List Int32), k ≤ cl.length → k < n → byt cl → tT S ta = us → wrS S ta dr bp nb cl B f (Int32.ofNat to) cb ch → ∃ S', u_close_l7 n S (Int32.ofInt ((k : Int) - 1)) = some S' ∧ S' dr = pv (B ++ ((cl.take k).reverse ++ ((if ch = 1 then [44] else []) ++ us.drop to))) ∧ frU S S' dr ∧ (S' 71).length = 100 := by
  intro k
  induction k with
  | zero =>
    intro n S cl B hk hn hby ht h
    obtain ⟨n, rfl⟩ : ∃ j, n = j + 1 := ⟨n - 1, by omega⟩
    obtain ⟨h1, h2, h3, h4⟩ := id h
    have e1 : rd S 70 1 = Int32.ofNat to := by unfold rd; rw [h3]; rfl
    have e3 : rd S 70 3 = ch := by unfold rd; rw [h3]; rfl
    unfold u_close_l7 g_cH g_to
    rw [if_pos (by decide), o_bind, e3, h1.dr hd.1, h1.ta hta]
    rcases hch with c | c
    · subst c
      obtain ⟨g1, g2, g3⟩ := wrS.grow (B' := B ++ us.drop to) hd h
      rw [if_pos (by decide), o_bind, e1, ht, spart_at h4 (fun e => htd e.symm) (by omega) (by omega), o_bind, ht, List.take_of_length_le (Nat.le_refl _)]
      refine ⟨_, rfl, ?_, g2, g1.2.1.1⟩
      rw [up_same, if_neg (by decide)]
      simp
    · subst c
      obtain ⟨g1, g2, g3⟩ := wrS.grow (B' := B ++ [44]) hd h
      have tt : tT (up S dr (pv (B ++ [44]))) ta = us := by unfold tT at *; rw [up_ne htd]; exact ht
      obtain ⟨k1, k2, k3⟩ := wrS.grow (B' := B ++ [44] ++ us.drop to) hd g1
      have f1 : rd (up S dr (pv (B ++ [44]))) 70 1 = Int32.ofNat to := by unfold rd; rw [g1.2.2.1]; rfl
      rw [if_neg (by decide), sput_at h4 (by decide), o_bind, f1, g1.1.dr hd.1, g1.1.ta hta, tt, spart_at g1.2.2.2 (fun e => htd e.symm) (by omega) (by omega), o_bind, tt, List.take_of_length_le (Nat.le_refl _)]
      refine ⟨_, rfl, ?_, g2.trans k2, k1.2.1.1⟩
      rw [up_same, if_pos rfl]
      simp
  | succ k ih =>
    intro n S cl B hk hn hby ht h
    obtain ⟨n, rfl⟩ : ∃ j, n = j + 1 := ⟨n - 1, by omega⟩
    obtain ⟨h1, ⟨h2, j, h2'⟩, h3, h4⟩ := id h
    have jl : cl.length + j.length = 100 := by rw [← List.length_append, ← h2']; exact h2
    have e1 : Int32.ofInt (((k + 1 : Nat) : Int) - 1) = Int32.ofNat k := by
      rw [show (((k + 1 : Nat) : Int) - 1) = (k : Int) by omega]
      rfl
    have hk' : k < cl.length := by omega
    have ig : iget (S 71) (Int32.ofNat k) = some cl[k] := by
      rw [iget_in (by omega) (by omega)]
      congr 1
      have : (S 71)[k]'(by omega) = (cl ++ j)[k]'(by rw [List.length_append]; omega) := List.getElem_of_eq h2' _
      rw [this, List.getElem_append_left hk']
    have e2 : Int32.ofNat k + (-1) = Int32.ofInt ((k : Int) - 1) := by
      apply Int32.toInt_inj.mp
      have a1 : (Int32.ofNat k).toInt = (k : Int) := i_of (by omega)
      have a2 : (-1 : Int32).toInt = -1 := rfl
      rw [i_add (by rw [a1, a2]; omega) (by rw [a1, a2]; omega), a1, a2, i_ofInt (by omega) (by omega)]
      omega
    obtain ⟨g1, g2, g3⟩ := wrS.grow (B' := B ++ [cl[k]]) hd h
    have tt : tT (up S dr (pv (B ++ [cl[k]]))) ta = us := by unfold tT at *; rw [up_ne htd]; exact ht
    obtain ⟨S', j1, j2, j3, j4⟩ := ih n _ cl _ (by omega) (by omega) hby tt g1
    refine ⟨S', ?_, ?_, g2.trans j3, j4⟩
    · rw [e1]
      unfold u_close_l7
      rw [if_neg (by rw [show (0 : Int32) = Int32.ofNat 0 from rfl, i_lt' (by omega) (by omega)]; omega), ig, o_bind, h1.dr hd.1, sput_at h4 (hby _ (List.getElem_mem hk')), e2]
      exact j1
    · rw [j2, List.take_succ_eq_append_getElem hk', List.reverse_append]
      simp
theorem uclose_val {S : SS} {ta dr to : Nat} {bp nb : Int32} {us cl B : List Int32} {f cb ch : Int32} (hd : nU dr) (hta : ta < 1000) (htd : ta ≠ dr) (hus : us.length ≤ 4096) (hto : to ≤ us.length) (hch : ch = 0 ∨ ch = 1) (hcl : cl.length ≤ 100) (hby : byt cl) (ht : tT S ta = us) (h : wrS S ta dr bp nb cl B f (Int32.ofNat to) cb ch) : ∃ S', u_close S = some S' ∧ S' dr = pv (B ++ (cl.reverse ++ ((if ch = 1 then [44] else []) ++ us.drop to))) ∧ frU S S' dr ∧ (S' 71).length = 100 := by
  obtain ⟨S', j1, j2, j3, j4⟩ := uclose_l (f := f) (cb := cb) (bp := bp) (nb := nb) hd hta htd hus hto hch cl.length 10000 S cl B (Nat.le_refl _) (by omega) hby ht h
  rw [List.take_of_length_le (Nat.le_refl _)] at j2
  refine ⟨S', ?_, j2, j3, j4⟩
  unfold u_close
  rw [h.1.flag.1, ← j1]
  congr 1
  apply Int32.toInt_inj.mp
  have a1 : (Int32.ofNat cl.length).toInt = (cl.length : Int) := i_of (by omega)
  have a2 : (1 : Int32).toInt = 1 := rfl
  rw [i_sub (by rw [a1, a2]; omega) (by rw [a1, a2]; omega), a1, a2, i_ofInt (by omega) (by omega)]
/-- the Putter begins to write -/
theorem ustart_val {S : SS} {ta dr f : Nat} {bp nb : Int32} {us : List Int32} {to cb ch : Int32} (hd : nU dr) (hta : nU ta) (htd : ta ≠ dr) (hf : f ≤ 4096) (hcb : cb = 0 ∨ cb = 1) (ht : tT S ta = us) (h1 : pu S ta dr 0 0 bp nb) (h2 : (S 71).length = 100) (h3 : S 70 = [Int32.ofNat f, to, cb, ch]) (h4 : S dr = pv []) : ∃ S', u_start S = some S' ∧ wrS S' ta dr bp nb [] (us.take f ++ (if cb = 1 then [44] else [])) (Int32.ofNat f) to cb ch ∧ frU S S' dr ∧ S' 67 = S 67 := by
  obtain ⟨d1, d2, d3, d4, d5⟩ := id hd
  have a1 : wrS (wr S 69 6 1) ta dr bp nb [] [] (Int32.ofNat f) to cb ch := by
    refine ⟨h1.w6 1, ?_, ?_, ?_⟩
    · unfold cls; rw [wr_ne (by decide)]; exact ⟨h2, _, rfl⟩
    · rw [wr_ne (by decide)]; exact h3
    · rw [wr_ne d3]; exact h4
  have tt : tT (wr S 69 6 1) ta = us := by unfold tT at *; rw [wr_ne hta.2.2.1]; exact ht
  have fw : frU S (wr S 69 6 1) dr := fun a n1 n2 n3 n4 n5 => wr_ne n2
  have w67 : wr S 69 6 1 67 = S 67 := wr_ne (by decide)
  have e0 : rd (wr S 69 6 1) 70 0 = Int32.ofNat f := by unfold rd; rw [a1.2.2.1]; rfl
  obtain ⟨g1, g2, g3⟩ := wrS.grow (B' := us.take f) hd a1
  have es : spart (wr S 69 6 1) dr ta 0 (Int32.ofNat f) = some (up (wr S 69 6 1) dr (pv (us.take f))) := by
    rw [show (0 : Int32) = Int32.ofNat 0 from rfl, spart_at a1.2.2.2 (fun e => htd e.symm) (by omega) (by omega), tt, List.drop_zero, List.nil_append]
  have e2 : rd (up (wr S 69 6 1) dr (pv (us.take f))) 70 2 = cb := by unfold rd; rw [g1.2.2.1]; rfl
  unfold u_start g_from g_cB
  rw [o_bind, e0, a1.1.dr d1, a1.1.ta hta.1, es, o_bind, o_bind, e2, g1.1.dr d1]
  rcases hcb with c | c
  · subst c
    rw [if_pos (by decide), if_neg (by decide), List.append_nil]
    exact ⟨_, rfl, g1, fw.trans g2, g3.trans w67⟩
  · subst c
    obtain ⟨k1, k2, k3⟩ := wrS.grow (B' := us.take f ++ [44]) hd g1
    rw [if_neg (by decide), sput_at g1.2.2.2 (by decide), if_pos rfl]
    exact ⟨_, rfl, k1, (fw.trans g2).trans k2, k3.trans (g3.trans w67)⟩
end Put157
end
