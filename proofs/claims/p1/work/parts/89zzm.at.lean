/-! A value within a text, and within cells. -/
section At128
/-- a sign that ends a value -/
def stp (r : List Int32) : Prop := r = [] ∨ ∃ y r', r = y :: r' ∧ (y = 44 ∨ y = 93 ∨ y = 125)
def vat (us : List Int32) (q : Nat) (t : Vl) : Prop := us.length ≤ 4096 ∧ asc us ∧ wV t ∧ ∃ r, us.drop q = bV t ++ r ∧ stp r
def cat (as : List Int32) (p : Nat) (t : Vl) : Prop := as.length ≤ 9000 ∧ wV t ∧ ∃ r, as.drop p = cV t ++ r
theorem tl_stp (b : Bool) (l : List Mb) {z : Int32} {r : List Int32} (hz : z = 93 ∨ z = 125) : stp (tl b l ++ z :: r) := by
  right
  unfold tl
  by_cases e : l = []
  · rw [if_pos e]; exact ⟨z, r, rfl, Or.inr hz⟩
  · rw [if_neg e]; exact ⟨44, _, rfl, Or.inl rfl⟩
theorem vat.lt {us : List Int32} {q : Nat} {t : Vl} (h : vat us q t) : q + (bV t).length ≤ us.length ∧ q < us.length := by
  obtain ⟨h1, h2, h3, r, h4, h5⟩ := h
  have := drop_len h4 (bV_ne t)
  have := List.length_pos_iff.mpr (bV_ne t)
  omega
theorem vat.kind {us : List Int32} {q : Nat} {t : Vl} (h : vat us q t) : t_kind us (Int32.ofNat q) = some (Int32.ofNat t.1) := by
  obtain ⟨h1, h2, h3, r, h4, h5⟩ := h
  exact kind_val h1 h3.1 h4
theorem vat.past {us : List Int32} {q : Nat} {t : Vl} (h : vat us q t) : t_past us (Int32.ofNat q) = some (Int32.ofNat (q + (bV t).length)) := by
  have hl := h.lt
  obtain ⟨h1, h2, h3, r, h4, h5⟩ := h
  rcases h5 with e | ⟨y, r', e, hy⟩
  · rw [e, List.append_nil] at h4
    exact past_end h1 h2 h3 h4 (by omega)
  · rw [e] at h4
    exact past_val h1 h2 h3 h4 (by rcases hy with e | e | e <;> simp [e]) (by omega)
theorem vat.number {us : List Int32} {q : Nat} {v : Int} {s : List Int32} {f : Fo} (h : vat us q (3, v, s, f)) : t_number us (Int32.ofNat q) = some (Int64.ofInt v) := by
  obtain ⟨h1, h2, h3, r, h4, h5⟩ := h
  refine number_val h1 (h3.2.1 rfl) h4 ?_
  rcases h5 with e | ⟨y, r', e, hy⟩
  · exact Or.inl e
  · exact Or.inr ⟨y, r', e, by rcases hy with rfl | rfl | rfl <;> decide⟩
theorem vat.first {us : List Int32} {q k : Nat} {v : Int} {s : List Int32} {l : List Mb} (hk : k = 5 ∨ k = 6) (h : vat us q (k, v, s, ofL l)) : t_first us (Int32.ofNat q) = some (if l = [] then -1 else Int32.ofNat (q + 1)) := by
  obtain ⟨h1, h2, h3, r, h4, h5⟩ := h
  exact first_item h1 h3.kids hk h4
theorem vat.items {us : List Int32} {q k : Nat} {v : Int} {s : List Int32} {l : List Mb} (hk : k = 5 ∨ k = 6) (h : vat us q (k, v, s, ofL l)) : t_items us (Int32.ofNat q) = some (Int32.ofNat l.length) ∧ l.length < 4096 := by
  obtain ⟨h1, h2, h3, r, h4, h5⟩ := h
  have := box_len hk h4
  exact ⟨items_val h1 h2 h3.kids hk h4, by omega⟩
/-- what stands at a member's place -/
theorem mem_at {us r : List Int32} {b : Bool} {m : Mb} {l : List Mb} {q : Nat} {z : Int32} (h1 : us.length ≤ 4096) (h2 : asc us) (hm : okS m.1 ∧ wV m.2) (hz : z = 93 ∨ z = 125) (h : us.drop q = jn ((m :: l).map (bM b)) ++ z :: r) : (b = false → vat us q m.2) ∧ (b = true → t_valueOf us (Int32.ofNat q) = some (Int32.ofNat (q + (pstr m.1).length + 1)) ∧ vat us (q + (pstr m.1).length + 1) m.2) := by
  rw [jn_tl, List.append_assoc] at h
  have hl := drop_len h (bM_ne b m)
  refine ⟨fun e => ?_, fun e => ?_⟩
  · subst e
    exact ⟨h1, h2, hm.2, _, h, tl_stp false l hz⟩
  · subst e
    unfold bM at h
    simp only [if_true, List.append_assoc] at h
    have hp := past_str h1 h2 hm.1 h (by omega)
    have d1 := drop_more h
    have d2 := drop_more (w := [58]) d1
    refine ⟨?_, h1, h2, hm.2, _, d2, tl_stp true l hz⟩
    unfold t_valueOf
    rw [if_neg (i_ne1 (by omega)), hp, o_bind, i_a1]
theorem vat.item {us : List Int32} {q k j : Nat} {v : Int} {s : List Int32} {l : List Mb} (hk : k = 5 ∨ k = 6) (h : vat us q (k, v, s, ofL l)) (hj : j < l.length) : t_item us (Int32.ofNat q) (Int32.ofNat j) = some (Int32.ofNat (ip (k == 6) (q + 1) l j)) ∧ (∃ z r, (z = 93 ∨ z = 125) ∧ us.drop (ip (k == 6) (q + 1) l j) = jn ((l.drop j).map (bM (k == 6))) ++ z :: r) ∧ ip (k == 6) (q + 1) l j < us.length := by
  obtain ⟨h1, h2, h3, r, h4, h5⟩ := h
  have hb := box_len hk h4
  have hz : (if k = 5 then (93 : Int32) else 125) = 93 ∨ (if k = 5 then (93 : Int32) else 125) = 125 := by rcases hk with rfl | rfl <;> simp
  obtain ⟨i1, i2⟩ := ip_drop h1 h2 hz l (q + 1) j h3.kids (box_in hk h4) hj
  have := item_val h1 h2 h3.kids hk (j := j) (by omega) h4
  rw [if_pos hj] at this
  exact ⟨this, ⟨_, _, hz, i1⟩, i2⟩
theorem vat.elem {us : List Int32} {q j : Nat} {v : Int} {s : List Int32} {l : List Mb} (h : vat us q (5, v, s, ofL l)) (hj : j < l.length) : t_item us (Int32.ofNat q) (Int32.ofNat j) = some (Int32.ofNat (ip false (q + 1) l j)) ∧ vat us (ip false (q + 1) l j) (l[j]).2 := by
  obtain ⟨i1, ⟨z, r, hz, i2⟩, i3⟩ := h.item (Or.inl rfl) hj
  have e : (5 == 6) = false := rfl
  rw [e] at i1 i2
  refine ⟨i1, ?_⟩
  rw [List.drop_eq_getElem_cons hj] at i2
  exact (mem_at h.1 h.2.1 (h.2.2.1.kids _ (List.getElem_mem hj)) hz i2).1 rfl
/-- the value by a name, if there is one -/
theorem vat.by {us vs : List Int32} {q q2 : Nat} {v : Int} {s s' : List Int32} {l : List Mb} {r' : List Int32} (h : vat us q (6, v, s, ofL l)) (hv : vs.length ≤ 4096) (hs : okS s') (h2 : vs.drop q2 = pstr s' ++ r') : (∀ (hj : l.findIdx (fun m => m.1 == s') < l.length), ∃ a b, t_named us vs (Int32.ofNat q) (Int32.ofNat q2) = some (Int32.ofNat a) ∧ a < us.length ∧ t_valueOf us (Int32.ofNat a) = some (Int32.ofNat b) ∧ vat us b (l[l.findIdx (fun m => m.1 == s')]).2) ∧ (¬ l.findIdx (fun m => m.1 == s') < l.length → t_named us vs (Int32.ofNat q) (Int32.ofNat q2) = some (-1)) := by
  obtain ⟨h1, h2', h3, r, h4, h5⟩ := id h
  have hn := named_val h1 h2' hv h3.kids hs h2 h4
  refine ⟨fun hj => ?_, fun hj => by rw [hn, if_neg hj]⟩
  rw [if_pos hj] at hn
  obtain ⟨i1, ⟨z, r, hz, i2⟩, i3⟩ := h.item (Or.inr rfl) hj
  have e : (6 == 6) = true := rfl
  rw [e] at i2 i3
  rw [List.drop_eq_getElem_cons hj] at i2
  obtain ⟨m1, m2⟩ := (mem_at h1 h2' (h3.kids _ (List.getElem_mem hj)) hz i2).2 rfl
  exact ⟨_, _, hn, i3, m1, m2⟩
theorem vat.bound {us bs : List Int32} {q : Nat} {v : Int} {s s' : List Int32} {l : List Mb} (h : vat us q (6, v, s, ofL l)) (hs : okS s') (hbs : bs = pstr s') (hb : bs.length ≤ 100) (h3' : ∀ u ∈ bs, u ≠ -1) : (∀ (hj : l.findIdx (fun m => m.1 == s') < l.length), ∃ a b, t_itemBy us bs (Int32.ofNat q) = some (Int32.ofNat a) ∧ t_valueOf us (Int32.ofNat a) = some (Int32.ofNat b) ∧ vat us b (l[l.findIdx (fun m => m.1 == s')]).2) ∧ (¬ l.findIdx (fun m => m.1 == s') < l.length → t_itemBy us bs (Int32.ofNat q) = some (-1)) := by
  obtain ⟨h1, h2', h3, r, h4, h5⟩ := id h
  have hn := itemBy_val h1 h2' h3.kids hs hbs hb h3' h4
  refine ⟨fun hj => ?_, fun hj => by rw [hn, if_neg hj]⟩
  rw [if_pos hj] at hn
  obtain ⟨i1, ⟨z, r, hz, i2⟩, i3⟩ := h.item (Or.inr rfl) hj
  have e : (6 == 6) = true := rfl
  rw [e] at i2 i3
  rw [List.drop_eq_getElem_cons hj] at i2
  obtain ⟨m1, m2⟩ := (mem_at h1 h2' (h3.kids _ (List.getElem_mem hj)) hz i2).2 rfl
  exact ⟨_, _, hn, m1, m2⟩
/-- the same of the reference -/
theorem cat.kind {as : List Int32} {p : Nat} {t : Vl} (h : cat as p t) : iget as (Int32.ofNat p) = some (Int32.ofNat t.1) := by
  obtain ⟨h1, h2, r, h3⟩ := h
  obtain ⟨q, hq⟩ := cV_hdd h2.1
  rw [hq] at h3
  exact iget_drop h1 h3
theorem cat.next {as : List Int32} {p : Nat} {t : Vl} (h : cat as p t) : r_next as (Int32.ofNat p) = some (Int32.ofNat (p + (cV t).length)) ∧ p + (cV t).length ≤ as.length ∧ 2 ≤ (cV t).length := by
  obtain ⟨h1, h2, r, h3⟩ := h
  obtain ⟨n1, n2⟩ := rnext_at h1 (cV_h h2.1) h3
  exact ⟨n1, n2, (cV_h h2.1).len⟩
theorem cat.number {as : List Int32} {p : Nat} {v : Int} {s : List Int32} {f : Fo} (h : cat as p (3, v, s, f)) : r_number as (Int32.ofNat p) = some (Int64.ofInt v) := by
  obtain ⟨h1, h2, r, h3⟩ := h
  exact rnum_at h1 (h2.2.1 rfl) h3
theorem blk_at {as r : List Int32} {bs : List (List Int32)} {q j : Nat} (h : as.drop q = bs.flatten ++ r) (hj : j < bs.length) : as.drop (bp q bs j) = bs[j] ++ ((bs.drop (j + 1)).flatten ++ r) := by
  rw [bp_drop h (by omega), List.drop_eq_getElem_cons hj, List.flatten_cons, List.append_assoc]
theorem blks_nth_t : ∀ (l : List Mb) (j : Nat) (hj : j < l.length), (blks true l)[2 * j + 1]? = some (cV (l[j]).2) := by
  intro l
  induction l with
  | nil => intro j hj; cases hj
  | cons m l ih =>
    intro j hj
    have e : blks true (m :: l) = cstr m.1 :: cV m.2 :: blks true l := rfl
    cases j with
    | zero => rw [e]; rfl
    | succ j =>
      rw [e, show 2 * (j + 1) + 1 = (2 * j + 1) + 1 + 1 by omega, List.getElem?_cons_succ, List.getElem?_cons_succ]
      exact ih j (by simpa using hj)
theorem blks_nth_f : ∀ (l : List Mb) (j : Nat) (hj : j < l.length), (blks false l)[j]? = some (cV (l[j]).2) := by
  intro l
  induction l with
  | nil => intro j hj; cases hj
  | cons m l ih =>
    intro j hj
    have e : blks false (m :: l) = cV m.2 :: blks false l := rfl
    cases j with
    | zero => rw [e]; rfl
    | succ j => rw [e, List.getElem?_cons_succ]; exact ih j (by simpa using hj)
theorem cat.elem {as : List Int32} {p j : Nat} {v : Int} {s : List Int32} {l : List Mb} (h : cat as p (5, v, s, ofL l)) (hj : j < l.length) : cat as (bp (p + 2) (blks false l) j) (l[j]).2 := by
  obtain ⟨h1, h2, r, h3⟩ := h
  obtain ⟨c1, c2⟩ := cbox_in (Or.inl rfl) h3
  rw [show (5 == 6) = false from rfl] at c1
  have hb := blks_nth_f l j hj
  obtain ⟨hlt, he⟩ := List.getElem?_eq_some_iff.mp hb
  have := blk_at c1 hlt
  rw [he] at this
  exact ⟨h1, (h2.kids _ (List.getElem_mem hj)).2, _, this⟩
theorem cat.by {as bs : List Int32} {p p2 : Nat} {v : Int} {s s' : List Int32} {l : List Mb} {r' : List Int32} (h : cat as p (6, v, s, ofL l)) (hb : bs.length ≤ 9000) (h2' : bs.drop p2 = cstr s' ++ r') : (∀ (hj : l.findIdx (fun m => m.1 == s') < l.length), ∃ b, r_named as bs (Int32.ofNat p) (Int32.ofNat p2) = some (Int32.ofNat b) ∧ cat as b (l[l.findIdx (fun m => m.1 == s')]).2) ∧ (¬ l.findIdx (fun m => m.1 == s') < l.length → r_named as bs (Int32.ofNat p) (Int32.ofNat p2) = some (-1)) := by
  obtain ⟨h1, h2, r, h3⟩ := h
  have hn := rnamed_val h1 hb h2.kids h2' h3
  refine ⟨fun hj => ?_, fun hj => by rw [hn, if_neg hj]⟩
  rw [if_pos hj] at hn
  obtain ⟨c1, c2⟩ := cbox_in (Or.inr rfl) h3
  have e : (6 == 6) = true := rfl
  rw [e] at c1
  have hb := blks_nth_t l _ hj
  obtain ⟨hlt, he⟩ := List.getElem?_eq_some_iff.mp hb
  have := blk_at c1 hlt
  rw [he] at this
  exact ⟨_, hn, h1, (h2.kids _ (List.getElem_mem hj)).2, _, this⟩
theorem vat.len {us : List Int32} {q : Nat} {t : Vl} (h : vat us q t) : us.length ≤ 4096 := h.1
end At128
