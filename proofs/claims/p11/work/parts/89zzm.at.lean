section
/-! A value within a text, and within cells. -/
section At128
/-- a sign that ends a value -/
def stp (r : List Int32) : Prop := r = [] ∨ ∃ y r', r = y :: r' ∧ (y = 44 ∨ y = 93 ∨ y = 125)
def vat (us : List Int32) (q : Nat) (t : Vl) : Prop := us.length ≤ 4096 ∧ asc us ∧ wV t ∧ ∃ r, us.drop q = bV t ++ r ∧ stp r
def cat (as : List Int32) (p : Nat) (t : Vl) : Prop := as.length ≤ 9000 ∧ wV t ∧ ∃ r, as.drop p = cV t ++ r
theorem tl_stp (b : Bool) (l : List Mb) {z : Int32} {r : List Int32} (hz : z = 93 ∨ z = 125) : stp (tl b l ++ z :: r) := by
  right
  unfold tl
  by_cases e : l = []
  · rw [if_pos e]; exact ⟨z, r, rfl, Or.inr hz⟩
  · rw [if_neg e]; exact ⟨44, _, rfl, Or.inl rfl⟩
theorem vat.lt {us : List Int32} {q : Nat} {t : Vl} (h : vat us q t) : q + (bV t).length ≤ us.length ∧ q < us.length := by
  obtain ⟨h1, h2, h3, r, h4, h5⟩ := h
  have := drop_len h4 (bV_ne t)
  have := List.length_pos_iff.mpr (bV_ne t)
  omega
theorem vat.kind {us : List Int32} {q : Nat} {t : Vl} (h : vat us q t) : t_kind us (Int32.ofNat q) = some (Int32.ofNat t.1) := by
  obtain ⟨h1, h2, h3, r, h4, h5⟩ := h
  exact kind_val h1 h3.1 h4
theorem vat.past {us : List Int32} {q : Nat} {t : Vl} (h : vat us q t) : t_past us (Int32.ofNat q) = some (Int32.ofNat (q + (bV t).length)) := by
  have hl := h.lt
  obtain ⟨h1, h2, h3, r, h4, h5⟩ := h
  rcases h5 with e | ⟨y, r', e, hy⟩
  · rw [e, List.append_nil] at h4
    exact past_end h1 h2 h3 h4 (by omega)
  · rw [e] at h4
    exact past_val h1 h2 h3 h4 (by rcases hy with e | e | e <;> simp [e]) (by omega)
theorem vat.number {us : List Int32} {q : Nat} {v : Int} {s : List Int32} {f : Fo} (h : vat us q (3, v, s, f)) : t_number us (Int32.ofNat q) = some (Int64.ofInt v) := by
  obtain ⟨h1, h2, h3, r, h4, h5⟩ := h
  refine number_val h1 (h3.2.1 rfl) h4 ?_
  rcases h5 with e | ⟨y, r', e, hy⟩
  · exact Or.inl e
  · exact Or.inr ⟨y, r', e, by rcases hy with rfl | rfl | rfl <;> decide⟩
theorem vat.first {us : List Int32} {q k : Nat} {v : Int} {s : List Int32} {l : List Mb} (hk : k = 5 ∨ k = 6) (h : vat us q (k, v, s, ofL l)) : t_first us (Int32.ofNat q) = some (if l = [] then -1 else Int32.ofNat (q + 1)) := by
  obtain ⟨h1, h2, h3, r, h4, h5⟩ := h
  exact first_item h1 h3.kids hk h4
theorem vat.items {us : List Int32} {q k : Nat} {v : Int} {s : List Int32} {l : List Mb} (hk : k = 5 ∨ k = 6) (h : vat us q (k, v, s, ofL l)) : t_items us (Int32.ofNat q) = some (Int32.ofNat l.length) ∧ l.length < 4096 := by
  obtain ⟨h1, h2, h3, r, h4, h5⟩ := h
  have := box_len hk h4
  exact ⟨items_val h1 h2 h3.kids hk h4, by omega⟩
/-- what stands at a member's place -/
theorem mem_at {us r : List Int32} {b : Bool} {m : Mb} {l : List Mb} {q : Nat} {z : Int32} (h1 : us.length ≤ 4096) (h2 : asc us) (hm : okS m.1 ∧ wV m.2) (hz : z = 93 ∨ z = 125) (h : us.drop q = jn ((m :: l).map (bM b)) ++ z :: r) : (b = false → vat us q m.2) ∧ (b = true → t_valueOf us (Int32.ofNat q) = some (Int32.ofNat (q + (pstr m.1).length + 1)) ∧ vat us (q + (pstr m.1).length + 1) m.2) := by
  rw [jn_tl, List.append_assoc] at h
  have hl := drop_len h (bM_ne b m)
  refine ⟨fun e => ?_, fun e => ?_⟩
  · subst e
    exact ⟨h1, h2, hm.2, _, h, tl_stp false l hz⟩
  · subst e
    unfold bM at h
    simp only [if_true, List.append_assoc] at h
    have hp := past_str h1 h2 hm.1 h (by omega)
    have d1 := drop_more h
    have d2 := drop_more (w := [58]) d1
    refine ⟨?_, h1, h2, hm.2, _, d2, tl_stp true l hz⟩
    unfold t_valueOf
    rw [if_neg (i_ne1 (by omega)), hp, o_bind, i_a1]
theorem vat.item {us : List Int32} {q k j : Nat} {v : Int} {s : List Int32} {l : List Mb} (hk : k = 5 ∨ k = 6) (h : vat us q (k, v, s, ofL l)) (hj : j < l.length) : t_item us (Int32.ofNat q) (Int32.ofNat j) = some (Int32.ofNat (ip (k == 6) (q + 1) l j)) ∧ (∃ z r, (z = 93 ∨ z = 125) ∧ us.drop (ip (k == 6) (q + 1) l j) = jn ((l.drop j).map (bM (k == 6))) ++ z :: r) ∧ ip (k == 6) (q + 1) l j < us.length := by
  obtain ⟨h1, h2, h3, r, h4, h5⟩ := h
  have hb := box_len hk h4
  have hz : (if k = 5 then (93 : Int32) else 125) = 93 ∨ (if k = 5 then (93 : Int32) else 125) = 125 := by rcases hk with rfl | rfl <;> simp
  obtain ⟨i1, i2⟩ := ip_drop h1 h2 hz l (q + 1) j h3.kids (box_in hk h4) hj
  have := item_val h1 h2 h3.kids hk (j := j) (by omega) h4
  rw [if_pos hj] at this
  exact ⟨this, ⟨_, _, hz, i1⟩, i2⟩
theorem vat.elem {us : List Int32} {q j : Nat} {v : Int} {s : List Int32} {l : List Mb} (h : vat us q (5, v, s, ofL l)) (hj : j < l.length) : t_item us (Int32.ofNat q) (Int32.ofNat j) = some (Int32.ofNat (ip false (q + 1) l j)) ∧ vat us (ip false (q + 1) l j) (l[j]).2 := by
  obtain ⟨i1, ⟨z, r, hz, i2⟩, i3⟩ := h.item (Or.inl rfl) hj
  have e : (5 == 6) = false := rfl
  rw [e] at i1 i2
  refine ⟨i1, ?_⟩
  rw [List.drop_eq_getElem_cons hj] at i2
  exact (mem_at h.1 h.2.1 (h.2.2.1.kids _ (List.getElem_mem hj)) hz i2).1 rfl
/-- the value by a name, if there is one -/
theorem vat.by {us vs : List Int32} {q q2 : Nat} {v : Int} {s s' : List Int32} {l : List Mb} {r' : List Int32} (h : vat us q (6, v, s, ofL l)) (hv : vs.length ≤ 4096) (hs : okS s') (h2 : vs.drop q2 = pstr s' ++ r') : (∀ (hj : l.findIdx (fun m => m.1 == s') < l.length), ∃ a b, t_named us vs (Int32.ofNat q) (Int32.ofNat q2) = some (Int32.ofNat a) ∧ a < us.length ∧ t_valueOf us (Int32.ofNat a) = some (Int32.ofNat b) ∧ vat us b (l[l.findIdx (fun m => m.1 == s')]).2) ∧ (¬ l.findIdx (fun m => m.1 == s') < l.length → t_named us vs (Int32.ofNat q) (Int32.ofNat q2) = some (-1)) := by
  obtain ⟨h1, h2', h3, r, h4, h5⟩ := id h
  have hn := named_val h1 h2' hv h3.kids hs h2 h4
  refine ⟨fun hj => ?_, fun hj => by rw [hn, if_neg hj]⟩
  rw [if_pos hj] at hn
  obtain ⟨i1, ⟨z, r, hz, i2⟩, i3⟩ := h.item (Or.inr rfl) hj
  have e : (6 == 6) = true := rfl
  rw [e] at i2 i3
  rw [List.drop_eq_getElem_cons hj] at i2
  obtain ⟨m1, m2⟩ := (mem_at h1 h2' (h3.kids _ (List.getElem_mem hj)) hz i2).2 rfl
  exact ⟨_, _, hn, i3, m1, m2⟩
theorem vat.bound {us bs : List Int32} {q : Nat} {v : Int} {s s' : List Int32} {l : List Mb} (h : vat us q (6, v, s, ofL l)) (hs : okS s') (hbs : bs = pstr s') (hb : bs.length ≤ 100) (h3' : ∀ u ∈ bs, u ≠ -1) : (∀ (hj : l.findIdx (fun m => m.1 == s') < l.length), ∃ a b, t_itemBy us bs (Int32.ofNat q) = some (Int32.ofNat a) ∧ t_valueOf us (Int32.ofNat a) = some (Int32.ofNat b) ∧ vat us b (l[l.findIdx (fun m => m.1 == s')]).2) ∧ (¬ l.findIdx (fun m => m.1 == s') < l.length → t_itemBy us bs (Int32.ofNat q) = some (-1)) := by
  obtain ⟨h1, h2', h3, r, h4, h5⟩ := id h
  have hn := itemBy_val h1 h2' h3.kids hs hbs hb h3' h4
  refine ⟨fun hj => ?_, fun hj => by rw [hn, if_neg hj]⟩
  rw [if_pos hj] at hn
  obtain ⟨i1, ⟨z, r, hz, i2⟩, i3⟩ := h.item (Or.inr rfl) hj
  have e : (6 == 6) = true := rfl
  rw [e] at i2 i3
  rw [List.drop_eq_getElem_cons hj] at i2
  obtain ⟨m1, m2⟩ := (mem_at h1 h2' (h3.kids _ (List.getElem_mem hj)) hz i2).2 rfl
  exact ⟨_, _, hn, m1, m2⟩
/-- the same of the reference -/
theorem cat.kind {as : List Int32} {p : Nat} {t : Vl} (h : cat as p t) : iget as (Int32.ofNat p) = some (Int32.ofNat t.1) := by
  obtain ⟨h1, h2, r, h3⟩ := h
  obtain ⟨q, hq⟩ := cV_hdd h2.1
  rw [hq] at h3
  exact iget_drop h1 h3
theorem cat.next {as : List Int32} {p : Nat} {t : Vl} (h : cat as p t) : r_next as (Int32.ofNat p) = some (Int32.ofNat (p + (cV t).length)) ∧ p + (cV t).length ≤ as.length ∧ 2 ≤ (cV t).length := by
  obtain ⟨h1, h2, r, h3⟩ := h
  obtain ⟨n1, n2⟩ := rnext_at h1 (cV_h h2.1) h3
  exact ⟨n1, n2, (cV_h h2.1).len⟩
theorem cat.number {as : List Int32} {p : Nat} {v : Int} {s : List Int32} {f : Fo} (h : cat as p (3, v, s, f)) : r_number as (Int32.ofNat p) = some (Int64.ofInt v) := by
  obtain ⟨h1, h2, r, h3⟩ := h
  exact rnum_at h1 (h2.2.1 rfl) h3
theorem blk_at {as r : List Int32} {bs : List (List Int32)} {q j : Nat} (h : as.drop q = bs.flatten ++ r) (hj : j < bs.length) : as.drop (bp q bs j) = bs[j] ++ ((bs.drop (j + 1)).flatten ++ r) := by
  rw [bp_drop h (by omega), List.drop_eq_getElem_cons hj, List.flatten_cons, List.append_assoc]
theorem blks_nth_t : ∀ (l : List Mb) (j : Nat) (hj : j < l.length), (blks true l)[2 * j + 1]? = some (cV (l[j]).2) := by
  intro l
  induction l with
  | nil => intro j hj; cases hj
  | cons m l ih =>
    intro j hj
    have e : blks true (m :: l) = cstr m.1 :: cV m.2 :: blks true l := rfl
    cases j with
    | zero => rw [e]; rfl
    | succ j =>
      rw [e, show 2 * (j + 1) + 1 = (2 * j + 1) + 1 + 1 by omega, List.getElem?_cons_succ, List.getElem?_cons_succ]
      exact ih j (by simpa using hj)
theorem blks_nth_f : ∀ (l : List Mb) (j : Nat) (hj : j < l.length), (blks false l)[j]? = some (cV (l[j]).2) := by
  intro l
  induction l with
  | nil => intro j hj; cases hj
  | cons m l ih =>
    intro j hj
    have e : blks false (m :: l) = cV m.2 :: blks false l := rfl
    cases j with
    | zero => rw [e]; rfl
    | succ j => rw [e, List.getElem?_cons_succ]; exact ih j (by simpa using hj)
theorem cat.elem {as : List Int32} {p j : Nat} {v : Int} {s : List Int32} {l : List Mb} (h : cat as p (5, v, s, ofL l)) (hj : j < l.length) : cat as (bp (p + 2) (blks false l) j) (l[j]).2 := by
  obtain ⟨h1, h2, r, h3⟩ := h
  obtain ⟨c1, c2⟩ := cbox_in (Or.inl rfl) h3
  rw [show (5 == 6) = false from rfl] at c1
  have hb := blks_nth_f l j hj
  obtain ⟨hlt, he⟩ := List.getElem?_eq_some_iff.mp hb
  have := blk_at c1 hlt
  rw [he] at this
  exact ⟨h1, (h2.kids _ (List.getElem_mem hj)).2, _, this⟩
theorem cat.by {as bs : List Int32} {p p2 : Nat} {v : Int} {s s' : List Int32} {l : List Mb} {r' : List Int32} (h : cat as p (6, v, s, ofL l)) (hb : bs.length ≤ 9000) (h2' : bs.drop p2 = cstr s' ++ r') : (∀ (hj : l.findIdx (fun m => m.1 == s') < l.length), ∃ b, r_named as bs (Int32.ofNat p) (Int32.ofNat p2) = some (Int32.ofNat b) ∧ cat as b (l[l.findIdx (fun m => m.1 == s')]).2) ∧ (¬ l.findIdx (fun m => m.1 == s') < l.length → r_named as bs (Int32.ofNat p) (Int32.ofNat p2) = some (-1)) := by
  obtain ⟨h1, h2, r, h3⟩ := h
  have hn := rnamed_val h1 hb h2.kids h2' h3
  refine ⟨fun hj => ?_, fun hj => by rw [hn, if_neg hj]⟩
  rw [if_pos hj] at hn
  obtain ⟨c1, c2⟩ := cbox_in (Or.inr rfl) h3
  have e : (6 == 6) = true := rfl
  rw [e] at c1
  have hb := blks_nth_t l _ hj
  obtain ⟨hlt, he⟩ := List.getElem?_eq_some_iff.mp hb
  have := blk_at c1 hlt
  rw [he] at this
  exact ⟨_, hn, h1, (h2.kids _ (List.getElem_mem hj)).2, _, this⟩
theorem vat.len {us : List Int32} {q : Nat} {t : Vl} (h : vat us q t) : us.length ≤ 4096 := h.1
end At128
end

section
/-! What holds between calls holds at the start. -/
section Start129
def vNull : Vl := (0, 0, [], .leaf)
theorem vNull_ok : wV vNull := ⟨by decide, fun e => absurd e (by decide), (fun c hc => by cases hc), fun _ => rfl, fun e => absurd e (by decide), trivial⟩
theorem S_obj {h : mH} {a t : Nat} {vs : List Value} (hc : h[a]? = some (t, vs)) (h1 : a ∉ shT) (h2 : a ∉ shP) (h3 : a ≠ 101) : S_of h a = vs.map vI := by
  unfold S_of
  rw [if_neg h1, if_neg h2, if_neg h3, hc]
  rfl
theorem S_txt {h : mH} {a : Nat} (h1 : a ∈ shT) : S_of h a = if a = 42 ∨ a = 44 ∨ a = 49 then [0] else [0, 110, 117, 108, 108] := by
  unfold S_of
  rw [if_pos h1]
theorem S_pap {h : mH} {a : Nat} (h1 : a ∉ shT) (h2 : a ∈ shP) : S_of h a = [0] := by
  unfold S_of
  rw [if_neg h1, if_pos h2]
theorem arr_chk : (mp_ar.all fun q => q.2.1 != 1001 || (shP.contains (q.1 - 1) || (!shT.contains q.1 && (!shP.contains q.1 && q.1 != 101)))) = true := by decide +kernel
/-- a new object and a new reference -/
def I0 (S : SS) : Prop := InvL S ∧ InvB S ∧ InvT S [] ∧ InvP S [] ∧ InvG S (fun _ => vNull) 49 [51, 53, 55, 57, 59, 61, 63, 65]
theorem inv_first {xs : List Int32} {h : mH} (hm : m_s2 xs h) : I0 (S_of h) := by
  obtain ⟨m1, m2, m3, m4, m5⟩ := id hm
  have lo : ∀ k, k < 41 → h[k]? = (mp_h0 xs)[k]? := by
    intro k hk
    rw [← m2, List.getElem?_take_of_lt hk]
  have ob : ∀ (i : Nat) (hi : i < mp_ce.length), h[(mp_ce[i]).1]? = some (mp_ce[i]).2 := fun i hi => m4 _ (List.getElem_mem hi)
  have ar : ∀ (i : Nat) (hi : i < mp_ar.length) (a n : Nat) (l : List Int32), a ∉ shT → a ∉ shP → a ≠ 101 → (mp_ar[i]).1 = a → (mp_ar[i]).2.2.1 = n → (mp_ar[i]).2.2.2 = l.map Value.int → (S_of h a).length = n ∧ ∃ j, S_of h a = l ++ j := by
    intro i hi a n l h1 h2 h3 e1 e2 e3
    obtain ⟨vs, v1, v2, v3, v4⟩ := m5 _ (List.getElem_mem hi)
    rw [e1] at v1
    rw [e2] at v2
    rw [e3, List.length_map] at v3
    rw [S_obj v1 h1 h2 h3]
    refine ⟨by rw [List.length_map]; exact v2, (vs.drop l.length).map vI, ?_⟩
    have : vs = l.map Value.int ++ vs.drop l.length := by rw [← v3, List.take_append_drop]
    conv => lhs; rw [this]
    rw [List.map_append, List.map_map]
    congr 1
    exact List.map_id'' (fun _ => rfl) l
  have o41 : S_of h 41 = [42, 44, 46, 68, 47, 67, 69, 72, 75, 49, -1, 0] := (S_obj (ob 0 (by decide)) (by decide) (by decide) (by decide)).trans (by decide)
  have o46 : S_of h 46 = [51, 53, 55, 57, 59, 61, 63, 65] := (S_obj (ob 3 (by decide)) (by decide) (by decide) (by decide)).trans (by decide)
  have o47 : S_of h 47 = [48, 0] := (S_obj (ob 4 (by decide)) (by decide) (by decide) (by decide)).trans (by decide)
  have o78 : S_of h 78 = [0, 0, 0, -1, 0, 79, 80, 81, 90, 92, 94, 96, 0, 97, 98, 99, 100, 0, 0, 0, 0, 0] := (S_obj (ob 21 (by decide)) (by decide) (by decide) (by decide)).trans (by decide)
  have c39 : S_of h 39 = mp_aS := (S_obj (t := 1001) (vs := mp_aS.map Value.int) (by rw [lo 39 (by decide)]; exact ini_A0.1) (by decide) (by decide) (by decide)).trans (by decide)
  have c40 : S_of h 40 = mp_aE := (S_obj (t := 1001) (vs := mp_aE.map Value.int) (by rw [lo 40 (by decide)]; exact ini_A0.2) (by decide) (by decide) (by decide)).trans (by decide)
  have rr : ∀ (r i : Nat) (hi : i < mp_ar.length), r < 8 → (mp_ar[i]).1 = 82 + r → (mp_ar[i]).2.2.1 = 9000 → (mp_ar[i]).2.2.2 = [(0 : Int32), 2].map Value.int → (S_of h (82 + r)).length = 9000 ∧ ∃ j, S_of h (82 + r) = [0, 2] ++ j := by
    intro r i hi hr e1 e2 e3
    have hd : ∀ r, r < 8 → 82 + r ∉ shT ∧ 82 + r ∉ shP ∧ 82 + r ≠ 101 := by decide
    obtain ⟨d1, d2, d3⟩ := hd r hr
    exact ar i hi (82 + r) 9000 [0, 2] d1 d2 d3 e1 e2 e3
  refine ⟨⟨?_, ?_, ?_, ?_, ?_, ?_, ?_, ?_, ?_, ?_, ?_, ?_, c39, c40⟩, ⟨?_, ?_⟩, ?_, ?_, ?_⟩
  · unfold rd; rw [o47]; rfl
  · exact (ar 2 (by decide) 48 2048 [] (by decide) (by decide) (by decide) rfl rfl rfl).1
  · exact (ar 12 (by decide) 71 100 [] (by decide) (by decide) (by decide) rfl rfl rfl).1
  · exact (ar 13 (by decide) 74 100 [] (by decide) (by decide) (by decide) rfl rfl rfl).1
  · exact (ar 14 (by decide) 76 60 [] (by decide) (by decide) (by decide) rfl rfl rfl).1
  · exact (ar 15 (by decide) 77 60 [] (by decide) (by decide) (by decide) rfl rfl rfl).1
  · exact (ar 17 (by decide) 80 9000 [] (by decide) (by decide) (by decide) rfl rfl rfl).1
  · exact (ar 26 (by decide) 91 9000 [] (by decide) (by decide) (by decide) rfl rfl rfl).1
  · exact (ar 29 (by decide) 97 4200 [] (by decide) (by decide) (by decide) rfl rfl rfl).1
  · exact (ar 30 (by decide) 98 9000 [] (by decide) (by decide) (by decide) rfl rfl rfl).1
  · exact (ar 31 (by decide) 99 64 [] (by decide) (by decide) (by decide) rfl rfl rfl).1
  · exact (ar 32 (by decide) 100 64 [] (by decide) (by decide) (by decide) rfl rfl rfl).1
  · exact fun c => c.elim
  · exact fun e => e.elim
  · refine ⟨S_txt (by decide), by decide, (fun u hu => by cases hu), (ar 16 (by decide) 79 4096 [] (by decide) (by decide) (by decide) rfl rfl rfl).1, (ar 16 (by decide) 79 4096 [] (by decide) (by decide) (by decide) rfl rfl rfl).2, ?_⟩
    unfold rd; rw [o78]; rfl
  · exact ⟨S_txt (by decide), S_pap (by decide) (by decide), by decide, asc.nil⟩
  · refine ⟨o46.trans rfl, rfl, List.Perm.refl _, by unfold rd; rw [o41]; rfl, fun r hr => ?_⟩
    have ea : ∀ r, r < 8 → ([51, 53, 55, 57, 59, 61, 63, 65] : List Nat).getD r 0 ∈ shT ∧ ¬ (([51, 53, 55, 57, 59, 61, 63, 65] : List Nat).getD r 0 = 42 ∨ ([51, 53, 55, 57, 59, 61, 63, 65] : List Nat).getD r 0 = 44 ∨ ([51, 53, 55, 57, 59, 61, 63, 65] : List Nat).getD r 0 = 49) := by decide
    have h8 : (S_of h (82 + r)).length = 9000 ∧ ∃ j, S_of h (82 + r) = [0, 2] ++ j := by
      have : r = 0 ∨ r = 1 ∨ r = 2 ∨ r = 3 ∨ r = 4 ∨ r = 5 ∨ r = 6 ∨ r = 7 := by omega
      rcases this with rfl | rfl | rfl | rfl | rfl | rfl | rfl | rfl
      · exact rr 0 18 (by decide) (by decide) rfl rfl rfl
      · exact rr 1 19 (by decide) (by decide) rfl rfl rfl
      · exact rr 2 20 (by decide) (by decide) rfl rfl rfl
      · exact rr 3 21 (by decide) (by decide) rfl rfl rfl
      · exact rr 4 22 (by decide) (by decide) rfl rfl rfl
      · exact rr 5 23 (by decide) (by decide) rfl rfl rfl
      · exact rr 6 24 (by decide) (by decide) rfl rfl rfl
      · exact rr 7 25 (by decide) (by decide) rfl rfl rfl
    show InvR (S_of h) _ r vNull
    refine ⟨?_, by decide, vNull_ok, by decide, h8.1, h8.2⟩
    rw [S_txt (ea r hr).1, if_neg (ea r hr).2]
    rfl
theorem I0.inv {S : SS} (h : I0 S) : Inv S := ⟨h.1, h.2.1, ⟨[], h.2.2.1⟩, ⟨[], h.2.2.2.1⟩, fun _ => vNull, 49, [51, 53, 55, 57, 59, 61, 63, 65], h.2.2.2.2⟩
theorem inv_start {xs : List Int32} {h : mH} (hm : m_s2 xs h) : Inv (S_of h) := (inv_first hm).inv
end Start129
end

section
/-! A step of a path, by the class. -/
section Step130
theorem wr_up (S : SS) (a k : Nat) (L : List Int32) (v : Int32) : wr (up S a L) a k v = up S a (L.set k v) := by
  unfold wr
  rw [up_same, up_up]
theorem wr_eq {S : SS} {a k : Nat} {L : List Int32} {v : Int32} (h : S a = L) : wr S a k v = up S a (L.set k v) := by
  unfold wr
  rw [h]
theorem l_min (x y : Int64) : (lmin x y).toInt = min x.toInt y.toInt := by
  unfold lmin
  by_cases h : 0 < lg_cmp x y
  · rw [if_pos h]; rw [lg_gt] at h; omega
  · rw [if_neg h]; rw [lg_gt] at h; omega
theorem l_max (x y : Int64) : (lmax x y).toInt = max x.toInt y.toInt := by
  unfold lmax
  by_cases h : lg_cmp x y < 0
  · rw [if_pos h]; rw [lg_lt] at h; omega
  · rw [if_neg h]; rw [lg_lt] at h; omega
theorem l_to32 {x : Int64} {n : Nat} (h : x.toInt = n) (hn : n < 2147483648) : x.toInt32 = Int32.ofNat n := by
  apply Int32.toInt_inj.mp
  rw [Int64.toInt_toInt32, h, i_of (by omega), Int.bmod_def]
  omega
theorem l_inj {x : Int64} {n : Int} (h : x.toInt = n) : x = Int64.ofInt n := by
  rw [← h, Int64.ofInt_toInt]
theorem l_add {x y : Int64} (h1 : -4611686018427387904 ≤ x.toInt ∧ x.toInt ≤ 4611686018427387903) (h2 : -4611686018427387904 ≤ y.toInt ∧ y.toInt ≤ 4611686018427387903) : (x + y).toInt = x.toInt + y.toInt := by
  rw [Int64.toInt_add, show (2 ^ 64 : Nat) = 18446744073709551616 from rfl, Int.bmod_def]
  omega
/-- a bound of a part -/
def lim (o : Option Vl) (n d : Nat) : Nat := match o with
  | none => d
  | some v => if v.1 = 0 then d else (max 0 (min (if v.2.1 < 0 then v.2.1 + n else v.2.1) n)).toNat
theorem lim_n (n d : Nat) : lim none n d = d := rfl
theorem lim_0 {v : Vl} (n d : Nat) (h : v.1 = 0) : lim (some v) n d = d := by
  unfold lim
  simp only
  rw [if_pos h]
theorem lim_3 {v : Vl} (n d : Nat) (h : v.1 = 3) : lim (some v) n d = (max 0 (min (if v.2.1 < 0 then v.2.1 + n else v.2.1) n)).toNat := by
  unfold lim
  simp only
  rw [if_neg (by rw [h]; decide)]
theorem lim_le {o : Option Vl} {n d : Nat} (h : d ≤ n) : lim o n d ≤ n := by
  unfold lim
  split
  · exact h
  · split
    · exact h
    · omega
/-- is it a bound? -/
def okD (o : Option Vl) : Prop := ∀ v, o = some v → v.1 = 0 ∨ v.1 = 3
/-- a bound at y in a text, in cells -/
def bdT (us : List Int32) (y : Int32) (o : Option Vl) : Prop := match o with
  | none => y = -1
  | some v => ∃ b, y = Int32.ofNat b ∧ vat us b v
def bdC (as : List Int32) (y : Int32) (o : Option Vl) : Prop := match o with
  | none => y = -1
  | some v => ∃ b, y = Int32.ofNat b ∧ b < 9000 ∧ cat as b v
theorem vl3 {v : Vl} (h : v.1 = 3) : v = (3, v.2.1, v.2.2.1, v.2.2.2) := by
  obtain ⟨k, x, s, f⟩ := v
  simp only at h
  rw [h]
theorem bd_isBound {S : SS} {t0 : Nat} {y : Int32} {o : Option Vl} (h : bdT (tT S t0) y o) : (okD o → p_isBound S t0 y = some 1) ∧ (¬ okD o → p_isBound S t0 y = some 0) := by
  unfold p_isBound
  cases o with
  | none =>
    have h : y = -1 := h
    rw [h, kind_no, o_bind, if_neg (by decide), if_pos rfl]
    exact ⟨fun _ => rfl, fun e => absurd (fun v hv => by cases hv) e⟩
  | some v =>
    obtain ⟨b, hb, hv⟩ := h
    have hk := hv.2.2.1.1
    rw [hb, hv.kind, o_bind]
    by_cases e3 : v.1 = 3
    · rw [e3, if_pos (by decide)]
      exact ⟨fun _ => rfl, fun e => absurd (fun w hw => by cases hw; exact Or.inr e3) e⟩
    · rw [if_neg (by rw [show (3 : Int32) = Int32.ofNat 3 from rfl, i_inj (by omega) (by omega)]; exact e3)]
      by_cases e0 : v.1 = 0
      · rw [e0, if_pos (by decide)]
        exact ⟨fun _ => rfl, fun e => absurd (fun w hw => by cases hw; exact Or.inl e0) e⟩
      · rw [if_neg (by rw [show (0 : Int32) = Int32.ofNat 0 from rfl, i_inj (by omega) (by omega)]; exact e0)]
        exact ⟨fun e => by rcases e v rfl with e | e; exact absurd e e0; exact absurd e e3, fun _ => rfl⟩
theorem bd_bound {S : SS} {t0 : Nat} {y : Int32} {o : Option Vl} {n d : Nat} (h : bdT (tT S t0) y o) (ho : okD o) (hn : n ≤ 9000) : p_bound S t0 y (Int32.ofNat n) (Int32.ofNat d) = some (Int32.ofNat (lim o n d)) := by
  unfold p_bound
  cases o with
  | none =>
    have h : y = -1 := h
    rw [h, kind_no, o_bind, if_pos rfl, lim_n]
  | some v =>
    obtain ⟨b, hb, hv⟩ := h
    rw [hb, hv.kind, o_bind]
    rcases ho v rfl with e | e
    · rw [e, if_pos (by decide), lim_0 n d e]
    · have hv' := hv
      rw [vl3 e] at hv'
      have hx := hv.2.2.1.2.1 e
      have z0 : (0 : Int64).toInt = 0 := rfl
      have hnt : ((Int32.ofNat n).toInt64).toInt = n := by rw [l_32 n (by omega), l_of (by omega) (by omega)]
      rw [e, if_neg (by decide), hv'.number, o_bind]
      unfold p_fromStart
      have key : ∀ r : Int64, r.toInt = (if v.2.1 < 0 then v.2.1 + n else v.2.1) → some ((lmax 0 (lmin r (Int32.ofNat n).toInt64)).toInt32) = some (Int32.ofNat (lim (some v) n d)) := by
        intro r hr
        rw [lim_3 n d e]
        have hm : (lmax 0 (lmin r (Int32.ofNat n).toInt64)).toInt = max 0 (min (if v.2.1 < 0 then v.2.1 + n else v.2.1) n) := by rw [l_max, l_min, hr, z0, hnt]
        generalize (if v.2.1 < 0 then v.2.1 + (n : Int) else v.2.1) = X at hm ⊢
        rw [l_to32 (n := (max 0 (min X n)).toNat) (by omega) (by omega)]
      have l1 := l_of (z := v.2.1) (by omega) (by omega)
      by_cases hs : v.2.1 < 0
      · rw [if_neg (by rw [lg_ge, l1, z0]; omega), o_bind]
        exact key _ (by rw [l_add (by rw [l1]; omega) (by rw [hnt]; omega), l1, hnt, if_pos hs])
      · rw [if_pos ((lg_ge _ _).mpr (by rw [l1, z0]; omega)), o_bind]
        exact key _ (by rw [l1, if_neg hs])
/-- the class's spot: a text's place ta, the value, the window if it is a part -/
def size (t : Vl) : Nat := if t.1 = 4 then t.2.2.1.length else (toL t.2.2.2).length
def winO (t : Vl) (w : Option (Nat × Nat)) : Prop := ∀ a b, w = some (a, b) → a ≤ b ∧ b ≤ size t ∧ (t.1 = 4 ∨ t.1 = 5)
def spC (S : SS) (ta : Nat) (t : Vl) (w : Option (Nat × Nat)) : Prop := ∃ (q : Nat) (it lo hi : Int32), S 67 = [Int32.ofNat ta, Int32.ofNat q, it, (if w.isSome then 1 else 0), lo, hi] ∧ vat (tT S ta) q t ∧ winO t w ∧ ∀ a b, w = some (a, b) → lo = Int32.ofNat a ∧ hi = Int32.ofNat b
def spN (S : SS) (ta : Nat) : Prop := ∃ it lo hi : Int32, S 67 = [Int32.ofNat ta, -1, it, 0, lo, hi]
def fr67 (S S' : SS) : Prop := ∀ a, a ≠ 67 → S' a = S a
theorem spC.kind {S : SS} {ta : Nat} {t : Vl} {w : Option (Nat × Nat)} (hta : ta < 1000) (h : spC S ta t w) : p_kind S = some (Int32.ofNat t.1) := by
  obtain ⟨q, it, lo, hi, h1, h2, -⟩ := h
  unfold p_kind rd
  rw [h1]
  show (t_kind (tT S (Int32.ofNat ta).toNatClampNeg) (Int32.ofNat q)).bind _ = _
  rw [i_cl (by omega), h2.kind, o_bind]
theorem spN.kind {S : SS} {ta : Nat} (hta : ta < 1000) (h : spN S ta) : p_kind S = some 0 := by
  obtain ⟨it, lo, hi, h1⟩ := h
  unfold p_kind rd
  rw [h1]
  show (t_kind (tT S (Int32.ofNat ta).toNatClampNeg) (-1)).bind _ = _
  rw [kind_no, o_bind]
theorem move_val {S : SS} {T p it pt lo hi : Int32} (h : S 67 = [T, p, it, pt, lo, hi]) (x y : Int32) : p_moveTo S x y = some (up S 67 [T, y, x, 0, lo, hi]) := by
  unfold p_moveTo
  rw [wr_eq h, wr_up, wr_up]
  rfl
theorem vl6 {v : Vl} (h : v.1 = 6) : v = (6, v.2.1, v.2.2.1, ofL (toL v.2.2.2)) := by
  obtain ⟨k, x, s, f⟩ := v
  simp only at h
  rw [h, ofL_toL]
theorem vl5 {v : Vl} (h : v.1 = 5) : v = (5, v.2.1, v.2.2.1, ofL (toL v.2.2.2)) := by
  obtain ⟨k, x, s, f⟩ := v
  simp only at h
  rw [h, ofL_toL]
/-- the member by a name -/
def byN (t : Vl) (s : List Int32) : Option Vl := if h : (toL t.2.2.2).findIdx (fun m => m.1 == s) < (toL t.2.2.2).length then some ((toL t.2.2.2)[(toL t.2.2.2).findIdx (fun m => m.1 == s)]).2 else none
/-- where a step leads -/
def spO (S : SS) (ta : Nat) (o : Option Vl) : Prop := match o with
  | none => spN S ta
  | some v => spC S ta v none
theorem byName_val {S : SS} {ta t1 q2 : Nat} {t : Vl} {w : Option (Nat × Nat)} {s r' : List Int32} (hta : ta < 1000 ∧ ta ≠ 67) (h : spC S ta t w) (hl : (tT S t1).length ≤ 4096) (hs : okS s) (hp : (tT S t1).drop q2 = pstr s ++ r') : (t.1 = 6 → ∃ S', p_byName S t1 (Int32.ofNat q2) = some (S', 0) ∧ fr67 S S' ∧ spO S' ta (byN t s)) ∧ (t.1 ≠ 6 → p_byName S t1 (Int32.ofNat q2) = some (S, 1)) := by
  have hk := h.kind hta.1
  obtain ⟨q, it, lo, hi, h1, h2, h3, h4⟩ := h
  have k6 := h2.2.2.1.1
  unfold p_byName
  rw [hk, o_bind]
  refine ⟨fun e => ?_, fun e => by rw [if_neg (by rw [show (6 : Int32) = Int32.ofNat 6 from rfl, i_inj (by omega) (by omega)]; exact e)]⟩
  have e0 : (rd S 67 0).toNatClampNeg = ta := by unfold rd; rw [h1]; exact i_cl (by omega)
  have e1 : rd S 67 1 = Int32.ofNat q := by unfold rd; rw [h1]; rfl
  rw [e, if_pos (by decide), e0, e1]
  have h2' := h2
  rw [vl6 e] at h2'
  obtain ⟨b1, b2⟩ := h2'.by hl hs hp
  have fr : ∀ L, fr67 S (up S 67 L) := fun L a ha => up_ne ha
  have tt : ∀ L, tT (up S 67 L) ta = tT S ta := fun L => by unfold tT; rw [up_ne hta.2]
  by_cases hj : (toL t.2.2.2).findIdx (fun m => m.1 == s) < (toL t.2.2.2).length
  · obtain ⟨a, b, n1, n2, n3, n4⟩ := b1 hj
    rw [n1, o_bind, n3, o_bind, move_val h1, o_bind]
    refine ⟨_, rfl, fr _, ?_⟩
    unfold byN
    rw [dif_pos hj]
    exact ⟨b, Int32.ofNat a, lo, hi, up_same, by rw [tt]; exact n4, (fun _ _ e => by cases e), (fun _ _ e => by cases e)⟩
  · rw [b2 hj, o_bind]
    have ev : t_valueOf (tT S ta) (-1) = some (-1) := by unfold t_valueOf; rw [if_pos rfl]
    rw [ev, o_bind, move_val h1, o_bind]
    refine ⟨_, rfl, fr _, ?_⟩
    unfold byN
    rw [dif_neg hj]
    exact ⟨-1, lo, hi, up_same⟩
/-- the element of a place, within the window -/
def winA (t : Vl) (w : Option (Nat × Nat)) : Nat := match w with
  | none => 0
  | some (a, _) => a
def winN (t : Vl) (w : Option (Nat × Nat)) : Nat := match w with
  | none => size t
  | some (a, b) => b - a
def byP (t : Vl) (w : Option (Nat × Nat)) (v : Int) : Option Vl :=
  let x := if v < 0 then v + winN t w else v
  if 0 ≤ x ∧ x < winN t w then ((toL t.2.2.2)[winA t w + x.toNat]?).map (fun m => m.2) else none
theorem byPlace_val {S : SS} {ta : Nat} {t : Vl} {w : Option (Nat × Nat)} {v : Int} (hta : ta < 1000 ∧ ta ≠ 67) (h : spC S ta t w) (hv : -9007199254740991 ≤ v ∧ v ≤ 9007199254740991) : (t.1 = 5 → ∃ S', p_byPlace S (Int64.ofInt v) = some (S', 0) ∧ fr67 S S' ∧ spO S' ta (byP t w v)) ∧ (t.1 ≠ 5 → p_byPlace S (Int64.ofInt v) = some (S, 1)) := by
  have hk := h.kind hta.1
  obtain ⟨q, it, lo, hi, h1, h2, h3, h4⟩ := h
  have k6 := h2.2.2.1.1
  unfold p_byPlace
  rw [hk, o_bind]
  refine ⟨fun e => ?_, fun e => by rw [if_neg (by rw [show (5 : Int32) = Int32.ofNat 5 from rfl, i_inj (by omega) (by omega)]; exact e)]⟩
  have e0 : (rd S 67 0).toNatClampNeg = ta := by unfold rd; rw [h1]; exact i_cl (by omega)
  have e1 : rd S 67 1 = Int32.ofNat q := by unfold rd; rw [h1]; rfl
  have e3 : rd S 67 3 = if w.isSome then 1 else 0 := by unfold rd; rw [h1]; rfl
  have e4 : rd S 67 4 = lo := by unfold rd; rw [h1]; rfl
  have e5 : rd S 67 5 = hi := by unfold rd; rw [h1]; rfl
  have h2' := h2
  rw [vl5 e] at h2'
  obtain ⟨it1, it2⟩ := h2'.items (Or.inl rfl)
  have hsz : size t = (toL t.2.2.2).length := by unfold size; rw [if_neg (by omega)]
  have fr : ∀ L, fr67 S (up S 67 L) := fun L a ha => up_ne ha
  have tt : ∀ L, tT (up S 67 L) ta = tT S ta := fun L => by unfold tT; rw [up_ne hta.2]
  have z0 : (0 : Int64).toInt = 0 := rfl
  rw [e, if_pos (by decide), e0, e1, e3, e4, e5]
  -- the rest, once size and base are known
  have rest : ∀ (A n : Nat) (sz ba : Int32), sz = Int32.ofNat n → ba = Int32.ofNat A → A + n ≤ (toL t.2.2.2).length → winA t w = A → winN t w = n → ∃ S', ((p_fromStart S (Int64.ofInt v) sz).bind fun r7 => (if (lg_cmp r7 0) < 0 then ((p_moveTo S (-1) (-1)).bind fun r10 => some (r10, (0 : Int32))) else (if 0 ≤ (lg_cmp r7 sz.toInt64) then ((p_moveTo S (-1) (-1)).bind fun r13 => some (r13, 0)) else ((t_item (tT S ta) (Int32.ofNat q) (ba + r7.toInt32)).bind fun r15 => ((p_moveTo S r15 r15).bind fun r17 => some (r17, 0)))))) = some (S', 0) ∧ fr67 S S' ∧ spO S' ta (byP t w v) := by
    intro A n sz ba hsz' hba hAn hA hN
    have hnt : (sz.toInt64).toInt = n := by rw [hsz', l_32 n (by omega), l_of (by omega) (by omega)]
    have l1 := l_of (z := v) (by omega) (by omega)
    obtain ⟨r, hr, hrv⟩ : ∃ r, p_fromStart S (Int64.ofInt v) sz = some r ∧ r.toInt = if v < 0 then v + n else v := by
      unfold p_fromStart
      by_cases hs : v < 0
      · refine ⟨_, if_neg (by rw [lg_ge, l1, z0]; omega), ?_⟩
        rw [l_add (by rw [l1]; omega) (by rw [hnt]; omega), l1, hnt, if_pos hs]
      · exact ⟨_, if_pos ((lg_ge _ _).mpr (by rw [l1, z0]; omega)), by rw [l1, if_neg hs]⟩
    rw [hr, o_bind]
    unfold byP
    simp only [hA, hN]
    by_cases c1 : r.toInt < 0
    · rw [if_pos ((lg_lt _ _).mpr (by rw [z0]; exact c1)), move_val h1, o_bind, if_neg (by rw [← hrv]; omega)]
      exact ⟨_, rfl, fr _, -1, lo, hi, up_same⟩
    · rw [if_neg (by rw [lg_lt, z0]; exact c1)]
      by_cases c2 : (n : Int) ≤ r.toInt
      · rw [if_pos ((lg_ge _ _).mpr (by rw [hnt]; exact c2)), move_val h1, o_bind, if_neg (by rw [← hrv]; omega)]
        exact ⟨_, rfl, fr _, -1, lo, hi, up_same⟩
      · have hx : r.toInt.toNat < n := by omega
        have hj : A + r.toInt.toNat < (toL t.2.2.2).length := by omega
        obtain ⟨i1, i2⟩ := h2'.elem hj
        rw [if_neg (by rw [lg_ge, hnt]; exact c2), l_to32 (n := r.toInt.toNat) (by omega) (by omega), hba, ← Int32.ofNat_add, i1, o_bind, move_val h1, o_bind, if_pos (by rw [← hrv]; omega), ← hrv, List.getElem?_eq_getElem hj]
        exact ⟨_, rfl, fr _, _, _, lo, hi, up_same, by rw [tt]; exact i2, (fun _ _ e => by cases e), (fun _ _ e => by cases e)⟩
  cases w with
  | none =>
    rw [if_pos (show (if (none : Option (Nat × Nat)).isSome = true then (1 : Int32) else 0) = 0 from rfl), it1, o_bind]
    exact rest 0 (toL t.2.2.2).length _ 0 rfl rfl (by omega) rfl hsz
  | some ab =>
    obtain ⟨a, b⟩ := ab
    obtain ⟨w1, w2, -⟩ := h3 a b rfl
    obtain ⟨x1, x2⟩ := h4 a b rfl
    have es : hi - lo = Int32.ofNat (b - a) := by
      rw [x1, x2]
      apply Int32.toInt_inj.mp
      have a1 : (Int32.ofNat a).toInt = a := i_of (by omega)
      have a2 : (Int32.ofNat b).toInt = b := i_of (by omega)
      rw [i_sub (by omega) (by omega), a1, a2, i_of (by omega)]
      omega
    rw [if_neg (show ¬ (if (some (a, b) : Option (Nat × Nat)).isSome = true then (1 : Int32) else 0) = 0 from fun e => absurd e (show ¬ (1 : Int32) = 0 by decide))]
    exact rest a (b - a) _ lo es x1 (by omega) rfl rfl
end Step130
end

section
/-! A step that takes a part, by the class. -/
section Part131
def stS : List Int32 := [115, 116, 97, 114, 116]
def enS : List Int32 := [101, 110, 100]
theorem k9_ : k9 = pstr stS ∧ k11 = pstr enS ∧ okS stS ∧ okS enS ∧ (∀ u ∈ k9, u ≠ -1) ∧ (∀ u ∈ k11, u ≠ -1) ∧ k9.length ≤ 100 ∧ k11.length ≤ 100 := by
  refine ⟨by decide, by decide, ?_, ?_, by decide, by decide, by decide, by decide⟩
  · unfold okS; decide
  · unfold okS; decide
/-- a bound found -/
theorem bd_find {us bs : List Int32} {q : Nat} {pi : Vl} {s' : List Int32} (h : vat us q pi) (h6 : pi.1 = 6) (hs : okS s') (hbs : bs = pstr s') (hb : bs.length ≤ 100) (h3 : ∀ u ∈ bs, u ≠ -1) : ∃ x y, t_itemBy us bs (Int32.ofNat q) = some x ∧ t_valueOf us x = some y ∧ bdT us y (byN pi s') := by
  have h' := h
  rw [vl6 h6] at h'
  obtain ⟨b1, b2⟩ := h'.bound hs hbs hb h3
  by_cases hj : (toL pi.2.2.2).findIdx (fun m => m.1 == s') < (toL pi.2.2.2).length
  · obtain ⟨a, b, n1, n2, n3⟩ := b1 hj
    refine ⟨_, _, n1, n2, ?_⟩
    unfold byN
    rw [dif_pos hj]
    exact ⟨b, rfl, n3⟩
  · refine ⟨-1, -1, b2 hj, by unfold t_valueOf; rw [if_pos rfl], ?_⟩
    unfold byN
    rw [dif_neg hj]
    rfl
/-- the window narrowed -/
def nwA (pi : Vl) (a b : Nat) : Nat := a + lim (byN pi stS) (b - a) 0
def nwB (pi : Vl) (a b : Nat) : Nat := a + max (lim (byN pi stS) (b - a) 0) (lim (byN pi enS) (b - a) (b - a))
theorem narrow_val {S : SS} {t0 a b : Nat} {T pl it y3 y7 : Int32} {pi : Vl} (h : S 67 = [T, pl, it, 1, Int32.ofNat a, Int32.ofNat b]) (ha : a ≤ b) (hb : b ≤ 9000) (h3 : bdT (tT S t0) y3 (byN pi stS)) (h7 : bdT (tT S t0) y7 (byN pi enS)) (o3 : okD (byN pi stS)) (o7 : okD (byN pi enS)) : ((p_bound S t0 y3 ((rd S 67 5) - (rd S 67 4)) 0).bind fun r33 => ((p_bound S t0 y7 ((rd S 67 5) - (rd S 67 4)) ((rd S 67 5) - (rd S 67 4))).bind fun r35 => some (wr (wr S 67 5 ((rd S 67 4) + (imax r33 r35))) 67 4 ((rd (wr S 67 5 ((rd S 67 4) + (imax r33 r35))) 67 4) + r33), (0 : Int32)))) = some (up S 67 [T, pl, it, 1, Int32.ofNat (nwA pi a b), Int32.ofNat (nwB pi a b)], 0) := by
  have e5 : rd S 67 5 - rd S 67 4 = Int32.ofNat (b - a) := by
    unfold rd
    rw [h]
    show Int32.ofNat b - Int32.ofNat a = _
    apply Int32.toInt_inj.mp
    have a1 : (Int32.ofNat a).toInt = a := i_of (by omega)
    have a2 : (Int32.ofNat b).toInt = b := i_of (by omega)
    rw [i_sub (by omega) (by omega), a1, a2, i_of (by omega)]
    omega
  have e4 : rd S 67 4 = Int32.ofNat a := by unfold rd; rw [h]; rfl
  have l1 := lim_le (o := byN pi stS) (n := b - a) (d := 0) (by omega)
  have l2 := lim_le (o := byN pi enS) (n := b - a) (d := b - a) (by omega)
  have im : imax (Int32.ofNat (lim (byN pi stS) (b - a) 0)) (Int32.ofNat (lim (byN pi enS) (b - a) (b - a))) = Int32.ofNat (max (lim (byN pi stS) (b - a) 0) (lim (byN pi enS) (b - a) (b - a))) := by
    apply i_ofnn
    · rw [i_max, i_of (by omega), i_of (by omega)]; omega
    · omega
  rw [e5, e4, show (0 : Int32) = Int32.ofNat 0 from rfl, bd_bound h3 o3 (by omega), o_bind, bd_bound h7 o7 (by omega), o_bind, im, ← Int32.ofNat_add, wr_eq h]
  have e6 : rd (up S 67 ([T, pl, it, 1, Int32.ofNat a, Int32.ofNat b].set 5 (Int32.ofNat (nwB pi a b)))) 67 4 = Int32.ofNat a := by unfold rd; rw [up_same]; rfl
  show some (wr (up S 67 ([T, pl, it, 1, Int32.ofNat a, Int32.ofNat b].set 5 (Int32.ofNat (nwB pi a b)))) 67 4 (rd (up S 67 ([T, pl, it, 1, Int32.ofNat a, Int32.ofNat b].set 5 (Int32.ofNat (nwB pi a b)))) 67 4 + Int32.ofNat (lim (byN pi stS) (b - a) 0)), Int32.ofNat 0) = _
  rw [e6, ← Int32.ofNat_add, wr_up]
  rfl
theorem nw_ok (pi : Vl) {a b : Nat} (h : a ≤ b) : nwA pi a b ≤ nwB pi a b ∧ nwB pi a b ≤ b := by
  have l1 := lim_le (o := byN pi stS) (n := b - a) (d := 0) (by omega)
  have l2 := lim_le (o := byN pi enS) (n := b - a) (d := b - a) (by omega)
  unfold nwA nwB
  omega
theorem vl4 {v : Vl} (h : v.1 = 4) : v = (4, v.2.1, v.2.2.1, v.2.2.2) := by
  obtain ⟨k, x, s, f⟩ := v
  simp only at h
  rw [h]
/-- may a part be taken of it? -/
def okW (t pi : Vl) : Prop := (t.1 = 4 ∨ t.1 = 5) ∧ okD (byN pi stS) ∧ okD (byN pi enS)
def winE (t : Vl) (w : Option (Nat × Nat)) : Nat := winA t w + winN t w
theorem byPart_val {S : SS} {ta t1 q2 : Nat} {t pi : Vl} {w : Option (Nat × Nat)} (hta : ta < 1000 ∧ ta ≠ 67) (ht1 : t1 ≠ 67) (h : spC S ta t w) (hp : vat (tT S t1) q2 pi) (h6 : pi.1 = 6) : (okW t pi → ∃ S', p_byPart S t1 (Int32.ofNat q2) = some (S', 0) ∧ fr67 S S' ∧ spC S' ta t (some (nwA pi (winA t w) (winE t w), nwB pi (winA t w) (winE t w)))) ∧ (¬ okW t pi → p_byPart S t1 (Int32.ofNat q2) = some (S, 1)) := by
  have hk := h.kind hta.1
  obtain ⟨q, it, lo, hi, h1, h2, h3, h4⟩ := h
  have k6 := h2.2.2.1.1
  obtain ⟨g1, g2, g3, g4, g5, g6, g7, g8⟩ := k9_
  obtain ⟨x3, y3, f1, f2, f3⟩ := bd_find hp h6 g3 g1 g7 g5
  obtain ⟨x7, y7, f5, f6, f7⟩ := bd_find hp h6 g4 g2 g8 g6
  have e0 : (rd S 67 0).toNatClampNeg = ta := by unfold rd; rw [h1]; exact i_cl (by omega)
  have e3 : rd S 67 3 = if w.isSome then 1 else 0 := by unfold rd; rw [h1]; rfl
  have lt := h2.lt
  have l4 := h2.1
  have fr : ∀ L, fr67 S (up S 67 L) := fun L a ha => up_ne ha
  have tt : ∀ L a, a ≠ 67 → tT (up S 67 L) a = tT S a := fun L a ha => by unfold tT; rw [up_ne ha]
  have szb : size t ≤ 4096 ∨ ¬ (t.1 = 4 ∨ t.1 = 5) := by
    by_cases e4 : t.1 = 4
    · left
      unfold size
      rw [if_pos e4]
      have h2' := h2
      rw [vl4 e4] at h2'
      obtain ⟨-, -, w0, r, d1, -⟩ := h2'
      have := drop_len d1 (bV_ne _)
      have f := flat_len w0.2.2.1
      have e : (bV (4, t.2.1, t.2.2.1, t.2.2.2)).length = (t.2.2.1.flatMap esc).length + 2 := by
        show (pstr t.2.2.1).length = _
        simp [pstr]
      simp only at f
      omega
    · by_cases e5 : t.1 = 5
      · left
        unfold size
        rw [if_neg e4]
        have h2' := h2
        rw [vl5 e5] at h2'
        have := (h2'.items (Or.inl rfl)).2
        omega
      · right; intro e; exact e.elim e4 e5
  unfold p_byPart
  rw [f1, o_bind, f2, o_bind, f5, o_bind, f6, o_bind, hk, o_bind]
  obtain ⟨ib3, ib3'⟩ := bd_isBound f3
  obtain ⟨ib7, ib7'⟩ := bd_isBound f7
  -- once a window is there
  have rest : ∀ (L : SS) (a b : Nat), L 67 = [Int32.ofNat ta, Int32.ofNat q, it, 1, Int32.ofNat a, Int32.ofNat b] → fr67 S L → a ≤ b → b ≤ size t → (t.1 = 4 ∨ t.1 = 5) → a = winA t w → b = winE t w → okD (byN pi stS) → okD (byN pi enS) → ∃ S', ((p_bound L t1 y3 ((rd L 67 5) - (rd L 67 4)) 0).bind fun r33 => ((p_bound L t1 y7 ((rd L 67 5) - (rd L 67 4)) ((rd L 67 5) - (rd L 67 4))).bind fun r35 => some (wr (wr L 67 5 ((rd L 67 4) + (imax r33 r35))) 67 4 ((rd (wr L 67 5 ((rd L 67 4) + (imax r33 r35))) 67 4) + r33), (0 : Int32)))) = some (S', 0) ∧ fr67 S S' ∧ spC S' ta t (some (nwA pi (winA t w) (winE t w), nwB pi (winA t w) (winE t w))) := by
    intro L a b hL fL hab hbs hkk ea eb o3 o7
    have hT : tT L t1 = tT S t1 := by unfold tT; rw [fL t1 ht1]
    have hTa : tT L ta = tT S ta := by unfold tT; rw [fL ta hta.2]
    have hb9 : b ≤ 9000 := by rcases szb with z | z; omega; exact absurd hkk z
    refine ⟨_, narrow_val hL hab hb9 (by rw [hT]; exact f3) (by rw [hT]; exact f7) o3 o7, fun x hx => by rw [up_ne hx, fL x hx], q, it, _, _, up_same, ?_, ?_, ?_⟩
    · have : tT (up L 67 [Int32.ofNat ta, Int32.ofNat q, it, 1, Int32.ofNat (nwA pi a b), Int32.ofNat (nwB pi a b)]) ta = tT S ta := by unfold tT; rw [up_ne hta.2]; exact hTa
      rw [this]; exact h2
    · intro x y e
      cases e
      rw [← ea, ← eb]
      have := nw_ok pi hab
      exact ⟨this.1, by omega, hkk⟩
    · intro x y e
      cases e
      rw [← ea, ← eb]
      exact ⟨rfl, rfl⟩
  have conds : ∀ (X : Option (SS × Int32)), (okW t pi → (t.1 = 4 ∨ t.1 = 5) → ∃ S', X = some (S', 0) ∧ fr67 S S' ∧ spC S' ta t (some (nwA pi (winA t w) (winE t w), nwB pi (winA t w) (winE t w)))) → (t.1 = 4 ∨ t.1 = 5) → (okW t pi → ∃ S', ((p_isBound S t1 y3).bind fun r40 => (if r40 = 0 then some (S, (1 : Int32)) else ((p_isBound S t1 y7).bind fun r43 => (if r43 = 0 then some (S, 1) else X)))) = some (S', 0) ∧ fr67 S S' ∧ spC S' ta t (some (nwA pi (winA t w) (winE t w), nwB pi (winA t w) (winE t w)))) ∧ (¬ okW t pi → ((p_isBound S t1 y3).bind fun r40 => (if r40 = 0 then some (S, (1 : Int32)) else ((p_isBound S t1 y7).bind fun r43 => (if r43 = 0 then some (S, 1) else X)))) = some (S, 1)) := by
    intro X hX hkk
    refine ⟨fun ok => ?_, fun nok => ?_⟩
    · rw [ib3 ok.2.1, o_bind, if_neg (by decide), ib7 ok.2.2, o_bind, if_neg (by decide)]
      exact hX ok hkk
    · by_cases o3 : okD (byN pi stS)
      · rw [ib3 o3, o_bind, if_neg (by decide)]
        have o7 : ¬ okD (byN pi enS) := fun e => nok ⟨hkk, o3, e⟩
        rw [ib7' o7, o_bind, if_pos rfl]
      · rw [ib3' o3, o_bind, if_pos rfl]
  have hS1 : wr (wr S 67 3 1) 67 4 0 = up S 67 [Int32.ofNat ta, Int32.ofNat q, it, 1, 0, hi] := by rw [wr_eq h1, wr_up]; rfl
  have hS2 : ∀ r, wr (up S 67 [Int32.ofNat ta, Int32.ofNat q, it, 1, 0, hi]) 67 5 r = up S 67 [Int32.ofNat ta, Int32.ofNat q, it, 1, 0, r] := fun r => by rw [wr_up]; rfl
  have hS3 : (rd (up S 67 [Int32.ofNat ta, Int32.ofNat q, it, 1, 0, hi]) 67 0).toNatClampNeg = ta := by unfold rd; rw [up_same]; exact i_cl (by omega)
  have hS4 : rd (up S 67 [Int32.ofNat ta, Int32.ofNat q, it, 1, 0, hi]) 67 1 = Int32.ofNat q := by unfold rd; rw [up_same]; rfl
  have hS5 : tT (up S 67 [Int32.ofNat ta, Int32.ofNat q, it, 1, 0, hi]) ta = tT S ta := tt _ _ hta.2
  by_cases e4 : t.1 = 4
  · rw [e4, if_pos (by decide), if_neg (by decide)]
    refine conds _ (fun ok hkk => ?_) (Or.inl e4)
    rw [e3, hS1, hS3, hS4, hS5]
    cases w with
    | none =>
      have h2' := h2
      rw [vl4 e4] at h2'
      obtain ⟨-, -, w0, r, d1, -⟩ := h2'
      have hc := chars_val (r := r) l4 w0.2.2.1 d1
      have hc : t_chars (tT S ta) (Int32.ofNat q) = some (Int32.ofNat (size t)) := by rw [hc]; unfold size; rw [if_pos e4]
      rw [if_pos (show (if (none : Option (Nat × Nat)).isSome = true then (1 : Int32) else 0) = 0 from rfl), hc, o_bind, hS2]
      exact rest _ 0 (size t) up_same (fr _) (by omega) (Nat.le_refl _) hkk rfl (show size t = 0 + size t by omega) ok.2.1 ok.2.2
    | some ab =>
      obtain ⟨a, b⟩ := ab
      obtain ⟨w1, w2, -⟩ := h3 a b rfl
      obtain ⟨x1, x2⟩ := h4 a b rfl
      rw [if_neg (show ¬ (if (some (a, b) : Option (Nat × Nat)).isSome = true then (1 : Int32) else 0) = 0 from fun e => absurd e (show ¬ (1 : Int32) = 0 by decide))]
      exact rest S a b (by rw [h1, x1, x2]; rfl) (fun _ _ => rfl) w1 w2 hkk rfl (by unfold winE winA winN; simp only; omega) ok.2.1 ok.2.2
  · rw [if_neg (by rw [show (4 : Int32) = Int32.ofNat 4 from rfl, i_inj (by omega) (by omega)]; exact e4)]
    by_cases e5 : t.1 = 5
    · rw [e5, if_pos (by decide)]
      refine conds _ (fun ok hkk => ?_) (Or.inr e5)
      rw [e3, hS1, hS3, hS4, hS5]
      cases w with
      | none =>
        have h2' := h2
        rw [vl5 e5] at h2'
        have hc := (h2'.items (Or.inl rfl)).1
        have hc : t_items (tT S ta) (Int32.ofNat q) = some (Int32.ofNat (size t)) := by rw [hc]; unfold size; rw [if_neg e4]
        rw [if_pos (show (if (none : Option (Nat × Nat)).isSome = true then (1 : Int32) else 0) = 0 from rfl), hc, o_bind, hS2]
        exact rest _ 0 (size t) up_same (fr _) (by omega) (Nat.le_refl _) hkk rfl (show size t = 0 + size t by omega) ok.2.1 ok.2.2
      | some ab =>
        obtain ⟨a, b⟩ := ab
        obtain ⟨w1, w2, -⟩ := h3 a b rfl
        obtain ⟨x1, x2⟩ := h4 a b rfl
        rw [if_neg (show ¬ (if (some (a, b) : Option (Nat × Nat)).isSome = true then (1 : Int32) else 0) = 0 from fun e => absurd e (show ¬ (1 : Int32) = 0 by decide))]
        exact rest S a b (by rw [h1, x1, x2]; rfl) (fun _ _ => rfl) w1 w2 hkk rfl (by unfold winE winA winN; simp only; omega) ok.2.1 ok.2.2
    · rw [if_neg (by rw [show (5 : Int32) = Int32.ofNat 5 from rfl, i_inj (by omega) (by omega)]; exact e5)]
      exact ⟨fun ok => absurd ok.1 (fun e => e.elim e4 e5), fun _ => rfl⟩
end Part131
end

section
/-! The class goes along a path. -/
section Follow132
/-- where a path has led to: nothing, or a value and its window -/
abbrev Cu : Type := Option (Vl × Option (Nat × Nat))
noncomputable def stepV (t : Vl) (w : Option (Nat × Nat)) (pi : Vl) : Option Cu :=
  if pi.1 = 3 then (if t.1 = 5 then some ((byP t w pi.2.1).map fun v => (v, none)) else none)
  else if pi.1 = 4 then (if t.1 = 6 then some ((byN t pi.2.2.1).map fun v => (v, none)) else none)
  else if pi.1 = 6 then (if @decide (okW t pi) (Classical.propDecidable _) = true then some (some (t, some (nwA pi (winA t w) (winE t w), nwB pi (winA t w) (winE t w)))) else none)
  else none
noncomputable def foll : Cu → List Vl → Option Cu
  | c, [] => some c
  | none, _ :: _ => some none
  | some (t, w), pi :: ps => if t.1 = 0 then some none else (match stepV t w pi with
    | none => none
    | some c => foll c ps)
def spU (S : SS) (ta : Nat) (c : Cu) : Prop := match c with
  | none => spN S ta
  | some (t, w) => spC S ta t w
theorem spO_U {S : SS} {ta : Nat} {o : Option Vl} (h : spO S ta o) : spU S ta (o.map fun v => (v, none)) := by
  cases o <;> exact h
theorem step_val {S : SS} {ta t1 q2 : Nat} {t pi : Vl} {w : Option (Nat × Nat)} (hta : ta < 1000 ∧ ta ≠ 67) (ht1 : t1 ≠ 67) (h : spC S ta t w) (hp : vat (tT S t1) q2 pi) : (∀ c, stepV t w pi = some c → ∃ S', p_step S t1 (Int32.ofNat q2) = some (S', 0) ∧ fr67 S S' ∧ spU S' ta c) ∧ (stepV t w pi = none → p_step S t1 (Int32.ofNat q2) = some (S, 1)) := by
  have k6 := hp.2.2.1.1
  unfold p_step stepV
  rw [hp.kind, o_bind]
  by_cases e3 : pi.1 = 3
  · have hp' := hp
    rw [vl3 e3] at hp'
    obtain ⟨b1, b2⟩ := byPlace_val hta h (hp.2.2.1.2.1 e3)
    rw [e3, if_pos (show Int32.ofNat 3 = 3 from rfl), if_pos (show (3 : Nat) = 3 from rfl), hp'.number, o_bind]
    by_cases e5 : t.1 = 5
    · obtain ⟨S', s1, s2, s3⟩ := b1 e5
      rw [if_pos e5, s1, o_bind]
      exact ⟨fun c hc => by cases hc; exact ⟨S', rfl, s2, spO_U s3⟩, fun hc => by cases hc⟩
    · rw [if_neg e5, b2 e5, o_bind]
      exact ⟨fun c hc => (by cases hc), fun _ => rfl⟩
  have i3 : ¬ Int32.ofNat pi.1 = 3 := by rw [show (3 : Int32) = Int32.ofNat 3 from rfl, i_inj (by omega) (by omega)]; exact e3
  rw [if_neg i3, if_neg e3]
  by_cases e4 : pi.1 = 4
  · obtain ⟨l1, l2, w0, r, d1, -⟩ := id hp
    have d1' : (tT S t1).drop q2 = pstr pi.2.2.1 ++ r := by
      rw [d1]
      congr 1
      conv => lhs; rw [vl4 e4]
      rfl
    obtain ⟨b1, b2⟩ := byName_val hta h l1 w0.2.2.1 d1'
    rw [e4, if_pos (show Int32.ofNat 4 = 4 from rfl), if_pos (show (4 : Nat) = 4 from rfl)]
    by_cases e6 : t.1 = 6
    · obtain ⟨S', s1, s2, s3⟩ := b1 e6
      rw [if_pos e6, s1, o_bind]
      exact ⟨fun c hc => by cases hc; exact ⟨S', rfl, s2, spO_U s3⟩, fun hc => by cases hc⟩
    · rw [if_neg e6, b2 e6, o_bind]
      exact ⟨fun c hc => (by cases hc), fun _ => rfl⟩
  have i4 : ¬ Int32.ofNat pi.1 = 4 := by rw [show (4 : Int32) = Int32.ofNat 4 from rfl, i_inj (by omega) (by omega)]; exact e4
  rw [if_neg i4, if_neg e4]
  by_cases e6 : pi.1 = 6
  · obtain ⟨b1, b2⟩ := byPart_val hta ht1 h hp e6
    rw [e6, if_pos (show Int32.ofNat 6 = 6 from rfl), if_pos (show (6 : Nat) = 6 from rfl)]
    by_cases ok : okW t pi
    · obtain ⟨S', s1, s2, s3⟩ := b1 ok
      rw [if_pos (@decide_eq_true _ (Classical.propDecidable _) ok), s1, o_bind]
      exact ⟨fun c hc => by cases hc; exact ⟨S', rfl, s2, s3⟩, fun hc => by cases hc⟩
    · rw [if_neg (fun e => ok (@of_decide_eq_true _ (Classical.propDecidable _) e)), b2 ok, o_bind]
      exact ⟨fun c hc => (by cases hc), fun _ => rfl⟩
  have i6 : ¬ Int32.ofNat pi.1 = 6 := by rw [show (6 : Int32) = Int32.ofNat 6 from rfl, i_inj (by omega) (by omega)]; exact e6
  rw [if_neg i6, if_neg e6]
  exact ⟨fun c hc => (by cases hc), fun _ => rfl⟩
theorem null_val {S : SS} {ta : Nat} {c : Cu} (hta : ta < 1000) (h : spU S ta c) : (c = none ∨ (∃ t w, c = some (t, w) ∧ t.1 = 0) → p_isNull S = some 1) ∧ (∀ t w, c = some (t, w) → t.1 ≠ 0 → p_isNull S = some 0) := by
  unfold p_isNull
  refine ⟨fun hc => ?_, fun t w hc ht => ?_⟩
  · rcases hc with e | ⟨t, w, e, e0⟩
    · rw [e] at h
      rw [spN.kind hta h, o_bind, if_pos rfl]
    · rw [e] at h
      rw [spC.kind hta h, o_bind, e0, if_pos (by decide)]
  · rw [hc] at h
    have k6 : t.1 ≤ 6 := by obtain ⟨_, _, _, _, _, h2, _⟩ := h; exact h2.2.2.1.1
    rw [spC.kind hta h, o_bind, if_neg (by rw [show (0 : Int32) = Int32.ofNat 0 from rfl, i_inj (by omega) (by omega)]; exact ht)]
theorem spU.row {S : SS} {ta : Nat} {c : Cu} (h : spU S ta c) : ∃ T p it pt lo hi : Int32, S 67 = [T, p, it, pt, lo, hi] ∧ T = Int32.ofNat ta := by
  cases c with
  | none => obtain ⟨it, lo, hi, e⟩ := h; exact ⟨_, _, _, _, _, _, e, rfl⟩
  | some tw => obtain ⟨t, w⟩ := tw; obtain ⟨q, it, lo, hi, e, -⟩ := h; exact ⟨_, _, _, _, _, _, e, rfl⟩
theorem foll_l {ta t1 : Nat} {z : Int32} {r us : List Int32} (hta : ta < 1000 ∧ ta ≠ 67) (ht1 : t1 ≠ 67) (hl : us.length ≤ 4096) (hA : asc us) (hz : z = 93 ∨ z = 125) : ∀ (l : List Mb) (n cn q : Nat) (S : SS) (c : Cu), okL l → l ≠ [] → tT S t1 = us → us.drop q = jn (l.map (bM false)) ++ z :: r → l.length < n → cn ≤ q → spU S ta c → (∀ c', foll c (l.map fun m => m.2) = some c' → ∃ S', p_follow_l15 ta t1 n S (Int32.ofNat q) (Int32.ofNat cn) = some (S', 0) ∧ fr67 S S' ∧ spU S' ta c') ∧ (foll c (l.map fun m => m.2) = none → ∃ S', p_follow_l15 ta t1 n S (Int32.ofNat q) (Int32.ofNat cn) = some (S', 1) ∧ fr67 S S') := by
  intro l
  induction l with
  | nil => intro n cn q S c _ h; exact absurd rfl h
  | cons m l ih =>
    intro n cn q S c hw _ hu h hn hc hsp
    obtain ⟨n1, -, n2, n3⟩ := nx hl hA (hw m List.mem_cons_self) hz h
    have hv := (mem_at hl hA (hw m List.mem_cons_self) hz h).1 rfl
    cases n with
    | zero => omega
    | succ n =>
      obtain ⟨nu1, nu2⟩ := null_val hta.1 hsp
      have e4 : ¬ (4096 : Int32) ≤ Int32.ofNat cn := by rw [show (4096 : Int32) = Int32.ofNat 4096 from rfl, i_le' (by omega) (by omega)]; omega
      have un : p_follow_l15 ta t1 (n + 1) S (Int32.ofNat q) (Int32.ofNat cn) = ((p_isNull S).bind fun r7 => (if r7 = 0 then ((p_step S t1 (Int32.ofNat q)).bind fun r10 => (if r10.2 = 0 then ((t_next (tT r10.1 t1) (Int32.ofNat q)).bind fun r13 => p_follow_l15 ta t1 n r10.1 r13 (Int32.ofNat cn + 1)) else some (r10.1, r10.2))) else ((p_moveTo S (-1) (-1)).bind fun r15 => some (r15, 0)))) := by
        show (if (4096 : Int32) ≤ Int32.ofNat cn then _ else _) = _
        rw [if_neg e4, if_neg (i_ne1 (by omega))]
      rw [un]
      have nothing : (c = none ∨ ∃ t w, c = some (t, w) ∧ t.1 = 0) → ∃ S', ((p_isNull S).bind fun r7 => (if r7 = 0 then ((p_step S t1 (Int32.ofNat q)).bind fun r10 => (if r10.2 = 0 then ((t_next (tT r10.1 t1) (Int32.ofNat q)).bind fun r13 => p_follow_l15 ta t1 n r10.1 r13 (Int32.ofNat cn + 1)) else some (r10.1, r10.2))) else ((p_moveTo S (-1) (-1)).bind fun r15 => some (r15, (0 : Int32))))) = some (S', 0) ∧ fr67 S S' ∧ spN S' ta := by
        intro hcc
        obtain ⟨T, p, it, pt, lo, hi, e, eT⟩ := hsp.row
        rw [nu1 hcc, o_bind, if_neg (by decide), move_val e, o_bind]
        exact ⟨_, rfl, fun a ha => up_ne ha, -1, lo, hi, by rw [up_same, eT]⟩
      cases c with
      | none =>
        obtain ⟨S', s1, s2, s3⟩ := nothing (Or.inl rfl)
        exact ⟨fun c' hc' => by cases hc'; exact ⟨S', s1, s2, s3⟩, fun hc' => by cases hc'⟩
      | some tw =>
        obtain ⟨t, w⟩ := tw
        have ef : foll (some (t, w)) ((m :: l).map fun m => m.2) = if t.1 = 0 then some none else (match stepV t w m.2 with
          | none => none
          | some c => foll c (l.map fun m => m.2)) := rfl
        rw [ef]
        by_cases e0 : t.1 = 0
        · obtain ⟨S', s1, s2, s3⟩ := nothing (Or.inr ⟨t, w, rfl, e0⟩)
          rw [if_pos e0]
          exact ⟨fun c' hc' => by cases hc'; exact ⟨S', s1, s2, s3⟩, fun hc' => by cases hc'⟩
        · rw [if_neg e0, nu2 t w rfl e0, o_bind, if_pos rfl]
          obtain ⟨st1, st2⟩ := step_val hta ht1 hsp (by rw [hu]; exact hv)
          cases hs : stepV t w m.2 with
          | none =>
            rw [st2 hs, o_bind, if_neg (show ¬ (1 : Int32) = 0 by decide)]
            exact ⟨fun c' hc' => (by cases hc'), fun _ => ⟨S, rfl, fun _ _ => rfl⟩⟩
          | some c2 =>
            obtain ⟨S1, s1, s2, s3⟩ := st1 c2 hs
            have hu1 : tT S1 t1 = us := by unfold tT; rw [s2 t1 ht1]; exact hu
            rw [s1, o_bind, if_pos rfl, hu1, n2, o_bind, i_a1]
            simp only
            by_cases el : l = []
            · rw [if_pos el, el]
              have uz : p_follow_l15 ta t1 n S1 (-1) (Int32.ofNat (cn + 1)) = some (S1, 0) := by
                simp only [List.length_cons] at hn
                cases n with
                | zero => rw [el] at hn; simp at hn
                | succ n =>
                  show (if (4096 : Int32) ≤ Int32.ofNat (cn + 1) then some (S1, 0) else _) = _
                  by_cases e5 : (4096 : Int32) ≤ Int32.ofNat (cn + 1)
                  · rw [if_pos e5]
                  · rw [if_neg e5, if_pos rfl]
              rw [uz]
              exact ⟨fun c' hc' => by cases hc'; exact ⟨S1, rfl, s2, s3⟩, fun hc' => by cases hc'⟩
            · rw [if_neg el]
              obtain ⟨i1, i2⟩ := ih n (cn + 1) _ S1 c2 hw.tail el hu1 (n3 el) (by simp only [List.length_cons] at hn; omega) (by omega) s3
              refine ⟨fun c' hc' => ?_, fun hc' => ?_⟩
              · obtain ⟨S', j1, j2, j3⟩ := i1 c' hc'
                exact ⟨S', j1, fun a ha => (j2 a ha).trans (s2 a ha), j3⟩
              · obtain ⟨S', j1, j2⟩ := i2 hc'
                exact ⟨S', j1, fun a ha => (j2 a ha).trans (s2 a ha)⟩
/-- along a path from a text's beginning -/
theorem follow_val {S : SS} {ta t1 : Nat} {t pt : Vl} (hta : ta < 1000 ∧ ta ≠ 67) (ht1 : t1 ≠ 67) (h67 : (S 67).length = 6) {q0 : Nat} (hv : vat (tT S ta) 0 t) (hp : vat (tT S t1) q0 pt) (h5 : pt.1 = 5) : (∀ c', foll (some (t, none)) ((toL pt.2.2.2).map fun m => m.2) = some c' → ∃ S', p_follow S ta t1 (Int32.ofNat q0) = some (S', 0) ∧ fr67 S S' ∧ spU S' ta c') ∧ (foll (some (t, none)) ((toL pt.2.2.2).map fun m => m.2) = none → ∃ S', p_follow S ta t1 (Int32.ofNat q0) = some (S', 1) ∧ fr67 S S') := by
  have hp' := hp
  rw [vl5 h5] at hp'
  obtain ⟨x0, x1, x2, x3, x4, x5, e⟩ : ∃ x0 x1 x2 x3 x4 x5 : Int32, S 67 = [x0, x1, x2, x3, x4, x5] := by
    cases hS : S 67 with
    | nil => rw [hS] at h67; cases h67
    | cons a1 l1 => cases l1 with
      | nil => rw [hS] at h67; cases h67
      | cons a2 l2 => cases l2 with
        | nil => rw [hS] at h67; cases h67
        | cons a3 l3 => cases l3 with
          | nil => rw [hS] at h67; cases h67
          | cons a4 l4 => cases l4 with
            | nil => rw [hS] at h67; cases h67
            | cons a5 l5 => cases l5 with
              | nil => rw [hS] at h67; cases h67
              | cons a6 l6 => cases l6 with
                | nil => exact ⟨_, _, _, _, _, _, rfl⟩
                | cons a7 l7 => rw [hS] at h67; simp at h67
  have es : p_start S ta = some (up S 67 [Int32.ofNat ta, 0, 0, 0, x4, x5]) := by
    unfold p_start
    rw [wr_eq e, wr_up, wr_up, wr_up]
    rfl
  obtain ⟨S1, hS1⟩ : ∃ S1, S1 = up S 67 [Int32.ofNat ta, 0, 0, 0, x4, x5] := ⟨_, rfl⟩
  have f1 : fr67 S S1 := fun a ha => by rw [hS1]; exact up_ne ha
  have u1 : tT S1 t1 = tT S t1 := by unfold tT; rw [f1 t1 ht1]
  have ua : tT S1 ta = tT S ta := by unfold tT; rw [f1 ta hta.2]
  have sp1 : spU S1 ta (some (t, none)) := ⟨0, 0, x4, x5, by rw [hS1, up_same]; rfl, by rw [ua]; exact hv, (fun _ _ e => by cases e), (fun _ _ e => by cases e)⟩
  unfold p_follow
  rw [es, o_bind, ← hS1, u1, hp'.first (Or.inl rfl), o_bind]
  by_cases el : toL pt.2.2.2 = []
  · rw [if_pos el, el]
    have uz : p_follow_l15 ta t1 10000 S1 (-1) 0 = some (S1, 0) := by
      show (if (4096 : Int32) ≤ 0 then some (S1, 0) else _) = _
      rw [if_neg (by decide), if_pos rfl]
    rw [uz]
    exact ⟨fun c' hc' => by cases hc'; exact ⟨S1, rfl, f1, sp1⟩, fun hc' => by cases hc'⟩
  · rw [if_neg el]
    obtain ⟨l1, l2, w0, r, d1, -⟩ := id hp'
    have hb := box_len (Or.inl rfl) d1
    obtain ⟨i1, i2⟩ := foll_l hta ht1 l1 l2 (z := if (5 : Nat) = 5 then 93 else 125) (Or.inl rfl) (toL pt.2.2.2) 10000 0 (q0 + 1) S1 (some (t, none)) w0.kids el u1 (box_in (Or.inl rfl) d1) (by omega) (by omega) sp1
    refine ⟨fun c' hc' => ?_, fun hc' => ?_⟩
    · obtain ⟨S', j1, j2, j3⟩ := i1 c' hc'
      exact ⟨S', j1, fun a ha => (j2 a ha).trans (f1 a ha), j3⟩
    · obtain ⟨S', j1, j2⟩ := i2 hc'
      exact ⟨S', j1, fun a ha => (j2 a ha).trans (f1 a ha)⟩
end Follow132
end

section
/-! What a path has led to, written by the class. -/
section Write133
def outV (c : Cu) : Vl := match c with
  | none => vNull
  | some (t, none) => t
  | some (t, some (a, b)) => if t.1 = 4 then (4, t.2.1, (t.2.2.1.drop a).take (b - a), t.2.2.2) else (5, t.2.1, t.2.2.1, ofL (((toL t.2.2.2).drop a).take (b - a)))
theorem slice {us w r : List Int32} {p : Nat} (hl : us.length ≤ 4096) (h : us.drop p = w ++ r) (hp : p ≤ us.length) : tcut us (Int32.ofNat p) (Int32.ofNat (p + w.length)) = w := by
  have := congrArg List.length h
  rw [List.length_drop, List.length_append] at this
  unfold tcut
  rw [i_cl (by omega), i_cl (by omega), List.drop_take, h, show p + w.length - p = w.length by omega, List.take_left']
  rfl
theorem jn_app {b : Bool} : ∀ (X Y : List Mb), X ≠ [] → jn ((X ++ Y).map (bM b)) = jn (X.map (bM b)) ++ tl b Y := by
  intro X
  induction X with
  | nil => intro Y h; exact absurd rfl h
  | cons m X ih =>
    intro Y _
    rw [List.cons_append, jn_tl, jn_tl, List.append_assoc]
    congr 1
    by_cases e : X = []
    · rw [e]; unfold tl; simp
    · have : tl b (X ++ Y) = 44 :: jn ((X ++ Y).map (bM b)) := by unfold tl; rw [if_neg (by simp [e])]
      rw [this, ih Y e]
      unfold tl
      rw [if_neg e]
      rfl
theorem ip_last {b : Bool} {q : Nat} {l : List Mb} {i j : Nat} (hij : i < j) (hj : j ≤ l.length) : ip b q l (j - 1) + (bM b (l[j - 1]'(by omega))).length = ip b q l i + (jn (((l.drop i).take (j - i)).map (bM b))).length := by
  have hne : (l.drop i).take (j - i) ≠ [] := by
    intro e
    have := congrArg List.length e
    rw [List.length_take, List.length_drop, List.length_nil] at this
    omega
  have js := jn_sum (b := b) _ hne
  have e1 : ip b q l j = ip b q l (j - 1) + ((bM b (l[j - 1]'(by omega))).length + 1) := by
    have e : l.take j = l.take (j - 1) ++ [l[j - 1]'(by omega)] := by
      have := List.take_succ_eq_append_getElem (l := l) (i := j - 1) (by omega)
      rw [show j - 1 + 1 = j by omega] at this
      exact this
    unfold ip
    rw [e, List.map_append, List.sum_append]
    simp only [List.map_cons, List.map_nil, List.sum_cons, List.sum_nil]
    omega
  have e2 : ip b q l j = ip b q l i + (((l.drop i).take (j - i)).map fun m => (bM b m).length + 1).sum := by
    unfold ip
    have : l.take j = l.take i ++ (l.drop i).take (j - i) := by
      rw [show j = i + (j - i) by omega, List.take_add]
      simp
    rw [this, List.map_append, List.sum_append]
    omega
  omega
theorem write_val {S : SS} {ta o : Nat} {c : Cu} (hta : ta < 1000 ∧ ta ≠ 67) (ho : o ≠ ta ∧ o ≠ 67) (h : spU S ta c) (hS : S o = pv []) : p_writeTo S o = some (up S o (pv (bV (outV c)))) := by
  have e0 : S = up S o (pv []) := by rw [← hS, up_self]
  have tt : ∀ B, tT (up S o (pv B)) ta = tT S ta := fun B => by unfold tT; rw [up_ne (fun e => ho.1 e.symm)]
  have r6 : ∀ B k, rd (up S o (pv B)) 67 k = rd S 67 k := fun B k => rd_up (fun e => ho.2 e.symm)
  have sp1 : ∀ B v, v &&& 255 = v → sput (up S o (pv B)) o v = up S o (pv (B ++ [v])) := fun B v hv => by rw [sput_pv, hv]
  unfold p_writeTo p_nothing
  cases c with
  | none =>
    obtain ⟨it, lo, hi, e⟩ := h
    have e1 : rd S 67 1 = -1 := by unfold rd; rw [e]; rfl
    rw [e1, if_pos rfl, o_bind, if_neg (by decide)]
    conv => lhs; rw [e0]
    rw [sputs_pv _ _ _ _ (by unfold byt; decide)]
    rfl
  | some tw =>
    obtain ⟨t, w⟩ := tw
    have hk := spC.kind hta.1 h
    obtain ⟨q, it, lo, hi, h1, h2, h3, h4⟩ := h
    have lt := h2.lt
    have l4 := h2.1
    have k6 := h2.2.2.1.1
    have e0' : (rd S 67 0).toNatClampNeg = ta := by unfold rd; rw [h1]; exact i_cl (by omega)
    have e1 : rd S 67 1 = Int32.ofNat q := by unfold rd; rw [h1]; rfl
    have e3 : rd S 67 3 = if w.isSome then 1 else 0 := by unfold rd; rw [h1]; rfl
    have e4 : rd S 67 4 = lo := by unfold rd; rw [h1]; rfl
    have e5 : rd S 67 5 = hi := by unfold rd; rw [h1]; rfl
    have sm0 : ∀ k : Nat, k < 2147483648 → ¬ Int32.ofNat k < -10000 := fun k hk' => by
      rw [show (-10000 : Int32) = Int32.ofInt (-10000) from rfl, i_lt, i_ofInt (by decide) (by decide), i_of (by omega)]; omega
    have sm1 : ∀ k : Nat, k ≤ 100000 → ¬ (100000 : Int32) < Int32.ofNat k := fun k hk' => by
      rw [show (100000 : Int32) = Int32.ofNat 100000 from rfl, i_lt' (by omega) (by omega)]; omega
    rw [e1, if_neg (i_ne1 (by omega)), o_bind, if_pos rfl, e3, e0']
    cases w with
    | none =>
      rw [if_pos (show (if (none : Option (Nat × Nat)).isSome = true then (1 : Int32) else 0) = 0 from rfl), h2.past, o_bind]
      obtain ⟨-, -, -, r, d1, -⟩ := h2
      have := spart_pv (S := S) (o := o) (p := ta) (B := []) (f := Int32.ofNat q) (w := Int32.ofNat (q + (bV t).length)) ho.1 (sm0 _ (by omega)) (sm1 _ (by omega))
      rw [← e0] at this
      rw [this, o_bind, slice l4 d1 (by omega)]
      rfl
    | some ab =>
      obtain ⟨a, b⟩ := ab
      obtain ⟨w1, w2, w3⟩ := h3 a b rfl
      obtain ⟨x1, x2⟩ := h4 a b rfl
      have p34 : sput S o 34 = up S o (pv [34]) := by conv => lhs; rw [e0]
                                                      rw [sp1 _ _ (by decide)]; rfl
      have p91 : sput S o 91 = up S o (pv [91]) := by conv => lhs; rw [e0]
                                                      rw [sp1 _ _ (by decide)]; rfl
      rw [if_neg (show ¬ (if (some (a, b) : Option (Nat × Nat)).isSome = true then (1 : Int32) else 0) = 0 from fun e => absurd e (show ¬ (1 : Int32) = 0 by decide)), hk, o_bind]
      by_cases k4 : t.1 = 4
      · have hsz : size t = t.2.2.1.length := by unfold size; rw [if_pos k4]
        obtain ⟨-, -, w0, r, d1, -⟩ := h2
        have d1' : (tT S ta).drop q = pstr t.2.2.1 ++ r := by
          rw [d1]
          congr 1
          conv => lhs; rw [vl4 k4]
          rfl
        have c1 := charPlace_val l4 w0.2.2.1 d1' (k := a) (by omega)
        have c2 := charPlace_val l4 w0.2.2.1 d1' (k := b) (by omega)
        have dd : (tT S ta).drop (q + 1) = t.2.2.1.flatMap esc ++ 34 :: r := drop_more (w := [34]) (by rw [d1', pstr]; simp)
        have sp : t.2.2.1.flatMap esc = (t.2.2.1.take a).flatMap esc ++ (((t.2.2.1.drop a).take (b - a)).flatMap esc ++ (t.2.2.1.drop b).flatMap esc) := by
          rw [← List.flatMap_append, ← List.flatMap_append]
          congr 1
          rw [show t.2.2.1.drop b = (t.2.2.1.drop a).drop (b - a) by rw [List.drop_drop]; congr 1; omega, List.take_append_drop, List.take_append_drop]
        have sb : (t.2.2.1.take b).flatMap esc = (t.2.2.1.take a).flatMap esc ++ ((t.2.2.1.drop a).take (b - a)).flatMap esc := by
          rw [← List.flatMap_append]
          congr 1
          rw [show b = a + (b - a) by omega, List.take_add]
          simp
        rw [sp, List.append_assoc, List.append_assoc] at dd
        have dl := congrArg List.length dd
        rw [List.length_drop, List.length_append, List.length_append] at dl
        have dd2 := drop_more dd
        have cut := slice l4 dd2 (by omega)
        have ebl : q + 1 + ((t.2.2.1.take b).flatMap esc).length = q + 1 + ((t.2.2.1.take a).flatMap esc).length + (((t.2.2.1.drop a).take (b - a)).flatMap esc).length := by rw [sb, List.length_append]; omega
        have spv := spart_pv (S := S) (o := o) (p := ta) (B := [34]) (f := Int32.ofNat (q + 1 + ((t.2.2.1.take a).flatMap esc).length)) (w := Int32.ofNat (q + 1 + ((t.2.2.1.take b).flatMap esc).length)) ho.1 (sm0 _ (by omega)) (sm1 _ (by omega))
        rw [k4, if_pos (by decide), p34, r6, r6, r6, r6, e0', e1, e4, e5, x1, x2, tt, c1, o_bind, c2, o_bind, spv, o_bind, sp1 _ _ (by decide), ebl, cut]
        congr 3
        show _ = bV (outV (some (t, some (a, b))))
        unfold outV
        simp only
        rw [if_pos k4]
        show _ = pstr _
        unfold pstr
        simp
      · have k5 : t.1 = 5 := w3.resolve_left k4
        have hsz : size t = (toL t.2.2.2).length := by unfold size; rw [if_neg k4]
        have h2' := h2
        rw [vl5 k5] at h2'
        obtain ⟨it1, it2⟩ := h2'.items (Or.inl rfl)
        have eout : bV (outV (some (t, some (a, b)))) = 91 :: (jn ((((toL t.2.2.2).drop a).take (b - a)).map (bM false)) ++ [93]) := by
          unfold outV
          simp only
          rw [if_neg k4]
          show 91 :: (bF false (ofL _) ++ [93]) = _
          rw [bF_ofL]
        rw [if_neg (by rw [show (4 : Int32) = Int32.ofNat 4 from rfl, i_inj (by omega) (by omega)]; exact k4), p91, r6, r6, r6, r6, e0', e1, e4, e5, x1, x2, tt, eout]
        by_cases hab : a < b
        · obtain ⟨i1, ⟨z, r, hz, d1⟩, i3⟩ := h2'.item (Or.inl rfl) (j := a) (by omega)
          obtain ⟨j1, ⟨z', r', hz', d2⟩, j3⟩ := h2'.item (Or.inl rfl) (j := b - 1) (by omega)
          rw [show (5 == 6) = false from rfl] at i1 d1 i3 j1 d2 j3
          rw [List.drop_eq_getElem_cons (show b - 1 < (toL t.2.2.2).length by omega)] at d2
          obtain ⟨-, nend, -, -⟩ := nx l4 h2.2.1 (h2'.2.2.1.kids _ (List.getElem_mem (by omega))) hz' d2
          have ea : (toL t.2.2.2).drop a = ((toL t.2.2.2).drop a).take (b - a) ++ (toL t.2.2.2).drop b := by
            rw [show (toL t.2.2.2).drop b = ((toL t.2.2.2).drop a).drop (b - a) by rw [List.drop_drop]; congr 1; omega, List.take_append_drop]
          have hne : ((toL t.2.2.2).drop a).take (b - a) ≠ [] := by
            intro e
            have := congrArg List.length e
            rw [List.length_take, List.length_drop, List.length_nil] at this
            omega
          rw [ea, jn_app _ _ hne, List.append_assoc] at d1
          have cut := slice l4 d1 (by omega)
          have el := ip_last (b := false) (q := q + 1) (l := toL t.2.2.2) hab (by omega)
          have dl := congrArg List.length d1
          rw [List.length_drop, List.length_append] at dl
          have bm1 : Int32.ofNat b - 1 = Int32.ofNat (b - 1) := by
            apply Int32.toInt_inj.mp
            have a1 : (Int32.ofNat b).toInt = b := i_of (by omega)
            have z1 : (1 : Int32).toInt = 1 := rfl
            rw [i_sub (by omega) (by omega), a1, z1, i_of (by omega)]
            omega
          have spv := spart_pv (S := S) (o := o) (p := ta) (B := [91]) (f := Int32.ofNat (ip false (q + 1) (toL t.2.2.2) a)) (w := Int32.ofNat (ip false (q + 1) (toL t.2.2.2) a + (jn ((((toL t.2.2.2).drop a).take (b - a)).map (bM false))).length)) ho.1 (sm0 _ (by omega)) (sm1 _ (by omega))
          rw [if_neg (by rw [i_le' (by omega) (by omega)]; omega), i1, o_bind, bm1, j1, o_bind, nend, o_bind, el, spv, o_bind, sp1 _ _ (by decide), cut]
          simp
        · rw [if_pos ((i_le' (by omega) (by omega)).mpr (by omega)), sp1 _ _ (by decide), show b - a = 0 by omega, List.take_zero]
          rfl
end Write133
end

section
/-! A step of a path, by the reference. -/
section RStep134
theorem aS_ : mp_aS = cstr stS ∧ mp_aE = cstr enS := by decide
theorem bdC_find {S : SS} {ab p k : Nat} {pi : Vl} {s' : List Int32} (h : cat (S ab) p pi) (h6 : pi.1 = 6) (hk : S k = cstr s') (hl : s'.length ≤ 100) : ∃ y, r_named (S ab) (S k) (Int32.ofNat p) 0 = some y ∧ bdC (S ab) y (byN pi s') := by
  have h' := h
  rw [vl6 h6] at h'
  have hlen : (S k).length ≤ 9000 := by rw [hk]; simp [cstr]; omega
  obtain ⟨b1, b2⟩ := h'.by (bs := S k) (p2 := 0) (r' := []) hlen (by rw [List.drop_zero, List.append_nil]; exact hk)
  by_cases hj : (toL pi.2.2.2).findIdx (fun m => m.1 == s') < (toL pi.2.2.2).length
  · obtain ⟨b, n1, n2⟩ := b1 hj
    refine ⟨_, n1, ?_⟩
    unfold byN
    rw [dif_pos hj]
    have := n2.next
    have := n2.1
    exact ⟨b, rfl, by omega, n2⟩
  · refine ⟨-1, b2 hj, ?_⟩
    unfold byN
    rw [dif_neg hj]
    rfl
theorem bdC_bound {S : SS} {ab : Nat} {y : Int32} {o : Option Vl} (h : bdC (S ab) y o) : (okD o → b_bound S ab y = some 1) ∧ (¬ okD o → b_bound S ab y = some 0) := by
  unfold b_bound
  cases o with
  | none =>
    have h : y = -1 := h
    rw [if_pos h]
    exact ⟨fun _ => rfl, fun e => absurd (fun v hv => by cases hv) e⟩
  | some v =>
    obtain ⟨b, hb, hb9, hv⟩ := h
    have hk := hv.2.1.1
    rw [hb, if_neg (i_ne1 (by omega)), hv.kind, o_bind]
    by_cases e0 : v.1 = 0
    · rw [e0, if_pos (by decide)]
      exact ⟨fun _ => rfl, fun e => absurd (fun w hw => by cases hw; exact Or.inl e0) e⟩
    · rw [if_neg (by rw [show (0 : Int32) = Int32.ofNat 0 from rfl, i_inj (by omega) (by omega)]; exact e0)]
      by_cases e3 : v.1 = 3
      · rw [e3, if_pos (by decide)]
        exact ⟨fun _ => rfl, fun e => absurd (fun w hw => by cases hw; exact Or.inr e3) e⟩
      · rw [if_neg (by rw [show (3 : Int32) = Int32.ofNat 3 from rfl, i_inj (by omega) (by omega)]; exact e3)]
        exact ⟨fun e => by rcases e v rfl with e | e; exact absurd e e0; exact absurd e e3, fun _ => rfl⟩
theorem bdC_limit {S : SS} {ab : Nat} {y : Int32} {o : Option Vl} {n d : Nat} (h : bdC (S ab) y o) (ho : okD o) (hn : n ≤ 9000) (hd : d ≤ n) : b_limit S ab y (Int64.ofInt d) (Int64.ofInt n) = some (Int64.ofInt (lim o n d)) := by
  unfold b_limit
  cases o with
  | none =>
    have h : y = -1 := h
    rw [if_pos h, lim_n]
  | some v =>
    obtain ⟨b, hb, hb9, hv⟩ := h
    rw [hb, if_neg (i_ne1 (by omega)), hv.kind, o_bind]
    rcases ho v rfl with e | e
    · rw [e, if_pos (by decide), lim_0 n d e]
    · have hv' := hv
      rw [vl3 e] at hv'
      have hx := hv.2.1.2.1 e
      have z0 : (0 : Int64).toInt = 0 := rfl
      have l1 := l_of (z := v.2.1) (by omega) (by omega)
      have ln := l_of (z := (n : Int)) (by omega) (by omega)
      rw [e, if_neg (by decide), hv'.number, o_bind, lim_3 n d e]
      by_cases hs : v.2.1 < 0
      · have la : (Int64.ofInt v.2.1 + Int64.ofInt n).toInt = v.2.1 + n := by rw [l_add (by rw [l1]; omega) (by rw [ln]; omega), l1, ln]
        rw [if_neg (by rw [lg_ge, l1, z0]; omega), if_pos hs]
        by_cases hs2 : 0 ≤ v.2.1 + n
        · rw [if_pos ((lg_ge _ _).mpr (by rw [la, z0]; exact hs2))]
          congr 1
          apply l_inj
          rw [l_min, la, ln]; omega
        · rw [if_neg (by rw [lg_ge, la, z0]; exact hs2)]
          congr 1
          apply l_inj
          rw [z0]; omega
      · rw [if_pos ((lg_ge _ _).mpr (by rw [l1, z0]; omega)), if_neg hs]
        congr 1
        apply l_inj
        rw [l_min, l1, ln]; omega
theorem part_val {S : SS} {ab p : Nat} {pi : Vl} (h : cat (S ab) p pi) (h6 : pi.1 = 6) (h39 : S 39 = mp_aS) (h40 : S 40 = mp_aE) : (okD (byN pi stS) ∧ okD (byN pi enS) → b_part S ab (Int32.ofNat p) = some 1) ∧ (¬ (okD (byN pi stS) ∧ okD (byN pi enS)) → b_part S ab (Int32.ofNat p) = some 0) := by
  obtain ⟨y1, a1, a2⟩ := bdC_find (k := 39) h h6 (h39.trans aS_.1) (by decide)
  obtain ⟨y2, b1, b2⟩ := bdC_find (k := 40) h h6 (h40.trans aS_.2) (by decide)
  obtain ⟨c1, c2⟩ := bdC_bound a2
  obtain ⟨d1, d2⟩ := bdC_bound b2
  unfold b_part
  rw [a1, o_bind]
  refine ⟨fun ok => ?_, fun nok => ?_⟩
  · rw [c1 ok.1, o_bind, if_neg (by decide), b1, o_bind, d1 ok.2, o_bind, if_neg (by decide)]
  · by_cases o3 : okD (byN pi stS)
    · rw [c1 o3, o_bind, if_neg (by decide), b1, o_bind, d2 (fun e => nok ⟨o3, e⟩), o_bind, if_pos rfl]
    · rw [c2 o3, o_bind, if_pos rfl]
/-- where item or character i of a value is -/
def pos (t : Vl) (p i : Nat) : Nat := if t.1 = 4 then p + 2 + i else bp (p + 2) (blks false (toL t.2.2.2)) i
/-- the reference's spot -/
def spR (S : SS) (aa : Nat) (t : Vl) (w : Option (Nat × Nat)) (l3 : Int32) : Prop := ∃ p, l3 = Int32.ofNat p ∧ p < 9000 ∧ cat (S aa) p t ∧ winO t w ∧ (w = none → rd S 78 17 = Int32.ofNat (p + 2) ∧ rd S 78 18 = Int32.ofNat (p + (cV t).length)) ∧ ((t.1 = 4 ∨ t.1 = 5) → rd S 78 17 = Int32.ofNat (pos t p (winA t w)) ∧ rd S 78 18 = Int32.ofNat (pos t p (winE t w)))
def spRU (S : SS) (aa : Nat) (c : Cu) (l3 : Int32) : Prop := match c with
  | none => l3 = -1
  | some (t, w) => spR S aa t w l3
theorem win_le {t : Vl} {w : Option (Nat × Nat)} (h : winO t w) : winA t w ≤ winE t w ∧ winE t w ≤ size t ∧ winE t w = winA t w + winN t w := by
  cases w with
  | none => exact ⟨by unfold winE winA winN; simp only; omega, by unfold winE winA winN; simp only; omega, rfl⟩
  | some ab =>
    obtain ⟨a, b⟩ := ab
    obtain ⟨h1, h2, -⟩ := h a b rfl
    exact ⟨by unfold winE winA winN; simp only; omega, by unfold winE winA winN; simp only; omega, rfl⟩
/-- blocks of a window -/
theorem win_blk {as r : List Int32} {bs : List (List Int32)} {q i j : Nat} (h : as.drop q = bs.flatten ++ r) (hij : i ≤ j) (hj : j ≤ bs.length) : as.drop (bp q bs i) = ((bs.drop i).take (j - i)).flatten ++ ((bs.drop j).flatten ++ r) ∧ bp q bs j = bp q bs i + ((bs.drop i).take (j - i)).flatten.length := by
  refine ⟨?_, ?_⟩
  · rw [bp_drop h (by omega), ← List.append_assoc, ← List.flatten_append]
    congr 2
    rw [show bs.drop j = (bs.drop i).drop (j - i) by rw [List.drop_drop]; congr 1; omega, List.take_append_drop]
  · unfold bp
    rw [show bs.take j = bs.take i ++ (bs.drop i).take (j - i) by rw [show j = i + (j - i) by omega, List.take_add]; simp, List.flatten_append, List.length_append]
    omega
theorem between_val {S : SS} {aa : Nat} {t : Vl} {w : Option (Nat × Nat)} {l3 : Int32} (h : spR S aa t w l3) (h5 : t.1 = 5) : b_between S aa = some (Int32.ofNat (winN t w)) ∧ winN t w ≤ 4500 := by
  obtain ⟨p, e, hp9, hc, hw, -, hb⟩ := h
  obtain ⟨b1, b2⟩ := hb (Or.inr h5)
  have nx1 := hc.next.2
  obtain ⟨w1, w2, w3⟩ := win_le hw
  have hsz : size t = (toL t.2.2.2).length := by unfold size; rw [if_neg (by omega)]
  have hc' := hc
  rw [vl5 h5] at hc'
  obtain ⟨h9, wv, r, hd⟩ := hc'
  obtain ⟨c1, c2⟩ := cbox_in (Or.inl rfl) hd
  rw [show (5 == 6) = false from rfl] at c1 c2
  have bl := blks_len false (toL t.2.2.2)
  simp only [Bool.false_eq_true, if_false] at bl
  have hh := blks_h (b := false) wv.kids
  have f2 := flat2 _ hh
  have hlen := congrArg List.length c1
  rw [List.length_drop, List.length_append] at hlen
  obtain ⟨g1, g2⟩ := win_blk (i := winA t w) (j := winE t w) c1 w1 (by omega)
  have ep : ∀ i, pos t p i = bp (p + 2) (blks false (toL t.2.2.2)) i := fun i => by unfold pos; rw [if_neg (by omega)]
  have lw : (((blks false (toL t.2.2.2)).drop (winA t w)).take (winE t w - winA t w)).length = winN t w := by rw [List.length_take, List.length_drop]; omega
  have hle : bp (p + 2) (blks false (toL t.2.2.2)) (winE t w) ≤ p + 2 + (blks false (toL t.2.2.2)).flatten.length := by
    unfold bp
    have : ((blks false (toL t.2.2.2)).take (winE t w)).flatten.length + ((blks false (toL t.2.2.2)).drop (winE t w)).flatten.length = (blks false (toL t.2.2.2)).flatten.length := by
      rw [← List.length_append, ← List.flatten_append, List.take_append_drop]
    omega
  refine ⟨?_, by omega⟩
  unfold b_between
  rw [b1, ep]
  have := between_l (S := S) (aa := aa) (by omega) (((blks false (toL t.2.2.2)).drop (winA t w)).take (winE t w - winA t w)) 10000 0 (bp (p + 2) (blks false (toL t.2.2.2)) (winA t w)) (fun x hx => hh x (List.mem_of_mem_drop (List.mem_of_mem_take hx))) g1 (by omega) (by rw [b2, ep, g2]) (by omega)
  rw [Nat.zero_add, lw] at this
  exact this
theorem walk_val {S : SS} {aa : Nat} {t : Vl} {p i k : Nat} (hc : cat (S aa) p t) (h5 : t.1 = 5) (hik : i + k ≤ (toL t.2.2.2).length) : b_walk S aa (Int32.ofNat (pos t p i)) (Int64.ofInt k) = some (Int32.ofNat (pos t p (i + k))) := by
  have hc' := hc
  rw [vl5 h5] at hc'
  obtain ⟨h9, wv, r, hd⟩ := hc'
  obtain ⟨c1, c2⟩ := cbox_in (Or.inl rfl) hd
  rw [show (5 == 6) = false from rfl] at c1 c2
  have bl := blks_len false (toL t.2.2.2)
  simp only [Bool.false_eq_true, if_false] at bl
  have hh := blks_h (b := false) wv.kids
  have f2 := flat2 _ hh
  have hlen := congrArg List.length c1
  rw [List.length_drop, List.length_append] at hlen
  have ep : ∀ i, pos t p i = bp (p + 2) (blks false (toL t.2.2.2)) i := fun i => by unfold pos; rw [if_neg (by omega)]
  have g := bp_drop c1 (j := i) (by omega)
  have := walk_l (S := S) (aa := aa) (k := k) h9 (by omega) ((blks false (toL t.2.2.2)).drop i) 10000 0 (bp (p + 2) (blks false (toL t.2.2.2)) i) (fun x hx => hh x (List.mem_of_mem_drop hx)) g (by omega) (by rw [List.length_drop]; omega) (by omega)
  unfold b_walk
  rw [ep, ep]
  refine (this : b_walk_l6 S aa 10000 (Int64.ofInt k) (Int32.ofNat (bp (p + 2) (blks false (toL t.2.2.2)) i)) 0 = _).trans ?_
  congr 2
  rw [Nat.sub_zero]
  unfold bp
  rw [List.take_add, List.flatten_append, List.length_append]
  omega
end RStep134
end

section
/-! The reference narrows a window, finds a place. -/
section RNarrow135
/-- only the window has changed -/
def frN (S S' : SS) : Prop := (∀ a, a ≠ 78 → S' a = S a) ∧ (∀ k, k ≠ 17 → k ≠ 18 → rd S' 78 k = rd S 78 k) ∧ (S' 78).length = (S 78).length
theorem frN.refl (S : SS) : frN S S := ⟨fun _ _ => rfl, fun _ _ _ => rfl, rfl⟩
theorem frN.trans {S S1 S2 : SS} (a : frN S S1) (b : frN S1 S2) : frN S S2 := ⟨fun x h => (b.1 x h).trans (a.1 x h), fun k h1 h2 => (b.2.1 k h1 h2).trans (a.2.1 k h1 h2), b.2.2.trans a.2.2⟩
theorem frN_wr (S : SS) (x y : Int32) : frN S (wr (wr S 78 17 x) 78 18 y) := ⟨fun a ha => by rw [wr_ne ha, wr_ne ha], fun k h1 h2 => by rw [rd_wr_j (fun e => h2 e.symm), rd_wr_j (fun e => h1 e.symm)], by rw [wr_len, wr_len]⟩
theorem rd_win (S : SS) (x y : Int32) (h : (S 78).length = 22) : rd (wr (wr S 78 17 x) 78 18 y) 78 17 = x ∧ rd (wr (wr S 78 17 x) 78 18 y) 78 18 = y := by
  refine ⟨?_, ?_⟩
  · rw [rd_wr_j (by decide), rd_wr (by rw [h]; decide)]
  · rw [rd_wr (by rw [wr_len, h]; decide)]
theorem l_max_n (a b : Nat) (ha : a ≤ 100000) (hb : b ≤ 100000) : lmax (Int64.ofInt a) (Int64.ofInt b) = Int64.ofInt ((max a b : Nat) : Int) := by
  apply l_inj
  rw [l_max, l_of (by omega) (by omega), l_of (by omega) (by omega)]
  omega
theorem cat_str_len {as : List Int32} {p : Nat} {t : Vl} (h : cat as p t) (h4 : t.1 = 4) : (cV t).length = size t + 2 := by
  have e : (cV t).length = (cstr t.2.2.1).length := by
    conv => lhs; rw [vl4 h4]
    rfl
  rw [e]
  unfold size
  rw [if_pos h4]
  simp [cstr]
theorem rnarrow_val {S : SS} {aa ab i : Nat} {t pi : Vl} {w : Option (Nat × Nat)} {l3 : Int32} (h78 : (S 78).length = 22) (haa : aa ≠ 78) (h39 : S 39 = mp_aS) (h40 : S 40 = mp_aE) (h : spR S aa t w l3) (hp : cat (S ab) i pi) (h6 : pi.1 = 6) (ok : okW t pi) : ∃ S', b_narrow S aa ab (if t.1 = 5 then 0 else 1) (Int32.ofNat i) = some S' ∧ frN S S' ∧ spR S' aa t (some (nwA pi (winA t w) (winE t w), nwB pi (winA t w) (winE t w))) l3 := by
  obtain ⟨y1, a1, a2⟩ := bdC_find (k := 39) hp h6 (h39.trans aS_.1) (by decide)
  obtain ⟨y2, b1, b2⟩ := bdC_find (k := 40) hp h6 (h40.trans aS_.2) (by decide)
  obtain ⟨hk, o1, o2⟩ := ok
  obtain ⟨p, e, hp9, hc, hw, hn0, hb⟩ := id h
  obtain ⟨r1, r2⟩ := hb hk
  obtain ⟨w1, w2, w3⟩ := win_le hw
  have nwo := nw_ok pi w1
  have en : winE t w - winA t w = winN t w := by omega
  have l1 := lim_le (o := byN pi stS) (n := winN t w) (d := 0) (by omega)
  have l2 := lim_le (o := byN pi enS) (n := winN t w) (d := winN t w) (Nat.le_refl _)
  have eA : nwA pi (winA t w) (winE t w) = winA t w + lim (byN pi stS) (winN t w) 0 := by unfold nwA; rw [en]
  have eB : nwB pi (winA t w) (winE t w) = winA t w + max (lim (byN pi stS) (winN t w) 0) (lim (byN pi enS) (winN t w) (winN t w)) := by unfold nwB; rw [en]
  have nx1 := hc.next.2
  have fin : ∀ x y : Int32, x = Int32.ofNat (pos t p (nwA pi (winA t w) (winE t w))) → y = Int32.ofNat (pos t p (nwB pi (winA t w) (winE t w))) → ∃ S', some (wr (wr S 78 17 x) 78 18 y) = some S' ∧ frN S S' ∧ spR S' aa t (some (nwA pi (winA t w) (winE t w), nwB pi (winA t w) (winE t w))) l3 := by
    intro x y hx hy
    obtain ⟨d1, d2⟩ := rd_win S x y h78
    refine ⟨_, rfl, frN_wr S x y, p, e, hp9, by rw [(frN_wr S x y).1 aa haa]; exact hc, ?_, (fun q => by cases q), fun _ => ⟨d1.trans hx, d2.trans ?_⟩⟩
    · intro a b q
      cases q
      exact ⟨nwo.1, by omega, hk⟩
    · rw [hy]
      congr 2
      show nwB pi (winA t w) (winE t w) = nwA pi (winA t w) (winE t w) + (nwB pi (winA t w) (winE t w) - nwA pi (winA t w) (winE t w))
      omega
  by_cases h5 : t.1 = 5
  · obtain ⟨bw, bn⟩ := between_val h h5
    have hsz : size t = (toL t.2.2.2).length := by unfold size; rw [if_neg (by omega)]
    have lm1 := bdC_limit (n := winN t w) (d := 0) a2 o1 (by omega) (by omega)
    have lm2 := bdC_limit (n := winN t w) (d := winN t w) b2 o2 (by omega) (Nat.le_refl _)
    have wk1 := walk_val (i := winA t w) (k := lim (byN pi stS) (winN t w) 0) hc h5 (by omega)
    have hc1 : ∀ x, cat ((wr S 78 17 x) aa) p t := fun x => by rw [wr_ne haa]; exact hc
    have wk2 : ∀ x, b_walk (wr S 78 17 x) aa (Int32.ofNat (pos t p (winA t w))) (Int64.ofInt ((max (lim (byN pi stS) (winN t w) 0) (lim (byN pi enS) (winN t w) (winN t w)) : Nat) : Int)) = some (Int32.ofNat (pos t p (nwB pi (winA t w) (winE t w)))) := fun x => by rw [walk_val (hc1 x) h5 (by omega), eB]
    unfold b_narrow
    rw [if_pos h5, if_pos rfl, bw, o_bind, a1, o_bind, l_32 _ (by omega)]
    have lm1 : b_limit S ab y1 0 (Int64.ofInt (winN t w)) = some (Int64.ofInt (lim (byN pi stS) (winN t w) 0)) := lm1
    rw [lm1, o_bind, b1, o_bind, lm2, o_bind, r1, wk1, o_bind, l_max_n _ _ (by omega) (by omega), wk2, o_bind]
    exact fin _ _ (by rw [eA]) rfl
  · have h4 : t.1 = 4 := hk.resolve_right h5
    have cl := cat_str_len hc h4
    have ep : ∀ i, pos t p i = p + 2 + i := fun i => by unfold pos; rw [if_pos h4]
    rw [ep] at r1 r2
    have nb : winN t w ≤ 9000 := by have := hc.1; omega
    have es : rd S 78 18 - rd S 78 17 = Int32.ofNat (winN t w) := by
      rw [r1, r2]
      apply Int32.toInt_inj.mp
      have := hc.1
      have q1 : (Int32.ofNat (p + 2 + winE t w)).toInt = ((p + 2 + winE t w : Nat) : Int) := i_of (by omega)
      have q2 : (Int32.ofNat (p + 2 + winA t w)).toInt = ((p + 2 + winA t w : Nat) : Int) := i_of (by omega)
      rw [i_sub (by rw [q1, q2]; omega) (by rw [q1, q2]; omega), q1, q2, i_of (by omega)]
      omega
    have lm1 := bdC_limit (n := winN t w) (d := 0) a2 o1 nb (by omega)
    have lm1 : b_limit S ab y1 0 (Int64.ofInt (winN t w)) = some (Int64.ofInt (lim (byN pi stS) (winN t w) 0)) := lm1
    have lm2 := bdC_limit (n := winN t w) (d := winN t w) b2 o2 nb (Nat.le_refl _)
    have h9 := hc.1
    have cv : ∀ k : Nat, k ≤ 9000 → ((rd S 78 17).toInt64 + Int64.ofInt k).toInt32 = Int32.ofNat (p + 2 + (winA t w + k)) := by
      intro k hk'
      apply l_to32
      · rw [r1, l_32 _ (by omega), l_add (by rw [l_of (by omega) (by omega)]; omega) (by rw [l_of (by omega) (by omega)]; omega), l_of (by omega) (by omega), l_of (by omega) (by omega)]
        omega
      · omega
    unfold b_narrow
    rw [if_neg h5, if_neg (by decide), a1, o_bind, es, l_32 _ (by omega), lm1, o_bind, b1, o_bind, lm2, o_bind, cv _ (by omega), l_max_n _ _ (by omega) (by omega), cv _ (by omega)]
    exact fin _ _ (by rw [ep, eA]) (by rw [ep, eB])
theorem rplace_val {S : SS} {aa : Nat} {t : Vl} {w : Option (Nat × Nat)} {l3 : Int32} {v : Int} (h : spR S aa t w l3) (h5 : t.1 = 5) (hv : -9007199254740991 ≤ v ∧ v ≤ 9007199254740991) : ∃ y, b_place S aa (Int64.ofInt v) = some y ∧ bdC (S aa) y (byP t w v) := by
  obtain ⟨bw, bn⟩ := between_val h h5
  obtain ⟨p, e, hp9, hc, hw, hn0, hb⟩ := id h
  obtain ⟨r1, r2⟩ := hb (Or.inr h5)
  obtain ⟨w1, w2, w3⟩ := win_le hw
  have hsz : size t = (toL t.2.2.2).length := by unfold size; rw [if_neg (by omega)]
  have z0 : (0 : Int64).toInt = 0 := rfl
  have lv := l_of (z := v) (by omega) (by omega)
  have ln : ((Int32.ofNat (winN t w)).toInt64).toInt = winN t w := by rw [l_32 _ (by omega), l_of (by omega) (by omega)]
  have good_ : ∀ x : Int, (if v < 0 then v + winN t w else v) = x → 0 ≤ x → x < winN t w → ∃ y, ((b_walk S aa (rd S 78 17) (Int64.ofInt x)).bind fun r6 => some r6) = some y ∧ bdC (S aa) y (byP t w v) := by
    intro x hx x0 x1
    obtain ⟨k, rfl⟩ : ∃ k : Nat, x = k := ⟨x.toNat, by omega⟩
    have hj : winA t w + k < (toL t.2.2.2).length := by omega
    have wk := walk_val (i := winA t w) (k := k) hc h5 (by omega)
    have hc' := hc
    rw [vl5 h5] at hc'
    have ch := hc'.elem hj
    have ep : pos t p (winA t w + k) = bp (p + 2) (blks false (toL t.2.2.2)) (winA t w + k) := by unfold pos; rw [if_neg (by omega)]
    rw [r1, wk, o_bind]
    refine ⟨_, rfl, ?_⟩
    unfold byP
    simp only
    rw [hx, if_pos ⟨x0, x1⟩, Int.toNat_natCast, List.getElem?_eq_getElem hj]
    have := ch.next
    have := ch.1
    exact ⟨_, by rw [ep], by omega, ch⟩
  have bad_ : ∀ x : Int, (if v < 0 then v + winN t w else v) = x → ¬ (0 ≤ x ∧ x < winN t w) → bdC (S aa) (-1) (byP t w v) := by
    intro x hx hb'
    unfold byP
    simp only
    rw [hx, if_neg hb']
    rfl
  unfold b_place
  rw [bw, o_bind]
  by_cases hs : v < 0
  · have la : (Int64.ofInt v + (Int32.ofNat (winN t w)).toInt64).toInt = v + winN t w := by rw [l_add (by rw [lv]; omega) (by rw [ln]; omega), lv, ln]
    rw [if_neg (by rw [lg_ge, lv, z0]; omega)]
    by_cases c1 : v + winN t w < 0
    · rw [if_pos ((lg_lt _ _).mpr (by rw [la, z0]; exact c1))]
      exact ⟨-1, rfl, bad_ _ (if_pos hs) (by omega)⟩
    · rw [if_neg (by rw [lg_lt, la, z0]; exact c1), if_pos ((lg_lt _ _).mpr (by rw [la, ln]; omega)), l_inj la]
      exact good_ _ (if_pos hs) (by omega) (by omega)
  · rw [if_pos ((lg_ge _ _).mpr (by rw [lv, z0]; omega)), if_neg (by rw [lg_lt, lv, z0]; exact hs)]
    by_cases c2 : v < winN t w
    · rw [if_pos ((lg_lt _ _).mpr (by rw [lv, ln]; exact c2))]
      exact good_ _ (if_neg hs) (by omega) c2
    · rw [if_neg (by rw [lg_lt, lv, ln]; exact c2)]
      exact ⟨-1, rfl, bad_ _ (if_neg hs) (by omega)⟩
end RNarrow135
end

section
/-! The reference goes along a path. -/
section RFollow136
/-- refused for its type -/
def refd (S S' : SS) : Prop := (∀ a, a ≠ 78 → S' a = S a) ∧ (∀ k, k ≠ 12 → k ≠ 17 → k ≠ 18 → rd S' 78 k = rd S 78 k) ∧ (S' 78).length = (S 78).length ∧ rd S' 78 12 = 1
theorem refuse_val {S : SS} (h78 : (S 78).length = 22) (h0 : rd S 78 12 = 0) : ∃ S', ((b_refuse S 1).bind fun r => some r) = some S' ∧ refd S S' := by
  unfold b_refuse
  rw [if_pos h0, o_bind]
  exact ⟨_, rfl, fun a ha => wr_ne ha, fun k h1 _ _ => rd_wr_j (fun e => h1 e.symm), wr_len, rd_wr (by rw [h78]; decide)⟩
theorem frN.refd {S S1 S2 : SS} (a : frN S S1) (b : refd S1 S2) : refd S S2 := ⟨fun x h => (b.1 x h).trans (a.1 x h), fun k h1 h2 h3 => (b.2.1 k h1 h2 h3).trans (a.2.1 k h2 h3), b.2.2.1.trans a.2.2, b.2.2.2⟩
theorem l173_val {S : SS} {aa ab i j : Nat} {y : Int32} {o : Option Vl} {k19 : SS → Int32 → Int32 → Option SS} (h78 : (S 78).length = 22) (haa : aa ≠ 78) (hab : ab ≠ 78) (hb : bdC (S aa) y o) (hn : r_next (S ab) (Int32.ofNat i) = some (Int32.ofNat j)) : ∃ S', b_getv_l173 aa ab k19 S y (Int32.ofNat i) = k19 S' y (Int32.ofNat j) ∧ frN S S' ∧ spRU S' aa (o.map fun v => (v, none)) y := by
  unfold b_getv_l173
  cases o with
  | none =>
    have hb : y = -1 := hb
    rw [if_pos hb, hn, o_bind]
    exact ⟨S, rfl, frN.refl S, hb⟩
  | some v =>
    obtain ⟨b, e, hb9, hc⟩ := hb
    have nx1 := hc.next
    rw [if_neg (by rw [e]; exact i_ne1 (by omega)), wr_ne haa, e, nx1.1, o_bind, wr_ne hab, wr_ne hab, hn, o_bind]
    obtain ⟨d1, d2⟩ := rd_win S (Int32.ofNat b + 2) (Int32.ofNat (b + (cV v).length)) h78
    have eb : Int32.ofNat b + 2 = Int32.ofNat (b + 2) := (Int32.ofNat_add b 2).symm
    refine ⟨_, rfl, frN_wr S _ _, b, rfl, hb9, by rw [(frN_wr S _ _).1 aa haa]; exact hc, (fun _ _ q => by cases q), fun _ => ⟨d1.trans eb, d2⟩, fun hk => ⟨(d1.trans eb).trans ?_, d2.trans ?_⟩⟩
    · congr 1
      show b + 2 = pos v b 0
      unfold pos
      split
      · rfl
      · rw [bp_0]
    · congr 1
      show b + (cV v).length = pos v b (0 + size v)
      unfold pos
      by_cases h4 : v.1 = 4
      · rw [if_pos h4, cat_str_len hc h4]; omega
      · rw [if_neg h4]
        have h5 := hk.resolve_left h4
        have hc' := hc
        rw [vl5 h5] at hc'
        obtain ⟨-, -, r, hd⟩ := hc'
        obtain ⟨c1, c2⟩ := cbox_in (Or.inl rfl) hd
        rw [show (5 == 6) = false from rfl] at c2
        have ev : (cV v).length = (cV (5, v.2.1, v.2.2.1, ofL (toL v.2.2.2))).length := by conv => lhs; rw [vl5 h5]
        have bl := blks_len false (toL v.2.2.2)
        simp only [Bool.false_eq_true, if_false] at bl
        unfold bp size
        rw [if_neg h4, Nat.zero_add, List.take_of_length_le (by omega), ev, c2]
        omega
theorem rfoll_l {aa ab N : Nat} {r : List Int32} (haa : aa ≠ 78) (hab : ab ≠ 78) (hN : N ≤ 9000) : ∀ (l : List Mb) (n i : Nat) (S : SS) (c : Cu) (l3 : Int32), okL l → (S 78).length = 22 → rd S 78 12 = 0 → S 39 = mp_aS → S 40 = mp_aE → (S ab).length ≤ 9000 → iget (S ab) 1 = some (Int32.ofNat N) → (S ab).drop i = (blks false l).flatten ++ r → i + (blks false l).flatten.length = N → l.length < n → spRU S aa c l3 → (∀ c', foll c (l.map fun m => m.2) = some c' → ∃ S' l3' c'', (∃ k, b_getv_l19 aa ab n S l3 (Int32.ofNat i) = b_getv_l208 aa ab k S' l3') ∧ frN S S' ∧ spRU S' aa c'' l3' ∧ cV (outV c'') = cV (outV c')) ∧ (foll c (l.map fun m => m.2) = none → ∃ S', b_getv_l19 aa ab n S l3 (Int32.ofNat i) = some S' ∧ refd S S') := by
  intro l
  induction l with
  | nil =>
    intro n i S c l3 _ h78 h12 h39 h40 h9 h1 hd hi hn hs
    have : (blks false []).flatten.length = 0 := rfl
    cases n with
    | zero => omega
    | succ n =>
      refine ⟨fun c' hc' => ?_, fun hc' => ?_⟩
      · cases c <;> cases hc'
        all_goals
          refine ⟨S, l3, _, ⟨b_getv_l19 aa ab n, ?_⟩, frN.refl S, hs, rfl⟩
          show (iget (S ab) 1).bind _ = _
          rw [h1, o_bind, if_pos ((i_le' (by omega) (by omega)).mpr (by omega))]
      · cases c <;> cases hc'
  | cons m l ih =>
    intro n i S c l3 hw h78 h12 h39 h40 h9 h1 hd hi hn hs
    have eb : blks false (m :: l) = cV m.2 :: blks false l := rfl
    rw [eb] at hd hi
    obtain ⟨s1, s2, s3, s4⟩ := blk_step h9 (by rw [← eb]; exact blks_h hw) hd
    have hp : cat (S ab) i m.2 := ⟨h9, (hw m List.mem_cons_self).2, _, by rw [List.flatten_cons, List.append_assoc] at hd; exact hd⟩
    rw [List.flatten_cons, List.length_append] at hi
    have pk6 := hp.2.1.1
    cases n with
    | zero => omega
    | succ n =>
      have un : ∀ X : Int32 → Option SS, (iget (S ab) 1).bind X = X (Int32.ofNat N) := fun X => by rw [h1, o_bind]
      have c0 : ¬ Int32.ofNat N ≤ Int32.ofNat i := by rw [i_le' (by omega) (by omega)]; omega
      -- go on with the rest of the path
      have go : ∀ (S1 : SS) (c1 : Cu) (y : Int32), frN S S1 → spRU S1 aa c1 y → _ := fun S1 c1 y f1 hs1 => ih n (i + (cV m.2).length) S1 c1 y hw.tail (f1.2.2.trans h78) (by rw [f1.2.1 12 (by decide) (by decide)]; exact h12) (by rw [f1.1 39 (by decide)]; exact h39) (by rw [f1.1 40 (by decide)]; exact h40) (by rw [f1.1 ab hab]; exact h9) (by rw [f1.1 ab hab]; exact h1) (by rw [f1.1 ab hab]; exact s2) (by omega) (by simp only [List.length_cons] at hn; omega) hs1
      cases c with
      | none =>
        have hs : l3 = -1 := hs
        refine ⟨fun c' hc' => ?_, fun hc' => by cases hc'⟩
        cases hc'
        refine ⟨S, l3, none, ⟨b_getv_l19 aa ab n, ?_⟩, frN.refl S, hs, rfl⟩
        show (iget (S ab) 1).bind _ = _
        rw [un, if_neg c0, if_pos hs]
      | some tw =>
        obtain ⟨t, w⟩ := tw
        have hs : spR S aa t w l3 := hs
        obtain ⟨p, e, hp9, hc, hwo, hw0, hwb⟩ := id hs
        have tk6 := hc.2.1.1
        have ik : iget (S aa) l3 = some (Int32.ofNat t.1) := by rw [e]; exact hc.kind
        have n1 : ¬ l3 = -1 := by rw [e]; exact i_ne1 (by omega)
        have ef : foll (some (t, w)) ((m :: l).map fun m => m.2) = if t.1 = 0 then some none else (match stepV t w m.2 with
          | none => none
          | some c => foll c (l.map fun m => m.2)) := rfl
        rw [ef]
        by_cases e0 : t.1 = 0
        · rw [if_pos e0]
          refine ⟨fun c' hc' => ?_, fun hc' => by cases hc'⟩
          cases hc'
          have wn : w = none := by
            cases w with
            | none => rfl
            | some ab => obtain ⟨a, b⟩ := ab; have := (hwo a b rfl).2.2; omega
          refine ⟨S, l3, some (t, w), ⟨b_getv_l19 aa ab n, ?_⟩, frN.refl S, hs, ?_⟩
          · show (iget (S ab) 1).bind _ = _
            rw [un, if_neg c0, if_neg n1, ik, o_bind, if_pos (by rw [e0]; rfl)]
          · rw [wn]
            show cV t = cV vNull
            unfold cV cval
            rw [e0]
            rfl
        rw [if_neg e0]
        have z0 : ¬ Int32.ofNat t.1 = 0 := by rw [show (0 : Int32) = Int32.ofNat 0 from rfl, i_inj (by omega) (by omega)]; exact e0
        have head : b_getv_l19 aa ab (n + 1) S l3 (Int32.ofNat i) = (if Int32.ofNat t.1 = (5 : Int32) then ((iget (S ab) (Int32.ofNat i)).bind fun b21 => (if b21 = (6 : Int32) then ((b_part S ab (Int32.ofNat i)).bind fun r23 => (if r23 = 0 then b_getv_l112 aa ab (b_getv_l19 aa ab n) S l3 (Int32.ofNat i) (Int32.ofNat t.1) 1 else ((b_narrow S aa ab 0 (Int32.ofNat i)).bind fun r60 => ((r_next (r60 ab) (Int32.ofNat i)).bind fun r62 => b_getv_l19 aa ab n r60 l3 r62)))) else b_getv_l112 aa ab (b_getv_l19 aa ab n) S l3 (Int32.ofNat i) (Int32.ofNat t.1) 1)) else ((iget (S ab) (Int32.ofNat i)).bind fun b64 => (if b64 = (6 : Int32) then ((b_part S ab (Int32.ofNat i)).bind fun r66 => (if r66 = 0 then b_getv_l112 aa ab (b_getv_l19 aa ab n) S l3 (Int32.ofNat i) (Int32.ofNat t.1) 0 else (if Int32.ofNat t.1 = (4 : Int32) then ((b_narrow S aa ab 1 (Int32.ofNat i)).bind fun r70 => ((r_next (r70 ab) (Int32.ofNat i)).bind fun r72 => b_getv_l19 aa ab n r70 l3 r72)) else b_getv_l112 aa ab (b_getv_l19 aa ab n) S l3 (Int32.ofNat i) (Int32.ofNat t.1) 0))) else b_getv_l112 aa ab (b_getv_l19 aa ab n) S l3 (Int32.ofNat i) (Int32.ofNat t.1) 0))) := by
          show (iget (S ab) 1).bind _ = _
          rw [un, if_neg c0, if_neg n1, ik, o_bind, if_neg z0]
        have pki := hp.kind
        -- the last choice
        have l112 : ∀ row : Int32, (row = 0 ↔ t.1 ≠ 5) → b_getv_l112 aa ab (b_getv_l19 aa ab n) S l3 (Int32.ofNat i) (Int32.ofNat t.1) row = if m.2.1 = 4 ∧ t.1 = 6 then ((r_named (S aa) (S ab) l3 (Int32.ofNat i)).bind fun r29 => b_getv_l173 aa ab (b_getv_l19 aa ab n) S r29 (Int32.ofNat i)) else if m.2.1 = 3 ∧ t.1 = 5 then ((r_number (S ab) (Int32.ofNat i)).bind fun r54 => ((b_place S aa r54).bind fun r56 => b_getv_l173 aa ab (b_getv_l19 aa ab n) S r56 (Int32.ofNat i))) else ((b_refuse S 1).bind fun r58 => some r58) := by
          intro row hrow
          unfold b_getv_l112
          rw [pki, o_bind]
          have j4 : Int32.ofNat m.2.1 = 4 ↔ m.2.1 = 4 := by rw [show (4 : Int32) = Int32.ofNat 4 from rfl, i_inj (by omega) (by omega)]
          have j3 : Int32.ofNat m.2.1 = 3 ↔ m.2.1 = 3 := by rw [show (3 : Int32) = Int32.ofNat 3 from rfl, i_inj (by omega) (by omega)]
          have j6 : Int32.ofNat t.1 = 6 ↔ t.1 = 6 := by rw [show (6 : Int32) = Int32.ofNat 6 from rfl, i_inj (by omega) (by omega)]
          by_cases m4 : m.2.1 = 4
          · rw [if_pos (j4.mpr m4)]
            by_cases t6 : t.1 = 6
            · rw [if_pos (j6.mpr t6), if_pos ⟨m4, t6⟩]
            · rw [if_neg (fun q => t6 (j6.mp q)), if_neg (show ¬ Int32.ofNat m.2.1 = 3 from fun q => by have := j3.mp q; omega), if_neg (show ¬ (m.2.1 = 4 ∧ t.1 = 6) from fun q => t6 q.2), if_neg (show ¬ (m.2.1 = 3 ∧ t.1 = 5) from fun q => by omega)]
          · rw [if_neg (show ¬ Int32.ofNat m.2.1 = 4 from fun q => m4 (j4.mp q)), if_neg (show ¬ (m.2.1 = 4 ∧ t.1 = 6) from fun q => m4 q.1)]
            by_cases m3 : m.2.1 = 3
            · rw [if_pos (j3.mpr m3)]
              by_cases t5 : t.1 = 5
              · rw [if_neg (show ¬ row = 0 from fun q => (hrow.mp q) t5), if_pos ⟨m3, t5⟩]
              · rw [if_pos (hrow.mpr t5), if_neg (show ¬ (m.2.1 = 3 ∧ t.1 = 5) from fun q => t5 q.2)]
            · rw [if_neg (show ¬ Int32.ofNat m.2.1 = 3 from fun q => m3 (j3.mp q)), if_neg (show ¬ (m.2.1 = 3 ∧ t.1 = 5) from fun q => m3 q.1)]
        -- behind a step to a value
        have done : ∀ (y : Int32) (o : Option Vl), bdC (S aa) y o → b_getv_l19 aa ab (n + 1) S l3 (Int32.ofNat i) = b_getv_l173 aa ab (b_getv_l19 aa ab n) S y (Int32.ofNat i) → (∀ c', foll (o.map fun v => (v, none)) (l.map fun m => m.2) = some c' → ∃ S' l3' c'', (∃ k, b_getv_l19 aa ab (n + 1) S l3 (Int32.ofNat i) = b_getv_l208 aa ab k S' l3') ∧ frN S S' ∧ spRU S' aa c'' l3' ∧ cV (outV c'') = cV (outV c')) ∧ (foll (o.map fun v => (v, none)) (l.map fun m => m.2) = none → ∃ S', b_getv_l19 aa ab (n + 1) S l3 (Int32.ofNat i) = some S' ∧ refd S S') := by
          intro y o hb he
          obtain ⟨S1, v1, v2, v3⟩ := l173_val (k19 := b_getv_l19 aa ab n) h78 haa hab hb s1
          obtain ⟨g1, g2⟩ := go S1 _ y v2 v3
          rw [he, v1]
          refine ⟨fun c' hc' => ?_, fun hc' => ?_⟩
          · obtain ⟨S', l3', c'', q1, q2, q3, q4⟩ := g1 c' hc'
            exact ⟨S', l3', c'', q1, v2.trans q2, q3, q4⟩
          · obtain ⟨S', q1, q2⟩ := g2 hc'
            exact ⟨S', q1, v2.refd q2⟩
        have refu : b_getv_l19 aa ab (n + 1) S l3 (Int32.ofNat i) = ((b_refuse S 1).bind fun r58 => some r58) → ∃ S', b_getv_l19 aa ab (n + 1) S l3 (Int32.ofNat i) = some S' ∧ refd S S' := fun he => by
          rw [he]; exact refuse_val h78 h12
        have t5i : Int32.ofNat t.1 = 5 ↔ t.1 = 5 := by rw [show (5 : Int32) = Int32.ofNat 5 from rfl, i_inj (by omega) (by omega)]
        have t4i : Int32.ofNat t.1 = 4 ↔ t.1 = 4 := by rw [show (4 : Int32) = Int32.ofNat 4 from rfl, i_inj (by omega) (by omega)]
        have m6i : Int32.ofNat m.2.1 = 6 ↔ m.2.1 = 6 := by rw [show (6 : Int32) = Int32.ofNat 6 from rfl, i_inj (by omega) (by omega)]
        by_cases m6 : m.2.1 = 6
        · -- a part
          obtain ⟨pt1, pt2⟩ := part_val hp m6 h39 h40
          have esv : stepV t w m.2 = if @decide (okW t m.2) (Classical.propDecidable _) = true then some (some (t, some (nwA m.2 (winA t w) (winE t w), nwB m.2 (winA t w) (winE t w)))) else none := by
            unfold stepV
            rw [if_neg (by omega), if_neg (by omega), if_pos m6]
          rw [esv]
          have rl : ∀ row : Int32, (row = 0 ↔ t.1 ≠ 5) → b_getv_l112 aa ab (b_getv_l19 aa ab n) S l3 (Int32.ofNat i) (Int32.ofNat t.1) row = ((b_refuse S 1).bind fun r58 => some r58) := fun row hr => by
            rw [l112 row hr, if_neg (by omega), if_neg (by omega)]
          by_cases ok : okW t m.2
          · rw [if_pos (@decide_eq_true _ (Classical.propDecidable _) ok)]
            obtain ⟨S1, v1, v2, v3⟩ := rnarrow_val h78 haa h39 h40 hs hp m6 ok
            have he : b_getv_l19 aa ab (n + 1) S l3 (Int32.ofNat i) = b_getv_l19 aa ab n S1 l3 (Int32.ofNat (i + (cV m.2).length)) := by
              rw [head]
              by_cases t5 : t.1 = 5
              · rw [if_pos t5] at v1
                rw [if_pos (t5i.mpr t5), pki, o_bind, if_pos (m6i.mpr m6), pt1 ok.2, o_bind, if_neg (by decide), v1, o_bind, v2.1 ab hab, s1, o_bind]
              · have t4 := ok.1.resolve_right t5
                rw [if_neg t5] at v1
                rw [if_neg (fun q => t5 (t5i.mp q)), pki, o_bind, if_pos (m6i.mpr m6), pt1 ok.2, o_bind, if_neg (by decide), if_pos (t4i.mpr t4), v1, o_bind, v2.1 ab hab, s1, o_bind]
            obtain ⟨g1, g2⟩ := go S1 (some (t, some (nwA m.2 (winA t w) (winE t w), nwB m.2 (winA t w) (winE t w)))) l3 v2 v3
            rw [he]
            refine ⟨fun c' hc' => ?_, fun hc' => ?_⟩
            · obtain ⟨S', l3', c'', q1, q2, q3, q4⟩ := g1 c' hc'
              exact ⟨S', l3', c'', q1, v2.trans q2, q3, q4⟩
            · obtain ⟨S', q1, q2⟩ := g2 hc'
              exact ⟨S', q1, v2.refd q2⟩
          · rw [if_neg (fun q => ok (@of_decide_eq_true _ (Classical.propDecidable _) q))]
            refine ⟨fun c' hc' => (by cases hc'), fun _ => refu ?_⟩
            rw [head]
            by_cases t5 : t.1 = 5
            · have nb : ¬ (okD (byN m.2 stS) ∧ okD (byN m.2 enS)) := fun q => ok ⟨Or.inr t5, q⟩
              rw [if_pos (t5i.mpr t5), pki, o_bind, if_pos (m6i.mpr m6), pt2 nb, o_bind, if_pos rfl, rl 1 ⟨fun q => absurd q (by decide), fun q => absurd t5 q⟩]
            · rw [if_neg (fun q => t5 (t5i.mp q)), pki, o_bind, if_pos (m6i.mpr m6)]
              by_cases nb : okD (byN m.2 stS) ∧ okD (byN m.2 enS)
              · have t4 : ¬ t.1 = 4 := fun q => ok ⟨Or.inl q, nb⟩
                rw [pt1 nb, o_bind, if_neg (by decide), if_neg (fun q => t4 (t4i.mp q)), rl 0 ⟨fun _ => t5, fun _ => rfl⟩]
              · rw [pt2 nb, o_bind, if_pos rfl, rl 0 ⟨fun _ => t5, fun _ => rfl⟩]
        · have hd2 : ∃ row : Int32, (row = 0 ↔ t.1 ≠ 5) ∧ b_getv_l19 aa ab (n + 1) S l3 (Int32.ofNat i) = b_getv_l112 aa ab (b_getv_l19 aa ab n) S l3 (Int32.ofNat i) (Int32.ofNat t.1) row := by
            by_cases t5 : t.1 = 5
            · refine ⟨1, ⟨fun q => absurd q (by decide), fun q => absurd t5 q⟩, ?_⟩
              rw [head, if_pos (t5i.mpr t5), pki, o_bind, if_neg (fun q => m6 (m6i.mp q))]
            · refine ⟨0, ⟨fun _ => t5, fun _ => rfl⟩, ?_⟩
              rw [head, if_neg (fun q => t5 (t5i.mp q)), pki, o_bind, if_neg (fun q => m6 (m6i.mp q))]
          obtain ⟨row, hr, he⟩ := hd2
          rw [l112 row hr] at he
          by_cases m3 : m.2.1 = 3
          · have esv : stepV t w m.2 = if t.1 = 5 then some ((byP t w m.2.2.1).map fun v => (v, none)) else none := by unfold stepV; rw [if_pos m3]
            rw [esv]
            rw [if_neg (by omega)] at he
            by_cases t5 : t.1 = 5
            · rw [if_pos ⟨m3, t5⟩] at he
              rw [if_pos t5]
              have hp' := hp
              rw [vl3 m3] at hp'
              obtain ⟨y, y1, y2⟩ := rplace_val hs t5 (hp.2.1.2.1 m3)
              rw [hp'.number, o_bind, y1, o_bind] at he
              exact done y _ y2 he
            · rw [if_neg (fun q => t5 q.2)] at he
              rw [if_neg t5]
              exact ⟨fun c' hc' => (by cases hc'), fun _ => refu he⟩
          · rw [show (if m.2.1 = 3 ∧ t.1 = 5 then ((r_number (S ab) (Int32.ofNat i)).bind fun r54 => ((b_place S aa r54).bind fun r56 => b_getv_l173 aa ab (b_getv_l19 aa ab n) S r56 (Int32.ofNat i))) else ((b_refuse S 1).bind fun r58 => some r58)) = ((b_refuse S 1).bind fun r58 => some r58) from if_neg (fun q => m3 q.1)] at he
            by_cases m4 : m.2.1 = 4
            · have esv : stepV t w m.2 = if t.1 = 6 then some ((byN t m.2.2.2.1).map fun v => (v, none)) else none := by unfold stepV; rw [if_neg m3, if_pos m4]
              rw [esv]
              by_cases t6 : t.1 = 6
              · rw [if_pos ⟨m4, t6⟩] at he
                rw [if_pos t6]
                obtain ⟨-, pw, pr, pd⟩ := id hp
                have pd' : (S ab).drop i = cstr m.2.2.2.1 ++ pr := by
                  rw [pd]
                  congr 1
                  conv => lhs; rw [vl4 m4]
                  rfl
                have hc' := hc
                rw [vl6 t6] at hc'
                obtain ⟨b1, b2⟩ := hc'.by h9 pd'
                by_cases hj : (toL t.2.2.2).findIdx (fun m' => m'.1 == m.2.2.2.1) < (toL t.2.2.2).length
                · obtain ⟨b, n1', n2'⟩ := b1 hj
                  rw [e, n1', o_bind] at he
                  have hbd : bdC (S aa) (Int32.ofNat b) (byN t m.2.2.2.1) := by
                    unfold byN
                    rw [dif_pos hj]
                    have := n2'.next
                    have := n2'.1
                    exact ⟨b, rfl, by omega, n2'⟩
                  rw [← e] at he
                  exact done _ _ hbd he
                · rw [e, b2 hj, o_bind] at he
                  have hbd : bdC (S aa) (-1) (byN t m.2.2.2.1) := by
                    unfold byN
                    rw [dif_neg hj]
                    rfl
                  rw [← e] at he
                  exact done _ _ hbd he
              · rw [if_neg (fun q => t6 q.2)] at he
                rw [if_neg t6]
                exact ⟨fun c' hc' => (by cases hc'), fun _ => refu he⟩
            · rw [if_neg (fun q => m4 q.1)] at he
              have esv : stepV t w m.2 = none := by unfold stepV; rw [if_neg m3, if_neg m4, if_neg m6]
              rw [esv]
              exact ⟨fun c' hc' => (by cases hc'), fun _ => refu he⟩
end RFollow136
end
