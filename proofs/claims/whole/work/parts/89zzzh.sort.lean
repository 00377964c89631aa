/-! The class gathers an object's members in the order of their names. -/
section Sort149
def leM (a b : Mb) : Bool := decide (cmpS a.1 b.1 ≤ 0)
theorem leM_iff (a b : Mb) : leM a b = true ↔ ¬ ltS b.1 a.1 := by
  unfold leM
  rw [decide_eq_true_eq]
  exact cmpS_le _ _
/-- members in the order of their names -/
def srt (l : List Mb) : List Mb := l.mergeSort leM
theorem srt_perm (l : List Mb) : (srt l).Perm l := List.mergeSort_perm l leM
theorem srt_len (l : List Mb) : (srt l).length = l.length := (srt_perm l).length_eq
theorem srt_le (l : List Mb) : (srt l).Pairwise fun a b => leM a b = true := by
  apply List.pairwise_mergeSort
  · intro a b c h1 h2
    rw [leM_iff] at h1 h2 ⊢
    exact not_lt_trans h1 h2
  · intro a b
    rw [Bool.or_eq_true, leM_iff, leM_iff]
    rcases ltS_tri a.1 b.1 with e | e | e
    · exact Or.inl fun h => ltS_irr _ (ltS_trans e h)
    · rw [e]; exact Or.inl (ltS_irr _)
    · exact Or.inr fun h => ltS_irr _ (ltS_trans e h)
/-- the names differ -/
def nod (l : List Mb) : Prop := (l.map fun m => m.1).Nodup
theorem nod.eq {l : List Mb} (h : nod l) {a b : Mb} (ha : a ∈ l) (hb : b ∈ l) (e : a.1 = b.1) : a = b := by
  unfold nod List.Nodup at h
  rw [List.pairwise_map, List.pairwise_iff_getElem] at h
  obtain ⟨i, hi, rfl⟩ := List.getElem_of_mem ha
  obtain ⟨j, hj, rfl⟩ := List.getElem_of_mem hb
  rcases Nat.lt_trichotomy i j with c | c | c
  · exact absurd e (h i j hi hj c)
  · subst c; rfl
  · exact absurd e.symm (h j i hj hi c)
theorem nod.srt {l : List Mb} (h : nod l) : nod (srt l) := by
  unfold nod at h ⊢
  exact ((srt_perm l).map fun m => m.1).nodup_iff.mpr h
theorem srt_uni {l L : List Mb} (h : nod l) (hp : L.Perm l) (hs : L.Pairwise fun a b => leM a b = true) : L = srt l := by
  refine List.Perm.eq_of_pairwise (fun a b ha hb h1 h2 => ?_) hs (srt_le l) (hp.trans (srt_perm l).symm)
  rw [leM_iff] at h1 h2
  refine h.eq (hp.mem_iff.mp ha) ((srt_perm l).mem_iff.mp hb) ?_
  rcases ltS_tri a.1 b.1 with e | e | e
  · exact absurd e h2
  · exact e
  · exact absurd e h1
theorem srt_lt {l : List Mb} (h : nod l) : (srt l).Pairwise fun a b => ltS a.1 b.1 := by
  have hn := h.srt
  unfold nod List.Nodup at hn
  rw [List.pairwise_map, List.pairwise_iff_getElem] at hn
  have hs := srt_le l
  rw [List.pairwise_iff_getElem] at hs ⊢
  intro i j hi hj hij
  have h1 := hs i j hi hj hij
  rw [leM_iff] at h1
  rcases ltS_tri (srt l)[i].1 (srt l)[j].1 with e | e | e
  · exact e
  · exact absurd e (hn i j hi hj hij)
  · exact absurd e h1
theorem ip_1 (b : Bool) (q : Nat) : ∀ (l : List Mb) (j : Nat) (hj : j < l.length), ip b q l (j + 1) = ip b q l j + (bM b l[j]).length + 1 := by
  intro l j hj
  unfold ip
  rw [List.take_succ_eq_append_getElem hj]
  simp only [List.map_append, List.map_cons, List.map_nil, List.sum_append, List.sum_cons, List.sum_nil]
  omega
def nmL (l : List Mb) (j : Nat) : List Int32 := (l.getD j ([], 0, 0, [], ofL [])).1
theorem nmL_in {l : List Mb} {j : Nat} (hj : j < l.length) : nmL l j = l[j].1 := by
  unfold nmL
  rw [List.getD_eq_getElem?_getD, List.getElem?_eq_getElem hj]
  rfl
theorem nmAt_of {us : List Int32} {q : Nat} {v : Int} {s : List Int32} {l : List Mb} (h : vat us q (6, v, s, ofL l)) : nmAt us l.length (ip true (q + 1) l) (nmL l) := by
  intro j hj
  obtain ⟨i1, ⟨z, r, hz, i2⟩, i3⟩ := h.item (Or.inr rfl) hj
  have e : (6 == 6) = true := rfl
  rw [e] at i2 i3
  have hl := h.1
  refine ⟨by omega, ?_, ?_⟩
  · rw [nmL_in hj]; exact (h.2.2.1.kids _ (List.getElem_mem hj)).1
  · rw [nmL_in hj, i2, List.drop_eq_getElem_cons hj, jn_tl]
    unfold bM
    simp only [if_true, List.append_assoc]
    exact ⟨_, rfl⟩
theorem l12_val {t0 : Nat} {us pre : List Int32} {q : Nat} {v : Int} {s : List Int32} {l : List Mb} (ht0 : t0 ≠ 48 ∧ t0 ≠ 47) (h : vat us q (6, v, s, ofL l)) (hpl : pre.length + l.length ≤ 2048) : ∀ (m j n : Nat) (S : SS) (post : List Int32), j + m = l.length → m < n → tT S t0 = us → S 48 = pre ++ (List.range j).map (fun j => Int32.ofNat (ip true (q + 1) l j)) ++ post → (S 48).length = 2048 → (S 47).length = 2 → rd S 47 1 = Int32.ofNat (pre.length + j) → ∃ (S' : SS) (Q : List Nat) (post' : List Int32), o_gather_l12 t0 n S (Int32.ofNat pre.length) (if m = 0 then -1 else Int32.ofNat (ip true (q + 1) l j)) = some S' ∧ (∀ a, a ≠ 47 → a ≠ 48 → S' a = S a) ∧ (S' 47).length = 2 ∧ rd S' 47 1 = Int32.ofNat (pre.length + l.length) ∧ S' 48 = pre ++ Q.map (fun j => Int32.ofNat (ip true (q + 1) l j)) ++ post' ∧ (S' 48).length = 2048 ∧ Q.Perm (List.range l.length) ∧ srtN (nmL l) Q l.length := by
  have hus := h.1
  intro m
  induction m with
  | zero =>
    intro j n S post hj hn ht h48 hl h47l h47
    obtain ⟨n, rfl⟩ : ∃ j, n = j + 1 := ⟨n - 1, by omega⟩
    have ej : j = l.length := by omega
    subst ej
    obtain ⟨Q', e1, e2, e3⟩ := l72_val (k12 := o_gather_l12 t0 n) ht0 hus (nmAt_of h) (l.length / 2) 10000 S (List.range l.length) (by omega) (by omega) ht (fun j hj => List.mem_range.mp hj) (by rw [List.length_range]; exact h47) h48 hl (fun e a b ha hb hab hbm => by rw [List.length_range] at hb; omega)
    refine ⟨_, Q', post, ?_, fun a n1 n2 => up_ne n2, by rw [up_ne (by decide)]; exact h47l, by rw [rd_up (by decide)]; exact h47, up_same, ?_, e2, by rw [List.length_range] at e3; exact e3⟩
    · show (if (if 0 = 0 then (-1 : Int32) else Int32.ofNat (ip true (q + 1) l l.length)) = (-1 : Int32) then o_gather_l72 t0 (o_gather_l12 t0 n) 10000 S (Int32.ofNat pre.length) (((rd S 47 1) - Int32.ofNat pre.length) / 2) else _) = _
      rw [if_pos rfl, if_pos rfl, h47, i_subN (by omega) (by omega), Nat.add_sub_cancel_left, show (2 : Int32) = Int32.ofNat 2 from rfl, i_div (by omega) (by omega)]
      exact e1
    · rw [up_same]
      rw [h48] at hl
      simp only [List.length_append, List.length_map, e2.length_eq] at hl ⊢
      exact hl
  | succ m ih =>
    intro j n S post hj hn ht h48 hl h47l h47
    obtain ⟨n, rfl⟩ : ∃ j, n = j + 1 := ⟨n - 1, by omega⟩
    have hjl : j < l.length := by omega
    obtain ⟨i1, ⟨z, r, hz, i2⟩, i3⟩ := h.item (Or.inr rfl) hjl
    have e : (6 == 6) = true := rfl
    rw [e] at i2 i3
    rw [List.drop_eq_getElem_cons hjl] at i2
    obtain ⟨n1, n2, n3, n4⟩ := nx hus h.2.1 (h.2.2.1.kids _ (List.getElem_mem hjl)) hz i2
    have hl2 := hl
    rw [h48] at hl2
    simp only [List.length_append, List.length_map, List.length_range] at hl2
    obtain ⟨x, post, rfl⟩ : ∃ x p, post = x :: p := by
      cases post with
      | nil => simp only [List.length_nil] at hl2; omega
      | cons x p => exact ⟨x, p, rfl⟩
    have es : (S 48).set (pre.length + j) (Int32.ofNat (ip true (q + 1) l j)) = pre ++ (List.range (j + 1)).map (fun j => Int32.ofNat (ip true (q + 1) l j)) ++ post := by
      rw [h48, List.append_assoc, List.set_append_right _ _ (by omega), Nat.add_sub_cancel_left, List.set_append_right _ _ (by simp), List.range_succ, List.map_append]
      simp
    have hs2 : ∀ k v z, (wr (up S 48 z) 47 k v) 48 = z := fun k v z => by rw [wr_ne (by decide), up_same]
    have et : ∀ k v z, tT (wr (up S 48 z) 47 k v) t0 = us := fun k v z => by
      unfold tT at *
      rw [wr_ne ht0.2, up_ne ht0.1]
      exact ht
    have eif : (if m + 1 = 0 then (-1 : Int32) else Int32.ofNat (ip true (q + 1) l j)) = Int32.ofNat (ip true (q + 1) l j) := if_neg (by omega)
    obtain ⟨S', Q, post', j1, j2, j3, j4, j5, j6, j7, j8⟩ := ih (j + 1) n (wr (up S 48 ((S 48).set (pre.length + j) (Int32.ofNat (ip true (q + 1) l j)))) 47 1 (Int32.ofNat (pre.length + j) + 1)) post (by omega) (by omega) (et _ _ _) (by rw [hs2, es]) (by rw [hs2, List.length_set]; exact hl) (by rw [wr_len, up_ne (by decide)]; exact h47l) (by rw [rd_wr (by rw [up_ne (by decide), h47l]; decide), i_a1]; rfl)
    refine ⟨S', Q, post', ?_, fun a na nb => by rw [j2 a na nb, wr_ne na, up_ne nb], j3, j4, j5, j6, j7, j8⟩
    rw [eif]
    show (if Int32.ofNat (ip true (q + 1) l j) = (-1 : Int32) then _ else (if (Int32.ofNat (S 48).length) ≤ (rd S 47 1) then _ else _)) = _
    rw [if_neg (i_ne1 (by omega)), hl, h47, if_neg (by rw [i_le' (by omega) (by omega)]; omega), i_set (by rw [hl]; omega) (by omega), o_bind, rd_up (by decide), h47, et, n3, o_bind, ← j1]
    congr 1
    by_cases hm : m = 0
    · rw [if_pos hm, if_pos (by apply List.drop_eq_nil_of_le; omega)]
    · rw [if_neg hm, if_neg (by rw [List.drop_eq_nil_iff]; omega), ip_1 true (q + 1) l j hjl]
/-- what the class has gathered -/
theorem gather_val {S : SS} {t0 : Nat} {us : List Int32} {q top : Nat} {v : Int} {s : List Int32} {l : List Mb} (ht0 : t0 ≠ 48 ∧ t0 ≠ 47) (h : vat us q (6, v, s, ofL l)) (hpl : top + l.length ≤ 2048) (ht : tT S t0 = us) (hl : (S 48).length = 2048) (h47l : (S 47).length = 2) (h47 : rd S 47 1 = Int32.ofNat top) : ∃ (S' : SS) (Q : List Nat), o_gather S t0 (Int32.ofNat q) = some S' ∧ (∀ a, a ≠ 47 → a ≠ 48 → S' a = S a) ∧ (S' 47).length = 2 ∧ rd S' 47 1 = Int32.ofNat (top + l.length) ∧ (S' 48).length = 2048 ∧ (S' 48).take top = (S 48).take top ∧ Q.length = l.length ∧ (∀ k (hk : k < Q.length), Q[k] < l.length ∧ l[Q[k]]? = (srt l)[k]? ∧ (S' 48)[top + k]? = some (Int32.ofNat (ip true (q + 1) l Q[k]))) := by
  have hnod : nod l := by
    have := h.2.2.1.2.2.2.2.1 rfl
    rw [toL_ofL] at this
    exact this
  have hpre : ((S 48).take top).length = top := by rw [List.length_take, hl]; omega
  obtain ⟨S', Q, post, e1, e2, e3, e4, e5, e6, e7, e8⟩ := l12_val (pre := (S 48).take top) ht0 h (by rw [hpre]; exact hpl) l.length 0 10000 S ((S 48).drop top) (by omega) (by have := (h.items (Or.inr rfl)).2; omega) ht (by simp) hl h47l (by rw [hpre]; exact h47)
  rw [hpre] at e1 e4
  have hQ : ∀ k (hk : k < Q.length), Q[k] < l.length := fun k hk => List.mem_range.mp (e7.mem_iff.mp (List.getElem_mem hk))
  have hQl : Q.length = l.length := by rw [e7.length_eq, List.length_range]
  have hL : Q.map (fun j => l.getD j ([], 0, 0, [], ofL [])) = srt l := by
    apply srt_uni hnod
    · have := e7.map (fun j => l.getD j ([], 0, 0, [], ofL []))
      refine this.trans ?_
      rw [show (List.range l.length).map (fun j => l.getD j ([], 0, 0, [], ofL [])) = l by
        apply List.ext_getElem
        · simp
        · intro i h1 h2
          rw [List.getElem_map, List.getElem_range, List.getD_eq_getElem?_getD, List.getElem?_eq_getElem h2]
          rfl]
    · rw [List.pairwise_map, List.pairwise_iff_getElem]
      intro a b ha hb hab
      rw [leM_iff]
      exact e8 a b ha hb hab (by omega)
  refine ⟨S', Q, ?_, e2, e3, e4, e6, ?_, hQl, fun k hk => ⟨hQ k hk, ?_, ?_⟩⟩
  · unfold o_gather
    rw [ht, h.first (Or.inr rfl), o_bind, h47, ← e1, ip_0]
    congr 1
    by_cases hn : l = []
    · rw [if_pos hn, if_pos (by rw [hn]; rfl)]
    · rw [if_neg hn, if_neg (by intro e; exact hn (List.eq_nil_of_length_eq_zero e))]
  · rw [e5, List.append_assoc, List.take_left' hpre]
  · rw [← hL, List.getElem?_map, List.getElem?_eq_getElem hk]
    show _ = some (l.getD Q[k] _)
    rw [List.getD_eq_getElem?_getD, List.getElem?_eq_getElem (hQ k hk)]
    rfl
  · rw [e5, List.append_assoc, List.getElem?_append_right (by omega), hpre, Nat.add_sub_cancel_left, List.getElem?_append_left (by rw [List.length_map]; exact hk), List.getElem?_map, List.getElem?_eq_getElem hk]
    rfl
end Sort149
