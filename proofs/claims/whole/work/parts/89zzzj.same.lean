/-! The class compares objects, and all values. -/
section Same151
/-- a row of members' places -/
def gth (us A : List Int32) (top : Nat) (L : List Mb) : Prop := ∀ k (hk : k < L.length), ∃ x b r, A[top + k]? = some (Int32.ofNat x) ∧ us.drop x = pstr L[k].1 ++ r ∧ okS L[k].1 ∧ t_valueOf us (Int32.ofNat x) = some (Int32.ofNat b) ∧ vat us b L[k].2
theorem gth.move {us A A' : List Int32} {top T : Nat} {L : List Mb} (h : gth us A top L) (hT : top + L.length ≤ T) (e : A'.take T = A.take T) : gth us A' top L := by
  intro k hk
  obtain ⟨x, b, r, h1, h2⟩ := h k hk
  refine ⟨x, b, r, ?_, h2⟩
  have e1 : A'[top + k]? = (A'.take T)[top + k]? := by rw [List.getElem?_take, if_pos (by omega)]
  have e2 : A[top + k]? = (A.take T)[top + k]? := by rw [List.getElem?_take, if_pos (by omega)]
  rw [e1, e, ← e2, h1]
theorem iget_some {A : List Int32} {i : Nat} {v : Int32} (h : A[i]? = some v) (hi : i < 2147483648) : iget A (Int32.ofNat i) = some v := by
  obtain ⟨h1, h2⟩ := List.getElem?_eq_some_iff.mp h
  rw [iget_in h1 hi, h2]
theorem vat.nod {us : List Int32} {q : Nat} {v : Int} {s : List Int32} {l : List Mb} (h : vat us q (6, v, s, ofL l)) : nod l := by
  have := h.2.2.1.2.2.2.2.1 rfl
  rw [toL_ofL] at this
  exact this
theorem gather_gth {S : SS} {t0 : Nat} {us : List Int32} {q top : Nat} {v : Int} {s : List Int32} {l : List Mb} (ht0 : nCp t0) (h : vat us q (6, v, s, ofL l)) (hpl : top + l.length ≤ 2048) (ht : tT S t0 = us) (hl : (S 48).length = 2048) (h47l : (S 47).length = 2) (h47 : rd S 47 1 = Int32.ofNat top) : ∃ S', o_gather S t0 (Int32.ofNat q) = some S' ∧ (∀ a, a ≠ 47 → a ≠ 48 → S' a = S a) ∧ (S' 47).length = 2 ∧ rd S' 47 1 = Int32.ofNat (top + l.length) ∧ (S' 48).length = 2048 ∧ (S' 48).take top = (S 48).take top ∧ gth us (S' 48) top (srt l) := by
  obtain ⟨S', Q, e1, e2, e3, e4, e5, e6, e7, e8⟩ := gather_val ht0 h hpl ht hl h47l h47
  refine ⟨S', e1, e2, e3, e4, e5, e6, fun k hk => ?_⟩
  rw [srt_len] at hk
  obtain ⟨a1, a2, a3⟩ := e8 k (by omega)
  rw [List.getElem?_eq_getElem a1, List.getElem?_eq_getElem (by rw [srt_len]; exact hk), Option.some.injEq] at a2
  obtain ⟨i1, ⟨z, r, hz, i2⟩, i3⟩ := h.item (Or.inr rfl) a1
  have e : (6 == 6) = true := rfl
  rw [e] at i2 i3
  have hok := h.2.2.1.kids _ (List.getElem_mem a1)
  rw [List.drop_eq_getElem_cons a1] at i2
  obtain ⟨b1, b2⟩ := (mem_at h.1 h.2.1 hok hz i2).2 rfl
  rw [jn_tl] at i2
  unfold bM at i2
  simp only [if_true, List.append_assoc] at i2
  rw [← a2]
  exact ⟨_, _, _, a3, i2, hok.1, b1, b2⟩
theorem namK_end {L L' : List Mb} {k : Nat} (hk : k = min L.length L'.length) (h1 : L.length < 4097) (h2 : L'.length < 4097) : i_cmp (Int32.ofNat L.length) (Int32.ofNat L'.length) = namK (nms (L.drop k)) (nms (L'.drop k)) := by
  rw [i_cmp_of (by omega) (by omega)]
  unfold nms
  by_cases e : L.length = L'.length
  · rw [if_pos e, List.drop_eq_nil_of_le (by omega), List.drop_eq_nil_of_le (by omega)]
    rfl
  · rw [if_neg e]
    by_cases c : L'.length ≤ L.length
    · rw [if_pos c, List.drop_eq_nil_of_le (show L'.length ≤ k by omega), List.drop_eq_getElem_cons (show k < L.length by omega)]
      rfl
    · rw [if_neg c, List.drop_eq_nil_of_le (show L.length ≤ k by omega), List.drop_eq_getElem_cons (show k < L'.length by omega)]
      rfl
theorem namK_0 : ∀ {L L' : List (List Int32)}, namK L L' = 0 → L = L' := by
  intro L
  induction L with
  | nil =>
    intro L' h
    cases L' with
    | nil => rfl
    | cons s l => exact absurd h (show ¬ (-1 : Int32) = 0 by decide)
  | cons s l ih =>
    intro L' h
    cases L' with
    | nil => exact absurd h (show ¬ (1 : Int32) = 0 by decide)
    | cons s' l' =>
      have h : (if cmpS s s' = 0 then namK l l' else cmpS s s') = 0 := h
      by_cases c : cmpS s s' = 0
      · rw [if_pos c] at h
        rw [(cmpS_0 _ _).mp c, ih h]
      · rw [if_neg c] at h
        exact absurd h c
theorem onames_l {S : SS} {t0 t1 T1 T2 : Nat} {us vs : List Int32} {L L' : List Mb} (ht0 : tT S t0 = us) (ht1 : tT S t1 = vs) (hu : us.length ≤ 4096) (hv : vs.length ≤ 4096) (hT : T1 ≤ 4096 ∧ T2 ≤ 4096) (hL : L.length ≤ 4096) (hL' : L'.length ≤ 4096) (g1 : gth us (S 48) T1 L) (g2 : gth vs (S 48) T2 L') {l5 : Int32} (h12 : T2 = T1 + L.length) (h5 : l5 = Int32.ofNat (T2 + L'.length)) : ∀ (m k n : Nat), k + m = min L.length L'.length → m < n → ∃ e, o_names_l17 S t0 t1 n (Int32.ofNat T1) (Int32.ofNat T2) l5 (Int32.ofNat (min L.length L'.length)) (Int32.ofNat k) = some e ∧ e = namK (nms (L.drop k)) (nms (L'.drop k)) := by
  intro m
  induction m with
  | zero =>
    intro k n hk hn
    obtain ⟨n, rfl⟩ : ∃ j, n = j + 1 := ⟨n - 1, by omega⟩
    have hk' : k = min L.length L'.length := by omega
    refine ⟨i_cmp (Int32.ofNat L.length) (Int32.ofNat L'.length), ?_, ?_⟩
    · unfold o_names_l17
      rw [if_pos ((i_le' (by omega) (by omega)).mpr (by omega)), h5, i_subN (by omega) (by omega), i_subN (by omega) (by omega), Nat.add_sub_cancel_left, show T2 - T1 = L.length by omega]
    · exact namK_end hk' (by omega) (by omega)
  | succ m ih =>
    intro k n hk hn
    obtain ⟨n, rfl⟩ : ∃ j, n = j + 1 := ⟨n - 1, by omega⟩
    have k1 : k < L.length := by omega
    have k2 : k < L'.length := by omega
    obtain ⟨x, b, r, a1, a2, a3, a4, a5⟩ := g1 k k1
    obtain ⟨x', b', r', c1, c2, c3, c4, c5⟩ := g2 k k2
    obtain ⟨e, j1, j2⟩ := ih (k + 1) n (by omega) (by omega)
    have hd : namK (nms (L.drop k)) (nms (L'.drop k)) = if cmpS L[k].1 L'[k].1 = 0 then namK (nms (L.drop (k + 1))) (nms (L'.drop (k + 1))) else cmpS L[k].1 L'[k].1 := by
      rw [List.drop_eq_getElem_cons k1, List.drop_eq_getElem_cons k2]
      rfl
    have step : o_names_l17 S t0 t1 (n + 1) (Int32.ofNat T1) (Int32.ofNat T2) l5 (Int32.ofNat (min L.length L'.length)) (Int32.ofNat k) = if cmpS L[k].1 L'[k].1 = 0 then o_names_l17 S t0 t1 n (Int32.ofNat T1) (Int32.ofNat T2) l5 (Int32.ofNat (min L.length L'.length)) (Int32.ofNat (k + 1)) else some (cmpS L[k].1 L'[k].1) := by
      show (if Int32.ofNat (min L.length L'.length) ≤ Int32.ofNat k then _ else _) = _
      rw [if_neg (by rw [i_le' (by omega) (by omega)]; omega), ← Int32.ofNat_add, ← Int32.ofNat_add, iget_some a1 (by omega), o_bind, iget_some c1 (by omega), o_bind, ostr_val (by rw [ht0]; exact hu) (by rw [ht1]; exact hv) a3 c3 (by rw [ht0]; exact a2) (by rw [ht1]; exact c2), o_bind, i_a1]
    rw [step]
    by_cases hc : cmpS L[k].1 L'[k].1 = 0
    · rw [if_pos hc]
      exact ⟨e, j1, by rw [hd, if_pos hc]; exact j2⟩
    · rw [if_neg hc]
      exact ⟨_, rfl, by rw [hd, if_neg hc]⟩
theorem onames_val {S : SS} {t0 t1 T1 T2 T3 : Nat} {us vs : List Int32} {L L' : List Mb} (ht0 : tT S t0 = us) (ht1 : tT S t1 = vs) (hu : us.length ≤ 4096) (hv : vs.length ≤ 4096) (g1 : gth us (S 48) T1 L) (g2 : gth vs (S 48) T2 L') (h12 : T2 = T1 + L.length) (h23 : T3 = T2 + L'.length) (h3 : T3 ≤ 2048) : ∃ e, o_names S t0 t1 (Int32.ofNat T1) (Int32.ofNat T2) (Int32.ofNat T3) = some e ∧ e = namK (nms L) (nms L') := by
  obtain ⟨e, j1, j2⟩ := onames_l ht0 ht1 hu hv (by omega) (by omega) (by omega) g1 g2 h12 (l5 := Int32.ofNat T3) (by rw [h23]) (min L.length L'.length) 0 10000 (by omega) (by omega)
  refine ⟨e, ?_, j2⟩
  unfold o_names
  rw [← j1, i_subN (by omega) (by omega), i_subN (by omega) (by omega)]
  congr 1
  unfold imin
  rw [show T2 - T1 = L.length by omega, show T3 - T2 = L'.length by omega]
  by_cases h : L'.length < L.length
  · rw [if_pos ((i_lt' (by omega) (by omega)).mpr h), Nat.min_eq_right (by omega)]
  · rw [if_neg (by rw [i_lt' (by omega) (by omega)]; exact h), Nat.min_eq_left (by omega)]
/-- objects: the values in the order of names -/
theorem oobj_l {t0 t1 d T1 T2 top : Nat} {us vs : List Int32} {L L' : List Mb} {R : Vl → Vl → Int32} {rec : SS → Nat → Int32 → Nat → Int32 → Int32 → Option (SS × Int32)} (h0 : nCp t0) (h1 : nCp t1) (hLL : L.length = L'.length) (h12 : T2 = T1 + L.length) (h23 : top = T2 + L'.length) (h3 : top ≤ 2048) (hrec : ∀ m ∈ L, ∀ m' ∈ L', ∀ (S : SS) (p q : Nat), stCp S t0 t1 us vs top → vat us p m.2 → vat vs q m'.2 → ∃ S' e, rec S t0 (Int32.ofNat p) t1 (Int32.ofNat q) (Int32.ofNat (d + 1)) = some (S', e) ∧ e = R m.2 m'.2 ∧ frCp S S' top) : ∀ (m k n : Nat) (S : SS), k + m = L.length → m < n → stCp S t0 t1 us vs top → gth us (S 48) T1 L → gth vs (S 48) T2 L' → ∃ S' e, o_obj_l48 t0 t1 rec n S (Int32.ofNat d) (Int32.ofNat T1) (Int32.ofNat T2) 0 (Int32.ofNat k) = some (wr S' 47 1 (Int32.ofNat T1), e) ∧ e = arrK R (L.drop k) (L'.drop k) ∧ frCp S S' top := by
  intro m
  induction m with
  | zero =>
    intro k n S hk hn hS g1 g2
    obtain ⟨n, rfl⟩ : ∃ j, n = j + 1 := ⟨n - 1, by omega⟩
    refine ⟨S, 0, ?_, ?_, frCp.refl hS⟩
    · unfold o_obj_l48
      rw [i_subN (by omega) (by omega), if_pos ((i_le' (by omega) (by omega)).mpr (by omega))]
    · rw [List.drop_eq_nil_of_le (by omega), List.drop_eq_nil_of_le (by omega)]
      rfl
  | succ m ih =>
    intro k n S hk hn hS g1 g2
    obtain ⟨n, rfl⟩ : ∃ j, n = j + 1 := ⟨n - 1, by omega⟩
    have k1 : k < L.length := by omega
    have k2 : k < L'.length := by omega
    obtain ⟨x, b, r, a1, a2, a3, a4, a5⟩ := g1 k k1
    obtain ⟨x', b', r', c1, c2, c3, c4, c5⟩ := g2 k k2
    obtain ⟨S1, e, r1, r2, r3⟩ := hrec _ (List.getElem_mem k1) _ (List.getElem_mem k2) S b b' hS a5 c5
    have hS1 := hS.fr h0 h1 r3
    have step : o_obj_l48 t0 t1 rec (n + 1) S (Int32.ofNat d) (Int32.ofNat T1) (Int32.ofNat T2) 0 (Int32.ofNat k) = o_obj_l48 t0 t1 rec n S1 (Int32.ofNat d) (Int32.ofNat T1) (Int32.ofNat T2) e (Int32.ofNat (k + 1)) := by
      show (if (Int32.ofNat T2 - Int32.ofNat T1) ≤ Int32.ofNat k then _ else if (0 : Int32) = 0 then _ else _) = _
      rw [i_subN (by omega) (by omega), if_neg (by rw [i_le' (by omega) (by omega)]; omega), if_pos rfl, ← Int32.ofNat_add, ← Int32.ofNat_add, iget_some a1 (by omega), o_bind, hS.1, a4, o_bind, iget_some c1 (by omega), o_bind, hS.2.1, c4, o_bind, i_a1, r1, o_bind, i_a1]
    have hd : arrK R (L.drop k) (L'.drop k) = if R L[k].2 L'[k].2 = 0 then arrK R (L.drop (k + 1)) (L'.drop (k + 1)) else R L[k].2 L'[k].2 := by
      rw [List.drop_eq_getElem_cons k1, List.drop_eq_getElem_cons k2]
      rfl
    rw [step]
    by_cases he : e = 0
    · subst he
      obtain ⟨S2, e2, j1, j2, j3⟩ := ih (k + 1) n S1 (by omega) (by omega) hS1 (g1.move (by omega) r3.2.2.2.2) (g2.move (by omega) r3.2.2.2.2)
      exact ⟨S2, e2, j1, by rw [hd, ← r2, if_pos rfl]; exact j2, r3.trans j3⟩
    · refine ⟨S1, e, ?_, by rw [hd, ← r2, if_neg he], r3⟩
      obtain ⟨n, rfl⟩ : ∃ j, n = j + 1 := ⟨n - 1, by omega⟩
      unfold o_obj_l48
      by_cases hc : (Int32.ofNat T2 - Int32.ofNat T1) ≤ Int32.ofNat (k + 1)
      · rw [if_pos hc]
      · rw [if_neg hc, if_neg he]
theorem oobj_val {S : SS} {t0 t1 d top p q : Nat} {us vs : List Int32} {v v' : Int} {s s' : List Int32} {l l' : List Mb} {R : Vl → Vl → Int32} {rec : SS → Nat → Int32 → Nat → Int32 → Int32 → Option (SS × Int32)} (h0 : nCp t0) (h1 : nCp t1) (hS : stCp S t0 t1 us vs top) (hp : vat us p (6, v, s, ofL l)) (hq : vat vs q (6, v', s', ofL l')) (hT : top + l.length + l'.length ≤ 2048) (hrec : ∀ m ∈ l, ∀ m' ∈ l', ∀ (S : SS) (p q : Nat), stCp S t0 t1 us vs (top + l.length + l'.length) → vat us p m.2 → vat vs q m'.2 → ∃ S' e, rec S t0 (Int32.ofNat p) t1 (Int32.ofNat q) (Int32.ofNat (d + 1)) = some (S', e) ∧ e = R m.2 m'.2 ∧ frCp S S' (top + l.length + l'.length)) : ∃ S' e, o_obj S t0 t1 rec (Int32.ofNat p) (Int32.ofNat q) (Int32.ofNat d) = some (S', e) ∧ (e = if namK (nms (srt l)) (nms (srt l')) = 0 then arrK R (srt l) (srt l') else namK (nms (srt l)) (nms (srt l'))) ∧ frCp S S' top := by
  obtain ⟨a1, a2, a3, a4, a5⟩ := id hS
  obtain ⟨S1, b1, b2, b3, b4, b5, b6, b7⟩ := gather_gth h0 hp (by omega) a1 a5 a3 a4
  have t1' : tT S1 t1 = vs := by unfold tT at *; rw [b2 _ h1.2 h1.1]; exact a2
  have t0' : tT S1 t0 = us := by unfold tT at *; rw [b2 _ h0.2 h0.1]; exact a1
  obtain ⟨S2, c1, c2, c3, c4, c5, c6, c7⟩ := gather_gth h1 hq hT t1' b5 b3 b4
  have t1'' : tT S2 t1 = vs := by unfold tT at *; rw [c2 _ h1.2 h1.1]; exact t1'
  have t0'' : tT S2 t0 = us := by unfold tT at *; rw [c2 _ h0.2 h0.1]; exact t0'
  have g1 : gth us (S2 48) top (srt l) := b7.move (by rw [srt_len]; exact Nat.le_refl _) c6
  have hS2 : stCp S2 t0 t1 us vs (top + l.length + l'.length) := ⟨t0'', t1'', c3, c4, c5⟩
  obtain ⟨e, e1, e2⟩ := onames_val t0'' t1'' hp.1 hq.1 g1 c7 (by rw [srt_len]) (T3 := top + l.length + l'.length) (by rw [srt_len]) hT
  have tk : ∀ A B : List Int32, A.take (top + l.length) = B.take (top + l.length) → A.take top = B.take top := fun A B h => by
    have := congrArg (List.take top) h
    rw [List.take_take, List.take_take, Nat.min_eq_left (by omega)] at this
    exact this
  have fr : ∀ S3, frCp S2 S3 (top + l.length + l'.length) → frCp S (wr S3 47 1 (Int32.ofNat top)) top := by
    intro S3 hf
    refine ⟨fun a n1 n2 => by rw [wr_ne n1, hf.1 a n1 n2, c2 a n1 n2, b2 a n1 n2], by rw [wr_len]; exact hf.2.1, rd_wr (by rw [hf.2.1]; decide), by rw [wr_ne (by decide)]; exact hf.2.2.2.1, ?_⟩
    rw [wr_ne (by decide)]
    refine Eq.trans ?_ ((tk _ _ c6).trans b6)
    have := congrArg (List.take top) hf.2.2.2.2
    rw [List.take_take, List.take_take, Nat.min_eq_left (by omega)] at this
    exact this
  have eo : o_obj S t0 t1 rec (Int32.ofNat p) (Int32.ofNat q) (Int32.ofNat d) = o_obj_l48 t0 t1 rec 10000 S2 (Int32.ofNat d) (Int32.ofNat top) (Int32.ofNat (top + l.length)) e 0 := by
    unfold o_obj
    rw [b1, o_bind, c1, o_bind, a4, b4, c4, e1, o_bind]
  rw [eo]
  by_cases he : e = 0
  · have hn : namK (nms (srt l)) (nms (srt l')) = 0 := by rw [← e2]; exact he
    have hll : (srt l).length = (srt l').length := by
      have := congrArg List.length (namK_0 hn)
      unfold nms at this
      rw [List.length_map, List.length_map] at this
      exact this
    subst he
    obtain ⟨S3, e3, j1, j2, j3⟩ := oobj_l (T1 := top) (T2 := top + l.length) (R := R) (rec := rec) (d := d) h0 h1 hll (by rw [srt_len]) (by rw [srt_len]) hT (fun m hm m' hm' => hrec m ((srt_perm l).mem_iff.mp hm) m' ((srt_perm l').mem_iff.mp hm')) (srt l).length 0 10000 S2 (by omega) (by rw [srt_len]; omega) hS2 g1 c7
    exact ⟨_, e3, j1, by rw [if_pos hn]; exact j2, fr _ j3⟩
  · refine ⟨wr S2 47 1 (Int32.ofNat top), e, ?_, by rw [← e2, if_neg he], fr _ (frCp.refl hS2)⟩
    unfold o_obj_l48
    by_cases hc : (Int32.ofNat (top + l.length) - Int32.ofNat top) ≤ (0 : Int32)
    · rw [if_pos hc]
    · rw [if_neg hc, if_neg he]
/-- the class compares values -/
theorem ocmp_val : ∀ (n N : Nat), n ≤ N → ∀ (S : SS) (t0 t1 p q d top : Nat) (us vs : List Int32) (t u : Vl), nCp t0 → nCp t1 → stCp S t0 t1 us vs top → vat us p t → vat vs q u → dV t < n → d + dV t ≤ 60 → 5 * top + (bV t).length + (bV u).length ≤ 8192 → ∃ S' e, o_cmp N S t0 (Int32.ofNat p) t1 (Int32.ofNat q) (Int32.ofNat d) = some (S', e) ∧ e = cmpK n t u ∧ frCp S S' top := by
  intro n
  induction n with
  | zero => intro N _ S t0 t1 p q d top us vs t u _ _ _ _ _ h; omega
  | succ n ih =>
    intro N hN S t0 t1 p q d top us vs t u h0 h1 hS hp hq hd hd60 hroom
    obtain ⟨N, rfl⟩ : ∃ j, N = j + 1 := ⟨N - 1, by omega⟩
    have k6 := hp.2.2.1.1
    have k6' := hq.2.2.1.1
    show ∃ S' e, o_cmpB S t0 t1 (o_cmp N) (Int32.ofNat p) (Int32.ofNat q) (Int32.ofNat d) = some (S', e) ∧ _ ∧ _
    unfold o_cmpB
    rw [hS.1, hS.2.1, hp.kind, o_bind, hq.kind, o_bind]
    by_cases hk : t.1 = u.1
    · rw [if_pos (by rw [hk]), if_pos (by rw [show (60 : Int32) = Int32.ofNat 60 from rfl, i_le' (by omega) (by omega)]; omega)]
      obtain ⟨k, v, s, f⟩ := t
      obtain ⟨k', v', s', f'⟩ := u
      obtain ⟨l, rfl⟩ : ∃ l, f = ofL l := ⟨toL f, (ofL_toL f).symm⟩
      obtain ⟨l', rfl⟩ : ∃ l, f' = ofL l := ⟨toL f', (ofL_toL f').symm⟩
      simp only at hk k6 k6'
      subst hk
      show ∃ S' e, (if Int32.ofNat k = (3 : Int32) then _ else if Int32.ofNat k = (4 : Int32) then _ else if Int32.ofNat k = (5 : Int32) then _ else if Int32.ofNat k = (6 : Int32) then _ else _) = some (S', e) ∧ _ ∧ _
      have ek : ∀ j, j < 10 → (Int32.ofNat k = Int32.ofNat j ↔ k = j) := fun j hj => i_inj (by omega) (by omega)
      have es : cmpK (n + 1) (k, v, s, ofL l) (k, v', s', ofL l') = (if k = 3 then l_cmp (Int64.ofInt v) (Int64.ofInt v') else if k = 4 then cmpS s s' else if k = 5 then arrK (cmpK n) l l' else if k = 6 then (if namK (nms (srt l)) (nms (srt l')) = 0 then arrK (cmpK n) (srt l) (srt l') else namK (nms (srt l)) (nms (srt l'))) else 0) := by
        show (if k = k then _ else _) = _
        rw [if_pos rfl]
        simp only [toL_ofL]
      by_cases e3 : k = 3
      · subst e3
        rw [if_pos (show Int32.ofNat 3 = 3 from rfl), hp.number, o_bind, hq.number, o_bind]
        refine ⟨S, _, rfl, ?_, frCp.refl hS⟩
        rw [es, if_pos rfl]
      rw [if_neg (show ¬ Int32.ofNat k = 3 from fun c => e3 ((ek 3 (by omega)).mp c))]
      by_cases e4 : k = 4
      · subst e4
        obtain ⟨r, d1, -⟩ := hp.2.2.2
        obtain ⟨r', d2, -⟩ := hq.2.2.2
        rw [if_pos (show Int32.ofNat 4 = 4 from rfl), ostr_val (s := s) (s' := s') (r := r) (r' := r') (by rw [hS.1]; exact hp.1) (by rw [hS.2.1]; exact hq.1) hp.2.2.1.2.2.1 hq.2.2.1.2.2.1 (by rw [hS.1]; exact d1) (by rw [hS.2.1]; exact d2), o_bind]
        refine ⟨S, _, rfl, ?_, frCp.refl hS⟩
        rw [es, if_neg (by decide), if_pos rfl]
      rw [if_neg (show ¬ Int32.ofNat k = 4 from fun c => e4 ((ek 4 (by omega)).mp c))]
      by_cases e5 : k = 5
      · subst e5
        obtain ⟨r, d1, -⟩ := hp.2.2.2
        obtain ⟨r', d2, -⟩ := hq.2.2.2
        have b1 := box_in (Or.inl rfl) d1
        have b2 := box_in (Or.inl rfl) d2
        have il := (hp.items (Or.inl rfl)).2
        obtain ⟨S', e, j1, j2, j3⟩ := oarr_l (R := cmpK n) (rec := o_cmp N) (d := d) h0 h1 hp.1 hq.1 hp.2.1 hq.2.1 (z := 93) (z' := 93) (Or.inl rfl) (Or.inl rfl) l l' 10000 0 (p + 1) (q + 1) S hp.2.2.1.kids hq.2.2.1.kids (fun _ => b1) (fun _ => b2) (by omega) (by omega) hS (fun m hm m' hm' S p q hS hp' hq' => by
          have x1 := dV_kid (k := 5) (v := v) (s := s) (Or.inl rfl) hm
          have x2 := bV_kid (k := 5) (v := v) (s := s) (Or.inl rfl) hm
          have x3 := bV_kid (k := 5) (v := v') (s := s') (Or.inl rfl) hm'
          exact ih N (by omega) S t0 t1 p q (d + 1) top us vs m.2 m'.2 h0 h1 hS hp' hq' (by omega) (by omega) (by omega))
        refine ⟨S', e, ?_, ?_, j3⟩
        · rw [if_pos (show Int32.ofNat 5 = 5 from rfl)]
          unfold o_arr
          rw [hS.1, hS.2.1, hp.first (Or.inl rfl), o_bind, hq.first (Or.inl rfl), o_bind, show (0 : Int32) = Int32.ofNat 0 from rfl, j1, o_bind]
        · rw [es, if_neg (by decide), if_neg (by decide), if_pos rfl]
          exact j2
      rw [if_neg (show ¬ Int32.ofNat k = 5 from fun c => e5 ((ek 5 (by omega)).mp c))]
      by_cases e6 : k = 6
      · subst e6
        have r1 := bV_room (v := v) (s := s) (l := l)
        have r2 := bV_room (v := v') (s := s') (l := l')
        obtain ⟨S', e, j1, j2, j3⟩ := oobj_val (R := cmpK n) (rec := o_cmp N) (d := d) h0 h1 hS hp hq (by omega) (fun m hm m' hm' S p q hS hp' hq' => by
          have x1 := dV_kid (k := 6) (v := v) (s := s) (Or.inr rfl) hm
          have x2 := bV_kid (k := 6) (v := v) (s := s) (Or.inr rfl) hm
          have x3 := bV_kid (k := 6) (v := v') (s := s') (Or.inr rfl) hm'
          rw [if_pos rfl] at x2 x3
          exact ih N (by omega) S t0 t1 p q (d + 1) (top + l.length + l'.length) us vs m.2 m'.2 h0 h1 hS hp' hq' (by omega) (by omega) (by omega))
        refine ⟨S', e, ?_, ?_, j3⟩
        · rw [if_pos (show Int32.ofNat 6 = 6 from rfl), j1, o_bind]
        · rw [es, if_neg (by decide), if_neg (by decide), if_neg (by decide), if_pos rfl]
          exact j2
      rw [if_neg (show ¬ Int32.ofNat k = 6 from fun c => e6 ((ek 6 (by omega)).mp c))]
      refine ⟨S, 0, rfl, ?_, frCp.refl hS⟩
      rw [es, if_neg e3, if_neg e4, if_neg e5, if_neg e6]
    · rw [if_neg (by rw [i_inj (by omega) (by omega)]; exact hk)]
      refine ⟨S, _, rfl, ?_, frCp.refl hS⟩
      rw [i_cmp_of (by omega) (by omega), if_neg hk]
      show _ = (if t.1 = u.1 then _ else if u.1 ≤ t.1 then 1 else -1)
      rw [if_neg hk]
end Same151
