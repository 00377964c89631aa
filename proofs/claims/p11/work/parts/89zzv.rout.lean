section
/-! What the reference writes. -/
section ROut137
def frO (S S' : SS) : Prop := ∀ a, a ≠ 90 → a ≠ 91 → S' a = S a
theorem frO.trans {S S1 S2 : SS} (a : frO S S1) (b : frO S1 S2) : frO S S2 := fun x h1 h2 => (b x h1 h2).trans (a x h1 h2)
theorem oput {S : SS} {C : List Int32} (h : OutV S C) (v : Int32) : ∃ S', q_put S v = some S' ∧ OutV S' (C ++ [v]) ∧ frO S S' := by
  obtain ⟨h1, h2, h3, h4⟩ := h
  have z9 : Int32.ofNat (S 91).length = Int32.ofNat 9000 := by rw [h1]
  unfold q_put
  by_cases hc : C.length ≤ 9000
  · obtain ⟨⟨j, p1⟩, p2, p3⟩ := h3 hc
    rw [z9, p2]
    by_cases hf : C.length = 9000
    · rw [if_pos (by rw [hf]), if_neg (by rw [rd_wr (by rw [h2]; decide)]; decide)]
      refine ⟨_, rfl, ⟨by rw [wr_ne (by decide)]; exact h1, by rw [wr_len]; exact h2, fun q => ?_, fun _ => rd_wr (by rw [h2]; decide)⟩, fun a n1 _ => wr_ne n1⟩
      rw [List.length_append] at q
      simp only [List.length_cons, List.length_nil] at q
      omega
    · have hj : ∃ y j', j = y :: j' := by
        cases j with
        | nil => rw [p1, List.append_nil] at h1; omega
        | cons y j' => exact ⟨y, j', rfl⟩
      obtain ⟨y, j', rfl⟩ := hj
      have is : iset (S 91) (Int32.ofNat C.length) v = some ((S 91).set C.length v) := by
        unfold iset
        rw [if_neg (i_nn (by omega)), i_cl (by omega), if_pos (by omega)]
      rw [if_neg (by rw [i_inj (by omega) (by omega)]; exact hf), if_pos p3, is, o_bind]
      have r1 : rd (up S 91 ((S 91).set C.length v)) 90 1 = Int32.ofNat C.length := by rw [rd_up (by decide)]; exact p2
      refine ⟨_, rfl, ⟨by rw [wr_ne (by decide), up_same, List.length_set]; exact h1, by rw [wr_len, up_ne (by decide)]; exact h2, fun _ => ⟨⟨j', ?_⟩, ?_, ?_⟩, fun q => ?_⟩, fun a n1 n2 => by rw [wr_ne n1, up_ne n2]⟩
      · rw [wr_ne (by decide), up_same, p1, List.set_append_right _ _ (Nat.le_refl _), Nat.sub_self, List.set_cons_zero, List.append_assoc]; rfl
      · rw [rd_wr (by rw [up_ne (by decide), h2]; decide), r1, i_a1, List.length_append]; rfl
      · rw [rd_wr_j (by decide), rd_up (by decide)]; exact p3
      · rw [List.length_append] at q
        simp only [List.length_cons, List.length_nil] at q
        omega
  · have p3 := h4 (by omega)
    have keep : ∀ S' : SS, (S' = S ∨ S' = wr S 90 2 1) → OutV S' (C ++ [v]) ∧ frO S S' := by
      intro S' e
      rcases e with e | e
      · rw [e]
        exact ⟨⟨h1, h2, fun q => (by rw [List.length_append] at q; omega), fun _ => p3⟩, fun _ _ _ => rfl⟩
      · rw [e]
        exact ⟨⟨by rw [wr_ne (by decide)]; exact h1, by rw [wr_len]; exact h2, fun q => (by rw [List.length_append] at q; omega), fun _ => rd_wr (by rw [h2]; decide)⟩, fun a n1 _ => wr_ne n1⟩
    by_cases hf : rd S 90 1 = Int32.ofNat (S 91).length
    · rw [if_pos hf, if_neg (by rw [rd_wr (by rw [h2]; decide)]; decide)]
      exact ⟨_, rfl, keep _ (Or.inr rfl)⟩
    · rw [if_neg hf, if_neg (by rw [p3]; decide)]
      exact ⟨_, rfl, keep _ (Or.inl rfl)⟩
theorem oopen {S : SS} {C : List Int32} (h : OutV S C) (k : Int32) : ∃ S' at_, q_open S k = some (S', at_) ∧ OutV S' (C ++ [k, 0]) ∧ frO S S' ∧ (C.length ≤ 9000 → at_ = Int32.ofNat C.length) := by
  obtain ⟨S1, e1, o1, f1⟩ := oput h k
  obtain ⟨S2, e2, o2, f2⟩ := oput o1 0
  unfold q_open
  rw [e1, o_bind, e2, o_bind]
  refine ⟨S2, _, rfl, ?_, f1.trans f2, fun hc => (h.2.2.1 hc).2.1⟩
  rw [List.append_assoc] at o2
  exact o2
theorem oclose {S : SS} {C body : List Int32} {k at_ : Int32} (h : OutV S (C ++ k :: 0 :: body)) (ha : C.length ≤ 9000 → at_ = Int32.ofNat C.length) : ∃ S', q_close S at_ = some S' ∧ OutV S' (C ++ k :: Int32.ofNat (body.length + 2) :: body) ∧ frO S S' := by
  obtain ⟨h1, h2, h3, h4⟩ := h
  have el : (C ++ k :: 0 :: body).length = C.length + (body.length + 2) := by simp
  have el' : (C ++ k :: Int32.ofNat (body.length + 2) :: body).length = C.length + (body.length + 2) := by simp
  unfold q_close
  by_cases hc : C.length + (body.length + 2) ≤ 9000
  · obtain ⟨⟨j, p1⟩, p2, p3⟩ := h3 (by omega)
    rw [if_pos p3, ha (by omega), p2, el, i_a1]
    have es : Int32.ofNat (C.length + (body.length + 2)) - Int32.ofNat C.length = Int32.ofNat (body.length + 2) := by
      apply Int32.toInt_inj.mp
      have a1 : (Int32.ofNat (C.length + (body.length + 2))).toInt = ((C.length + (body.length + 2) : Nat) : Int) := i_of (by omega)
      have a2 : (Int32.ofNat C.length).toInt = (C.length : Int) := i_of (by omega)
      rw [i_sub (by rw [a1, a2]; omega) (by rw [a1, a2]; omega), a1, a2, i_of (by omega)]
      omega
    have is : iset (S 91) (Int32.ofNat (C.length + 1)) (Int32.ofNat (body.length + 2)) = some ((S 91).set (C.length + 1) (Int32.ofNat (body.length + 2))) := by
      unfold iset
      rw [if_neg (i_nn (by omega)), i_cl (by omega), if_pos (by omega)]
    rw [es, is, o_bind]
    refine ⟨_, rfl, ⟨by rw [up_same, List.length_set]; exact h1, by rw [up_ne (by decide)]; exact h2, fun _ => ⟨⟨j, ?_⟩, ?_, ?_⟩, fun q => by omega⟩, fun a _ n2 => up_ne n2⟩
    · rw [up_same, p1, List.append_assoc, List.set_append_right _ _ (by omega), List.append_assoc, show C.length + 1 - C.length = 0 + 1 by omega]
      rfl
    · rw [rd_up (by decide), p2, el, el']
    · rw [rd_up (by decide)]; exact p3
  · rw [if_neg (by rw [h4 (by omega)]; decide)]
    exact ⟨S, rfl, ⟨h1, h2, fun q => (by omega), fun _ => h4 (by omega)⟩, fun _ _ _ => rfl⟩
theorem ocells_l {aa : Nat} {r : List Int32} {e : Nat} (haa : aa ≠ 90 ∧ aa ≠ 91) : ∀ (w : List Int32) (n i : Nat) (S : SS) (C : List Int32), OutV S C → (S aa).length ≤ 9000 → (S aa).drop i = w ++ r → i + w.length = e → e ≤ 9000 → w.length < n → ∃ S', b_cells_l3 aa n S (Int32.ofNat e) (Int32.ofNat i) = some S' ∧ OutV S' (C ++ w) ∧ frO S S' := by
  intro w
  induction w with
  | nil =>
    intro n i S C ho hl hd he h9 hn
    cases n with
    | zero => omega
    | succ n =>
      simp only [List.length_nil, Nat.add_zero] at he
      show ∃ S', (if Int32.ofNat e ≤ Int32.ofNat i then some S else _) = some S' ∧ _
      rw [if_pos ((i_le' (by omega) (by omega)).mpr (by omega)), List.append_nil]
      exact ⟨S, rfl, ho, fun _ _ _ => rfl⟩
  | cons x w ih =>
    intro n i S C ho hl hd he h9 hn
    simp only [List.length_cons] at he hn
    cases n with
    | zero => omega
    | succ n =>
      obtain ⟨S1, e1, o1, f1⟩ := oput ho x
      show ∃ S', (if Int32.ofNat e ≤ Int32.ofNat i then some S else _) = some S' ∧ _
      rw [if_neg (by rw [i_le' (by omega) (by omega)]; omega), iget_drop hl hd, o_bind, e1, o_bind, i_a1]
      obtain ⟨S', j1, j2, j3⟩ := ih n (i + 1) S1 (C ++ [x]) o1 (by rw [f1 aa haa.1 haa.2]; exact hl) (by rw [f1 aa haa.1 haa.2]; exact drop_more (w := [x]) hd) (by omega) h9 (by omega)
      rw [List.append_assoc] at j2
      exact ⟨S', j1, j2, f1.trans j3⟩
theorem ocells {S : SS} {aa i : Nat} {w r C : List Int32} (haa : aa ≠ 90 ∧ aa ≠ 91) (ho : OutV S C) (hl : (S aa).length ≤ 9000) (hd : (S aa).drop i = w ++ r) (hi : i ≤ 9000) : ∃ S', b_cells S aa (Int32.ofNat i) (Int32.ofNat (i + w.length)) = some S' ∧ OutV S' (C ++ w) ∧ frO S S' := by
  have := congrArg List.length hd
  rw [List.length_drop, List.length_append] at this
  by_cases hw : w = []
  · rw [hw]
    exact ocells_l (r := r) haa [] 10000 i S C ho hl (by rw [hd, hw]) rfl (by simp; omega) (by decide)
  · have h0 := List.length_pos_iff.mpr hw
    exact ocells_l haa w 10000 i S C ho hl hd rfl (by omega) (by omega)
/-- open, what stands there, close -/
theorem l208_body {S : SS} {aa i : Nat} {k : Int32} {w r : List Int32} (haa : aa ≠ 90 ∧ aa ≠ 91) (ho : OutV S []) (hl : (S aa).length ≤ 9000) (hd : (S aa).drop i = w ++ r) (hi : i ≤ 9000) (hlo : rd S 78 17 = Int32.ofNat i) (hhi : rd S 78 18 = Int32.ofNat (i + w.length)) : ∃ S', ((q_open S k).bind fun r11 => ((b_cells r11.1 aa (rd r11.1 78 17) (rd r11.1 78 18)).bind fun r13 => ((q_close r13 r11.2).bind fun r15 => some r15))) = some S' ∧ OutV S' (k :: Int32.ofNat (w.length + 2) :: w) ∧ frO S S' := by
  obtain ⟨S1, at_, e1, o1, f1, a1⟩ := oopen ho k
  have e17 : rd S1 78 17 = Int32.ofNat i := by unfold rd; rw [f1 78 (by decide) (by decide)]; exact hlo
  have e18 : rd S1 78 18 = Int32.ofNat (i + w.length) := by unfold rd; rw [f1 78 (by decide) (by decide)]; exact hhi
  obtain ⟨S2, e2, o2, f2⟩ := ocells haa o1 (by rw [f1 aa haa.1 haa.2]; exact hl) (by rw [f1 aa haa.1 haa.2]; exact hd) hi
  obtain ⟨S3, e3, o3, f3⟩ := oclose (C := []) (body := w) (k := k) o2 a1
  rw [e1, o_bind, e17, e18, e2, o_bind, e3, o_bind]
  exact ⟨S3, rfl, o3, (f1.trans f2).trans f3⟩
theorem l208_val {S : SS} {aa ab : Nat} {c : Cu} {l3 : Int32} {k19 : SS → Int32 → Int32 → Option SS} (haa : aa ≠ 90 ∧ aa ≠ 91) (ho : OutV S []) (h : spRU S aa c l3) : ∃ S', b_getv_l208 aa ab k19 S l3 = some S' ∧ OutV S' (cV (outV c)) ∧ frO S S' := by
  unfold b_getv_l208
  cases c with
  | none =>
    have h : l3 = -1 := h
    rw [if_pos h]
    obtain ⟨S1, at_, e1, o1, f1, a1⟩ := oopen ho 0
    obtain ⟨S2, e2, o2, f2⟩ := oclose (C := []) (body := []) (k := 0) o1 a1
    unfold q_simple
    rw [e1, o_bind, e2, o_bind, o_bind]
    exact ⟨S2, rfl, o2, f1.trans f2⟩
  | some tw =>
    obtain ⟨t, w⟩ := tw
    have h : spR S aa t w l3 := h
    obtain ⟨p, e, hp9, hc, hwo, hw0, hwb⟩ := h
    have nx1 := hc.next.2
    have h9 := hc.1
    have tk6 := hc.2.1.1
    rw [if_neg (by rw [e]; exact i_ne1 (by omega)), e, hc.kind, o_bind]
    obtain ⟨-, wv, r, hd⟩ := id hc
    cases w with
    | none =>
      obtain ⟨b1, b2⟩ := hw0 rfl
      obtain ⟨q, hq⟩ := cV_hdd tk6
      have hd2 : (S aa).drop (p + 2) = q ++ r := by
        rw [hq] at hd
        exact drop_more (w := [Int32.ofNat t.1, Int32.ofNat (cV t).length]) hd
      have hql : (cV t).length = q.length + 2 := by
        have := congrArg List.length hq
        simpa using this
      obtain ⟨S', j1, j2, j3⟩ := l208_body (k := Int32.ofNat t.1) haa ho h9 hd2 (by omega) b1 (by rw [b2, hql]; congr 1; omega)
      refine ⟨S', j1, ?_, j3⟩
      show OutV S' (cV t)
      rw [hq, hql]
      exact j2
    | some ab' =>
      obtain ⟨a, b⟩ := ab'
      obtain ⟨w1, w2, w3⟩ := hwo a b rfl
      obtain ⟨b1, b2⟩ := hwb w3
      have eA : winA t (some (a, b)) = a := rfl
      have eE : winE t (some (a, b)) = b := by unfold winE winA winN; simp only; omega
      rw [eA] at b1
      rw [eE] at b2
      by_cases h4 : t.1 = 4
      · have hsz : size t = t.2.2.1.length := by unfold size; rw [if_pos h4]
        have cl := cat_str_len hc h4
        have ep : ∀ i, pos t p i = p + 2 + i := fun i => by unfold pos; rw [if_pos h4]
        rw [ep] at b1 b2
        have hd2 : (S aa).drop (p + 2) = t.2.2.1 ++ r := by
          have : cV t = [4, Int32.ofNat (t.2.2.1.length + 2)] ++ t.2.2.1 := by
            conv => lhs; rw [vl4 h4]
            rfl
          rw [this, List.append_assoc] at hd
          exact drop_more hd
        have hd3 : (S aa).drop (p + 2 + a) = (t.2.2.1.drop a).take (b - a) ++ (t.2.2.1.drop b ++ r) := by
          rw [← List.drop_drop, hd2, List.drop_append_of_le_length (by omega), ← List.append_assoc]
          congr 1
          rw [show t.2.2.1.drop b = (t.2.2.1.drop a).drop (b - a) by rw [List.drop_drop]; congr 1; omega, List.take_append_drop]
        have lw : ((t.2.2.1.drop a).take (b - a)).length = b - a := by rw [List.length_take, List.length_drop]; omega
        obtain ⟨S', j1, j2, j3⟩ := l208_body (k := Int32.ofNat t.1) haa ho h9 hd3 (by omega) b1 (by rw [b2, lw]; congr 1; omega)
        refine ⟨S', j1, ?_, j3⟩
        have eo : cV (outV (some (t, some (a, b)))) = Int32.ofNat t.1 :: Int32.ofNat (((t.2.2.1.drop a).take (b - a)).length + 2) :: (t.2.2.1.drop a).take (b - a) := by
          unfold outV
          simp only
          rw [if_pos h4, h4]
          rfl
        rw [eo]
        exact j2
      · have h5 := w3.resolve_left h4
        have hsz : size t = (toL t.2.2.2).length := by unfold size; rw [if_neg h4]
        have ep : ∀ i, pos t p i = bp (p + 2) (blks false (toL t.2.2.2)) i := fun i => by unfold pos; rw [if_neg h4]
        rw [ep] at b1 b2
        have hc' := hc
        rw [vl5 h5] at hc'
        obtain ⟨-, wv', r', hd'⟩ := hc'
        obtain ⟨c1, c2⟩ := cbox_in (Or.inl rfl) hd'
        rw [show (5 == 6) = false from rfl] at c1 c2
        have bl := blks_len false (toL t.2.2.2)
        simp only [Bool.false_eq_true, if_false] at bl
        obtain ⟨g1, g2⟩ := win_blk (i := a) (j := b) c1 w1 (by omega)
        have hlen := congrArg List.length g1
        rw [List.length_drop, List.length_append] at hlen
        have bpl : bp (p + 2) (blks false (toL t.2.2.2)) a ≤ 9000 := by
          have hl2 := congrArg List.length c1
          rw [List.length_drop, List.length_append] at hl2
          unfold bp
          have : ((blks false (toL t.2.2.2)).take a).flatten.length + ((blks false (toL t.2.2.2)).drop a).flatten.length = (blks false (toL t.2.2.2)).flatten.length := by
            rw [← List.length_append, ← List.flatten_append, List.take_append_drop]
          omega
        obtain ⟨S', j1, j2, j3⟩ := l208_body (k := Int32.ofNat t.1) haa ho h9 g1 bpl b1 (by rw [b2, g2])
        refine ⟨S', j1, ?_, j3⟩
        have eb : ((blks false (toL t.2.2.2)).drop a).take (b - a) = blks false (((toL t.2.2.2).drop a).take (b - a)) := by
          have : ∀ l : List Mb, blks false l = l.map fun m => cV m.2 := fun l => by
            unfold blks
            induction l with
            | nil => rfl
            | cons m l ih => rw [List.flatMap_cons, ih]; rfl
          rw [this, this, List.map_take, List.map_drop]
        have eo : cV (outV (some (t, some (a, b)))) = Int32.ofNat t.1 :: Int32.ofNat ((((blks false (toL t.2.2.2)).drop a).take (b - a)).flatten.length + 2) :: (((blks false (toL t.2.2.2)).drop a).take (b - a)).flatten := by
          rw [eb]
          unfold outV
          simp only
          rw [if_neg h4, h5]
          show Int32.ofNat 5 :: Int32.ofNat ((cF false (ofL _)).length + 2) :: cF false (ofL _) = _
          rw [blks_flat]
        rw [eo]
        exact j2
end ROut137
end

section
/-! How a call ends: nothing comes to a register, or a value does. -/
section Fin138
theorem ra_ne {dr : Nat} {ra : List Nat} (h : (dr :: ra).Perm nine) (hl : ra.length = 8) {r : Nat} (hr : r < 8) : ra.getD r 0 ≠ dr := by
  have nd : (dr :: ra).Nodup := h.nodup_iff.mpr (by decide)
  intro e
  have : ra.getD r 0 ∈ ra := by
    rw [List.getD_eq_getElem?_getD, List.getElem?_eq_getElem (by omega)]
    exact List.getElem_mem _
  rw [e] at this
  exact (List.nodup_cons.mp nd).1 this
theorem ra_inj {dr : Nat} {ra : List Nat} (h : (dr :: ra).Perm nine) (hl : ra.length = 8) {r s : Nat} (hr : r < 8) (hs : s < 8) (hn : r ≠ s) : ra.getD r 0 ≠ ra.getD s 0 := by
  have nd : (dr :: ra).Nodup := h.nodup_iff.mpr (by decide)
  have nd2 := (List.nodup_cons.mp nd).2
  rw [List.getD_eq_getElem?_getD, List.getElem?_eq_getElem (show r < ra.length by omega), List.getD_eq_getElem?_getD, List.getElem?_eq_getElem (show s < ra.length by omega)]
  intro e
  exact hn ((List.getElem_inj nd2).mp e)
theorem finA {S S' : SS} {ts : Nat → Vl} {dr : Nat} {ra : List Nat} {tape res : List Int32} (i3 : InvT S tape) (i4 : InvP S res) (i5 : InvG S ts dr ra) (hL : InvL S') (hB : InvB S') (h42 : S' 42 = S 42) (h79 : S' 79 = S 79) (h78 : rd S' 78 1 = rd S 78 1) (h44 : S' 44 = S 44) (h92 : S' 92 = S 92) (h46 : S' 46 = S 46) (h41 : rd S' 41 9 = rd S 41 9) (hn : ∀ a ∈ nine, a ≠ dr → S' a = S a) (h82 : ∀ r, r < 8 → S' (82 + r) = S (82 + r)) : Inv S' := by
  obtain ⟨g1, g2, g3, g4, g5⟩ := i5
  exact ⟨hL, hB, ⟨tape, i3.move h42 h79 h78⟩, ⟨res, i4.move h44 h92⟩, ts, dr, ra, h46.trans g1, g2, g3, h41.trans g4, fun r hr => (g5 r hr).move (hn _ (ra_mem g3 g2 hr) (ra_ne g3 g2 hr)) (h82 r hr)⟩
theorem swap_perm {dr : Nat} : ∀ {ra : List Nat} {n : Nat} (h : n < ra.length), (ra.getD n 0 :: ra.set n dr).Perm (dr :: ra) := by
  intro ra
  induction ra with
  | nil => intro n h; cases h
  | cons x ra ih =>
    intro n h
    cases n with
    | zero => exact List.Perm.swap dr x ra
    | succ n =>
      have := ih (n := n) (by simpa using h)
      show (ra.getD n 0 :: x :: ra.set n dr).Perm (dr :: x :: ra)
      exact ((List.Perm.swap x (ra.getD n 0) (ra.set n dr)).trans (this.cons x)).trans (List.Perm.swap dr x ra)
theorem finB {S S' : SS} {ts : Nat → Vl} {dr : Nat} {ra : List Nat} {tape res : List Int32} {n0 : Nat} {t : Vl} (i3 : InvT S tape) (i4 : InvP S res) (i5 : InvG S ts dr ra) (hn0 : n0 < 8) (hw : wV t) (hg : good t) (hL : InvL S') (hB : InvB S') (h42 : S' 42 = S 42) (h79 : S' 79 = S 79) (h78 : rd S' 78 1 = rd S 78 1) (h44 : S' 44 = S 44) (h92 : S' 92 = S 92) (h46 : S' 46 = (ra.set n0 dr).map Int32.ofNat) (h41 : rd S' 41 9 = Int32.ofNat (ra.getD n0 0)) (hn : ∀ a ∈ nine, a ≠ dr → S' a = S a) (hd : S' dr = 0 :: bV t) (h82 : ∀ r, r < 8 → r ≠ n0 → S' (82 + r) = S (82 + r)) (h83 : (S' (82 + n0)).length = 9000 ∧ ∃ j, S' (82 + n0) = cV t ++ j) : Inv S' := by
  obtain ⟨g1, g2, g3, g4, g5⟩ := i5
  refine ⟨hL, hB, ⟨tape, i3.move h42 h79 h78⟩, ⟨res, i4.move h44 h92⟩, fun r => if r = n0 then t else ts r, ra.getD n0 0, ra.set n0 dr, h46, by rw [List.length_set]; exact g2, (swap_perm (by omega)).trans g3, h41, fun r hr => ?_⟩
  by_cases e : r = n0
  · subst e
    have e1 : (ra.set r dr).getD r 0 = dr := by rw [List.getD_eq_getElem?_getD, List.getElem?_set_self (by omega)]; rfl
    rw [e1]
    simp only [if_true]
    exact ⟨hd, hg.1, hw, hg.2, h83.1, h83.2⟩
  · have e1 : (ra.set n0 dr).getD r 0 = ra.getD r 0 := by rw [List.getD_eq_getElem?_getD, List.getElem?_set_ne (fun q => e q.symm), ← List.getD_eq_getElem?_getD]
    rw [e1]
    simp only [if_neg e]
    exact (g5 r hr).move (hn _ (ra_mem g3 g2 hr) (ra_ne g3 g2 hr)) (h82 r hr e)
theorem outV_ok {S : SS} {ta : Nat} {c : Cu} (h : spU S ta c) : wV (outV c) := by
  cases c with
  | none => exact vNull_ok
  | some tw =>
    obtain ⟨t, w⟩ := tw
    obtain ⟨q, it, lo, hi, h1, h2, h3, h4⟩ := h
    have hw := h2.2.2.1
    cases w with
    | none => exact hw
    | some ab =>
      obtain ⟨a, b⟩ := ab
      obtain ⟨w1, w2, w3⟩ := h3 a b rfl
      unfold outV
      simp only
      by_cases k4 : t.1 = 4
      · rw [if_pos k4]
        exact ⟨(show (4 : Nat) ≤ 6 by decide), fun e => absurd e (show ¬ (4 : Nat) = 3 by decide), fun c hc => hw.2.2.1 c (List.mem_of_mem_drop (List.mem_of_mem_take hc)), fun _ => hw.2.2.2.1 (by omega), fun e => absurd e (show ¬ (4 : Nat) = 6 by decide), hw.2.2.2.2.2⟩
      · rw [if_neg k4]
        refine ⟨(show (5 : Nat) ≤ 6 by decide), fun e => absurd e (show ¬ (5 : Nat) = 3 by decide), hw.2.2.1, fun e => absurd (Or.inl rfl) e, fun e => absurd e (show ¬ (5 : Nat) = 6 by decide), ?_⟩
        rw [wF_iff]
        intro m hm
        have hm' : m ∈ ((toL t.2.2.2).drop a).take (b - a) := by
          have := hm
          simp only at this
          rw [toL_ofL] at this
          exact this
        exact (wF_iff _).mp hw.2.2.2.2.2 m (List.mem_of_mem_drop (List.mem_of_mem_take hm'))
/-- a register's text and cells -/
theorem reg_vat {S : SS} {a r : Nat} {t : Vl} (h : InvR S a r t) : vat (tT S a) 0 t ∧ cat (S (82 + r)) 0 t := by
  obtain ⟨h1, h2, h3, h4, h5, j, h6⟩ := h
  have e : tT S a = bV t := by unfold tT; rw [h1]; rfl
  exact ⟨by rw [e]; exact ⟨h2, (bV_pass t h3).2, h3, [], by rw [List.drop_zero, List.append_nil], Or.inl rfl⟩, by omega, h3, j, by rw [List.drop_zero]; exact h6⟩
/-- the reference begins a call -/
theorem begin_val {S : SS} (h78 : (S 78).length = 22) (h90 : (S 90).length = 3) (h91 : (S 91).length = 9000) : ∃ S', b_begin S = some S' ∧ (∀ a, a ≠ 78 → a ≠ 90 → S' a = S a) ∧ (∀ k, k ≠ 0 → k ≠ 12 → rd S' 78 k = rd S 78 k) ∧ rd S' 78 0 = 0 ∧ rd S' 78 12 = 0 ∧ (S' 78).length = 22 ∧ OutV S' [] := by
  unfold b_begin q_clear
  rw [o_bind]
  refine ⟨_, rfl, fun a n1 n2 => by rw [wr_ne n2, wr_ne n2, wr_ne n1, wr_ne n1], fun k k0 k12 => by rw [rd_wr_ne (by decide), rd_wr_ne (by decide), rd_wr_j (fun e => k12 e.symm), rd_wr_j (fun e => k0 e.symm)], ?_, ?_, ?_, ?_, ?_, ?_, ?_⟩
  · rw [rd_wr_ne (by decide), rd_wr_ne (by decide), rd_wr_j (by decide), rd_wr (by rw [h78]; decide)]
  · rw [rd_wr_ne (by decide), rd_wr_ne (by decide), rd_wr (by rw [wr_len, h78]; decide)]
  · rw [wr_len, wr_len, wr_len, wr_len]; exact h78
  · rw [wr_len, wr_len, wr_len, wr_len]; exact h91
  · rw [wr_len, wr_len, wr_len, wr_len]; exact h90
  · intro _
    refine ⟨⟨S 91, by rw [wr_ne (by decide), wr_ne (by decide), wr_ne (by decide), wr_ne (by decide)]; rfl⟩, ?_, ?_⟩
    · rw [rd_wr_j (by decide), rd_wr (by rw [wr_len, wr_len, h90]; decide)]; rfl
    · rw [rd_wr (by rw [wr_len, wr_len, wr_len, h90]; decide)]
  · intro h; simp at h
/-- the reference ends a call -/
theorem finish_ref {S : SS} (p0 p1 p2 : Int32) (h : rd S 78 12 = 1) (h78 : (S 78).length = 22) : ∃ S', b_finish S p0 p1 p2 = some S' ∧ (∀ a, a ≠ 78 → S' a = S a) ∧ rd S' 78 0 = p1 ∧ rd S' 78 4 = 1 ∧ ∀ k, k ≠ 0 → k ≠ 4 → rd S' 78 k = rd S 78 k := by
  unfold b_finish
  rw [h, if_neg (by decide)]
  exact ⟨_, rfl, fun a ha => by rw [wr_ne ha, wr_ne ha], rd_wr (by rw [wr_len, h78]; decide), by rw [rd_wr_j (by decide), rd_wr (by rw [h78]; decide)], fun k k0 k4 => by rw [rd_wr_j (fun e => k0 e.symm), rd_wr_j (fun e => k4 e.symm)]⟩
theorem finish_val {S : SS} {t : Vl} {n0 : Nat} (p1 p2 : Int32) (hn : n0 < 8) (h : rd S 78 12 = 0) (h0 : rd S 78 0 = 0) (h78 : (S 78).length = 22) (hw : wV t) (ho : OutV S (cV t)) (h80 : (S 80).length = 9000) (h82 : (S (82 + n0)).length = 9000) : (good t → ∃ S', b_finish S (Int32.ofNat n0) p1 p2 = some S' ∧ (∀ a, a ≠ 80 → a ≠ 94 → a ≠ 82 + n0 → S' a = S a) ∧ (S' 80).length = 9000 ∧ (S' (82 + n0)).length = 9000 ∧ ∃ j, S' (82 + n0) = cV t ++ j) ∧ (¬ good t → ∃ S', b_finish S (Int32.ofNat n0) p1 p2 = some S' ∧ (∀ a, a ≠ 80 → a ≠ 94 → a ≠ 78 → S' a = S a) ∧ (S' 80).length = 9000 ∧ rd S' 78 0 = p2 ∧ ∀ k, k ≠ 0 → rd S' 78 k = rd S 78 k) := by
  obtain ⟨S1, e1, f1, l1⟩ := fits_val hw ho h80
  unfold b_finish
  rw [h, if_pos (by decide), e1, o_bind]
  refine ⟨fun hg => ?_, fun hg => ?_⟩
  · rw [if_pos hg]
    have cb := cbound t hw
    have ho1 : OutV S1 (cV t) := by
      unfold OutV rd
      rw [f1 91 (by decide) (by decide), f1 90 (by decide) (by decide)]
      exact ho
    obtain ⟨S2, e2, f2, l2, j2⟩ := bkeep_val hn (by have := hg.1; omega) ho1 (by rw [f1 _ (by omega) (by omega)]; exact h82)
    rw [if_neg (show ¬ (1 : Int32) = 0 by decide), e2, o_bind]
    exact ⟨S2, rfl, fun a n1 n2 n3 => (f2 a n3).trans (f1 a n1 n2), by rw [f2 80 (by omega)]; exact l1, l2, j2⟩
  · rw [if_neg hg, if_pos rfl]
    show ∃ S', some (wr S1 78 0 p2) = some S' ∧ _
    exact ⟨_, rfl, fun a n1 n2 n3 => by rw [wr_ne n3, f1 a n1 n2], by rw [wr_ne (by decide)]; exact l1, rd_wr (by rw [f1 78 (by decide) (by decide), h78]; decide), fun k hk => by rw [rd_wr_j (fun e => hk e.symm)]; unfold rd; rw [f1 78 (by decide) (by decide)]⟩
end Fin138
end

section
/-! The call get. -/
section Get139
theorem pos_end {as : List Int32} {b : Nat} {v : Vl} (hc : cat as b v) (hk : v.1 = 4 ∨ v.1 = 5) : pos v b (size v) = b + (cV v).length := by
  unfold pos
  by_cases h4 : v.1 = 4
  · rw [if_pos h4, cat_str_len hc h4]; omega
  · rw [if_neg h4]
    have h5 := hk.resolve_left h4
    have hc' := hc
    rw [vl5 h5] at hc'
    obtain ⟨-, -, r, hd⟩ := hc'
    obtain ⟨c1, c2⟩ := cbox_in (Or.inl rfl) hd
    rw [show (5 == 6) = false from rfl] at c2
    have ev : (cV v).length = (cV (5, v.2.1, v.2.2.1, ofL (toL v.2.2.2))).length := by conv => lhs; rw [vl5 h5]
    have bl := blks_len false (toL v.2.2.2)
    simp only [Bool.false_eq_true, if_false] at bl
    unfold bp size
    rw [if_neg h4, List.take_of_length_le (by omega), ev, c2]
    omega
theorem getv_val {S : SS} {aa ab : Nat} {t pt : Vl} (haa : aa ≠ 78 ∧ aa ≠ 90 ∧ aa ≠ 91) (hab : ab ≠ 78) (h78 : (S 78).length = 22) (h12 : rd S 78 12 = 0) (h39 : S 39 = mp_aS) (h40 : S 40 = mp_aE) (ho : OutV S []) (ha : cat (S aa) 0 t) (hp : cat (S ab) 0 pt) (h5 : pt.1 = 5) : (∀ c', foll (some (t, none)) ((toL pt.2.2.2).map fun m => m.2) = some c' → ∃ S', b_getv S aa ab = some S' ∧ OutV S' (cV (outV c')) ∧ (∀ a, a ≠ 78 → a ≠ 90 → a ≠ 91 → S' a = S a) ∧ (∀ k, k ≠ 17 → k ≠ 18 → rd S' 78 k = rd S 78 k) ∧ (S' 78).length = 22) ∧ (foll (some (t, none)) ((toL pt.2.2.2).map fun m => m.2) = none → ∃ S', b_getv S aa ab = some S' ∧ refd S S') := by
  have na := ha.next
  have np := hp.next
  obtain ⟨S1, hS1⟩ : ∃ S1, S1 = wr (wr S 78 17 2) 78 18 (Int32.ofNat (0 + (cV t).length)) := ⟨_, rfl⟩
  have f1 : frN S S1 := by rw [hS1]; exact frN_wr S _ _
  have e0 : b_getv S aa ab = b_getv_l19 aa ab 10000 S1 0 2 := by
    unfold b_getv
    have : r_next (wr S 78 17 2 aa) 0 = some (Int32.ofNat (0 + (cV t).length)) := by rw [wr_ne haa.1]; exact na.1
    rw [this, o_bind, hS1]
  obtain ⟨d1, d2⟩ := rd_win S 2 (Int32.ofNat (0 + (cV t).length)) h78
  rw [← hS1] at d1 d2
  have hs : spRU S1 aa (some (t, none)) 0 := by
    refine ⟨0, rfl, by decide, by rw [f1.1 aa haa.1]; exact ha, (fun _ _ q => by cases q), fun _ => ⟨d1, d2⟩, fun hk => ⟨d1.trans ?_, d2.trans ?_⟩⟩
    · show (2 : Int32) = Int32.ofNat (pos t 0 0)
      unfold pos
      split
      · rfl
      · rw [bp_0]; rfl
    · show _ = Int32.ofNat (pos t 0 (0 + size t))
      rw [Nat.zero_add, Nat.zero_add, pos_end ha hk, Nat.zero_add]
  have hp' := hp
  rw [vl5 h5] at hp'
  obtain ⟨p9, pw, r, pd⟩ := id hp'
  obtain ⟨c1, c2⟩ := cbox_in (Or.inl rfl) pd
  rw [show (5 == 6) = false from rfl] at c1 c2
  have bl := blks_len false (toL pt.2.2.2)
  simp only [Bool.false_eq_true, if_false] at bl
  have f2 := flat2 _ (blks_h (b := false) pw.kids)
  have evp : (cV pt).length = (cV (5, pt.2.1, pt.2.2.1, ofL (toL pt.2.2.2))).length := by conv => lhs; rw [vl5 h5]
  have h1 : iget (S ab) 1 = some (Int32.ofNat (cV pt).length) := by
    obtain ⟨-, hw, r0, hd0⟩ := id hp
    obtain ⟨q, hq⟩ := cV_hdd hw.1
    have := iget_nth (j := 1) p9 hd0 (by have := (cV_h hw.1).len; omega)
    rw [Nat.zero_add] at this
    refine (this : iget (S ab) 1 = _).trans ?_
    congr 1
    conv => lhs; rw [List.getElem_of_eq hq]
    rfl
  obtain ⟨g1, g2⟩ := rfoll_l (aa := aa) (ab := ab) (N := (cV pt).length) (r := r) haa.1 hab (by omega) (toL pt.2.2.2) 10000 2 S1 (some (t, none)) 0 pw.kids (f1.2.2.trans h78) (by rw [f1.2.1 12 (by decide) (by decide)]; exact h12) (by rw [f1.1 39 (by decide)]; exact h39) (by rw [f1.1 40 (by decide)]; exact h40) (by rw [f1.1 ab hab]; exact p9) (by rw [f1.1 ab hab]; exact h1) (by rw [f1.1 ab hab]; exact c1) (by omega) (by omega) hs
  rw [e0]
  refine ⟨fun c' hc' => ?_, fun hc' => ?_⟩
  · obtain ⟨S2, l3, c'', ⟨k, q1⟩, q2, q3, q4⟩ := g1 c' hc'
    have f12 := f1.trans q2
    have ho2 : OutV S2 [] := by
      unfold OutV rd
      rw [f12.1 91 (by decide), f12.1 90 (by decide)]
      exact ho
    obtain ⟨S3, j1, j2, j3⟩ := l208_val (ab := ab) (k19 := k) haa.2 ho2 q3
    refine ⟨S3, (q1 : b_getv_l19 aa ab 10000 S1 0 2 = _).trans j1, by rw [← q4]; exact j2, fun a n1 n2 n3 => (j3 a n2 n3).trans (f12.1 a n1), fun k k1 k2 => ?_, ?_⟩
    · have : rd S3 78 k = rd S2 78 k := by unfold rd; rw [j3 78 (by decide) (by decide)]
      rw [this, f12.2.1 k k1 k2]
    · rw [j3 78 (by decide) (by decide), f12.2.2]; exact h78
  · obtain ⟨S2, q1, q2⟩ := g2 hc'
    exact ⟨S2, q1, f1.refd q2⟩
theorem refuse_a {S : SS} (v : Int32) : (v = 0 → a_refuse S v = some (S, 0)) ∧ (v ≠ 0 → a_refuse S v = some (wr S 41 11 v, 4)) := by
  unfold a_refuse
  exact ⟨fun e => by rw [if_pos e], fun e => by rw [if_neg e]⟩
/-- a number that names no register: refused by both, at once -/
theorem InvL.notes {S S' : SS} (h : InvL S) (h1 : ∀ a, a ≠ 78 → a ≠ 90 → a ≠ 101 → S' a = S a) : InvL S' := by
  have d1 : ∀ a ∈ [47, 48, 71, 74, 76, 77, 80, 91, 97, 98, 99, 100, 39, 40], a ≠ 78 ∧ a ≠ 90 ∧ a ≠ 101 := by decide
  exact h.move fun a ha => h1 a (d1 a ha).1 (d1 a ha).2.1 (d1 a ha).2.2
theorem bad_begin {S S1 : SS} (hI : Inv S) (h78 : (S1 78).length = 22) (f1 : ∀ a, a ≠ 78 → a ≠ 90 → S1 a = S a) (f2 : ∀ k, k ≠ 0 → k ≠ 12 → rd S1 78 k = rd S 78 k) : rd (wr S1 78 0 1) 78 0 = 1 ∧ wr S1 78 0 1 0 = S 0 ∧ Inv (wr S1 78 0 1) := by
  refine ⟨rd_wr (by rw [h78]; decide), by rw [wr_ne (by decide), f1 0 (by decide) (by decide)], ?_⟩
  obtain ⟨i1, i2, ⟨tape, i3⟩, ⟨res, i4⟩, ts, dr, ra, i5⟩ := hI
  have o : ∀ a, a ≠ 78 → a ≠ 90 → wr S1 78 0 1 a = S a := fun a n1 n2 => by rw [wr_ne n1, f1 a n1 n2]
  have r : ∀ k, k ≠ 0 → k ≠ 12 → rd (wr S1 78 0 1) 78 k = rd S 78 k := fun k k0 k1 => by rw [rd_wr_j (fun e => k0 e.symm), f2 k k0 k1]
  have e41 : ∀ k, rd (wr S1 78 0 1) 41 k = rd S 41 k := fun k => by unfold rd; rw [o 41 (by decide) (by decide)]
  have d2 : ∀ a ∈ nine, a ≠ 78 ∧ a ≠ 90 := by decide
  exact finA i3 i4 i5 (i1.notes fun a n1 n2 _ => o a n1 n2) ⟨by rw [r 3 (by decide) (by decide), e41]; exact i2.1, by rw [r 4 (by decide) (by decide), e41]; exact i2.2⟩ (o 42 (by decide) (by decide)) (o 79 (by decide) (by decide)) (r 1 (by decide) (by decide)) (o 44 (by decide) (by decide)) (o 92 (by decide) (by decide)) (o 46 (by decide) (by decide)) (e41 9) (fun a ha _ => o a (d2 a ha).1 (d2 a ha).2) (fun r hr => o _ (by omega) (by omega))
theorem op4 : stp4 Inv := by
  intro S p0 p1 p2 hcs hI
  obtain ⟨l78, l41, l90, -, l67, -⟩ := cs.l78 hcs
  obtain ⟨i1, i2, ⟨tape, i3⟩, ⟨res, i4⟩, ts, dr, ra, i5⟩ := id hI
  obtain ⟨g1, g2, g3, g4, g5⟩ := id i5
  have l91 : (S 91).length = 9000 := i1.2.2.2.2.2.2.2.1
  have l80 : (S 80).length = 9000 := i1.2.2.2.2.2.2.1
  have h39 : S 39 = mp_aS := i1.2.2.2.2.2.2.2.2.2.2.2.2.1
  have h40 : S 40 = mp_aE := i1.2.2.2.2.2.2.2.2.2.2.2.2.2
  -- a bad register
  have bad : (¬ (¬ p0 < 0 ∧ p0 < 8) ∨ ¬ (¬ p1 < 0 ∧ p1 < 8) ∨ ¬ (¬ p2 < 0 ∧ p2 < 8)) → ∃ (c : SS × Int32) (w : SS), h_get S p0 p1 p2 = some c ∧ c.1 0 = S 0 ∧ b_get c.1 p0 p1 p2 = some w ∧ rd w 78 0 = c.2 ∧ w 0 = S 0 ∧ Inv w := by
    intro hb
    obtain ⟨S1, b1, b2, b3, b4, b5, b6, b7⟩ := begin_val l78 l90 l91
    obtain ⟨z1, z2, z3⟩ := bad_begin hI b6 b2 b3
    have ea : a_get S p0 p1 p2 = some (S, 2) := by
      unfold a_get
      by_cases h0 : ¬ p0 < 0 ∧ p0 < 8
      · rw [(reg_ok S h0).1, o_bind, if_pos rfl]
        by_cases h1 : ¬ p1 < 0 ∧ p1 < 8
        · rw [(reg_ok S h1).1, o_bind, if_pos rfl]
          have h2 : ¬ (¬ p2 < 0 ∧ p2 < 8) := by
            rcases hb with e | e | e
            · exact absurd h0 e
            · exact absurd h1 e
            · exact e
          rw [(reg_bad S h2).1, o_bind, if_neg (show ¬ (2 : Nat) = 0 by decide)]
        · rw [(reg_bad S h1).1, o_bind, if_neg (show ¬ (2 : Nat) = 0 by decide)]
      · rw [(reg_bad S h0).1, o_bind, if_neg (show ¬ (2 : Nat) = 0 by decide)]
    refine ⟨(S, 1), wr S1 78 0 1, ?_, rfl, ?_, z1, z2, z3⟩
    · unfold h_get; rw [ea, o_bind, if_neg (show ¬ (2 : Nat) = 0 by decide), if_pos rfl]
    · show b_get S p0 p1 p2 = _
      unfold b_get
      rw [b1, o_bind]
      by_cases h0 : ¬ p0 < 0 ∧ p0 < 8
      · rw [(reg_ok S1 h0).2.1, o_bind, if_pos rfl]
        by_cases h1 : ¬ p1 < 0 ∧ p1 < 8
        · rw [(reg_ok S1 h1).2.1, o_bind, if_pos rfl]
          have h2 : ¬ (¬ p2 < 0 ∧ p2 < 8) := by
            rcases hb with e | e | e
            · exact absurd h0 e
            · exact absurd h1 e
            · exact e
          rw [(reg_bad S1 h2).2, o_bind, if_neg (by decide)]
        · rw [(reg_bad S1 h1).2, o_bind, if_neg (by decide)]
      · rw [(reg_bad S1 h0).2, o_bind, if_neg (by decide)]
  by_cases h0 : ¬ p0 < 0 ∧ p0 < 8
  rotate_left
  · exact bad (Or.inl h0)
  by_cases h1 : ¬ p1 < 0 ∧ p1 < 8
  rotate_left
  · exact bad (Or.inr (Or.inl h1))
  by_cases h2 : ¬ p2 < 0 ∧ p2 < 8
  rotate_left
  · exact bad (Or.inr (Or.inr h2))
  obtain ⟨a0, -, n0, hn0, rfl⟩ := reg_ok S h0
  obtain ⟨a1, -, n1, hn1, rfl⟩ := reg_ok S h1
  obtain ⟨a2, -, n2, hn2, rfl⟩ := reg_ok S h2
  have m1 := nine_lt _ (ra_mem g3 g2 hn1)
  have m2 := nine_lt _ (ra_mem g3 g2 hn2)
  have md := nine_lt dr (g3.mem_iff.mp List.mem_cons_self)
  have r1ne : ra.getD n1 0 ≠ dr := ra_ne g3 g2 hn1
  obtain ⟨q1, q1'⟩ := get46 g1 g2 hn1 m1.1
  obtain ⟨q2, q2'⟩ := get46 g1 g2 hn2 m2.1
  obtain ⟨u1, u1'⟩ := get81 n1 hn1
  obtain ⟨u2, u2'⟩ := get81 n2 hn2
  obtain ⟨v1, c1⟩ := reg_vat (g5 n1 hn1)
  obtain ⟨v2, c2⟩ := reg_vat (g5 n2 hn2)
  have k6 := v2.2.2.1.1
  have tk : t_kind (tT S (ra.getD n2 0)) 0 = some (Int32.ofNat (ts n2).1) := v2.kind
  have k5 : Int32.ofNat (ts n2).1 = 5 ↔ (ts n2).1 = 5 := by rw [show (5 : Int32) = Int32.ofNat 5 from rfl, i_inj (by omega) (by omega)]
  -- refused: what both leave
  have refu : ∀ (Sc Sr : SS), fr67 S Sc → (∀ T : SS, (∀ a, a ≠ 41 → a ≠ 67 → T a = S a) → (T 41).length = 12 → rd T 41 11 = 1 → (∀ k, k ≠ 11 → rd T 41 k = rd S 41 k) → (∃ W, b_get T (Int32.ofNat n0) (Int32.ofNat n1) (Int32.ofNat n2) = some W ∧ (∀ a, a ≠ 78 → a ≠ 90 → W a = T a) ∧ rd W 78 0 = 2 ∧ rd W 78 4 = 1 ∧ ∀ k, k ≠ 0 → k ≠ 4 → k ≠ 12 → k ≠ 17 → k ≠ 18 → rd W 78 k = rd T 78 k)) → a_get S (Int32.ofNat n0) (Int32.ofNat n1) (Int32.ofNat n2) = some (wr Sc 41 11 1, 4) → ∃ (c : SS × Int32) (w : SS), h_get S (Int32.ofNat n0) (Int32.ofNat n1) (Int32.ofNat n2) = some c ∧ c.1 0 = S 0 ∧ b_get c.1 (Int32.ofNat n0) (Int32.ofNat n1) (Int32.ofNat n2) = some w ∧ rd w 78 0 = c.2 ∧ w 0 = S 0 ∧ Inv w := by
    intro Sc Sr fc hT ea
    have e41 : Sc 41 = S 41 := fc 41 (by decide)
    have tf : ∀ a, a ≠ 41 → a ≠ 67 → wr Sc 41 11 1 a = S a := fun a x1 x2 => by rw [wr_ne x1, fc a x2]
    have t11 : rd (wr Sc 41 11 1) 41 11 = 1 := rd_wr (by rw [e41, l41]; decide)
    have tk' : ∀ k, k ≠ 11 → rd (wr Sc 41 11 1) 41 k = rd S 41 k := fun k hk => by rw [rd_wr_j (fun e => hk e.symm)]; unfold rd; rw [e41]
    obtain ⟨W, w1, w2, w3, w4, w5⟩ := hT (wr Sc 41 11 1) tf (by rw [wr_len, e41]; exact l41) t11 tk'
    have wf : ∀ a, a ≠ 78 → a ≠ 90 → a ≠ 41 → a ≠ 67 → W a = S a := fun a x1 x2 x3 x4 => (w2 a x1 x2).trans (tf a x3 x4)
    refine ⟨(wr Sc 41 11 1, 2), W, ?_, tf 0 (by decide) (by decide), w1, w3, wf 0 (by decide) (by decide) (by decide) (by decide), ?_⟩
    · unfold h_get; rw [ea, o_bind, if_neg (show ¬ (4 : Nat) = 0 by decide), if_neg (show ¬ (4 : Nat) = 2 by decide), if_pos rfl]
    · have t78 : ∀ k, rd (wr Sc 41 11 1) 78 k = rd S 78 k := fun k => by unfold rd; rw [tf 78 (by decide) (by decide)]
      have W41 : ∀ k, rd W 41 k = rd (wr Sc 41 11 1) 41 k := fun k => by unfold rd; rw [w2 41 (by decide) (by decide)]
      have d1 : ∀ a ∈ [47, 48, 71, 74, 76, 77, 80, 91, 97, 98, 99, 100, 39, 40], a ≠ 78 ∧ a ≠ 90 ∧ a ≠ 41 ∧ a ≠ 67 := by decide
      have d2 : ∀ a ∈ nine, a ≠ 78 ∧ a ≠ 90 ∧ a ≠ 41 ∧ a ≠ 67 := by decide
      exact finA i3 i4 i5 (i1.move fun a ha => wf a (d1 a ha).1 (d1 a ha).2.1 (d1 a ha).2.2.1 (d1 a ha).2.2.2) ⟨by rw [w5 3 (by decide) (by decide) (by decide) (by decide) (by decide), t78, W41, tk' 10 (by decide)]; exact i2.1, fun e => e.elim⟩ (wf 42 (by decide) (by decide) (by decide) (by decide)) (wf 79 (by decide) (by decide) (by decide) (by decide)) (by rw [w5 1 (by decide) (by decide) (by decide) (by decide) (by decide), t78]) (wf 44 (by decide) (by decide) (by decide) (by decide)) (wf 92 (by decide) (by decide) (by decide) (by decide)) (wf 46 (by decide) (by decide) (by decide) (by decide)) (by rw [W41, tk' 9 (by decide)]) (fun a ha _ => wf a (d2 a ha).1 (d2 a ha).2.1 (d2 a ha).2.2.1 (d2 a ha).2.2.2) (fun r hr => wf _ (by omega) (by omega) (by omega) (by omega))
  -- the reference, once the registers are known
  have rb : ∀ T : SS, (∀ a, a ≠ 41 → a ≠ 46 → a ≠ 67 → a ∉ nine → a ≠ 101 → T a = S a) → ∃ T1, (∀ a, a ≠ 78 → a ≠ 90 → T1 a = T a) ∧ (∀ k, k ≠ 0 → k ≠ 12 → rd T1 78 k = rd S 78 k) ∧ rd T1 78 0 = 0 ∧ rd T1 78 12 = 0 ∧ (T1 78).length = 22 ∧ OutV T1 [] ∧ T1 39 = mp_aS ∧ T1 40 = mp_aE ∧ (∀ r, r < 8 → T1 (82 + r) = S (82 + r)) ∧ (T1 80).length = 9000 ∧ b_get T (Int32.ofNat n0) (Int32.ofNat n1) (Int32.ofNat n2) = (if (ts n2).1 = 5 then ((b_getv T1 (82 + n1) (82 + n2)).bind fun r16 => ((b_finish r16 (Int32.ofNat n0) 2 3).bind fun r18 => some r18)) else ((b_refuse T1 1).bind fun r20 => ((b_finish r20 (Int32.ofNat n0) 2 3).bind fun r22 => some r22))) := by
    intro T hT
    have n78 : T 78 = S 78 := hT 78 (by decide) (by decide) (by decide) (by decide) (by decide)
    obtain ⟨T1, b1, b2, b3, b4, b5, b6, b7⟩ := begin_val (S := T) (by rw [n78]; exact l78) (by rw [hT 90 (by decide) (by decide) (by decide) (by decide) (by decide)]; exact l90) (by rw [hT 91 (by decide) (by decide) (by decide) (by decide) (by decide)]; exact l91)
    have d8 : ∀ r, r < 8 → 82 + r ≠ 41 ∧ 82 + r ≠ 46 ∧ 82 + r ≠ 67 ∧ 82 + r ∉ nine ∧ 82 + r ≠ 101 ∧ 82 + r ≠ 78 ∧ 82 + r ≠ 90 := by decide
    have t82 : ∀ r, r < 8 → T1 (82 + r) = S (82 + r) := fun r hr => by
      obtain ⟨x1, x2, x3, x4, x5, x6, x7⟩ := d8 r hr
      rw [b2 _ x6 x7, hT _ x1 x2 x3 x4 x5]
    refine ⟨T1, b2, fun k k0 k1 => by rw [b3 k k0 k1]; unfold rd; rw [n78], b4, b5, b6, b7, by rw [b2 39 (by decide) (by decide), hT 39 (by decide) (by decide) (by decide) (by decide) (by decide)]; exact h39, by rw [b2 40 (by decide) (by decide), hT 40 (by decide) (by decide) (by decide) (by decide) (by decide)]; exact h40, t82, by rw [b2 80 (by decide) (by decide), hT 80 (by decide) (by decide) (by decide) (by decide) (by decide)]; exact l80, ?_⟩
    have ik : iget (T1 (82 + n2)) 0 = some (Int32.ofNat (ts n2).1) := by rw [t82 n2 hn2]; exact c2.kind
    unfold b_get
    rw [b1, o_bind, (reg_ok T1 h0).2.1, o_bind, if_pos rfl, (reg_ok T1 h1).2.1, o_bind, if_pos rfl, (reg_ok T1 h2).2.1, o_bind, if_pos rfl, u2, o_bind, u2', ik, o_bind]
    by_cases e5 : (ts n2).1 = 5
    · rw [if_pos (k5.mpr e5), if_pos e5, u1, o_bind, u1']
    · rw [if_neg (fun q => e5 (k5.mp q)), if_neg e5]
  have hd9 : rd S 41 9 = Int32.ofNat dr := g4
  by_cases e5 : (ts n2).1 = 5
  · have ta : ra.getD n1 0 < 1000 ∧ ra.getD n1 0 ≠ 67 := ⟨m1.1, by omega⟩
    have tb : ra.getD n2 0 ≠ 67 := by omega
    obtain ⟨fo1, fo2⟩ := follow_val (S := S) (t1 := ra.getD n2 0) (q0 := 0) ta tb l67 v1 v2 e5
    have eR : a_refuse S 0 = some (S, 0) := (refuse_a 0).1 rfl
    cases hf : foll (some (ts n1, none)) ((toL (ts n2).2.2.2).map fun m => m.2) with
    | none =>
      obtain ⟨Sc, s1, s2⟩ := fo2 hf
      have s1 : p_follow S (ra.getD n1 0) (ra.getD n2 0) 0 = some (Sc, 1) := s1
      refine refu Sc S s2 (fun T hT hT41 hT11 hTk => ?_) ?_
      · obtain ⟨T1, t1, t2, t3, t4, t5, t6, t7, t8, t9, t10, t11⟩ := rb T fun a x1 _ x3 _ _ => hT a x1 x3
        obtain ⟨-, gv⟩ := getv_val (S := T1) (aa := 82 + n1) (ab := 82 + n2) (by omega) (by omega) t5 t4 t7 t8 t6 (by rw [t9 n1 hn1]; exact c1) (by rw [t9 n2 hn2]; exact c2) e5
        obtain ⟨T2, j1, j2, j3, j4, j5⟩ := gv hf
        obtain ⟨T3, k1, k2, k3, k4, k5'⟩ := finish_ref (Int32.ofNat n0) 2 3 j5 (by rw [j4]; exact t5)
        refine ⟨T3, by rw [t11, if_pos e5, j1, o_bind, k1, o_bind], fun a x1 x2 => by rw [k2 a x1, j2 a x1, t1 a x1 x2], k3, k4, fun k y0 y4 y12 y17 y18 => ?_⟩
        rw [k5' k y0 y4, j3 k y12 y17 y18, t2 k y0 y12]
        unfold rd
        rw [hT 78 (by decide) (by decide)]
      · unfold a_get
        rw [a0, o_bind, if_pos rfl, a1, o_bind, if_pos rfl, a2, o_bind, if_pos rfl, q2, o_bind, q2', tk, o_bind, if_pos (k5.mpr e5), eR, o_bind, if_pos rfl, q1, o_bind, q1', q2, o_bind, q2', s1, o_bind, (refuse_a 1).2 (by decide), o_bind, if_neg (show ¬ (4 : Nat) = 0 by decide)]
    | some c' =>
      obtain ⟨Sc, s1, s2, s3⟩ := fo1 c' hf
      have s1 : p_follow S (ra.getD n1 0) (ra.getD n2 0) 0 = some (Sc, 0) := s1
      have wo := outV_ok s3
      have Sc41 : Sc 41 = S 41 := s2 41 (by decide)
      have d9 : (rd Sc 41 9).toNatClampNeg = dr := by unfold rd; rw [Sc41]; show (rd S 41 9).toNatClampNeg = dr; rw [hd9, i_cl (by omega)]
      have d9' : (rd (up Sc dr [0]) 41 9).toNatClampNeg = dr := by rw [rd_up (by omega)]; exact d9
      have sp2 : spU (up Sc dr [0]) (ra.getD n1 0) c' := by
        have e67 : up Sc dr [0] 67 = Sc 67 := up_ne (by omega)
        have eta : tT (up Sc dr [0]) (ra.getD n1 0) = tT Sc (ra.getD n1 0) := by unfold tT; rw [up_ne r1ne]
        cases c' with
        | none => obtain ⟨it, lo, hi, e⟩ := s3; exact ⟨it, lo, hi, e67.trans e⟩
        | some tw => obtain ⟨t, w⟩ := tw; obtain ⟨q, it, lo, hi, e, x2, x3, x4⟩ := s3; exact ⟨q, it, lo, hi, e67.trans e, by rw [eta]; exact x2, x3, x4⟩
      have wr1 := write_val (S := up Sc dr [0]) (o := dr) ta ⟨fun e => r1ne e.symm, by omega⟩ sp2 up_same
      rw [up_up] at wr1
      obtain ⟨S3, hS3⟩ : ∃ S3, S3 = up Sc dr (pv (bV (outV c'))) := ⟨_, rfl⟩
      rw [← hS3] at wr1
      have f3 : ∀ a, a ≠ 67 → a ≠ dr → S3 a = S a := fun a x1 x2 => by rw [hS3, up_ne x2, s2 a x1]
      have ak := akeep_val (S := S3) (t := outV c') (dr := dr) (ra := ra) (n := n0) wo (by unfold rd; rw [f3 41 (by decide) (by omega)]; exact hd9) (by rw [f3 46 (by decide) (by omega)]; exact g1) g2 g3 (by rw [hS3, up_same]) hn0
      have eA : ∀ X : SS × Nat, a_keep S3 (Int32.ofNat n0) = some X → a_get S (Int32.ofNat n0) (Int32.ofNat n1) (Int32.ofNat n2) = if X.2 = 0 then some (X.1, 0) else some (X.1, X.2) := by
        intro X hX
        unfold a_get
        rw [a0, o_bind, if_pos rfl, a1, o_bind, if_pos rfl, a2, o_bind, if_pos rfl, q2, o_bind, q2', tk, o_bind, if_pos (k5.mpr e5), eR, o_bind, if_pos rfl, q1, o_bind, q1', q2, o_bind, q2', s1, o_bind, (refuse_a 0).1 rfl, o_bind, if_pos rfl, d9, d9', wr1, o_bind, hX, o_bind]
      -- the reference's half, on what the class left
      have rs : ∀ T : SS, (∀ a, a ≠ 41 → a ≠ 46 → a ≠ 67 → a ∉ nine → a ≠ 101 → T a = S a) → ∃ T2, b_get T (Int32.ofNat n0) (Int32.ofNat n1) (Int32.ofNat n2) = ((b_finish T2 (Int32.ofNat n0) 2 3).bind fun r18 => some r18) ∧ (∀ a, a ≠ 78 → a ≠ 90 → a ≠ 91 → T2 a = T a) ∧ (∀ k, k ≠ 0 → k ≠ 12 → k ≠ 17 → k ≠ 18 → rd T2 78 k = rd S 78 k) ∧ rd T2 78 0 = 0 ∧ rd T2 78 12 = 0 ∧ (T2 78).length = 22 ∧ OutV T2 (cV (outV c')) ∧ (T2 80).length = 9000 ∧ (T2 (82 + n0)).length = 9000 := by
        intro T hT
        obtain ⟨T1, t1, t2, t3, t4, t5, t6, t7, t8, t9, t10, t11⟩ := rb T hT
        obtain ⟨gv, -⟩ := getv_val (S := T1) (aa := 82 + n1) (ab := 82 + n2) (by omega) (by omega) t5 t4 t7 t8 t6 (by rw [t9 n1 hn1]; exact c1) (by rw [t9 n2 hn2]; exact c2) e5
        obtain ⟨T2, j1, j2, j3, j4, j5⟩ := gv c' hf
        refine ⟨T2, by rw [t11, if_pos e5, j1, o_bind], fun a x1 x2 x3 => by rw [j3 a x1 x2 x3, t1 a x1 x2], fun k y0 y12 y17 y18 => by rw [j4 k y17 y18, t2 k y0 y12], by rw [j4 0 (by decide) (by decide)]; exact t3, by rw [j4 12 (by decide) (by decide)]; exact t4, j5, j2, by rw [j3 80 (by decide) (by decide) (by decide)]; exact t10, ?_⟩
        rw [j3 _ (by omega) (by omega) (by omega), t9 n0 hn0]
        exact (g5 n0 hn0).2.2.2.2.1
      have n9 : ∀ a, a ∉ nine → a ≠ dr := fun a ha e => ha (e ▸ g3.mem_iff.mp List.mem_cons_self)
      by_cases hg : good (outV c')
      · rw [if_pos hg] at ak
        obtain ⟨Sg, hSg⟩ : ∃ Sg, Sg = wr (up S3 46 ((ra.set n0 dr).map Int32.ofNat)) 41 9 (Int32.ofNat (ra.getD n0 0)) := ⟨_, rfl⟩
        rw [← hSg] at ak
        have fg : ∀ a, a ≠ 41 → a ≠ 46 → a ≠ 67 → a ≠ dr → Sg a = S a := fun a x1 x2 x3 x4 => by rw [hSg, wr_ne x1, up_ne x2, f3 a x3 x4]
        obtain ⟨T2, w1, w2, w3, w4, w5, w6, w7, w8, w9⟩ := rs Sg fun a x1 x2 x3 x4 _ => fg a x1 x2 x3 (n9 a x4)
        obtain ⟨fv, -⟩ := finish_val (t := outV c') 2 3 hn0 w5 w4 w6 wo w7 w8 w9
        obtain ⟨W, z1, z2, z3, z4, z5⟩ := fv hg
        have Wf : ∀ a, a ≠ 80 → a ≠ 94 → a ≠ 82 + n0 → a ≠ 78 → a ≠ 90 → a ≠ 91 → W a = Sg a := fun a x1 x2 x3 x4 x5 x6 => by rw [z2 a x1 x2 x3, w2 a x4 x5 x6]
        have W78 : ∀ k, rd W 78 k = rd T2 78 k := fun k => by unfold rd; rw [z2 78 (by decide) (by decide) (by omega)]
        have g41 : ∀ k, k ≠ 9 → rd Sg 41 k = rd S 41 k := fun k hk => by rw [hSg, rd_wr_j (fun e => hk e.symm), rd_up (by decide)]; unfold rd; rw [f3 41 (by decide) (by omega)]
        have W41 : ∀ k, rd W 41 k = rd Sg 41 k := fun k => by unfold rd; rw [Wf 41 (by decide) (by decide) (by omega) (by decide) (by decide) (by decide)]
        have g419 : rd Sg 41 9 = Int32.ofNat (ra.getD n0 0) := by rw [hSg, rd_wr (by rw [up_ne (by decide), f3 41 (by decide) (by omega), l41]; decide)]
        have WS : ∀ a, a ≠ 80 → a ≠ 94 → a ≠ 82 + n0 → a ≠ 78 → a ≠ 90 → a ≠ 91 → a ≠ 41 → a ≠ 46 → a ≠ 67 → a ≠ dr → W a = S a := fun a x1 x2 x3 x4 x5 x6 x7 x8 x9 x10 => (Wf a x1 x2 x3 x4 x5 x6).trans (fg a x7 x8 x9 x10)
        refine ⟨(Sg, 0), W, ?_, fg 0 (by decide) (by decide) (by decide) (by omega), ?_, ?_, WS 0 (by decide) (by decide) (by omega) (by decide) (by decide) (by decide) (by decide) (by decide) (by decide) (by omega), ?_⟩
        · unfold h_get; rw [eA _ ak, if_pos rfl, o_bind, if_pos rfl]
        · show b_get Sg _ _ _ = _
          rw [w1, z1, o_bind]
        · show rd W 78 0 = 0
          rw [W78, w4]
        · obtain ⟨y1, y2, y3, y4, y5, y6, y7, y8, y9, y10, y11, y12, y13, y14⟩ := i1
          have K : ∀ a, a ∈ [47, 48, 71, 74, 76, 77, 97, 98, 99, 100, 39, 40, 42, 79, 44, 92] → W a = S a := fun a ha => by
            have d : ∀ a ∈ [47, 48, 71, 74, 76, 77, 97, 98, 99, 100, 39, 40, 42, 79, 44, 92], a ≠ 80 ∧ a ≠ 94 ∧ (a < 82 ∨ 89 < a) ∧ a ≠ 78 ∧ a ≠ 90 ∧ a ≠ 91 ∧ a ≠ 41 ∧ a ≠ 46 ∧ a ≠ 67 ∧ a ∉ nine := by decide
            obtain ⟨x1, x2, x3, x4, x5, x6, x7, x8, x9, x10⟩ := d a ha
            exact WS a x1 x2 (by omega) x4 x5 x6 x7 x8 x9 (n9 a x10)
          have W91 : (W 91).length = 9000 := by rw [z2 91 (by decide) (by decide) (by omega)]; exact w7.1
          have W46 : W 46 = (ra.set n0 dr).map Int32.ofNat := by rw [Wf 46 (by decide) (by decide) (by omega) (by decide) (by decide) (by decide), hSg, wr_ne (by decide), up_same]
          have Wd : W dr = 0 :: bV (outV c') := by rw [Wf dr (by omega) (by omega) (by omega) (by omega) (by omega) (by omega), hSg, wr_ne (by omega), up_ne (by omega), hS3, up_same, pv_fit hg.1]
          have d2 : ∀ a ∈ nine, a ≠ 80 ∧ a ≠ 94 ∧ a < 82 ∧ a ≠ 78 ∧ a ≠ 90 ∧ a ≠ 91 ∧ a ≠ 41 ∧ a ≠ 46 ∧ a ≠ 67 := by decide
          refine finB i3 i4 i5 hn0 wo hg ⟨by unfold rd; rw [K 47 (by decide)]; exact y1, by rw [K 48 (by decide)]; exact y2, by rw [K 71 (by decide)]; exact y3, by rw [K 74 (by decide)]; exact y4, by rw [K 76 (by decide)]; exact y5, by rw [K 77 (by decide)]; exact y6, z3, W91, by rw [K 97 (by decide)]; exact y9, by rw [K 98 (by decide)]; exact y10, by rw [K 99 (by decide)]; exact y11, by rw [K 100 (by decide)]; exact y12, (K 39 (by decide)).trans y13, (K 40 (by decide)).trans y14⟩ ⟨?_, ?_⟩ (K 42 (by decide)) (K 79 (by decide)) ?_ (K 44 (by decide)) (K 92 (by decide)) W46 ?_ (fun a ha hne => ?_) Wd (fun r hr hne => ?_) ⟨z4, z5⟩
          · rw [W78, w3 3 (by decide) (by decide) (by decide) (by decide), W41, g41 10 (by decide)]; exact i2.1
          · rw [W78, w3 4 (by decide) (by decide) (by decide) (by decide), W41, g41 11 (by decide)]; exact i2.2
          · rw [W78, w3 1 (by decide) (by decide) (by decide) (by decide)]
          · rw [W41, g419]
          · obtain ⟨x1, x2, x3, x4, x5, x6, x7, x8, x9⟩ := d2 a ha
            exact WS a x1 x2 (by omega) x4 x5 x6 x7 x8 x9 hne
          · exact WS _ (by omega) (by omega) (by omega) (by omega) (by omega) (by omega) (by omega) (by omega) (by omega) (by omega)
      · rw [if_neg hg] at ak
        obtain ⟨T2, w1, w2, w3, w4, w5, w6, w7, w8, w9⟩ := rs S3 fun a x1 x2 x3 x4 _ => f3 a x3 (n9 a x4)
        obtain ⟨-, fv⟩ := finish_val (t := outV c') 2 3 hn0 w5 w4 w6 wo w7 w8 w9
        obtain ⟨W, z1, z2, z3, z4, z5⟩ := fv hg
        have WS : ∀ a, a ≠ 80 → a ≠ 94 → a ≠ 78 → a ≠ 90 → a ≠ 91 → a ≠ 67 → a ≠ dr → W a = S a := fun a x1 x2 x3 x4 x5 x6 x7 => by rw [z2 a x1 x2 x3, w2 a x3 x4 x5, f3 a x6 x7]
        have W41 : ∀ k, rd W 41 k = rd S 41 k := fun k => by unfold rd; rw [WS 41 (by decide) (by decide) (by decide) (by decide) (by decide) (by decide) (by omega)]
        have W78 : ∀ k, k ≠ 0 → k ≠ 12 → k ≠ 17 → k ≠ 18 → rd W 78 k = rd S 78 k := fun k x0 x1 x2 x3 => by rw [z5 k x0, w3 k x0 x1 x2 x3]
        refine ⟨(S3, 3), W, ?_, f3 0 (by decide) (by omega), ?_, z4, WS 0 (by decide) (by decide) (by decide) (by decide) (by decide) (by decide) (by omega), ?_⟩
        · unfold h_get; rw [eA _ ak, if_neg (show ¬ (1 : Nat) = 0 by decide), o_bind, if_neg (show ¬ (1 : Nat) = 0 by decide), if_neg (show ¬ (1 : Nat) = 2 by decide), if_neg (show ¬ (1 : Nat) = 4 by decide), if_pos rfl]
        · show b_get S3 _ _ _ = _
          rw [w1, z1, o_bind]
        · obtain ⟨y1, y2, y3, y4, y5, y6, y7, y8, y9, y10, y11, y12, y13, y14⟩ := i1
          have K : ∀ a, a ∈ [47, 48, 71, 74, 76, 77, 97, 98, 99, 100, 39, 40, 42, 79, 44, 92, 46] → W a = S a := fun a ha => by
            have d : ∀ a ∈ [47, 48, 71, 74, 76, 77, 97, 98, 99, 100, 39, 40, 42, 79, 44, 92, 46], a ≠ 80 ∧ a ≠ 94 ∧ a ≠ 78 ∧ a ≠ 90 ∧ a ≠ 91 ∧ a ≠ 67 ∧ a ∉ nine := by decide
            obtain ⟨x1, x2, x4, x5, x6, x9, x10⟩ := d a ha
            exact WS a x1 x2 x4 x5 x6 x9 (n9 a x10)
          have W91 : (W 91).length = 9000 := by rw [z2 91 (by decide) (by decide) (by decide)]; exact w7.1
          have d2 : ∀ a ∈ nine, a ≠ 80 ∧ a ≠ 94 ∧ a ≠ 78 ∧ a ≠ 90 ∧ a ≠ 91 ∧ a ≠ 67 := by decide
          exact finA i3 i4 i5 ⟨by unfold rd; rw [K 47 (by decide)]; exact y1, by rw [K 48 (by decide)]; exact y2, by rw [K 71 (by decide)]; exact y3, by rw [K 74 (by decide)]; exact y4, by rw [K 76 (by decide)]; exact y5, by rw [K 77 (by decide)]; exact y6, z3, W91, by rw [K 97 (by decide)]; exact y9, by rw [K 98 (by decide)]; exact y10, by rw [K 99 (by decide)]; exact y11, by rw [K 100 (by decide)]; exact y12, (K 39 (by decide)).trans y13, (K 40 (by decide)).trans y14⟩ ⟨by rw [W78 3 (by decide) (by decide) (by decide) (by decide), W41]; exact i2.1, by rw [W78 4 (by decide) (by decide) (by decide) (by decide), W41]; exact i2.2⟩ (K 42 (by decide)) (K 79 (by decide)) (W78 1 (by decide) (by decide) (by decide) (by decide)) (K 44 (by decide)) (K 92 (by decide)) (K 46 (by decide)) (W41 9) (fun a ha hne => WS a (d2 a ha).1 (d2 a ha).2.1 (d2 a ha).2.2.1 (d2 a ha).2.2.2.1 (d2 a ha).2.2.2.2.1 (d2 a ha).2.2.2.2.2 hne) (fun r hr => WS _ (by omega) (by omega) (by omega) (by omega) (by omega) (by omega) (by omega))
  · refine refu S S (fun _ _ => rfl) (fun T hT hT41 hT11 hTk => ?_) ?_
    · obtain ⟨T1, t1, t2, t3, t4, t5, t6, t7, t8, t9, t10, t11⟩ := rb T fun a x1 _ x3 _ _ => hT a x1 x3
      obtain ⟨T2, j1, j2, j3, j4, j5⟩ := refuse_val t5 t4
      have j1 : b_refuse T1 1 = some T2 := by
        cases hb : b_refuse T1 1 with
        | none => rw [hb] at j1; cases j1
        | some x => rw [hb, o_bind] at j1; exact j1
      obtain ⟨T3, k1, k2, k3, k4, k5'⟩ := finish_ref (Int32.ofNat n0) 2 3 j5 (by rw [j4]; exact t5)
      refine ⟨T3, by rw [t11, if_neg e5, j1, o_bind, k1, o_bind], fun a x1 x2 => by rw [k2 a x1, j2 a x1, t1 a x1 x2], k3, k4, fun k y0 y4 y12 y17 y18 => ?_⟩
      rw [k5' k y0 y4, j3 k y12 y17 y18, t2 k y0 y12]
      unfold rd
      rw [hT 78 (by decide) (by decide)]
    · unfold a_get
      rw [a0, o_bind, if_pos rfl, a1, o_bind, if_pos rfl, a2, o_bind, if_pos rfl, q2, o_bind, q2', tk, o_bind, if_neg (fun q => e5 (k5.mp q)), (refuse_a 1).2 (by decide), o_bind, if_neg (show ¬ (4 : Nat) = 0 by decide)]
end Get139
end

section
/-! Strings compared by the class. -/
section OStr140
theorem char_end {us r : List Int32} {p : Nat} (hl : us.length ≤ 4096) (h : us.drop p = 34 :: r) : t_char us (Int32.ofNat p) = some (-1) := by
  unfold t_char
  rw [drop_at hl h, if_pos rfl]
theorem ch_ne {c : Int32} (h : 0 ≤ c ∧ c ≤ 127) : c ≠ -1 := by
  intro e
  rw [e] at h
  exact absurd h.1 (by decide)
theorem icmp_ch {c d : Int32} (h1 : 0 ≤ c ∧ c ≤ 127) (h2 : 0 ≤ d ∧ d ≤ 127) (hn : c ≠ d) : i_cmp c d = if d ≤ c then 1 else -1 := by
  unfold i_cmp
  by_cases h : d ≤ c
  · rw [if_pos h, if_neg hn, if_pos h]
  · rw [if_neg h, if_neg h]
theorem icmp_end {c : Int32} (h : 0 ≤ c ∧ c ≤ 127) : i_cmp (-1) c = -1 ∧ i_cmp c (-1) = 1 := by
  obtain ⟨n, hn, rfl⟩ := ch_of h
  have : ∀ n, n < 128 → i_cmp (-1) (Int32.ofNat n) = -1 ∧ i_cmp (Int32.ofNat n) (-1) = 1 := by decide +kernel
  exact this n hn
theorem ostr_l {S : SS} {t0 t1 : Nat} {r r' : List Int32} (hu : (tT S t0).length ≤ 4096) (hv : (tT S t1).length ≤ 4096) : ∀ (s s' : List Int32) (n i j k : Nat), okS s → okS s' → (tT S t0).drop i = s.flatMap esc ++ 34 :: r → (tT S t1).drop j = s'.flatMap esc ++ 34 :: r' → s.length < n → k + 1 ≤ i → o_str_l13 S t0 t1 n (Int32.ofNat i) (Int32.ofNat j) (Int32.ofNat k) = some (cmpS s s') := by
  intro s
  induction s with
  | nil =>
    intro s' n i j k h1 h2 d1 d2 hn hk
    have l1 := drop_len (w := [34]) d1 (by simp)
    simp only [List.length_cons, List.length_nil] at l1
    cases n with
    | zero => omega
    | succ n =>
      have e4 : ¬ (4096 : Int32) ≤ Int32.ofNat k := by rw [show (4096 : Int32) = Int32.ofNat 4096 from rfl, i_le' (by omega) (by omega)]; omega
      unfold o_str_l13
      rw [if_neg e4, char_end hu d1, o_bind]
      cases s' with
      | nil =>
        rw [char_end hv d2, o_bind, if_pos rfl, if_pos rfl]
        rfl
      | cons c' s' =>
        have hc := h2 c' List.mem_cons_self
        rw [List.flatMap_cons, List.append_assoc] at d2
        rw [(esc_char hv hc d2).2, o_bind, if_neg (fun e => ch_ne hc e.symm), (icmp_end hc).1]
        rfl
  | cons c s ih =>
    intro s' n i j k h1 h2 d1 d2 hn hk
    have hc := h1 c List.mem_cons_self
    rw [List.flatMap_cons, List.append_assoc] at d1
    obtain ⟨x, y, e, hx⟩ := esc_hd hc
    have l1 := drop_len d1 (by rw [e]; simp)
    have l2 : 0 < (esc c).length := by rw [e]; simp
    simp only [List.length_append, List.length_cons] at l1
    cases n with
    | zero => omega
    | succ n =>
      have e4 : ¬ (4096 : Int32) ≤ Int32.ofNat k := by rw [show (4096 : Int32) = Int32.ofNat 4096 from rfl, i_le' (by omega) (by omega)]; omega
      unfold o_str_l13
      rw [if_neg e4, (esc_char hu hc d1).2, o_bind]
      cases s' with
      | nil =>
        rw [char_end hv d2, o_bind, if_neg (ch_ne hc), (icmp_end hc).2]
        rfl
      | cons c' s' =>
        have hc' := h2 c' List.mem_cons_self
        rw [List.flatMap_cons, List.append_assoc] at d2
        rw [(esc_char hv hc' d2).2, o_bind]
        unfold cmpS
        by_cases q : c = c'
        · subst q
          rw [if_pos rfl, if_neg (ch_ne hc), (esc_char hu hc d1).1, o_bind, (esc_char hv hc d2).1, o_bind, if_pos rfl, ← Int32.ofNat_add, ← Int32.ofNat_add, i_a1]
          exact ih s' n _ _ (k + 1) (fun z hz => h1 z (List.mem_cons_of_mem _ hz)) (fun z hz => h2 z (List.mem_cons_of_mem _ hz)) (drop_more d1) (drop_more d2) (by simp only [List.length_cons] at hn; omega) (by omega)
        · rw [if_neg q, if_neg q, icmp_ch hc hc' q]
/-- the class compares two printed strings -/
theorem ostr_val {S : SS} {t0 t1 p q : Nat} {s s' r r' : List Int32} (hu : (tT S t0).length ≤ 4096) (hv : (tT S t1).length ≤ 4096) (h1 : okS s) (h2 : okS s') (d1 : (tT S t0).drop p = pstr s ++ r) (d2 : (tT S t1).drop q = pstr s' ++ r') : o_str S t0 t1 (Int32.ofNat p) (Int32.ofNat q) = some (cmpS s s') := by
  have l1 := drop_len d1 (by simp [pstr])
  have l2 : (pstr s).length = (s.flatMap esc).length + 2 := by simp [pstr]
  have l3 := flat_len h1
  have e1 := drop_more (w := [34]) (r := s.flatMap esc ++ 34 :: r) (by rw [d1, pstr]; simp)
  have e2 := drop_more (w := [34]) (r := s'.flatMap esc ++ 34 :: r') (by rw [d2, pstr]; simp)
  unfold o_str
  rw [i_a1, i_a1]
  exact ostr_l hu hv s s' 10000 (p + 1) (q + 1) 0 h1 h2 e1 e2 (by omega) (by omega)
end OStr140
end

section
/-! A place's number, printed by the class. -/
section Place141
theorem i_div {a b : Nat} (ha : a < 2147483648) (hb : b < 2147483648) : Int32.ofNat a / Int32.ofNat b = Int32.ofNat (a / b) := by
  have hle : a / b ≤ a := Nat.div_le_self a b
  apply Int32.toInt_inj.mp
  have e : ((a : Int)).tdiv (b : Int) = ((a / b : Nat) : Int) := (Int.ofNat_tdiv a b).symm
  have hx : a / b < 2147483648 := by omega
  rw [Int32.toInt_div, i_of (by omega), i_of (by omega), i_of hx, e]
  generalize a / b = x at hx
  rw [Int.bmod_def]
  omega
theorem dig_255 : ∀ d, d < 10 → (Int32.ofNat (48 + d)) &&& 255 = Int32.ofNat (48 + d) := by decide +kernel
theorem i_mod10 {w : Nat} (h : w < 100000) : 48 + (Int32.ofNat w - Int32.ofNat w / 10 * 10) = Int32.ofNat (48 + w % 10) := by
  rw [show (10 : Int32) = Int32.ofNat 10 from rfl, i_div (by omega) (by omega), ← Int32.ofNat_mul]
  have e : Int32.ofNat w - Int32.ofNat (w / 10 * 10) = Int32.ofNat (w % 10) := by
    apply Int32.toInt_inj.mp
    have a1 : (Int32.ofNat w).toInt = w := i_of (by omega)
    have a2 : (Int32.ofNat (w / 10 * 10)).toInt = ((w / 10 * 10 : Nat) : Int) := i_of (by omega)
    rw [i_sub (by rw [a1, a2]; omega) (by rw [a1, a2]; omega), a1, a2, i_of (by omega)]
    omega
  rw [e, show (48 : Int32) = Int32.ofNat 48 from rfl, ← Int32.ofNat_add]
/-- so many digits -/
def dg : Nat → Nat → List Int32
  | 0, v => [Int32.ofNat (48 + v % 10)]
  | k + 1, v => Int32.ofNat (48 + (v / 10 ^ (k + 1)) % 10) :: dg k v
theorem dg_s : ∀ (k v : Nat), dg (k + 1) v = dg k (v / 10) ++ [Int32.ofNat (48 + v % 10)] := by
  intro k
  induction k with
  | zero => intro v; simp [dg]
  | succ k ih =>
    intro v
    show Int32.ofNat (48 + (v / 10 ^ (k + 2)) % 10) :: dg (k + 1) v = (Int32.ofNat (48 + (v / 10 / 10 ^ (k + 1)) % 10) :: dg k (v / 10)) ++ _
    rw [ih v, Nat.div_div_eq_div_mul, show 10 * 10 ^ (k + 1) = 10 ^ (k + 2) by rw [Nat.pow_succ 10 (k + 1)]; omega]
    rfl
theorem dg_F : ∀ (k n v : Nat), k < n → v < 10 ^ (k + 1) → (k = 0 ∨ 10 ^ k ≤ v) → dg k v = digF n v := by
  intro k
  induction k with
  | zero =>
    intro n v hn hv _
    cases n with
    | zero => omega
    | succ n =>
      unfold dg digF
      rw [if_pos (by simpa using hv), Nat.mod_eq_of_lt (by simpa using hv)]
  | succ k ih =>
    intro n v hn hv hk
    have hk : 10 ^ (k + 1) ≤ v := hk.resolve_left (by omega)
    have h1 : 1 ≤ 10 ^ k := Nat.one_le_pow _ _ (by decide)
    have e1 : 10 ^ (k + 1) = 10 ^ k * 10 := Nat.pow_succ ..
    have e2 : 10 ^ (k + 1 + 1) = 10 ^ (k + 1) * 10 := Nat.pow_succ ..
    cases n with
    | zero => omega
    | succ n =>
      rw [dg_s]
      unfold digF
      rw [if_neg (by omega), ih n (v / 10) (by omega) (by omega) (Or.inr (by omega))]
theorem lplace31 {o : Nat} {k4 : SS → Int32 → Int32 → Int32 → Option SS} {v : Nat} (hv : v < 100000) : ∀ (k n : Nat) (S : SS) (B : List Int32), k ≤ 4 → k + 1 < n → l_place_l31 o k4 n (up S o (pv B)) (Int32.ofNat v) (Int32.ofNat (10 ^ k)) = some (up S o (pv (B ++ dg k v))) := by
  intro k
  have pw : ∀ k, k ≤ 4 → 1 ≤ 10 ^ k ∧ 10 ^ k ≤ 10000 := fun k hk => ⟨Nat.one_le_pow _ _ (by decide), Nat.le_trans (Nat.pow_le_pow_right (by decide) hk) (by decide)⟩
  have st : ∀ (k n : Nat) (S : SS) (B : List Int32), k ≤ 4 → l_place_l31 o k4 (n + 1) (up S o (pv B)) (Int32.ofNat v) (Int32.ofNat (10 ^ k)) = l_place_l31 o k4 n (up S o (pv (B ++ [Int32.ofNat (48 + (v / 10 ^ k) % 10)]))) (Int32.ofNat v) (Int32.ofNat (10 ^ k / 10)) := by
    intro k n S B hk
    obtain ⟨p1, p2⟩ := pw k hk
    have hle : v / 10 ^ k ≤ v := Nat.div_le_self _ _
    show (if Int32.ofNat (10 ^ k) ≤ 0 then _ else _) = _
    rw [if_neg (by rw [show (0 : Int32) = Int32.ofNat 0 from rfl, i_le' (by omega) (by omega)]; omega), if_neg (by rw [show (0 : Int32) = Int32.ofNat 0 from rfl, i_inj (by omega) (by omega)]; omega), i_div (by omega) (by omega), i_mod10 (by omega), sput_pv, dig_255 _ (Nat.mod_lt _ (by decide)), show (10 : Int32) = Int32.ofNat 10 from rfl, i_div (by omega) (by omega)]
  induction k with
  | zero =>
    intro n S B _ hn
    obtain ⟨n, rfl⟩ : ∃ m, n = m + 1 + 1 := ⟨n - 2, by omega⟩
    rw [st 0 (n + 1) S B (by decide)]
    show (if Int32.ofNat (10 ^ 0 / 10) ≤ 0 then some _ else _) = _
    rw [if_pos (by decide)]
    simp [dg]
  | succ k ih =>
    intro n S B hk hn
    obtain ⟨n, rfl⟩ : ∃ m, n = m + 1 := ⟨n - 1, by omega⟩
    rw [st (k + 1) n S B hk, show 10 ^ (k + 1) / 10 = 10 ^ k by rw [Nat.pow_succ]; omega, ih n S _ (by omega) (by omega), List.append_assoc]
    rfl
theorem lplace4 {o : Nat} {v : Nat} (hv : v < 10000) : ∀ (j n k : Nat) (S : SS) (B : List Int32), k + j = 3 → j < n → (k = 0 ∨ 10 ^ k ≤ v) → l_place_l4 o n (up S o (pv B)) (Int32.ofNat v) (Int32.ofNat (10 ^ k)) (Int32.ofNat (k + 1)) = some (up S o (pv (B ++ digF 20 v))) := by
  intro j
  have pw : ∀ k, k ≤ 4 → 1 ≤ 10 ^ k ∧ 10 ^ k ≤ 10000 := fun k hk => ⟨Nat.one_le_pow _ _ (by decide), Nat.le_trans (Nat.pow_le_pow_right (by decide) hk) (by decide)⟩
  induction j with
  | zero =>
    intro n k S B hk hn h
    obtain ⟨n, rfl⟩ : ∃ m, n = m + 1 := ⟨n - 1, by omega⟩
    have : k = 3 := by omega
    subst this
    have hd : v / 10 ^ 3 < 10 := by omega
    show (if (10 : Int32) ≤ Int32.ofNat (3 + 1) then _ else _) = _
    rw [if_neg (by decide), if_neg (by decide), i_div (by omega) (by decide), if_pos (by rw [show (10 : Int32) = Int32.ofNat 10 from rfl, i_lt' (by omega) (by omega)]; exact hd), lplace31 (by omega) 3 10000 S B (by decide) (by decide), dg_F 3 20 v (by decide) (by omega) h]
  | succ j ih =>
    intro n k S B hk hn h
    obtain ⟨n, rfl⟩ : ∃ m, n = m + 1 := ⟨n - 1, by omega⟩
    obtain ⟨p1, p2⟩ := pw k (by omega)
    have hle : v / 10 ^ k ≤ v := Nat.div_le_self _ _
    show (if (10 : Int32) ≤ Int32.ofNat (k + 1) then _ else _) = _
    rw [if_neg (by rw [show (10 : Int32) = Int32.ofNat 10 from rfl, i_le' (by omega) (by omega)]; omega), if_neg (by rw [show (0 : Int32) = Int32.ofNat 0 from rfl, i_inj (by omega) (by omega)]; omega), i_div (by omega) (by omega)]
    have hp : 10 ^ (k + 1) = 10 ^ k * 10 := Nat.pow_succ ..
    by_cases hd : v / 10 ^ k < 10
    · have hv2 : v < 10 ^ (k + 1) := by rw [hp]; have := (Nat.div_lt_iff_lt_mul (by omega)).mp hd; omega
      rw [if_pos (by rw [show (10 : Int32) = Int32.ofNat 10 from rfl, i_lt' (by omega) (by omega)]; exact hd), lplace31 (by omega) k 10000 S B (by omega) (by omega), dg_F k 20 v (by omega) hv2 h]
    · have hv2 : 10 ^ (k + 1) ≤ v := by rw [hp]; have := (Nat.le_div_iff_mul_le (by omega)).mp (show 10 ≤ v / 10 ^ k by omega); omega
      rw [if_neg (by rw [show (10 : Int32) = Int32.ofNat 10 from rfl, i_lt' (by omega) (by omega)]; exact hd), show (10 : Int32) = Int32.ofNat 10 from rfl, ← Int32.ofNat_mul, i_a1, ← hp]
      exact ih n (k + 1) S B (by omega) (by omega) (Or.inr hv2)
/-- a place printed -/
theorem lplace_val {o v : Nat} (hv : v < 10000) (S : SS) (B : List Int32) : l_place (up S o (pv B)) o (Int32.ofNat v) = some (up S o (pv (B ++ digF 20 v))) :=
  lplace4 hv 3 10000 0 S B rfl (by decide) (Or.inl rfl)
end Place141
end

section
/-! A path, printed by the class's Lister. -/
section Path142
/-- a step, as a value -/
def stN (s : List Int32) : Vl := (4, 0, s, .leaf)
def stI (k : Nat) : Vl := (3, (k : Int), [], .leaf)
/-- step i of the Lister's rows -/
def stC (S : SS) (us : List Int32) (i : Nat) (x : Vl) : Prop := (∃ k, x = stI k ∧ k < 4096 ∧ iget (S 76) (Int32.ofNat i) = some (-1) ∧ iget (S 77) (Int32.ofNat i) = some (Int32.ofNat k)) ∨ ∃ s q r, x = stN s ∧ okS s ∧ iget (S 76) (Int32.ofNat i) = some (Int32.ofNat q) ∧ us.drop q = pstr s ++ 58 :: r
def pathT (st : List Vl) : Vl := (5, 0, [], ofL (st.map fun x => ([], x)))
theorem pathT_b (st : List Vl) : bV (pathT st) = 91 :: (jn (st.map bV) ++ [93]) := by
  show 91 :: (bF false (ofL _) ++ [93]) = _
  rw [bF_ofL, List.map_map]
  rfl
theorem stI_b (k : Nat) : bV (stI k) = digF 20 k := by
  show pnum (k : Int) = _
  unfold pnum
  rw [if_neg (by omega)]
  rfl
def tlv (st : List Vl) : List Int32 := if st = [] then [] else 44 :: jn (st.map bV)
theorem jn_v (x : Vl) (st : List Vl) : jn ((x :: st).map bV) = bV x ++ tlv st := by
  unfold tlv
  cases st with
  | nil => simp [jn]
  | cons y st => simp only [List.map_cons, jn, reduceCtorEq, if_false]
theorem tlv_c (x : Vl) (st : List Vl) : tlv (x :: st) = 44 :: (bV x ++ tlv st) := by
  show (if x :: st = [] then _ else _) = _
  rw [if_neg (by simp), jn_v]
theorem path_l {S0 : SS} {o ta : Nat} {us : List Int32} {d : Nat} (hus : tT S0 ta = us) (hl : us.length ≤ 4096) (hA : asc us) (ho : o ≠ ta ∧ o ≠ 75 ∧ o ≠ 76 ∧ o ≠ 77) (h3 : (rd S0 75 3).toNatClampNeg = o) (h2 : (rd S0 75 2).toNatClampNeg = ta) (hd60 : d ≤ 60) : ∀ (st : List Vl) (n k : Nat) (B : List Int32), (∀ i (h : i < st.length), stC S0 us (k + i) st[i]) → k + st.length = d → st.length < n → l_path_l11 n (up S0 o (pv B)) (Int32.ofNat d) (Int32.ofNat k) = some (up S0 o (pv (B ++ ((if k = 0 then jn (st.map bV) else tlv st) ++ [93])))) := by
  intro st
  have r3 : ∀ B, (rd (up S0 o (pv B)) 75 3).toNatClampNeg = o := fun B => by rw [rd_up (fun e => ho.2.1 e.symm)]; exact h3
  have r2 : ∀ B, (rd (up S0 o (pv B)) 75 2).toNatClampNeg = ta := fun B => by rw [rd_up (fun e => ho.2.1 e.symm)]; exact h2
  have e76 : ∀ B, up S0 o (pv B) 76 = S0 76 := fun B => up_ne (fun e => ho.2.2.1 e.symm)
  have e77 : ∀ B, up S0 o (pv B) 77 = S0 77 := fun B => up_ne (fun e => ho.2.2.2 e.symm)
  have et : ∀ B, tT (up S0 o (pv B)) ta = us := fun B => by unfold tT; rw [up_ne (fun e => ho.1 e.symm)]; exact hus
  have sp : ∀ B v, v &&& 255 = v → sput (up S0 o (pv B)) o v = up S0 o (pv (B ++ [v])) := fun B v hv => by rw [sput_pv, hv]
  induction st with
  | nil =>
    intro n k B _ hk hn
    simp only [List.length_nil, Nat.add_zero] at hk
    obtain ⟨n, rfl⟩ : ∃ m, n = m + 1 := ⟨n - 1, by omega⟩
    show (if Int32.ofNat d ≤ Int32.ofNat k then _ else _) = _
    rw [if_pos ((i_le' (by omega) (by omega)).mpr (by omega)), r3, sp _ _ (by decide)]
    congr 4
    split <;> rfl
  | cons x st ih =>
    intro n k B hst hk hn
    simp only [List.length_cons] at hk hn
    obtain ⟨n, rfl⟩ : ∃ m, n = m + 1 := ⟨n - 1, by omega⟩
    have hx : stC S0 us k x := by have := hst 0 (by simp); simpa using this
    have hrest : ∀ i (h : i < st.length), stC S0 us (k + 1 + i) st[i] := fun i h => by
      have := hst (i + 1) (by simp; omega)
      rw [show k + (i + 1) = k + 1 + i by omega] at this
      simpa using this
    have ihk := fun B' => ih n (k + 1) B' hrest (by omega) (by omega)
    have hk1 : ¬ k + 1 = 0 := by omega
    -- one step written, then the rest
    have one : ∀ B', ((iget ((up S0 o (pv B')) 76) (Int32.ofNat k)).bind fun b5 => (if b5 = (-1 : Int32) then ((iget ((up S0 o (pv B')) 77) (Int32.ofNat k)).bind fun b7 => ((l_place (up S0 o (pv B')) ((rd (up S0 o (pv B')) 75 3).toNatClampNeg) b7).bind fun r8 => l_path_l11 n r8 (Int32.ofNat d) (Int32.ofNat k + 1))) else ((t_past (tT (up S0 o (pv B')) ((rd (up S0 o (pv B')) 75 2).toNatClampNeg)) b5).bind fun r10 => ((spart (up S0 o (pv B')) ((rd (up S0 o (pv B')) 75 3).toNatClampNeg) ((rd (up S0 o (pv B')) 75 2).toNatClampNeg) b5 r10).bind fun r12 => l_path_l11 n r12 (Int32.ofNat d) (Int32.ofNat k + 1))))) = some (up S0 o (pv (B' ++ (bV x ++ (tlv st ++ [93]))))) := by
      intro B'
      rw [e76, e77, r3, r2, et, i_a1]
      rcases hx with ⟨j, rfl, hj, i1, i2⟩ | ⟨s, q, r, rfl, hs, i1, i2⟩
      · rw [i1, o_bind, if_pos rfl, i2, o_bind, lplace_val (by omega), o_bind, ihk, if_neg hk1, stI_b, List.append_assoc]
      · have lq := drop_len i2 (by simp [pstr])
        have hp := past_str hl hA hs i2 (by omega)
        have hb : ∀ m : Nat, m < 2147483648 → ¬ Int32.ofNat m < -10000 := fun m hm => by
          rw [show (-10000 : Int32) = Int32.ofInt (-10000) from rfl, i_lt, i_ofInt (by decide) (by decide), i_of (by omega)]; omega
        have hc : ∀ m : Nat, m ≤ 100000 → ¬ (100000 : Int32) < Int32.ofNat m := fun m hm => by
          rw [show (100000 : Int32) = Int32.ofNat 100000 from rfl, i_lt' (by omega) (by omega)]; omega
        have hs0 : tT S0 ta = us := hus
        have spv := spart_pv (S := S0) (o := o) (p := ta) (B := B') (f := Int32.ofNat q) (w := Int32.ofNat (q + (pstr s).length)) ho.1 (hb _ (by omega)) (hc _ (by omega))
        rw [hs0, slice hl i2 (by omega)] at spv
        rw [i1, o_bind, if_neg (i_ne1 (by omega)), hp, o_bind, spv, o_bind, ihk, if_neg hk1, List.append_assoc]
        rfl
    show (if Int32.ofNat d ≤ Int32.ofNat k then _ else _) = _
    rw [if_neg (by rw [i_le' (by omega) (by omega)]; omega)]
    by_cases k0 : k = 0
    · rw [if_pos (by rw [k0]; decide), if_pos k0, jn_v]
      refine (one B).trans ?_
      rw [List.append_assoc]
    · rw [if_neg (by rw [show (0 : Int32) = Int32.ofNat 0 from rfl, i_le' (by omega) (by omega)]; omega), if_neg k0, tlv_c, r3, sp _ _ (by decide)]
      refine (one (B ++ [44])).trans ?_
      simp
/-- the path that the Lister stands at -/
theorem path_val {S0 : SS} {o ta : Nat} {us : List Int32} {st : List Vl} (hus : tT S0 ta = us) (hl : us.length ≤ 4096) (hA : asc us) (ho : o ≠ ta ∧ o ≠ 75 ∧ o ≠ 76 ∧ o ≠ 77) (h3 : (rd S0 75 3).toNatClampNeg = o) (h2 : (rd S0 75 2).toNatClampNeg = ta) (hd : st.length ≤ 60) (hst : ∀ i (h : i < st.length), stC S0 us i st[i]) (B : List Int32) : l_path (up S0 o (pv B)) (Int32.ofNat st.length) = some (up S0 o (pv (B ++ bV (pathT st)))) := by
  unfold l_path
  rw [rd_up (fun e => ho.2.1 e.symm), h3, sput_pv, show (91 : Int32) &&& 255 = 91 from by decide]
  have := path_l hus hl hA ho h3 h2 hd st 10000 0 (B ++ [91]) (fun i h => by rw [Nat.zero_add]; exact hst i h) (by omega) (by omega)
  rw [if_pos rfl] at this
  refine this.trans ?_
  rw [pathT_b]
  simp
end Path142
end

section
/-! All paths, printed by the class's Lister. -/
section List143
/-- all paths of members, the first of them number k, behind the steps pre -/
def plF : Fo → Bool → List Vl → Nat → List (List Vl)
  | .leaf, _, _, _ => []
  | .inner kd l _ f r, b, pre, k => ((pre ++ [if b then stN l.1 else stI k]) :: (if kd = 5 ∨ kd = 6 then plF f (kd == 6) (pre ++ [if b then stN l.1 else stI k]) 0 else [])) ++ plF r b pre (k + 1)
def plV (pre : List Vl) (t : Vl) : List (List Vl) := pre :: (if t.1 = 5 ∨ t.1 = 6 then plF t.2.2.2 (t.1 == 6) pre 0 else [])
theorem plF_c (m : Mb) (l : List Mb) (b : Bool) (pre : List Vl) (k : Nat) : plF (ofL (m :: l)) b pre k = plV (pre ++ [if b then stN m.1 else stI k]) m.2 ++ plF (ofL l) b pre (k + 1) := rfl
/-- paths as text, each behind a comma; the first without -/
def ct (P : List (List Vl)) : List Int32 := P.flatMap fun p => 44 :: bV (pathT p)
theorem jn_ct (p : List Vl) (P : List (List Vl)) : jn ((p :: P).map fun p => bV (pathT p)) = bV (pathT p) ++ ct P := by
  induction P generalizing p with
  | nil => simp [jn, ct]
  | cons q P ih =>
    show bV (pathT p) ++ 44 :: jn ((q :: P).map fun p => bV (pathT p)) = _
    rw [ih q]
    show _ = bV (pathT p) ++ ((44 :: bV (pathT q)) ++ ct P)
    rfl
theorem ct_app (P Q : List (List Vl)) : ct (P ++ Q) = ct P ++ ct Q := List.flatMap_append
/-- the Lister's rows hold these steps -/
def rows (S : SS) (us : List Int32) (pre : List Vl) : Prop := (S 76).length = 60 ∧ (S 77).length = 60 ∧ ∀ i (h : i < pre.length), stC S us i pre[i]
def fr76 (S S' : SS) : Prop := ∀ a, a ≠ 76 → a ≠ 77 → S' a = S a
/-- what was written: all, or too much -/
def wrt (B G X : List Int32) : Prop := ((B ++ G).length ≤ 4096 → X = G) ∧ (4096 < (B ++ G).length → 4096 < (B ++ X).length)
theorem iget_set {l : List Int32} {i j : Nat} {v : Int32} (hi : i < l.length) (hl : l.length ≤ 9000) (hj : j < 2147483648) : iget (l.set i v) (Int32.ofNat j) = if i = j then some v else iget l (Int32.ofNat j) := by
  unfold iget
  rw [if_neg (i_nn hj), if_neg (i_nn hj), i_cl hj]
  by_cases e : i = j
  · rw [if_pos e, ← e, List.getElem?_set_self hi]
  · rw [if_neg e, List.getElem?_set_ne e]
theorem rows_pre {S : SS} {us : List Int32} {pre : List Vl} {x : Vl} (h : rows S us (pre ++ [x])) : rows S us pre := ⟨h.1, h.2.1, fun i hi => by
  have := h.2.2 i (by rw [List.length_append]; omega)
  rw [List.getElem_append_left hi] at this
  exact this⟩
theorem rows_push {S : SS} {us : List Int32} {pre : List Vl} {v k : Int32} {x : Vl} (h : rows S us pre) (hd : pre.length < 60) (hx : (∃ j, x = stI j ∧ j < 4096 ∧ v = -1 ∧ k = Int32.ofNat j) ∨ ∃ s q r, x = stN s ∧ okS s ∧ v = Int32.ofNat q ∧ us.drop q = pstr s ++ 58 :: r) : ∃ z1 z2, iset (S 76) (Int32.ofNat pre.length) v = some z1 ∧ iset (up S 76 z1 77) (Int32.ofNat pre.length) k = some z2 ∧ rows (up (up S 76 z1) 77 z2) us (pre ++ [x]) := by
  obtain ⟨h1, h2, h3⟩ := h
  have e1 : iset (S 76) (Int32.ofNat pre.length) v = some ((S 76).set pre.length v) := by
    unfold iset; rw [if_neg (i_nn (by omega)), i_cl (by omega), if_pos (by omega)]
  have e2 : iset (up S 76 ((S 76).set pre.length v) 77) (Int32.ofNat pre.length) k = some ((S 77).set pre.length k) := by
    rw [up_ne (by decide)]
    unfold iset; rw [if_neg (i_nn (by omega)), i_cl (by omega), if_pos (by omega)]
  refine ⟨_, _, e1, e2, ?_, ?_, fun i hi => ?_⟩
  · rw [up_ne (by decide), up_same, List.length_set]; exact h1
  · rw [up_same, List.length_set]; exact h2
  · have g76 : ∀ j, j < 60 → iget ((up (up S 76 ((S 76).set pre.length v)) 77 ((S 77).set pre.length k)) 76) (Int32.ofNat j) = if pre.length = j then some v else iget (S 76) (Int32.ofNat j) := fun j hj => by
      rw [up_ne (by decide), up_same, iget_set (by omega) (by omega) (by omega)]
    have g77 : ∀ j, j < 60 → iget ((up (up S 76 ((S 76).set pre.length v)) 77 ((S 77).set pre.length k)) 77) (Int32.ofNat j) = if pre.length = j then some k else iget (S 77) (Int32.ofNat j) := fun j hj => by
      rw [up_same, iget_set (by omega) (by omega) (by omega)]
    rw [List.length_append] at hi
    simp only [List.length_cons, List.length_nil] at hi
    unfold stC
    rw [g76 i (by omega), g77 i (by omega)]
    by_cases e : i < pre.length
    · rw [if_neg (by omega), if_neg (by omega), List.getElem_append_left e]
      exact h3 i e
    · have : i = pre.length := by omega
      subst this
      rw [if_pos rfl, if_pos rfl, List.getElem_append_right (Nat.le_refl _)]
      simp only [Nat.sub_self, List.getElem_cons_zero]
      rcases hx with ⟨j, q1, q2, q3, q4⟩ | ⟨s, q, r, q1, q2, q3, q4⟩
      · exact Or.inl ⟨j, q1, q2, by rw [q3], by rw [q4]⟩
      · exact Or.inr ⟨s, q, r, q1, q2, by rw [q3], q4⟩
/-- how the Lister lists from a value -/
def LF (us : List Int32) (ta o : Nat) (t : Vl) : Prop := ∀ (n p : Nat) (pre : List Vl) (S0 : SS) (B : List Int32), dV t + 1 ≤ n → pre.length + dV t ≤ 60 → vat us p t → tT S0 ta = us → (rd S0 75 3).toNatClampNeg = o → (rd S0 75 2).toNatClampNeg = ta → rows S0 us pre → ∃ S' X, l_from n (up S0 o (pv B)) (Int32.ofNat p) (Int32.ofNat pre.length) = some (up S' o (pv (B ++ X))) ∧ rows S' us pre ∧ fr76 S0 S' ∧ wrt B (jn ((plV pre t).map fun p => bV (pathT p))) X
theorem wrt_comb {B G1 X1 G2 X2 : List Int32} (h1 : wrt (B ++ [44]) G1 X1) (h2 : wrt (B ++ (44 :: X1)) G2 X2) : wrt B ((44 :: G1) ++ G2) ((44 :: X1) ++ X2) := by
  unfold wrt at *
  simp only [List.length_append, List.length_cons, List.length_nil] at h1 h2 ⊢
  refine ⟨fun h => ?_, fun h => ?_⟩
  · have e1 := h1.1 (by omega)
    subst e1
    rw [h2.1 (by omega)]
  · by_cases e : B.length + 1 + G1.length ≤ 4096
    · have e1 := h1.1 (by omega)
      subst e1
      have := h2.2 (by omega)
      omega
    · have := h1.2 (by omega)
      omega
theorem ct_plV (pre : List Vl) (t : Vl) : ct (plV pre t) = 44 :: jn ((plV pre t).map fun p => bV (pathT p)) := by
  unfold plV
  rw [jn_ct]
  rfl
theorem loop_e {rec : SS → Int32 → Int32 → Option SS} {n : Nat} {S : SS} {l2 l3 l5 : Int32} (hn : 0 < n) : l_fromB_l45 rec n S l2 l3 (-1) l5 = some S := by
  obtain ⟨n, rfl⟩ : ∃ j, n = j + 1 := ⟨n - 1, by omega⟩
  show (if (4096 : Int32) ≤ l5 then some S else _) = _
  by_cases e : (4096 : Int32) ≤ l5
  · rw [if_pos e]
  · rw [if_neg e, if_pos rfl]
theorem loop_l {us : List Int32} {ta o : Nat} {r : List Int32} {z : Int32} {kd : Nat} (hl : us.length ≤ 4096) (hA : asc us) (hz : z = 93 ∨ z = 125) (hkd : kd = 5 ∨ kd = 6) (hta : ta ≠ 76 ∧ ta ≠ 77) (ho : o ≠ ta ∧ o ≠ 75 ∧ o ≠ 76 ∧ o ≠ 77) (m : Nat) : ∀ (l : List Mb) (n k q : Nat) (pre : List Vl) (S0 : SS) (B : List Int32), okL l → l ≠ [] → (∀ x ∈ l, LF us ta o x.2 ∧ dV x.2 + 1 ≤ m ∧ pre.length + 1 + dV x.2 ≤ 60) → us.drop q = jn (l.map (bM (kd == 6))) ++ z :: r → l.length < n → k ≤ q → pre.length < 60 → tT S0 ta = us → (rd S0 75 3).toNatClampNeg = o → (rd S0 75 2).toNatClampNeg = ta → rows S0 us pre → ∃ S' X, l_fromB_l45 (l_from m) n (up S0 o (pv B)) (Int32.ofNat pre.length) (Int32.ofNat kd) (Int32.ofNat q) (Int32.ofNat k) = some (up S' o (pv (B ++ X))) ∧ rows S' us pre ∧ fr76 S0 S' ∧ wrt B (ct (plF (ofL l) (kd == 6) pre k)) X := by
  intro l
  induction l with
  | nil => intro n k q pre S0 B _ h; exact absurd rfl h
  | cons x l ih =>
    intro n k q pre S0 B hw _ hx hd hn hk hp hus h3 h2 hr
    obtain ⟨n1, -, n2, n3⟩ := nx hl hA (hw x List.mem_cons_self) hz hd
    obtain ⟨lf, lm, lp⟩ := hx x List.mem_cons_self
    obtain ⟨n, rfl⟩ : ∃ j, n = j + 1 := ⟨n - 1, by omega⟩
    have e4 : ¬ (4096 : Int32) ≤ Int32.ofNat k := by rw [show (4096 : Int32) = Int32.ofNat 4096 from rfl, i_le' (by omega) (by omega)]; omega
    have r3 : ∀ (T : SS) B, (rd T 75 3).toNatClampNeg = o → (rd (up T o (pv B)) 75 3).toNatClampNeg = o := fun T B h => by rw [rd_up (fun e => ho.2.1 e.symm)]; exact h
    have r2 : ∀ (T : SS) B, (rd T 75 2).toNatClampNeg = ta → (rd (up T o (pv B)) 75 2).toNatClampNeg = ta := fun T B h => by rw [rd_up (fun e => ho.2.1 e.symm)]; exact h
    have tv : tV (up S0 o (pv B)) o = if B.length ≤ 4096 then 0 else 1 := (pv_T S0 o B).2
    rw [plF_c, ct_app]
    obtain ⟨S1, hS1⟩ : ∃ S1, S1 = (up S0 o (pv B)) := ⟨_, rfl⟩
    by_cases hB : B.length ≤ 4096
    · have hkk : k < 4096 := by omega
      obtain ⟨m5, m6⟩ := mem_at hl hA (hw x List.mem_cons_self) hz hd
      -- what comes behind the step
      have tail : ∀ (T0 : SS) (qv : Nat) (stp' : Vl), (if (kd == 6) = true then stN x.1 else stI k) = stp' → fr76 S0 T0 → rows T0 us (pre ++ [stp']) → vat us qv x.2 → ∃ S' X, ((l_from m (up T0 o (pv (B ++ [44]))) (Int32.ofNat qv) (Int32.ofNat pre.length + 1)).bind fun r30 => ((t_next (tT r30 ((rd r30 75 2).toNatClampNeg)) (Int32.ofNat q)).bind fun r32 => l_fromB_l45 (l_from m) n r30 (Int32.ofNat pre.length) (Int32.ofNat kd) r32 (Int32.ofNat k + 1))) = some (up S' o (pv (B ++ X))) ∧ rows S' us pre ∧ fr76 S0 S' ∧ wrt B (ct (plV (pre ++ [stp']) x.2) ++ ct (plF (ofL l) (kd == 6) pre (k + 1))) X := by
        intro T0 qv st' est hf hrw hv
        have t76 : ∀ {A C : SS}, fr76 A C → tT A ta = us → tT C ta = us := fun {A C} hf h => by unfold tT at *; rw [hf ta hta.1 hta.2]; exact h
        have r7 : ∀ {A C : SS} (j : Nat), fr76 A C → rd C 75 j = rd A 75 j := fun {A C} j hf => by unfold rd; rw [hf 75 (by decide) (by decide)]
        have hlen : (pre ++ [st']).length = pre.length + 1 := by rw [List.length_append]; rfl
        obtain ⟨S1, X1, g1, g2, g3, g4⟩ := lf m qv (pre ++ [st']) T0 (B ++ [44]) lm (by omega) hv (t76 hf hus) (by rw [r7 3 hf]; exact h3) (by rw [r7 2 hf]; exact h2) hrw
        rw [hlen, ← i_a1] at g1
        have f1 : fr76 S0 S1 := fun a c1 c2 => (g3 a c1 c2).trans (hf a c1 c2)
        have hB1 : (B ++ [44]) ++ X1 = B ++ (44 :: X1) := by rw [List.append_assoc]; rfl
        rw [g1, hB1, o_bind, r2 S1 _ (by rw [r7 2 f1]; exact h2)]
        have : tT (up S1 o (pv (B ++ (44 :: X1)))) ta = us := by
          have := t76 f1 hus
          unfold tT at *
          rw [up_ne (fun e => ho.1 e.symm)]; exact this
        rw [this, n2, o_bind, i_a1, ct_plV]
        by_cases el : l = []
        · subst el
          rw [if_pos rfl, loop_e (by simp only [List.length_cons, List.length_nil] at hn; omega)]
          refine ⟨S1, 44 :: X1, rfl, rows_pre g2, f1, ?_⟩
          have := wrt_comb (G2 := []) (X2 := []) g4 ⟨fun _ => rfl, fun h => h⟩
          rw [List.append_nil (44 :: X1)] at this
          exact this
        · rw [if_neg el]
          obtain ⟨S2, X2, k1, k2, k3, k4⟩ := ih n (k + 1) (q + (bM (kd == 6) x).length + 1) pre S1 (B ++ (44 :: X1)) (fun y hy => hw y (List.mem_cons_of_mem _ hy)) el (fun y hy => hx y (List.mem_cons_of_mem _ hy)) (n3 el) (by simp only [List.length_cons] at hn; omega) (by omega) hp (t76 f1 hus) (by rw [r7 3 f1]; exact h3) (by rw [r7 2 f1]; exact h2) (rows_pre g2)
          refine ⟨S2, (44 :: X1) ++ X2, ?_, k2, fun a c1 c2 => (k3 a c1 c2).trans (f1 a c1 c2), wrt_comb g4 k4⟩
          rw [k1, List.append_assoc]
      have push : ∀ (v : Int32) (st' : Vl), ((∃ j, st' = stI j ∧ j < 4096 ∧ v = -1 ∧ Int32.ofNat k = Int32.ofNat j) ∨ ∃ s q r, st' = stN s ∧ okS s ∧ v = Int32.ofNat q ∧ us.drop q = pstr s ++ 58 :: r) → ∃ z1 z2, iset ((up S0 o (pv B)) 76) (Int32.ofNat pre.length) v = some z1 ∧ iset ((up (up S0 o (pv B)) 76 z1) 77) (Int32.ofNat pre.length) (Int32.ofNat k) = some z2 ∧ sput (up (up (up S0 o (pv B)) 76 z1) 77 z2) ((rd (up (up (up S0 o (pv B)) 76 z1) 77 z2) 75 3).toNatClampNeg) 44 = up (up (up S0 76 z1) 77 z2) o (pv (B ++ [44])) ∧ rows (up (up S0 76 z1) 77 z2) us (pre ++ [st']) ∧ fr76 S0 (up (up S0 76 z1) 77 z2) := by
        intro v st' hh
        obtain ⟨z1, z2, y1, y2, y3⟩ := rows_push hr hp hh
        have ec : up (up (up S0 o (pv B)) 76 z1) 77 z2 = up (up (up S0 76 z1) 77 z2) o (pv B) := by
          rw [up_comm S0 ho.2.2.1, up_comm (up S0 76 z1) ho.2.2.2]
        refine ⟨z1, z2, ?_, ?_, ?_, y3, fun a c1 c2 => by rw [up_ne c2, up_ne c1]⟩
        · rw [up_ne (fun e => ho.2.2.1 e.symm)]; exact y1
        · rw [up_comm S0 ho.2.2.1, up_ne (fun e => ho.2.2.2 e.symm)]; exact y2
        · rw [ec, r3 _ _ (by rw [rd_up (by decide), rd_up (by decide)]; exact h3), sput_pv]
          rfl
      rcases hkd with rfl | rfl
      · obtain ⟨z1, z2, y1, y2, y3, y4, y5⟩ := push (-1) (stI k) (Or.inl ⟨k, rfl, hkk, rfl, rfl⟩)
        obtain ⟨S', X, w1, w2, w3, w4⟩ := tail _ q (stI k) rfl y5 y4 (m5 rfl)
        refine ⟨S', X, ?_, w2, w3, w4⟩
        rw [← w1]
        show (if (4096 : Int32) ≤ Int32.ofNat k then _ else _) = _
        rw [if_neg e4, if_neg (i_ne1 (by omega)), r3 S0 B h3, tv, if_pos hB, if_pos (by decide), if_neg (show ¬ Int32.ofNat 5 = (6 : Int32) by decide), y1, o_bind, y2, o_bind, y3]
      · have hdq : us.drop q = pstr x.1 ++ 58 :: (bV x.2 ++ ((if l = [] then [] else 44 :: jn (l.map (bM true))) ++ z :: r)) := by
          rw [hd]
          show jn ((x :: l).map (bM true)) ++ z :: r = _
          rw [jn_cons]
          show ((pstr x.1 ++ [58]) ++ bV x.2 ++ _) ++ z :: r = _
          simp only [List.append_assoc, List.cons_append, List.nil_append]
        obtain ⟨z1, z2, y1, y2, y3, y4, y5⟩ := push (Int32.ofNat q) (stN x.1) (Or.inr ⟨x.1, q, _, rfl, (hw x List.mem_cons_self).1, rfl, hdq⟩)
        obtain ⟨v1, v2⟩ := m6 rfl
        obtain ⟨S', X, w1, w2, w3, w4⟩ := tail _ _ (stN x.1) rfl y5 y4 v2
        refine ⟨S', X, ?_, w2, w3, w4⟩
        rw [← w1]
        show (if (4096 : Int32) ≤ Int32.ofNat k then _ else _) = _
        have hT : tT (up (up (up S0 76 z1) 77 z2) o (pv (B ++ [44]))) ta = us := by
          unfold tT at *
          rw [up_ne (fun e => ho.1 e.symm), up_ne hta.2, up_ne hta.1]; exact hus
        rw [if_neg e4, if_neg (i_ne1 (by omega)), r3 S0 B h3, tv, if_pos hB, if_pos (by decide), if_pos (show Int32.ofNat 6 = (6 : Int32) by decide), y1, o_bind, y2, o_bind, y3, r2 _ _ (by rw [rd_up (by decide), rd_up (by decide)]; exact h2), hT, v1, o_bind]
    · refine ⟨S0, [], ?_, hr, fun _ _ _ => rfl, fun h => ?_, fun _ => by rw [List.append_nil]; omega⟩
      · show (if (4096 : Int32) ≤ Int32.ofNat k then _ else _) = _
        rw [if_neg e4, if_neg (i_ne1 (by omega)), r3 S0 B h3, tv, if_neg hB, if_neg (by decide), List.append_nil]
      · rw [List.length_append] at h; omega
theorem lf_all {us : List Int32} {ta o : Nat} (hl : us.length ≤ 4096) (hA : asc us) (hta : ta ≠ 76 ∧ ta ≠ 77) (ho : o ≠ ta ∧ o ≠ 75 ∧ o ≠ 76 ∧ o ≠ 77) (t : Vl) : LF us ta o t := by
  induction t using Vl.ind with
  | h k v s l ihl =>
    intro n p pre S0 B hn hp hv hus h3 h2 hr
    obtain ⟨m, rfl⟩ : ∃ m, n = m + 1 := ⟨n - 1, by omega⟩
    have hpl : p < 2147483648 := by have := hv.lt; omega
    have p1 := path_val hus hl hA ho h3 h2 (by omega) hr.2.2 B
    have hk7 : k ≤ 6 := hv.2.2.1.1
    have h2' : ∀ B, (rd (up S0 o (pv B)) 75 2).toNatClampNeg = ta := fun B => by rw [rd_up (fun e => ho.2.1 e.symm)]; exact h2
    have hT : ∀ B, tT (up S0 o (pv B)) ta = us := fun B => by
      unfold tT at *
      rw [up_ne (fun e => ho.1 e.symm)]; exact hus
    have hkd := hv.kind
    show ∃ S' X, l_fromB (up S0 o (pv B)) (l_from m) (Int32.ofNat p) (Int32.ofNat pre.length) = _ ∧ _
    unfold l_fromB
    rw [p1, o_bind, h2', hT, hkd, o_bind]
    by_cases hk : k = 5 ∨ k = 6
    · have hdv : dV (k, v, s, ofL l) = 1 + dF (ofL l) := if_pos hk
      have hf := hv.first hk
      have hpl' : plV pre (k, v, s, ofL l) = pre :: plF (ofL l) (k == 6) pre 0 := by
        show pre :: (if k = 5 ∨ k = 6 then _ else _) = _
        rw [if_pos hk]
      have h60 : Int32.ofNat pre.length < 60 := by
        rw [show (60 : Int32) = Int32.ofNat 60 from rfl, i_lt' (by omega) (by omega)]; omega
      have main : ∃ S' X, l_fromB_l45 (l_from m) 10000 (up S0 o (pv (B ++ bV (pathT pre)))) (Int32.ofNat pre.length) (Int32.ofNat k) (if l = [] then -1 else Int32.ofNat (p + 1)) 0 = some (up S' o (pv (B ++ X))) ∧ rows S' us pre ∧ fr76 S0 S' ∧ wrt B (jn ((plV pre (k, v, s, ofL l)).map fun p => bV (pathT p))) X := by
        rw [hpl', jn_ct]
        by_cases el : l = []
        · rw [if_pos el, loop_e (by omega)]
          refine ⟨S0, _, rfl, hr, fun _ _ _ => rfl, ?_⟩
          subst el
          have : ct (plF (ofL []) (k == 6) pre 0) = [] := rfl
          rw [this, List.append_nil]
          exact ⟨fun _ => rfl, fun h => h⟩
        · rw [if_neg el]
          have hz : (if k = 5 then (93 : Int32) else 125) = 93 ∨ (if k = 5 then (93 : Int32) else 125) = 125 := by rcases hk with rfl | rfl <;> simp
          have hw := hv.2.2.1.kids
          have hll := (hv.items hk).2
          obtain ⟨r, h4, h5⟩ := hv.2.2.2
          obtain ⟨S', X, e1, e2, e3, e4⟩ := loop_l hl hA hz hk hta ho m l 10000 0 (p + 1) pre S0 (B ++ bV (pathT pre)) hw el (fun x hx => ⟨ihl x hx, by have := dF_mem (f := ofL l) (m := x) (by rw [toL_ofL]; exact hx); omega, by have := dF_mem (f := ofL l) (m := x) (by rw [toL_ofL]; exact hx); omega⟩) (box_in hk h4) (by omega) (by omega) (by omega) hus h3 h2 hr
          refine ⟨S', bV (pathT pre) ++ X, ?_, e2, e3, ?_⟩
          · rw [← List.append_assoc]; exact e1
          · unfold wrt at *
            simp only [List.length_append] at e4 ⊢
            refine ⟨fun h => by rw [e4.1 (by omega)], fun h => by have := e4.2 (by omega); omega⟩
      have c5 : Int32.ofNat k = (5 : Int32) ↔ k = 5 := i_inj (b := 5) (by omega) (by decide)
      have c6 : Int32.ofNat k = (6 : Int32) ↔ k = 6 := i_inj (b := 6) (by omega) (by decide)
      by_cases e5 : k = 5
      · rw [if_pos (c5.mpr e5), if_pos h60, hf, o_bind]
        exact main
      · rw [if_neg (fun e => e5 (c5.mp e)), if_pos (c6.mpr (by omega)), if_pos h60, hf, o_bind]
        exact main
    · have c5 : ¬ Int32.ofNat k = (5 : Int32) := fun e => hk (Or.inl ((i_inj (b := 5) (by omega) (by decide)).mp e))
      have c6 : ¬ Int32.ofNat k = (6 : Int32) := fun e => hk (Or.inr ((i_inj (b := 6) (by omega) (by decide)).mp e))
      rw [if_neg c5, if_neg c6]
      refine ⟨S0, _, rfl, hr, fun _ _ _ => rfl, ?_⟩
      have : plV pre (k, v, s, ofL l) = [pre] := by
        show pre :: (if k = 5 ∨ k = 6 then _ else _) = _
        rw [if_neg hk]
      rw [this]
      exact ⟨fun _ => rfl, fun h => h⟩
end List143
end

section
/-! All paths, by the reference. -/
section RList144
theorem l_lo (v : Int) : (Int64.ofInt v).toInt32 = Int32.ofInt v := Int64.toInt32_ofInt
theorem l_hi (v : Int) (h : -9007199254740991 ≤ v ∧ v ≤ 9007199254740991) : ((Int64.ofInt v) >>> ((32 : Int32).toInt64 &&& 63)).toInt32 = Int32.ofInt (v / 4294967296) := by
  apply Int32.toInt_inj.mp
  rw [Int64.toInt_toInt32, Int32.toInt_ofInt]
  have e3 : (Int64.ofInt v).toBitVec.toInt = v := by
    show (Int64.ofInt v).toInt = v
    exact l_of (by omega) (by omega)
  have : ((Int64.ofInt v) >>> ((32 : Int32).toInt64 &&& 63)).toInt = v / 4294967296 := by
    show ((Int64.ofInt v) >>> ((32 : Int32).toInt64 &&& 63)).toBitVec.toInt = _
    rw [Int64.toBitVec_shiftRight, BitVec.sshiftRight', BitVec.toInt_sshiftRight, e3]
    rw [show (BitVec.smod ((32 : Int32).toInt64 &&& 63).toBitVec 64).toNat = 32 by decide, Int.shiftRight_eq_div_pow]
    rfl
  rw [this]
theorem onum {S : SS} {C : List Int32} (h : OutV S C) (v : Int) (hv : -9007199254740991 ≤ v ∧ v ≤ 9007199254740991) : ∃ S', q_num S (Int64.ofInt v) = some S' ∧ OutV S' (C ++ cnum v) ∧ frO S S' := by
  obtain ⟨S1, at_, e1, o1, f1, a1⟩ := oopen h 3
  obtain ⟨S2, e2, o2, f2⟩ := oput o1 (Int32.ofInt (v / 4294967296))
  obtain ⟨S3, e3, o3, f3⟩ := oput o2 (Int32.ofInt v)
  have o3' : OutV S3 (C ++ 3 :: 0 :: [Int32.ofInt (v / 4294967296), Int32.ofInt v]) := by
    rw [List.append_assoc, List.append_assoc] at o3; exact o3
  obtain ⟨S4, e4, o4, f4⟩ := oclose o3' a1
  unfold q_num
  rw [e1, o_bind, l_hi v hv, e2, o_bind, l_lo, e3, o_bind, e4, o_bind]
  exact ⟨S4, rfl, o4, ((f1.trans f2).trans f3).trans f4⟩
theorem ocopy_l {aa : Nat} {w r : List Int32} {p : Nat} (haa : aa ≠ 90 ∧ aa ≠ 91) (hw : hdd w) (hp : p ≤ 9000) : ∀ (j n i : Nat) (S : SS) (C : List Int32), i + j = w.length → OutV S C → (S aa).length ≤ 9000 → (S aa).drop p = w ++ r → j < n → ∃ S', q_copy_l2 aa n S (Int32.ofNat p) (Int32.ofNat i) = some S' ∧ OutV S' (C ++ w.drop i) ∧ frO S S' := by
  intro j
  induction j with
  | zero =>
    intro n i S C hi ho hl hd hn
    obtain ⟨n, rfl⟩ : ∃ m, n = m + 1 := ⟨n - 1, by omega⟩
    have h2 := hw.len
    have hlen := congrArg List.length hd
    rw [List.length_drop, List.length_append] at hlen
    have g1 : iget (S aa) (Int32.ofNat p + 1) = some (Int32.ofNat w.length) := by
      rw [i_a1, iget_nth hl hd (j := 1) (by omega)]
      obtain ⟨x, t, e⟩ := hw
      congr 1
      conv => lhs; rw [List.getElem_of_eq e]
      rfl
    show ∃ S', ((iget (S aa) (Int32.ofNat p + 1)).bind fun b1 => _) = some S' ∧ _
    rw [g1, o_bind, if_pos ((i_le' (by omega) (by omega)).mpr (by omega)), List.drop_of_length_le (by omega), List.append_nil]
    exact ⟨S, rfl, ho, fun _ _ _ => rfl⟩
  | succ j ih =>
    intro n i S C hi ho hl hd hn
    obtain ⟨n, rfl⟩ : ∃ m, n = m + 1 := ⟨n - 1, by omega⟩
    have h2 := hw.len
    have hlen := congrArg List.length hd
    rw [List.length_drop, List.length_append] at hlen
    have g1 : iget (S aa) (Int32.ofNat p + 1) = some (Int32.ofNat w.length) := by
      rw [i_a1, iget_nth hl hd (j := 1) (by omega)]
      obtain ⟨x, t, e⟩ := hw
      congr 1
      conv => lhs; rw [List.getElem_of_eq e]
      rfl
    have g2 : iget (S aa) (Int32.ofNat p + Int32.ofNat i) = some (w[i]'(by omega)) := by
      rw [← Int32.ofNat_add, iget_nth hl hd (by omega)]
    obtain ⟨S1, e1, o1, f1⟩ := oput ho (w[i]'(by omega))
    obtain ⟨S2, e2, o2, f2⟩ := ih n (i + 1) S1 _ (by omega) o1 (by rw [f1 aa haa.1 haa.2]; exact hl) (by rw [f1 aa haa.1 haa.2]; exact hd) (by omega)
    show ∃ S', ((iget (S aa) (Int32.ofNat p + 1)).bind fun b1 => _) = some S' ∧ _
    rw [g1, o_bind, if_neg (by rw [i_le' (by omega) (by omega)]; omega), g2, o_bind, e1, o_bind, i_a1]
    refine ⟨S2, e2, ?_, f1.trans f2⟩
    rw [List.append_assoc] at o2
    rw [List.drop_eq_getElem_cons (show i < w.length by omega)]
    exact o2
theorem ocopy {S : SS} {aa p : Nat} {w r C : List Int32} (haa : aa ≠ 90 ∧ aa ≠ 91) (hw : hdd w) (ho : OutV S C) (hl : (S aa).length ≤ 9000) (hd : (S aa).drop p = w ++ r) : ∃ S', q_copy S aa (Int32.ofNat p) = some S' ∧ OutV S' (C ++ w) ∧ frO S S' := by
  have h2 := hw.len
  have hlen := congrArg List.length hd
  rw [List.length_drop, List.length_append] at hlen
  obtain ⟨S', e1, e2, e3⟩ := ocopy_l (r := r) haa hw (p := p) (by omega) w.length 10000 0 S C (by omega) ho hl hd (by omega)
  exact ⟨S', e1, e2, e3⟩
/-- the cells of paths -/
def cP (P : List (List Vl)) : List Int32 := P.flatMap fun p => cV (pathT p)
theorem cP_app (P Q : List (List Vl)) : cP (P ++ Q) = cP P ++ cP Q := List.flatMap_append
theorem pathT_c (st : List Vl) : cV (pathT st) = 5 :: Int32.ofNat ((st.flatMap cV).length + 2) :: st.flatMap cV := by
  have : cF false (ofL (st.map fun x => (([], x) : Mb))) = st.flatMap cV := by
    rw [cF_ofL, List.flatMap_map]
    rfl
  show 5 :: Int32.ofNat ((cF false (ofL (st.map fun x => (([], x) : Mb)))).length + 2) :: cF false (ofL (st.map fun x => (([], x) : Mb))) = _
  rw [this]
def stR (S : SS) (us : List Int32) (i : Nat) (x : Vl) : Prop := (∃ k, x = stI k ∧ k < 9000 ∧ iget (S 100) (Int32.ofNat i) = some (-1) ∧ iget (S 99) (Int32.ofNat i) = some (Int32.ofNat k)) ∨ ∃ s q r, x = stN s ∧ q < 9000 ∧ iget (S 100) (Int32.ofNat i) = some (Int32.ofNat q) ∧ us.drop q = cstr s ++ r
def rowR (S : SS) (us : List Int32) (pre : List Vl) : Prop := (S 99).length = 64 ∧ (S 100).length = 64 ∧ ∀ i (h : i < pre.length), stR S us i pre[i]
def fr99 (S S' : SS) : Prop := ∀ a, a ≠ 90 → a ≠ 91 → a ≠ 99 → a ≠ 100 → S' a = S a
theorem fr99.trans {S S1 S2 : SS} (a : fr99 S S1) (b : fr99 S1 S2) : fr99 S S2 := fun x h1 h2 h3 h4 => (b x h1 h2 h3 h4).trans (a x h1 h2 h3 h4)
theorem frO.fr {S S' : SS} (h : frO S S') : fr99 S S' := fun a h1 h2 _ _ => h a h1 h2
theorem rowR.mv {S S' : SS} {us : List Int32} {pre : List Vl} (h : rowR S us pre) (f : frO S S') : rowR S' us pre := by
  have e1 := f 99 (by decide) (by decide)
  have e2 := f 100 (by decide) (by decide)
  unfold rowR stR at *
  rw [e1, e2]; exact h
theorem rowR_pre {S : SS} {us : List Int32} {pre : List Vl} {x : Vl} (h : rowR S us (pre ++ [x])) : rowR S us pre := ⟨h.1, h.2.1, fun i hi => by
  have := h.2.2 i (by rw [List.length_append]; omega)
  rw [List.getElem_append_left hi] at this
  exact this⟩
theorem rowR_push {S : SS} {us : List Int32} {pre : List Vl} {v k : Int32} {x : Vl} (h : rowR S us pre) (hd : pre.length < 64) (hx : (∃ j, x = stI j ∧ j < 9000 ∧ v = -1 ∧ k = Int32.ofNat j) ∨ ∃ s q r, x = stN s ∧ q < 9000 ∧ v = Int32.ofNat q ∧ us.drop q = cstr s ++ r) : rowR (up (up S 100 ((S 100).set pre.length v)) 99 ((S 99).set pre.length k)) us (pre ++ [x]) := by
  obtain ⟨h1, h2, h3⟩ := h
  refine ⟨?_, ?_, fun i hi => ?_⟩
  · rw [up_same, List.length_set]; exact h1
  · rw [up_ne (by decide), up_same, List.length_set]; exact h2
  · have g76 : ∀ j, j < 64 → iget ((up (up S 100 ((S 100).set pre.length v)) 99 ((S 99).set pre.length k)) 100) (Int32.ofNat j) = if pre.length = j then some v else iget (S 100) (Int32.ofNat j) := fun j hj => by
      rw [up_ne (by decide), up_same, iget_set (by omega) (by omega) (by omega)]
    have g77 : ∀ j, j < 64 → iget ((up (up S 100 ((S 100).set pre.length v)) 99 ((S 99).set pre.length k)) 99) (Int32.ofNat j) = if pre.length = j then some k else iget (S 99) (Int32.ofNat j) := fun j hj => by
      rw [up_same, iget_set (by omega) (by omega) (by omega)]
    rw [List.length_append] at hi
    simp only [List.length_cons, List.length_nil] at hi
    unfold stR
    rw [g76 i (by omega), g77 i (by omega)]
    by_cases e : i < pre.length
    · rw [if_neg (by omega), if_neg (by omega), List.getElem_append_left e]
      exact h3 i e
    · have : i = pre.length := by omega
      subst this
      rw [if_pos rfl, if_pos rfl, List.getElem_append_right (Nat.le_refl _)]
      simp only [Nat.sub_self, List.getElem_cons_zero]
      rcases hx with ⟨j, q1, q2, q3, q4⟩ | ⟨s, q, r, q1, q2, q3, q4⟩
      · exact Or.inl ⟨j, q1, q2, by rw [q3], by rw [q4]⟩
      · exact Or.inr ⟨s, q, r, q1, q2, by rw [q3], q4⟩
/-- the steps of a path, written -/
theorem l13_val {aa : Nat} {rec : SS → Nat → Int32 → Int32 → Option SS} {us : List Int32} {p d : Nat} {at_ : Int32} {C : List Int32} (haa : aa ≠ 90 ∧ aa ≠ 91) (hd64 : d ≤ 64) (h9 : us.length ≤ 9000) (ha : C.length ≤ 9000 → at_ = Int32.ofNat C.length) : ∀ (st : List Vl) (n i : Nat) (S : SS) (body : List Int32), OutV S (C ++ 5 :: 0 :: body) → S aa = us → (∀ j (h : j < st.length), stR S us (i + j) st[j]) → i + st.length = d → st.length < n → ∃ S1 m, b_listB_l13 aa rec n S (Int32.ofNat p) (Int32.ofNat d) at_ (Int32.ofNat i) = ((iget (S1 aa) (Int32.ofNat p)).bind fun b6 => (if b6 = (5 : Int32) then b_listB_l102 aa rec (b_listB_l13 aa rec m) 10000 S1 (Int32.ofNat p) (Int32.ofNat d) 0 (Int32.ofNat p + 2) else (if b6 = (6 : Int32) then b_listB_l102 aa rec (b_listB_l13 aa rec m) 10000 S1 (Int32.ofNat p) (Int32.ofNat d) 0 (Int32.ofNat p + 2) else some S1))) ∧ OutV S1 (C ++ 5 :: Int32.ofNat ((body ++ st.flatMap cV).length + 2) :: (body ++ st.flatMap cV)) ∧ frO S S1 := by
  intro st
  induction st with
  | nil =>
    intro n i S body ho hus hst hi hn
    obtain ⟨n, rfl⟩ : ∃ m, n = m + 1 := ⟨n - 1, by omega⟩
    simp only [List.length_nil, Nat.add_zero] at hi
    obtain ⟨S1, e1, o1, f1⟩ := oclose ho ha
    refine ⟨S1, n, ?_, by rw [List.flatMap_nil, List.append_nil]; exact o1, f1⟩
    show (if Int32.ofNat d ≤ Int32.ofNat i then _ else _) = _
    rw [if_pos ((i_le' (by omega) (by omega)).mpr (by omega)), e1, o_bind]
  | cons x st ih =>
    intro n i S body ho hus hst hi hn
    obtain ⟨n, rfl⟩ : ∃ m, n = m + 1 := ⟨n - 1, by omega⟩
    simp only [List.length_cons] at hi hn
    have hx := hst 0 (by simp)
    rw [Nat.add_zero, List.getElem_cons_zero] at hx
    have step : ∀ S2, frO S S2 → OutV S2 (C ++ 5 :: 0 :: (body ++ cV x)) → ∃ S1 m, b_listB_l13 aa rec n S2 (Int32.ofNat p) (Int32.ofNat d) at_ (Int32.ofNat i + 1) = ((iget (S1 aa) (Int32.ofNat p)).bind fun b6 => (if b6 = (5 : Int32) then b_listB_l102 aa rec (b_listB_l13 aa rec m) 10000 S1 (Int32.ofNat p) (Int32.ofNat d) 0 (Int32.ofNat p + 2) else (if b6 = (6 : Int32) then b_listB_l102 aa rec (b_listB_l13 aa rec m) 10000 S1 (Int32.ofNat p) (Int32.ofNat d) 0 (Int32.ofNat p + 2) else some S1))) ∧ OutV S1 (C ++ 5 :: Int32.ofNat ((body ++ (x :: st).flatMap cV).length + 2) :: (body ++ (x :: st).flatMap cV)) ∧ frO S S1 := by
      intro S2 f2 o2
      have e99 := f2 99 (by decide) (by decide)
      have e100 := f2 100 (by decide) (by decide)
      obtain ⟨S1, m, q1, q2, q3⟩ := ih n (i + 1) S2 (body ++ cV x) o2 (by rw [f2 aa haa.1 haa.2]; exact hus) (fun j hj => by
        have := hst (j + 1) (by simp only [List.length_cons]; omega)
        rw [List.getElem_cons_succ] at this
        unfold stR at *
        rw [e99, e100, show i + 1 + j = i + (j + 1) by omega]
        exact this) (by omega) (by omega)
      refine ⟨S1, m, by rw [i_a1]; exact q1, ?_, f2.trans q3⟩
      rw [List.flatMap_cons, ← List.append_assoc]
      exact q2
    rw [show ∀ S' : SS, b_listB_l13 aa rec (n + 1) S' (Int32.ofNat p) (Int32.ofNat d) at_ (Int32.ofNat i) = (if Int32.ofNat d ≤ Int32.ofNat i then _ else _) from fun _ => rfl, if_neg (by rw [i_le' (by omega) (by omega)]; omega)]
    rcases hx with ⟨k, x1, x2, x3, x4⟩ | ⟨s, q, r, x1, x2, x3, x4⟩
    · rw [x3, o_bind, if_pos rfl, x4, o_bind]
      have ek : (Int32.ofNat k).toInt64 = Int64.ofInt (k : Int) := by
        apply Int64.toInt_inj.mp
        rw [Int32.toInt_toInt64, i_of (by omega), l_of (by omega) (by omega)]
      obtain ⟨S2, e2, o2, f2⟩ := onum ho (k : Int) (by omega)
      rw [ek, e2, o_bind]
      refine step S2 f2 ?_
      rw [x1]
      rw [List.append_assoc] at o2
      exact o2
    · rw [x3, o_bind, if_neg (i_ne1 (by omega))]
      obtain ⟨S2, e2, o2, f2⟩ := ocopy haa (cstr_hdd s) ho (by rw [hus]; exact h9) (by rw [hus]; exact x4)
      rw [e2, o_bind]
      refine step S2 f2 ?_
      rw [x1]
      rw [List.append_assoc] at o2
      exact o2
def LR (us : List Int32) (aa : Nat) (t : Vl) : Prop := ∀ (n p : Nat) (pre : List Vl) (S : SS) (C : List Int32), dV t + 1 ≤ n → pre.length + dV t ≤ 60 → cat us p t → S aa = us → rowR S us pre → OutV S C → ∃ S', b_list n S aa (Int32.ofNat p) (Int32.ofNat pre.length) = some S' ∧ rowR S' us pre ∧ fr99 S S' ∧ OutV S' (C ++ cP (plV pre t))
theorem i_set {l : List Int32} {i : Nat} {v : Int32} (hi : i < l.length) (hi' : i < 2147483648) : iset l (Int32.ofNat i) v = some (l.set i v) := by
  unfold iset
  rw [if_neg (i_nn hi'), i_cl hi', if_pos hi]
theorem l102_val {us r : List Int32} {aa p e kd m : Nat} {pre : List Vl} {k13 : SS → Int32 → Int32 → Int32 → Int32 → Option SS} (haa : aa ≠ 90 ∧ aa ≠ 91 ∧ aa ≠ 99 ∧ aa ≠ 100) (h9 : us.length ≤ 9000) (hkd : kd = 5 ∨ kd = 6) (hne : r_next us (Int32.ofNat p) = some (Int32.ofNat e)) (hik : iget us (Int32.ofNat p) = some (Int32.ofNat kd)) (hp : pre.length < 60) : ∀ (l : List Mb) (n k q : Nat) (S : SS) (C : List Int32), okL l → (∀ x ∈ l, LR us aa x.2 ∧ dV x.2 + 1 ≤ m ∧ pre.length + 1 + dV x.2 ≤ 60) → us.drop q = (blks (kd == 6) l).flatten ++ r → q + (blks (kd == 6) l).flatten.length = e → e ≤ 9000 → l.length < n → k + l.length ≤ 9000 → S aa = us → rowR S us pre → OutV S C → ∃ S', b_listB_l102 aa (b_list m) k13 n S (Int32.ofNat p) (Int32.ofNat pre.length) (Int32.ofNat k) (Int32.ofNat q) = some S' ∧ rowR S' us pre ∧ fr99 S S' ∧ OutV S' (C ++ cP (plF (ofL l) (kd == 6) pre k)) := by
  intro l
  induction l with
  | nil =>
    intro n k q S C _ _ hd he he9 hn _ hus hr ho
    obtain ⟨n, rfl⟩ : ∃ j, n = j + 1 := ⟨n - 1, by omega⟩
    have : q = e := by
      simp only [blks, List.flatMap_nil, List.flatten_nil, List.length_nil, Nat.add_zero] at he; exact he
    refine ⟨S, ?_, hr, fun _ _ _ _ _ => rfl, by rw [show cP (plF (ofL []) (kd == 6) pre k) = [] from rfl, List.append_nil]; exact ho⟩
    show ((r_next (S aa) (Int32.ofNat p)).bind fun r8 => _) = _
    rw [hus, hne, o_bind, if_pos ((i_le' (by omega) (by omega)).mpr (by omega))]
  | cons x l ih =>
    intro n k q S C hw hx hd he he9 hn hk hus hr ho
    obtain ⟨n, rfl⟩ : ∃ j, n = j + 1 := ⟨n - 1, by omega⟩
    simp only [List.length_cons] at hn hk
    obtain ⟨lf, lm, lp⟩ := hx x List.mem_cons_self
    have hwx := hw x List.mem_cons_self
    have eb : blks (kd == 6) (x :: l) = blk (kd == 6) x ++ blks (kd == 6) l := List.flatMap_cons
    rw [eb, List.flatten_append] at hd he
    rw [List.append_assoc] at hd
    rw [List.length_append] at he
    have cl2 := (cV_h hwx.2.1).len
    have c6 : Int32.ofNat kd = (6 : Int32) ↔ kd = 6 := i_inj (b := 6) (by omega) (by decide)
    have l1 := hr.1
    have l2 := hr.2.1
    rw [plF_c, cP_app]
    -- what comes behind the step
    have tail : ∀ (v : Int32) (qv : Nat) (st' : Vl), (if (kd == 6) = true then stN x.1 else stI k) = st' → ((∃ j, st' = stI j ∧ j < 9000 ∧ v = -1 ∧ Int32.ofNat k = Int32.ofNat j) ∨ ∃ s q r, st' = stN s ∧ q < 9000 ∧ v = Int32.ofNat q ∧ us.drop q = cstr s ++ r) → cat us qv x.2 → qv + (cV x.2).length = q + (blk (kd == 6) x).flatten.length → ∃ S', ((b_list m (up (up S 100 ((S 100).set pre.length v)) 99 ((S 99).set pre.length (Int32.ofNat k))) aa (Int32.ofNat qv) (Int32.ofNat pre.length + 1)).bind fun r27 => ((r_next (r27 aa) (Int32.ofNat qv)).bind fun r29 => b_listB_l102 aa (b_list m) k13 n r27 (Int32.ofNat p) (Int32.ofNat pre.length) (Int32.ofNat k + 1) r29)) = some S' ∧ rowR S' us pre ∧ fr99 S S' ∧ OutV S' (C ++ (cP (plV (pre ++ [st']) x.2) ++ cP (plF (ofL l) (kd == 6) pre (k + 1)))) := by
      intro v qv st' est hst hc hq
      have hlen : (pre ++ [st']).length = pre.length + 1 := by rw [List.length_append]; rfl
      have hr' := rowR_push (k := Int32.ofNat k) hr (by omega) hst
      obtain ⟨T, hT⟩ : ∃ T, T = up (up S 100 ((S 100).set pre.length v)) 99 ((S 99).set pre.length (Int32.ofNat k)) := ⟨_, rfl⟩
      rw [← hT] at hr' ⊢
      have fT : ∀ a, a ≠ 99 → a ≠ 100 → T a = S a := fun a n1 n2 => by rw [hT, up_ne n1, up_ne n2]
      have oT : OutV T C := by
        unfold OutV rd
        rw [fT 91 (by decide) (by decide), fT 90 (by decide) (by decide)]
        exact ho
      obtain ⟨S1, g1, g2, g3, g4⟩ := lf m qv (pre ++ [st']) T C lm (by omega) hc (by rw [fT aa haa.2.2.1 haa.2.2.2]; exact hus) hr' oT
      rw [hlen, ← i_a1] at g1
      have u1 : S1 aa = us := by rw [g3 aa haa.1 haa.2.1 haa.2.2.1 haa.2.2.2, fT aa haa.2.2.1 haa.2.2.2]; exact hus
      rw [g1, o_bind, u1, hc.next.1, o_bind, i_a1]
      obtain ⟨S2, k1, k2, k3, k4⟩ := ih n (k + 1) (qv + (cV x.2).length) S1 _ (fun y hy => hw y (List.mem_cons_of_mem _ hy)) (fun y hy => hx y (List.mem_cons_of_mem _ hy)) (by rw [hq]; exact drop_more hd) (by omega) he9 (by omega) (by omega) u1 (rowR_pre g2) g4
      refine ⟨S2, k1, k2, fun a n1 n2 n3 n4 => by rw [k3 a n1 n2 n3 n4, g3 a n1 n2 n3 n4, fT a n3 n4], ?_⟩
      rw [← List.append_assoc]
      exact k4
    show ∃ S', ((r_next (S aa) (Int32.ofNat p)).bind fun r8 => _) = some S' ∧ _
    have h1 : iset (S 100) (Int32.ofNat pre.length) (-1) = some ((S 100).set pre.length (-1)) := i_set (by omega) (by omega)
    have hb0 : 0 < (blk (kd == 6) x).flatten.length := by
      rcases hkd with rfl | rfl
      · show 0 < (List.flatten [cV x.2]).length
        simp only [List.flatten_cons, List.flatten_nil, List.length_append, List.length_nil]; omega
      · show 0 < (List.flatten [cstr x.1, cV x.2]).length
        simp only [List.flatten_cons, List.flatten_nil, List.length_append, List.length_nil]; omega
    rw [hus, hne, o_bind, if_neg (by rw [i_le' (by omega) (by omega)]; omega), h1, o_bind, up_ne haa.2.2.2, hus, hik, o_bind]
    rcases hkd with rfl | rfl
    · rw [if_neg (by decide)]
      have ef : (blk (5 == 6) x).flatten = cV x.2 := by
        show (List.flatten [cV x.2]) = _
        simp only [List.flatten_cons, List.flatten_nil, List.append_nil]
      have h2 : iset ((up S 100 ((S 100).set pre.length (-1))) 99) (Int32.ofNat pre.length) (Int32.ofNat k) = some ((S 99).set pre.length (Int32.ofNat k)) := by
        rw [up_ne (by decide)]; exact i_set (by omega) (by omega)
      rw [h2, o_bind]
      exact tail (-1) q (stI k) rfl (Or.inl ⟨k, rfl, by omega, rfl, rfl⟩) ⟨h9, hwx.2, _, by rw [hd, ef]⟩ (by rw [ef])
    · rw [if_pos (by decide), up_same]
      have ef : (blk (6 == 6) x).flatten = cstr x.1 ++ cV x.2 := by
        show (List.flatten [cstr x.1, cV x.2]) = _
        simp only [List.flatten_cons, List.flatten_nil, List.append_nil]
      have hd' := hd
      rw [ef, List.append_assoc] at hd'
      have h3 : iset ((S 100).set pre.length (-1)) (Int32.ofNat pre.length) (Int32.ofNat q) = some ((S 100).set pre.length (Int32.ofNat q)) := by
        rw [i_set (by rw [List.length_set]; omega) (by omega), List.set_set]
      obtain ⟨n1, n2⟩ := rnext_at h9 (cstr_hdd x.1) hd'
      have h2 : iset ((up S 100 ((S 100).set pre.length (Int32.ofNat q))) 99) (Int32.ofNat pre.length) (Int32.ofNat k) = some ((S 99).set pre.length (Int32.ofNat k)) := by
        rw [up_ne (by decide)]; exact i_set (by omega) (by omega)
      have hcl := (cstr_hdd x.1).len
      rw [h3, o_bind, up_up, up_ne haa.2.2.2, hus, n1, o_bind, h2, o_bind]
      exact tail (Int32.ofNat q) (q + (cstr x.1).length) (stN x.1) rfl (Or.inr ⟨x.1, q, _, rfl, by omega, rfl, hd'⟩) ⟨h9, hwx.2, _, drop_more hd'⟩ (by rw [ef, List.length_append]; omega)
theorem lr_all {us : List Int32} {aa : Nat} (haa : aa ≠ 90 ∧ aa ≠ 91 ∧ aa ≠ 99 ∧ aa ≠ 100) (t : Vl) : LR us aa t := by
  induction t using Vl.ind with
  | h k v s l ihl =>
    intro n p pre S C hn hp hc hus hr ho
    obtain ⟨m, rfl⟩ : ∃ m, n = m + 1 := ⟨n - 1, by omega⟩
    obtain ⟨nx1, nx2, nx3⟩ := hc.next
    have h9 := hc.1
    have hk7 : k ≤ 6 := hc.2.1.1
    obtain ⟨S1, at_, e1, o1, f1, a1⟩ := oopen ho 5
    have r1 := hr.mv f1
    obtain ⟨S2, m2, e2, o2, f2⟩ := l13_val (rec := b_list m) (p := p) ⟨haa.1, haa.2.1⟩ (d := pre.length) (by omega) h9 a1 pre 10000 0 S1 [] o1 (by rw [f1 aa haa.1 haa.2.1]; exact hus) (fun j hj => by rw [Nat.zero_add]; exact r1.2.2 j hj) (by omega) (by omega)
    show ∃ S', b_listB S aa (b_list m) (Int32.ofNat p) (Int32.ofNat pre.length) = some S' ∧ _
    unfold b_listB
    rw [e1, o_bind]
    have u2 : S2 aa = us := by rw [f2 aa haa.1 haa.2.1, f1 aa haa.1 haa.2.1]; exact hus
    rw [show b_listB_l13 aa (b_list m) 10000 S1 (Int32.ofNat p) (Int32.ofNat pre.length) at_ 0 = _ from e2, u2, hc.kind, o_bind]
    have o2' : OutV S2 (C ++ cV (pathT pre)) := by rw [pathT_c]; exact o2
    have f12 : fr99 S S2 := (f1.trans f2).fr
    have r2 := r1.mv f2
    by_cases hk : k = 5 ∨ k = 6
    · have hdv : dV (k, v, s, ofL l) = 1 + dF (ofL l) := if_pos hk
      have hpl' : plV pre (k, v, s, ofL l) = pre :: plF (ofL l) (k == 6) pre 0 := by
        show pre :: (if k = 5 ∨ k = 6 then _ else _) = _
        rw [if_pos hk]
      have hw := hc.2.1.kids
      obtain ⟨r, hd⟩ := hc.2.2
      obtain ⟨b1, b2⟩ := cbox_in hk hd
      have fl := flat2 _ (blks_h (b := k == 6) hw)
      have bl := blks_len (k == 6) l
      have bl2 : l.length ≤ (blks (k == 6) l).length := by
        rw [bl]; split <;> omega
      have main : ∀ k13, ∃ S', b_listB_l102 aa (b_list m) k13 10000 S2 (Int32.ofNat p) (Int32.ofNat pre.length) 0 (Int32.ofNat p + 2) = some S' ∧ rowR S' us pre ∧ fr99 S S' ∧ OutV S' (C ++ cP (plV pre (k, v, s, ofL l))) := by
        intro k13
        obtain ⟨S3, q1, q2, q3, q4⟩ := l102_val (k13 := k13) (m := m) haa h9 hk nx1 hc.kind (by omega) l 10000 0 (p + 2) S2 _ hw (fun x hx => ⟨ihl x hx, by have := dF_mem (f := ofL l) (m := x) (by rw [toL_ofL]; exact hx); omega, by have := dF_mem (f := ofL l) (m := x) (by rw [toL_ofL]; exact hx); omega⟩) b1 (by omega) (by omega) (by omega) (by omega) u2 r2 o2'
        refine ⟨S3, by rw [show Int32.ofNat p + 2 = Int32.ofNat (p + 2) from (Int32.ofNat_add p 2).symm]; exact q1, q2, f12.trans q3, ?_⟩
        rw [hpl']
        show OutV S3 (C ++ (cV (pathT pre) ++ cP (plF (ofL l) (k == 6) pre 0)))
        rw [← List.append_assoc]
        exact q4
      have c5 : Int32.ofNat k = (5 : Int32) ↔ k = 5 := i_inj (b := 5) (by omega) (by decide)
      have c6 : Int32.ofNat k = (6 : Int32) ↔ k = 6 := i_inj (b := 6) (by omega) (by decide)
      by_cases e5 : k = 5
      · rw [if_pos (c5.mpr e5)]
        exact main _
      · rw [if_neg (fun e => e5 (c5.mp e)), if_pos (c6.mpr (by omega))]
        exact main _
    · have c5 : ¬ Int32.ofNat k = (5 : Int32) := fun e => hk (Or.inl ((i_inj (b := 5) (by omega) (by decide)).mp e))
      have c6 : ¬ Int32.ofNat k = (6 : Int32) := fun e => hk (Or.inr ((i_inj (b := 6) (by omega) (by decide)).mp e))
      rw [if_neg c5, if_neg c6]
      refine ⟨S2, rfl, r2, f12, ?_⟩
      have : plV pre (k, v, s, ofL l) = [pre] := by
        show pre :: (if k = 5 ∨ k = 6 then _ else _) = _
        rw [if_neg hk]
      rw [this]
      show OutV S2 (C ++ (cV (pathT pre) ++ []))
      rw [List.append_nil]
      exact o2'
end RList144
end
