/-! What the reference writes. -/
section ROut137
def frO (S S' : SS) : Prop := ∀ a, a ≠ 90 → a ≠ 91 → S' a = S a
theorem frO.trans {S S1 S2 : SS} (a : frO S S1) (b : frO S1 S2) : frO S S2 := fun x h1 h2 => (b x h1 h2).trans (a x h1 h2)
theorem oput {S : SS} {C : List Int32} (h : OutV S C) (v : Int32) : ∃ S', q_put S v = some S' ∧ OutV S' (C ++ [v]) ∧ frO S S' := by
  obtain ⟨h1, h2, h3, h4⟩ := h
  have z9 : Int32.ofNat (S 91).length = Int32.ofNat 9000 := by rw [h1]
  unfold q_put
  by_cases hc : C.length ≤ 9000
  · obtain ⟨⟨j, p1⟩, p2, p3⟩ := h3 hc
    rw [z9, p2]
    by_cases hf : C.length = 9000
    · rw [if_pos (by rw [hf]), if_neg (by rw [rd_wr (by rw [h2]; decide)]; decide)]
      refine ⟨_, rfl, ⟨by rw [wr_ne (by decide)]; exact h1, by rw [wr_len]; exact h2, fun q => ?_, fun _ => rd_wr (by rw [h2]; decide)⟩, fun a n1 _ => wr_ne n1⟩
      rw [List.length_append] at q
      simp only [List.length_cons, List.length_nil] at q
      omega
    · have hj : ∃ y j', j = y :: j' := by
        cases j with
        | nil => rw [p1, List.append_nil] at h1; omega
        | cons y j' => exact ⟨y, j', rfl⟩
      obtain ⟨y, j', rfl⟩ := hj
      have is : iset (S 91) (Int32.ofNat C.length) v = some ((S 91).set C.length v) := by
        unfold iset
        rw [if_neg (i_nn (by omega)), i_cl (by omega), if_pos (by omega)]
      rw [if_neg (by rw [i_inj (by omega) (by omega)]; exact hf), if_pos p3, is, o_bind]
      have r1 : rd (up S 91 ((S 91).set C.length v)) 90 1 = Int32.ofNat C.length := by rw [rd_up (by decide)]; exact p2
      refine ⟨_, rfl, ⟨by rw [wr_ne (by decide), up_same, List.length_set]; exact h1, by rw [wr_len, up_ne (by decide)]; exact h2, fun _ => ⟨⟨j', ?_⟩, ?_, ?_⟩, fun q => ?_⟩, fun a n1 n2 => by rw [wr_ne n1, up_ne n2]⟩
      · rw [wr_ne (by decide), up_same, p1, List.set_append_right _ _ (Nat.le_refl _), Nat.sub_self, List.set_cons_zero, List.append_assoc]; rfl
      · rw [rd_wr (by rw [up_ne (by decide), h2]; decide), r1, i_a1, List.length_append]; rfl
      · rw [rd_wr_j (by decide), rd_up (by decide)]; exact p3
      · rw [List.length_append] at q
        simp only [List.length_cons, List.length_nil] at q
        omega
  · have p3 := h4 (by omega)
    have keep : ∀ S' : SS, (S' = S ∨ S' = wr S 90 2 1) → OutV S' (C ++ [v]) ∧ frO S S' := by
      intro S' e
      rcases e with e | e
      · rw [e]
        exact ⟨⟨h1, h2, fun q => (by rw [List.length_append] at q; omega), fun _ => p3⟩, fun _ _ _ => rfl⟩
      · rw [e]
        exact ⟨⟨by rw [wr_ne (by decide)]; exact h1, by rw [wr_len]; exact h2, fun q => (by rw [List.length_append] at q; omega), fun _ => rd_wr (by rw [h2]; decide)⟩, fun a n1 _ => wr_ne n1⟩
    by_cases hf : rd S 90 1 = Int32.ofNat (S 91).length
    · rw [if_pos hf, if_neg (by rw [rd_wr (by rw [h2]; decide)]; decide)]
      exact ⟨_, rfl, keep _ (Or.inr rfl)⟩
    · rw [if_neg hf, if_neg (by rw [p3]; decide)]
      exact ⟨_, rfl, keep _ (Or.inl rfl)⟩
theorem oopen {S : SS} {C : List Int32} (h : OutV S C) (k : Int32) : ∃ S' at_, q_open S k = some (S', at_) ∧ OutV S' (C ++ [k, 0]) ∧ frO S S' ∧ (C.length ≤ 9000 → at_ = Int32.ofNat C.length) := by
  obtain ⟨S1, e1, o1, f1⟩ := oput h k
  obtain ⟨S2, e2, o2, f2⟩ := oput o1 0
  unfold q_open
  rw [e1, o_bind, e2, o_bind]
  refine ⟨S2, _, rfl, ?_, f1.trans f2, fun hc => (h.2.2.1 hc).2.1⟩
  rw [List.append_assoc] at o2
  exact o2
theorem oclose {S : SS} {C body : List Int32} {k at_ : Int32} (h : OutV S (C ++ k :: 0 :: body)) (ha : C.length ≤ 9000 → at_ = Int32.ofNat C.length) : ∃ S', q_close S at_ = some S' ∧ OutV S' (C ++ k :: Int32.ofNat (body.length + 2) :: body) ∧ frO S S' := by
  obtain ⟨h1, h2, h3, h4⟩ := h
  have el : (C ++ k :: 0 :: body).length = C.length + (body.length + 2) := by simp
  have el' : (C ++ k :: Int32.ofNat (body.length + 2) :: body).length = C.length + (body.length + 2) := by simp
  unfold q_close
  by_cases hc : C.length + (body.length + 2) ≤ 9000
  · obtain ⟨⟨j, p1⟩, p2, p3⟩ := h3 (by omega)
    rw [if_pos p3, ha (by omega), p2, el, i_a1]
    have es : Int32.ofNat (C.length + (body.length + 2)) - Int32.ofNat C.length = Int32.ofNat (body.length + 2) := by
      apply Int32.toInt_inj.mp
      have a1 : (Int32.ofNat (C.length + (body.length + 2))).toInt = ((C.length + (body.length + 2) : Nat) : Int) := i_of (by omega)
      have a2 : (Int32.ofNat C.length).toInt = (C.length : Int) := i_of (by omega)
      rw [i_sub (by rw [a1, a2]; omega) (by rw [a1, a2]; omega), a1, a2, i_of (by omega)]
      omega
    have is : iset (S 91) (Int32.ofNat (C.length + 1)) (Int32.ofNat (body.length + 2)) = some ((S 91).set (C.length + 1) (Int32.ofNat (body.length + 2))) := by
      unfold iset
      rw [if_neg (i_nn (by omega)), i_cl (by omega), if_pos (by omega)]
    rw [es, is, o_bind]
    refine ⟨_, rfl, ⟨by rw [up_same, List.length_set]; exact h1, by rw [up_ne (by decide)]; exact h2, fun _ => ⟨⟨j, ?_⟩, ?_, ?_⟩, fun q => by omega⟩, fun a _ n2 => up_ne n2⟩
    · rw [up_same, p1, List.append_assoc, List.set_append_right _ _ (by omega), List.append_assoc, show C.length + 1 - C.length = 0 + 1 by omega]
      rfl
    · rw [rd_up (by decide), p2, el, el']
    · rw [rd_up (by decide)]; exact p3
  · rw [if_neg (by rw [h4 (by omega)]; decide)]
    exact ⟨S, rfl, ⟨h1, h2, fun q => (by omega), fun _ => h4 (by omega)⟩, fun _ _ _ => rfl⟩
theorem ocells_l {aa : Nat} {r : List Int32} {e : Nat} (haa : aa ≠ 90 ∧ aa ≠ 91) : ∀ (w : List Int32) (n i : Nat) (S : SS) (C : List Int32), OutV S C → (S aa).length ≤ 9000 → (S aa).drop i = w ++ r → i + w.length = e → e ≤ 9000 → w.length < n → ∃ S', b_cells_l3 aa n S (Int32.ofNat e) (Int32.ofNat i) = some S' ∧ OutV S' (C ++ w) ∧ frO S S' := by
  intro w
  induction w with
  | nil =>
    intro n i S C ho hl hd he h9 hn
    cases n with
    | zero => omega
    | succ n =>
      simp only [List.length_nil, Nat.add_zero] at he
      show ∃ S', (if Int32.ofNat e ≤ Int32.ofNat i then some S else _) = some S' ∧ _
      rw [if_pos ((i_le' (by omega) (by omega)).mpr (by omega)), List.append_nil]
      exact ⟨S, rfl, ho, fun _ _ _ => rfl⟩
  | cons x w ih =>
    intro n i S C ho hl hd he h9 hn
    simp only [List.length_cons] at he hn
    cases n with
    | zero => omega
    | succ n =>
      obtain ⟨S1, e1, o1, f1⟩ := oput ho x
      show ∃ S', (if Int32.ofNat e ≤ Int32.ofNat i then some S else _) = some S' ∧ _
      rw [if_neg (by rw [i_le' (by omega) (by omega)]; omega), iget_drop hl hd, o_bind, e1, o_bind, i_a1]
      obtain ⟨S', j1, j2, j3⟩ := ih n (i + 1) S1 (C ++ [x]) o1 (by rw [f1 aa haa.1 haa.2]; exact hl) (by rw [f1 aa haa.1 haa.2]; exact drop_more (w := [x]) hd) (by omega) h9 (by omega)
      rw [List.append_assoc] at j2
      exact ⟨S', j1, j2, f1.trans j3⟩
theorem ocells {S : SS} {aa i : Nat} {w r C : List Int32} (haa : aa ≠ 90 ∧ aa ≠ 91) (ho : OutV S C) (hl : (S aa).length ≤ 9000) (hd : (S aa).drop i = w ++ r) (hi : i ≤ 9000) : ∃ S', b_cells S aa (Int32.ofNat i) (Int32.ofNat (i + w.length)) = some S' ∧ OutV S' (C ++ w) ∧ frO S S' := by
  have := congrArg List.length hd
  rw [List.length_drop, List.length_append] at this
  by_cases hw : w = []
  · rw [hw]
    exact ocells_l (r := r) haa [] 10000 i S C ho hl (by rw [hd, hw]) rfl (by simp; omega) (by decide)
  · have h0 := List.length_pos_iff.mpr hw
    exact ocells_l haa w 10000 i S C ho hl hd rfl (by omega) (by omega)
/-- open, what stands there, close -/
theorem l208_body {S : SS} {aa i : Nat} {k : Int32} {w r : List Int32} (haa : aa ≠ 90 ∧ aa ≠ 91) (ho : OutV S []) (hl : (S aa).length ≤ 9000) (hd : (S aa).drop i = w ++ r) (hi : i ≤ 9000) (hlo : rd S 78 17 = Int32.ofNat i) (hhi : rd S 78 18 = Int32.ofNat (i + w.length)) : ∃ S', ((q_open S k).bind fun r11 => ((b_cells r11.1 aa (rd r11.1 78 17) (rd r11.1 78 18)).bind fun r13 => ((q_close r13 r11.2).bind fun r15 => some r15))) = some S' ∧ OutV S' (k :: Int32.ofNat (w.length + 2) :: w) ∧ frO S S' := by
  obtain ⟨S1, at_, e1, o1, f1, a1⟩ := oopen ho k
  have e17 : rd S1 78 17 = Int32.ofNat i := by unfold rd; rw [f1 78 (by decide) (by decide)]; exact hlo
  have e18 : rd S1 78 18 = Int32.ofNat (i + w.length) := by unfold rd; rw [f1 78 (by decide) (by decide)]; exact hhi
  obtain ⟨S2, e2, o2, f2⟩ := ocells haa o1 (by rw [f1 aa haa.1 haa.2]; exact hl) (by rw [f1 aa haa.1 haa.2]; exact hd) hi
  obtain ⟨S3, e3, o3, f3⟩ := oclose (C := []) (body := w) (k := k) o2 a1
  rw [e1, o_bind, e17, e18, e2, o_bind, e3, o_bind]
  exact ⟨S3, rfl, o3, (f1.trans f2).trans f3⟩
theorem l208_val {S : SS} {aa ab : Nat} {c : Cu} {l3 : Int32} {k19 : SS → Int32 → Int32 → Option SS} (haa : aa ≠ 90 ∧ aa ≠ 91) (ho : OutV S []) (h : spRU S aa c l3) : ∃ S', b_getv_l208 aa ab k19 S l3 = some S' ∧ OutV S' (cV (outV c)) ∧ frO S S' := by
  unfold b_getv_l208
  cases c with
  | none =>
    have h : l3 = -1 := h
    rw [if_pos h]
    obtain ⟨S1, at_, e1, o1, f1, a1⟩ := oopen ho 0
    obtain ⟨S2, e2, o2, f2⟩ := oclose (C := []) (body := []) (k := 0) o1 a1
    unfold q_simple
    rw [e1, o_bind, e2, o_bind, o_bind]
    exact ⟨S2, rfl, o2, f1.trans f2⟩
  | some tw =>
    obtain ⟨t, w⟩ := tw
    have h : spR S aa t w l3 := h
    obtain ⟨p, e, hp9, hc, hwo, hw0, hwb⟩ := h
    have nx1 := hc.next.2
    have h9 := hc.1
    have tk6 := hc.2.1.1
    rw [if_neg (by rw [e]; exact i_ne1 (by omega)), e, hc.kind, o_bind]
    obtain ⟨-, wv, r, hd⟩ := id hc
    cases w with
    | none =>
      obtain ⟨b1, b2⟩ := hw0 rfl
      obtain ⟨q, hq⟩ := cV_hdd tk6
      have hd2 : (S aa).drop (p + 2) = q ++ r := by
        rw [hq] at hd
        exact drop_more (w := [Int32.ofNat t.1, Int32.ofNat (cV t).length]) hd
      have hql : (cV t).length = q.length + 2 := by
        have := congrArg List.length hq
        simpa using this
      obtain ⟨S', j1, j2, j3⟩ := l208_body (k := Int32.ofNat t.1) haa ho h9 hd2 (by omega) b1 (by rw [b2, hql]; congr 1; omega)
      refine ⟨S', j1, ?_, j3⟩
      show OutV S' (cV t)
      rw [hq, hql]
      exact j2
    | some ab' =>
      obtain ⟨a, b⟩ := ab'
      obtain ⟨w1, w2, w3⟩ := hwo a b rfl
      obtain ⟨b1, b2⟩ := hwb w3
      have eA : winA t (some (a, b)) = a := rfl
      have eE : winE t (some (a, b)) = b := by unfold winE winA winN; simp only; omega
      rw [eA] at b1
      rw [eE] at b2
      by_cases h4 : t.1 = 4
      · have hsz : size t = t.2.2.1.length := by unfold size; rw [if_pos h4]
        have cl := cat_str_len hc h4
        have ep : ∀ i, pos t p i = p + 2 + i := fun i => by unfold pos; rw [if_pos h4]
        rw [ep] at b1 b2
        have hd2 : (S aa).drop (p + 2) = t.2.2.1 ++ r := by
          have : cV t = [4, Int32.ofNat (t.2.2.1.length + 2)] ++ t.2.2.1 := by
            conv => lhs; rw [vl4 h4]
            rfl
          rw [this, List.append_assoc] at hd
          exact drop_more hd
        have hd3 : (S aa).drop (p + 2 + a) = (t.2.2.1.drop a).take (b - a) ++ (t.2.2.1.drop b ++ r) := by
          rw [← List.drop_drop, hd2, List.drop_append_of_le_length (by omega), ← List.append_assoc]
          congr 1
          rw [show t.2.2.1.drop b = (t.2.2.1.drop a).drop (b - a) by rw [List.drop_drop]; congr 1; omega, List.take_append_drop]
        have lw : ((t.2.2.1.drop a).take (b - a)).length = b - a := by rw [List.length_take, List.length_drop]; omega
        obtain ⟨S', j1, j2, j3⟩ := l208_body (k := Int32.ofNat t.1) haa ho h9 hd3 (by omega) b1 (by rw [b2, lw]; congr 1; omega)
        refine ⟨S', j1, ?_, j3⟩
        have eo : cV (outV (some (t, some (a, b)))) = Int32.ofNat t.1 :: Int32.ofNat (((t.2.2.1.drop a).take (b - a)).length + 2) :: (t.2.2.1.drop a).take (b - a) := by
          unfold outV
          simp only
          rw [if_pos h4, h4]
          rfl
        rw [eo]
        exact j2
      · have h5 := w3.resolve_left h4
        have hsz : size t = (toL t.2.2.2).length := by unfold size; rw [if_neg h4]
        have ep : ∀ i, pos t p i = bp (p + 2) (blks false (toL t.2.2.2)) i := fun i => by unfold pos; rw [if_neg h4]
        rw [ep] at b1 b2
        have hc' := hc
        rw [vl5 h5] at hc'
        obtain ⟨-, wv', r', hd'⟩ := hc'
        obtain ⟨c1, c2⟩ := cbox_in (Or.inl rfl) hd'
        rw [show (5 == 6) = false from rfl] at c1 c2
        have bl := blks_len false (toL t.2.2.2)
        simp only [Bool.false_eq_true, if_false] at bl
        obtain ⟨g1, g2⟩ := win_blk (i := a) (j := b) c1 w1 (by omega)
        have hlen := congrArg List.length g1
        rw [List.length_drop, List.length_append] at hlen
        have bpl : bp (p + 2) (blks false (toL t.2.2.2)) a ≤ 9000 := by
          have hl2 := congrArg List.length c1
          rw [List.length_drop, List.length_append] at hl2
          unfold bp
          have : ((blks false (toL t.2.2.2)).take a).flatten.length + ((blks false (toL t.2.2.2)).drop a).flatten.length = (blks false (toL t.2.2.2)).flatten.length := by
            rw [← List.length_append, ← List.flatten_append, List.take_append_drop]
          omega
        obtain ⟨S', j1, j2, j3⟩ := l208_body (k := Int32.ofNat t.1) haa ho h9 g1 bpl b1 (by rw [b2, g2])
        refine ⟨S', j1, ?_, j3⟩
        have eb : ((blks false (toL t.2.2.2)).drop a).take (b - a) = blks false (((toL t.2.2.2).drop a).take (b - a)) := by
          have : ∀ l : List Mb, blks false l = l.map fun m => cV m.2 := fun l => by
            unfold blks
            induction l with
            | nil => rfl
            | cons m l ih => rw [List.flatMap_cons, ih]; rfl
          rw [this, this, List.map_take, List.map_drop]
        have eo : cV (outV (some (t, some (a, b)))) = Int32.ofNat t.1 :: Int32.ofNat ((((blks false (toL t.2.2.2)).drop a).take (b - a)).flatten.length + 2) :: (((blks false (toL t.2.2.2)).drop a).take (b - a)).flatten := by
          rw [eb]
          unfold outV
          simp only
          rw [if_neg h4, h5]
          show Int32.ofNat 5 :: Int32.ofNat ((cF false (ofL _)).length + 2) :: cF false (ofL _) = _
          rw [blks_flat]
        rw [eo]
        exact j2
end ROut137
