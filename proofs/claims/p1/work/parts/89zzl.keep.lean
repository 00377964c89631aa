/-! What was written comes to a register, or is too much. -/
section Keep127
/-- a value has at most so many cells -/
theorem jn_sum {b : Bool} : ∀ (l : List Mb), l ≠ [] → (jn (l.map (bM b))).length + 1 = ((l.map fun m => (bM b m).length + 1)).sum := by
  intro l
  induction l with
  | nil => intro h; exact absurd rfl h
  | cons m l ih =>
    intro _
    rw [jn_cons, List.length_append]
    simp only [List.map_cons, List.sum_cons]
    by_cases e : l = []
    · rw [if_pos e, e]; simp
    · rw [if_neg e, ← ih e]
      simp only [List.length_cons]
      omega
theorem cbound (t : Vl) : wV t → (cV t).length ≤ 2 * (bV t).length + 2 := by
  induction t using Vl.ind with
  | h k v s l ih =>
    intro hw
    have hk := hw.kids
    have w1 : k ≤ 6 := hw.1
    have h0 : 0 < (bV (k, v, s, ofL l)).length := List.length_pos_iff.mpr (bV_ne _)
    by_cases hb : k = 5 ∨ k = 6
    · have e1 : (cV (k, v, s, ofL l)).length = (cF (k == 6) (ofL l)).length + 2 := by
        unfold cV cval
        simp only
        rcases hb with rfl | rfl <;> rfl
      have e2 : (bV (k, v, s, ofL l)).length = (jn (l.map (bM (k == 6)))).length + 2 := by
        unfold bV bval
        simp only
        rw [bF_ofL]
        rcases hb with rfl | rfl <;> simp
      rw [e1, e2, cF_ofL]
      by_cases el : l = []
      · rw [el]; simp
      · have js := jn_sum (b := k == 6) l el
        have : (l.flatMap (cM (k == 6))).length ≤ 2 * ((l.map fun m => (bM (k == 6) m).length + 1)).sum := by
          clear js e1 e2 h0 hw el
          induction l with
          | nil => simp
          | cons m l ihl =>
            rw [List.flatMap_cons, List.length_append]
            simp only [List.map_cons, List.sum_cons]
            have i1 := ihl (fun x hx => ih x (List.mem_cons_of_mem _ hx)) hk.tail
            have i2 := ih m List.mem_cons_self (hk m List.mem_cons_self).2
            have i3 : (cM (k == 6) m).length ≤ 2 * ((bM (k == 6) m).length + 1) := by
              unfold cM bM
              cases (k == 6) with
              | false => simp only [Bool.false_eq_true, if_false, List.nil_append]; omega
              | true =>
                have f := flat_len (hk m List.mem_cons_self).1
                simp only [if_true, List.length_append, cstr, pstr, List.length_cons, List.length_nil]
                omega
            omega
        omega
    · have : k = 0 ∨ k = 1 ∨ k = 2 ∨ k = 3 ∨ k = 4 := by omega
      rcases this with rfl | rfl | rfl | rfl | rfl
      · exact (show (2 : Nat) ≤ 2 * (bV (0, v, s, ofL l)).length + 2 by omega)
      · exact (show (2 : Nat) ≤ 2 * (bV (1, v, s, ofL l)).length + 2 by omega)
      · exact (show (2 : Nat) ≤ 2 * (bV (2, v, s, ofL l)).length + 2 by omega)
      · exact (show (4 : Nat) ≤ 2 * (bV (3, v, s, ofL l)).length + 2 by omega)
      · have f := flat_len hw.2.2.1
        show (cstr s).length ≤ 2 * (pstr s).length + 2
        simp only [cstr, pstr, List.length_cons, List.length_append, List.length_nil]
        simp only at f
        omega
/-- Out, to which C was put -/
def OutV (S : SS) (C : List Int32) : Prop := (S 91).length = 9000 ∧ (S 90).length = 3 ∧ (C.length ≤ 9000 → (∃ j, S 91 = C ++ j) ∧ rd S 90 1 = Int32.ofNat C.length ∧ rd S 90 2 = 0) ∧ (9000 < C.length → rd S 90 2 = 1)
/-- does a value come into a register? -/
abbrev good (t : Vl) : Prop := (bV t).length ≤ 4096 ∧ dV t ≤ 60
theorem fits_val {S : SS} {t : Vl} (hw : wV t) (ho : OutV S (cV t)) (h80 : (S 80).length = 9000) : ∃ S', b_fits S = some (S', if good t then 1 else 0) ∧ (∀ a, a ≠ 80 → a ≠ 94 → S' a = S a) ∧ (S' 80).length = 9000 := by
  obtain ⟨o1, o2, o3, o4⟩ := ho
  have cb := cbound t hw
  unfold b_fits
  by_cases hc : (cV t).length ≤ 9000
  · obtain ⟨⟨j, p1⟩, p2, p3⟩ := o3 hc
    rw [if_pos p3]
    have hs : stk S ([] ++ []) := ⟨h80, by decide, (fun z hz => by cases hz), S 80, rfl⟩
    obtain ⟨f1, f2⟩ := PV_all (N := (cV t).length) t hw 10000 0 S [] [] j hs (fun x hx => by cases hx) (fun e he => by cases he) (by rw [List.drop_zero]; exact p1) (by omega) p2 (by omega) hc (by omega) (by decide)
    simp only [List.length_nil, Nat.zero_add] at f1 f2
    by_cases hd : dV t ≤ 60
    · obtain ⟨n', S', X', g1, g2, g3, g4, g5⟩ := f1 hd
      obtain ⟨n', rfl⟩ : ∃ k, n' = k + 1 := ⟨n' - 1, by omega⟩
      have g1 : b_fits_l16 10000 S 0 0 = b_fits_l16 (n' + 1) S' (Int32.ofNat (X' ++ []).length) (Int32.ofNat (cV t).length) := g1
      rw [g1]
      have r90 : rd S' 90 1 = Int32.ofNat (cV t).length := by unfold rd; rw [g5 90 (by decide)]; exact p2
      have ev := value_pv t hw 64 (by omega) S' 94 91 0 [] j (by decide) (by rw [g5 91 (by decide)]; omega) (by rw [g5 91 (by decide), List.drop_zero]; exact p1)
      rw [List.nil_append] at ev
      have ev : w_value 64 (up S' 94 [0]) 94 91 0 = some (up S' 94 (pv (bV t))) := ev
      show ∃ S'_1, (if rd S' 90 1 ≤ Int32.ofNat (cV t).length then _ else _) = _ ∧ _
      rw [r90, if_pos ((i_le' (by omega) (by omega)).mpr (Nat.le_refl _)), ev, o_bind, (pv_T S' 94 (bV t)).2]
      refine ⟨up S' 94 (pv (bV t)), ?_, fun a n1 n2 => by rw [up_ne n2, g5 a n1], by rw [up_ne (by decide)]; exact g2.1⟩
      by_cases hb : (bV t).length ≤ 4096
      · rw [if_pos hb, if_pos rfl, if_pos ⟨hb, hd⟩]
      · rw [if_neg hb, if_neg (by decide), if_neg (fun e => hb e.1)]
    · obtain ⟨S', g1, g2, g3⟩ := f2 (by omega)
      exact ⟨S', by rw [if_neg (fun e => hd e.2)]; exact g1, fun a n1 _ => g2 a n1, g3⟩
  · rw [o4 (by omega), if_neg (by decide), if_neg (fun e => by have := e.1; omega)]
    exact ⟨S, rfl, fun _ _ _ => rfl, h80⟩
theorem bkeep_l {r : Nat} (hr : r < 8) {C : List Int32} (hC : C.length ≤ 9000) : ∀ (n i : Nat) (S : SS), C.length < n + i → i ≤ C.length → (∃ j, S 91 = C ++ j) → (S 91).length = 9000 → rd S 90 1 = Int32.ofNat C.length → (S (82 + r)).length = 9000 → (∃ j, S (82 + r) = C.take i ++ j) → ∃ S', b_keep_l2 n S (Int32.ofNat r) (Int32.ofNat i) = some S' ∧ (∀ a, a ≠ 82 + r → S' a = S a) ∧ (S' (82 + r)).length = 9000 ∧ ∃ j, S' (82 + r) = C ++ j := by
  intro n
  induction n with
  | zero => intro i S h1 h2; omega
  | succ n ih =>
    intro i S h1 h2 h3 h4 h5 h6 h7
    show ∃ S', (if rd S 90 1 ≤ Int32.ofNat i then some S else _) = some S' ∧ _
    rw [h5]
    by_cases e : i = C.length
    · rw [if_pos ((i_le' (by omega) (by omega)).mpr (by omega))]
      refine ⟨S, rfl, fun _ _ => rfl, h6, ?_⟩
      rw [e, List.take_length] at h7
      exact h7
    · obtain ⟨j, h3'⟩ := h3
      obtain ⟨j7, h7'⟩ := h7
      have hi : i < C.length := by omega
      have d1 : (S 91).drop i = C[i] :: (C.drop (i + 1) ++ j) := by
        rw [h3', List.drop_append_of_le_length (by omega), List.drop_eq_getElem_cons hi]; rfl
      obtain ⟨e1, e2⟩ := get81 r hr
      have tk : (C.take i).length = i := by rw [List.length_take]; omega
      have is : iset (S (82 + r)) (Int32.ofNat i) C[i] = some ((S (82 + r)).set i C[i]) := by
        unfold iset
        rw [if_neg (i_nn (by omega)), i_cl (by omega), if_pos (by omega)]
      rw [if_neg (by rw [i_le' (by omega) (by omega)]; omega), e1, o_bind, e2, iget_drop (by omega) d1, o_bind, is, o_bind, i_a1]
      cases j7 with
      | nil => rw [h7', List.append_nil, tk] at h6; omega
      | cons y j7 =>
        obtain ⟨S', k1, k2, k3, k4⟩ := ih (i + 1) (up S (82 + r) ((S (82 + r)).set i C[i])) (by omega) (by omega) ⟨j, by rw [up_ne (by omega)]; exact h3'⟩ (by rw [up_ne (by omega)]; exact h4) (by rw [rd_up (by omega)]; exact h5) (by rw [up_same, List.length_set]; exact h6) ⟨j7, by
          rw [up_same, h7', List.set_append_right _ _ (by omega), tk, Nat.sub_self, List.set_cons_zero, List.take_succ_eq_append_getElem hi, List.append_assoc]; rfl⟩
        exact ⟨S', k1, fun a ha => (k2 a ha).trans (up_ne ha), k3, k4⟩
theorem bkeep_val {S : SS} {C : List Int32} {r : Nat} (hr : r < 8) (hC : C.length ≤ 9000) (ho : OutV S C) (h6 : (S (82 + r)).length = 9000) : ∃ S', b_keep S (Int32.ofNat r) = some S' ∧ (∀ a, a ≠ 82 + r → S' a = S a) ∧ (S' (82 + r)).length = 9000 ∧ ∃ j, S' (82 + r) = C ++ j := by
  obtain ⟨o1, o2, o3, o4⟩ := ho
  obtain ⟨p1, p2, p3⟩ := o3 hC
  exact bkeep_l hr hC 10000 0 S (by omega) (by omega) p1 o1 p2 h6 ⟨S (82 + r), by simp⟩
theorem dV_len (t : Vl) : (dV t : Int) ≤ (bV t).length := by
  induction t using Vl.ind with
  | h k v s l ih =>
    by_cases hb : k = 5 ∨ k = 6
    · have e2 : (bV (k, v, s, ofL l)).length = (jn (l.map (bM (k == 6)))).length + 2 := by
        unfold bV bval
        simp only
        rw [bF_ofL]
        rcases hb with rfl | rfl <;> simp
      have e1 : dV (k, v, s, ofL l) = 1 + dF (ofL l) := by unfold dV; rw [if_pos hb]
      have : dF (ofL l) ≤ (jn (l.map (bM (k == 6)))).length := by
        refine dF_le fun m hm => ?_
        have h1 := ih m hm
        have h2 : (bV m.2).length ≤ (jn (l.map (bM (k == 6)))).length := by
          clear ih h1 e1 e2
          induction l with
          | nil => cases hm
          | cons m2 l ihl =>
            rw [jn_cons, List.length_append]
            rcases List.mem_cons.mp hm with e | e
            · rw [e]; unfold bM; rw [List.length_append]; omega
            · have hne : l ≠ [] := fun e2 => by rw [e2] at e; cases e
              rw [if_neg hne, List.length_cons]
              have := ihl e
              omega
        omega
      omega
    · have e1 : dV (k, v, s, ofL l) = 0 := by unfold dV; rw [if_neg hb]
      omega
theorem akeep_val {S : SS} {t : Vl} {dr n : Nat} {ra : List Nat} (hw : wV t) (hd : rd S 41 9 = Int32.ofNat dr) (h46 : S 46 = ra.map Int32.ofNat) (hl : ra.length = 8) (hp : (dr :: ra).Perm nine) (ht : S dr = pv (bV t)) (hn : n < 8) : a_keep S (Int32.ofNat n) = some (if good t then (wr (up S 46 ((ra.set n dr).map Int32.ofNat)) 41 9 (Int32.ofNat (ra.getD n 0)), 0) else (S, 1)) := by
  have hdr := nine_lt dr (hp.mem_iff.mp List.mem_cons_self)
  have hrn := nine_lt _ (ra_mem hp hl hn)
  have e0 : (rd S 41 9).toNatClampNeg = dr := by rw [hd, i_cl (by omega)]
  unfold a_keep
  have tv : tV S dr = if (bV t).length ≤ 4096 then 0 else 1 := by unfold tV; rw [ht]; rfl
  have tt : tT S dr = (bV t).take 4096 := by unfold tT; rw [ht]; rfl
  rw [e0, tv, tt]
  by_cases hb : (bV t).length ≤ 4096
  · rw [if_pos hb, if_pos (by decide), List.take_of_length_le hb, depth_val hb hw, o_bind]
    by_cases h60 : dV t ≤ 60
    · obtain ⟨g1, g2⟩ := get46 h46 hl hn hrn.1
      have is : iset (S 46) (Int32.ofNat n) (Int32.ofNat dr) = some ((ra.set n dr).map Int32.ofNat) := by
        unfold iset
        rw [if_neg (i_nn (by omega)), i_cl (by omega), h46, if_pos (by rw [List.length_map]; omega), List.map_set]
      rw [if_pos (by rw [show (60 : Int32) = Int32.ofNat 60 from rfl, i_le' (by have := h60; omega) (by omega)]; exact h60), g1, o_bind, is, o_bind, g2, if_pos ⟨hb, h60⟩]
    · have hb2 : dV t < 2147483648 := by
        have : (dV t : Int) ≤ (bV t).length := dV_len t
        omega
      rw [if_neg (by rw [show (60 : Int32) = Int32.ofNat 60 from rfl, i_le' hb2 (by omega)]; exact h60), if_neg (fun e => h60 e.2)]
  · rw [if_neg hb, if_neg (by decide), if_neg (fun e => hb e.1)]
end Keep127
