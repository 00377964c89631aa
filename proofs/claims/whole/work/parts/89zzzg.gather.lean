/-! The class gathers names and sorts them. -/
section Gather148
/-- what stands at the places of the members: their names -/
def nmAt (us : List Int32) (N : Nat) (ps : Nat → Nat) (nm : Nat → List Int32) : Prop := ∀ j, j < N → ps j < 4096 ∧ okS (nm j) ∧ ∃ r, us.drop (ps j) = pstr (nm j) ++ r
theorem iget_mid {pre post : List Int32} {Q : List Nat} {f : Nat → Int32} {k : Nat} (hk : k < Q.length) (hl : (pre ++ Q.map f ++ post).length ≤ 4096) : iget (pre ++ Q.map f ++ post) (Int32.ofNat (pre.length + k)) = some (f Q[k]) := by
  simp only [List.length_append, List.length_map] at hl
  rw [iget_in (by simp only [List.length_append, List.length_map]; omega) (by omega)]
  rw [List.getElem_append_left (by simp only [List.length_append, List.length_map]; omega), List.getElem_append_right (by omega)]
  simp only [Nat.add_sub_cancel_left, List.getElem_map]
theorem iset_mid {pre post : List Int32} {Q : List Nat} {f : Nat → Int32} {k x : Nat} (hk : k < Q.length) (hl : (pre ++ Q.map f ++ post).length ≤ 4096) : iset (pre ++ Q.map f ++ post) (Int32.ofNat (pre.length + k)) (f x) = some (pre ++ (Q.set k x).map f ++ post) := by
  simp only [List.length_append, List.length_map] at hl
  rw [i_set (by simp only [List.length_append, List.length_map]; omega) (by omega)]
  congr 1
  rw [List.set_append_left _ _ (by simp only [List.length_append, List.length_map]; omega), List.set_append_right _ _ (by omega), Nat.add_sub_cancel_left, List.map_set]
theorem i_subN {a b : Nat} (h : b ≤ a) (ha : a < 2147483648) : Int32.ofNat a - Int32.ofNat b = Int32.ofNat (a - b) := by
  apply Int32.toInt_inj.mp
  have a1 : (Int32.ofNat a).toInt = (a : Int) := i_of (by omega)
  have a2 : (Int32.ofNat b).toInt = (b : Int) := i_of (by omega)
  rw [i_sub (by rw [a1, a2]; omega) (by rw [a1, a2]; omega), a1, a2, i_of (by omega)]
  omega
theorem l105_val {t0 : Nat} {us pre post : List Int32} {N g i x : Nat} {ps : Nat → Nat} {nm : Nat → List Int32} {k12 k72 : SS → Int32 → Int32 → Option SS} {k83 : SS → Int32 → Int32 → Int32 → Option SS} (ht0 : t0 ≠ 48) (hu : us.length ≤ 4096) (hnm : nmAt us N ps nm) (hg : 0 < g ∧ g ≤ 2048) (hx : x < N) : ∀ (k n : Nat) (S : SS) (Q : List Nat), k < Q.length → k < n → k ≤ i → tT S t0 = us → (∀ j ∈ Q, j < N) → S 48 = pre ++ Q.map (fun j => Int32.ofNat (ps j)) ++ post → (S 48).length = 2048 → ∃ Q', o_gather_l105 t0 k12 k72 k83 n S (Int32.ofNat pre.length) (Int32.ofNat g) (Int32.ofNat (pre.length + i)) (Int32.ofNat (ps x)) (Int32.ofNat (pre.length + k)) = k83 (up S 48 (pre ++ Q'.map (fun j => Int32.ofNat (ps j)) ++ post)) (Int32.ofNat pre.length) (Int32.ofNat g) (Int32.ofNat (pre.length + i) + 1) ∧ Q'.length = Q.length ∧ Q'.Perm (Q.set k x) ∧ (g = 1 → hole nm Q (i + 1) k x → srtN nm Q' (i + 1)) := by
  intro k
  induction k using Nat.strongRecOn with
  | _ k ih =>
  intro n S Q hk hn hki hus hQ h48 hl
  obtain ⟨n, rfl⟩ : ∃ j, n = j + 1 := ⟨n - 1, by omega⟩
  have hl2 : (pre ++ Q.map (fun j => Int32.ofNat (ps j)) ++ post).length = 2048 := by rw [← h48]; exact hl
  have hl3 := hl2
  simp only [List.length_append, List.length_map] at hl3
  have hpl : pre.length + Q.length ≤ 2048 := by omega
  have iset1 : iset (S 48) (Int32.ofNat (pre.length + k)) (Int32.ofNat (ps x)) = some (pre ++ (Q.set k x).map (fun j => Int32.ofNat (ps j)) ++ post) := by
    rw [h48]; exact iset_mid (f := fun j => Int32.ofNat (ps j)) hk (by omega)
  have fin : (g = 1 → k = 0 ∨ ∃ h : k - 1 < Q.length, ¬ ltS (nm x) (nm Q[k - 1])) → ∃ Q', ((iset (S 48) (Int32.ofNat (pre.length + k)) (Int32.ofNat (ps x))).bind fun z8 => k83 (up S 48 z8) (Int32.ofNat pre.length) (Int32.ofNat g) (Int32.ofNat (pre.length + i) + 1)) = k83 (up S 48 (pre ++ Q'.map (fun j => Int32.ofNat (ps j)) ++ post)) (Int32.ofNat pre.length) (Int32.ofNat g) (Int32.ofNat (pre.length + i) + 1) ∧ Q'.length = Q.length ∧ Q'.Perm (Q.set k x) ∧ (g = 1 → hole nm Q (i + 1) k x → srtN nm Q' (i + 1)) := by
    intro hl
    rw [iset1, o_bind]
    exact ⟨Q.set k x, rfl, List.length_set, List.Perm.refl _, fun e h => hole_set h hk (hl e)⟩
  show ∃ Q', (if Int32.ofNat (pre.length + k) < (Int32.ofNat pre.length + Int32.ofNat g) then _ else _) = _ ∧ _
  rw [← Int32.ofNat_add]
  by_cases hkg : k < g
  · rw [if_pos ((i_lt' (by omega) (by omega)).mpr (by omega))]
    exact fin (fun e => Or.inl (by omega))
  · rw [if_neg (by rw [i_lt' (by omega) (by omega)]; omega), i_subN (by omega) (by omega), show pre.length + k - g = pre.length + (k - g) by omega]
    have hkg' : k - g < Q.length := by omega
    have ig : iget (S 48) (Int32.ofNat (pre.length + (k - g))) = some (Int32.ofNat (ps Q[k - g])) := by
      rw [h48]; exact iget_mid (f := fun j => Int32.ofNat (ps j)) hkg' (by omega)
    obtain ⟨a1, a2, r1, a3⟩ := hnm Q[k - g] (hQ _ (List.getElem_mem hkg'))
    obtain ⟨b1, b2, r2, b3⟩ := hnm x hx
    rw [ig, o_bind, ostr_val (by rw [hus]; exact hu) (by rw [hus]; exact hu) a2 b2 (by rw [hus]; exact a3) (by rw [hus]; exact b3), o_bind]
    by_cases hc : cmpS (nm Q[k - g]) (nm x) ≤ 0
    · rw [if_pos hc]
      refine fin (fun e => Or.inr ⟨by omega, ?_⟩)
      subst e
      exact (cmpS_le _ _).mp hc
    · rw [if_neg hc]
      have iset2 : iset (S 48) (Int32.ofNat (pre.length + k)) (Int32.ofNat (ps Q[k - g])) = some (pre ++ (Q.set k Q[k - g]).map (fun j => Int32.ofNat (ps j)) ++ post) := by
        rw [h48]; exact iset_mid (f := fun j => Int32.ofNat (ps j)) hk (by omega)
      rw [iset2, o_bind]
      obtain ⟨Q', e1, e2, e3, e4⟩ := ih (k - g) (by omega) n (up S 48 (pre ++ (Q.set k Q[k - g]).map (fun j => Int32.ofNat (ps j)) ++ post)) (Q.set k Q[k - g]) (by rw [List.length_set]; omega) (by omega) (by omega) (by unfold tT at *; rw [up_ne ht0]; exact hus) (fun j hj => by
        rcases List.mem_or_eq_of_mem_set hj with e | e
        · exact hQ j e
        · rw [e]; exact hQ _ (List.getElem_mem hkg')) up_same (by rw [up_same]; simp only [List.length_append, List.length_map, List.length_set]; omega)
      rw [up_up] at e1
      refine ⟨Q', e1, by rw [e2, List.length_set], e3.trans (mv_perm hk hkg' (by omega)), fun e h => e4 e ?_⟩
      subst e
      have hlt : ltS (nm x) (nm Q[k - 1]) := Classical.byContradiction fun h' => hc ((cmpS_le _ _).mpr h')
      exact hole_mv h hk (by omega) (by omega) hlt
theorem l83_val {t0 : Nat} {us pre post : List Int32} {N g : Nat} {ps : Nat → Nat} {nm : Nat → List Int32} {k12 k72 : SS → Int32 → Int32 → Option SS} (ht0 : t0 ≠ 48 ∧ t0 ≠ 47) (hu : us.length ≤ 4096) (hnm : nmAt us N ps nm) (hg : 0 < g ∧ g ≤ 2048) : ∀ (m n i : Nat) (S : SS) (Q : List Nat), (i + m = Q.length ∨ (m = 0 ∧ Q.length ≤ i)) → i ≤ 4096 → m < n → tT S t0 = us → (∀ j ∈ Q, j < N) → rd S 47 1 = Int32.ofNat (pre.length + Q.length) → S 48 = pre ++ Q.map (fun j => Int32.ofNat (ps j)) ++ post → (S 48).length = 2048 → ∃ Q', o_gather_l83 t0 k12 k72 n S (Int32.ofNat pre.length) (Int32.ofNat g) (Int32.ofNat (pre.length + i)) = k72 (up S 48 (pre ++ Q'.map (fun j => Int32.ofNat (ps j)) ++ post)) (Int32.ofNat pre.length) (Int32.ofNat (g / 2)) ∧ Q'.Perm Q ∧ (g = 1 → srtN nm Q i → srtN nm Q' Q.length) := by
  intro m
  induction m with
  | zero =>
    intro n i S Q hi hi4 hn hus hQ h47 h48 hl
    obtain ⟨n, rfl⟩ : ∃ j, n = j + 1 := ⟨n - 1, by omega⟩
    have hl3 := hl
    rw [h48] at hl3
    simp only [List.length_append, List.length_map] at hl3
    refine ⟨Q, ?_, List.Perm.refl _, fun _ h => fun a b ha hb hab hbm => h a b ha hb hab (by omega)⟩
    show (if rd S 47 1 ≤ Int32.ofNat (pre.length + i) then _ else _) = _
    rw [h47, if_pos ((i_le' (by omega) (by omega)).mpr (by omega)), show (2 : Int32) = Int32.ofNat 2 from rfl, i_div (by omega) (by omega), ← h48]
    congr 1
    funext a
    unfold up
    by_cases e : a = 48
    · rw [if_pos e, e]
    · rw [if_neg e]
  | succ m ih =>
    intro n i S Q hi hi4 hn hus hQ h47 h48 hl
    obtain ⟨n, rfl⟩ : ∃ j, n = j + 1 := ⟨n - 1, by omega⟩
    have hl3 := hl
    rw [h48] at hl3
    simp only [List.length_append, List.length_map] at hl3
    have hiQ : i < Q.length := by omega
    have ig : iget (S 48) (Int32.ofNat (pre.length + i)) = some (Int32.ofNat (ps Q[i])) := by
      rw [h48]; exact iget_mid (f := fun j => Int32.ofNat (ps j)) hiQ (by rw [← h48]; omega)
    show ∃ Q', (if rd S 47 1 ≤ Int32.ofNat (pre.length + i) then _ else _) = _ ∧ _
    rw [h47, if_neg (by rw [i_le' (by omega) (by omega)]; omega), ig, o_bind]
    obtain ⟨Q1, e1, e2, e3, e4⟩ := l105_val (k12 := k12) (k72 := k72) (k83 := o_gather_l83 t0 k12 k72 n) (i := i) ht0.1 hu hnm hg (hQ _ (List.getElem_mem hiQ)) i 10000 S Q hiQ (by omega) (Nat.le_refl _) hus hQ h48 hl
    rw [List.set_getElem_self] at e3
    rw [e1, i_a1]
    obtain ⟨Q2, j1, j2, j3⟩ := ih n (i + 1) (up S 48 (pre ++ Q1.map (fun j => Int32.ofNat (ps j)) ++ post)) Q1 (by omega) (by omega) (by omega) (by unfold tT at *; rw [up_ne ht0.1]; exact hus) (fun j hj => hQ j (e3.mem_iff.mp hj)) (by rw [rd_up (by decide), e2]; exact h47) up_same (by rw [up_same]; simp only [List.length_append, List.length_map]; omega)
    rw [up_up] at j1
    refine ⟨Q2, j1, j2.trans e3, fun e h => ?_⟩
    rw [← e2]
    exact j3 e (e4 e (hole_in hiQ h))
theorem l72_val {t0 : Nat} {us pre post : List Int32} {N : Nat} {ps : Nat → Nat} {nm : Nat → List Int32} {k12 : SS → Int32 → Int32 → Option SS} (ht0 : t0 ≠ 48 ∧ t0 ≠ 47) (hu : us.length ≤ 4096) (hnm : nmAt us N ps nm) : ∀ (g n : Nat) (S : SS) (Q : List Nat), g ≤ 2048 → g < n → tT S t0 = us → (∀ j ∈ Q, j < N) → rd S 47 1 = Int32.ofNat (pre.length + Q.length) → S 48 = pre ++ Q.map (fun j => Int32.ofNat (ps j)) ++ post → (S 48).length = 2048 → (g = 0 → srtN nm Q Q.length) → ∃ Q', o_gather_l72 t0 k12 n S (Int32.ofNat pre.length) (Int32.ofNat g) = some (up S 48 (pre ++ Q'.map (fun j => Int32.ofNat (ps j)) ++ post)) ∧ Q'.Perm Q ∧ srtN nm Q' Q.length := by
  intro g
  induction g using Nat.strongRecOn with
  | _ g ih =>
  intro n S Q hg hn hus hQ h47 h48 hl h0
  obtain ⟨n, rfl⟩ : ∃ j, n = j + 1 := ⟨n - 1, by omega⟩
  have hl3 := hl
  rw [h48] at hl3
  simp only [List.length_append, List.length_map] at hl3
  show ∃ Q', (if Int32.ofNat g ≤ 0 then _ else _) = _ ∧ _
  by_cases eg : g = 0
  · refine ⟨Q, ?_, List.Perm.refl _, h0 eg⟩
    rw [if_pos (by rw [eg]; decide), ← h48]
    congr 1
    funext a
    unfold up
    by_cases e : a = 48
    · rw [if_pos e, e]
    · rw [if_neg e]
  · rw [if_neg (by rw [show (0 : Int32) = Int32.ofNat 0 from rfl, i_le' (by omega) (by omega)]; omega), ← Int32.ofNat_add]
    obtain ⟨Q1, e1, e2, e3⟩ := l83_val (k12 := k12) (k72 := o_gather_l72 t0 k12 n) (g := g) ht0 hu hnm (by omega) (Q.length - g) 10000 g S Q (by omega) (by omega) (by omega) hus hQ h47 h48 hl
    rw [e1]
    obtain ⟨Q2, j1, j2, j3⟩ := ih (g / 2) (by omega) n (up S 48 (pre ++ Q1.map (fun j => Int32.ofNat (ps j)) ++ post)) Q1 (by omega) (by omega) (by unfold tT at *; rw [up_ne ht0.1]; exact hus) (fun j hj => hQ j (e2.mem_iff.mp hj)) (by rw [rd_up (by decide), e2.length_eq]; exact h47) up_same (by rw [up_same]; simp only [List.length_append, List.length_map, e2.length_eq]; omega) (fun e => by
      have g1 : g = 1 := by omega
      rw [e2.length_eq]
      exact e3 g1 (fun a b ha hb hab hbm => by omega))
    rw [up_up] at j1
    exact ⟨Q2, j1, j2.trans e2, by rw [← e2.length_eq]; exact j3⟩
end Gather148
