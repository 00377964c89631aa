/-! Names in order. -/
section Ord147
def ltS (a b : List Int32) : Prop := cmpS a b = -1
theorem cmpS_rng : ∀ (a b : List Int32), cmpS a b = -1 ∨ cmpS a b = 0 ∨ cmpS a b = 1 := by
  intro a
  induction a with
  | nil => intro b; cases b <;> simp [cmpS]
  | cons x a ih =>
    intro b
    cases b with
    | nil => simp [cmpS]
    | cons y b =>
      unfold cmpS
      by_cases h : x = y
      · rw [if_pos h]; exact ih b
      · rw [if_neg h]
        by_cases h2 : y ≤ x
        · rw [if_pos h2]; simp
        · rw [if_neg h2]; simp
theorem cmpS_swap : ∀ (a b : List Int32), cmpS a b = 1 ↔ cmpS b a = -1 := by
  intro a
  induction a with
  | nil => intro b; cases b <;> simp [cmpS] <;> decide
  | cons x a ih =>
    intro b
    cases b with
    | nil => simp [cmpS]
    | cons y b =>
      unfold cmpS
      by_cases h : x = y
      · rw [if_pos h, if_pos h.symm]; exact ih b
      · rw [if_neg h, if_neg (show ¬ y = x from fun e => h e.symm)]
        have hne : x.toInt ≠ y.toInt := fun e => h (Int32.toInt_inj.mp e)
        by_cases h2 : y ≤ x
        · have h3 : ¬ x ≤ y := by rw [i_le] at h2 ⊢; omega
          rw [if_pos h2, if_neg h3]; simp
        · have h3 : x ≤ y := by rw [i_le] at h2 ⊢; omega
          rw [if_neg h2, if_pos h3]; decide
theorem ltS_trans : ∀ {a b c : List Int32}, ltS a b → ltS b c → ltS a c := by
  intro a
  unfold ltS
  induction a with
  | nil =>
    intro b c h1 h2
    cases b with
    | nil => exact absurd h1 (by simp [cmpS])
    | cons y b =>
      cases c with
      | nil => exact absurd h2 (by unfold cmpS; decide)
      | cons z c => rfl
  | cons x a ih =>
    intro b c h1 h2
    cases b with
    | nil => exact absurd h1 (by unfold cmpS; decide)
    | cons y b =>
      cases c with
      | nil => exact absurd h2 (by unfold cmpS; decide)
      | cons z c =>
        unfold cmpS at h1 h2 ⊢
        by_cases e1 : x = y
        · subst e1
          rw [if_pos rfl] at h1
          by_cases e2 : x = z
          · rw [if_pos e2] at h2 ⊢
            exact ih h1 h2
          · rw [if_neg e2] at h2 ⊢
            exact h2
        · rw [if_neg e1] at h1
          have n1 : ¬ y ≤ x := by
            intro h; rw [if_pos h] at h1; exact absurd h1 (by decide)
          by_cases e2 : y = z
          · subst e2
            rw [if_neg e1, if_neg n1]
          · rw [if_neg e2] at h2
            have n2 : ¬ z ≤ y := by
              intro h; rw [if_pos h] at h2; exact absurd h2 (by decide)
            have e3 : x ≠ z := by
              intro e; subst e
              rw [i_le] at n1 n2; omega
            have n3 : ¬ z ≤ x := by rw [i_le] at n1 n2 ⊢; omega
            rw [if_neg e3, if_neg n3]
theorem ltS_irr (a : List Int32) : ¬ ltS a a := by
  intro h
  unfold ltS at h
  rw [(cmpS_0 a a).mpr rfl] at h
  exact absurd h (by decide)
/-- one before the other, or the same -/
theorem ltS_tri (a b : List Int32) : ltS a b ∨ a = b ∨ ltS b a := by
  rcases cmpS_rng a b with h | h | h
  · exact Or.inl h
  · exact Or.inr (Or.inl ((cmpS_0 a b).mp h))
  · exact Or.inr (Or.inr ((cmpS_swap a b).mp h))
theorem cmpS_le (a b : List Int32) : cmpS a b ≤ 0 ↔ ¬ ltS b a := by
  unfold ltS
  rw [← cmpS_swap]
  rcases cmpS_rng a b with h | h | h <;> rw [h] <;> decide
theorem cmpS_ge (a b : List Int32) : 0 ≤ cmpS a b ↔ ¬ ltS a b := by
  unfold ltS
  rcases cmpS_rng a b with h | h | h <;> rw [h] <;> decide
theorem cmpS_gt (a b : List Int32) : 0 < cmpS a b ↔ ltS b a := by
  unfold ltS
  rw [← cmpS_swap]
  rcases cmpS_rng a b with h | h | h <;> rw [h] <;> decide
/-- in order up to the place m, but for the hole k -/
def srtN (nm : Nat → List Int32) (Q : List Nat) (m : Nat) : Prop := ∀ a b (ha : a < Q.length) (hb : b < Q.length), a < b → b < m → ¬ ltS (nm Q[b]) (nm Q[a])
def hole (nm : Nat → List Int32) (Q : List Nat) (m k x : Nat) : Prop := (∀ a b (ha : a < Q.length) (hb : b < Q.length), a < b → b < m → a ≠ k → b ≠ k → ¬ ltS (nm Q[b]) (nm Q[a])) ∧ ∀ b (hb : b < Q.length), k < b → b < m → ¬ ltS (nm Q[b]) (nm x)
theorem not_lt_trans {a b c : List Int32} (h1 : ¬ ltS b a) (h2 : ¬ ltS c b) : ¬ ltS c a := by
  intro h
  rcases ltS_tri a b with e | e | e
  · exact h2 (ltS_trans h e)
  · subst e; exact h2 h
  · exact h1 e
theorem hole_set {nm : Nat → List Int32} {Q : List Nat} {m k x : Nat} (h : hole nm Q m k x) (hk : k < Q.length) (hl : k = 0 ∨ ∃ h : k - 1 < Q.length, ¬ ltS (nm x) (nm Q[k - 1])) : srtN nm (Q.set k x) m := by
  intro a b ha hb hab hbm
  rw [List.length_set] at ha hb
  rw [List.getElem_set, List.getElem_set]
  by_cases e1 : k = b
  · subst e1
    rw [if_pos rfl, if_neg (by omega)]
    rcases hl with e | ⟨h', hl⟩
    · omega
    · by_cases e2 : a = k - 1
      · subst e2; exact hl
      · exact not_lt_trans (h.1 a (k - 1) ha h' (by omega) (by omega) (by omega) (by omega)) hl
  · rw [if_neg e1]
    by_cases e2 : k = a
    · rw [if_pos e2]; subst e2
      exact h.2 b hb hab hbm
    · rw [if_neg e2]
      exact h.1 a b ha hb hab hbm (fun e => e2 e.symm) (fun e => e1 e.symm)
theorem hole_mv {nm : Nat → List Int32} {Q : List Nat} {m k x : Nat} (h : hole nm Q m k x) (hk : k < Q.length) (h0 : 0 < k) (hkm : k < m) (hl : ltS (nm x) (nm (Q[k - 1]'(by omega)))) : hole nm (Q.set k (Q[k - 1]'(by omega))) m (k - 1) x := by
  refine ⟨fun a b ha hb hab hbm na nb => ?_, fun b hb hkb hbm => ?_⟩
  · rw [List.length_set] at ha hb
    rw [List.getElem_set, List.getElem_set]
    by_cases e1 : k = b
    · subst e1
      rw [if_pos rfl, if_neg (by omega)]
      exact h.1 a (k - 1) ha (by omega) (by omega) (by omega) (by omega) (by omega)
    · rw [if_neg e1]
      by_cases e2 : k = a
      · subst e2; rw [if_pos rfl]
        exact h.1 (k - 1) b (by omega) hb (by omega) hbm (by omega) (by omega)
      · rw [if_neg e2]
        exact h.1 a b ha hb hab hbm (fun e => e2 e.symm) (fun e => e1 e.symm)
  · rw [List.length_set] at hb
    rw [List.getElem_set]
    by_cases e1 : k = b
    · rw [if_pos e1]
      intro e; exact ltS_irr _ (ltS_trans e hl)
    · rw [if_neg e1]
      exact h.2 b hb (by omega) hbm
theorem hole_in {nm : Nat → List Int32} {Q : List Nat} {i : Nat} (hi : i < Q.length) (h : srtN nm Q i) : hole nm Q (i + 1) i Q[i] :=
  ⟨fun a b ha hb hab hbm _ nb => h a b ha hb hab (by omega), fun b hb h1 h2 => by omega⟩
theorem mv_perm {Q : List Nat} {k j x : Nat} (hk : k < Q.length) (hj : j < Q.length) (hn : j ≠ k) : ((Q.set k Q[j]).set j x).Perm (Q.set k x) := by
  rw [List.perm_iff_count]
  intro a
  rw [List.count_set (by rw [List.length_set]; exact hj), List.count_set hk, List.count_set hk, List.getElem_set, if_neg (show ¬ k = j from fun e => hn e.symm)]
  have h1 : (if Q[k] == a then 1 else 0) ≤ List.count a Q := by
    split
    · rename_i h
      have := List.count_pos_iff (a := a) (l := Q) |>.mpr (by rw [← beq_iff_eq.mp h]; exact List.getElem_mem hk)
      omega
    · omega
  generalize (if Q[k] == a then 1 else 0) = u at *
  generalize (if Q[j] == a then 1 else 0) = v at *
  omega
end Ord147
