/-! Texts and Papers as they are written: what was put, whether it fits. -/
section Put119
theorem up_up (S : SS) (a : Nat) (l l' : List Int32) : up (up S a l) a l' = up S a l' := by
  funext b
  unfold up
  by_cases e : b = a
  · rw [if_pos e, if_pos e]
  · rw [if_neg e, if_neg e, if_neg e]
theorem up_comm (S : SS) {a b : Nat} (h : a ≠ b) (l l' : List Int32) : up (up S a l) b l' = up (up S b l') a l := by
  funext c
  unfold up
  by_cases e1 : c = a
  · by_cases e2 : c = b
    · exact absurd (e1.symm.trans e2) h
    · rw [if_neg e2, if_pos e1, if_pos e1]
  · by_cases e2 : c = b
    · rw [if_pos e2, if_neg e1, if_pos e2]
    · rw [if_neg e2, if_neg e1, if_neg e1, if_neg e2]
theorem up_self (S : SS) (a : Nat) : up S a (S a) = S := by
  funext b
  unfold up
  by_cases e : b = a
  · rw [if_pos e, e]
  · rw [if_neg e]
/-- a Text or Paper to which B was put -/
def pv (B : List Int32) : List Int32 := (if B.length ≤ 4096 then 0 else 1) :: B.take 4096
theorem pv_T (S : SS) (o : Nat) (B : List Int32) : tT (up S o (pv B)) o = B.take 4096 ∧ tV (up S o (pv B)) o = if B.length ≤ 4096 then 0 else 1 := by
  unfold tT tV
  rw [up_same]
  exact ⟨rfl, rfl⟩
theorem sppu_pv (S : SS) (o : Nat) (B : List Int32) (v : Int32) : sppu (up S o (pv B)) o v = up S o (pv (B ++ [v])) := by
  obtain ⟨e1, e2⟩ := pv_T S o B
  unfold sppu
  rw [e1, e2, up_up]
  congr 1
  unfold pv pputO pput
  rw [List.length_take, List.length_append]
  simp only [List.length_cons, List.length_nil]
  by_cases h1 : B.length < 4096
  · rw [if_neg (show ¬ min 4096 B.length = 4096 by omega), if_neg (show ¬ min 4096 B.length = 4096 by omega), if_pos (show B.length ≤ 4096 by omega), if_pos rfl, if_pos (show B.length + (0 + 1) ≤ 4096 by omega), List.take_of_length_le (by omega), List.take_of_length_le (by rw [List.length_append]; simp only [List.length_cons, List.length_nil]; omega)]
  · rw [if_pos (show min 4096 B.length = 4096 by omega), if_pos (show min 4096 B.length = 4096 by omega), if_neg (show ¬ B.length + (0 + 1) ≤ 4096 by omega), List.take_append_of_le_length (by omega)]
theorem sput_pv (S : SS) (o : Nat) (B : List Int32) (v : Int32) : sput (up S o (pv B)) o v = up S o (pv (B ++ [v &&& 255])) := by
  obtain ⟨e1, e2⟩ := pv_T S o B
  unfold sput
  rw [e1, e2, up_up]
  congr 1
  unfold pv tputO tput
  rw [List.length_take, List.length_append]
  simp only [List.length_cons, List.length_nil]
  by_cases h1 : B.length < 4096
  · rw [if_pos (show min 4096 B.length < 4096 by omega), if_pos (show min 4096 B.length < 4096 by omega), if_pos (show B.length ≤ 4096 by omega), if_pos (show B.length + (0 + 1) ≤ 4096 by omega), List.take_of_length_le (by omega), List.take_of_length_le (by rw [List.length_append]; simp only [List.length_cons, List.length_nil]; omega)]
  · rw [if_neg (show ¬ min 4096 B.length < 4096 by omega), if_neg (show ¬ min 4096 B.length < 4096 by omega), if_neg (show ¬ B.length + (0 + 1) ≤ 4096 by omega), List.take_append_of_le_length (by omega)]
/-- whole bytes -/
def byt (l : List Int32) : Prop := ∀ u ∈ l, u &&& 255 = u
theorem sputs_pv : ∀ (bs : List Int32) (S : SS) (o : Nat) (B : List Int32), byt bs → sputs (up S o (pv B)) o bs = up S o (pv (B ++ bs)) := by
  intro bs S o B hb
  have key : ∀ (bs B : List Int32), byt bs → ((tputs (B.take 4096) (if B.length ≤ 4096 then 0 else 1) bs).2 :: (tputs (B.take 4096) (if B.length ≤ 4096 then 0 else 1) bs).1) = pv (B ++ bs) := by
    intro bs
    induction bs with
    | nil => intro B _; rw [List.append_nil]; rfl
    | cons b bs ih =>
      intro B hb
      have := ih (B ++ [b]) fun u hu => hb u (List.mem_cons_of_mem _ hu)
      rw [List.append_assoc] at this
      rw [show B ++ b :: bs = B ++ ([b] ++ bs) from rfl, ← this]
      have hs := sput_pv (fun _ => []) 0 B b
      rw [hb b List.mem_cons_self] at hs
      have h0 := congrFun hs 0
      unfold sput at h0
      rw [up_same, up_same] at h0
      obtain ⟨e1, e2⟩ := pv_T (fun _ => []) 0 B
      rw [e1, e2] at h0
      unfold pv at h0
      obtain ⟨g1, g2⟩ := List.cons.inj h0
      rw [← g1, ← g2]
      rfl
  obtain ⟨e1, e2⟩ := pv_T S o B
  unfold sputs
  rw [e1, e2, up_up, key bs B hb]
theorem spart_pv {S : SS} {o p : Nat} {B : List Int32} {f w : Int32} (hop : o ≠ p) (hw : ¬ w < -10000) (hf : ¬ 100000 < f) : spart (up S o (pv B)) o p f w = some (up S o (pv (B ++ tcut (tT S p) f w))) := by
  obtain ⟨e1, e2⟩ := pv_T S o B
  unfold spart
  rw [if_neg hop, if_neg hw, if_neg hf, e1, e2, up_up]
  have e3 : tT (up S o (pv B)) p = tT S p := by unfold tT; rw [up_ne (fun e => hop e.symm)]
  rw [e3]
  generalize tcut (tT S p) f w = pt
  congr 2
  unfold pv tpartO tpart
  rw [List.length_take, List.length_append]
  by_cases h1 : B.length ≤ 4096
  · rw [if_pos h1, List.take_of_length_le h1]
    congr 1
    · by_cases h2 : pt.length ≤ 4096 - min 4096 B.length
      · rw [if_pos h2, if_pos (by omega)]
      · rw [if_neg h2, if_neg (by omega)]
    · rw [List.take_append, List.take_of_length_le (show B.length ≤ 4096 from h1), show min 4096 B.length = B.length by omega]
  · rw [if_neg h1, if_neg (show ¬ B.length + pt.length ≤ 4096 by omega)]
    congr 1
    · split <;> rfl
    · rw [List.take_append_of_le_length (show 4096 ≤ B.length by omega), show 4096 - min 4096 B.length = 0 by omega, List.take_zero, List.append_nil]
theorem words_l {o : Nat} {bs : List Int32} (hb : bs.length ≤ 100) : ∀ (n i : Nat) (S : SS) (B : List Int32), bs.length < n + i → i ≤ bs.length → w_words_l2 o bs n (up S o (pv B)) (Int32.ofNat i) = some (up S o (pv (B ++ bs.drop i))) := by
  intro n
  induction n with
  | zero => intro i S B h1 h2; omega
  | succ n ih =>
    intro i S B h1 h2
    unfold w_words_l2
    by_cases e : i = bs.length
    · rw [if_pos ((i_le' (by omega) (by omega)).mpr (by omega)), List.drop_of_length_le (by omega), List.append_nil]
    · have hi : i < bs.length := by omega
      have es : sch bs (Int32.ofNat i) = some bs[i] := by
        unfold sch
        rw [if_neg (i_nn (by omega)), i_cl (by omega), List.getElem?_eq_getElem hi]
      rw [if_neg (by rw [i_le' (by omega) (by omega)]; omega), es, o_bind, sppu_pv, i_a1, ih (i + 1) S _ (by omega) (by omega), List.append_assoc, List.drop_eq_getElem_cons hi]
      rfl
theorem words_pv {o : Nat} {bs : List Int32} (hb : bs.length ≤ 100) (S : SS) (B : List Int32) : w_words (up S o (pv B)) o bs = some (up S o (pv (B ++ bs))) := by
  have := words_l hb 10000 0 S B (o := o) (by omega) (by omega)
  exact this
end Put119
