/-! The reference reads: signs, words, strings, numbers. -/
section ERead185
/-- the reference's Reader at place k, with C written -/
def frE (S T : SS) : Prop := ∀ a, a ≠ 96 → a ≠ 90 → a ≠ 91 → T a = S a
def EK (S : SS) (ts : List Int32) : Prop := (∃ j, S 79 = ts ++ j) ∧ (S 79).length = 4096 ∧ ts.length ≤ 4096 ∧ byt ts
def ek (S T : SS) (ts : List Int32) (k : Nat) (C : List Int32) : Prop := frE S T ∧ T 96 = [79, Int32.ofNat ts.length, Int32.ofNat k, -1, 90] ∧ OutV T C
def badE (S T : SS) : Prop := frE S T ∧ rd T 96 3 ≠ -1 ∧ (T 91).length = 9000
def gdE (S : SS) (ts : List Int32) (r : Option (SS × Int32)) (e : Nat) (C : List Int32) : Prop := ∃ T, r = some (T, 1) ∧ ek S T ts e C
def bdE (S : SS) (r : Option (SS × Int32)) : Prop := ∃ T, r = some (T, 0) ∧ badE S T
theorem OutV.same {S T : SS} {C : List Int32} (h : OutV S C) (h0 : T 90 = S 90) (h1 : T 91 = S 91) : OutV T C := by
  unfold OutV rd
  rw [h0, h1]
  exact h
theorem ek.rr {S T : SS} {ts : List Int32} {k : Nat} {C : List Int32} (h : ek S T ts k C) : rd T 96 0 = 79 ∧ rd T 96 1 = Int32.ofNat ts.length ∧ rd T 96 2 = Int32.ofNat k ∧ rd T 96 4 = 90 := by
  unfold rd
  rw [h.2.1]
  exact ⟨rfl, rfl, rfl, rfl⟩
theorem ek.w2 {S T : SS} {ts : List Int32} {k : Nat} {C : List Int32} (h : ek S T ts k C) (k' : Nat) : ek S (wr T 96 2 (Int32.ofNat k')) ts k' C := by
  refine ⟨fun a h1 h2 h3 => by rw [wr_ne h1]; exact h.1 a h1 h2 h3, ?_, h.2.2.same (wr_ne (by decide)) (wr_ne (by decide))⟩
  unfold wr
  rw [up_same, h.2.1]
  rfl
theorem ek.out {S T T' : SS} {ts : List Int32} {k : Nat} {C C' : List Int32} (h : ek S T ts k C) (ho : OutV T' C') (hf : frO T T') : ek S T' ts k C' :=
  ⟨fun a h1 h2 h3 => by rw [hf a h2 h3]; exact h.1 a h1 h2 h3, by rw [hf 96 (by decide) (by decide)]; exact h.2.1, ho⟩
theorem ek.bad {S T : SS} {ts : List Int32} {k : Nat} {C : List Int32} (h : ek S T ts k C) {p : Int32} (hp : p ≠ -1) : bdE S ((e_fail T p).bind fun r => some (r.1, r.2 &&& 1)) := by
  refine ⟨wr T 96 3 p, ?_, fun a h1 h2 h3 => by rw [wr_ne h1]; exact h.1 a h1 h2 h3, ?_, by rw [wr_ne (by decide)]; exact h.2.2.1⟩
  · unfold e_fail
    rw [o_bind]
    show some (wr T 96 3 p, (0 : Int32) &&& 1) = _
    rw [show (0 : Int32) &&& 1 = 0 from by decide]
  · rw [rd_wr (by rw [h.2.1]; show 3 < 5; decide)]
    exact hp
theorem eat {S T : SS} {ts : List Int32} {k k' : Nat} {C : List Int32} (E : EK S ts) (h : ek S T ts k C) (hk : k' < 100000) : e_at T (Int32.ofNat k') = some (atP' ts k') := by
  obtain ⟨⟨j, e1⟩, e2, e3, e4⟩ := E
  obtain ⟨r0, r1, r2, r4⟩ := h.rr
  unfold e_at atP'
  rw [r1, r0]
  by_cases c : ts.length ≤ k'
  · rw [if_pos ((i_le' (by omega) (by omega)).mpr c), tat_out e3 c (by omega)]
  · rw [if_neg (by rw [i_le' (by omega) (by omega)]; exact c), if_neg (show ¬ (79 : Int32) = 0 by decide), show (79 : Int32).toNatClampNeg = 79 from by decide, h.1 79 (by decide) (by decide) (by decide), iget_in (by omega) (by omega), o_bind, tat_in e3 (by omega)]
    congr 1
    have : (S 79)[k']? = ts[k']? := by rw [e1, List.getElem?_append_left (by omega)]
    rw [List.getElem?_eq_getElem (by omega), List.getElem?_eq_getElem (by omega)] at this
    exact Option.some.inj this
theorem blank_iff (b : Int32) : sg_blank b ≠ 0 ↔ b = 32 ∨ b = 9 ∨ b = 10 ∨ b = 13 := by
  unfold sg_blank
  by_cases h1 : b = 9
  · rw [if_pos h1]; exact ⟨fun _ => Or.inr (Or.inl h1), fun _ => by decide⟩
  rw [if_neg h1]
  by_cases h2 : b = 10
  · rw [if_pos h2]; exact ⟨fun _ => Or.inr (Or.inr (Or.inl h2)), fun _ => by decide⟩
  rw [if_neg h2]
  by_cases h3 : b = 13
  · rw [if_pos h3]; exact ⟨fun _ => Or.inr (Or.inr (Or.inr h3)), fun _ => by decide⟩
  rw [if_neg h3]
  by_cases h4 : b = 32
  · rw [if_pos h4]; exact ⟨fun _ => Or.inl h4, fun _ => by decide⟩
  rw [if_neg h4]
  exact ⟨fun c => absurd rfl c, fun c => by rcases c with c | c | c | c <;> contradiction⟩
theorem eblanks_l {S : SS} {ts : List Int32} {C : List Int32} (E : EK S ts) : ∀ (n k : Nat) (T : SS), ts.length < n + k → 0 < n → k ≤ 5000 → ek S T ts k C → ∃ T', e_blanks_l0 n T = some T' ∧ ek S T' ts (skp ts k) C := by
  have hl := E.2.2.1
  intro n
  induction n with
  | zero => intro k T _ h; omega
  | succ n ih =>
    intro k T h1 _ h5 hT
    unfold e_blanks_l0
    rw [hT.rr.2.2.1, eat E hT (by omega), o_bind, i_a1]
    by_cases c : sg_blank (atP' ts k) = 0
    · have n0 : ¬ (atP' ts k = 32 ∨ atP' ts k = 9 ∨ atP' ts k = 10 ∨ atP' ts k = 13) := fun x => (blank_iff _).mpr x c
      rw [if_neg (fun x => n0 (Or.inl x)), if_neg (fun x => n0 (Or.inr (Or.inl x))), if_neg (fun x => n0 (Or.inr (Or.inr (Or.inl x)))), if_neg (fun x => n0 (Or.inr (Or.inr (Or.inr x)))), skp_no hl (by omega) c]
      exact ⟨T, rfl, hT⟩
    · obtain ⟨s1, s2⟩ := skp_yes hl (by omega) c
      obtain ⟨T', q1, q2⟩ := ih (k + 1) _ (by omega) (by omega) (by omega) (hT.w2 (k + 1))
      rw [s1]
      refine ⟨T', ?_, q2⟩
      rw [q1]
      rcases (blank_iff _).mp c with x | x | x | x
      · rw [if_pos x]
      · rw [x]; rfl
      · rw [x]; rfl
      · rw [x]; rfl
theorem eblanks {S T : SS} {ts : List Int32} {k : Nat} {C : List Int32} (E : EK S ts) (h : ek S T ts k C) (hk : k ≤ 5000) : ∃ T', e_blanks T = some T' ∧ ek S T' ts (skp ts k) C := by
  have hl := E.2.2.1
  exact eblanks_l E 10000 k T (by omega) (by omega) hk h
theorem eword_l {S : SS} {ts bs : List Int32} {C : List Int32} {kd : Int32} (E : EK S ts) (hbs : bs.length ≤ 100) (h1 : ∀ u ∈ bs, u ≠ -1) : ∀ (n i k : Nat) (T : SS), bs.length < n + i → i ≤ bs.length → k ≤ ts.length → ek S T ts k C → ((ts.drop k).take (bs.drop i).length = bs.drop i → gdE S ts (e_word_l2 bs n T kd (Int32.ofNat i)) (k + (bs.drop i).length) (C ++ [kd, 2])) ∧ ((ts.drop k).take (bs.drop i).length ≠ bs.drop i → bdE S (e_word_l2 bs n T kd (Int32.ofNat i))) := by
  have hl := E.2.2.1
  intro n
  induction n with
  | zero => intro i k T h2 h3; omega
  | succ n ih =>
    intro i k T h2 h3 hk hT
    unfold e_word_l2
    by_cases e : i = bs.length
    · obtain ⟨T', q1, q2, q3⟩ := osimple hT.2.2 kd
      rw [if_pos ((i_le' (by omega) (by omega)).mpr (by omega)), List.drop_of_length_le (by omega), hT.rr.2.2.2, if_neg (show ¬ (90 : Int32) = 0 by decide), q1, o_bind]
      exact ⟨fun _ => ⟨T', rfl, hT.out q2 q3⟩, fun c => absurd rfl c⟩
    · have hi : i < bs.length := by omega
      have es : sch bs (Int32.ofNat i) = some bs[i] := by
        unfold sch
        rw [if_neg (i_nn (by omega)), i_cl (by omega), List.getElem?_eq_getElem hi]
      have n1 := h1 bs[i] (List.getElem_mem hi)
      rw [if_neg (by rw [i_le' (by omega) (by omega)]; omega), hT.rr.2.2.1, eat E hT (by omega), o_bind, es, o_bind, i_a1, i_a1, List.drop_eq_getElem_cons hi]
      by_cases c : atP' ts k = bs[i]
      · obtain ⟨lk, l2, l3⟩ := at_lt hl (by omega) c n1
        obtain ⟨i1, i2⟩ := ih (i + 1) (k + 1) _ (by omega) (by omega) (by omega) (hT.w2 (k + 1))
        rw [if_pos c, l3, List.length_cons, List.take_succ_cons]
        refine ⟨fun q => ?_, fun q => i2 fun r => q (by rw [r])⟩
        have q := (List.cons.inj q).2
        have := i1 q
        rw [show k + 1 + (bs.drop (i + 1)).length = k + ((bs.drop (i + 1)).length + 1) by omega] at this
        exact this
      · rw [if_neg c]
        refine ⟨fun q => ?_, fun _ => hT.bad (i_ne1 (by omega))⟩
        exfalso
        apply c
        rw [List.length_cons] at q
        by_cases d : k < ts.length
        · rw [List.drop_eq_getElem_cons d, List.take_succ_cons] at q
          unfold atP'
          rw [tat_in hl d]
          exact (List.cons.inj q).1
        · rw [show ts.drop k = [] from List.drop_of_length_le (by omega)] at q
          cases q
theorem eword_v {S T : SS} {ts bs : List Int32} {k : Nat} {C : List Int32} {kd : Int32} (E : EK S ts) (hT : ek S T ts k C) (hk : k ≤ ts.length) (hbs : bs.length ≤ 100) (h1 : ∀ u ∈ bs, u ≠ -1) : (∀ e, pLit ts bs k = some e → gdE S ts (e_word T bs kd) e (C ++ [kd, 2])) ∧ (pLit ts bs k = none → bdE S (e_word T bs kd)) := by
  obtain ⟨i1, i2⟩ := eword_l (C := C) (kd := kd) E hbs h1 10000 0 k T (by omega) (by omega) hk hT
  unfold pLit
  by_cases c : (ts.drop k).take bs.length = bs
  · rw [if_pos c]
    exact ⟨fun e h => by cases h; exact i1 c, fun h => by cases h⟩
  · rw [if_neg c]
    exact ⟨fun e h => (by cases h), fun _ => i2 c⟩
theorem ehex (S : SS) (p : Int32) : e_hex S p = some (sg_hexv p) := by
  unfold e_hex sg_hexv
  repeat' split
  all_goals rfl
theorem b256 {u : Int32} (h : u &&& 255 = u) : ∃ n, n < 256 ∧ u = Int32.ofNat n := by
  have h1 : (u &&& 255).toBitVec.toNat ≤ 255 := by
    rw [Int32.toBitVec_and, BitVec.toNat_and]
    exact Nat.and_le_right
  rw [h] at h1
  have e : u.toInt = (u.toBitVec.toNat : Int) := by
    show u.toBitVec.toInt = _
    rw [BitVec.toInt_eq_toNat_of_lt]
    omega
  exact ⟨u.toBitVec.toNat, by omega, i_ofnn e (by omega)⟩
theorem j_l7_S (S S0 : SS) (bs : List Int32) : ∀ (n : Nat) (l3 l4 l5 : Int32), j_idx_l7 S bs n l3 l4 l5 = j_idx_l7 S0 bs n l3 l4 l5 := by
  intro n
  induction n with
  | zero => intro l3 l4 l5; rfl
  | succ n ih =>
    intro l3 l4 l5
    unfold j_idx_l7
    simp only [ih]
def S00 : SS := fun _ => []
theorem j_iS (S : SS) (bs : List Int32) (p : Int32) : j_indexOf S bs p = j_indexOf S00 bs p := by
  unfold j_indexOf j_idx3 j_idx2 j_idx
  rw [j_l7_S S S00]
  rfl
theorem idx_ck : ∀ n, n < 256 → (match j_indexOf S00 k25 (Int32.ofNat n) with
    | some i => if sg_meaning (Int32.ofNat n) = -1 then decide (i < 0) else decide (0 ≤ i) && decide (e_meant S00 i = some (sg_meaning (Int32.ofNat n)))
    | none => false) = true := by decide +kernel
theorem idx_v (S : SS) {n : Nat} (hn : n < 256) : ∃ i, j_indexOf S k25 (Int32.ofNat n) = some i ∧ (sg_meaning (Int32.ofNat n) = -1 → ¬ 0 ≤ i) ∧ (sg_meaning (Int32.ofNat n) ≠ -1 → 0 ≤ i ∧ ∀ S, e_meant S i = some (sg_meaning (Int32.ofNat n))) := by
  have := idx_ck n hn
  rw [j_iS]
  cases hj : j_indexOf S00 k25 (Int32.ofNat n) with
  | none => rw [hj] at this; cases this
  | some i =>
    rw [hj] at this
    refine ⟨i, rfl, fun c => ?_, fun c => ?_⟩
    · simp only [if_pos c, decide_eq_true_eq] at this
      intro d
      rw [i_lt] at this
      rw [i_le] at d
      omega
    · simp only [if_neg c, Bool.and_eq_true, decide_eq_true_eq] at this
      exact ⟨this.1, fun _ => this.2⟩
theorem atB {S : SS} {ts : List Int32} (E : EK S ts) {k : Nat} (hk : k < 100000) : atP' ts k = -1 ∨ ∃ n, n < 256 ∧ atP' ts k = Int32.ofNat n := by
  by_cases c : atP' ts k = -1
  · exact Or.inl c
  · obtain ⟨l1, l2, -⟩ := at_lt E.2.2.1 hk rfl c
    rw [← l2]
    exact Or.inr (b256 (E.2.2.2 _ (List.getElem_mem l1)))
theorem ehex_step {S T : SS} {ts : List Int32} {k j n : Nat} {C : List Int32} {l1 l3 : Int32} (E : EK S ts) (hT : ek S T ts k C) (hk : k ≤ 5000) (hj : j < 4) : (sg_hexv (atP' ts (k + 1)) ≠ -1 → ∃ T', e_escape_l35 (n + 1) T l1 l3 (Int32.ofNat j) = e_escape_l35 n T' l1 (l3 * 16 + sg_hexv (atP' ts (k + 1))) (Int32.ofNat (j + 1)) ∧ ek S T' ts (k + 1) C) ∧ (sg_hexv (atP' ts (k + 1)) = -1 → bdE S (e_escape_l35 (n + 1) T l1 l3 (Int32.ofNat j))) := by
  have h4 : ¬ (4 : Int32) ≤ Int32.ofNat j := by
    rw [show (4 : Int32) = Int32.ofNat 4 from rfl, i_le' (by omega) (by omega)]
    omega
  have hT' := hT.w2 (k + 1)
  rw [e_escape_l35, if_neg h4, hT.rr.2.2.1, i_a1, hT'.rr.2.2.1, eat E hT' (by omega), o_bind, ehex, o_bind, i_a1]
  refine ⟨fun h => ?_, fun h => ?_⟩
  · have := (hexv_rng _).resolve_left h
    rw [if_pos (by rw [i_le]; exact this.1), Int32.mul_comm 16 l3]
    exact ⟨_, rfl, hT'⟩
  · rw [h, if_neg (by decide)]
    exact hT'.bad (i_ne1 (by omega))
theorem eesc {S T : SS} {ts : List Int32} {k : Nat} {C : List Int32} (E : EK S ts) (hT : ek S T ts k C) (hk : k < ts.length) : (∀ c e, pEsc ts k = some (c, e) → gdE S ts (e_escape T) e (C ++ [c])) ∧ (pEsc ts k = none → bdE S (e_escape T)) := by
  have hl := E.2.2.1
  have hT1 := hT.w2 (k + 1)
  unfold pEsc e_escape
  rw [hT.rr.2.2.1, i_a1, hT1.rr.2.2.1, eat E hT1 (by omega), o_bind]
  by_cases hu : atP' ts (k + 1) = 117
  · rw [if_pos hu, if_pos hu]
    have z0 : ∀ x : Int32, 0 * 16 + x = x := fun x => by rw [Int32.zero_mul, Int32.zero_add]
    obtain ⟨s1, t1⟩ := ehex_step (j := 0) (n := 9999) (l1 := Int32.ofNat k) (l3 := 0) E hT1 (by omega) (by decide)
    by_cases g2 : sg_hexv (atP' ts (k + 2)) = -1
    · rw [if_pos (Or.inl g2)]
      exact ⟨fun c e h => (by cases h), fun _ => t1 g2⟩
    obtain ⟨T2, q2, hT2⟩ := s1 g2
    rw [z0] at q2
    have q2 : e_escape_l35 10000 (wr T 96 2 (Int32.ofNat (k + 1))) (Int32.ofNat k) 0 0 = _ := q2
    rw [q2]
    obtain ⟨s1, t1⟩ := ehex_step (j := 1) (n := 9998) (l1 := Int32.ofNat k) (l3 := sg_hexv (atP' ts (k + 1 + 1))) E hT2 (by omega) (by decide)
    by_cases g3 : sg_hexv (atP' ts (k + 3)) = -1
    · rw [if_pos (Or.inr (Or.inl g3))]
      exact ⟨fun c e h => (by cases h), fun _ => t1 g3⟩
    obtain ⟨T3, q3, hT3⟩ := s1 g3
    rw [q3]
    obtain ⟨s1, t1⟩ := ehex_step (j := 2) (n := 9997) (l1 := Int32.ofNat k) (l3 := sg_hexv (atP' ts (k + 1 + 1)) * 16 + sg_hexv (atP' ts (k + 1 + 1 + 1))) E hT3 (by omega) (by decide)
    by_cases g4 : sg_hexv (atP' ts (k + 4)) = -1
    · rw [if_pos (Or.inr (Or.inr (Or.inl g4)))]
      exact ⟨fun c e h => (by cases h), fun _ => t1 g4⟩
    obtain ⟨T4, q4, hT4⟩ := s1 g4
    rw [q4]
    obtain ⟨s1, t1⟩ := ehex_step (j := 3) (n := 9996) (l1 := Int32.ofNat k) (l3 := (sg_hexv (atP' ts (k + 1 + 1)) * 16 + sg_hexv (atP' ts (k + 1 + 1 + 1))) * 16 + sg_hexv (atP' ts (k + 1 + 1 + 1 + 1))) E hT4 (by omega) (by decide)
    by_cases g5 : sg_hexv (atP' ts (k + 5)) = -1
    · rw [if_pos (Or.inr (Or.inr (Or.inr g5)))]
      exact ⟨fun c e h => (by cases h), fun _ => t1 g5⟩
    obtain ⟨T5, q5, hT5⟩ := s1 g5
    rw [q5, if_neg (fun c => c.elim g2 (fun c => c.elim g3 (fun c => c.elim g4 g5)))]
    have v : ∀ l3 : Int32, e_escape_l35 (9995 + 1) T5 (Int32.ofNat k) l3 (Int32.ofNat 4) = if l3 ≤ 127 then ((q_put T5 l3).bind fun r8 => some (wr r8 96 2 ((rd r8 96 2) + 1), 1)) else ((e_fail T5 (Int32.ofNat k)).bind fun r11 => some (r11.1, r11.2 &&& 1)) := by
      intro l3
      rw [e_escape_l35, if_pos (show (4 : Int32) ≤ Int32.ofNat 4 by decide), hT5.rr.2.2.2, if_neg (show ¬ (90 : Int32) = 0 by decide)]
    have v' := v (((sg_hexv (atP' ts (k + 1 + 1)) * 16 + sg_hexv (atP' ts (k + 1 + 1 + 1))) * 16 + sg_hexv (atP' ts (k + 1 + 1 + 1 + 1))) * 16 + sg_hexv (atP' ts (k + 1 + 1 + 1 + 1 + 1)))
    have v' : e_escape_l35 9996 T5 (Int32.ofNat k) (((sg_hexv (atP' ts (k + 1 + 1)) * 16 + sg_hexv (atP' ts (k + 1 + 1 + 1))) * 16 + sg_hexv (atP' ts (k + 1 + 1 + 1 + 1))) * 16 + sg_hexv (atP' ts (k + 1 + 1 + 1 + 1 + 1))) (Int32.ofNat (3 + 1)) = _ := v'
    rw [v']
    by_cases h7 : ((sg_hexv (atP' ts (k + 2)) * 16 + sg_hexv (atP' ts (k + 3))) * 16 + sg_hexv (atP' ts (k + 4))) * 16 + sg_hexv (atP' ts (k + 5)) ≤ 127
    · rw [if_pos h7]
      have h7' : ((sg_hexv (atP' ts (k + 1 + 1)) * 16 + sg_hexv (atP' ts (k + 1 + 1 + 1))) * 16 + sg_hexv (atP' ts (k + 1 + 1 + 1 + 1))) * 16 + sg_hexv (atP' ts (k + 1 + 1 + 1 + 1 + 1)) ≤ 127 := h7
      rw [if_pos h7']
      obtain ⟨T6, p1, p2, p3⟩ := oput hT5.2.2 (((sg_hexv (atP' ts (k + 1 + 1)) * 16 + sg_hexv (atP' ts (k + 1 + 1 + 1))) * 16 + sg_hexv (atP' ts (k + 1 + 1 + 1 + 1))) * 16 + sg_hexv (atP' ts (k + 1 + 1 + 1 + 1 + 1)))
      have hT6 := hT5.out p2 p3
      rw [p1, o_bind, hT6.rr.2.2.1, i_a1]
      refine ⟨fun c e h => ?_, fun h => by cases h⟩
      cases h
      exact ⟨_, rfl, hT6.w2 (k + 6)⟩
    · rw [if_neg h7]
      have h7' : ¬ ((sg_hexv (atP' ts (k + 1 + 1)) * 16 + sg_hexv (atP' ts (k + 1 + 1 + 1))) * 16 + sg_hexv (atP' ts (k + 1 + 1 + 1 + 1))) * 16 + sg_hexv (atP' ts (k + 1 + 1 + 1 + 1 + 1)) ≤ 127 := h7
      rw [if_neg h7']
      exact ⟨fun c e h => (by cases h), fun _ => hT5.bad (i_ne1 (by omega))⟩
  · rw [if_neg hu, if_neg hu, if_neg (show ¬ (0 : Int32) ≤ -1 by decide)]
    rcases atB E (show k + 1 < 100000 by omega) with c | ⟨n, hn, c⟩
    · rw [c, if_neg (show ¬ (0 : Int32) ≤ -1 by decide), if_pos (by decide)]
      exact ⟨fun c e h => (by cases h), fun _ => hT1.bad (i_ne1 (by omega))⟩
    · obtain ⟨i, x1, x2, x3⟩ := idx_v (wr T 96 2 (Int32.ofNat (k + 1))) hn
      have p0 : (0 : Int32) ≤ Int32.ofNat n := by
        rw [show (0 : Int32) = Int32.ofNat 0 from rfl, i_le' (by omega) (by omega)]
        omega
      rw [c, if_pos p0, x1, o_bind]
      by_cases hm : sg_meaning (Int32.ofNat n) = -1
      · rw [if_pos hm, if_neg (x2 hm)]
        exact ⟨fun c e h => (by cases h), fun _ => hT1.bad (i_ne1 (by omega))⟩
      · obtain ⟨x4, x5⟩ := x3 hm
        obtain ⟨T6, p1, p2, p3⟩ := oput hT1.2.2 (sg_meaning (Int32.ofNat n))
        have hT6 := hT1.out p2 p3
        rw [if_neg hm, if_pos x4, hT1.rr.2.2.2, if_neg (show ¬ (90 : Int32) = 0 by decide), x5, o_bind, p1, o_bind, hT6.rr.2.2.1, i_a1]
        refine ⟨fun c e h => ?_, fun h => by cases h⟩
        cases h
        exact ⟨_, rfl, hT6.w2 (k + 2)⟩
theorem estr_l {S : SS} {ts : List Int32} {C0 : List Int32} {row : Int32} (E : EK S ts) (hrow : C0.length ≤ 9000 → row = Int32.ofNat C0.length) : ∀ (m k : Nat) (body : List Int32) (j n : Nat) (T : SS), m + j = 5000 → j < k → k ≤ ts.length → n + j = 10000 → ek S T ts k (C0 ++ 4 :: 0 :: body) → (∀ s e, pStr ts m k = some (s, e) → gdE S ts (e_string_l19 n T row) e (C0 ++ cstr (body ++ s))) ∧ (pStr ts m k = none → bdE S (e_string_l19 n T row)) := by
  have hl := E.2.2.1
  intro m
  induction m with
  | zero => intro k body j n T h1 h2 h3 _ _; omega
  | succ m ih =>
    intro k body j n T h1 h2 h3 h4 hT
    obtain ⟨n, rfl⟩ : ∃ n', n = n' + 1 := ⟨n - 1, by omega⟩
    have hT1 := hT.w2 (k + 1)
    rw [e_string_l19, hT.rr.2.2.1, eat E hT (by omega), o_bind, i_a1, hT1.rr.2.2.2, if_neg (show ¬ (90 : Int32) = 0 by decide), hT.rr.2.2.2, if_neg (show ¬ (90 : Int32) = 0 by decide)]
    by_cases h34 : atP' ts k = 34
    · have e2 : pStr ts (m + 1) k = some ([], k + 1) := by unfold pStr; rw [if_pos h34]
      obtain ⟨T2, p1, p2, p3⟩ := oclose (k := 4) hT1.2.2 hrow
      rw [e2, if_pos h34, p1, o_bind]
      refine ⟨fun s e h => ?_, fun h => by cases h⟩
      cases h
      rw [List.append_nil]
      exact ⟨T2, rfl, hT1.out p2 p3⟩
    have e2 : pStr ts (m + 1) k = (pChr ts k).bind fun c => (pStr ts m c.2).map fun s => (c.1 :: s.1, s.2) := by
      rw [pStr, if_neg h34]
    rw [e2, if_neg h34]
    unfold pChr
    have go : ∀ (c : Int32) (e1 : Nat) (T1 : SS), k < e1 → e1 ≤ ts.length → ek S T1 ts e1 (C0 ++ 4 :: 0 :: body ++ [c]) → (∀ s e, ((pStr ts m e1).map fun s => (c :: s.1, s.2)) = some (s, e) → gdE S ts (e_string_l19 n T1 row) e (C0 ++ cstr (body ++ s))) ∧ (((pStr ts m e1).map fun s => (c :: s.1, s.2)) = none → bdE S (e_string_l19 n T1 row)) := by
      intro c e1 T1 x1 x2 x3
      obtain ⟨i1, i2⟩ := ih e1 (body ++ [c]) (j + 1) n T1 (by omega) (by omega) x2 (by omega) (by
        have : C0 ++ 4 :: 0 :: body ++ [c] = C0 ++ 4 :: 0 :: (body ++ [c]) := by simp
        rw [← this]
        exact x3)
      refine ⟨fun s e h => ?_, fun h => i2 ?_⟩
      · obtain ⟨⟨s', e'⟩, q1, q2⟩ := map_some h
        cases q2
        have := i1 s' e' q1
        rw [List.append_assoc] at this
        exact this
      · cases hp : pStr ts m e1 with
        | none => rfl
        | some x => rw [hp] at h; cases h
    by_cases h92 : atP' ts k = 92
    · obtain ⟨lk, -, -⟩ := at_lt hl (by omega) h92 (by decide)
      obtain ⟨x1, x2⟩ := eesc E hT lk
      rw [if_pos h92, h92, if_neg (show ¬ (92 : Int32) < 32 by decide), if_pos (show (92 : Int32) ≤ 126 by decide), if_pos rfl]
      cases hc : pEsc ts k with
      | none =>
        obtain ⟨T', y1, y2⟩ := x2 hc
        rw [y1, o_bind]
        rw [if_pos rfl]
        exact ⟨fun s e h => (by cases h), fun _ => ⟨T', rfl, y2⟩⟩
      | some ce =>
        obtain ⟨c, e1⟩ := ce
        obtain ⟨a1, a2, a3, a4⟩ := pEsc_ok hl (by omega) hc
        obtain ⟨T', y1, y2⟩ := x1 c e1 hc
        rw [y1, o_bind, o_bind]
        simp only
        rw [if_neg (show ¬ (1 : Int32) = 0 by decide)]
        exact go c e1 T' a3 a4 y2
    · rw [if_neg h92]
      by_cases h32 : atP' ts k < 32
      · rw [if_pos h32, if_pos h32]
        exact ⟨fun s e h => (by cases h), fun _ => hT.bad (i_ne1 (by omega))⟩
      rw [if_neg h32, if_neg h32]
      by_cases h126 : atP' ts k ≤ 126
      · obtain ⟨lk, -, -⟩ := at_lt hl (show k < 100000 by omega) rfl (fun c => h32 (by rw [c]; decide))
        obtain ⟨T2, p1, p2, p3⟩ := oput hT.2.2 (atP' ts k)
        have hT2 := hT.out p2 p3
        rw [if_pos h126, if_pos h126, if_neg h92, p1, o_bind, o_bind, hT2.rr.2.2.1, i_a1]
        exact go _ _ _ (by omega) (by omega) (hT2.w2 (k + 1))
      · rw [if_neg h126, if_neg h126]
        exact ⟨fun s e h => (by cases h), fun _ => hT.bad (i_ne1 (by omega))⟩
theorem estring_v {S T : SS} {ts : List Int32} {k : Nat} {C : List Int32} (E : EK S ts) (hT : ek S T ts k C) (hk : k < ts.length) : (∀ s e, pStr ts 5000 (k + 1) = some (s, e) → gdE S ts (e_string T) e (C ++ cstr s)) ∧ (pStr ts 5000 (k + 1) = none → bdE S (e_string T)) := by
  obtain ⟨T1, row, p1, p2, p3, p4⟩ := oopen hT.2.2 4
  have hT1 := hT.out p2 p3
  unfold e_string
  rw [hT.rr.2.2.2, if_neg (show ¬ (90 : Int32) = 0 by decide), p1, o_bind]
  simp only
  rw [hT1.rr.2.2.1, i_a1]
  exact estr_l (C0 := C) E p4 5000 (k + 1) [] 0 10000 _ rfl (by omega) (by omega) rfl (hT1.w2 (k + 1))
theorem edigit {S T : SS} {ts : List Int32} {k : Nat} {C : List Int32} (E : EK S ts) (hT : ek S T ts k C) (hk : k < 100000) : e_digit T = some (sg_digit (atP' ts k)) := by
  unfold e_digit sg_digit
  rw [hT.rr.2.2.1, eat E hT hk, o_bind]
  repeat' split
  all_goals rfl
theorem enum_l {S : SS} {ts : List Int32} {C : List Int32} {l1 l2 : Int32} (E : EK S ts) (hl1 : l1 ≠ -1) : ∀ (n k a : Nat) (T : SS), ts.length < n + k → 0 < n → k ≤ 5000 → a ≤ 90071992547409919 → ek S T ts k C → ((digs ts k).foldl sat a ≤ 9007199254740991 → gdE S ts (e_number_l82 n T l1 l2 (Int64.ofNat a)) (k + (digs ts k).length) (C ++ cnum (if l2 = 0 then (((digs ts k).foldl sat a : Nat) : Int) else -(((digs ts k).foldl sat a : Nat) : Int)))) ∧ (¬ (digs ts k).foldl sat a ≤ 9007199254740991 → bdE S (e_number_l82 n T l1 l2 (Int64.ofNat a))) := by
  have hl := E.2.2.1
  intro n
  induction n with
  | zero => intro k a T _ h; omega
  | succ n ih =>
    intro k a T h1 _ h5 ha hT
    rw [e_number_l82, edigit E hT (by omega), o_bind]
    by_cases d : sg_digit (atP' ts k) = 0
    · rw [if_pos d, digs_nil hl (by omega) d, hT.rr.2.2.2, if_neg (show ¬ (90 : Int32) = 0 by decide)]
      simp only [List.foldl_nil, List.length_nil, Nat.add_zero]
      refine ⟨fun c => ?_, fun c => ?_⟩
      · rw [if_pos (by rw [lg_le, l_max53, l_natI (by omega)]; omega)]
        by_cases g : l2 = 0
        · obtain ⟨T1, p1, p2, p3⟩ := onum hT.2.2 (a : Int) (by omega)
          rw [if_pos g, if_pos g, l_nat, p1, o_bind]
          exact ⟨T1, rfl, hT.out p2 p3⟩
        · obtain ⟨T1, p1, p2, p3⟩ := onum hT.2.2 (-(a : Int)) (by omega)
          rw [if_neg g, if_neg g, l_nat, ← Int64.ofInt_neg, p1, o_bind]
          exact ⟨T1, rfl, hT.out p2 p3⟩
      · rw [if_neg (by rw [lg_le, l_max53, l_natI (by omega)]; omega)]
        exact hT.bad hl1
    obtain ⟨l1', e1⟩ := digs_cons hl (by omega) d
    obtain ⟨w, w1, w2, w3, -⟩ := dig_d d
    rw [if_neg d, e1, List.length_cons, List.foldl_cons, hT.rr.2.2.1, i_a1, eat E hT (by omega), o_bind, show k + ((digs ts (k + 1)).length + 1) = k + 1 + (digs ts (k + 1)).length by omega]
    by_cases g : 9007199254740991 < a
    · have s : sat a (atP' ts k) = a := by unfold sat; rw [if_neg (by omega)]
      rw [if_pos (by rw [lg_gt, l_max53, l_natI (by omega)]; omega), s]
      exact ih (k + 1) a _ (by omega) (by omega) (by omega) ha (hT.w2 (k + 1))
    · have s : sat a (atP' ts k) = a * 10 + w := by unfold sat; rw [if_pos (by omega), w3]
      have z : 10 * Int64.ofNat a + (atP' ts k).toInt64 - 48 = Int64.ofNat (a * 10 + w) := by
        rw [w2, Int64.sub_eq_add_neg, Int64.add_assoc, ← Int64.sub_eq_add_neg, l_digs w w1, Int64.ofNat_add, Int64.ofNat_mul, Int64.mul_comm]
        rfl
      rw [if_neg (by rw [lg_gt, l_max53, l_natI (by omega)]; omega), s, z]
      exact ih (k + 1) (a * 10 + w) _ (by omega) (by omega) (by omega) (by omega) (hT.w2 (k + 1))
theorem pNum_m {ts : List Int32} {k : Nat} (h : atP' ts k = 45) : pNum ts k = if sg_digit (atP' ts (k + 1)) = 0 then none else if atP' ts (k + 1) = 48 then some (0, k + 1 + 1) else if (digs ts (k + 1)).foldl sat 0 ≤ 9007199254740991 then some (-(((digs ts (k + 1)).foldl sat 0 : Nat) : Int), k + 1 + (digs ts (k + 1)).length) else none := by
  unfold pNum
  simp only [if_pos h]
theorem pNum_p {ts : List Int32} {k : Nat} (h : ¬ atP' ts k = 45) : pNum ts k = if sg_digit (atP' ts k) = 0 then none else if atP' ts k = 48 then some (0, k + 1) else if (digs ts k).foldl sat 0 ≤ 9007199254740991 then some ((((digs ts k).foldl sat 0 : Nat) : Int), k + (digs ts k).length) else none := by
  unfold pNum
  simp only [if_neg h]
theorem enum_v {S T : SS} {ts : List Int32} {k : Nat} {C : List Int32} (E : EK S ts) (hT : ek S T ts k C) (hk : k ≤ ts.length) : (∀ v e, pNum ts k = some (v, e) → gdE S ts (e_number T) e (C ++ cnum v)) ∧ (pNum ts k = none → bdE S (e_number T)) := by
  have hl := E.2.2.1
  have hT1 := hT.w2 (k + 1)
  have z0 : lg_cmp 0 9007199254740991 ≤ 0 := by decide
  unfold e_number
  rw [hT.rr.2.2.1, eat E hT (by omega), o_bind, i_a1]
  by_cases c45 : atP' ts k = 45
  · obtain ⟨lk, -, -⟩ := at_lt hl (by omega) c45 (by decide)
    rw [pNum_m c45, if_pos c45, edigit E hT1 (by omega), o_bind, hT1.rr.2.2.1]
    by_cases h1 : sg_digit (atP' ts (k + 1)) = 0
    · rw [if_pos h1, if_pos h1]
      exact ⟨fun v e h => (by cases h), fun _ => hT1.bad (i_ne1 (by omega))⟩
    rw [if_neg h1, if_neg h1, eat E hT1 (by omega), o_bind, i_a1]
    by_cases h2 : atP' ts (k + 1) = 48
    · have hT2 := hT1.w2 (k + 1 + 1)
      obtain ⟨T3, p1, p2, p3⟩ := onum hT2.2.2 0 (by omega)
      have p1 : q_num (wr (wr T 96 2 (Int32.ofNat (k + 1))) 96 2 (Int32.ofNat (k + 1 + 1))) (-0) = some T3 := p1
      rw [if_pos h2, if_pos h2, if_pos z0, hT2.rr.2.2.2, if_neg (show ¬ (90 : Int32) = 0 by decide), p1, o_bind]
      refine ⟨fun v e h => ?_, fun h => by cases h⟩
      cases h
      exact ⟨T3, rfl, hT2.out p2 p3⟩
    rw [if_neg h2, if_neg h2]
    obtain ⟨i1, i2⟩ := enum_l (l1 := Int32.ofNat k) (l2 := 1) E (i_ne1 (by omega)) 10000 (k + 1) 0 _ (by omega) (by omega) (by omega) (by omega) hT1
    by_cases h3 : (digs ts (k + 1)).foldl sat 0 ≤ 9007199254740991
    · rw [if_pos h3]
      refine ⟨fun v e h => ?_, fun h => by cases h⟩
      cases h
      exact i1 h3
    · rw [if_neg h3]
      exact ⟨fun v e h => (by cases h), fun _ => i2 h3⟩
  · rw [pNum_p c45, if_neg c45, edigit E hT (by omega), o_bind]
    by_cases h1 : sg_digit (atP' ts k) = 0
    · rw [if_pos h1, if_pos h1]
      exact ⟨fun v e h => (by cases h), fun _ => hT.bad (i_ne1 (by omega))⟩
    rw [if_neg h1, if_neg h1]
    by_cases h2 : atP' ts k = 48
    · obtain ⟨T3, p1, p2, p3⟩ := onum hT1.2.2 0 (by omega)
      have p1 : q_num (wr T 96 2 (Int32.ofNat (k + 1))) 0 = some T3 := p1
      rw [if_pos h2, if_pos h2, if_pos z0, hT1.rr.2.2.2, if_neg (show ¬ (90 : Int32) = 0 by decide), p1, o_bind]
      refine ⟨fun v e h => ?_, fun h => by cases h⟩
      cases h
      exact ⟨T3, rfl, hT1.out p2 p3⟩
    rw [if_neg h2, if_neg h2]
    obtain ⟨i1, i2⟩ := enum_l (l1 := Int32.ofNat k) (l2 := 0) E (i_ne1 (by omega)) 10000 k 0 _ (by omega) (by omega) (by omega) (by omega) hT
    by_cases h3 : (digs ts k).foldl sat 0 ≤ 9007199254740991
    · rw [if_pos h3]
      refine ⟨fun v e h => ?_, fun h => by cases h⟩
      cases h
      exact i1 h3
    · rw [if_neg h3]
      exact ⟨fun v e h => (by cases h), fun _ => i2 h3⟩
end ERead185
