/-! How far a value reaches, read byte by byte. -/
section Scan108
theorem i_inj {a b : Nat} (ha : a < 2147483648) (hb : b < 2147483648) : Int32.ofNat a = Int32.ofNat b ↔ a = b := by
  constructor
  · intro e
    have := congrArg Int32.toInt e
    rw [i_of (by omega), i_of (by omega)] at this
    omega
  · intro e; rw [e]
theorem i_lt' {a b : Nat} (ha : a < 2147483648) (hb : b < 2147483648) : Int32.ofNat a < Int32.ofNat b ↔ a < b := by
  rw [i_lt, i_of (by omega), i_of (by omega)]; omega
theorem i_le' {a b : Nat} (ha : a < 2147483648) (hb : b < 2147483648) : Int32.ofNat a ≤ Int32.ofNat b ↔ a ≤ b := by
  rw [i_le, i_of (by omega), i_of (by omega)]; omega
theorem i_nn {a : Nat} (ha : a < 2147483648) : ¬ Int32.ofNat a < 0 := by
  rw [i_lt, i_of (by omega)]
  have : (0 : Int32).toInt = 0 := rfl
  omega
theorem i_cl {a : Nat} (ha : a < 2147483648) : (Int32.ofNat a).toNatClampNeg = a := by
  rw [i_nat, i_of (by omega)]; omega
theorem i_a1 (a : Nat) : Int32.ofNat a + 1 = Int32.ofNat (a + 1) := (Int32.ofNat_add a 1).symm
theorem i_s1 {a : Nat} (h0 : 0 < a) (ha : a < 2147483648) : Int32.ofNat a + (-1) = Int32.ofNat (a - 1) := by
  apply Int32.toInt_inj.mp
  have h1 : (-1 : Int32).toInt = -1 := rfl
  have h2 : (Int32.ofNat a).toInt = a := i_of (by omega)
  rw [i_add (by omega) (by omega), h1, h2, i_of (by omega)]
  omega
theorem i_z (a : Nat) : (0 : Int32) = Int32.ofNat 0 := rfl
/-- signs below 128 -/
def asc (us : List Int32) : Prop := ∀ u ∈ us, 0 ≤ u ∧ u ≤ 127
theorem asc_at {us : List Int32} (hl : us.length ≤ 4096) (hA : asc us) {p : Nat} (hp : p < us.length) : tby us (Int32.ofNat p) = some us[p] := by
  unfold tby
  rw [if_neg (i_nn (by omega)), i_cl (by omega), List.getElem?_eq_getElem hp]
  obtain ⟨h1, h2⟩ := hA us[p] (List.getElem_mem hp)
  rw [i_le] at h1 h2
  have z0 : (0 : Int32).toInt = 0 := rfl
  have z1 : (127 : Int32).toInt = 127 := rfl
  simp only [Option.map_some]
  congr 1
  apply Int32.toInt_inj.mp
  rw [Int8.toInt_toInt32, Int32.toInt_toInt8, Int.bmod_def]
  omega
theorem tat_in {us : List Int32} (hl : us.length ≤ 4096) {p : Nat} (hp : p < us.length) : tat us (Int32.ofNat p) = us[p] := by
  unfold tat
  rw [if_neg (i_nn (by omega)), i_cl (by omega), List.getD_eq_getElem?_getD, List.getElem?_eq_getElem hp]
  rfl
theorem tat_out {us : List Int32} (hl : us.length ≤ 4096) {p : Nat} (hp : us.length ≤ p) (hb : p < 2147483648) : tat us (Int32.ofNat p) = -1 := by
  unfold tat
  rw [if_neg (i_nn hb), i_cl hb, List.getD_eq_getElem?_getD, List.getElem?_eq_none hp]
  rfl
def sc (c : Bool) : Nat → Nat → List Int32 → Nat
  | _, _, [] => 0
  | k, q, b :: l => if q = 2 then 1 + sc c k 1 l else if q = 1 then (if b = 34 then 1 + sc c k 0 l else if b = 92 then 1 + sc c k 2 l else 1 + sc c k 1 l) else if b = 34 then 1 + sc c k 1 l else if b = 91 ∨ b = 123 then 1 + sc c (k + 1) 0 l else if k = 0 then (if b = 44 ∨ b = 93 ∨ b = 125 ∨ (b = 58 ∧ c = true) then 0 else 1 + sc c 0 0 l) else if b = 93 ∨ b = 125 then 1 + sc c (k - 1) 0 l else 1 + sc c k 0 l
theorem sc_n (c : Bool) (k q : Nat) : sc c k q [] = 0 := by unfold sc; rfl
theorem sc_0 (c : Bool) (k : Nat) (b : Int32) (l : List Int32) : sc c k 0 (b :: l) = if b = 34 then 1 + sc c k 1 l else if b = 91 ∨ b = 123 then 1 + sc c (k + 1) 0 l else if k = 0 then (if b = 44 ∨ b = 93 ∨ b = 125 ∨ (b = 58 ∧ c = true) then 0 else 1 + sc c 0 0 l) else if b = 93 ∨ b = 125 then 1 + sc c (k - 1) 0 l else 1 + sc c k 0 l := rfl
theorem sc_1 (c : Bool) (k : Nat) (b : Int32) (l : List Int32) : sc c k 1 (b :: l) = if b = 34 then 1 + sc c k 0 l else if b = 92 then 1 + sc c k 2 l else 1 + sc c k 1 l := rfl
theorem sc_2 (c : Bool) (k : Nat) (b : Int32) (l : List Int32) : sc c k 2 (b :: l) = 1 + sc c k 1 l := rfl
theorem ns_past {us : List Int32} {cc k z : Int32} {n p : Nat} (hl : us.length ≤ 4096) (hp : us.length ≤ p) (hb : p < 2147483648) : ns_l us cc (n + 1) k z (Int32.ofNat p) = some (Int32.ofNat us.length) := by
  unfold ns_l
  rw [if_pos ((i_le' (by omega) hb).mpr hp)]
theorem ns_sc {us : List Int32} (hl : us.length ≤ 4096) (hA : asc us) {cc : Int32} {c : Bool} (hc : cc = 0 ↔ c = false) : ∀ (n k q p : Nat), us.length < n + p → p ≤ us.length → k ≤ p → (q = 0 ∨ q = 1) → ns_l us cc n (Int32.ofNat k) (Int32.ofNat q) (Int32.ofNat p) = some (Int32.ofNat (p + sc c k q (us.drop p))) := by
  intro n
  induction n using Nat.strongRecOn with
  | ind n ih =>
    intro k q p hn hp hk hq
    cases n with
    | zero => omega
    | succ n =>
      by_cases he : p = us.length
      · rw [ns_past hl (by omega) (by omega), List.drop_of_length_le (by omega)]
        rw [sc_n, Nat.add_zero, he]
      have hp' : p < us.length := by omega
      rw [List.drop_eq_getElem_cons hp']
      unfold ns_l
      rw [if_neg (by rw [i_le' (by omega) (by omega)]; omega), asc_at hl hA hp', o_bind]
      generalize us[p] = b
      have ih1 : ∀ k' q', k' ≤ p + 1 → (q' = 0 ∨ q' = 1) → ns_l us cc n (Int32.ofNat k') (Int32.ofNat q') (Int32.ofNat p + 1) = some (Int32.ofNat (p + (1 + sc c k' q' (us.drop (p + 1))))) := by
        intro k' q' h1 h2
        rw [i_a1, ih n (by omega) k' q' (p + 1) (by omega) (by omega) h1 h2]
        congr 2; omega
      rcases hq with rfl | rfl
      · rw [if_pos (show Int32.ofNat 0 = 0 from rfl)]
        rw [sc_0]
        by_cases b1 : b = 34
        · rw [if_pos b1, if_pos b1]; exact ih1 k 1 (by omega) (Or.inr rfl)
        rw [if_neg b1, if_neg b1]
        by_cases b2 : b = 91
        · rw [if_pos b2, if_pos (Or.inl b2), i_a1]; exact ih1 (k + 1) 0 (by omega) (Or.inl rfl)
        rw [if_neg b2]
        by_cases b3 : b = 123
        · rw [if_pos b3, if_pos (Or.inr b3), i_a1]; exact ih1 (k + 1) 0 (by omega) (Or.inl rfl)
        rw [if_neg b3, if_neg (show ¬ (b = 91 ∨ b = 123) from fun e => e.elim b2 b3)]
        by_cases k0 : k = 0
        · subst k0
          rw [if_pos (show Int32.ofNat 0 = 0 from rfl), if_pos rfl]
          by_cases b4 : b = 44
          · rw [if_pos b4, if_pos (Or.inl b4)]; rfl
          rw [if_neg b4]
          by_cases b5 : b = 93
          · rw [if_pos b5, if_pos (Or.inr (Or.inl b5))]; rfl
          rw [if_neg b5]
          by_cases b6 : b = 125
          · rw [if_pos b6, if_pos (Or.inr (Or.inr (Or.inl b6)))]; rfl
          rw [if_neg b6]
          by_cases b7 : b = 58
          · rw [if_pos b7]
            by_cases c0 : cc = 0
            · rw [if_pos c0, if_neg (show ¬ (b = 44 ∨ b = 93 ∨ b = 125 ∨ (b = 58 ∧ c = true)) by
                rintro (e | e | e | e)
                · exact b4 e
                · exact b5 e
                · exact b6 e
                · rw [hc.mp c0] at e; exact absurd e.2 (by decide))]
              exact ih1 0 0 (by omega) (Or.inl rfl)
            · rw [if_neg c0, if_pos (Or.inr (Or.inr (Or.inr ⟨b7, by
                cases c with
                | true => rfl
                | false => exact absurd (hc.mpr rfl) c0⟩)))]
              rfl
          · rw [if_neg b7, if_neg (show ¬ (b = 44 ∨ b = 93 ∨ b = 125 ∨ (b = 58 ∧ c = true)) by
              rintro (e | e | e | e)
              · exact b4 e
              · exact b5 e
              · exact b6 e
              · exact b7 e.1)]
            exact ih1 0 0 (by omega) (Or.inl rfl)
        · rw [if_neg (by rw [i_z 0, i_inj (by omega) (by omega)]; exact k0), if_neg k0]
          by_cases b5 : b = 93
          · rw [if_pos b5, if_pos (Or.inl b5), i_s1 (by omega) (by omega)]; exact ih1 (k - 1) 0 (by omega) (Or.inl rfl)
          rw [if_neg b5]
          by_cases b6 : b = 125
          · rw [if_pos b6, if_pos (Or.inr b6), i_s1 (by omega) (by omega)]; exact ih1 (k - 1) 0 (by omega) (Or.inl rfl)
          rw [if_neg b6, if_neg (show ¬ (b = 93 ∨ b = 125) from fun e => e.elim b5 b6)]
          exact ih1 k 0 (by omega) (Or.inl rfl)
      · rw [if_neg (show ¬ Int32.ofNat 1 = 0 by decide)]
        rw [sc_1]
        by_cases b1 : b = 34
        · rw [if_pos b1, if_neg (by rw [b1]; decide), if_pos b1]; exact ih1 k 0 (by omega) (Or.inl rfl)
        rw [if_neg b1, if_neg b1]
        by_cases b2 : b = 92
        · rw [if_pos b2, if_pos b2, i_a1, i_a1]
          by_cases h2 : p + 1 = us.length
          · cases n with
            | zero => omega
            | succ n =>
              rw [ns_past hl (by omega) (by omega), List.drop_of_length_le (by omega)]
              rw [sc_n]
              congr 2; omega
          · rw [List.drop_eq_getElem_cons (show p + 1 < us.length by omega)]
            show ns_l us cc n (Int32.ofNat k) (Int32.ofNat 1) (Int32.ofNat (p + 1 + 1)) = _
            rw [ih n (by omega) k 1 (p + 1 + 1) (by omega) (by omega) (by omega) (Or.inr rfl)]
            rw [sc_2]
            congr 2; omega
        · rw [if_neg b2, if_neg b2]; exact ih1 k 1 (by omega) (Or.inr rfl)
end Scan108
