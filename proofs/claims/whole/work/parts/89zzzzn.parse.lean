/-! What reading a text of JSON means. -/
section Parse180
abbrev atP' (ts : List Int32) (k : Nat) : Int32 := tat ts (Int32.ofNat k)
def skp (ts : List Int32) (k : Nat) : Nat := k + ((ts.drop k).takeWhile (fun b => sg_blank b != 0)).length
def pEsc (ts : List Int32) (k : Nat) : Option (Int32 × Nat) :=
  if atP' ts (k + 1) = 117 then
    (if sg_hexv (atP' ts (k + 2)) = -1 ∨ sg_hexv (atP' ts (k + 3)) = -1 ∨ sg_hexv (atP' ts (k + 4)) = -1 ∨ sg_hexv (atP' ts (k + 5)) = -1 then none
     else if ((sg_hexv (atP' ts (k + 2)) * 16 + sg_hexv (atP' ts (k + 3))) * 16 + sg_hexv (atP' ts (k + 4))) * 16 + sg_hexv (atP' ts (k + 5)) ≤ 127 then some (((sg_hexv (atP' ts (k + 2)) * 16 + sg_hexv (atP' ts (k + 3))) * 16 + sg_hexv (atP' ts (k + 4))) * 16 + sg_hexv (atP' ts (k + 5)), k + 6) else none)
  else if sg_meaning (atP' ts (k + 1)) = -1 then none else some (sg_meaning (atP' ts (k + 1)), k + 2)
def pChr (ts : List Int32) (k : Nat) : Option (Int32 × Nat) := if atP' ts k = 92 then pEsc ts k else if atP' ts k < 32 then none else if atP' ts k ≤ 126 then some (atP' ts k, k + 1) else none
def pStr (ts : List Int32) : Nat → Nat → Option (List Int32 × Nat)
  | 0, _ => none
  | n + 1, k => if atP' ts k = 34 then some ([], k + 1) else (pChr ts k).bind fun c => (pStr ts n c.2).map fun s => (c.1 :: s.1, s.2)
def sat (a : Nat) (b : Int32) : Nat := if a ≤ 9007199254740991 then a * 10 + (b - 48).toNatClampNeg else a
def digs (ts : List Int32) (k : Nat) : List Int32 := (ts.drop k).takeWhile (fun b => sg_digit b != 0)
def pNum (ts : List Int32) (k : Nat) : Option (Int × Nat) :=
  if sg_digit (atP' ts (if atP' ts k = 45 then k + 1 else k)) = 0 then none
  else if atP' ts (if atP' ts k = 45 then k + 1 else k) = 48 then some (0, (if atP' ts k = 45 then k + 1 else k) + 1)
  else if (digs ts (if atP' ts k = 45 then k + 1 else k)).foldl sat 0 ≤ 9007199254740991 then some (if atP' ts k = 45 then -(((digs ts (if atP' ts k = 45 then k + 1 else k)).foldl sat 0 : Nat) : Int) else ((digs ts (if atP' ts k = 45 then k + 1 else k)).foldl sat 0 : Nat), (if atP' ts k = 45 then k + 1 else k) + (digs ts (if atP' ts k = 45 then k + 1 else k)).length) else none
def pLit (ts w : List Int32) (k : Nat) : Option Nat := if (ts.drop k).take w.length = w then some (k + w.length) else none
def pEl (ts : List Int32) (rec : Nat → Option (Vl × Nat)) : Nat → Nat → Option (List Mb × Nat)
  | 0, _ => none
  | m + 1, k => (rec k).bind fun x => if atP' ts (skp ts x.2) = 44 then (pEl ts rec m (skp ts (skp ts x.2 + 1))).map fun l => (([], x.1) :: l.1, l.2) else if atP' ts (skp ts x.2) = 93 then some ([([], x.1)], skp ts x.2 + 1) else none
def pMe (ts : List Int32) (rec : Nat → Option (Vl × Nat)) : Nat → List (List Int32) → Nat → Option (List Mb × Nat)
  | 0, _, _ => none
  | m + 1, ns, k => if atP' ts k = 34 then (pStr ts 5000 (k + 1)).bind fun s => if s.1 ∈ ns then none else if atP' ts (skp ts s.2) = 58 then (rec (skp ts (skp ts s.2 + 1))).bind fun x => if atP' ts (skp ts x.2) = 44 then (pMe ts rec m (ns ++ [s.1]) (skp ts (skp ts x.2 + 1))).map fun l => ((s.1, x.1) :: l.1, l.2) else if atP' ts (skp ts x.2) = 125 then some ([(s.1, x.1)], skp ts x.2 + 1) else none else none else none
def pVal (ts : List Int32) : Nat → Nat → Option (Vl × Nat)
  | 0, _ => none
  | n + 1, k =>
    if atP' ts k = 91 then (if n = 0 then none else if atP' ts (skp ts (k + 1)) = 93 then some ((5, 0, [], ofL []), skp ts (k + 1) + 1) else (pEl ts (pVal ts n) 5000 (skp ts (k + 1))).map fun l => ((5, 0, [], ofL l.1), l.2))
    else if atP' ts k = 123 then (if n = 0 then none else if atP' ts (skp ts (k + 1)) = 125 then some ((6, 0, [], ofL []), skp ts (k + 1) + 1) else (pMe ts (pVal ts n) 5000 [] (skp ts (k + 1))).map fun l => ((6, 0, [], ofL l.1), l.2))
    else if atP' ts k = 34 then (pStr ts 5000 (k + 1)).map fun s => ((4, 0, s.1, .leaf), s.2)
    else if atP' ts k = 110 then (pLit ts [110, 117, 108, 108] k).map fun e => (vNull, e)
    else if atP' ts k = 102 then (pLit ts [102, 97, 108, 115, 101] k).map fun e => ((1, 0, [], .leaf), e)
    else if atP' ts k = 116 then (pLit ts [116, 114, 117, 101] k).map fun e => ((2, 0, [], .leaf), e)
    else (pNum ts k).map fun x => ((3, x.1, [], .leaf), x.2)
/-- a sign stands within the text -/
theorem at_lt {ts : List Int32} (hl : ts.length ≤ 4096) {k : Nat} (hk : k < 100000) {x : Int32} (h : atP' ts k = x) (hx : x ≠ -1) : ∃ hh : k < ts.length, ts[k] = x ∧ ts.drop k = x :: ts.drop (k + 1) := by
  by_cases c : k < ts.length
  · have := tat_in hl c
    unfold atP' at h
    rw [this] at h
    exact ⟨c, h, by rw [← h]; exact List.drop_eq_getElem_cons c⟩
  · have := tat_out hl (show ts.length ≤ k by omega) (by omega)
    unfold atP' at h
    rw [this] at h
    exact absurd h.symm hx
theorem skp_le (ts : List Int32) (k : Nat) : k ≤ skp ts k ∧ (k ≤ ts.length → skp ts k ≤ ts.length) := by
  unfold skp
  refine ⟨by omega, fun h => ?_⟩
  have := (List.takeWhile_sublist (fun b => sg_blank b != 0) (l := ts.drop k)).length_le
  rw [List.length_drop] at this
  omega
theorem hexv_rng : ∀ b : Int32, sg_hexv b = -1 ∨ (0 ≤ (sg_hexv b).toInt ∧ (sg_hexv b).toInt ≤ 15) := by
  intro b
  unfold sg_hexv
  have e48 : (48 : Int32).toInt = 48 := rfl
  have e57 : (57 : Int32).toInt = 57 := rfl
  have e65 : (65 : Int32).toInt = 65 := rfl
  have e70 : (70 : Int32).toInt = 70 := rfl
  have e97 : (97 : Int32).toInt = 97 := rfl
  have e102 : (102 : Int32).toInt = 102 := rfl
  have e10 : (10 : Int32).toInt = 10 := rfl
  have hb := Int32.toInt_lt b
  have hb2 := Int32.le_toInt b
  have s1 : 48 ≤ b.toInt → (b - 48).toInt = b.toInt - 48 := fun h => by rw [i_sub (by rw [e48]; omega) (by rw [e48]; omega), e48]
  have s2 : 97 ≤ b.toInt → (b - 97 + 10).toInt = b.toInt - 87 := fun h => by
    have : (b - 97).toInt = b.toInt - 97 := by rw [i_sub (by rw [e97]; omega) (by rw [e97]; omega), e97]
    rw [i_add (by rw [this, e10]; omega) (by rw [this, e10]; omega), this, e10]
    omega
  have s3 : 65 ≤ b.toInt → (b - 65 + 10).toInt = b.toInt - 55 := fun h => by
    have : (b - 65).toInt = b.toInt - 65 := by rw [i_sub (by rw [e65]; omega) (by rw [e65]; omega), e65]
    rw [i_add (by rw [this, e10]; omega) (by rw [this, e10]; omega), this, e10]
    omega
  simp only [i_lt, e48, e57, e65, e70, e97, e102]
  repeat' split
  all_goals first | (left; rfl) | (right; (first | rw [s1 (by omega)] | rw [s2 (by omega)] | rw [s3 (by omega)]); omega)
/-- a character that was read -/
def chOK (ts : List Int32) (k : Nat) (c : Int32) (e : Nat) : Prop := (0 ≤ c ∧ c ≤ 127) ∧ (esc c).length + k ≤ e ∧ k < e ∧ e ≤ ts.length
theorem esc_6 : ∀ n, n < 128 → (esc (Int32.ofNat n)).length ≤ 6 := by decide +kernel
theorem esc_p : ∀ n, n < 127 → 32 ≤ n → n ≠ 34 → n ≠ 92 → esc (Int32.ofNat n) = [Int32.ofNat n] := by decide +kernel
theorem mean_k : ∀ b : Int32, sg_meaning b ≠ -1 → (0 ≤ sg_meaning b ∧ sg_meaning b ≤ 127) ∧ (esc (sg_meaning b)).length ≤ 2 ∧ b ≠ -1 := by
  intro b
  unfold sg_meaning
  by_cases h1 : b = 34
  · rw [if_pos h1, h1]; decide
  rw [if_neg h1]
  by_cases h2 : b = 47
  · rw [if_pos h2, h2]; decide
  rw [if_neg h2]
  by_cases h3 : b = 92
  · rw [if_pos h3, h3]; decide
  rw [if_neg h3]
  by_cases h4 : b = 98
  · rw [if_pos h4, h4]; decide
  rw [if_neg h4]
  by_cases h5 : b = 102
  · rw [if_pos h5, h5]; decide
  rw [if_neg h5]
  by_cases h6 : b = 110
  · rw [if_pos h6, h6]; decide
  rw [if_neg h6]
  by_cases h7 : b = 114
  · rw [if_pos h7, h7]; decide
  rw [if_neg h7]
  by_cases h8 : b = 116
  · rw [if_pos h8, h8]; decide
  rw [if_neg h8]
  intro h
  exact absurd rfl h
theorem hexv_m1 : sg_hexv (-1) = -1 := by decide
theorem hex_mul {x y : Int32} {X Y : Int} (hx : x.toInt = X) (hy : y.toInt = Y) (h1 : 0 ≤ X ∧ X ≤ 100000) (h2 : 0 ≤ Y ∧ Y ≤ 15) : (x * 16 + y).toInt = X * 16 + Y := by
  have e16 : (16 : Int32).toInt = 16 := rfl
  have m : (x * 16).toInt = X * 16 := by
    rw [Int32.toInt_mul, hx, e16, Int.bmod_def]
    omega
  rw [i_add (by rw [m, hy]; omega) (by rw [m, hy]; omega), m, hy]
theorem pEsc_ok {ts : List Int32} (hl : ts.length ≤ 4096) {k e : Nat} {c : Int32} (hk : k ≤ 5000) (h : pEsc ts k = some (c, e)) : chOK ts k c e := by
  unfold pEsc at h
  by_cases hu : atP' ts (k + 1) = 117
  · rw [if_pos hu] at h
    by_cases hh : sg_hexv (atP' ts (k + 2)) = -1 ∨ sg_hexv (atP' ts (k + 3)) = -1 ∨ sg_hexv (atP' ts (k + 4)) = -1 ∨ sg_hexv (atP' ts (k + 5)) = -1
    · rw [if_pos hh] at h
      cases h
    · rw [if_neg hh] at h
      have n1 : sg_hexv (atP' ts (k + 2)) ≠ -1 := fun c => hh (Or.inl c)
      have n2 : sg_hexv (atP' ts (k + 3)) ≠ -1 := fun c => hh (Or.inr (Or.inl c))
      have n3 : sg_hexv (atP' ts (k + 4)) ≠ -1 := fun c => hh (Or.inr (Or.inr (Or.inl c)))
      have n4 : sg_hexv (atP' ts (k + 5)) ≠ -1 := fun c => hh (Or.inr (Or.inr (Or.inr c)))
      obtain ⟨l5, -, -⟩ := at_lt hl (k := k + 5) (by omega) rfl (fun c => n4 (by rw [c]; exact hexv_m1))
      have r1 := (hexv_rng _).resolve_left n1
      have r2 := (hexv_rng _).resolve_left n2
      have r3 := (hexv_rng _).resolve_left n3
      have r4 := (hexv_rng _).resolve_left n4
      have m1 := hex_mul (x := sg_hexv (atP' ts (k + 2))) (y := sg_hexv (atP' ts (k + 3))) rfl rfl (by omega) r2
      have m2 := hex_mul m1 (y := sg_hexv (atP' ts (k + 4))) rfl (by omega) r3
      have m3 := hex_mul m2 (y := sg_hexv (atP' ts (k + 5))) rfl (by omega) r4
      by_cases h7 : ((sg_hexv (atP' ts (k + 2)) * 16 + sg_hexv (atP' ts (k + 3))) * 16 + sg_hexv (atP' ts (k + 4))) * 16 + sg_hexv (atP' ts (k + 5)) ≤ 127
      · rw [if_pos h7] at h
        cases h
        have c1 : 0 ≤ ((sg_hexv (atP' ts (k + 2)) * 16 + sg_hexv (atP' ts (k + 3))) * 16 + sg_hexv (atP' ts (k + 4))) * 16 + sg_hexv (atP' ts (k + 5)) := by
          rw [i_le, m3, show (0 : Int32).toInt = 0 from rfl]
          omega
        obtain ⟨n, hn, en⟩ := ch_of ⟨c1, h7⟩
        have := esc_6 n hn
        rw [← en] at this
        exact ⟨⟨c1, h7⟩, by omega, by omega, by omega⟩
      · rw [if_neg h7] at h
        cases h
  · rw [if_neg hu] at h
    by_cases hm : sg_meaning (atP' ts (k + 1)) = -1
    · rw [if_pos hm] at h
      cases h
    · rw [if_neg hm] at h
      cases h
      obtain ⟨c1, c2, c3⟩ := mean_k _ hm
      obtain ⟨l1, -, -⟩ := at_lt hl (k := k + 1) (by omega) rfl c3
      exact ⟨c1, by omega, by omega, by omega⟩
theorem pChr_ok {ts : List Int32} (hl : ts.length ≤ 4096) {k e : Nat} {c : Int32} (hk : k ≤ 5000) (h34 : atP' ts k ≠ 34) (h : pChr ts k = some (c, e)) : chOK ts k c e := by
  unfold pChr at h
  by_cases h9 : atP' ts k = 92
  · rw [if_pos h9] at h
    exact pEsc_ok hl hk h
  rw [if_neg h9] at h
  by_cases h3 : atP' ts k < 32
  · rw [if_pos h3] at h
    cases h
  rw [if_neg h3] at h
  by_cases h1 : atP' ts k ≤ 126
  · rw [if_pos h1] at h
    cases h
    obtain ⟨l1, -, -⟩ := at_lt hl (k := k) (by omega) rfl (fun c => h3 (by rw [c]; decide))
    have c1 : 0 ≤ atP' ts k ∧ atP' ts k ≤ 127 := by
      rw [i_lt, show (32 : Int32).toInt = 32 from rfl] at h3
      rw [i_le, show (126 : Int32).toInt = 126 from rfl] at h1
      rw [i_le, i_le, show (0 : Int32).toInt = 0 from rfl, show (127 : Int32).toInt = 127 from rfl]
      omega
    obtain ⟨n, hn, en⟩ := ch_of c1
    have h3' : 32 ≤ n := by
      rw [en, show (32 : Int32) = Int32.ofNat 32 from rfl, i_lt' (by omega) (by omega)] at h3
      omega
    have h1' : n < 127 := by
      rw [en, show (126 : Int32) = Int32.ofNat 126 from rfl, i_le' (by omega) (by omega)] at h1
      omega
    have := esc_p n h1' h3' (fun e => h34 (by rw [en, e]; rfl)) (fun e => h9 (by rw [en, e]; rfl))
    refine ⟨c1, ?_, by omega, by omega⟩
    rw [en, this]
    simp only [List.length_cons, List.length_nil]
    omega
  · rw [if_neg h1] at h
    cases h
theorem pStr_ok {ts : List Int32} (hl : ts.length ≤ 4096) : ∀ (n k : Nat) (s : List Int32) (e : Nat), k ≤ 5000 → pStr ts n k = some (s, e) → okS s ∧ (s.flatMap esc).length + 1 + k ≤ e ∧ e ≤ ts.length := by
  intro n
  induction n with
  | zero => intro k s e _ h; cases h
  | succ n ih =>
    intro k s e hk h
    unfold pStr at h
    by_cases h34 : atP' ts k = 34
    · rw [if_pos h34] at h
      cases h
      obtain ⟨l1, -, -⟩ := at_lt hl (k := k) (by omega) h34 (by decide)
      exact ⟨fun c hc => (by cases hc), (by rw [List.flatMap_nil, List.length_nil]; omega), by omega⟩
    · rw [if_neg h34] at h
      cases hc : pChr ts k with
      | none => rw [hc] at h; cases h
      | some c =>
        obtain ⟨c, e1⟩ := c
        obtain ⟨a1, a2, a3, a4⟩ := pChr_ok hl hk h34 hc
        rw [hc] at h
        cases hs : pStr ts n e1 with
        | none =>
          have h : ((pStr ts n e1).map fun s => (c :: s.1, s.2)) = some (s, e) := h
          rw [hs] at h
          cases h
        | some x =>
          obtain ⟨s1, e2⟩ := x
          have h : ((pStr ts n e1).map fun s => (c :: s.1, s.2)) = some (s, e) := h
          rw [hs] at h
          cases h
          obtain ⟨b1, b2, b3⟩ := ih e1 s1 e2 (by omega) hs
          refine ⟨fun (x : Int32) (hx : x ∈ c :: s1) => ?_, ?_, b3⟩
          · rcases List.mem_cons.mp hx with g | g
            · rw [g]; exact a1
            · exact b1 x g
          · show ((c :: s1).flatMap esc).length + 1 + k ≤ e2
            rw [List.flatMap_cons, List.length_append]
            omega
end Parse180
