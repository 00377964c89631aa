/-! A path, printed by the class's Lister. -/
section Path142
/-- a step, as a value -/
def stN (s : List Int32) : Vl := (4, 0, s, .leaf)
def stI (k : Nat) : Vl := (3, (k : Int), [], .leaf)
/-- step i of the Lister's rows -/
def stC (S : SS) (us : List Int32) (i : Nat) (x : Vl) : Prop := (∃ k, x = stI k ∧ k < 4096 ∧ iget (S 76) (Int32.ofNat i) = some (-1) ∧ iget (S 77) (Int32.ofNat i) = some (Int32.ofNat k)) ∨ ∃ s q r, x = stN s ∧ okS s ∧ iget (S 76) (Int32.ofNat i) = some (Int32.ofNat q) ∧ us.drop q = pstr s ++ 58 :: r
def pathT (st : List Vl) : Vl := (5, 0, [], ofL (st.map fun x => ([], x)))
theorem pathT_b (st : List Vl) : bV (pathT st) = 91 :: (jn (st.map bV) ++ [93]) := by
  show 91 :: (bF false (ofL _) ++ [93]) = _
  rw [bF_ofL, List.map_map]
  rfl
theorem stI_b (k : Nat) : bV (stI k) = digF 20 k := by
  show pnum (k : Int) = _
  unfold pnum
  rw [if_neg (by omega)]
  rfl
def tlv (st : List Vl) : List Int32 := if st = [] then [] else 44 :: jn (st.map bV)
theorem jn_v (x : Vl) (st : List Vl) : jn ((x :: st).map bV) = bV x ++ tlv st := by
  unfold tlv
  cases st with
  | nil => simp [jn]
  | cons y st => simp only [List.map_cons, jn, reduceCtorEq, if_false]
theorem tlv_c (x : Vl) (st : List Vl) : tlv (x :: st) = 44 :: (bV x ++ tlv st) := by
  show (if x :: st = [] then _ else _) = _
  rw [if_neg (by simp), jn_v]
theorem path_l {S0 : SS} {o ta : Nat} {us : List Int32} {d : Nat} (hus : tT S0 ta = us) (hl : us.length ≤ 4096) (hA : asc us) (ho : o ≠ ta ∧ o ≠ 75 ∧ o ≠ 76 ∧ o ≠ 77) (h3 : (rd S0 75 3).toNatClampNeg = o) (h2 : (rd S0 75 2).toNatClampNeg = ta) (hd60 : d ≤ 60) : ∀ (st : List Vl) (n k : Nat) (B : List Int32), (∀ i (h : i < st.length), stC S0 us (k + i) st[i]) → k + st.length = d → st.length < n → l_path_l11 n (up S0 o (pv B)) (Int32.ofNat d) (Int32.ofNat k) = some (up S0 o (pv (B ++ ((if k = 0 then jn (st.map bV) else tlv st) ++ [93])))) := by
  intro st
  have r3 : ∀ B, (rd (up S0 o (pv B)) 75 3).toNatClampNeg = o := fun B => by rw [rd_up (fun e => ho.2.1 e.symm)]; exact h3
  have r2 : ∀ B, (rd (up S0 o (pv B)) 75 2).toNatClampNeg = ta := fun B => by rw [rd_up (fun e => ho.2.1 e.symm)]; exact h2
  have e76 : ∀ B, up S0 o (pv B) 76 = S0 76 := fun B => up_ne (fun e => ho.2.2.1 e.symm)
  have e77 : ∀ B, up S0 o (pv B) 77 = S0 77 := fun B => up_ne (fun e => ho.2.2.2 e.symm)
  have et : ∀ B, tT (up S0 o (pv B)) ta = us := fun B => by unfold tT; rw [up_ne (fun e => ho.1 e.symm)]; exact hus
  have sp : ∀ B v, v &&& 255 = v → sput (up S0 o (pv B)) o v = up S0 o (pv (B ++ [v])) := fun B v hv => by rw [sput_pv, hv]
  induction st with
  | nil =>
    intro n k B _ hk hn
    simp only [List.length_nil, Nat.add_zero] at hk
    obtain ⟨n, rfl⟩ : ∃ m, n = m + 1 := ⟨n - 1, by omega⟩
    show (if Int32.ofNat d ≤ Int32.ofNat k then _ else _) = _
    rw [if_pos ((i_le' (by omega) (by omega)).mpr (by omega)), r3, sp _ _ (by decide)]
    congr 4
    split <;> rfl
  | cons x st ih =>
    intro n k B hst hk hn
    simp only [List.length_cons] at hk hn
    obtain ⟨n, rfl⟩ : ∃ m, n = m + 1 := ⟨n - 1, by omega⟩
    have hx : stC S0 us k x := by have := hst 0 (by simp); simpa using this
    have hrest : ∀ i (h : i < st.length), stC S0 us (k + 1 + i) st[i] := fun i h => by
      have := hst (i + 1) (by simp; omega)
      rw [show k + (i + 1) = k + 1 + i by omega] at this
      simpa using this
    have ihk := fun B' => ih n (k + 1) B' hrest (by omega) (by omega)
    have hk1 : ¬ k + 1 = 0 := by omega
    -- one step written, then the rest
    have one : ∀ B', ((iget ((up S0 o (pv B')) 76) (Int32.ofNat k)).bind fun b5 => (if b5 = (-1 : Int32) then ((iget ((up S0 o (pv B')) 77) (Int32.ofNat k)).bind fun b7 => ((l_place (up S0 o (pv B')) ((rd (up S0 o (pv B')) 75 3).toNatClampNeg) b7).bind fun r8 => l_path_l11 n r8 (Int32.ofNat d) (Int32.ofNat k + 1))) else ((t_past (tT (up S0 o (pv B')) ((rd (up S0 o (pv B')) 75 2).toNatClampNeg)) b5).bind fun r10 => ((spart (up S0 o (pv B')) ((rd (up S0 o (pv B')) 75 3).toNatClampNeg) ((rd (up S0 o (pv B')) 75 2).toNatClampNeg) b5 r10).bind fun r12 => l_path_l11 n r12 (Int32.ofNat d) (Int32.ofNat k + 1))))) = some (up S0 o (pv (B' ++ (bV x ++ (tlv st ++ [93]))))) := by
      intro B'
      rw [e76, e77, r3, r2, et, i_a1]
      rcases hx with ⟨j, rfl, hj, i1, i2⟩ | ⟨s, q, r, rfl, hs, i1, i2⟩
      · rw [i1, o_bind, if_pos rfl, i2, o_bind, lplace_val (by omega), o_bind, ihk, if_neg hk1, stI_b, List.append_assoc]
      · have lq := drop_len i2 (by simp [pstr])
        have hp := past_str hl hA hs i2 (by omega)
        have hb : ∀ m : Nat, m < 2147483648 → ¬ Int32.ofNat m < -10000 := fun m hm => by
          rw [show (-10000 : Int32) = Int32.ofInt (-10000) from rfl, i_lt, i_ofInt (by decide) (by decide), i_of (by omega)]; omega
        have hc : ∀ m : Nat, m ≤ 100000 → ¬ (100000 : Int32) < Int32.ofNat m := fun m hm => by
          rw [show (100000 : Int32) = Int32.ofNat 100000 from rfl, i_lt' (by omega) (by omega)]; omega
        have hs0 : tT S0 ta = us := hus
        have spv := spart_pv (S := S0) (o := o) (p := ta) (B := B') (f := Int32.ofNat q) (w := Int32.ofNat (q + (pstr s).length)) ho.1 (hb _ (by omega)) (hc _ (by omega))
        rw [hs0, slice hl i2 (by omega)] at spv
        rw [i1, o_bind, if_neg (i_ne1 (by omega)), hp, o_bind, spv, o_bind, ihk, if_neg hk1, List.append_assoc]
        rfl
    show (if Int32.ofNat d ≤ Int32.ofNat k then _ else _) = _
    rw [if_neg (by rw [i_le' (by omega) (by omega)]; omega)]
    by_cases k0 : k = 0
    · rw [if_pos (by rw [k0]; decide), if_pos k0, jn_v]
      refine (one B).trans ?_
      rw [List.append_assoc]
    · rw [if_neg (by rw [show (0 : Int32) = Int32.ofNat 0 from rfl, i_le' (by omega) (by omega)]; omega), if_neg k0, tlv_c, r3, sp _ _ (by decide)]
      refine (one (B ++ [44])).trans ?_
      simp
/-- the path that the Lister stands at -/
theorem path_val {S0 : SS} {o ta : Nat} {us : List Int32} {st : List Vl} (hus : tT S0 ta = us) (hl : us.length ≤ 4096) (hA : asc us) (ho : o ≠ ta ∧ o ≠ 75 ∧ o ≠ 76 ∧ o ≠ 77) (h3 : (rd S0 75 3).toNatClampNeg = o) (h2 : (rd S0 75 2).toNatClampNeg = ta) (hd : st.length ≤ 60) (hst : ∀ i (h : i < st.length), stC S0 us i st[i]) (B : List Int32) : l_path (up S0 o (pv B)) (Int32.ofNat st.length) = some (up S0 o (pv (B ++ bV (pathT st)))) := by
  unfold l_path
  rw [rd_up (fun e => ho.2.1 e.symm), h3, sput_pv, show (91 : Int32) &&& 255 = 91 from by decide]
  have := path_l hus hl hA ho h3 h2 hd st 10000 0 (B ++ [91]) (fun i h => by rw [Nat.zero_add]; exact hst i h) (by omega) (by omega)
  rw [if_pos rfl] at this
  refine this.trans ?_
  rw [pathT_b]
  simp
end Path142
