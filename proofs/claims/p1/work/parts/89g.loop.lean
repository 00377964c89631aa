/-! The law's loop. -/
section Loop94
/-- the law's locals in the loop -/
abbrev m_lv (i : Int32) (x5 x6 x7 : Option Value) : mL := [some (.ref 0), some (.ref 41), some (.ref 78), some (.ref 101), some (.int i), x5, x6, x7]
variable {xs : List Int32}
theorem i_sub {a b : Int32} (h1 : -2147483648 ≤ a.toInt - b.toInt) (h2 : a.toInt - b.toInt < 2147483648) : (a - b).toInt = a.toInt - b.toInt := by
  rw [Int32.toInt_sub]
  exact Int.bmod_eq_of_le (by omega) (by omega)
theorem i_add {a b : Int32} (h1 : -2147483648 ≤ a.toInt + b.toInt) (h2 : a.toInt + b.toInt < 2147483648) : (a + b).toInt = a.toInt + b.toInt := by
  rw [Int32.toInt_add]
  exact Int.bmod_eq_of_le (by omega) (by omega)
set_option maxRecDepth 100000 in
/-- the loop's end -/
theorem law_out {i : Nat} {h : mH} {K : Nat × Nat} (h0 : h[0]? = some (1001, xs.map Value.int)) (hl : xs.length ≤ 3072) (hi : i ≤ 4000) (hn : xs.length < i + 6) (x5 x6 x7 : Option Value) : mE 2000 mm254 (23, m_lv (Int32.ofNat i) x5 x6 x7, [], (h, K)) (.returned (some (.int 1)), (h, K)) := by
  have hc : Int32.ofNat (xs.map Value.int).length - 6 < Int32.ofNat i := by
    have e6 : (6 : Int32).toInt = 6 := rfl
    rw [List.length_map, i_lt, i_sub (by rw [i_of (by omega), e6]; omega) (by rw [i_of (by omega), e6]; omega), i_of (by omega), i_of (by omega), e6]
    omega
  refine mE.sn 2 (g' := (26, m_lv (Int32.ofNat i) x5 x6 x7, [.ref 0, .int (Int32.ofNat i)], (h, K))) rfl ?_
  refine mE.aln rfl h0 (by decide) ?_
  refine mE.sn 2 (g' := (30, m_lv (Int32.ofNat i) x5 x6 x7, [.int (Int32.ofNat (xs.map Value.int).length - 6), .int (Int32.ofNat i)], (h, K))) rfl ?_
  refine mE.yes (g1 := (804, m_lv (Int32.ofNat i) x5 x6 x7, [], (h, K))) (g2 := (33, m_lv (Int32.ofNat i) x5 x6 x7, [], (h, K))) (c := Int32.ofNat (xs.map Value.int).length - 6 < Int32.ofNat i) rfl hc ?_
  refine mE.sn 1 (g' := (805, m_lv (Int32.ofNat i) x5 x6 x7, [.int 1], (h, K))) rfl ?_
  exact m_ev.fin rfl
/-- into the loop's body -/
theorem law_in {i : Nat} {h : mH} {K : Nat × Nat} {r : Outcome × mS} (h0 : h[0]? = some (1001, xs.map Value.int)) (hl : xs.length ≤ 3072) (hn : i + 6 ≤ xs.length) {x5 x6 x7 : Option Value} (k : mE 2000 mm254 (33, m_lv (Int32.ofNat i) x5 x6 x7, [], (h, K)) r) : mE 2000 mm254 (23, m_lv (Int32.ofNat i) x5 x6 x7, [], (h, K)) r := by
  have hc : ¬ Int32.ofNat (xs.map Value.int).length - 6 < Int32.ofNat i := by
    have e6 : (6 : Int32).toInt = 6 := rfl
    rw [List.length_map, i_lt, i_sub (by rw [i_of (by omega), e6]; omega) (by rw [i_of (by omega), e6]; omega), i_of (by omega), i_of (by omega), e6]
    omega
  refine mE.sn 2 (g' := (26, m_lv (Int32.ofNat i) x5 x6 x7, [.ref 0, .int (Int32.ofNat i)], (h, K))) rfl ?_
  refine mE.aln rfl h0 (by decide) ?_
  refine mE.sn 2 (g' := (30, m_lv (Int32.ofNat i) x5 x6 x7, [.int (Int32.ofNat (xs.map Value.int).length - 6), .int (Int32.ofNat i)], (h, K))) rfl ?_
  exact mE.no (g1 := (804, m_lv (Int32.ofNat i) x5 x6 x7, [], (h, K))) (g2 := (33, m_lv (Int32.ofNat i) x5 x6 x7, [], (h, K))) (c := Int32.ofNat (xs.map Value.int).length - 6 < Int32.ofNat i) rfl hc k
set_option maxRecDepth 100000 in
/-- to the loop's head again, behind a call -/
theorem law_next {i : Nat} {h : mH} {K : Nat × Nat} {r : Outcome × mS} {x5 x6 x7 : Option Value} (k : mE 2000 mm254 (23, m_lv (Int32.ofNat (i + 6)) x5 x6 x7, [], (h, K)) r) : mE 2000 mm254 (798, m_lv (Int32.ofNat i) x5 x6 x7, [], (h, K)) r := by
  refine mE.sn 2 (g' := (23, m_lv (Int32.ofNat i + 6) x5 x6 x7, [], (h, K))) rfl ?_
  rw [show Int32.ofNat i + 6 = Int32.ofNat (i + 6) from (Int32.ofNat_add i 6).symm]
  exact k
/-- what a call does to the two: from the loop's body back to its head -/
def law_S (i : Nat) (h : mH) (K : Nat × Nat) (h' : mH) (K' : Nat × Nat) : Prop := ∀ r : Outcome × mS, (∀ y5 y6 y7, mE 2000 mm254 (23, m_lv (Int32.ofNat (i + 6)) y5 y6 y7, [], (h', K')) r) → ∀ x5 x6 x7, mE 2000 mm254 (33, m_lv (Int32.ofNat i) x5 x6 x7, [], (h, K)) r
/-- the law's loop, by what holds between two calls -/
theorem law_loop (hl : xs.length ≤ 3072) (Inv : Nat → mH → Nat × Nat → Prop) (hI : ∀ i h K, Inv i h K → h[0]? = some (1001, xs.map Value.int)) (hS : ∀ i h K, Inv i h K → i + 6 ≤ xs.length → ∃ h' K', Inv (i + 6) h' K' ∧ law_S i h K h' K') :
    ∀ (n i : Nat) (h : mH) (K : Nat × Nat), xs.length + 6 ≤ i + n → i ≤ xs.length + 6 → Inv i h K → ∃ S' : mS, ∀ x5 x6 x7, mE 2000 mm254 (23, m_lv (Int32.ofNat i) x5 x6 x7, [], (h, K)) (.returned (some (.int 1)), S') := by
  intro n
  induction n with
  | zero =>
    intro i h K hn hi hv
    exact ⟨(h, K), fun x5 x6 x7 => law_out (hI i h K hv) hl (by omega) (by omega) x5 x6 x7⟩
  | succ n ih =>
    intro i h K hn hi hv
    by_cases hc : i + 6 ≤ xs.length
    · obtain ⟨h', K', v', s⟩ := hS i h K hv hc
      obtain ⟨S', e⟩ := ih (i + 6) h' K' (by omega) (by omega) v'
      exact ⟨S', fun x5 x6 x7 => law_in (hI i h K hv) hl hc (s _ e x5 x6 x7)⟩
    · exact ⟨(h, K), fun x5 x6 x7 => law_out (hI i h K hv) hl (by omega) (by omega) x5 x6 x7⟩
/-- the whole law, by what holds between two calls -/
theorem law_all (hl : xs.length ≤ 3072) (Inv : Nat → mH → Nat × Nat → Prop) (h0 : ∀ h, m_s2 xs h → Inv 0 h (599941, 7139055)) (hI : ∀ i h K, Inv i h K → h[0]? = some (1001, xs.map Value.int)) (hS : ∀ i h K, Inv i h K → i + 6 ≤ xs.length → ∃ h' K', Inv (i + 6) h' K' ∧ law_S i h K h' K') :
    ∃ S' : mS, mE 2000 mm254 (0, m_ent [.ref 0] 8, [], (mp_h0 xs, 600002, 7302232)) (.returned (some (.int 1)), S') := by
  obtain ⟨h, K, S', hs⟩ : ∃ (h : mH) (K : Nat × Nat) (S' : mS), m_s2 xs h ∧ mE 2000 mm254 (0, m_ent [.ref 0] 8, [], (mp_h0 xs, 600002, 7302232)) (.returned (some (.int 1)), S') := by
    obtain ⟨h, hh, hk⟩ := mb_head2 xs
    obtain ⟨S', e⟩ := law_loop hl Inv hI hS (xs.length + 6) 0 h (599941, 7139055) (by omega) (by omega) (h0 h hh)
    exact ⟨h, (599941, 7139055), S', hh, hk _ (e none none none)⟩
  exact ⟨S', hs.2⟩
set_option maxRecDepth 100000 in
/-- a call that does nothing: the script's number is above 10 -/
theorem law_idle {i : Nat} {h : mH} {K : Nat × Nat} {y : Int32} (h0 : h[0]? = some (1001, xs.map Value.int)) (hl : xs.length ≤ 3072) (hy : xs[i]? = some y) (hb : 10 < (y &&& 15).toInt) : law_S i h K h K := by
  intro r k x5 x6 x7
  have hi := (List.getElem?_eq_some_iff.mp hy).1
  have hx : m_ix (Int32.ofNat i) (xs.map Value.int) = some (.int y) := by
    rw [m_ix, if_neg (by rw [i_lt, i_of (by omega)]; have : (0 : Int32).toInt = 0 := rfl; omega), i_nat, i_of (by omega), List.getElem?_map, Int.toNat_natCast, hy]
    rfl
  refine mE.sn 2 (g' := (36, m_lv (Int32.ofNat i) x5 x6 x7, [.int (Int32.ofNat i), .ref 0], (h, K))) rfl ?_
  refine mE.iald (v := .int y) rfl h0 hx ?_
  refine mE.sn 2 (g' := (40, m_lv (Int32.ofNat i) x5 x6 x7, [.int (y &&& 15)], (h, K))) rfl ?_
  have hd : m_tsw 40 758 0 10 #[60, 164, 220, 276, 332, 392, 464, 524, 572, 647, 702] (y &&& 15) = 798 := m_tsw_out _ _ _ _ _ _ (Or.inr hb)
  refine mE.sn 1 (g' := (798, m_lv (Int32.ofNat i) x5 x6 x7, [], (h, K))) (by rw [← hd]; rfl) ?_
  exact law_next (k x5 x6 x7)
end Loop94
