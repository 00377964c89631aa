/-! The reference narrows a window, finds a place. -/
section RNarrow135
/-- only the window has changed -/
def frN (S S' : SS) : Prop := (∀ a, a ≠ 78 → S' a = S a) ∧ (∀ k, k ≠ 17 → k ≠ 18 → rd S' 78 k = rd S 78 k) ∧ (S' 78).length = (S 78).length
theorem frN.refl (S : SS) : frN S S := ⟨fun _ _ => rfl, fun _ _ _ => rfl, rfl⟩
theorem frN.trans {S S1 S2 : SS} (a : frN S S1) (b : frN S1 S2) : frN S S2 := ⟨fun x h => (b.1 x h).trans (a.1 x h), fun k h1 h2 => (b.2.1 k h1 h2).trans (a.2.1 k h1 h2), b.2.2.trans a.2.2⟩
theorem frN_wr (S : SS) (x y : Int32) : frN S (wr (wr S 78 17 x) 78 18 y) := ⟨fun a ha => by rw [wr_ne ha, wr_ne ha], fun k h1 h2 => by rw [rd_wr_j (fun e => h2 e.symm), rd_wr_j (fun e => h1 e.symm)], by rw [wr_len, wr_len]⟩
theorem rd_win (S : SS) (x y : Int32) (h : (S 78).length = 22) : rd (wr (wr S 78 17 x) 78 18 y) 78 17 = x ∧ rd (wr (wr S 78 17 x) 78 18 y) 78 18 = y := by
  refine ⟨?_, ?_⟩
  · rw [rd_wr_j (by decide), rd_wr (by rw [h]; decide)]
  · rw [rd_wr (by rw [wr_len, h]; decide)]
theorem l_max_n (a b : Nat) (ha : a ≤ 100000) (hb : b ≤ 100000) : lmax (Int64.ofInt a) (Int64.ofInt b) = Int64.ofInt ((max a b : Nat) : Int) := by
  apply l_inj
  rw [l_max, l_of (by omega) (by omega), l_of (by omega) (by omega)]
  omega
theorem cat_str_len {as : List Int32} {p : Nat} {t : Vl} (h : cat as p t) (h4 : t.1 = 4) : (cV t).length = size t + 2 := by
  have e : (cV t).length = (cstr t.2.2.1).length := by
    conv => lhs; rw [vl4 h4]
    rfl
  rw [e]
  unfold size
  rw [if_pos h4]
  simp [cstr]
theorem rnarrow_val {S : SS} {aa ab i : Nat} {t pi : Vl} {w : Option (Nat × Nat)} {l3 : Int32} (h78 : (S 78).length = 22) (haa : aa ≠ 78) (h39 : S 39 = mp_aS) (h40 : S 40 = mp_aE) (h : spR S aa t w l3) (hp : cat (S ab) i pi) (h6 : pi.1 = 6) (ok : okW t pi) : ∃ S', b_narrow S aa ab (if t.1 = 5 then 0 else 1) (Int32.ofNat i) = some S' ∧ frN S S' ∧ spR S' aa t (some (nwA pi (winA t w) (winE t w), nwB pi (winA t w) (winE t w))) l3 := by
  obtain ⟨y1, a1, a2⟩ := bdC_find (k := 39) hp h6 (h39.trans aS_.1) (by decide)
  obtain ⟨y2, b1, b2⟩ := bdC_find (k := 40) hp h6 (h40.trans aS_.2) (by decide)
  obtain ⟨hk, o1, o2⟩ := ok
  obtain ⟨p, e, hp9, hc, hw, hn0, hb⟩ := id h
  obtain ⟨r1, r2⟩ := hb hk
  obtain ⟨w1, w2, w3⟩ := win_le hw
  have nwo := nw_ok pi w1
  have en : winE t w - winA t w = winN t w := by omega
  have l1 := lim_le (o := byN pi stS) (n := winN t w) (d := 0) (by omega)
  have l2 := lim_le (o := byN pi enS) (n := winN t w) (d := winN t w) (Nat.le_refl _)
  have eA : nwA pi (winA t w) (winE t w) = winA t w + lim (byN pi stS) (winN t w) 0 := by unfold nwA; rw [en]
  have eB : nwB pi (winA t w) (winE t w) = winA t w + max (lim (byN pi stS) (winN t w) 0) (lim (byN pi enS) (winN t w) (winN t w)) := by unfold nwB; rw [en]
  have nx1 := hc.next.2
  have fin : ∀ x y : Int32, x = Int32.ofNat (pos t p (nwA pi (winA t w) (winE t w))) → y = Int32.ofNat (pos t p (nwB pi (winA t w) (winE t w))) → ∃ S', some (wr (wr S 78 17 x) 78 18 y) = some S' ∧ frN S S' ∧ spR S' aa t (some (nwA pi (winA t w) (winE t w), nwB pi (winA t w) (winE t w))) l3 := by
    intro x y hx hy
    obtain ⟨d1, d2⟩ := rd_win S x y h78
    refine ⟨_, rfl, frN_wr S x y, p, e, hp9, by rw [(frN_wr S x y).1 aa haa]; exact hc, ?_, (fun q => by cases q), fun _ => ⟨d1.trans hx, d2.trans ?_⟩⟩
    · intro a b q
      cases q
      exact ⟨nwo.1, by omega, hk⟩
    · rw [hy]
      congr 2
      show nwB pi (winA t w) (winE t w) = nwA pi (winA t w) (winE t w) + (nwB pi (winA t w) (winE t w) - nwA pi (winA t w) (winE t w))
      omega
  by_cases h5 : t.1 = 5
  · obtain ⟨bw, bn⟩ := between_val h h5
    have hsz : size t = (toL t.2.2.2).length := by unfold size; rw [if_neg (by omega)]
    have lm1 := bdC_limit (n := winN t w) (d := 0) a2 o1 (by omega) (by omega)
    have lm2 := bdC_limit (n := winN t w) (d := winN t w) b2 o2 (by omega) (Nat.le_refl _)
    have wk1 := walk_val (i := winA t w) (k := lim (byN pi stS) (winN t w) 0) hc h5 (by omega)
    have hc1 : ∀ x, cat ((wr S 78 17 x) aa) p t := fun x => by rw [wr_ne haa]; exact hc
    have wk2 : ∀ x, b_walk (wr S 78 17 x) aa (Int32.ofNat (pos t p (winA t w))) (Int64.ofInt ((max (lim (byN pi stS) (winN t w) 0) (lim (byN pi enS) (winN t w) (winN t w)) : Nat) : Int)) = some (Int32.ofNat (pos t p (nwB pi (winA t w) (winE t w)))) := fun x => by rw [walk_val (hc1 x) h5 (by omega), eB]
    unfold b_narrow
    rw [if_pos h5, if_pos rfl, bw, o_bind, a1, o_bind, l_32 _ (by omega)]
    have lm1 : b_limit S ab y1 0 (Int64.ofInt (winN t w)) = some (Int64.ofInt (lim (byN pi stS) (winN t w) 0)) := lm1
    rw [lm1, o_bind, b1, o_bind, lm2, o_bind, r1, wk1, o_bind, l_max_n _ _ (by omega) (by omega), wk2, o_bind]
    exact fin _ _ (by rw [eA]) rfl
  · have h4 : t.1 = 4 := hk.resolve_right h5
    have cl := cat_str_len hc h4
    have ep : ∀ i, pos t p i = p + 2 + i := fun i => by unfold pos; rw [if_pos h4]
    rw [ep] at r1 r2
    have nb : winN t w ≤ 9000 := by have := hc.1; omega
    have es : rd S 78 18 - rd S 78 17 = Int32.ofNat (winN t w) := by
      rw [r1, r2]
      apply Int32.toInt_inj.mp
      have := hc.1
      have q1 : (Int32.ofNat (p + 2 + winE t w)).toInt = ((p + 2 + winE t w : Nat) : Int) := i_of (by omega)
      have q2 : (Int32.ofNat (p + 2 + winA t w)).toInt = ((p + 2 + winA t w : Nat) : Int) := i_of (by omega)
      rw [i_sub (by rw [q1, q2]; omega) (by rw [q1, q2]; omega), q1, q2, i_of (by omega)]
      omega
    have lm1 := bdC_limit (n := winN t w) (d := 0) a2 o1 nb (by omega)
    have lm1 : b_limit S ab y1 0 (Int64.ofInt (winN t w)) = some (Int64.ofInt (lim (byN pi stS) (winN t w) 0)) := lm1
    have lm2 := bdC_limit (n := winN t w) (d := winN t w) b2 o2 nb (Nat.le_refl _)
    have h9 := hc.1
    have cv : ∀ k : Nat, k ≤ 9000 → ((rd S 78 17).toInt64 + Int64.ofInt k).toInt32 = Int32.ofNat (p + 2 + (winA t w + k)) := by
      intro k hk'
      apply l_to32
      · rw [r1, l_32 _ (by omega), l_add (by rw [l_of (by omega) (by omega)]; omega) (by rw [l_of (by omega) (by omega)]; omega), l_of (by omega) (by omega), l_of (by omega) (by omega)]
        omega
      · omega
    unfold b_narrow
    rw [if_neg h5, if_neg (by decide), a1, o_bind, es, l_32 _ (by omega), lm1, o_bind, b1, o_bind, lm2, o_bind, cv _ (by omega), l_max_n _ _ (by omega) (by omega), cv _ (by omega)]
    exact fin _ _ (by rw [ep, eA]) (by rw [ep, eB])
theorem rplace_val {S : SS} {aa : Nat} {t : Vl} {w : Option (Nat × Nat)} {l3 : Int32} {v : Int} (h : spR S aa t w l3) (h5 : t.1 = 5) (hv : -9007199254740991 ≤ v ∧ v ≤ 9007199254740991) : ∃ y, b_place S aa (Int64.ofInt v) = some y ∧ bdC (S aa) y (byP t w v) := by
  obtain ⟨bw, bn⟩ := between_val h h5
  obtain ⟨p, e, hp9, hc, hw, hn0, hb⟩ := id h
  obtain ⟨r1, r2⟩ := hb (Or.inr h5)
  obtain ⟨w1, w2, w3⟩ := win_le hw
  have hsz : size t = (toL t.2.2.2).length := by unfold size; rw [if_neg (by omega)]
  have z0 : (0 : Int64).toInt = 0 := rfl
  have lv := l_of (z := v) (by omega) (by omega)
  have ln : ((Int32.ofNat (winN t w)).toInt64).toInt = winN t w := by rw [l_32 _ (by omega), l_of (by omega) (by omega)]
  have good_ : ∀ x : Int, (if v < 0 then v + winN t w else v) = x → 0 ≤ x → x < winN t w → ∃ y, ((b_walk S aa (rd S 78 17) (Int64.ofInt x)).bind fun r6 => some r6) = some y ∧ bdC (S aa) y (byP t w v) := by
    intro x hx x0 x1
    obtain ⟨k, rfl⟩ : ∃ k : Nat, x = k := ⟨x.toNat, by omega⟩
    have hj : winA t w + k < (toL t.2.2.2).length := by omega
    have wk := walk_val (i := winA t w) (k := k) hc h5 (by omega)
    have hc' := hc
    rw [vl5 h5] at hc'
    have ch := hc'.elem hj
    have ep : pos t p (winA t w + k) = bp (p + 2) (blks false (toL t.2.2.2)) (winA t w + k) := by unfold pos; rw [if_neg (by omega)]
    rw [r1, wk, o_bind]
    refine ⟨_, rfl, ?_⟩
    unfold byP
    simp only
    rw [hx, if_pos ⟨x0, x1⟩, Int.toNat_natCast, List.getElem?_eq_getElem hj]
    have := ch.next
    have := ch.1
    exact ⟨_, by rw [ep], by omega, ch⟩
  have bad_ : ∀ x : Int, (if v < 0 then v + winN t w else v) = x → ¬ (0 ≤ x ∧ x < winN t w) → bdC (S aa) (-1) (byP t w v) := by
    intro x hx hb'
    unfold byP
    simp only
    rw [hx, if_neg hb']
    rfl
  unfold b_place
  rw [bw, o_bind]
  by_cases hs : v < 0
  · have la : (Int64.ofInt v + (Int32.ofNat (winN t w)).toInt64).toInt = v + winN t w := by rw [l_add (by rw [lv]; omega) (by rw [ln]; omega), lv, ln]
    rw [if_neg (by rw [lg_ge, lv, z0]; omega)]
    by_cases c1 : v + winN t w < 0
    · rw [if_pos ((lg_lt _ _).mpr (by rw [la, z0]; exact c1))]
      exact ⟨-1, rfl, bad_ _ (if_pos hs) (by omega)⟩
    · rw [if_neg (by rw [lg_lt, la, z0]; exact c1), if_pos ((lg_lt _ _).mpr (by rw [la, ln]; omega)), l_inj la]
      exact good_ _ (if_pos hs) (by omega) (by omega)
  · rw [if_pos ((lg_ge _ _).mpr (by rw [lv, z0]; omega)), if_neg (by rw [lg_lt, lv, z0]; exact hs)]
    by_cases c2 : v < winN t w
    · rw [if_pos ((lg_lt _ _).mpr (by rw [lv, ln]; exact c2))]
      exact good_ _ (if_neg hs) (by omega) c2
    · rw [if_neg (by rw [lg_lt, lv, ln]; exact c2)]
      exact ⟨-1, rfl, bad_ _ (if_neg hs) (by omega)⟩
end RNarrow135
