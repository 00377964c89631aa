/-! A step of a path, by the reference. -/
section RStep134
theorem aS_ : mp_aS = cstr stS ∧ mp_aE = cstr enS := by decide
theorem bdC_find {S : SS} {ab p k : Nat} {pi : Vl} {s' : List Int32} (h : cat (S ab) p pi) (h6 : pi.1 = 6) (hk : S k = cstr s') (hl : s'.length ≤ 100) : ∃ y, r_named (S ab) (S k) (Int32.ofNat p) 0 = some y ∧ bdC (S ab) y (byN pi s') := by
  have h' := h
  rw [vl6 h6] at h'
  have hlen : (S k).length ≤ 9000 := by rw [hk]; simp [cstr]; omega
  obtain ⟨b1, b2⟩ := h'.by (bs := S k) (p2 := 0) (r' := []) hlen (by rw [List.drop_zero, List.append_nil]; exact hk)
  by_cases hj : (toL pi.2.2.2).findIdx (fun m => m.1 == s') < (toL pi.2.2.2).length
  · obtain ⟨b, n1, n2⟩ := b1 hj
    refine ⟨_, n1, ?_⟩
    unfold byN
    rw [dif_pos hj]
    have := n2.next
    have := n2.1
    exact ⟨b, rfl, by omega, n2⟩
  · refine ⟨-1, b2 hj, ?_⟩
    unfold byN
    rw [dif_neg hj]
    rfl
theorem bdC_bound {S : SS} {ab : Nat} {y : Int32} {o : Option Vl} (h : bdC (S ab) y o) : (okD o → b_bound S ab y = some 1) ∧ (¬ okD o → b_bound S ab y = some 0) := by
  unfold b_bound
  cases o with
  | none =>
    have h : y = -1 := h
    rw [if_pos h]
    exact ⟨fun _ => rfl, fun e => absurd (fun v hv => by cases hv) e⟩
  | some v =>
    obtain ⟨b, hb, hb9, hv⟩ := h
    have hk := hv.2.1.1
    rw [hb, if_neg (i_ne1 (by omega)), hv.kind, o_bind]
    by_cases e0 : v.1 = 0
    · rw [e0, if_pos (by decide)]
      exact ⟨fun _ => rfl, fun e => absurd (fun w hw => by cases hw; exact Or.inl e0) e⟩
    · rw [if_neg (by rw [show (0 : Int32) = Int32.ofNat 0 from rfl, i_inj (by omega) (by omega)]; exact e0)]
      by_cases e3 : v.1 = 3
      · rw [e3, if_pos (by decide)]
        exact ⟨fun _ => rfl, fun e => absurd (fun w hw => by cases hw; exact Or.inr e3) e⟩
      · rw [if_neg (by rw [show (3 : Int32) = Int32.ofNat 3 from rfl, i_inj (by omega) (by omega)]; exact e3)]
        exact ⟨fun e => by rcases e v rfl with e | e; exact absurd e e0; exact absurd e e3, fun _ => rfl⟩
theorem bdC_limit {S : SS} {ab : Nat} {y : Int32} {o : Option Vl} {n d : Nat} (h : bdC (S ab) y o) (ho : okD o) (hn : n ≤ 9000) (hd : d ≤ n) : b_limit S ab y (Int64.ofInt d) (Int64.ofInt n) = some (Int64.ofInt (lim o n d)) := by
  unfold b_limit
  cases o with
  | none =>
    have h : y = -1 := h
    rw [if_pos h, lim_n]
  | some v =>
    obtain ⟨b, hb, hb9, hv⟩ := h
    rw [hb, if_neg (i_ne1 (by omega)), hv.kind, o_bind]
    rcases ho v rfl with e | e
    · rw [e, if_pos (by decide), lim_0 n d e]
    · have hv' := hv
      rw [vl3 e] at hv'
      have hx := hv.2.1.2.1 e
      have z0 : (0 : Int64).toInt = 0 := rfl
      have l1 := l_of (z := v.2.1) (by omega) (by omega)
      have ln := l_of (z := (n : Int)) (by omega) (by omega)
      rw [e, if_neg (by decide), hv'.number, o_bind, lim_3 n d e]
      by_cases hs : v.2.1 < 0
      · have la : (Int64.ofInt v.2.1 + Int64.ofInt n).toInt = v.2.1 + n := by rw [l_add (by rw [l1]; omega) (by rw [ln]; omega), l1, ln]
        rw [if_neg (by rw [lg_ge, l1, z0]; omega), if_pos hs]
        by_cases hs2 : 0 ≤ v.2.1 + n
        · rw [if_pos ((lg_ge _ _).mpr (by rw [la, z0]; exact hs2))]
          congr 1
          apply l_inj
          rw [l_min, la, ln]; omega
        · rw [if_neg (by rw [lg_ge, la, z0]; exact hs2)]
          congr 1
          apply l_inj
          rw [z0]; omega
      · rw [if_pos ((lg_ge _ _).mpr (by rw [l1, z0]; omega)), if_neg hs]
        congr 1
        apply l_inj
        rw [l_min, l1, ln]; omega
theorem part_val {S : SS} {ab p : Nat} {pi : Vl} (h : cat (S ab) p pi) (h6 : pi.1 = 6) (h39 : S 39 = mp_aS) (h40 : S 40 = mp_aE) : (okD (byN pi stS) ∧ okD (byN pi enS) → b_part S ab (Int32.ofNat p) = some 1) ∧ (¬ (okD (byN pi stS) ∧ okD (byN pi enS)) → b_part S ab (Int32.ofNat p) = some 0) := by
  obtain ⟨y1, a1, a2⟩ := bdC_find (k := 39) h h6 (h39.trans aS_.1) (by decide)
  obtain ⟨y2, b1, b2⟩ := bdC_find (k := 40) h h6 (h40.trans aS_.2) (by decide)
  obtain ⟨c1, c2⟩ := bdC_bound a2
  obtain ⟨d1, d2⟩ := bdC_bound b2
  unfold b_part
  rw [a1, o_bind]
  refine ⟨fun ok => ?_, fun nok => ?_⟩
  · rw [c1 ok.1, o_bind, if_neg (by decide), b1, o_bind, d1 ok.2, o_bind, if_neg (by decide)]
  · by_cases o3 : okD (byN pi stS)
    · rw [c1 o3, o_bind, if_neg (by decide), b1, o_bind, d2 (fun e => nok ⟨o3, e⟩), o_bind, if_pos rfl]
    · rw [c2 o3, o_bind, if_pos rfl]
/-- where item or character i of a value is -/
def pos (t : Vl) (p i : Nat) : Nat := if t.1 = 4 then p + 2 + i else bp (p + 2) (blks false (toL t.2.2.2)) i
/-- the reference's spot -/
def spR (S : SS) (aa : Nat) (t : Vl) (w : Option (Nat × Nat)) (l3 : Int32) : Prop := ∃ p, l3 = Int32.ofNat p ∧ p < 9000 ∧ cat (S aa) p t ∧ winO t w ∧ (w = none → rd S 78 17 = Int32.ofNat (p + 2) ∧ rd S 78 18 = Int32.ofNat (p + (cV t).length)) ∧ ((t.1 = 4 ∨ t.1 = 5) → rd S 78 17 = Int32.ofNat (pos t p (winA t w)) ∧ rd S 78 18 = Int32.ofNat (pos t p (winE t w)))
def spRU (S : SS) (aa : Nat) (c : Cu) (l3 : Int32) : Prop := match c with
  | none => l3 = -1
  | some (t, w) => spR S aa t w l3
theorem win_le {t : Vl} {w : Option (Nat × Nat)} (h : winO t w) : winA t w ≤ winE t w ∧ winE t w ≤ size t ∧ winE t w = winA t w + winN t w := by
  cases w with
  | none => exact ⟨by unfold winE winA winN; simp only; omega, by unfold winE winA winN; simp only; omega, rfl⟩
  | some ab =>
    obtain ⟨a, b⟩ := ab
    obtain ⟨h1, h2, -⟩ := h a b rfl
    exact ⟨by unfold winE winA winN; simp only; omega, by unfold winE winA winN; simp only; omega, rfl⟩
/-- blocks of a window -/
theorem win_blk {as r : List Int32} {bs : List (List Int32)} {q i j : Nat} (h : as.drop q = bs.flatten ++ r) (hij : i ≤ j) (hj : j ≤ bs.length) : as.drop (bp q bs i) = ((bs.drop i).take (j - i)).flatten ++ ((bs.drop j).flatten ++ r) ∧ bp q bs j = bp q bs i + ((bs.drop i).take (j - i)).flatten.length := by
  refine ⟨?_, ?_⟩
  · rw [bp_drop h (by omega), ← List.append_assoc, ← List.flatten_append]
    congr 2
    rw [show bs.drop j = (bs.drop i).drop (j - i) by rw [List.drop_drop]; congr 1; omega, List.take_append_drop]
  · unfold bp
    rw [show bs.take j = bs.take i ++ (bs.drop i).take (j - i) by rw [show j = i + (j - i) by omega, List.take_add]; simp, List.flatten_append, List.length_append]
    omega
theorem between_val {S : SS} {aa : Nat} {t : Vl} {w : Option (Nat × Nat)} {l3 : Int32} (h : spR S aa t w l3) (h5 : t.1 = 5) : b_between S aa = some (Int32.ofNat (winN t w)) ∧ winN t w ≤ 4500 := by
  obtain ⟨p, e, hp9, hc, hw, -, hb⟩ := h
  obtain ⟨b1, b2⟩ := hb (Or.inr h5)
  have nx1 := hc.next.2
  obtain ⟨w1, w2, w3⟩ := win_le hw
  have hsz : size t = (toL t.2.2.2).length := by unfold size; rw [if_neg (by omega)]
  have hc' := hc
  rw [vl5 h5] at hc'
  obtain ⟨h9, wv, r, hd⟩ := hc'
  obtain ⟨c1, c2⟩ := cbox_in (Or.inl rfl) hd
  rw [show (5 == 6) = false from rfl] at c1 c2
  have bl := blks_len false (toL t.2.2.2)
  simp only [Bool.false_eq_true, if_false] at bl
  have hh := blks_h (b := false) wv.kids
  have f2 := flat2 _ hh
  have hlen := congrArg List.length c1
  rw [List.length_drop, List.length_append] at hlen
  obtain ⟨g1, g2⟩ := win_blk (i := winA t w) (j := winE t w) c1 w1 (by omega)
  have ep : ∀ i, pos t p i = bp (p + 2) (blks false (toL t.2.2.2)) i := fun i => by unfold pos; rw [if_neg (by omega)]
  have lw : (((blks false (toL t.2.2.2)).drop (winA t w)).take (winE t w - winA t w)).length = winN t w := by rw [List.length_take, List.length_drop]; omega
  have hle : bp (p + 2) (blks false (toL t.2.2.2)) (winE t w) ≤ p + 2 + (blks false (toL t.2.2.2)).flatten.length := by
    unfold bp
    have : ((blks false (toL t.2.2.2)).take (winE t w)).flatten.length + ((blks false (toL t.2.2.2)).drop (winE t w)).flatten.length = (blks false (toL t.2.2.2)).flatten.length := by
      rw [← List.length_append, ← List.flatten_append, List.take_append_drop]
    omega
  refine ⟨?_, by omega⟩
  unfold b_between
  rw [b1, ep]
  have := between_l (S := S) (aa := aa) (by omega) (((blks false (toL t.2.2.2)).drop (winA t w)).take (winE t w - winA t w)) 10000 0 (bp (p + 2) (blks false (toL t.2.2.2)) (winA t w)) (fun x hx => hh x (List.mem_of_mem_drop (List.mem_of_mem_take hx))) g1 (by omega) (by rw [b2, ep, g2]) (by omega)
  rw [Nat.zero_add, lw] at this
  exact this
theorem walk_val {S : SS} {aa : Nat} {t : Vl} {p i k : Nat} (hc : cat (S aa) p t) (h5 : t.1 = 5) (hik : i + k ≤ (toL t.2.2.2).length) : b_walk S aa (Int32.ofNat (pos t p i)) (Int64.ofInt k) = some (Int32.ofNat (pos t p (i + k))) := by
  have hc' := hc
  rw [vl5 h5] at hc'
  obtain ⟨h9, wv, r, hd⟩ := hc'
  obtain ⟨c1, c2⟩ := cbox_in (Or.inl rfl) hd
  rw [show (5 == 6) = false from rfl] at c1 c2
  have bl := blks_len false (toL t.2.2.2)
  simp only [Bool.false_eq_true, if_false] at bl
  have hh := blks_h (b := false) wv.kids
  have f2 := flat2 _ hh
  have hlen := congrArg List.length c1
  rw [List.length_drop, List.length_append] at hlen
  have ep : ∀ i, pos t p i = bp (p + 2) (blks false (toL t.2.2.2)) i := fun i => by unfold pos; rw [if_neg (by omega)]
  have g := bp_drop c1 (j := i) (by omega)
  have := walk_l (S := S) (aa := aa) (k := k) h9 (by omega) ((blks false (toL t.2.2.2)).drop i) 10000 0 (bp (p + 2) (blks false (toL t.2.2.2)) i) (fun x hx => hh x (List.mem_of_mem_drop hx)) g (by omega) (by rw [List.length_drop]; omega) (by omega)
  unfold b_walk
  rw [ep, ep]
  refine (this : b_walk_l6 S aa 10000 (Int64.ofInt k) (Int32.ofNat (bp (p + 2) (blks false (toL t.2.2.2)) i)) 0 = _).trans ?_
  congr 2
  rw [Nat.sub_zero]
  unfold bp
  rw [List.take_add, List.flatten_append, List.length_append]
  omega
end RStep134
