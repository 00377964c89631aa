/-! The state, more of it: parts of Texts, Papers, names of what stands there. -/
section More102
variable {d : Nat} {h : mH} {q : Nat × Nat} {us vs : List Int32} {ov ov2 : Int32} {o p : Nat}
theorem i_ofnn {x : Int32} {n : Nat} (h : x.toInt = n) (hn : n < 2147483648) : x = Int32.ofNat n := by
  apply Int32.toInt_inj.mp
  rw [h, i_of (by omega)]
theorem i_max {x y : Int32} : (imax x y).toInt = max x.toInt y.toInt := by
  unfold imax
  by_cases e : x < y
  · rw [if_pos e]; rw [i_lt] at e; omega
  · rw [if_neg e]; rw [i_lt] at e; omega
theorem i_min {x y : Int32} : (imin x y).toInt = min x.toInt y.toInt := by
  unfold imin
  by_cases e : y < x
  · rw [if_pos e]; rw [i_lt] at e; omega
  · rw [if_neg e]; rw [i_lt] at e; omega
/-- a part of a row -/
def tcut (vs : List Int32) (f t : Int32) : List Int32 := (vs.take t.toNatClampNeg).drop f.toNatClampNeg
def tpart (us pt : List Int32) : List Int32 := us ++ pt.take (4096 - us.length)
def tpartO (us : List Int32) (ov : Int32) (pt : List Int32) : Int32 := if pt.length ≤ 4096 - us.length then ov else 1
set_option maxHeartbeats 1000000 in
theorem x61 (hov : ov = 0 ∨ ov = 1) (t : tx h o (o + 1) us ov) (t2 : tx h p (p + 1) vs ov2) (n1 : p ≠ o) (n2 : p ≠ o + 1) (n3 : p + 1 ≠ o) (f w : Int32) (hw : -10000 ≤ w.toInt) (hf : f.toInt ≤ 100000) :
    ∃ h', mE (d + 1) mm61 (0, [some (.ref o), some (.ref p), some (.int f), some (.int w), none, none, none], [], (h, q)) (.returned none, (h', q)) ∧ tx h' o (o + 1) (tpart us (tcut vs f w)) (tpartO us ov (tcut vs f w)) ∧ sm [o, o + 1] h h' := by
  obtain ⟨a1, a2, a3, a4, a5, tail, a6, a7⟩ := id t
  obtain ⟨c1, c2, c3, c4, c5, tail2, c6, c7⟩ := id t2
  obtain ⟨F, hF⟩ : ∃ F, F = f.toNatClampNeg := ⟨_, rfl⟩
  obtain ⟨n, hn⟩ : ∃ n, n = (tcut vs f w).length := ⟨_, rfl⟩
  obtain ⟨m, hm⟩ : ∃ m, m = min n (4096 - us.length) := ⟨_, rfl⟩
  have en : n = min w.toInt.toNat vs.length - F := by
    rw [hn, tcut, List.length_drop, List.length_take, ← hF, i_nat]
  have z0 : (0 : Int32).toInt = 0 := rfl
  have z4 : (4096 : Int32).toInt = 4096 := rfl
  have lF : F = f.toInt.toNat := by rw [hF, i_nat]
  have e1 : imax 0 f = Int32.ofNat F := by
    apply i_ofnn
    · rw [i_max, z0]; omega
    · omega
  have e2 : imax 0 (imin w (Int32.ofNat vs.length) - Int32.ofNat F) = Int32.ofNat n := by
    have b1 : (imin w (Int32.ofNat vs.length)).toInt = min w.toInt vs.length := by rw [i_min, i_of (by omega)]
    have b2 : (Int32.ofNat F).toInt = F := i_of (by omega)
    apply i_ofnn
    · rw [i_max, i_sub (by omega) (by omega), b1, b2, z0]; omega
    · omega
  have e3 : imin (Int32.ofNat n) (4096 - Int32.ofNat us.length) = Int32.ofNat m := by
    have b2 : (Int32.ofNat us.length).toInt = us.length := i_of (by omega)
    apply i_ofnn
    · rw [i_min, i_sub (by omega) (by omega), b2, z4, i_of (by omega)]; omega
    · omega
  have em : (tcut vs f w).take (4096 - us.length) = (tcut vs f w).take m := by
    rw [hm, hn]
    by_cases hle : (tcut vs f w).length ≤ 4096 - us.length
    · rw [Nat.min_eq_left hle, List.take_of_length_le hle, List.take_of_length_le (Nat.le_refl _)]
    · rw [Nat.min_eq_right (by omega)]
  have hm2 : m ≤ 4096 - us.length := by omega
  have lm : ((tcut vs f w).take m).length = m := by rw [List.length_take]; omega
  -- behind the choice of the source's place
  have main : ∀ (sN : Nat), sN + m ≤ 4096 → ((vs.map m_by ++ tail2).drop sN).take m = ((tcut vs f w).take m).map m_by → ∃ h', mE (d + 1) mm61 (54, [some (.ref o), some (.ref p), some (.int f), some (.int w), some (.int (Int32.ofNat F)), some (.int (Int32.ofNat n)), some (.int (Int32.ofNat m))], [.int (Int32.ofNat sN), .ref (p + 1)], (h, q)) (.returned none, (h', q)) ∧ tx h' o (o + 1) (tpart us (tcut vs f w)) (tpartO us ov (tcut vs f w)) ∧ sm [o, o + 1] h h' := by
    intro sN hsN hrow
    have rowE : (us.map m_by ++ tail).take us.length ++ ((vs.map m_by ++ tail2).drop sN).take m ++ (us.map m_by ++ tail).drop (us.length + m) = (tpart us (tcut vs f w)).map m_by ++ tail.drop m := by
      rw [hrow, List.take_append_of_le_length (by rw [List.length_map]; exact Nat.le_refl _), List.take_of_length_le (by rw [List.length_map]; exact Nat.le_refl _), tpart, em, List.map_append]
      congr 1
      rw [List.drop_append, List.length_map, List.drop_of_length_le (by rw [List.length_map]; omega), List.nil_append]
      congr 1
      omega
    have g1 : ∀ {X : mC}, (h.set (o + 1) X)[o]? = some (4, [.ref (o + 1), .int (Int32.ofNat us.length), .int ov]) := by
      intro X
      rw [List.getElem?_set_ne (by omega)]
      exact a3
    have cN : ∀ {k : Nat}, k < 2147483648 → ¬ Int32.ofNat k < 0 ∧ (Int32.ofNat k).toNatClampNeg = k := by
      intro k hk
      refine ⟨?_, ?_⟩
      · rw [i_lt, i_of (by omega), z0]; omega
      · rw [i_nat, i_of (by omega)]; omega
    have ln : Int32.ofNat us.length + Int32.ofNat m = Int32.ofNat (tpart us (tcut vs f w)).length := by
      rw [tpart, List.length_append, em, lm]
      exact (Int32.ofNat_add us.length m).symm
    obtain ⟨ov', hov', hov2⟩ : ∃ ov' : Int32, ov' = tpartO us ov (tcut vs f w) ∧ (ov' = 0 ∨ ov' = 1) := ⟨_, rfl, by unfold tpartO; split; exact hov; exact Or.inr rfl⟩
    have lt : (us.map m_by ++ tail).length = 4096 := by rw [List.length_append, List.length_map]; exact a7
    have lt2 : (vs.map m_by ++ tail2).length = 4096 := by rw [List.length_append, List.length_map]; exact c7
    refine ⟨((h.set (o + 1) (1000, (tpart us (tcut vs f w)).map m_by ++ tail.drop m)).set o (4, [.ref (o + 1), .int (Int32.ofNat us.length + Int32.ofNat m), .int ov])).set o (4, [.ref (o + 1), .int (Int32.ofNat us.length + Int32.ofNat m), .int ov']), ?_, ⟨a1, a2, ?_, ?_, ?_, tail.drop m, ?_, ?_⟩, ?_⟩
    · refine mE.sn 1 (g' := (55, [some (.ref o), some (.ref p), some (.int f), some (.int w), some (.int (Int32.ofNat F)), some (.int (Int32.ofNat n)), some (.int (Int32.ofNat m))], [.ref o, .int (Int32.ofNat sN), .ref (p + 1)], (h, q))) rfl ?_
      refine mE.get rfl a3 rfl ?_
      refine mE.sn 1 (g' := (59, [some (.ref o), some (.ref p), some (.int f), some (.int w), some (.int (Int32.ofNat F)), some (.int (Int32.ofNat n)), some (.int (Int32.ofNat m))], [.ref o, .ref (o + 1), .int (Int32.ofNat sN), .ref (p + 1)], (h, q))) rfl ?_
      refine mE.get rfl a3 rfl ?_
      refine mE.sn 1 (g' := (64, [some (.ref o), some (.ref p), some (.int f), some (.int w), some (.int (Int32.ofNat F)), some (.int (Int32.ofNat n)), some (.int (Int32.ofNat m))], [.int (Int32.ofNat m), .int (Int32.ofNat us.length), .ref (o + 1), .int (Int32.ofNat sN), .ref (p + 1)], (h, q))) rfl ?_
      refine mE.copy (g' := (67, [some (.ref o), some (.ref p), some (.int f), some (.int w), some (.int (Int32.ofNat F)), some (.int (Int32.ofNat n)), some (.int (Int32.ofNat m))], [], (h.set (o + 1) (1000, (tpart us (tcut vs f w)).map m_by ++ tail.drop m), q))) rfl ?_ (Nat.zero_le _) ?_
      · simp only [m_cpy, c6, a6]
        rw [if_pos ⟨trivial, trivial, a2, (cN (by omega)).1, (cN (by omega)).1, (cN (by omega)).1, by rw [(cN (by omega)).2, (cN (by omega)).2, lt2]; omega, by rw [(cN (by omega)).2, (cN (by omega)).2, lt]; omega⟩]
        rw [(cN (k := us.length) (by omega)).2, (cN (k := sN) (by omega)).2, (cN (k := m) (by omega)).2, rowE]
      refine mE.sn 2 (g' := (69, [some (.ref o), some (.ref p), some (.int f), some (.int w), some (.int (Int32.ofNat F)), some (.int (Int32.ofNat n)), some (.int (Int32.ofNat m))], [.ref o, .ref o], (h.set (o + 1) (1000, (tpart us (tcut vs f w)).map m_by ++ tail.drop m), q))) rfl ?_
      refine mE.get rfl g1 rfl ?_
      refine mE.sn 2 (g' := (75, [some (.ref o), some (.ref p), some (.int f), some (.int w), some (.int (Int32.ofNat F)), some (.int (Int32.ofNat n)), some (.int (Int32.ofNat m))], [.int (Int32.ofNat us.length + Int32.ofNat m), .ref o], (h.set (o + 1) (1000, (tpart us (tcut vs f w)).map m_by ++ tail.drop m), q))) rfl ?_
      refine mE.put rfl g1 a1 rfl rfl ?_
      obtain ⟨H, eH⟩ : ∃ H, H = (h.set (o + 1) (1000, (tpart us (tcut vs f w)).map m_by ++ tail.drop m)).set o (4, [.ref (o + 1), .int (Int32.ofNat us.length + Int32.ofNat m), .int ov]) := ⟨_, rfl⟩
      have g2 : H[o]? = some (4, [.ref (o + 1), .int (Int32.ofNat us.length + Int32.ofNat m), .int ov]) := by rw [eH]; exact m_at_set g1
      show mE (d + 1) mm61 (78, [some (.ref o), some (.ref p), some (.int f), some (.int w), some (.int (Int32.ofNat F)), some (.int (Int32.ofNat n)), some (.int (Int32.ofNat m))], [], ((h.set (o + 1) (1000, (tpart us (tcut vs f w)).map m_by ++ tail.drop m)).set o (4, [.ref (o + 1), .int (Int32.ofNat us.length + Int32.ofNat m), .int ov]), q)) _
      rw [← eH]
      have fin : ∀ x : Int32, x = ov' → mE (d + 1) mm61 (98, [some (.ref o), some (.ref p), some (.int f), some (.int w), some (.int (Int32.ofNat F)), some (.int (Int32.ofNat n)), some (.int (Int32.ofNat m))], [.int x, .ref o], (H, q)) (.returned none, (H.set o (4, [.ref (o + 1), .int (Int32.ofNat us.length + Int32.ofNat m), .int ov']), q)) := by
        intro x hx
        rw [hx]
        refine mE.put rfl g2 a1 rfl (by rcases hov2 with e | e <;> rw [e] <;> rfl) ?_
        exact m_ev.fin rfl
      refine mE.sn 2 (g' := (80, [some (.ref o), some (.ref p), some (.int f), some (.int w), some (.int (Int32.ofNat F)), some (.int (Int32.ofNat n)), some (.int (Int32.ofNat m))], [.ref o, .ref o], (H, q))) rfl ?_
      refine mE.get rfl g2 rfl ?_
      refine mE.br (g1 := (86, [some (.ref o), some (.ref p), some (.int f), some (.int w), some (.int (Int32.ofNat F)), some (.int (Int32.ofNat n)), some (.int (Int32.ofNat m))], [.ref o], (H, q))) (g2 := (93, [some (.ref o), some (.ref p), some (.int f), some (.int w), some (.int (Int32.ofNat F)), some (.int (Int32.ofNat n)), some (.int (Int32.ofNat m))], [.ref o], (H, q))) (c := ov = 0) rfl (fun hc => ?_) (fun hc => ?_)
      · refine mE.sn 2 (g' := (90, [some (.ref o), some (.ref p), some (.int f), some (.int w), some (.int (Int32.ofNat F)), some (.int (Int32.ofNat n)), some (.int (Int32.ofNat m))], [.int (Int32.ofNat n), .int (Int32.ofNat m), .ref o], (H, q))) rfl ?_
        refine mE.br (g1 := (97, [some (.ref o), some (.ref p), some (.int f), some (.int w), some (.int (Int32.ofNat F)), some (.int (Int32.ofNat n)), some (.int (Int32.ofNat m))], [.ref o], (H, q))) (g2 := (93, [some (.ref o), some (.ref p), some (.int f), some (.int w), some (.int (Int32.ofNat F)), some (.int (Int32.ofNat n)), some (.int (Int32.ofNat m))], [.ref o], (H, q))) (c := Int32.ofNat n ≤ Int32.ofNat m) rfl (fun hd => ?_) (fun hd => ?_)
        · rw [i_le, i_of (by omega), i_of (by omega)] at hd
          refine mE.sn 1 (g' := (98, [some (.ref o), some (.ref p), some (.int f), some (.int w), some (.int (Int32.ofNat F)), some (.int (Int32.ofNat n)), some (.int (Int32.ofNat m))], [.int 0, .ref o], (H, q))) rfl ?_
          exact fin 0 (by rw [hov', tpartO, if_pos (by omega), hc])
        · rw [i_le, i_of (by omega), i_of (by omega)] at hd
          refine mE.sn 2 (g' := (98, [some (.ref o), some (.ref p), some (.int f), some (.int w), some (.int (Int32.ofNat F)), some (.int (Int32.ofNat n)), some (.int (Int32.ofNat m))], [.int 1, .ref o], (H, q))) rfl ?_
          exact fin 1 (by rw [hov', tpartO, if_neg (by omega)])
      · refine mE.sn 2 (g' := (98, [some (.ref o), some (.ref p), some (.int f), some (.int w), some (.int (Int32.ofNat F)), some (.int (Int32.ofNat n)), some (.int (Int32.ofNat m))], [.int 1, .ref o], (H, q))) rfl ?_
        refine fin 1 ?_
        rw [hov', tpartO]
        rcases hov with e | e
        · exact absurd e hc
        · rw [e]; split <;> rfl
    · rw [m_at_set (m_at_set g1), ln, hov']
    · rw [tpart, List.length_append, em, lm]; omega
    · intro u hu
      rw [tpart] at hu
      rcases List.mem_append.mp hu with hu | hu
      · exact a5 u hu
      · exact c5 u (List.mem_of_mem_take (List.mem_of_mem_drop (List.mem_of_mem_take hu)))
    · rw [List.getElem?_set_ne (by omega), List.getElem?_set_ne (by omega)]
      exact m_at_set a6
    · rw [tpart, List.length_append, em, lm, List.length_drop]; omega
    · exact ((sm.set (by simp)).trans (sm.set (by simp))).trans (sm.set (by simp))
  have walk : ∀ r, mE (d + 1) mm61 (45, [some (.ref o), some (.ref p), some (.int f), some (.int w), some (.int (Int32.ofNat F)), some (.int (Int32.ofNat n)), some (.int (Int32.ofNat m))], [.int (Int32.ofNat m), .ref (p + 1)], (h, q)) r → mE (d + 1) mm61 (0, [some (.ref o), some (.ref p), some (.int f), some (.int w), none, none, none], [], (h, q)) r := by
    intro r k
    refine mE.sn 2 (g' := (2, [some (.ref o), some (.ref p), some (.int f), some (.int w), none, none, none], [.int f, .int 0], (h, q))) rfl ?_
    refine mE.call rfl rfl rfl rfl rfl (x30 0 f) ?_
    rw [e1]
    refine mE.sn 4 (g' := (10, [some (.ref o), some (.ref p), some (.int f), some (.int w), some (.int (Int32.ofNat F)), none, none], [.ref p, .int w, .int 0], (h, q))) rfl ?_
    refine mE.get rfl c3 rfl ?_
    refine mE.call rfl rfl rfl rfl rfl (x29 w _) ?_
    refine mE.sn 2 (g' := (19, [some (.ref o), some (.ref p), some (.int f), some (.int w), some (.int (Int32.ofNat F)), none, none], [.int (imin w (Int32.ofNat vs.length) - Int32.ofNat F), .int 0], (h, q))) rfl ?_
    refine mE.call rfl rfl rfl rfl rfl (x30 0 _) ?_
    rw [e2]
    refine mE.sn 4 (g' := (30, [some (.ref o), some (.ref p), some (.int f), some (.int w), some (.int (Int32.ofNat F)), some (.int (Int32.ofNat n)), none], [.ref o, .int 4096, .int (Int32.ofNat n)], (h, q))) rfl ?_
    refine mE.get rfl a3 rfl ?_
    refine mE.sn 1 (g' := (34, [some (.ref o), some (.ref p), some (.int f), some (.int w), some (.int (Int32.ofNat F)), some (.int (Int32.ofNat n)), none], [.int (4096 - Int32.ofNat us.length), .int (Int32.ofNat n)], (h, q))) rfl ?_
    refine mE.call rfl rfl rfl rfl rfl (x29 _ _) ?_
    rw [e3]
    refine mE.sn 2 (g' := (40, [some (.ref o), some (.ref p), some (.int f), some (.int w), some (.int (Int32.ofNat F)), some (.int (Int32.ofNat n)), some (.int (Int32.ofNat m))], [.ref p], (h, q))) rfl ?_
    refine mE.get rfl c3 rfl ?_
    exact mE.sn 1 (g' := (45, [some (.ref o), some (.ref p), some (.int f), some (.int w), some (.int (Int32.ofNat F)), some (.int (Int32.ofNat n)), some (.int (Int32.ofNat m))], [.int (Int32.ofNat m), .ref (p + 1)], (h, q))) rfl k
  by_cases hz : m = 0
  · obtain ⟨h', e, r⟩ := main 0 (by omega) (by rw [hz, List.take_zero, List.take_zero]; rfl)
    refine ⟨h', walk _ ?_, r⟩
    refine mE.yes (g1 := (53, [some (.ref o), some (.ref p), some (.int f), some (.int w), some (.int (Int32.ofNat F)), some (.int (Int32.ofNat n)), some (.int (Int32.ofNat m))], [.ref (p + 1)], (h, q))) (g2 := (48, [some (.ref o), some (.ref p), some (.int f), some (.int w), some (.int (Int32.ofNat F)), some (.int (Int32.ofNat n)), some (.int (Int32.ofNat m))], [.ref (p + 1)], (h, q))) (c := Int32.ofNat m ≤ 0) rfl (by rw [hz]; decide) ?_
    exact mE.sn 1 (g' := (54, [some (.ref o), some (.ref p), some (.int f), some (.int w), some (.int (Int32.ofNat F)), some (.int (Int32.ofNat n)), some (.int (Int32.ofNat m))], [.int (Int32.ofNat 0), .ref (p + 1)], (h, q))) rfl e
  · obtain ⟨h', e, r⟩ := main F (by omega) (by
      rw [List.drop_append, List.length_map, ← List.map_drop]
      rw [List.take_append_of_le_length (by rw [List.length_map, List.length_drop]; omega), ← List.map_take]
      congr 1
      rw [tcut, ← hF, List.drop_take, List.take_take]
      congr 1
      rw [i_nat]
      omega)
    refine ⟨h', walk _ ?_, r⟩
    refine mE.no (g1 := (53, [some (.ref o), some (.ref p), some (.int f), some (.int w), some (.int (Int32.ofNat F)), some (.int (Int32.ofNat n)), some (.int (Int32.ofNat m))], [.ref (p + 1)], (h, q))) (g2 := (48, [some (.ref o), some (.ref p), some (.int f), some (.int w), some (.int (Int32.ofNat F)), some (.int (Int32.ofNat n)), some (.int (Int32.ofNat m))], [.ref (p + 1)], (h, q))) (c := Int32.ofNat m ≤ 0) rfl (by rw [i_le, i_of (by omega), z0]; omega) ?_
    exact mE.sn 2 (g' := (54, [some (.ref o), some (.ref p), some (.int f), some (.int w), some (.int (Int32.ofNat F)), some (.int (Int32.ofNat n)), some (.int (Int32.ofNat m))], [.int (Int32.ofNat F), .ref (p + 1)], (h, q))) rfl e
end More102
