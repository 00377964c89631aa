/-! PRINTED BY wip/whole (t102): names of what stands there; copy, cut, Papers. -/
section More103
theorem o41 : (41, 5, [1042, 1044, 1046, 1068, 1047, 1067, 1069, 1072, 1075, 4, 0, 0]) ∈ shO := by decide
theorem o47 : (47, 6, [1048, 0]) ∈ shO := by decide
theorem o67 : (67, 7, [4, 0, 0, 1, 0, 0]) ∈ shO := by decide
theorem o68 : (68, 8, [1042, 4, 0, 0]) ∈ shO := by decide
theorem o69 : (69, 9, [1067, 1070, 1071, 0, 4, 4, 1, 1, 1]) ∈ shO := by decide
theorem o70 : (70, 10, [0, 0, 1, 1]) ∈ shO := by decide
theorem o72 : (72, 11, [1067, 1047, 1073, 1074, 0, 0]) ∈ shO := by decide
theorem o73 : (73, 10, [0, 0, 1, 1]) ∈ shO := by decide
theorem o75 : (75, 12, [1076, 1077, 4, 4]) ∈ shO := by decide
theorem o78 : (78, 13, [0, 0, 0, 0, 0, 1079, 1080, 1081, 1090, 1092, 1094, 1096, 0, 1097, 1098, 1099, 1100, 0, 0, 5, 5, 0]) ∈ shO := by decide
theorem o90 : (90, 16, [1091, 0, 1]) ∈ shO := by decide
theorem o96 : (96, 14, [5, 0, 0, 0, 6]) ∈ shO := by decide
def k1 : List Int32 := [110, 117, 108, 108]
theorem m1 : (1, 2, k1) ∈ shS := by decide
def k3 : List Int32 := [110, 117, 108, 108]
theorem m3 : (3, 4, k3) ∈ shS := by decide
def k5 : List Int32 := [102, 97, 108, 115, 101]
theorem m5 : (5, 6, k5) ∈ shS := by decide
def k7 : List Int32 := [116, 114, 117, 101]
theorem m7 : (7, 8, k7) ∈ shS := by decide
def k9 : List Int32 := [34, 115, 116, 97, 114, 116, 34]
theorem m9 : (9, 10, k9) ∈ shS := by decide
def k11 : List Int32 := [34, 101, 110, 100, 34]
theorem m11 : (11, 12, k11) ∈ shS := by decide
def k13 : List Int32 := [110, 117, 108, 108]
theorem m13 : (13, 14, k13) ∈ shS := by decide
def k15 : List Int32 := [110, 117, 108, 108, 44]
theorem m15 : (15, 16, k15) ∈ shS := by decide
def k17 : List Int32 := [110, 117, 108, 108]
theorem m17 : (17, 18, k17) ∈ shS := by decide
def k19 : List Int32 := [110, 117, 108, 108]
theorem m19 : (19, 20, k19) ∈ shS := by decide
def k21 : List Int32 := [102, 97, 108, 115, 101]
theorem m21 : (21, 22, k21) ∈ shS := by decide
def k23 : List Int32 := [116, 114, 117, 101]
theorem m23 : (23, 24, k23) ∈ shS := by decide
def k25 : List Int32 := [34, 92, 47, 98, 102, 110, 114, 116]
theorem m25 : (25, 26, k25) ∈ shS := by decide
def k27 : List Int32 := [110, 117, 108, 108]
theorem m27 : (27, 28, k27) ∈ shS := by decide
def k29 : List Int32 := [102, 97, 108, 115, 101]
theorem m29 : (29, 30, k29) ∈ shS := by decide
def k31 : List Int32 := [116, 114, 117, 101]
theorem m31 : (31, 32, k31) ∈ shS := by decide
def k33 : List Int32 := [98, 116, 110, 102, 114]
theorem m33 : (33, 34, k33) ∈ shS := by decide
def k35 : List Int32 := [117, 48, 48]
theorem m35 : (35, 36, k35) ∈ shS := by decide
def k37 : List Int32 := [48, 49, 50, 51, 52, 53, 54, 55, 56, 57, 97, 98, 99, 100, 101, 102]
theorem m37 : (37, 38, k37) ∈ shS := by decide
variable {d : Nat} {M : mM} {pc : Nat} {ml : mL} {rest : List Value} {h : mH} {q : Nat × Nat} {P : Outcome → mS → Prop} {S : SS} {us vs : List Int32} {ov : Int32} {o p : Nat}
theorem sW.getU {a t b kk' idx len : Nat} {ks : List Nat} (hc : M.2.2.2.2.2[pc]? = some (some (.getfield idx, len, t, b, kk'))) (hs : cs h S) (hp : (a, t, ks) ∈ shO) (hk : ks[b]? = some 6) (hz : ¬ rd S a b = 0) (kk : mW d M (pc + 3, ml, .ref 90 :: rest, (h, q)) P) : mW d M (pc, ml, .ref a :: rest, (h, q)) P := by
  have e : rd S a b = 90 := by
    rcases ((hs.ob hp).2.2 b 6 hk).2.2.2 rfl with e | e
    · exact absurd e hz
    · exact e
  refine sW.getN hc hs hp hk rfl hz ?_
  rw [e]
  exact kk
theorem sW.aast46 {k len : Nat} {j : Int32} {x : Nat} {l' : List Int32} (hc : M.2.2.2.2.2[pc]? = some (some (.aastore, len, 1003, 4, k))) (hs : cs h S) (hx : x ∈ shT) (hj : iset (S 46) j (Int32.ofNat x) = some l') (kk : ∀ h', cs h' (up S 46 l') → mW d M (pc + 1, ml, rest, (h', q)) P) : mW d M (pc, ml, .ref x :: .int j :: .ref 46 :: rest, (h, q)) P := by
  obtain ⟨i1, i2, rfl⟩ := iset_ok hj
  obtain ⟨a1, a2⟩ := (hs.1 46).2.2.2.2.2 rfl
  have t := (hs.gtx hx).2.2.1
  obtain ⟨oo, SS', e, p⟩ := kk _ (hs.upd46 ((S 46).set j.toNatClampNeg (Int32.ofNat x)) (by
    intro y hy
    rcases List.mem_or_eq_of_mem_set hy with hy | hy
    · exact a2 y hy
    · rw [hy, i_ad (shT_lt x hx)]; exact hx))
  refine ⟨oo, SS', m_ev.s1 ?_ e, p⟩
  simp only [m_s1, hc, m_one, m_rst, a1, t]
  rw [if_pos ⟨trivial, trivial, by decide, i1, by rw [List.length_map]; exact i2⟩, List.map_set, i_ad (shT_lt x hx)]
theorem sW.idiv {a b k len : Nat} {x y : Int32} (hc : M.2.2.2.2.2[pc]? = some (some (.idiv, len, a, b, k))) (hz : ¬ y = 0) (kk : mW d M (pc + 1, ml, .int (x / y) :: rest, (h, q)) P) : mW d M (pc, ml, .int y :: .int x :: rest, (h, q)) P := by
  obtain ⟨oo, SS', e, p⟩ := kk
  refine ⟨oo, SS', m_ev.s1 ?_ e, p⟩
  simp only [m_s1, hc, m_one, m_div2]
  rw [if_neg hz]
theorem sW.irem {a b k len : Nat} {x y : Int32} (hc : M.2.2.2.2.2[pc]? = some (some (.irem, len, a, b, k))) (hz : ¬ y = 0) (kk : mW d M (pc + 1, ml, .int (x - x / y * y) :: rest, (h, q)) P) : mW d M (pc, ml, .int y :: .int x :: rest, (h, q)) P := by
  obtain ⟨oo, SS', e, p⟩ := kk
  refine ⟨oo, SS', m_ev.s1 ?_ e, p⟩
  simp only [m_s1, hc, m_one, m_div2]
  rw [if_neg hz]
theorem sW.getPc {kk' idx len : Nat} (hc : M.2.2.2.2.2[pc]? = some (some (.getfield idx, len, 15, 0, kk'))) (hs : cs h S) (ho : o ∈ shP) (kk : mW d M (pc + 3, ml, .ref (o + 1) :: rest, (h, q)) P) : mW d M (pc, ml, .ref o :: rest, (h, q)) P := mW.get hc (hs.gpa ho).1 rfl kk
theorem sW.getPn {kk' idx len : Nat} (hc : M.2.2.2.2.2[pc]? = some (some (.getfield idx, len, 15, 1, kk'))) (hs : cs h S) (ho : o ∈ shP) (kk : mW d M (pc + 3, ml, .int (Int32.ofNat (tT S o).length) :: rest, (h, q)) P) : mW d M (pc, ml, .ref o :: rest, (h, q)) P := mW.get hc (hs.gpa ho).1 rfl kk
theorem sW.getPo {kk' idx len : Nat} (hc : M.2.2.2.2.2[pc]? = some (some (.getfield idx, len, 15, 2, kk'))) (hs : cs h S) (ho : o ∈ shP) (kk : mW d M (pc + 3, ml, .int (tV S o) :: rest, (h, q)) P) : mW d M (pc, ml, .ref o :: rest, (h, q)) P := mW.get hc (hs.gpa ho).1 rfl kk
theorem sW.paload {a b k len : Nat} {j v : Int32} (hc : M.2.2.2.2.2[pc]? = some (some (.iaload, len, a, b, k))) (hs : cs h S) (ho : o ∈ shP) (hj : iget (tT S o) j = some v) (kk : mW d M (pc + 1, ml, .int v :: rest, (h, q)) P) : mW d M (pc, ml, .int j :: .ref (o + 1) :: rest, (h, q)) P := by
  obtain ⟨p1, p2, tail, p3, p4⟩ := hs.gpa ho
  refine mW.iald hc p3 (iget_ix (as := tT S o ++ tail) ?_) kk
  unfold iget at hj ⊢
  split at hj
  · cases hj
  · rename_i hn
    rw [if_neg hn, List.getElem?_append_left (List.getElem?_eq_some_iff.mp hj).1]
    exact hj
/-- putPart over the state -/
def spart (S : SS) (o p : Nat) (f w : Int32) : Option SS := if o = p then none else if w < -10000 then none else if 100000 < f then none else some (up S o (tpartO (tT S o) (tV S o) (tcut (tT S p) f w) :: tpart (tT S o) (tcut (tT S p) f w)))
theorem shT_ne : ∀ o ∈ shT, ∀ p ∈ shT, p ≠ o → p ≠ o + 1 ∧ p + 1 ≠ o := by decide +kernel
theorem s61 {f w : Int32} {v : SS} (ho : o ∈ shT) (hp : p ∈ shT) (hs : cs h S) (hv : spart S o p f w = some v) : mW (d + 1) mm61 (0, [some (.ref o), some (.ref p), some (.int f), some (.int w), none, none, none], [], (h, q)) (mQ q v none) := by
  unfold spart at hv
  split at hv
  · cases hv
  rename_i hne
  split at hv
  · cases hv
  rename_i hw
  split at hv
  · cases hv
  rename_i hf
  cases hv
  have n1 : p ≠ o := fun e => hne e.symm
  obtain ⟨n2, n3⟩ := shT_ne o ho p hp n1
  rw [i_lt] at hw hf
  have z1 : (-10000 : Int32).toInt = -10000 := rfl
  have z2 : (100000 : Int32).toInt = 100000 := rfl
  obtain ⟨h', e, t, s⟩ := x61 (d := d) (q := q) (hs.tb ho) (hs.gtx ho) (hs.gtx hp) n1 n2 n3 f w (by omega) (by omega)
  refine mW.of e ⟨rfl, rfl, hs.updT ho t s ?_⟩
  unfold tpartO
  split
  · exact hs.tb ho
  · exact Or.inr rfl
/-- Text.copy -/
def scopy (S : SS) (o p : Nat) : Option SS := spart (up S o [0]) o p 0 (Int32.ofNat (tT S p).length)
theorem s67 {v : SS} (ho : o ∈ shT) (hp : p ∈ shT) (hs : cs h S) (hv : scopy S o p = some v) : mW (d + 2) mm67 (0, [some (.ref o), some (.ref p)], [], (h, q)) (mQ q v none) := by
  refine mW.sn 1 (g' := (1, [some (.ref o), some (.ref p)], [.ref o], (h, q))) rfl ?_
  refine sW.call rfl rfl rfl rfl (hs.rcvT ho) (s35 hs ho) ?_
  intro h1 hs1
  refine mW.sn 4 (g' := (8, [some (.ref o), some (.ref p)], [.ref p, .int 0, .ref p, .ref o], (h1, q))) rfl ?_
  have hne : p ≠ o := by
    intro e
    unfold scopy spart at hv
    rw [if_pos e.symm] at hv
    cases hv
  refine mW.get rfl (hs1.gtx hp).2.2.1 rfl ?_
  refine sW.call rfl rfl rfl rfl (hs1.rcvT ho) (s61 (v := v) ho hp hs1 (by
    have : tT (up S o [0]) p = tT S p := by show (up S o [0] p).tail = _; rw [up_ne hne]
    rw [this]; exact hv)) ?_
  intro h2 hs2
  exact sW.fin hs2 rfl
/-- Text.cut -/
def tdel (us : List Int32) (f w : Int32) : List Int32 := if f < 0 then us else if w ≤ f then us else if Int32.ofNat us.length < w then us else us.take f.toNatClampNeg ++ us.drop w.toNatClampNeg
set_option maxHeartbeats 1000000 in
theorem x145 (t : tx h o (o + 1) us ov) (f w : Int32) : ∃ h', mE (d + 1) mm145 (0, [some (.ref o), some (.int f), some (.int w)], [], (h, q)) (.returned none, (h', q)) ∧ tx h' o (o + 1) (tdel us f w) ov ∧ sm [o, o + 1] h h' := by
  obtain ⟨a1, a2, a3, a4, a5, tail, a6, a7⟩ := id t
  have out : ∀ S1, mE (d + 1) mm145 (48, [some (.ref o), some (.int f), some (.int w)], [], S1) (.returned none, S1) := fun S1 => m_ev.fin rfl
  have z0 : (0 : Int32).toInt = 0 := rfl
  by_cases k1 : f < 0
  · refine ⟨h, ?_, by rw [tdel, if_pos k1]; exact t, sm.refl _ _⟩
    refine mE.sn 1 (g' := (1, [some (.ref o), some (.int f), some (.int w)], [.int f], (h, q))) rfl ?_
    exact mE.yes (g1 := (48, [some (.ref o), some (.int f), some (.int w)], [], (h, q))) (g2 := (4, [some (.ref o), some (.int f), some (.int w)], [], (h, q))) (c := f < 0) rfl k1 (out _)
  by_cases k2 : w ≤ f
  · refine ⟨h, ?_, by rw [tdel, if_neg k1, if_pos k2]; exact t, sm.refl _ _⟩
    refine mE.sn 1 (g' := (1, [some (.ref o), some (.int f), some (.int w)], [.int f], (h, q))) rfl ?_
    refine mE.no (g1 := (48, [some (.ref o), some (.int f), some (.int w)], [], (h, q))) (g2 := (4, [some (.ref o), some (.int f), some (.int w)], [], (h, q))) (c := f < 0) rfl k1 ?_
    refine mE.sn 2 (g' := (6, [some (.ref o), some (.int f), some (.int w)], [.int w, .int f], (h, q))) rfl ?_
    exact mE.yes (g1 := (48, [some (.ref o), some (.int f), some (.int w)], [], (h, q))) (g2 := (9, [some (.ref o), some (.int f), some (.int w)], [], (h, q))) (c := w ≤ f) rfl k2 (out _)
  have pre : ∀ r, mE (d + 1) mm145 (14, [some (.ref o), some (.int f), some (.int w)], [.int (Int32.ofNat us.length), .int w], (h, q)) r → mE (d + 1) mm145 (0, [some (.ref o), some (.int f), some (.int w)], [], (h, q)) r := by
    intro r k
    refine mE.sn 1 (g' := (1, [some (.ref o), some (.int f), some (.int w)], [.int f], (h, q))) rfl ?_
    refine mE.no (g1 := (48, [some (.ref o), some (.int f), some (.int w)], [], (h, q))) (g2 := (4, [some (.ref o), some (.int f), some (.int w)], [], (h, q))) (c := f < 0) rfl k1 ?_
    refine mE.sn 2 (g' := (6, [some (.ref o), some (.int f), some (.int w)], [.int w, .int f], (h, q))) rfl ?_
    refine mE.no (g1 := (48, [some (.ref o), some (.int f), some (.int w)], [], (h, q))) (g2 := (9, [some (.ref o), some (.int f), some (.int w)], [], (h, q))) (c := w ≤ f) rfl k2 ?_
    refine mE.sn 2 (g' := (11, [some (.ref o), some (.int f), some (.int w)], [.ref o, .int w], (h, q))) rfl ?_
    exact mE.get rfl a3 rfl k
  by_cases k3 : Int32.ofNat us.length < w
  · refine ⟨h, pre _ ?_, by rw [tdel, if_neg k1, if_neg k2, if_pos k3]; exact t, sm.refl _ _⟩
    exact mE.yes (g1 := (48, [some (.ref o), some (.int f), some (.int w)], [], (h, q))) (g2 := (17, [some (.ref o), some (.int f), some (.int w)], [], (h, q))) (c := Int32.ofNat us.length < w) rfl k3 (out _)
  obtain ⟨F, hF⟩ : ∃ F, F = f.toNatClampNeg := ⟨_, rfl⟩
  obtain ⟨W, hW⟩ : ∃ W, W = w.toNatClampNeg := ⟨_, rfl⟩
  have j1 := k1; have j2 := k2; have j3 := k3
  rw [i_lt, z0] at j1
  rw [i_le] at j2
  rw [i_lt, i_of (by omega)] at j3
  have fF : f.toInt = F := by rw [hF, i_nat]; omega
  have fW : w.toInt = W := by rw [hW, i_nat]; omega
  have eD : tdel us f w = us.take F ++ us.drop W := by rw [tdel, if_neg k1, if_neg k2, if_neg k3, hF, hW]
  have lD : (tdel us f w).length = F + (us.length - W) := by rw [eD, List.length_append, List.length_take, List.length_drop]; omega
  have e1 : Int32.ofNat us.length - w = Int32.ofNat (us.length - W) := by
    apply i_ofnn
    · rw [i_sub (by rw [i_of (by omega)]; omega) (by rw [i_of (by omega)]; omega), i_of (by omega)]; omega
    · omega
  have e2 : Int32.ofNat us.length - (w - f) = Int32.ofNat (tdel us f w).length := by
    have b : (w - f).toInt = W - F := by rw [i_sub (by omega) (by omega)]; omega
    apply i_ofnn
    · rw [i_sub (by rw [i_of (by omega)]; omega) (by rw [i_of (by omega)]; omega), i_of (by omega), b]; omega
    · omega
  have lt : (us.map m_by ++ tail).length = 4096 := by rw [List.length_append, List.length_map]; exact a7
  obtain ⟨tl, htl⟩ : ∃ tl, tl = (us.map m_by ++ tail).drop (F + (us.length - W)) := ⟨_, rfl⟩
  have rowE : (us.map m_by ++ tail).take F ++ ((us.map m_by ++ tail).drop W).take (us.length - W) ++ (us.map m_by ++ tail).drop (F + (us.length - W)) = (tdel us f w).map m_by ++ tl := by
    rw [← htl, eD, List.map_append]
    congr 1
    congr 1
    · rw [List.take_append_of_le_length (by rw [List.length_map]; omega), ← List.map_take]
    · rw [List.drop_append, List.take_append_of_le_length (by rw [List.length_drop, List.length_map]; omega), ← List.map_drop, List.take_of_length_le (by rw [List.length_map, List.length_drop]; omega)]
  have g1 : ∀ {X : mC}, (h.set (o + 1) X)[o]? = some (4, [.ref (o + 1), .int (Int32.ofNat us.length), .int ov]) := by
    intro X
    rw [List.getElem?_set_ne (by omega)]
    exact a3
  have cN : ∀ {k : Nat}, k < 2147483648 → ¬ Int32.ofNat k < 0 ∧ (Int32.ofNat k).toNatClampNeg = k := by
    intro k hk
    refine ⟨?_, ?_⟩
    · rw [i_lt, i_of (by omega), z0]; omega
    · rw [i_nat, i_of (by omega)]; omega
  refine ⟨(h.set (o + 1) (1000, (tdel us f w).map m_by ++ tl)).set o (4, [.ref (o + 1), .int (Int32.ofNat (tdel us f w).length), .int ov]), pre _ ?_, ⟨a1, a2, m_at_set g1, by rw [lD]; omega, ?_, tl, ?_, ?_⟩, (sm.set (by simp)).trans (sm.set (by simp))⟩
  · refine mE.no (g1 := (48, [some (.ref o), some (.int f), some (.int w)], [], (h, q))) (g2 := (17, [some (.ref o), some (.int f), some (.int w)], [], (h, q))) (c := Int32.ofNat us.length < w) rfl k3 ?_
    refine mE.sn 1 (g' := (18, [some (.ref o), some (.int f), some (.int w)], [.ref o], (h, q))) rfl ?_
    refine mE.get rfl a3 rfl ?_
    refine mE.sn 2 (g' := (23, [some (.ref o), some (.int f), some (.int w)], [.ref o, .int w, .ref (o + 1)], (h, q))) rfl ?_
    refine mE.get rfl a3 rfl ?_
    refine mE.sn 2 (g' := (28, [some (.ref o), some (.int f), some (.int w)], [.ref o, .int f, .ref (o + 1), .int w, .ref (o + 1)], (h, q))) rfl ?_
    refine mE.get rfl a3 rfl ?_
    refine mE.sn 2 (g' := (33, [some (.ref o), some (.int f), some (.int w)], [.int (Int32.ofNat us.length - w), .int f, .ref (o + 1), .int w, .ref (o + 1)], (h, q))) rfl ?_
    rw [e1]
    refine mE.copy (g' := (36, [some (.ref o), some (.int f), some (.int w)], [], (h.set (o + 1) (1000, (tdel us f w).map m_by ++ tl), q))) rfl ?_ (Nat.zero_le _) ?_
    · simp only [m_cpy, a6]
      rw [if_pos ⟨trivial, trivial, a2, by rw [i_lt, z0]; omega, k1, (cN (by omega)).1, by rw [(cN (by omega)).2, ← hW, lt]; omega, by rw [(cN (by omega)).2, ← hF, lt]; omega⟩]
      rw [(cN (k := us.length - W) (by omega)).2, ← hF, ← hW, rowE]
    refine mE.sn 2 (g' := (38, [some (.ref o), some (.int f), some (.int w)], [.ref o, .ref o], (h.set (o + 1) (1000, (tdel us f w).map m_by ++ tl), q))) rfl ?_
    refine mE.get rfl g1 rfl ?_
    refine mE.sn 4 (g' := (45, [some (.ref o), some (.int f), some (.int w)], [.int (Int32.ofNat us.length - (w - f)), .ref o], (h.set (o + 1) (1000, (tdel us f w).map m_by ++ tl), q))) rfl ?_
    rw [e2]
    refine mE.put rfl g1 a1 rfl rfl ?_
    exact out _
  · intro u hu
    rw [eD] at hu
    rcases List.mem_append.mp hu with hu | hu
    · exact a5 u (List.mem_of_mem_take hu)
    · exact a5 u (List.mem_of_mem_drop hu)
  · rw [List.getElem?_set_ne (by omega)]
    exact m_at_set a6
  · rw [lD, htl, List.length_drop, lt]; omega
def sdel (S : SS) (o : Nat) (f w : Int32) : SS := up S o (tV S o :: tdel (tT S o) f w)
theorem s145 {f w : Int32} (ho : o ∈ shT) (hs : cs h S) : mW (d + 1) mm145 (0, [some (.ref o), some (.int f), some (.int w)], [], (h, q)) (mQ q (sdel S o f w) none) := by
  obtain ⟨h', e, t, s⟩ := x145 (d := d) (q := q) (hs.gtx ho) f w
  exact mW.of e ⟨rfl, rfl, hs.updT ho t s (hs.tb ho)⟩
/-- Paper.clear, Paper.put -/
theorem shP_41 : ∀ o ∈ shP, 41 ≤ o := by decide
theorem s204 (ho : o ∈ shP) (hs : cs h S) : mW d mm204 (0, [some (.ref o)], [], (h, q)) (mQ q (up S o [0]) none) := by
  obtain ⟨p1, p2, tail, p3, p4⟩ := hs.gpa ho
  have h41 := shP_41 o ho
  have u1 : (h.set o (15, [.ref (o + 1), .int 0, .int (tV S o)]))[o]? = some (15, [.ref (o + 1), .int 0, .int (tV S o)]) := m_at_set p1
  refine mW.sn 2 (g' := (2, [some (.ref o)], [.int 0, .ref o], (h, q))) rfl ?_
  refine mW.put rfl p1 h41 rfl rfl ?_
  refine mW.sn 2 (g' := (7, [some (.ref o)], [.int 0, .ref o], (h.set o (15, [.ref (o + 1), .int 0, .int (tV S o)]), q))) rfl ?_
  refine mW.put rfl u1 h41 rfl rfl ?_
  refine mW.fin rfl ⟨rfl, rfl, hs.updP ho (us := []) (ov := 0) ⟨m_at_set u1, by decide, tT S o ++ tail, ?_, ?_⟩ ((sm.set (by simp)).trans (sm.set (by simp))) (Or.inl rfl)⟩
  · rw [List.getElem?_set_ne (by omega), List.getElem?_set_ne (by omega)]
    exact p3
  · rw [List.length_append]; simp only [List.length_nil]; omega
def pput (l : List Int32) (ov v : Int32) : List Int32 := if l.length = 4096 then l else if ov = 0 then l ++ [v] else l
def pputO (l : List Int32) (ov : Int32) : Int32 := if l.length = 4096 then 1 else ov
def sppu (S : SS) (o : Nat) (v : Int32) : SS := up S o (pputO (tT S o) (tV S o) :: pput (tT S o) (tV S o) v)
theorem pputO_01 {l : List Int32} {ov : Int32} (h : ov = 0 ∨ ov = 1) : pputO l ov = 0 ∨ pputO l ov = 1 := by
  unfold pputO
  split
  · exact Or.inr rfl
  · exact h
theorem s207 {v : Int32} (ho : o ∈ shP) (hs : cs h S) : mW d mm207 (0, [some (.ref o), some (.int v)], [], (h, q)) (mQ q (sppu S o v) none) := by
  obtain ⟨p1, p2, tail, p3, p4⟩ := hs.gpa ho
  have h41 := shP_41 o ho
  have z0 : (0 : Int32).toInt = 0 := rfl
  have ll : ((tT S o ++ tail).map Value.int).length = 4096 := by rw [List.length_map, List.length_append]; exact p4
  obtain ⟨l, hl⟩ : ∃ l, l = tT S o := ⟨_, rfl⟩
  obtain ⟨ov, hov⟩ : ∃ ov, ov = tV S o := ⟨_, rfl⟩
  have hb : ov = 0 ∨ ov = 1 := by rw [hov]; exact hs.pb ho
  rw [← hl] at p1 p2 p3 p4 ll
  rw [← hov] at p1
  have pre : ∀ P : Outcome → mS → Prop, mW d mm207 (9, [some (.ref o), some (.int v)], [.int (Int32.ofNat 4096), .int (Int32.ofNat l.length)], (h, q)) P → mW d mm207 (0, [some (.ref o), some (.int v)], [], (h, q)) P := by
    intro P k
    refine mW.sn 1 (g' := (1, [some (.ref o), some (.int v)], [.ref o], (h, q))) rfl ?_
    refine mW.get rfl p1 rfl ?_
    refine mW.sn 1 (g' := (5, [some (.ref o), some (.int v)], [.ref o, .int (Int32.ofNat l.length)], (h, q))) rfl ?_
    refine mW.get rfl p1 rfl ?_
    refine mW.aln rfl p3 (by decide) ?_
    rw [ll]
    exact k
  refine pre _ ?_
  by_cases hc : l.length = 4096
  · refine mW.yes (g1 := (12, [some (.ref o), some (.int v)], [], (h, q))) (g2 := (17, [some (.ref o), some (.int v)], [], (h, q))) (c := Int32.ofNat l.length = Int32.ofNat 4096) rfl (by rw [hc]) ?_
    refine mW.sn 2 (g' := (14, [some (.ref o), some (.int v)], [.int 1, .ref o], (h, q))) rfl ?_
    refine mW.put rfl p1 h41 rfl rfl ?_
    have u1 : (h.set o (15, [.ref (o + 1), .int (Int32.ofNat l.length), .int 1]))[o]? = some (15, [.ref (o + 1), .int (Int32.ofNat l.length), .int 1]) := m_at_set p1
    refine mW.sn 1 (g' := (18, [some (.ref o), some (.int v)], [.ref o], (h.set o (15, [.ref (o + 1), .int (Int32.ofNat l.length), .int 1]), q))) rfl ?_
    refine mW.get rfl u1 rfl ?_
    refine mW.no (g1 := (25, [some (.ref o), some (.int v)], [], (h.set o (15, [.ref (o + 1), .int (Int32.ofNat l.length), .int 1]), q))) (g2 := (24, [some (.ref o), some (.int v)], [], (h.set o (15, [.ref (o + 1), .int (Int32.ofNat l.length), .int 1]), q))) (c := (1 : Int32) = 0) rfl (by decide) ?_
    refine mW.fin rfl ⟨rfl, rfl, ?_⟩
    have e : sppu S o v = up S o (1 :: l) := by
      unfold sppu
      rw [← hl, ← hov, pputO, if_pos hc, pput, if_pos hc]
    rw [e]
    exact hs.updP ho ⟨u1, p2, tail, by rw [List.getElem?_set_ne (by omega)]; exact p3, p4⟩ (sm.set (by simp)) (Or.inr rfl)
  · have hne : ¬ Int32.ofNat l.length = Int32.ofNat 4096 := by
      intro e
      have := congrArg Int32.toInt e
      rw [i_of (by omega), i_of (by omega)] at this
      omega
    refine mW.no (g1 := (12, [some (.ref o), some (.int v)], [], (h, q))) (g2 := (17, [some (.ref o), some (.int v)], [], (h, q))) (c := Int32.ofNat l.length = Int32.ofNat 4096) rfl hne ?_
    refine mW.sn 1 (g' := (18, [some (.ref o), some (.int v)], [.ref o], (h, q))) rfl ?_
    refine mW.get rfl p1 rfl ?_
    refine mW.br (g1 := (25, [some (.ref o), some (.int v)], [], (h, q))) (g2 := (24, [some (.ref o), some (.int v)], [], (h, q))) (c := ov = 0) rfl (fun hz => ?_) (fun hz => ?_)
    · obtain ⟨w, tail', rfl⟩ : ∃ w tail', tail = w :: tail' := by
        cases tail with
        | nil => simp only [List.length_nil] at p4; omega
        | cons w r => exact ⟨w, r, rfl⟩
      have nn : ¬ Int32.ofNat l.length < 0 := by rw [i_lt, i_of (by omega), z0]; omega
      have nk : (Int32.ofNat l.length).toNatClampNeg = l.length := by rw [i_nat, i_of (by omega)]; omega
      refine mW.sn 1 (g' := (26, [some (.ref o), some (.int v)], [.ref o], (h, q))) rfl ?_
      refine mW.get rfl p1 rfl ?_
      refine mW.sn 1 (g' := (30, [some (.ref o), some (.int v)], [.ref o, .ref (o + 1)], (h, q))) rfl ?_
      refine mW.get rfl p1 rfl ?_
      refine mW.sn 1 (g' := (34, [some (.ref o), some (.int v)], [.int v, .int (Int32.ofNat l.length), .ref (o + 1)], (h, q))) rfl ?_
      refine mW.iast rfl p3 (by omega) nn (by rw [nk, ll]; omega) ?_
      have eR : ((l ++ w :: tail').map Value.int).set l.length (.int v) = ((l ++ [v]) ++ tail').map Value.int := by
        rw [← List.map_set, List.set_append_right _ _ (Nat.le_refl _), Nat.sub_self, List.set_cons_zero, List.append_assoc]
        rfl
      rw [nk, eR]
      have u1 : (h.set (o + 1) (1001, ((l ++ [v]) ++ tail').map Value.int))[o]? = some (15, [.ref (o + 1), .int (Int32.ofNat l.length), .int ov]) := by
        rw [List.getElem?_set_ne (by omega)]
        exact p1
      refine mW.sn 2 (g' := (37, [some (.ref o), some (.int v)], [.ref o, .ref o], (h.set (o + 1) (1001, ((l ++ [v]) ++ tail').map Value.int), q))) rfl ?_
      refine mW.get rfl u1 rfl ?_
      refine mW.sn 2 (g' := (42, [some (.ref o), some (.int v)], [.int (Int32.ofNat l.length + 1), .ref o], (h.set (o + 1) (1001, ((l ++ [v]) ++ tail').map Value.int), q))) rfl ?_
      refine mW.put rfl u1 h41 rfl rfl ?_
      have e : sppu S o v = up S o (ov :: (l ++ [v])) := by
        unfold sppu
        rw [← hl, ← hov, pputO, if_neg hc, pput, if_neg hc, if_pos hz]
      have el : Int32.ofNat l.length + 1 = Int32.ofNat (l ++ [v]).length := by
        rw [List.length_append]
        exact (Int32.ofNat_add l.length 1).symm
      refine mW.fin rfl ⟨rfl, rfl, ?_⟩
      rw [e]
      refine hs.updP ho ⟨?_, ?_, tail', ?_, ?_⟩ ((sm.set (by simp)).trans (sm.set (by simp))) hb
      · show ((h.set (o + 1) _).set o (15, [.ref (o + 1), .int (Int32.ofNat l.length + 1), .int ov]))[o]? = _
        rw [m_at_set u1, el]
      · rw [List.length_append]; simp only [List.length_cons, List.length_nil]; omega
      · show ((h.set (o + 1) _).set o _)[o + 1]? = _
        rw [List.getElem?_set_ne (by omega)]
        exact m_at_set p3
      · rw [List.length_append]; simp only [List.length_cons, List.length_nil] at p4 ⊢; omega
    · have e : sppu S o v = up S o (ov :: l) := by
        unfold sppu
        rw [← hl, ← hov, pputO, if_neg hc, pput, if_neg hc, if_neg hz]
      refine mW.fin rfl ⟨rfl, rfl, ?_⟩
      rw [e]
      exact hs.updP ho ⟨p1, p2, tail, p3, p4⟩ (sm.refl _ _) hb
/-- Math.min, Math.max of longs -/
def lmin (x y : Int64) : Int64 := if 0 < lg_cmp x y then y else x
def lmax (x y : Int64) : Int64 := if lg_cmp x y < 0 then y else x
theorem x96 (x y : Int64) : mE d mm96 (0, [some (.long x), none, some (.long y), none], [], (h, q)) (.returned (some (.long (lmin x y))), (h, q)) := by
  refine mE.sn 3 (g' := (3, [some (.long x), none, some (.long y), none], [.int (lg_cmp x y)], (h, q))) rfl ?_
  refine mE.br (g1 := (10, [some (.long x), none, some (.long y), none], [], (h, q))) (g2 := (6, [some (.long x), none, some (.long y), none], [], (h, q))) (c := 0 < lg_cmp x y) rfl (fun hc => ?_) (fun hc => ?_)
  · rw [lmin, if_pos hc]
    refine mE.sn 1 (g' := (11, [some (.long x), none, some (.long y), none], [.long y], (h, q))) rfl ?_
    exact m_ev.fin rfl
  · rw [lmin, if_neg hc]
    refine mE.sn 2 (g' := (11, [some (.long x), none, some (.long y), none], [.long x], (h, q))) rfl ?_
    exact m_ev.fin rfl
theorem x97 (x y : Int64) : mE d mm97 (0, [some (.long x), none, some (.long y), none], [], (h, q)) (.returned (some (.long (lmax x y))), (h, q)) := by
  refine mE.sn 3 (g' := (3, [some (.long x), none, some (.long y), none], [.int (lg_cmp x y)], (h, q))) rfl ?_
  refine mE.br (g1 := (10, [some (.long x), none, some (.long y), none], [], (h, q))) (g2 := (6, [some (.long x), none, some (.long y), none], [], (h, q))) (c := lg_cmp x y < 0) rfl (fun hc => ?_) (fun hc => ?_)
  · rw [lmax, if_pos hc]
    refine mE.sn 1 (g' := (11, [some (.long x), none, some (.long y), none], [.long y], (h, q))) rfl ?_
    exact m_ev.fin rfl
  · rw [lmax, if_neg hc]
    refine mE.sn 2 (g' := (11, [some (.long x), none, some (.long y), none], [.long x], (h, q))) rfl ?_
    exact m_ev.fin rfl
end More103
