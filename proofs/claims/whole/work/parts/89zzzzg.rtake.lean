/-! The reference takes what a path leads to out of a value. -/
section RTake173
/-- the reference's place, exactly -/
theorem rplace_pos {S : SS} {aa p : Nat} {v0 : Int} {s0 : List Int32} {l : List Mb} {w : Option (Nat × Nat)} {v : Int} (hp9 : p < 9000) (h : spR S aa (5, v0, s0, ofL l) w (Int32.ofNat p)) (hv : -9007199254740991 ≤ v ∧ v ≤ 9007199254740991) : b_place S aa (Int64.ofInt v) = some (if 0 ≤ atX v (winN (5, v0, s0, ofL l) w) ∧ atX v (winN (5, v0, s0, ofL l) w) < winN (5, v0, s0, ofL l) w then Int32.ofNat (pos (5, v0, s0, ofL l) p (winA (5, v0, s0, ofL l) w + (atX v (winN (5, v0, s0, ofL l) w)).toNat)) else -1) ∧ winA (5, v0, s0, ofL l) w + winN (5, v0, s0, ofL l) w ≤ l.length := by
  obtain ⟨bw, bn⟩ := between_val h rfl
  obtain ⟨p', e, hp', hc, hw, hn0, hb⟩ := id h
  have epp : p = p' := (i_inj (by omega) (by omega)).mp e
  subst epp
  obtain ⟨r1, r2⟩ := hb (Or.inr rfl)
  obtain ⟨w1, w2, w3⟩ := win_le hw
  have hsz : size (5, v0, s0, ofL l) = l.length := by unfold size; rw [if_neg (show ¬ (5 : Nat) = 4 by decide)]; exact congrArg List.length (toL_ofL l)
  rw [hsz] at w2
  obtain ⟨n, hn⟩ : ∃ n, n = winN (5, v0, s0, ofL l) w := ⟨_, rfl⟩
  obtain ⟨A, hA⟩ : ∃ A, A = winA (5, v0, s0, ofL l) w := ⟨_, rfl⟩
  rw [← hn] at bw bn w3
  rw [← hA] at r1 w3
  rw [← hn, ← hA]
  refine ⟨?_, by omega⟩
  have z0 : (0 : Int64).toInt = 0 := rfl
  have lv := l_of (z := v) (by omega) (by omega)
  have ln : ((Int32.ofNat n).toInt64).toInt = n := j64 (by omega)
  have la : (Int64.ofInt v + (Int32.ofNat n).toInt64).toInt = v + n := by rw [l_add (by rw [lv]; omega) (by rw [ln]; omega), lv, ln]
  have wk : ∀ k : Nat, k < n → b_walk S aa (rd S 78 17) (Int64.ofInt k) = some (Int32.ofNat (pos (5, v0, s0, ofL l) p (A + k))) := by
    intro k hk
    rw [r1]
    refine walk_val hc rfl ?_
    show A + k ≤ (toL (ofL l)).length
    rw [toL_ofL]
    omega
  unfold b_place
  rw [bw, o_bind]
  by_cases hs : v < 0
  · have hx : atX v n = v + n := by unfold atX; rw [if_pos hs]
    rw [hx, if_neg (by rw [lg_ge, lv, z0]; omega)]
    by_cases c1 : v + n < 0
    · rw [if_pos ((lg_lt _ _).mpr (by rw [la, z0]; exact c1)), if_neg (by omega)]
    · have c2 : v + (n : Int) < n := by omega
      have e2 : Int64.ofInt v + (Int32.ofNat n).toInt64 = Int64.ofInt ((v + n).toNat : Nat) := by
        apply l_inj
        rw [la]
        omega
      rw [if_neg (by rw [lg_lt, la, z0]; exact c1), if_pos ((lg_lt _ _).mpr (by rw [la, ln]; exact c2)), e2, wk _ (by omega), o_bind, if_pos (by omega)]
  · have hx : atX v n = v := by unfold atX; rw [if_neg hs]
    rw [hx, if_pos ((lg_ge _ _).mpr (by rw [lv, z0]; omega)), if_neg (by rw [lg_lt, lv, z0]; exact hs)]
    by_cases c2 : v < n
    · have e2 : Int64.ofInt v = Int64.ofInt (v.toNat : Nat) := by
        congr 1
        omega
      rw [if_pos ((lg_lt _ _).mpr (by rw [lv, ln]; exact c2)), e2, wk _ (by omega), o_bind, if_pos (by omega)]
    · rw [if_neg (by rw [lg_lt, lv, ln]; exact c2), if_neg (by omega)]
/-- what stands there for take -/
def prT (S : SS) (aa pb E : Nat) : Prop := rd S 78 19 = Int32.ofNat pb ∧ rd S 78 21 = Int32.ofNat E ∧ (S pb).length ≤ 9000 ∧ S 39 = mp_aS ∧ S 40 = mp_aE ∧ (S 78).length = 22 ∧ (aa ≠ 78 ∧ aa ≠ 90 ∧ aa ≠ 91) ∧ (82 ≤ pb ∧ pb ≤ 89) ∧ E ≤ 9000
theorem prT.fr {S S' : SS} {aa pb E : Nat} (h : prT S aa pb E) (hf : fr3 S S') : prT S' aa pb E := by
  obtain ⟨h1, h2, h3, h4, h5, h6, h7, h8, h9⟩ := h
  exact ⟨by rw [hf.2.1 19 (by decide) (by decide) (by decide)]; exact h1, by rw [hf.2.1 21 (by decide) (by decide) (by decide)]; exact h2, by rw [hf.1 pb (by omega) (by omega) (by omega)]; exact h3, by rw [hf.1 39 (by decide) (by decide) (by decide)]; exact h4, by rw [hf.1 40 (by decide) (by decide) (by decide)]; exact h5, by rw [hf.2.2]; exact h6, h7, h8, h9⟩
theorem prT.p {S : SS} {aa pb E : Nat} (h : prT S aa pb E) : ¬ rd S 78 19 = 0 ∧ (rd S 78 19).toNatClampNeg = pb := by
  obtain ⟨h1, h2, h3, h4, h5, h6, h7, h8, h9⟩ := h
  rw [h1, show (0 : Int32) = Int32.ofNat 0 from rfl, i_inj (by omega) (by omega), i_cl (by omega)]
  exact ⟨by omega, rfl⟩
def atT (S : SS) (pb i E : Nat) (ls : List Mb) : Prop := okL ls ∧ i + (blks false ls).flatten.length = E ∧ ∃ r, (S pb).drop i = (blks false ls).flatten ++ r
theorem atT.fr {S S' : SS} {pb i E : Nat} {ls : List Mb} (h : atT S pb i E ls) (hb : 82 ≤ pb ∧ pb ≤ 89) (hf : fr3 S S') : atT S' pb i E ls := by
  unfold atT
  rw [hf.1 pb (by omega) (by omega) (by omega)]
  exact h
theorem atT.cons {S : SS} {aa pb i E : Nat} {m : Mb} {ls : List Mb} (h : atT S pb i E (m :: ls)) (hP : prT S aa pb E) : i < E ∧ cat (S pb) i m.2 ∧ r_next (S pb) (Int32.ofNat i) = some (Int32.ofNat (i + (cV m.2).length)) ∧ atT S pb (i + (cV m.2).length) E ls ∧ b_isLast S (Int32.ofNat i) = some (if ls = [] then 1 else 0) := by
  obtain ⟨h1, h4, r, h5⟩ := h
  obtain ⟨p1, p2⟩ := hP.p
  obtain ⟨q1, q2, q3, -, -, -, -, -, q9⟩ := hP
  have eb : blks false (m :: ls) = cV m.2 :: blks false ls := rfl
  rw [eb] at h4 h5
  have hh : ∀ z ∈ cV m.2 :: blks false ls, hdd z := by rw [← eb]; exact blks_h h1
  obtain ⟨s1, s2, s3, s4⟩ := blk_step q3 hh h5
  rw [List.flatten_cons, List.length_append] at h4
  rw [List.flatten_cons, List.append_assoc] at h5
  refine ⟨by omega, ⟨q3, (h1 m List.mem_cons_self).2, _, h5⟩, s1, ⟨h1.tail, by omega, r, s2⟩, ?_⟩
  unfold b_isLast
  rw [if_neg p1, p2, s1, o_bind, q2]
  by_cases hn : ls = []
  · subst hn
    have z : (blks false []).flatten.length = 0 := rfl
    rw [if_pos (by rw [i_inj (by omega) (by omega)]; omega), if_pos rfl]
  · rw [if_neg hn, if_neg]
    rw [i_inj (by omega) (by omega)]
    have hf := flat2 _ (blks_h (b := false) h1.tail)
    have hbl := blks_len false ls
    simp only [Bool.false_eq_true, if_false] at hbl
    have : ls.length ≠ 0 := fun c => hn (List.eq_nil_of_length_eq_zero c)
    omega
/-- what a call of take answers -/
def rtO (S S' : SS) (C : List Int32) (o : Option Vl) : Prop := fr3 S S' ∧ ∃ C', OutV S' (C ++ C') ∧ (∀ T, o = some T → rd S' 78 12 = 0 ∧ wV T ∧ C' = cV T) ∧ (o = none → ¬ rd S' 78 12 ≤ 0)
theorem tref {S : SS} {C : List Int32} (h78 : (S 78).length = 22) (ho : OutV S C) (hr : rd S 78 12 = 0) : ∃ S', ((b_refuse S 1).bind fun r => some r) = some S' ∧ rtO S S' C none := by
  obtain ⟨S', h1, h2, C', h3, h4, h5⟩ := rref (v := 1) (dp := 0) h78 ho (by decide) hr
  exact ⟨S', h1, h2, C', h3, (fun T hT => by cases hT), h5⟩
theorem tcopy {S : SS} {aa p : Nat} {t : Vl} {C : List Int32} (haa : aa ≠ 90 ∧ aa ≠ 91) (ho : OutV S C) (hr : rd S 78 12 = 0) (hc : cat (S aa) p t) : ∃ S', ((q_copy S aa (Int32.ofNat p)).bind fun r => some r) = some S' ∧ rtO S S' C (some t) := by
  obtain ⟨h9, hw, r, hd⟩ := hc
  obtain ⟨S1, q1, q2, q3⟩ := ocopy haa (cV_h hw.1) ho h9 hd
  exact ⟨S1, by rw [q1, o_bind], fr3_O q3, _, q2, fun T hT => by cases hT; exact ⟨by rw [frO_12 q3]; exact hr, hw, rfl⟩, fun hn => by cases hn⟩
/-- an array without the elements i to before j -/
theorem tround {S : SS} {aa p i j : Nat} {v0 : Int} {s0 : List Int32} {l : List Mb} {C : List Int32} (haa : aa ≠ 78 ∧ aa ≠ 90 ∧ aa ≠ 91) (ho : OutV S C) (hr : rd S 78 12 = 0) (hc : cat (S aa) p (5, v0, s0, ofL l)) (hij : i ≤ j) (hj : j ≤ l.length) : ∃ S', ((b_around S aa (Int32.ofNat p) (Int32.ofNat (pos (5, v0, s0, ofL l) p i)) (Int32.ofNat (pos (5, v0, s0, ofL l) p j))).bind fun r => some r) = some S' ∧ rtO S S' C (some (5, v0, s0, ofL (l.take i ++ l.drop j))) := by
  obtain ⟨S1, at_, o1, o2, o3, o4⟩ := oopen ho 5
  have hc1 : cat (S1 aa) p (5, v0, s0, ofL l) := by rw [o3 aa haa.2.1 haa.2.2]; exact hc
  have ep0 : pos (5, v0, s0, ofL l) p 0 = p + 2 := by
    obtain ⟨y1, -, -⟩ := pos_in hc (Nat.zero_le l.length)
    rw [y1]
    show p + 2 + 0 = _
    omega
  have epn : pos (5, v0, s0, ofL l) p l.length = p + (cV (5, v0, s0, ofL l)).length := by
    obtain ⟨y1, y2, -⟩ := pos_in hc (Nat.le_refl l.length)
    rw [y1, y2, List.take_of_length_le (Nat.le_refl _)]
    omega
  obtain ⟨S2, q1, q2, q3⟩ := cellsQ (i := 0) (j := i) haa.2 hc1 (Nat.zero_le _) (by omega) o2
  rw [ep0] at q1
  have hc2 : cat (S2 aa) p (5, v0, s0, ofL l) := by rw [q3 aa haa.2.1 haa.2.2]; exact hc1
  obtain ⟨S3, v1, v2, v3⟩ := cellsQ (i := j) (j := l.length) haa.2 hc2 hj (Nat.le_refl _) q2
  rw [epn] at v1
  have body : (blks false ((l.drop 0).take (i - 0))).flatten ++ (blks false ((l.drop j).take (l.length - j))).flatten = (blks false (l.take i ++ l.drop j)).flatten := by
    rw [blks_app, List.flatten_append, List.drop_zero, Nat.sub_zero, List.take_of_length_le (show (l.drop j).length ≤ l.length - j by rw [List.length_drop]; exact Nat.le_refl _)]
  obtain ⟨S4, z1, z2, z3⟩ := oclose (C := C) (k := 5) (at_ := at_) (body := (blks false (l.take i ++ l.drop j)).flatten) (by rw [← body]; simpa using v2) o4
  refine ⟨S4, ?_, ((fr3_O o3).trans (fr3_O q3)).trans ((fr3_O v3).trans (fr3_O z3)), _, z2, fun T hT => ?_, fun hn => by cases hn⟩
  · unfold b_around
    rw [o1, o_bind, show Int32.ofNat p + 2 = Int32.ofNat (p + 2) from (Int32.ofNat_add p 2).symm, q1, o_bind, (hc2.next).1, o_bind, v1, o_bind, z1, o_bind, o_bind]
  · cases hT
    refine ⟨by rw [frO_12 z3, frO_12 v3, frO_12 q3, frO_12 o3]; exact hr, wV_5 hc.2.1.2.2.1 (fun x hx => ?_), by rw [cV_5]⟩
    rcases List.mem_append.mp hx with c | c
    · exact hc.2.1.kids x (List.mem_of_mem_take c)
    · exact hc.2.1.kids x (List.mem_of_mem_drop c)
/-- what the call within does -/
def recT (rec : SS → Nat → Int32 → Int32 → Option SS) (aa pb E d : Nat) (ls : List Mb) : Prop := ∀ (S : SS) (C : List Int32) (p : Nat) (t' : Vl) (i : Nat), prT S aa pb E → atT S pb i E ls → OutV S C → rd S 78 12 = 0 → cat (S aa) p t' → p < 9000 → dV t' < d → ∃ S', rec S aa (Int32.ofNat p) (Int32.ofNat i) = some S' ∧ rtO S S' C (cutV (ls.map fun m => m.2) t' none)
/-- members that are not meant -/
theorem tname_r {aa pb E i p Ee : Nat} {s r rr C : List Int32} {at_ : Int32} {rec : SS → Nat → Int32 → Int32 → Option SS} (ha : C.length ≤ 9000 → at_ = Int32.ofNat C.length) (hE : Ee ≤ 9000) : ∀ (ms : List Mb) (n q : Nat) (S : SS) (D : List Int32), okL ms → (∀ m ∈ ms, m.1 ≠ s) → prT S aa pb E → (S pb).drop i = cstr s ++ rr → OutV S (C ++ 6 :: 0 :: D) → (S aa).length ≤ 9000 → r_next (S aa) (Int32.ofNat p) = some (Int32.ofNat Ee) → (S aa).drop q = (blks true ms).flatten ++ r → q + (blks true ms).flatten.length = Ee → ms.length < n → ∃ S', b_takeName_l16 aa rec n S (Int32.ofNat p) (Int32.ofNat i) at_ (Int32.ofNat q) = some S' ∧ OutV S' (C ++ (6 :: Int32.ofNat ((D ++ (blks true ms).flatten).length + 2) :: (D ++ (blks true ms).flatten))) ∧ frO S S' := by
  intro ms
  induction ms with
  | nil =>
    intro n q S D _ _ hP hs ho hl hn0 hd he hn
    obtain ⟨n, rfl⟩ : ∃ j, n = j + 1 := ⟨n - 1, by omega⟩
    have z : (blks true []).flatten = [] := rfl
    rw [z, List.length_nil] at he
    obtain ⟨S1, z1, z2, z3⟩ := oclose (C := C) (k := 6) (at_ := at_) ho ha
    refine ⟨S1, ?_, by rw [z, List.append_nil]; exact z2, z3⟩
    unfold b_takeName_l16
    rw [hn0, o_bind, if_pos ((i_le' (by omega) (by omega)).mpr (by omega)), z1, o_bind]
  | cons m ms ih =>
    intro n q S D hw hne hP hs ho hl hn0 hd he hn
    obtain ⟨n, rfl⟩ : ∃ j, n = j + 1 := ⟨n - 1, by omega⟩
    obtain ⟨p1, p2⟩ := hP.p
    obtain ⟨-, -, hpl, -, -, -, haa, hpb, -⟩ := id hP
    have eb : blks true (m :: ms) = cstr m.1 :: cV m.2 :: blks true ms := rfl
    rw [eb] at hd he
    have hh : ∀ x ∈ cstr m.1 :: cV m.2 :: blks true ms, hdd x := by rw [← eb]; exact blks_h hw
    obtain ⟨s1, s2, s3, s4⟩ := blk_step hl hh hd
    obtain ⟨u1, u2, u3, u4⟩ := blk_step hl (fun x hx => hh x (List.mem_cons_of_mem _ hx)) s2
    rw [List.flatten_cons, List.length_append, List.flatten_cons, List.length_append] at he
    rw [List.flatten_cons, List.append_assoc] at hd
    rw [List.flatten_cons, List.append_assoc] at s2
    obtain ⟨S1, q1, q2, q3⟩ := ocopy (aa := aa) haa.2 (cstr_hdd m.1) ho hl hd
    have ea : S1 aa = S aa := q3 aa haa.2.1 haa.2.2
    have ep : S1 pb = S pb := q3 pb (by omega) (by omega)
    obtain ⟨S2, v1, v2, v3⟩ := ocopy (S := S1) (aa := aa) (w := cV m.2) haa.2 (cV_h (hw m List.mem_cons_self).2.1) q2 (by rw [ea]; exact hl) (by rw [ea]; exact s2)
    have ea2 : S2 aa = S aa := (v3 aa haa.2.1 haa.2.2).trans ea
    have ep2 : S2 pb = S pb := (v3 pb (by omega) (by omega)).trans ep
    obtain ⟨S', j1, j2, j3⟩ := ih n (q + (cstr m.1).length + (cV m.2).length) S2 (D ++ (cstr m.1 ++ cV m.2)) hw.tail (fun x hx => hne x (List.mem_cons_of_mem _ hx)) (hP.fr ((fr3_O q3).trans (fr3_O v3))) (by rw [ep2]; exact hs) (by simpa using v2) (by rw [ea2]; exact hl) (by rw [ea2]; exact hn0) (by rw [ea2]; exact u2) (by omega) (by simp only [List.length_cons] at hn; omega)
    refine ⟨S', ?_, ?_, (q3.trans v3).trans j3⟩
    · unfold b_takeName_l16
      rw [hn0, o_bind, if_neg (by rw [i_le' (by omega) (by omega)]; omega), if_neg p1, p2, rstr_val hl hpl hd hs, o_bind, if_neg (fun c => hne m List.mem_cons_self ((cmpS_0 _ _).mp c)), q1, o_bind, ea, s1, o_bind, v1, o_bind, ea2, s1, o_bind, u1, o_bind]
      exact j1
    · rw [(blks_m m ms).1]
      simpa using j2
/-- the members without, or with another value -/
noncomputable def cutM (ms : List Mb) (s : List Int32) (ps : List Vl) : Option (List Mb) := if ms.findIdx (fun m => m.1 == s) < ms.length then (if ps.isEmpty then some (ms.take (ms.findIdx (fun m => m.1 == s)) ++ ms.drop (ms.findIdx (fun m => m.1 == s) + 1)) else (cutV ps ((ms.getD (ms.findIdx (fun m => m.1 == s)) nulM).2) none).map (fun u => ms.set (ms.findIdx (fun m => m.1 == s)) ((ms.getD (ms.findIdx (fun m => m.1 == s)) nulM).1, u))) else some ms
theorem tname_l {aa pb E d i p Ee : Nat} {r C : List Int32} {pm : Mb} {ls : List Mb} {at_ : Int32} {rec : SS → Nat → Int32 → Int32 → Option SS} (ha : C.length ≤ 9000 → at_ = Int32.ofNat C.length) (hE : Ee ≤ 9000) (e4 : pm.2.1 = 4) (hrec : ls ≠ [] → recT rec aa pb E d ls) : ∀ (ms : List Mb) (n q : Nat) (S : SS) (D : List Int32), okL ms → nod ms → (∀ m ∈ ms, dV m.2 < d) → prT S aa pb E → atT S pb i E (pm :: ls) → rd S 78 12 = 0 → OutV S (C ++ 6 :: 0 :: D) → (S aa).length ≤ 9000 → r_next (S aa) (Int32.ofNat p) = some (Int32.ofNat Ee) → (S aa).drop q = (blks true ms).flatten ++ r → q + (blks true ms).flatten.length = Ee → ms.length < n → ∃ S' X, b_takeName_l16 aa rec n S (Int32.ofNat p) (Int32.ofNat i) at_ (Int32.ofNat q) = some S' ∧ fr3 S S' ∧ OutV S' (C ++ (6 :: Int32.ofNat ((D ++ X).length + 2) :: (D ++ X))) ∧ (∀ L, cutM ms pm.2.2.2.1 (ls.map fun m => m.2) = some L → rd S' 78 12 = 0 ∧ X = (blks true L).flatten ∧ okL L) ∧ (cutM ms pm.2.2.2.1 (ls.map fun m => m.2) = none → ¬ rd S' 78 12 ≤ 0) := by
  intro ms
  induction ms with
  | nil =>
    intro n q S D _ _ _ hP hA hr ho hl hn0 hd he hn
    obtain ⟨n, rfl⟩ : ∃ j, n = j + 1 := ⟨n - 1, by omega⟩
    have z : (blks true []).flatten = [] := rfl
    rw [z, List.length_nil] at he
    obtain ⟨S1, z1, z2, z3⟩ := oclose (C := C) (k := 6) (at_ := at_) ho ha
    refine ⟨S1, [], ?_, fr3_O z3, by rw [List.append_nil]; exact z2, fun L hL => ?_, fun hn => by cases hn⟩
    · unfold b_takeName_l16
      rw [hn0, o_bind, if_pos ((i_le' (by omega) (by omega)).mpr (by omega)), z1, o_bind]
    · cases hL
      exact ⟨by rw [frO_12 z3]; exact hr, rfl, fun x hx => by cases hx⟩
  | cons m ms ih =>
    intro n q S D hw hnd hdp hP hA hr ho hl hn0 hd he hn
    obtain ⟨n, rfl⟩ : ∃ j, n = j + 1 := ⟨n - 1, by omega⟩
    obtain ⟨p1, p2⟩ := hP.p
    obtain ⟨-, -, hpl, -, -, -, haa, hpb, -⟩ := id hP
    obtain ⟨c1, c2, c3, c4, c5⟩ := hA.cons hP
    obtain ⟨-, -, rr, dd⟩ := id c2
    rw [cV_4 e4] at dd
    have eb : blks true (m :: ms) = cstr m.1 :: cV m.2 :: blks true ms := rfl
    rw [eb] at hd he
    have hh : ∀ x ∈ cstr m.1 :: cV m.2 :: blks true ms, hdd x := by rw [← eb]; exact blks_h hw
    obtain ⟨s1, s2, s3, s4⟩ := blk_step hl hh hd
    obtain ⟨u1, u2, u3, u4⟩ := blk_step hl (fun x hx => hh x (List.mem_cons_of_mem _ hx)) s2
    rw [List.flatten_cons, List.length_append, List.flatten_cons, List.length_append] at he
    rw [List.flatten_cons, List.append_assoc] at hd
    rw [List.flatten_cons, List.append_assoc] at s2
    have hnd' : nod ms ∧ ∀ x ∈ ms, x.1 ≠ m.1 := by
      unfold nod at hnd ⊢
      rw [List.map_cons, List.nodup_cons] at hnd
      exact ⟨hnd.2, fun x hx c => hnd.1 (by rw [← c]; exact List.mem_map_of_mem hx)⟩
    have hn' : ms.length < n := by simp only [List.length_cons] at hn; omega
    by_cases em : m.1 = pm.2.2.2.1
    · have ef : (m :: ms).findIdx (fun x => x.1 == pm.2.2.2.1) = 0 := by rw [List.findIdx_cons]; simp [em]
      have hne' : ∀ x ∈ ms, x.1 ≠ pm.2.2.2.1 := fun x hx => by rw [← em]; exact hnd'.2 x hx
      by_cases hls : ls = []
      · -- it goes
        have ec : cutM (m :: ms) pm.2.2.2.1 (ls.map fun m => m.2) = some ms := by
          unfold cutM
          rw [ef, if_pos (by simp), hls]
          rfl
        obtain ⟨S', j1, j2, j3⟩ := tname_r (s := pm.2.2.2.1) (rr := rr) (rec := rec) ha hE ms n (q + (cstr m.1).length + (cV m.2).length) S D hw.tail hne' hP dd ho hl hn0 u2 (by omega) hn'
        refine ⟨S', (blks true ms).flatten, ?_, fr3_O j3, j2, fun L hL => ?_, fun hn => by rw [ec] at hn; cases hn⟩
        · unfold b_takeName_l16
          rw [hn0, o_bind, if_neg (by rw [i_le' (by omega) (by omega)]; omega), if_neg p1, p2, rstr_val hl hpl hd dd, o_bind, if_pos ((cmpS_0 _ _).mpr em), c5, o_bind, if_pos hls, if_neg (by decide), s1, o_bind, u1, o_bind]
          exact j1
        · rw [ec] at hL
          cases hL
          exact ⟨by rw [frO_12 j3]; exact hr, rfl, hw.tail⟩
      · have hemp : ¬ (ls.map fun m => m.2).isEmpty = true := by rw [List.isEmpty_iff, List.map_eq_nil_iff]; exact hls
        have ec : cutM (m :: ms) pm.2.2.2.1 (ls.map fun m => m.2) = (cutV (ls.map fun m => m.2) m.2 none).map (fun u => (m.1, u) :: ms) := by
          unfold cutM
          rw [ef, if_pos (by simp), if_neg hemp]
          rfl
        obtain ⟨S1, q1, q2, q3⟩ := ocopy (aa := aa) haa.2 (cstr_hdd m.1) ho hl hd
        have ea : S1 aa = S aa := q3 aa haa.2.1 haa.2.2
        have ep : S1 pb = S pb := q3 pb (by omega) (by omega)
        have f1 := fr3_O q3
        have hP1 := hP.fr f1
        obtain ⟨p1', p2'⟩ := hP1.p
        have cm : cat (S1 aa) (q + (cstr m.1).length) m.2 := by rw [ea]; exact ⟨hl, (hw m List.mem_cons_self).2, _, s2⟩
        obtain ⟨S2, d1, d2, C', d3, d4, d5⟩ := hrec hls S1 _ (q + (cstr m.1).length) m.2 (i + (cV pm.2).length) hP1 (c4.fr hpb f1) q2 (by rw [frO_12 q3]; exact hr) cm (by omega) (hdp m List.mem_cons_self)
        have ea2 : S2 aa = S aa := (d2.1 aa haa.1 haa.2.1 haa.2.2).trans ea
        have ep2 : S2 pb = S pb := (d2.1 pb (by omega) (by omega) (by omega)).trans ep
        obtain ⟨S3, j1, j2, j3⟩ := tname_r (s := pm.2.2.2.1) (rr := rr) (rec := rec) ha hE ms n (q + (cstr m.1).length + (cV m.2).length) S2 (D ++ (cstr m.1 ++ C')) hw.tail hne' (hP1.fr d2) (by rw [ep2]; exact dd) (by simpa using d3) (by rw [ea2]; exact hl) (by rw [ea2]; exact hn0) (by rw [ea2]; exact u2) (by omega) hn'
        refine ⟨S3, cstr m.1 ++ (C' ++ (blks true ms).flatten), ?_, (f1.trans d2).trans (fr3_O j3), by simpa using j2, fun L hL => ?_, fun hn => ?_⟩
        · unfold b_takeName_l16
          rw [hn0, o_bind, if_neg (by rw [i_le' (by omega) (by omega)]; omega), if_neg p1, p2, rstr_val hl hpl hd dd, o_bind, if_pos ((cmpS_0 _ _).mpr em), c5, o_bind, if_neg hls, if_pos rfl, q1, o_bind, ea, s1, o_bind, if_neg p1', p2', ep, c3, o_bind, d1, o_bind, ea2, s1, o_bind, u1, o_bind]
          exact j1
        · rw [ec] at hL
          cases ho' : cutV (ls.map fun m => m.2) m.2 none with
          | none => rw [ho'] at hL; cases hL
          | some U =>
            rw [ho'] at hL
            cases hL
            obtain ⟨y1, y2, y3⟩ := d4 U ho'
            refine ⟨by rw [frO_12 j3]; exact y1, by rw [(blks_m _ _).1, y3], fun x hx => ?_⟩
            rcases List.mem_cons.mp hx with c | c
            · rw [c]; exact ⟨(hw m List.mem_cons_self).1, y2⟩
            · exact hw.tail x c
        · rw [ec] at hn
          cases ho' : cutV (ls.map fun m => m.2) m.2 none with
          | none => rw [frO_12 j3]; exact d5 ho'
          | some U => rw [ho'] at hn; cases hn
    · obtain ⟨S1, q1, q2, q3⟩ := ocopy (aa := aa) haa.2 (cstr_hdd m.1) ho hl hd
      have ea : S1 aa = S aa := q3 aa haa.2.1 haa.2.2
      obtain ⟨S2, v1, v2, v3⟩ := ocopy (S := S1) (aa := aa) (w := cV m.2) haa.2 (cV_h (hw m List.mem_cons_self).2.1) q2 (by rw [ea]; exact hl) (by rw [ea]; exact s2)
      have ea2 : S2 aa = S aa := (v3 aa haa.2.1 haa.2.2).trans ea
      have f2 := (fr3_O q3).trans (fr3_O v3)
      have ef : (m :: ms).findIdx (fun x => x.1 == pm.2.2.2.1) = ms.findIdx (fun x => x.1 == pm.2.2.2.1) + 1 := by
        rw [List.findIdx_cons, show (m.1 == pm.2.2.2.1) = false by simp [em]]; rfl
      have ec : cutM (m :: ms) pm.2.2.2.1 (ls.map fun m => m.2) = (cutM ms pm.2.2.2.1 (ls.map fun m => m.2)).map (fun L => m :: L) := by
        unfold cutM
        rw [ef]
        by_cases hj : ms.findIdx (fun x => x.1 == pm.2.2.2.1) < ms.length
        · rw [if_pos hj, if_pos (by simp only [List.length_cons]; omega)]
          by_cases he' : (ls.map fun m => m.2).isEmpty = true
          · rw [if_pos he', if_pos he']
            rfl
          · rw [if_neg he', if_neg he']
            have : (m :: ms).getD (ms.findIdx (fun x => x.1 == pm.2.2.2.1) + 1) nulM = ms.getD (ms.findIdx (fun x => x.1 == pm.2.2.2.1)) nulM := rfl
            rw [this, Option.map_map]
            rfl
        · rw [if_neg hj, if_neg (by simp only [List.length_cons]; omega)]
          rfl
      obtain ⟨S', X, j1, j2, j3, j4, j5⟩ := ih n (q + (cstr m.1).length + (cV m.2).length) S2 (D ++ (cstr m.1 ++ cV m.2)) hw.tail hnd'.1 (fun x hx => hdp x (List.mem_cons_of_mem _ hx)) (hP.fr f2) (hA.fr hpb f2) (by rw [frO_12 v3, frO_12 q3]; exact hr) (by simpa using v2) (by rw [ea2]; exact hl) (by rw [ea2]; exact hn0) (by rw [ea2]; exact u2) (by omega) hn'
      refine ⟨S', cstr m.1 ++ (cV m.2 ++ X), ?_, f2.trans j2, by simpa using j3, fun L hL => ?_, fun hn => ?_⟩
      · unfold b_takeName_l16
        rw [hn0, o_bind, if_neg (by rw [i_le' (by omega) (by omega)]; omega), if_neg p1, p2, rstr_val hl hpl hd dd, o_bind, if_neg (fun c => em ((cmpS_0 _ _).mp c)), q1, o_bind, ea, s1, o_bind, v1, o_bind, ea2, s1, o_bind, u1, o_bind]
        exact j1
      · rw [ec] at hL
        cases ho' : cutM ms pm.2.2.2.1 (ls.map fun m => m.2) with
        | none => rw [ho'] at hL; cases hL
        | some L' =>
          rw [ho'] at hL
          cases hL
          obtain ⟨y1, y2, y3⟩ := j4 L' ho'
          refine ⟨y1, by rw [(blks_m _ _).1, y2], fun x hx => ?_⟩
          rcases List.mem_cons.mp hx with c | c
          · rw [c]; exact hw m List.mem_cons_self
          · exact y3 x c
      · rw [ec] at hn
        cases ho' : cutM ms pm.2.2.2.1 (ls.map fun m => m.2) with
        | none => exact j5 ho'
        | some L' => rw [ho'] at hn; cases hn
end RTake173
