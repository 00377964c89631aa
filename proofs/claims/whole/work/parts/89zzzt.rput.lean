/-! The reference puts a value at the end of a path: its tools. -/
section RPut161
theorem osimple {S : SS} {C : List Int32} (h : OutV S C) (k : Int32) : ∃ S', q_simple S k = some S' ∧ OutV S' (C ++ [k, 2]) ∧ frO S S' := by
  obtain ⟨S1, at_, e1, o1, f1, a1⟩ := oopen h k
  obtain ⟨S2, e2, o2, f2⟩ := oclose (C := C) (body := []) (k := k) o1 a1
  unfold q_simple
  rw [e1, o_bind, e2, o_bind]
  exact ⟨S2, rfl, o2, f1.trans f2⟩
/-- what a call of put leaves -/
def fr3 (S S' : SS) : Prop := (∀ a, a ≠ 78 → a ≠ 90 → a ≠ 91 → S' a = S a) ∧ (∀ k, k ≠ 12 → k ≠ 17 → k ≠ 18 → rd S' 78 k = rd S 78 k) ∧ (S' 78).length = (S 78).length
theorem fr3.refl (S : SS) : fr3 S S := ⟨fun _ _ _ _ => rfl, fun _ _ _ _ => rfl, rfl⟩
theorem fr3.trans {S S1 S2 : SS} (a : fr3 S S1) (b : fr3 S1 S2) : fr3 S S2 := ⟨fun x h1 h2 h3 => (b.1 x h1 h2 h3).trans (a.1 x h1 h2 h3), fun k h1 h2 h3 => (b.2.1 k h1 h2 h3).trans (a.2.1 k h1 h2 h3), b.2.2.trans a.2.2⟩
theorem fr3_O {S S' : SS} (h : frO S S') : fr3 S S' := ⟨fun a _ h2 h3 => h a h2 h3, fun k _ _ _ => by unfold rd; rw [h 78 (by decide) (by decide)], by rw [h 78 (by decide) (by decide)]⟩
theorem fr3_N {S S' : SS} (h : frN S S') : fr3 S S' := ⟨fun a h1 _ _ => h.1 a h1, fun k _ h2 h3 => h.2.1 k h2 h3, h.2.2⟩
theorem frO_12 {S S' : SS} (h : frO S S') (k : Nat) : rd S' 78 k = rd S 78 k := by unfold rd; rw [h 78 (by decide) (by decide)]
/-- what stands there for put: the path, the value -/
def prP (S : SS) (aa pb vb : Nat) (pt vt : Vl) : Prop := rd S 78 19 = Int32.ofNat pb ∧ rd S 78 20 = Int32.ofNat vb ∧ cat (S pb) 0 pt ∧ cat (S vb) 0 vt ∧ S 39 = mp_aS ∧ S 40 = mp_aE ∧ (S 78).length = 22 ∧ (82 ≤ aa ∧ aa ≤ 89) ∧ (82 ≤ pb ∧ pb ≤ 89) ∧ (82 ≤ vb ∧ vb ≤ 89)
theorem prP.fr {S S' : SS} {aa pb vb : Nat} {pt vt : Vl} (h : prP S aa pb vb pt vt) (hf : fr3 S S') : prP S' aa pb vb pt vt := by
  obtain ⟨h1, h2, h3, h4, h5, h6, h7, h8, h9, h10⟩ := h
  exact ⟨by rw [hf.2.1 19 (by decide) (by decide) (by decide)]; exact h1, by rw [hf.2.1 20 (by decide) (by decide) (by decide)]; exact h2, by rw [hf.1 pb (by omega) (by omega) (by omega)]; exact h3, by rw [hf.1 vb (by omega) (by omega) (by omega)]; exact h4, by rw [hf.1 39 (by decide) (by decide) (by decide)]; exact h5, by rw [hf.1 40 (by decide) (by decide) (by decide)]; exact h6, by rw [hf.2.2]; exact h7, h8, h9, h10⟩
theorem prP.p {S : SS} {aa pb vb : Nat} {pt vt : Vl} (h : prP S aa pb vb pt vt) : ¬ rd S 78 19 = 0 ∧ (rd S 78 19).toNatClampNeg = pb ∧ ¬ rd S 78 20 = 0 ∧ (rd S 78 20).toNatClampNeg = vb := by
  obtain ⟨h1, h2, h3, h4, h5, h6, h7, h8, h9, h10⟩ := h
  rw [h1, h2, show (0 : Int32) = Int32.ofNat 0 from rfl, i_inj (by omega) (by omega), i_inj (by omega) (by omega), i_cl (by omega), i_cl (by omega)]
  exact ⟨by omega, rfl, by omega, rfl⟩
/-- the rest of the path at i -/
def atP (S : SS) (pb i N : Nat) (ls : List Mb) : Prop := okL ls ∧ iget (S pb) 1 = some (Int32.ofNat N) ∧ N ≤ 9000 ∧ i + (blks false ls).flatten.length = N ∧ ∃ r, (S pb).drop i = (blks false ls).flatten ++ r
theorem atP.fr {S S' : SS} {pb i N : Nat} {ls : List Mb} (h : atP S pb i N ls) (hb : 82 ≤ pb ∧ pb ≤ 89) (hf : fr3 S S') : atP S' pb i N ls := by
  unfold atP
  rw [hf.1 pb (by omega) (by omega) (by omega)]
  exact h
theorem atP.cons {S : SS} {pb i N : Nat} {m : Mb} {ls : List Mb} (h : atP S pb i N (m :: ls)) (hl : (S pb).length ≤ 9000) : i < N ∧ cat (S pb) i m.2 ∧ r_next (S pb) (Int32.ofNat i) = some (Int32.ofNat (i + (cV m.2).length)) ∧ atP S pb (i + (cV m.2).length) N ls := by
  obtain ⟨h1, h2, h3, h4, r, h5⟩ := h
  have eb : blks false (m :: ls) = cV m.2 :: blks false ls := rfl
  rw [eb] at h4 h5
  have hh : ∀ z ∈ cV m.2 :: blks false ls, hdd z := by rw [← eb]; exact blks_h h1
  obtain ⟨s1, s2, s3, s4⟩ := blk_step hl hh h5
  rw [List.flatten_cons, List.length_append] at h4
  rw [List.flatten_cons, List.append_assoc] at h5
  exact ⟨by omega, ⟨hl, (h1 m List.mem_cons_self).2, _, h5⟩, s1, h1.tail, h2, h3, by omega, r, s2⟩
/-- what a call of put answers -/
def rpO (S S' : SS) (C : List Int32) (o : Option Vl) (dp : Nat) : Prop := fr3 S S' ∧ ∃ C', OutV S' (C ++ C') ∧ (∀ T, o = some T → rd S' 78 12 = 0 ∧ wV T ∧ (C' = cV T ∨ (9000 < C'.length ∧ 64 < dp + dV T))) ∧ (o = none → ¬ rd S' 78 12 ≤ 0)
theorem rref {S : SS} {C : List Int32} {v : Int32} {dp : Nat} (h78 : (S 78).length = 22) (ho : OutV S C) (hv : ¬ v ≤ 0) (hr : rd S 78 12 = 0) : ∃ S', ((b_refuse S v).bind fun r => some r) = some S' ∧ rpO S S' C none dp := by
  refine ⟨wr S 78 12 v, by unfold b_refuse; rw [hr, if_pos rfl, o_bind], ⟨fun a h1 _ _ => wr_ne h1, fun k h1 _ _ => rd_wr_j (fun e => h1 e.symm), wr_len⟩, [], ?_, fun T hT => (by cases hT), fun _ => by rw [rd_wr (by rw [h78]; decide)]; exact hv⟩
  rw [List.append_nil]
  unfold OutV rd at ho ⊢
  rw [wr_ne (by decide), wr_ne (by decide)]
  exact ho
/-- the target: nothing, or a value -/
def tgt (S : SS) (aa : Nat) (p0 : Int32) (t : Vl) : Prop := (p0 = -1 ∧ t = vNull) ∨ ∃ p, p0 = Int32.ofNat p ∧ p < 9000 ∧ cat (S aa) p t
theorem cV_5 (v : Int) (s : List Int32) (l : List Mb) : cV (5, v, s, ofL l) = 5 :: Int32.ofNat ((blks false l).flatten.length + 2) :: (blks false l).flatten := by
  unfold cV cval
  simp only
  rw [blks_flat]
  rfl
theorem cV_6 (v : Int) (s : List Int32) (l : List Mb) : cV (6, v, s, ofL l) = 6 :: Int32.ofNat ((blks true l).flatten.length + 2) :: (blks true l).flatten := by
  unfold cV cval
  simp only
  rw [blks_flat]
  rfl
theorem blks_app (b : Bool) (A B : List Mb) : blks b (A ++ B) = blks b A ++ blks b B := by unfold blks; rw [List.flatMap_append]
theorem blks_m (m : Mb) (l : List Mb) : (blks true (m :: l)).flatten = cstr m.1 ++ (cV m.2 ++ (blks true l).flatten) ∧ (blks false (m :: l)).flatten = cV m.2 ++ (blks false l).flatten := by
  have e1 : blks true (m :: l) = cstr m.1 :: cV m.2 :: blks true l := rfl
  have e2 : blks false (m :: l) = cV m.2 :: blks false l := rfl
  rw [e1, e2]
  simp
/-- the box around a child -/
theorem rbox {S S' : SS} {C A Z C' : List Int32} {k : Nat} {v : Int} {s : List Int32} {L : Vl → List Mb} {o : Option Vl} {dp : Nat} (hk : k = 5 ∨ k = 6) (hf : fr3 S S') (ho : OutV S' (C ++ (Int32.ofNat k :: Int32.ofNat ((A ++ (C' ++ Z)).length + 2) :: (A ++ (C' ++ Z))))) (h1 : ∀ U, o = some U → rd S' 78 12 = 0 ∧ wV U ∧ (C' = cV U ∨ (9000 < C'.length ∧ 64 < dp + 1 + dV U))) (h2 : o = none → ¬ rd S' 78 12 ≤ 0) (hL : ∀ U, wV U → wV (k, v, s, ofL (L U)) ∧ (∃ m ∈ L U, m.2 = U) ∧ (blks (k == 6) (L U)).flatten = A ++ (cV U ++ Z)) : rpO S S' C (o.map fun u => (k, v, s, ofL (L u))) dp := by
  refine ⟨hf, _, ho, fun T hT => ?_, fun hn => ?_⟩
  · cases o with
    | none => cases hT
    | some U =>
      cases hT
      obtain ⟨a1, a2, a3⟩ := h1 U rfl
      obtain ⟨b1, ⟨m, hm, hmU⟩, b3⟩ := hL U a2
      refine ⟨a1, b1, ?_⟩
      rcases a3 with c | ⟨c1, c2⟩
      · left
        rw [c]
        rcases hk with rfl | rfl
        · have b3 : (blks false (L U)).flatten = A ++ (cV U ++ Z) := b3
          show _ = cV (5, v, s, ofL (L U))
          rw [cV_5, b3]
          rfl
        · have b3 : (blks true (L U)).flatten = A ++ (cV U ++ Z) := b3
          show _ = cV (6, v, s, ofL (L U))
          rw [cV_6, b3]
          rfl
      · right
        refine ⟨?_, ?_⟩
        · simp only [List.length_cons, List.length_append]
          omega
        · have := dV_kid (k := k) (v := v) (s := s) hk hm
          rw [hmU] at this
          show 64 < dp + dV (k, v, s, ofL (L U))
          omega
  · cases o with
    | none => exact h2 rfl
    | some U => cases hn
end RPut161
