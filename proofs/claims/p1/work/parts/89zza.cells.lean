/-! The reference's cells: headed blocks, numbers. -/
section Cells116
theorem mask32 : ∀ i : Fin 64, (4294967295#64).getLsbD i.val = decide (i.val < 32) := by decide
theorem cat_bits (hi lo : BitVec 32) : (hi.signExtend 64) <<< 32 ||| (lo.signExtend 64 &&& 4294967295#64) = hi ++ lo := by
  apply BitVec.eq_of_getLsbD_eq
  intro i hlt
  have hm := mask32 ⟨i, hlt⟩
  simp only at hm
  rw [BitVec.getLsbD_or, BitVec.getLsbD_and, hm, BitVec.getLsbD_shiftLeft, BitVec.getLsbD_append]
  by_cases h : i < 32
  · simp [h, BitVec.getLsbD_signExtend]
    intros; omega
  · have h2 : i - 32 < 32 := by omega
    simp [h, h2, hlt, BitVec.getLsbD_signExtend]
    intros
    omega
theorem l_join (v : Int) (h : -9007199254740991 ≤ v ∧ v ≤ 9007199254740991) : ((Int32.ofInt (v / 4294967296)).toInt64 <<< ((32 : Int32).toInt64 &&& 63)) ||| ((Int32.ofInt v).toInt64 &&& 4294967295) = Int64.ofInt v := by
  apply Int64.toBitVec_inj.mp
  rw [Int64.toBitVec_or, Int64.toBitVec_and, Int64.toBitVec_shiftLeft, Int32.toBitVec_toInt64, Int32.toBitVec_toInt64, show (BitVec.smod ((32 : Int32).toInt64 &&& 63).toBitVec 64) = 32#64 from by decide]
  have e := cat_bits (Int32.ofInt (v / 4294967296)).toBitVec (Int32.ofInt v).toBitVec
  refine (e : _ = _).trans ?_
  apply BitVec.eq_of_toInt_eq
  rw [BitVec.toInt_append, if_neg (by decide)]
  have e1 : (Int32.ofInt (v / 4294967296)).toBitVec.toInt = v / 4294967296 := i_ofInt (by omega) (by omega)
  have e2 : ((Int32.ofInt v).toBitVec.toNat : Int) = v % 4294967296 := by
    show (((BitVec.ofInt 32 v).toNat : Nat) : Int) = _
    rw [BitVec.toNat_ofInt]
    have : ((2 ^ 32 : Nat) : Int) = 4294967296 := rfl
    omega
  have e3 : (Int64.ofInt v).toBitVec.toInt = v := by
    show (Int64.ofInt v).toInt = v
    rw [Int64.toInt_ofInt, show Int64.size = 18446744073709551616 from rfl, Int.bmod_def]
    omega
  rw [e1, e2, e3]
  have : (2 ^ 32 : Int) = 4294967296 := rfl
  omega
theorem iget_in {as : List Int32} {p : Nat} (hp : p < as.length) (hb : p < 2147483648) : iget as (Int32.ofNat p) = some as[p] := by
  unfold iget
  rw [if_neg (i_nn hb), i_cl hb, List.getElem?_eq_getElem hp]
theorem iget_drop {as r : List Int32} {x : Int32} {p : Nat} (hb : as.length ≤ 9000) (h : as.drop p = x :: r) : iget as (Int32.ofNat p) = some x := by
  have h1 := drop_len (w := [x]) h (by simp)
  simp only [List.length_cons, List.length_nil] at h1
  have hp : p < as.length := by omega
  rw [iget_in hp (by omega)]
  rw [List.drop_eq_getElem_cons hp] at h
  rw [(List.cons.inj h).1]
theorem iget_nth {as w r : List Int32} {p j : Nat} (hb : as.length ≤ 9000) (h : as.drop p = w ++ r) (hj : j < w.length) : iget as (Int32.ofNat (p + j)) = some w[j] := by
  have h1 : as.drop (p + j) = (w ++ r).drop j := by rw [← List.drop_drop, h]
  rw [List.drop_append_of_le_length (by omega), List.drop_eq_getElem_cons hj] at h1
  exact iget_drop hb h1
/-- a block that tells its length -/
def hdd (w : List Int32) : Prop := ∃ x t, w = x :: Int32.ofNat w.length :: t
theorem hdd.len {w : List Int32} (h : hdd w) : 2 ≤ w.length := by
  obtain ⟨x, t, e⟩ := h
  rw [e]; simp
theorem cstr_hdd (s : List Int32) : hdd (cstr s) := ⟨4, s, rfl⟩
theorem cV_hdd {t : Vl} (hk : t.1 ≤ 6) : ∃ r, cV t = Int32.ofNat t.1 :: Int32.ofNat (cV t).length :: r := by
  obtain ⟨k, v, s, f⟩ := t
  simp only at hk
  unfold cV cval
  simp only
  have : k = 0 ∨ k = 1 ∨ k = 2 ∨ k = 3 ∨ k = 4 ∨ k = 5 ∨ k = 6 := by omega
  rcases this with rfl | rfl | rfl | rfl | rfl | rfl | rfl
  · exact ⟨[], rfl⟩
  · exact ⟨[], rfl⟩
  · exact ⟨[], rfl⟩
  · exact ⟨_, rfl⟩
  · exact ⟨s, rfl⟩
  · exact ⟨_, rfl⟩
  · exact ⟨_, rfl⟩
theorem cV_h {t : Vl} (hk : t.1 ≤ 6) : hdd (cV t) := by
  obtain ⟨r, e⟩ := cV_hdd hk
  exact ⟨_, r, e⟩
theorem rnext_at {as w r : List Int32} {p : Nat} (hb : as.length ≤ 9000) (hw : hdd w) (h : as.drop p = w ++ r) : r_next as (Int32.ofNat p) = some (Int32.ofNat (p + w.length)) ∧ p + w.length ≤ as.length := by
  have h2 := hw.len
  have hl := drop_len h (by intro e; rw [e] at h2; simp at h2)
  refine ⟨?_, by omega⟩
  unfold r_next
  rw [i_a1, iget_nth hb h (j := 1) (by omega), o_bind, Int32.ofNat_add]
  obtain ⟨x, t, e⟩ := hw
  congr 2
  have : w[1]'(by omega) = Int32.ofNat w.length := by
    conv => lhs; rw [List.getElem_of_eq e]
    rfl
  exact this
theorem rnum_at {as r : List Int32} {v : Int} {p : Nat} (hb : as.length ≤ 9000) (hv : -9007199254740991 ≤ v ∧ v ≤ 9007199254740991) (h : as.drop p = cnum v ++ r) : r_number as (Int32.ofNat p) = some (Int64.ofInt v) := by
  unfold r_number
  rw [show Int32.ofNat p + 2 = Int32.ofNat (p + 2) from (Int32.ofNat_add p 2).symm, show Int32.ofNat p + 3 = Int32.ofNat (p + 3) from (Int32.ofNat_add p 3).symm, iget_nth hb h (j := 2) (by simp [cnum]), o_bind, iget_nth hb h (j := 3) (by simp [cnum]), o_bind]
  congr 1
  exact l_join v hv
/-- the blocks of members -/
def blk (b : Bool) (m : Mb) : List (List Int32) := if b then [cstr m.1, cV m.2] else [cV m.2]
def blks (b : Bool) (l : List Mb) : List (List Int32) := l.flatMap (blk b)
theorem blks_flat (b : Bool) (l : List Mb) : cF b (ofL l) = (blks b l).flatten := by
  rw [cF_ofL]
  unfold blks
  induction l with
  | nil => rfl
  | cons m l ih =>
    rw [List.flatMap_cons, List.flatMap_cons, List.flatten_append, ih]
    congr 1
    unfold cM blk
    cases b <;> simp
theorem blks_h {b : Bool} {l : List Mb} (h : okL l) : ∀ w ∈ blks b l, hdd w := by
  intro w hw
  unfold blks at hw
  obtain ⟨m, hm, hw⟩ := List.mem_flatMap.mp hw
  unfold blk at hw
  have := cV_h (h m hm).2.1
  cases b with
  | false => simp at hw; rw [hw]; exact this
  | true =>
    simp at hw
    rcases hw with e | e <;> rw [e]
    · exact cstr_hdd _
    · exact this
theorem blks_len (b : Bool) (l : List Mb) : (blks b l).length = if b then 2 * l.length else l.length := by
  unfold blks
  induction l with
  | nil => cases b <;> rfl
  | cons m l ih =>
    rw [List.flatMap_cons, List.length_append, ih]
    cases b <;> simp [blk] <;> try omega
/-- within an array or object -/
theorem cbox_in {as r : List Int32} {k : Nat} {v : Int} {s : List Int32} {l : List Mb} {p : Nat} (hk : k = 5 ∨ k = 6) (h : as.drop p = cV (k, v, s, ofL l) ++ r) : as.drop (p + 2) = (blks (k == 6) l).flatten ++ r ∧ (cV (k, v, s, ofL l)).length = (blks (k == 6) l).flatten.length + 2 := by
  have e : cV (k, v, s, ofL l) = [Int32.ofNat k, Int32.ofNat ((blks (k == 6) l).flatten.length + 2)] ++ (blks (k == 6) l).flatten := by
    unfold cV cval
    simp only
    rw [blks_flat]
    rcases hk with rfl | rfl <;> rfl
  rw [e, List.append_assoc] at h
  exact ⟨drop_more h, by rw [e]; simp⟩
end Cells116
