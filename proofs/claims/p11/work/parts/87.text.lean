/-! The class Text: its bytes, and what its small methods do. -/
section Text87
variable {d : Nat} {h : mH} {q : Nat × Nat} {o w : Nat} {us : List Int32} {ov : Int32}
theorem b_hi : ∀ i : Fin 32, ¬ i.val < 8 → (255#32).getLsbD i.val = false := by decide
theorem b_lo : ∀ i : Fin 8, (255#32).getLsbD i.val = true := by decide
theorem b_255 (b : Int32) : b.toInt8.toInt32 &&& 255 = b &&& 255 := by
  apply Int32.toBitVec_inj.mp
  simp only [Int32.toBitVec_and, Int32.toBitVec_toInt8, Int8.toBitVec_toInt32]
  ext i hi
  have e : (255 : Int32).toBitVec = 255#32 := rfl
  rw [e]
  simp only [BitVec.getElem_and, BitVec.getElem_signExtend]
  by_cases h8 : i < 8
  · simp [h8, hi]
  · have hz : (255#32)[i] = false := by
      rw [← BitVec.getLsbD_eq_getElem]
      exact b_hi ⟨i, hi⟩ h8
    rw [hz, Bool.and_false, Bool.and_false]
theorem b_8 (b : Int32) : (b &&& 255).toInt8 = b.toInt8 := by
  apply Int8.toBitVec_inj.mp
  simp only [Int32.toBitVec_toInt8, Int32.toBitVec_and]
  ext i hi
  have e : (255 : Int32).toBitVec = 255#32 := rfl
  rw [e]
  have h32 : i < 32 := by omega
  have hz : (255#32)[i] = true := by
    rw [← BitVec.getLsbD_eq_getElem]
    exact b_lo ⟨i, hi⟩
  simp only [BitVec.getElem_signExtend, h32, dif_pos, BitVec.getElem_and, hz, Bool.and_true]
theorem b_and (b : Int32) : (b &&& 255) &&& 255 = b &&& 255 := by
  apply Int32.toBitVec_inj.mp
  simp only [Int32.toBitVec_and]
  ext i hi
  simp only [BitVec.getElem_and]
  cases b.toBitVec[i] <;> cases (255 : Int32).toBitVec[i] <;> rfl
theorem i_lt {a b : Int32} : a < b ↔ a.toInt < b.toInt := Int32.lt_iff_toInt_lt
theorem i_le {a b : Int32} : a ≤ b ↔ a.toInt ≤ b.toInt := Int32.le_iff_toInt_le
theorem i_of {k : Nat} (hk : k < 2 ^ 31) : (Int32.ofNat k).toInt = k := toInt_of rfl hk
theorem i_nat {i : Int32} : i.toNatClampNeg = i.toInt.toNat := rfl
/-- a byte as it is stored -/
def m_by (u : Int32) : Value := .int u.toInt8.toInt32
/-- a Text at o, its row at w: its bytes, whether it is over -/
def tx (h : mH) (o w : Nat) (us : List Int32) (ov : Int32) : Prop := 41 ≤ o ∧ 41 ≤ w ∧ h[o]? = some (4, [.ref w, .int (Int32.ofNat us.length), .int ov]) ∧ us.length ≤ 4096 ∧ (∀ u ∈ us, u &&& 255 = u) ∧ ∃ tail : List Value, h[w]? = some (1000, us.map m_by ++ tail) ∧ us.length + tail.length = 4096
/-- the same heap but for some cells -/
def sm (A : List Nat) (h h' : mH) : Prop := h'.length = h.length ∧ ∀ k, k ∉ A → h'[k]? = h[k]?
theorem tx.ne {h : mH} {o w : Nat} {us : List Int32} {ov : Int32} (t : tx h o w us ov) : w ≠ o := by
  obtain ⟨-, -, h1, -, -, tail, h2, -⟩ := t
  intro e
  rw [e] at h2
  cases h1.symm.trans h2
theorem tx.moved {h h' : mH} {o w : Nat} {us : List Int32} {ov : Int32} {A : List Nat} (t : tx h o w us ov) (s : sm A h h') (ho : o ∉ A) (hw : w ∉ A) : tx h' o w us ov := by
  obtain ⟨t1, t2, t3, t4, t5, tail, t6, t7⟩ := t
  exact ⟨t1, t2, by rw [s.2 o ho]; exact t3, t4, t5, tail, by rw [s.2 w hw]; exact t6, t7⟩
theorem sm.refl (A : List Nat) (h : mH) : sm A h h := ⟨rfl, fun _ _ => rfl⟩
theorem sm.trans {A : List Nat} {h h1 h2 : mH} (a : sm A h h1) (b : sm A h1 h2) : sm A h h2 := ⟨b.1.trans a.1, fun k hk => (b.2 k hk).trans (a.2 k hk)⟩
theorem sm.set {A : List Nat} {h : mH} {x : Nat} {c : mC} (hx : x ∈ A) : sm A h (h.set x c) := ⟨List.length_set, fun k hk => List.getElem?_set_ne (fun (e : x = k) => hk (e ▸ hx))⟩
theorem m_at_set {h : mH} {x : Nat} {c c' : mC} (hx : h[x]? = some c) : (h.set x c')[x]? = some c' := by
  rw [List.getElem?_set_self]
  exact (List.getElem?_eq_some_iff.mp hx).1
/-- Text.length -/
theorem x24 (t : tx h o w us ov) : mE d mm24 (0, [some (.ref o)], [], (h, q)) (.returned (some (.int (Int32.ofNat us.length))), (h, q)) := by
  refine mE.sn 1 (g' := (1, [some (.ref o)], [.ref o], (h, q))) rfl ?_
  refine mE.get rfl t.2.2.1 rfl ?_
  exact m_ev.fin rfl
/-- Text.isOver -/
theorem x63 (t : tx h o w us ov) : mE d mm63 (0, [some (.ref o)], [], (h, q)) (.returned (some (narrow .boolean (.int ov))), (h, q)) := by
  refine mE.sn 1 (g' := (1, [some (.ref o)], [.ref o], (h, q))) rfl ?_
  refine mE.get rfl t.2.2.1 rfl ?_
  exact m_ev.fin rfl
/-- a Text's byte, or -1 -/
def tat (us : List Int32) (i : Int32) : Int32 := if i < 0 then -1 else us.getD i.toNatClampNeg (-1)
/-- Text.at -/
theorem x37 (t : tx h o w us ov) (i : Int32) : mE d mm37 (0, [some (.ref o), some (.int i)], [], (h, q)) (.returned (some (.int (tat us i))), (h, q)) := by
  obtain ⟨t1, t2, t3, t4, t5, tail, t6, t7⟩ := t
  refine mE.sn 1 (g' := (1, [some (.ref o), some (.int i)], [.int i], (h, q))) rfl ?_
  refine mE.br (c := i < 0) rfl (fun hi => ?_) (fun hi => ?_)
  · rw [show tat us i = -1 by rw [tat, if_pos hi]]
    refine mE.sn 1 (g' := (26, [some (.ref o), some (.int i)], [.int (-1)], (h, q))) rfl ?_
    exact m_ev.fin rfl
  · refine mE.sn 2 (g' := (6, [some (.ref o), some (.int i)], [.ref o, .int i], (h, q))) rfl ?_
    refine mE.get rfl t3 rfl ?_
    refine mE.br (c := Int32.ofNat us.length ≤ i) rfl (fun hl => ?_) (fun hl => ?_)
    · have e : tat us i = -1 := by
        rw [tat, if_neg hi, List.getD_eq_getElem?_getD, List.getElem?_eq_none]
        · rfl
        · rw [i_le, i_of (by omega)] at hl
          rw [i_nat]
          omega
      rw [e]
      refine mE.sn 1 (g' := (26, [some (.ref o), some (.int i)], [.int (-1)], (h, q))) rfl ?_
      exact m_ev.fin rfl
    · rw [i_le, i_of (by omega)] at hl
      have hk : i.toNatClampNeg < us.length := by
        rw [i_nat]
        rw [i_lt] at hi
        have : (0 : Int32).toInt = 0 := rfl
        omega
      have e : tat us i = us[i.toNatClampNeg] := by
        rw [tat, if_neg hi, List.getD_eq_getElem?_getD, List.getElem?_eq_getElem hk]
        rfl
      refine mE.sn 1 (g' := (13, [some (.ref o), some (.int i)], [.ref o], (h, q))) rfl ?_
      refine mE.get rfl t3 rfl ?_
      refine mE.sn 1 (g' := (17, [some (.ref o), some (.int i)], [.int i, .ref w], (h, q))) rfl ?_
      refine mE.bald (v := m_by us[i.toNatClampNeg]) rfl t6 ?_ ?_
      · rw [m_ix, if_neg hi, List.getElem?_append_left (by rw [List.length_map]; exact hk), List.getElem?_map, List.getElem?_eq_getElem hk]
        rfl
      · refine mE.sn 3 (g' := (26, [some (.ref o), some (.int i)], [.int (us[i.toNatClampNeg].toInt8.toInt32 &&& 255)], (h, q))) rfl ?_
        rw [e, b_255, t5 _ (List.getElem_mem hk)]
        exact m_ev.fin rfl
/-- Text.clear -/
theorem x35 (t : tx h o w us ov) : ∃ h', mE d mm35 (0, [some (.ref o)], [], (h, q)) (.returned none, (h', q)) ∧ tx h' o w [] 0 ∧ sm [o] h h' := by
  obtain ⟨t1, t2, t3, t4, t5, tail, t6, t7⟩ := id t
  have u1 : (h.set o (4, [.ref w, .int 0, .int ov]))[o]? = some (4, [.ref w, .int 0, .int ov]) := m_at_set t3
  have u2 : ((h.set o (4, [.ref w, .int 0, .int ov])).set o (4, [.ref w, .int 0, .int 0]))[o]? = some (4, [.ref w, .int 0, .int 0]) := m_at_set u1
  have s : sm [o] h ((h.set o (4, [.ref w, .int 0, .int ov])).set o (4, [.ref w, .int 0, .int 0])) := (sm.set List.mem_cons_self).trans (sm.set List.mem_cons_self)
  refine ⟨_, ?_, ⟨t1, t2, u2, by decide, (fun u hu => by cases hu), us.map m_by ++ tail, ?_, ?_⟩, s⟩
  · refine mE.sn 2 (g' := (2, [some (.ref o)], [.int 0, .ref o], (h, q))) rfl ?_
    refine mE.put rfl t3 t1 rfl rfl ?_
    refine mE.sn 2 (g' := (7, [some (.ref o)], [.int 0, .ref o], (h.set o (4, [.ref w, .int 0, .int ov]), q))) rfl ?_
    refine mE.put rfl u1 t1 rfl rfl ?_
    exact m_ev.fin rfl
  · rw [s.2 w (by simpa using t.ne)]
    exact t6
  · simp only [List.length_nil, List.length_append, List.length_map]
    omega
/-- a byte put -/
def tput (us : List Int32) (b : Int32) : List Int32 := if us.length < 4096 then us ++ [b &&& 255] else us
def tputO (us : List Int32) (ov : Int32) : Int32 := if us.length < 4096 then ov else 1
/-- Text.put -/
theorem x15 (t : tx h o w us ov) (b : Int32) : ∃ h', mE d mm15 (0, [some (.ref o), some (.int b)], [], (h, q)) (.returned none, (h', q)) ∧ tx h' o w (tput us b) (tputO us ov) ∧ sm [o, w] h h' := by
  obtain ⟨t1, t2, t3, t4, t5, tail, t6, t7⟩ := id t
  have hne := t.ne
  by_cases hl : us.length < 4096
  · have hn : ¬ (4096 : Int32) ≤ Int32.ofNat us.length := by
      rw [i_le, i_of (by omega)]
      have : (4096 : Int32).toInt = 4096 := rfl
      omega
    have hn0 : ¬ Int32.ofNat us.length < 0 := by
      rw [i_lt, i_of (by omega)]
      have : (0 : Int32).toInt = 0 := rfl
      omega
    have hnn : (Int32.ofNat us.length).toNatClampNeg = us.length := by
      rw [i_nat, i_of (by omega)]
      omega
    obtain ⟨v, tail', rfl⟩ : ∃ v tail', tail = v :: tail' := by
      cases tail with
      | nil => simp only [List.length_nil] at t7; omega
      | cons v r => exact ⟨v, r, rfl⟩
    have e1 : (us.map m_by ++ v :: tail').set us.length (m_by b) = (us ++ [b &&& 255]).map m_by ++ tail' := by
      rw [List.set_append_right _ _ (by rw [List.length_map]; exact Nat.le_refl _), List.length_map, Nat.sub_self, List.set_cons_zero, List.map_append, List.append_assoc]
      show _ = _ ++ ([m_by (b &&& 255)] ++ tail')
      unfold m_by
      rw [b_8]
      rfl
    have u1 : (h.set w (1000, (us ++ [b &&& 255]).map m_by ++ tail'))[o]? = some (4, [.ref w, .int (Int32.ofNat us.length), .int ov]) := by
      rw [List.getElem?_set_ne hne]
      exact t3
    have s : sm [o, w] h ((h.set w (1000, (us ++ [b &&& 255]).map m_by ++ tail')).set o (4, [.ref w, .int (Int32.ofNat us.length + 1), .int ov])) := (sm.set (by simp)).trans (sm.set (by simp))
    have el : Int32.ofNat us.length + 1 = Int32.ofNat (tput us b).length := by
      rw [tput, if_pos hl, List.length_append]
      exact (Int32.ofNat_add us.length 1).symm
    refine ⟨_, ?_, ⟨t1, t2, ?_, ?_, ?_, tail', ?_, ?_⟩, s⟩
    · refine mE.sn 1 (g' := (1, [some (.ref o), some (.int b)], [.ref o], (h, q))) rfl ?_
      refine mE.get rfl t3 rfl ?_
      refine mE.sn 1 (g' := (7, [some (.ref o), some (.int b)], [.int 4096, .int (Int32.ofNat us.length)], (h, q))) rfl ?_
      refine mE.no (c := (4096 : Int32) ≤ Int32.ofNat us.length) rfl hn ?_
      refine mE.sn 1 (g' := (11, [some (.ref o), some (.int b)], [.ref o], (h, q))) rfl ?_
      refine mE.get rfl t3 rfl ?_
      refine mE.sn 1 (g' := (15, [some (.ref o), some (.int b)], [.ref o, .ref w], (h, q))) rfl ?_
      refine mE.get rfl t3 rfl ?_
      refine mE.sn 2 (g' := (20, [some (.ref o), some (.int b)], [.int b.toInt8.toInt32, .int (Int32.ofNat us.length), .ref w], (h, q))) rfl ?_
      refine mE.bast rfl t6 t2 hn0 (by rw [hnn, List.length_append, List.length_map]; simp) ?_
      rw [hnn, show (Value.int b.toInt8.toInt32.toInt8.toInt32) = m_by b by rw [m_by]; simp, e1]
      refine mE.sn 2 (g' := (23, [some (.ref o), some (.int b)], [.ref o, .ref o], (h.set w (1000, (us ++ [b &&& 255]).map m_by ++ tail'), q))) rfl ?_
      refine mE.get rfl u1 rfl ?_
      refine mE.sn 2 (g' := (28, [some (.ref o), some (.int b)], [.int (Int32.ofNat us.length + 1), .ref o], (h.set w (1000, (us ++ [b &&& 255]).map m_by ++ tail'), q))) rfl ?_
      refine mE.put rfl u1 t1 rfl rfl ?_
      refine mE.sn 1 (g' := (39, [some (.ref o), some (.int b)], [], ((h.set w (1000, (us ++ [b &&& 255]).map m_by ++ tail')).set o (4, [.ref w, .int (Int32.ofNat us.length + 1), .int ov]), q))) rfl ?_
      exact m_ev.fin rfl
    · rw [m_at_set u1, el, tputO, if_pos hl]
    · rw [tput, if_pos hl, List.length_append]
      simp only [List.length_cons, List.length_nil]
      omega
    · intro u hu
      rw [tput, if_pos hl] at hu
      rcases List.mem_append.mp hu with hu | hu
      · exact t5 u hu
      · rw [List.mem_singleton.mp hu]
        exact b_and b
    · rw [List.getElem?_set_ne (fun e => hne e.symm), m_at_set t6, tput, if_pos hl]
    · rw [tput, if_pos hl, List.length_append]
      simp only [List.length_cons, List.length_nil] at t7 ⊢
      omega
  · have hn : (4096 : Int32) ≤ Int32.ofNat us.length := by
      rw [i_le, i_of (by omega)]
      have : (4096 : Int32).toInt = 4096 := rfl
      omega
    have e1 : tput us b = us := by rw [tput, if_neg hl]
    have e2 : tputO us ov = 1 := by rw [tputO, if_neg hl]
    rw [e1, e2]
    have s : sm [o, w] h (h.set o (4, [.ref w, .int (Int32.ofNat us.length), .int 1])) := sm.set (by simp)
    refine ⟨_, ?_, ⟨t1, t2, m_at_set t3, t4, t5, tail, ?_, t7⟩, s⟩
    · refine mE.sn 1 (g' := (1, [some (.ref o), some (.int b)], [.ref o], (h, q))) rfl ?_
      refine mE.get rfl t3 rfl ?_
      refine mE.sn 1 (g' := (7, [some (.ref o), some (.int b)], [.int 4096, .int (Int32.ofNat us.length)], (h, q))) rfl ?_
      refine mE.yes (c := (4096 : Int32) ≤ Int32.ofNat us.length) rfl hn ?_
      refine mE.sn 2 (g' := (36, [some (.ref o), some (.int b)], [.int 1, .ref o], (h, q))) rfl ?_
      refine mE.put rfl t3 t1 rfl rfl ?_
      exact m_ev.fin rfl
    · rw [List.getElem?_set_ne (fun e => hne e.symm)]
      exact t6
end Text87
