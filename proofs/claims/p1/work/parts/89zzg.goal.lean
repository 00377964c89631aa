/-! What is left to show: each call keeps what holds between calls, and both answer alike. -/
section Goal122
theorem and15 (y : Int32) : 0 ≤ (y &&& 15).toInt ∧ (y &&& 15).toInt ≤ 15 := by
  have h : (y &&& 15).toBitVec.toNat ≤ 15 := by
    rw [Int32.toBitVec_and, BitVec.toNat_and]
    exact Nat.and_le_right
  have e : (y &&& 15).toInt = ((y &&& 15).toBitVec.toNat : Int) := by
    show (y &&& 15).toBitVec.toInt = _
    rw [BitVec.toInt_eq_toNat_of_lt]
    omega
  omega
/-- the call feed: both answer alike, and I holds behind it -/
def stp0 (I : SS → Prop) : Prop := ∀ (S : SS) (p0 p1 p2 p3 p4 : Int32), (∃ h, cs h S) → I S → ∃ (c : SS × Int32) (w : SS × Int32), h_feed S p0 p1 p2 p3 p4 = some c ∧ c.1 0 = S 0 ∧ b_feed c.1 p0 p1 p2 p3 p4 = some w ∧ rd w.1 78 0 = c.2 ∧ (c.2 = 0 → lg (w.1 101) = w.2.toInt64) ∧ w.1 0 = S 0 ∧ I w.1
/-- the call end: both answer alike, and I holds behind it -/
def stp1 (I : SS → Prop) : Prop := ∀ (S : SS) (p0 : Int32), (∃ h, cs h S) → I S → ∃ (c : SS × Int32) (w : SS × Int32), h_end S p0 = some c ∧ c.1 0 = S 0 ∧ b_end c.1 p0 = some w ∧ rd w.1 78 0 = c.2 ∧ (c.2 = 0 → lg (w.1 101) = w.2.toInt64) ∧ w.1 0 = S 0 ∧ I w.1
/-- the call read: both answer alike, and I holds behind it -/
def stp2 (I : SS → Prop) : Prop := ∀ (S : SS) (p0 : Int32), (∃ h, cs h S) → I S → ∃ (c : SS × Int32) (w : SS × Int32), h_read S p0 = some c ∧ c.1 0 = S 0 ∧ b_read c.1 p0 = some w ∧ rd w.1 78 0 = c.2 ∧ (c.2 = 0 → lg (w.1 101) = w.2.toInt64) ∧ w.1 0 = S 0 ∧ I w.1
/-- the call print: both answer alike, and I holds behind it -/
def stp3 (I : SS → Prop) : Prop := ∀ (S : SS) (p0 : Int32), (∃ h, cs h S) → I S → ∃ (c : SS × Int32) (w : SS × Int32), h_print S p0 = some c ∧ c.1 0 = S 0 ∧ b_print c.1 p0 = some w ∧ rd w.1 78 0 = c.2 ∧ (c.2 = 0 → lg (w.1 101) = w.2.toInt64) ∧ w.1 0 = S 0 ∧ I w.1
/-- the call get: both answer alike, and I holds behind it -/
def stp4 (I : SS → Prop) : Prop := ∀ (S : SS) (p0 p1 p2 : Int32), (∃ h, cs h S) → I S → ∃ (c : SS × Int32) (w : SS), h_get S p0 p1 p2 = some c ∧ c.1 0 = S 0 ∧ b_get c.1 p0 p1 p2 = some w ∧ rd w 78 0 = c.2 ∧ w 0 = S 0 ∧ I w
/-- the call set: both answer alike, and I holds behind it -/
def stp5 (I : SS → Prop) : Prop := ∀ (S : SS) (p0 p1 p2 p3 : Int32), (∃ h, cs h S) → I S → ∃ (c : SS × Int32) (w : SS), h_set S p0 p1 p2 p3 = some c ∧ c.1 0 = S 0 ∧ b_set c.1 p0 p1 p2 p3 = some w ∧ rd w 78 0 = c.2 ∧ w 0 = S 0 ∧ I w
/-- the call del: both answer alike, and I holds behind it -/
def stp6 (I : SS → Prop) : Prop := ∀ (S : SS) (p0 p1 p2 : Int32), (∃ h, cs h S) → I S → ∃ (c : SS × Int32) (w : SS), h_del S p0 p1 p2 = some c ∧ c.1 0 = S 0 ∧ b_del c.1 p0 p1 p2 = some w ∧ rd w 78 0 = c.2 ∧ w 0 = S 0 ∧ I w
/-- the call all: both answer alike, and I holds behind it -/
def stp7 (I : SS → Prop) : Prop := ∀ (S : SS) (p0 p1 : Int32), (∃ h, cs h S) → I S → ∃ (c : SS × Int32) (w : SS), h_all S p0 p1 = some c ∧ c.1 0 = S 0 ∧ b_all c.1 p0 p1 = some w ∧ rd w 78 0 = c.2 ∧ w 0 = S 0 ∧ I w
/-- the call same: both answer alike, and I holds behind it -/
def stp8 (I : SS → Prop) : Prop := ∀ (S : SS) (p0 p1 : Int32), (∃ h, cs h S) → I S → ∃ (c : SS × Int32) (w : SS × Int32), h_same S p0 p1 = some c ∧ c.1 0 = S 0 ∧ b_same c.1 p0 p1 = some w ∧ rd w.1 78 0 = c.2 ∧ (c.2 = 0 → lg (w.1 101) = if w.2 = 0 then 0 else 1) ∧ w.1 0 = S 0 ∧ I w.1
/-- the call word: both answer alike, and I holds behind it -/
def stp9 (I : SS → Prop) : Prop := ∀ (S : SS) (p0 : Int32), (∃ h, cs h S) → I S → ∃ (c : SS × Int32) (w : SS × Int64), h_word S p0 = some c ∧ c.1 0 = S 0 ∧ b_word c.1 p0 = some w ∧ rd w.1 78 0 = c.2 ∧ (c.2 = 0 → lg (w.1 101) = w.2) ∧ w.1 0 = S 0 ∧ I w.1
/-- the call count: both answer alike, and I holds behind it -/
def stp10 (I : SS → Prop) : Prop := ∀ (S : SS) (p0 : Int32), (∃ h, cs h S) → I S → ∃ (c : SS × Int32) (w : SS × Int32), h_count S p0 = some c ∧ c.1 0 = S 0 ∧ b_count c.1 p0 = some w ∧ rd w.1 78 0 = c.2 ∧ (c.2 = 0 → lg (w.1 101) = w.2.toInt64) ∧ w.1 0 = S 0 ∧ I w.1
set_option maxHeartbeats 2000000 in
theorem goal_of {xs : List Int32} (hl : xs.length ≤ 3072) (I : SS → Prop) (hi : ∀ h, m_s2 xs h → I (S_of h)) (g0 : stp0 I) (g1 : stp1 I) (g2 : stp2 I) (g3 : stp3 I) (g4 : stp4 I) (g5 : stp5 I) (g6 : stp6 I) (g7 : stp7 I) (g8 : stp8 I) (g9 : stp9 I) (g10 : stp10 I) :
    ∃ S' : mS, mE 2000 mm254 (0, m_ent [.ref 0] 8, [], (mp_h0 xs, 600002, 7302232)) (.returned (some (.int 1)), S') := by
  refine law_all hl (fun i h K => ∃ S, cs h S ∧ S 0 = xs ∧ I S ∧ 599941 ≤ K.1 + i ∧ 7139055 ≤ K.2 + i) ?_ ?_ ?_
  · intro h hm
    refine ⟨S_of h, cs_of hm, ?_, hi h hm, by omega, by omega⟩
    have h0 : h[0]? = some (1001, xs.map Value.int) := by
      have := congrArg (fun l => l[0]?) hm.2.1
      replace this : (h.take 41)[0]? = (mp_h0 xs)[0]? := this

      rw [List.getElem?_take_of_lt (by decide)] at this
      exact this
    unfold S_of
    rw [if_neg (by decide), if_neg (by decide), if_neg (by decide), h0]
    simp only [Option.map_some, Option.getD_some, List.map_map]
    exact List.map_id'' (fun _ => rfl) xs
  · rintro i h K ⟨S, hs, h0, -⟩
    rw [← h0]
    exact hs.ar (by decide)
  · rintro i h K ⟨S, hs, h0, hI, k1, k2⟩ hn
    have hS : (S 0).length ≤ 3072 := by rw [h0]; exact hl
    have hK : 1 ≤ K.1 ∧ 6 ≤ K.2 := by omega
    have at_ : ∀ j, j < 6 → ∃ y, (S 0)[i + j]? = some y := fun j hj => ⟨_, List.getElem?_eq_getElem (by rw [h0]; omega)⟩
    obtain ⟨y, hy⟩ := at_ 0 (by decide)
    obtain ⟨p0, a0⟩ := at_ 1 (by decide)
    obtain ⟨p1, a1⟩ := at_ 2 (by decide)
    obtain ⟨p2, a2⟩ := at_ 3 (by decide)
    obtain ⟨p3, a3⟩ := at_ 4 (by decide)
    obtain ⟨p4, a4⟩ := at_ 5 (by decide)
    rw [Nat.add_zero] at hy
    have ha := and15 y
    by_cases hb : 10 < (y &&& 15).toInt
    · exact ⟨h, K, ⟨S, hs, h0, hI, by omega, by omega⟩, law_idle (xs := S 0) (hs.ar (by decide)) hS hy hb⟩
    have hk : y &&& 15 = Int32.ofNat (y &&& 15).toInt.toNat := i_ofnn (by omega) (by omega)
    have hk2 : (y &&& 15).toInt.toNat ≤ 10 := by omega
    generalize (y &&& 15).toInt.toNat = k at hk hk2
    have fin : ∀ (S' : SS) (h' : mH) (K' : Nat × Nat), law_S i h K h' K' → cs h' S' → K.1 ≤ K'.1 + 1 → K.2 ≤ K'.2 + 6 → S' 0 = S 0 → I S' → ∃ h' K', (∃ S, cs h' S ∧ S 0 = xs ∧ I S ∧ 599941 ≤ K'.1 + (i + 6) ∧ 7139055 ≤ K'.2 + (i + 6)) ∧ law_S i h K h' K' := fun S' h' K' l1 l2 l3 l4 l5 l6 => ⟨h', K', ⟨S', l2, l5.trans h0, l6, by omega, by omega⟩, l1⟩
    have : k = 0 ∨ k = 1 ∨ k = 2 ∨ k = 3 ∨ k = 4 ∨ k = 5 ∨ k = 6 ∨ k = 7 ∨ k = 8 ∨ k = 9 ∨ k = 10 := by omega
    rcases this with rfl | rfl | rfl | rfl | rfl | rfl | rfl | rfl | rfl | rfl | rfl
    · obtain ⟨c, w, e1, e2, e3, e4, e5, e6, e7⟩ := g0 S p0 p1 p2 p3 p4 ⟨h, hs⟩ hI
      obtain ⟨h', K', l1, l2, l3, l4⟩ := law_op0 hs hK hS hy hk a0 a1 a2 a3 a4 e1 e2 e3 e4 e5
      exact fin _ h' K' l1 l2 l3 l4 e6 e7
    · obtain ⟨c, w, e1, e2, e3, e4, e5, e6, e7⟩ := g1 S p0 ⟨h, hs⟩ hI
      obtain ⟨h', K', l1, l2, l3, l4⟩ := law_op1 hs hK hS hy hk a0 e1 e2 e3 e4 e5
      exact fin _ h' K' l1 l2 l3 l4 e6 e7
    · obtain ⟨c, w, e1, e2, e3, e4, e5, e6, e7⟩ := g2 S p0 ⟨h, hs⟩ hI
      obtain ⟨h', K', l1, l2, l3, l4⟩ := law_op2 hs hK hS hy hk a0 e1 e2 e3 e4 e5
      exact fin _ h' K' l1 l2 l3 l4 e6 e7
    · obtain ⟨c, w, e1, e2, e3, e4, e5, e6, e7⟩ := g3 S p0 ⟨h, hs⟩ hI
      obtain ⟨h', K', l1, l2, l3, l4⟩ := law_op3 hs hK hS hy hk a0 e1 e2 e3 e4 e5
      exact fin _ h' K' l1 l2 l3 l4 e6 e7
    · obtain ⟨c, w, e1, e2, e3, e4, e6, e7⟩ := g4 S p0 p1 p2 ⟨h, hs⟩ hI
      obtain ⟨h', K', l1, l2, l3, l4⟩ := law_op4 hs hK hS hy hk a0 a1 a2 e1 e2 e3 e4
      exact fin _ h' K' l1 l2 l3 l4 e6 e7
    · obtain ⟨c, w, e1, e2, e3, e4, e6, e7⟩ := g5 S p0 p1 p2 p3 ⟨h, hs⟩ hI
      obtain ⟨h', K', l1, l2, l3, l4⟩ := law_op5 hs hK hS hy hk a0 a1 a2 a3 e1 e2 e3 e4
      exact fin _ h' K' l1 l2 l3 l4 e6 e7
    · obtain ⟨c, w, e1, e2, e3, e4, e6, e7⟩ := g6 S p0 p1 p2 ⟨h, hs⟩ hI
      obtain ⟨h', K', l1, l2, l3, l4⟩ := law_op6 hs hK hS hy hk a0 a1 a2 e1 e2 e3 e4
      exact fin _ h' K' l1 l2 l3 l4 e6 e7
    · obtain ⟨c, w, e1, e2, e3, e4, e6, e7⟩ := g7 S p0 p1 ⟨h, hs⟩ hI
      obtain ⟨h', K', l1, l2, l3, l4⟩ := law_op7 hs hK hS hy hk a0 a1 e1 e2 e3 e4
      exact fin _ h' K' l1 l2 l3 l4 e6 e7
    · obtain ⟨c, w, e1, e2, e3, e4, e5, e6, e7⟩ := g8 S p0 p1 ⟨h, hs⟩ hI
      obtain ⟨h', K', l1, l2, l3, l4⟩ := law_op8 hs hK hS hy hk a0 a1 e1 e2 e3 e4 e5
      exact fin _ h' K' l1 l2 l3 l4 e6 e7
    · obtain ⟨c, w, e1, e2, e3, e4, e5, e6, e7⟩ := g9 S p0 ⟨h, hs⟩ hI
      obtain ⟨h', K', l1, l2, l3, l4⟩ := law_op9 hs hK hS hy hk a0 e1 e2 e3 e4 e5
      exact fin _ h' K' l1 l2 l3 l4 e6 e7
    · obtain ⟨c, w, e1, e2, e3, e4, e5, e6, e7⟩ := g10 S p0 ⟨h, hs⟩ hI
      obtain ⟨h', K', l1, l2, l3, l4⟩ := law_op10 hs hK hS hy hk a0 e1 e2 e3 e4 e5
      exact fin _ h' K' l1 l2 l3 l4 e6 e7
end Goal122
