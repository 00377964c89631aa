/-! What the class's Putter writes. -/
section Put157
/-- the same bytes, or both too many -/
def eqT (X Y : List Int32) : Prop := X = Y ∨ (4096 < X.length ∧ 4096 < Y.length)
theorem eqT.app {X Y : List Int32} (h : eqT X Y) (Z : List Int32) : eqT (X ++ Z) (Y ++ Z) := by
  rcases h with h | ⟨h1, h2⟩
  · exact Or.inl (by rw [h])
  · exact Or.inr ⟨by rw [List.length_append]; omega, by rw [List.length_append]; omega⟩
theorem eqT.refl (X : List Int32) : eqT X X := Or.inl rfl
theorem eqT.trans {X Y Z : List Int32} (h : eqT X Y) (h' : eqT Y Z) : eqT X Z := by
  rcases h with h | ⟨h1, h2⟩
  · rw [h]; exact h'
  · rcases h' with e | ⟨h3, h4⟩
    · rw [← e]; exact Or.inr ⟨h1, h2⟩
    · exact Or.inr ⟨h1, h4⟩
/-- nothing but the Spot, the Putter, its Gap, its closings and the draft -/
def frU (S S' : SS) (dr : Nat) : Prop := ∀ a, a ≠ 67 → a ≠ 69 → a ≠ 70 → a ≠ 71 → a ≠ dr → S' a = S a
theorem frU.refl (S : SS) (dr : Nat) : frU S S dr := fun _ _ _ _ _ _ => rfl
theorem frU.trans {S S1 S2 : SS} {dr : Nat} (h : frU S S1 dr) (h' : frU S1 S2 dr) : frU S S2 dr := fun a n1 n2 n3 n4 n5 => (h' a n1 n2 n3 n4 n5).trans (h a n1 n2 n3 n4 n5)
theorem frU_67 {S S1 : SS} (dr : Nat) (h : fr67 S S1) : frU S S1 dr := fun a n1 _ _ _ _ => h a n1
def pu (S : SS) (ta dr op : Nat) (wri bp nb : Int32) : Prop := ∃ x y z : Int32, S 69 = [x, y, z, Int32.ofNat op, Int32.ofNat ta, Int32.ofNat dr, wri, bp, nb]
def cls (S : SS) (cl : List Int32) : Prop := (S 71).length = 100 ∧ ∃ j, S 71 = cl ++ j
/-- the Putter writes: what it wrote, what it will close -/
def wrS (S : SS) (ta dr : Nat) (bp nb : Int32) (cl B : List Int32) (f to cb ch : Int32) : Prop := pu S ta dr cl.length 1 bp nb ∧ cls S cl ∧ S 70 = [f, to, cb, ch] ∧ S dr = pv B
def nU (dr : Nat) : Prop := dr < 1000 ∧ dr ≠ 67 ∧ dr ≠ 69 ∧ dr ≠ 70 ∧ dr ≠ 71
theorem pu.dr {S : SS} {ta dr op : Nat} {wri bp nb : Int32} (h : pu S ta dr op wri bp nb) (hd : dr < 1000) : (rd S 69 5).toNatClampNeg = dr := by
  obtain ⟨x, y, z, h⟩ := h
  unfold rd
  rw [h]
  exact i_cl (by omega)
theorem pu.ta {S : SS} {ta dr op : Nat} {wri bp nb : Int32} (h : pu S ta dr op wri bp nb) (hd : ta < 1000) : (rd S 69 4).toNatClampNeg = ta := by
  obtain ⟨x, y, z, h⟩ := h
  unfold rd
  rw [h]
  exact i_cl (by omega)
theorem pu.flag {S : SS} {ta dr op : Nat} {wri bp nb : Int32} (h : pu S ta dr op wri bp nb) : rd S 69 3 = Int32.ofNat op ∧ rd S 69 6 = wri ∧ rd S 69 7 = bp ∧ rd S 69 8 = nb := by
  obtain ⟨x, y, z, h⟩ := h
  unfold rd
  rw [h]
  exact ⟨rfl, rfl, rfl, rfl⟩
theorem pu.up {S : SS} {ta dr op a : Nat} {wri bp nb : Int32} {L : List Int32} (h : pu S ta dr op wri bp nb) (ha : a ≠ 69) : pu (up S a L) ta dr op wri bp nb := by
  unfold pu
  rw [up_ne (fun e => ha e.symm)]
  exact h
theorem pu.w7 {S : SS} {ta dr op : Nat} {wri bp nb : Int32} (h : pu S ta dr op wri bp nb) (v : Int32) : pu (wr S 69 7 v) ta dr op wri v nb := by
  obtain ⟨x, y, z, h⟩ := h
  exact ⟨x, y, z, by rw [wr_eq h, up_same]; rfl⟩
theorem pu.w8 {S : SS} {ta dr op : Nat} {wri bp nb : Int32} (h : pu S ta dr op wri bp nb) (v : Int32) : pu (wr S 69 8 v) ta dr op wri bp v := by
  obtain ⟨x, y, z, h⟩ := h
  exact ⟨x, y, z, by rw [wr_eq h, up_same]; rfl⟩
theorem pu.w6 {S : SS} {ta dr op : Nat} {wri bp nb : Int32} (h : pu S ta dr op wri bp nb) (v : Int32) : pu (wr S 69 6 v) ta dr op v bp nb := by
  obtain ⟨x, y, z, h⟩ := h
  exact ⟨x, y, z, by rw [wr_eq h, up_same]; rfl⟩
theorem pu.w3 {S : SS} {ta dr op op' : Nat} {wri bp nb : Int32} (h : pu S ta dr op wri bp nb) : pu (wr S 69 3 (Int32.ofNat op')) ta dr op' wri bp nb := by
  obtain ⟨x, y, z, h⟩ := h
  exact ⟨x, y, z, by rw [wr_eq h, up_same]; rfl⟩
theorem sput_at {S : SS} {o : Nat} {B : List Int32} {v : Int32} (h : S o = pv B) (hv : v &&& 255 = v) : sput S o v = up S o (pv (B ++ [v])) := by
  have := sput_pv S o B v
  rw [hv, ← h, up_self] at this
  exact this
theorem sputs_at {S : SS} {o : Nat} {B bs : List Int32} (h : S o = pv B) (hv : byt bs) : sputs S o bs = up S o (pv (B ++ bs)) := by
  have := sputs_pv bs S o B hv
  rw [← h, up_self] at this
  exact this
theorem spart_at {S : SS} {o p : Nat} {B : List Int32} {f w : Nat} (h : S o = pv B) (hop : o ≠ p) (hf : f ≤ 100000) (hw : w < 2147483648) : spart S o p (Int32.ofNat f) (Int32.ofNat w) = some (up S o (pv (B ++ ((tT S p).take w).drop f))) := by
  have z1 : ¬ Int32.ofNat w < -10000 := by
    rw [show (-10000 : Int32) = Int32.ofInt (-10000) from rfl, i_lt, i_ofInt (by decide) (by decide), i_of (by omega)]
    omega
  have z2 : ¬ 100000 < Int32.ofNat f := by
    rw [show (100000 : Int32) = Int32.ofNat 100000 from rfl, i_lt' (by omega) (by omega)]
    omega
  have := spart_pv (S := S) (o := o) (p := p) (B := B) (f := Int32.ofNat f) (w := Int32.ofNat w) hop z1 z2
  rw [← h, up_self] at this
  rw [this]
  unfold tcut
  rw [i_cl (by omega), i_cl (by omega)]
/-- the draft grows -/
theorem wrS.grow {S : SS} {ta dr : Nat} {bp nb : Int32} {cl B B' : List Int32} {f to cb ch : Int32} (hd : nU dr) (h : wrS S ta dr bp nb cl B f to cb ch) : wrS (up S dr (pv B')) ta dr bp nb cl B' f to cb ch ∧ frU S (up S dr (pv B')) dr ∧ (up S dr (pv B')) 67 = S 67 := by
  obtain ⟨h1, h2, h3, h4⟩ := h
  obtain ⟨d1, d2, d3, d4, d5⟩ := hd
  refine ⟨⟨h1.up d3, ?_, ?_, up_same⟩, fun a n1 n2 n3 n4 n5 => up_ne n5, up_ne (fun e => d2 e.symm)⟩
  · unfold cls
    rw [up_ne (fun e => d5 e.symm)]
    exact h2
  · rw [up_ne (fun e => d4 e.symm)]
    exact h3
theorem uopen_val {S : SS} {ta dr : Nat} {bp nb : Int32} {cl B : List Int32} {f to cb ch x y : Int32} (hd : nU dr) (h : wrS S ta dr bp nb cl B f to cb ch) (hc : cl.length < 100) (hx : x &&& 255 = x) (hy : y.toInt8.toInt32.toInt8.toInt32 = y) : ∃ S', u_open S x y = some S' ∧ wrS S' ta dr 0 nb (cl ++ [y]) (B ++ [x]) f to cb ch ∧ frU S S' dr ∧ S' 67 = S 67 := by
  obtain ⟨h1, ⟨h2, j, h2'⟩, h3, h4⟩ := id h
  obtain ⟨d1, d2, d3, d4, d5⟩ := id hd
  have a1 : wrS (wr S 69 7 0) ta dr 0 nb cl B f to cb ch := by
    refine ⟨h1.w7 0, ?_, ?_, ?_⟩
    · unfold cls; rw [wr_ne (by decide)]; exact ⟨h2, j, h2'⟩
    · rw [wr_ne (by decide)]; exact h3
    · rw [wr_ne d3]; exact h4
  have e5 : (rd (wr S 69 7 0) 69 5).toNatClampNeg = dr := a1.1.dr d1
  have es : sput (wr S 69 7 0) dr x = up (wr S 69 7 0) dr (pv (B ++ [x])) := sput_at a1.2.2.2 hx
  obtain ⟨a2, a3, a4⟩ := wrS.grow (B' := B ++ [x]) hd a1
  obtain ⟨X, hX⟩ : ∃ X, X = up (wr S 69 7 0) dr (pv (B ++ [x])) := ⟨_, rfl⟩
  rw [← hX] at a2 a3 a4
  unfold u_open
  rw [e5, es, ← hX]
  obtain ⟨b1, ⟨b2, j2, b2'⟩, b3, b4⟩ := id a2
  obtain ⟨c1, c2, c3, c4⟩ := b1.flag
  have jl : cl.length + j2.length = 100 := by rw [← List.length_append, ← b2']; exact b2
  rw [c1, b2, if_neg (by rw [i_le' (by omega) (by omega)]; omega), i_set (by rw [b2]; omega) (by omega), o_bind, hy, rd_up (by decide), c1, i_a1]
  refine ⟨_, rfl, ⟨?_, ?_, ?_, ?_⟩, fun a n1 n2 n3 n4 n5 => ?_, ?_⟩
  · have := pu.w3 (op' := cl.length + 1) (b1.up (a := 71) (L := (X 71).set cl.length y) (by decide))
    rw [List.length_append]
    exact this
  · unfold cls
    rw [wr_ne (by decide), up_same, List.length_set]
    refine ⟨b2, j2.drop 1, ?_⟩
    cases j2 with
    | nil => simp only [List.length_nil] at jl; omega
    | cons w j2 =>
      rw [b2', List.set_append_right _ _ (Nat.le_refl _), Nat.sub_self]
      simp
  · rw [wr_ne (by decide), up_ne (by decide)]; exact b3
  · rw [wr_ne d3, up_ne d5]; exact b4
  · rw [wr_ne n2, up_ne n4, a3 a n1 n2 n3 n4 n5, wr_ne n2]
  · rw [wr_ne (by decide), up_ne (by decide), a4, wr_ne (by decide)]
theorem bV_4 {pi : Vl} (e4 : pi.1 = 4) : bV pi = pstr pi.2.2.1 := by
  conv => lhs; rw [vl4 e4]
  rfl
theorem uname_val {S : SS} {ta dr t1 q2 : Nat} {bp nb : Int32} {cl B : List Int32} {f to cb ch : Int32} {pi : Vl} (hd : nU dr) (h : wrS S ta dr bp nb cl B f to cb ch) (ht1 : t1 ≠ dr) (hp : vat (tT S t1) q2 pi) (e4 : pi.1 = 4) : ∃ S', u_name S t1 (Int32.ofNat q2) = some S' ∧ wrS S' ta dr bp nb cl (B ++ (pstr pi.2.2.1 ++ [58])) f to cb ch ∧ frU S S' dr ∧ S' 67 = S 67 := by
  obtain ⟨g1, g2, g3⟩ := wrS.grow (B' := B ++ (pstr pi.2.2.1 ++ [58])) hd h
  refine ⟨_, ?_, g1, g2, g3⟩
  have hl := hp.1
  have hlt := hp.lt
  obtain ⟨-, -, -, r, hd1, -⟩ := id hp
  unfold u_name
  have e5 := h.1.dr hd.1
  rw [hp.past, o_bind, e5, spart_at h.2.2.2 (fun e => ht1 e.symm) (by omega) (by omega), o_bind]
  have ec : ((tT S t1).take (q2 + (bV pi).length)).drop q2 = pstr pi.2.2.1 := by
    rw [List.drop_take, hd1, Nat.add_sub_cancel_left, List.take_left, bV_4 e4]
  obtain ⟨k1, -, -⟩ := wrS.grow (B' := B ++ pstr pi.2.2.1) hd h
  rw [ec, k1.1.dr hd.1, sput_at k1.2.2.2 (by decide), up_up, List.append_assoc]
theorem unulls_l {ta dr : Nat} {bp nb : Int32} {cl : List Int32} {f to cb ch : Int32} {k : Nat} (hd : nU dr) (hk : k ≤ 1000) : ∀ (m j n : Nat) (S : SS) (B : List Int32), j + m = k → m < n → wrS S ta dr bp nb cl B f to cb ch → ∃ S' B', u_nulls_l2 n S (Int32.ofNat k) (Int32.ofNat j) = some S' ∧ wrS S' ta dr bp nb cl B' f to cb ch ∧ eqT B' (B ++ nulB m) ∧ frU S S' dr ∧ S' 67 = S 67 := by
  intro m
  induction m with
  | zero =>
    intro j n S B hj hn h
    obtain ⟨n, rfl⟩ : ∃ j, n = j + 1 := ⟨n - 1, by omega⟩
    refine ⟨S, B, ?_, h, Or.inl (by rw [show nulB 0 = [] from rfl, List.append_nil]), frU.refl _ _, rfl⟩
    unfold u_nulls_l2
    rw [if_pos ((i_le' (by omega) (by omega)).mpr (by omega))]
  | succ m ih =>
    intro j n S B hj hn h
    obtain ⟨n, rfl⟩ : ∃ j, n = j + 1 := ⟨n - 1, by omega⟩
    have e5 := h.1.dr hd.1
    have tv : tV S dr = if B.length ≤ 4096 then 0 else 1 := by unfold tV; rw [h.2.2.2]; rfl
    unfold u_nulls_l2
    rw [if_neg (by rw [i_le' (by omega) (by omega)]; omega), e5, tv]
    by_cases hB : B.length ≤ 4096
    · rw [if_pos hB, if_pos (by decide), sputs_at h.2.2.2 (by unfold byt; decide), i_a1]
      obtain ⟨g1, g2, g3⟩ := wrS.grow (B' := B ++ k15) hd h
      obtain ⟨S', B', j1, j2, j3, j4, j5⟩ := ih (j + 1) n _ _ (by omega) (by omega) g1
      refine ⟨S', B', j1, j2, ?_, g2.trans j4, j5.trans g3⟩
      rw [nulB_s, ← List.append_assoc]
      exact j3
    · rw [if_neg hB, if_neg (by decide)]
      exact ⟨S, B, rfl, h, Or.inr ⟨by omega, by rw [List.length_append]; omega⟩, frU.refl _ _, rfl⟩
theorem unulls_val {S : SS} {ta dr : Nat} {bp nb : Int32} {cl B : List Int32} {f to cb ch : Int32} {k : Nat} (hd : nU dr) (hk : k ≤ 1000) (h : wrS S ta dr bp nb cl B f to cb ch) : ∃ S' B', u_nulls S (Int32.ofNat k) = some S' ∧ wrS S' ta dr bp nb cl B' f to cb ch ∧ eqT B' (B ++ nulB k) ∧ frU S S' dr ∧ S' 67 = S 67 := unulls_l hd hk k 0 10000 S B (by omega) (by omega) h
/-- the end: closings, a comma, what is behind -/
theorem uclose_l {ta dr to : Nat} {bp nb : Int32} {us : List Int32} {f cb ch : Int32} (hd : nU dr) (hta : ta < 1000) (htd : ta ≠ dr) (hus : us.length ≤ 4096) (hto : to ≤ us.length) (hch : ch = 0 ∨ ch = 1) : ∀ (k n : Nat) (S : SS) (cl B : List Int32), k ≤ cl.length → k < n → byt cl → tT S ta = us → wrS S ta dr bp nb cl B f (Int32.ofNat to) cb ch → ∃ S', u_close_l7 n S (Int32.ofInt ((k : Int) - 1)) = some S' ∧ S' dr = pv (B ++ ((cl.take k).reverse ++ ((if ch = 1 then [44] else []) ++ us.drop to))) ∧ frU S S' dr ∧ (S' 71).length = 100 := by
  intro k
  induction k with
  | zero =>
    intro n S cl B hk hn hby ht h
    obtain ⟨n, rfl⟩ : ∃ j, n = j + 1 := ⟨n - 1, by omega⟩
    obtain ⟨h1, h2, h3, h4⟩ := id h
    have e1 : rd S 70 1 = Int32.ofNat to := by unfold rd; rw [h3]; rfl
    have e3 : rd S 70 3 = ch := by unfold rd; rw [h3]; rfl
    unfold u_close_l7 g_cH g_to
    rw [if_pos (by decide), o_bind, e3, h1.dr hd.1, h1.ta hta]
    rcases hch with c | c
    · subst c
      obtain ⟨g1, g2, g3⟩ := wrS.grow (B' := B ++ us.drop to) hd h
      rw [if_pos (by decide), o_bind, e1, ht, spart_at h4 (fun e => htd e.symm) (by omega) (by omega), o_bind, ht, List.take_of_length_le (Nat.le_refl _)]
      refine ⟨_, rfl, ?_, g2, g1.2.1.1⟩
      rw [up_same, if_neg (by decide)]
      simp
    · subst c
      obtain ⟨g1, g2, g3⟩ := wrS.grow (B' := B ++ [44]) hd h
      have tt : tT (up S dr (pv (B ++ [44]))) ta = us := by unfold tT at *; rw [up_ne htd]; exact ht
      obtain ⟨k1, k2, k3⟩ := wrS.grow (B' := B ++ [44] ++ us.drop to) hd g1
      have f1 : rd (up S dr (pv (B ++ [44]))) 70 1 = Int32.ofNat to := by unfold rd; rw [g1.2.2.1]; rfl
      rw [if_neg (by decide), sput_at h4 (by decide), o_bind, f1, g1.1.dr hd.1, g1.1.ta hta, tt, spart_at g1.2.2.2 (fun e => htd e.symm) (by omega) (by omega), o_bind, tt, List.take_of_length_le (Nat.le_refl _)]
      refine ⟨_, rfl, ?_, g2.trans k2, k1.2.1.1⟩
      rw [up_same, if_pos rfl]
      simp
  | succ k ih =>
    intro n S cl B hk hn hby ht h
    obtain ⟨n, rfl⟩ : ∃ j, n = j + 1 := ⟨n - 1, by omega⟩
    obtain ⟨h1, ⟨h2, j, h2'⟩, h3, h4⟩ := id h
    have jl : cl.length + j.length = 100 := by rw [← List.length_append, ← h2']; exact h2
    have e1 : Int32.ofInt (((k + 1 : Nat) : Int) - 1) = Int32.ofNat k := by
      rw [show (((k + 1 : Nat) : Int) - 1) = (k : Int) by omega]
      rfl
    have hk' : k < cl.length := by omega
    have ig : iget (S 71) (Int32.ofNat k) = some cl[k] := by
      rw [iget_in (by omega) (by omega)]
      congr 1
      have : (S 71)[k]'(by omega) = (cl ++ j)[k]'(by rw [List.length_append]; omega) := List.getElem_of_eq h2' _
      rw [this, List.getElem_append_left hk']
    have e2 : Int32.ofNat k + (-1) = Int32.ofInt ((k : Int) - 1) := by
      apply Int32.toInt_inj.mp
      have a1 : (Int32.ofNat k).toInt = (k : Int) := i_of (by omega)
      have a2 : (-1 : Int32).toInt = -1 := rfl
      rw [i_add (by rw [a1, a2]; omega) (by rw [a1, a2]; omega), a1, a2, i_ofInt (by omega) (by omega)]
      omega
    obtain ⟨g1, g2, g3⟩ := wrS.grow (B' := B ++ [cl[k]]) hd h
    have tt : tT (up S dr (pv (B ++ [cl[k]]))) ta = us := by unfold tT at *; rw [up_ne htd]; exact ht
    obtain ⟨S', j1, j2, j3, j4⟩ := ih n _ cl _ (by omega) (by omega) hby tt g1
    refine ⟨S', ?_, ?_, g2.trans j3, j4⟩
    · rw [e1]
      unfold u_close_l7
      rw [if_neg (by rw [show (0 : Int32) = Int32.ofNat 0 from rfl, i_lt' (by omega) (by omega)]; omega), ig, o_bind, h1.dr hd.1, sput_at h4 (hby _ (List.getElem_mem hk')), e2]
      exact j1
    · rw [j2, List.take_succ_eq_append_getElem hk', List.reverse_append]
      simp
theorem uclose_val {S : SS} {ta dr to : Nat} {bp nb : Int32} {us cl B : List Int32} {f cb ch : Int32} (hd : nU dr) (hta : ta < 1000) (htd : ta ≠ dr) (hus : us.length ≤ 4096) (hto : to ≤ us.length) (hch : ch = 0 ∨ ch = 1) (hcl : cl.length ≤ 100) (hby : byt cl) (ht : tT S ta = us) (h : wrS S ta dr bp nb cl B f (Int32.ofNat to) cb ch) : ∃ S', u_close S = some S' ∧ S' dr = pv (B ++ (cl.reverse ++ ((if ch = 1 then [44] else []) ++ us.drop to))) ∧ frU S S' dr ∧ (S' 71).length = 100 := by
  obtain ⟨S', j1, j2, j3, j4⟩ := uclose_l (f := f) (cb := cb) (bp := bp) (nb := nb) hd hta htd hus hto hch cl.length 10000 S cl B (Nat.le_refl _) (by omega) hby ht h
  rw [List.take_of_length_le (Nat.le_refl _)] at j2
  refine ⟨S', ?_, j2, j3, j4⟩
  unfold u_close
  rw [h.1.flag.1, ← j1]
  congr 1
  apply Int32.toInt_inj.mp
  have a1 : (Int32.ofNat cl.length).toInt = (cl.length : Int) := i_of (by omega)
  have a2 : (1 : Int32).toInt = 1 := rfl
  rw [i_sub (by rw [a1, a2]; omega) (by rw [a1, a2]; omega), a1, a2, i_ofInt (by omega) (by omega)]
/-- the Putter begins to write -/
theorem ustart_val {S : SS} {ta dr f : Nat} {bp nb : Int32} {us : List Int32} {to cb ch : Int32} (hd : nU dr) (hta : nU ta) (htd : ta ≠ dr) (hf : f ≤ 4096) (hcb : cb = 0 ∨ cb = 1) (ht : tT S ta = us) (h1 : pu S ta dr 0 0 bp nb) (h2 : (S 71).length = 100) (h3 : S 70 = [Int32.ofNat f, to, cb, ch]) (h4 : S dr = pv []) : ∃ S', u_start S = some S' ∧ wrS S' ta dr bp nb [] (us.take f ++ (if cb = 1 then [44] else [])) (Int32.ofNat f) to cb ch ∧ frU S S' dr ∧ S' 67 = S 67 := by
  obtain ⟨d1, d2, d3, d4, d5⟩ := id hd
  have a1 : wrS (wr S 69 6 1) ta dr bp nb [] [] (Int32.ofNat f) to cb ch := by
    refine ⟨h1.w6 1, ?_, ?_, ?_⟩
    · unfold cls; rw [wr_ne (by decide)]; exact ⟨h2, _, rfl⟩
    · rw [wr_ne (by decide)]; exact h3
    · rw [wr_ne d3]; exact h4
  have tt : tT (wr S 69 6 1) ta = us := by unfold tT at *; rw [wr_ne hta.2.2.1]; exact ht
  have fw : frU S (wr S 69 6 1) dr := fun a n1 n2 n3 n4 n5 => wr_ne n2
  have w67 : wr S 69 6 1 67 = S 67 := wr_ne (by decide)
  have e0 : rd (wr S 69 6 1) 70 0 = Int32.ofNat f := by unfold rd; rw [a1.2.2.1]; rfl
  obtain ⟨g1, g2, g3⟩ := wrS.grow (B' := us.take f) hd a1
  have es : spart (wr S 69 6 1) dr ta 0 (Int32.ofNat f) = some (up (wr S 69 6 1) dr (pv (us.take f))) := by
    rw [show (0 : Int32) = Int32.ofNat 0 from rfl, spart_at a1.2.2.2 (fun e => htd e.symm) (by omega) (by omega), tt, List.drop_zero, List.nil_append]
  have e2 : rd (up (wr S 69 6 1) dr (pv (us.take f))) 70 2 = cb := by unfold rd; rw [g1.2.2.1]; rfl
  unfold u_start g_from g_cB
  rw [o_bind, e0, a1.1.dr d1, a1.1.ta hta.1, es, o_bind, o_bind, e2, g1.1.dr d1]
  rcases hcb with c | c
  · subst c
    rw [if_pos (by decide), if_neg (by decide), List.append_nil]
    exact ⟨_, rfl, g1, fw.trans g2, g3.trans w67⟩
  · subst c
    obtain ⟨k1, k2, k3⟩ := wrS.grow (B' := us.take f ++ [44]) hd g1
    rw [if_neg (by decide), sput_at g1.2.2.2 (by decide), if_pos rfl]
    exact ⟨_, rfl, k1, (fw.trans g2).trans k2, k3.trans (g3.trans w67)⟩
end Put157
