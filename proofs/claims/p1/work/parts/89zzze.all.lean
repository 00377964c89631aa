/-! The call all. -/
section All146
theorem vat.mem {us : List Int32} {q k : Nat} {v : Int} {s : List Int32} {l : List Mb} (hk : k = 5 ∨ k = 6) (h : vat us q (k, v, s, ofL l)) {x : Mb} (hx : x ∈ l) : ∃ q', vat us q' x.2 := by
  obtain ⟨j, hj, rfl⟩ := List.getElem_of_mem hx
  obtain ⟨i1, ⟨z, r, hz, i2⟩, i3⟩ := h.item hk hj
  rw [List.drop_eq_getElem_cons hj] at i2
  have m := mem_at h.1 h.2.1 (h.2.2.1.kids _ (List.getElem_mem hj)) hz i2
  cases e : (k == 6) with
  | false => exact ⟨_, m.1 e⟩
  | true => exact ⟨_, (m.2 e).2⟩
theorem stN_ok {s : List Int32} (h : okS s) : wV (stN s) := ⟨(show (4 : Nat) ≤ 6 by decide), fun e => absurd e (show ¬ (4 : Nat) = 3 by decide), h, fun _ => rfl, fun e => absurd e (show ¬ (4 : Nat) = 6 by decide), trivial⟩
theorem stI_ok {k : Nat} (h : k ≤ 9000) : wV (stI k) := ⟨(show (3 : Nat) ≤ 6 by decide), fun _ => (show -9007199254740991 ≤ (k : Int) ∧ (k : Int) ≤ 9007199254740991 by omega), (fun c hc => by cases hc), fun _ => rfl, fun e => absurd e (show ¬ (3 : Nat) = 6 by decide), trivial⟩
theorem arr_ok {l : List Vl} (h : ∀ x ∈ l, wV x) : wV (5, 0, [], ofL (l.map fun x => ([], x))) := by
  refine ⟨(show (5 : Nat) ≤ 6 by decide), fun e => absurd e (show ¬ (5 : Nat) = 3 by decide), (fun c hc => by cases hc), fun e => absurd (Or.inl rfl) e, fun e => absurd e (show ¬ (5 : Nat) = 6 by decide), ?_⟩
  rw [wF_iff]
  intro m hm
  simp only at hm
  rw [toL_ofL] at hm
  obtain ⟨x, hx, rfl⟩ := List.mem_map.mp hm
  exact ⟨(fun c hc => by cases hc), h x hx⟩
def okP (p : List Vl) : Prop := ∀ x ∈ p, wV x
theorem okP_push {p : List Vl} {x : Vl} (h : okP p) (hx : wV x) : okP (p ++ [x]) := fun y hy => by
  rcases List.mem_append.mp hy with e | e
  · exact h y e
  · rw [List.mem_singleton.mp e]; exact hx
theorem plV_ok {us : List Int32} (t : Vl) : ∀ (q : Nat) (pre : List Vl), vat us q t → okP pre → ∀ p ∈ plV pre t, okP p := by
  induction t using Vl.ind with
  | h k v s l ihl =>
    intro q pre hv hpre p hp
    unfold plV at hp
    rcases List.mem_cons.mp hp with e | e
    · rw [e]; exact hpre
    · simp only at e
      by_cases hk : k = 5 ∨ k = 6
      · rw [if_pos hk] at e
        have hll := (hv.items hk).2
        have main : ∀ (l' : List Mb) (i : Nat), (∀ x ∈ l', x ∈ l) → i + l'.length ≤ 4096 → ∀ p ∈ plF (ofL l') (k == 6) pre i, okP p := by
          intro l'
          induction l' with
          | nil => intro i _ _ p hp; cases hp
          | cons x l' ih =>
            intro i hm hi p hp
            rw [plF_c] at hp
            simp only [List.length_cons] at hi
            have hx := hm x List.mem_cons_self
            rcases List.mem_append.mp hp with e | e
            · obtain ⟨q', hq'⟩ := hv.mem hk hx
              refine ihl x hx q' _ hq' (okP_push hpre ?_) p e
              split
              · exact stN_ok (hv.2.2.1.kids x hx).1
              · exact stI_ok (by omega)
            · exact ih (i + 1) (fun y hy => hm y (List.mem_cons_of_mem _ hy)) (by omega) p e
        exact main l 0 (fun _ h => h) (by omega) p e
      · rw [if_neg hk] at e; cases e
def allT (t : Vl) : Vl := (5, 0, [], ofL (((plV [] t).map pathT).map fun x => ([], x)))
theorem allT_ok {us : List Int32} {t : Vl} {q : Nat} (h : vat us q t) : wV (allT t) := arr_ok fun x hx => by
  obtain ⟨p, hp, rfl⟩ := List.mem_map.mp hx
  exact arr_ok (plV_ok t q [] h (fun x hx => by cases hx) p hp)
theorem allT_b (t : Vl) : bV (allT t) = 91 :: (jn ((plV [] t).map fun p => bV (pathT p)) ++ [93]) := by
  show 91 :: (bF false (ofL (((plV [] t).map pathT).map fun x => (([], x) : Mb))) ++ [93]) = _
  rw [bF_ofL, List.map_map, List.map_map]
  rfl
theorem allT_c (t : Vl) : cV (allT t) = 5 :: Int32.ofNat ((cP (plV [] t)).length + 2) :: cP (plV [] t) := by
  have : cF false (ofL (((plV [] t).map pathT).map fun x => (([], x) : Mb))) = cP (plV [] t) := by
    rw [cF_ofL, List.map_map, List.flatMap_map]
    rfl
  show 5 :: Int32.ofNat ((cF false (ofL (((plV [] t).map pathT).map fun x => (([], x) : Mb)))).length + 2) :: cF false (ofL (((plV [] t).map pathT).map fun x => (([], x) : Mb))) = _
  rw [this]
/-- the class's list -/
theorem list_val {S : SS} {ta o : Nat} {t : Vl} (h75 : (S 75).length = 4) (h76 : (S 76).length = 60) (h77 : (S 77).length = 60) (hta : ta < 1000 ∧ ta ≠ 75 ∧ ta ≠ 76 ∧ ta ≠ 77) (ho : o < 1000 ∧ o ≠ ta ∧ o ≠ 75 ∧ o ≠ 76 ∧ o ≠ 77) (hv : vat (tT S ta) 0 t) (hd : dV t ≤ 60) : ∃ S' B, l_list S ta o = some S' ∧ (∀ a, a ≠ 75 → a ≠ 76 → a ≠ 77 → a ≠ o → S' a = S a) ∧ (S' 76).length = 60 ∧ (S' 77).length = 60 ∧ S' o = pv B ∧ ((bV (allT t)).length ≤ 4096 → B = bV (allT t)) ∧ (4096 < (bV (allT t)).length → 4096 < B.length) := by
  obtain ⟨A, hA⟩ : ∃ A, A = wr (wr S 75 2 (Int32.ofNat ta)) 75 3 (Int32.ofNat o) := ⟨_, rfl⟩
  have a3 : (rd A 75 3).toNatClampNeg = o := by rw [hA, rd_wr (by rw [wr_len, h75]; decide), i_cl (by omega)]
  have a2 : (rd A 75 2).toNatClampNeg = ta := by rw [hA, rd_wr_j (by decide), rd_wr (by rw [h75]; decide), i_cl (by omega)]
  have fA : ∀ a, a ≠ 75 → A a = S a := fun a ha => by rw [hA, wr_ne ha, wr_ne ha]
  have tA : tT A ta = tT S ta := by unfold tT; rw [fA ta hta.2.1]
  have hr : rows A (tT S ta) [] := ⟨by rw [fA 76 (by decide)]; exact h76, by rw [fA 77 (by decide)]; exact h77, fun i hi => absurd hi (Nat.not_lt_zero i)⟩
  obtain ⟨S', X, e1, e2, e3, e4⟩ := lf_all hv.1 hv.2.1 (ta := ta) (o := o) ⟨hta.2.2.1, hta.2.2.2⟩ ho.2 t 100 0 [] A ([] ++ [91]) (by omega) (by simp only [List.length_nil]; omega) hv tA a3 a2 hr
  have u3 : ∀ (T : SS) l, (rd T 75 3) = rd A 75 3 → (rd (up T o l) 75 3).toNatClampNeg = o := fun T l h => by rw [rd_up (fun e => ho.2.2.1 e.symm), h]; exact a3
  have eS' : rd S' 75 3 = rd A 75 3 := by unfold rd; rw [e3 75 (by decide) (by decide)]
  refine ⟨up S' o (pv ([91] ++ X ++ [93])), [91] ++ X ++ [93], ?_, fun a n1 n2 n3 n4 => by rw [up_ne n4, e3 a n2 n3, fA a n1], ?_, ?_, up_same, ?_, ?_⟩
  · unfold l_list
    rw [← hA, a3, u3 A [0] rfl, show ([0] : List Int32) = pv [] from rfl, sput_pv]
    rw [show l_from 100 (up A o (pv ([] ++ [91 &&& 255]))) 0 0 = _ from e1, o_bind, u3 S' _ eS', sput_pv]
    rfl
  · rw [up_ne (fun e => ho.2.2.2.1 e.symm)]; exact e2.1
  · rw [up_ne (fun e => ho.2.2.2.2 e.symm)]; exact e2.2.1
  · intro h
    rw [allT_b] at h ⊢
    rw [e4.1 (by simp only [List.length_append, List.length_cons, List.length_nil] at h ⊢; omega)]
    rfl
  · intro h
    rw [allT_b] at h
    by_cases hh : 4096 < (([] ++ [(91 : Int32)]) ++ jn ((plV [] t).map fun p => bV (pathT p))).length
    · have := e4.2 hh
      simp only [List.length_append, List.length_cons, List.length_nil] at this ⊢
      omega
    · rw [e4.1 (by omega)]
      simp only [List.length_append, List.length_cons, List.length_nil] at h ⊢
      omega
theorem op7 : stp7 Inv := by
  intro S p0 p1 hcs hI
  obtain ⟨l78, l41, l90, -, l67, -, -, -, -, -, l75, -⟩ := cs.l78 hcs
  obtain ⟨i1, i2, ⟨tape, i3⟩, ⟨res, i4⟩, ts, dr, ra, i5⟩ := id hI
  obtain ⟨g1, g2, g3, g4, g5⟩ := id i5
  have l91 : (S 91).length = 9000 := i1.2.2.2.2.2.2.2.1
  -- a bad register
  have bad : (¬ (¬ p0 < 0 ∧ p0 < 8) ∨ ¬ (¬ p1 < 0 ∧ p1 < 8)) → ∃ (c : SS × Int32) (w : SS), h_all S p0 p1 = some c ∧ c.1 0 = S 0 ∧ b_all c.1 p0 p1 = some w ∧ rd w 78 0 = c.2 ∧ w 0 = S 0 ∧ Inv w := by
    intro hb
    obtain ⟨S1, b1, b2, b3, b4, b5, b6, b7⟩ := begin_val l78 l90 l91
    obtain ⟨z1, z2, z3⟩ := bad_begin hI b6 b2 b3
    have ea : a_all S p0 p1 = some (S, 2) := by
      unfold a_all
      by_cases h0 : ¬ p0 < 0 ∧ p0 < 8
      · rw [(reg_ok S h0).1, o_bind, if_pos rfl]
        have h1 : ¬ (¬ p1 < 0 ∧ p1 < 8) := hb.resolve_left (fun e => e h0)
        rw [(reg_bad S h1).1, o_bind, if_neg (show ¬ (2 : Nat) = 0 by decide)]
      · rw [(reg_bad S h0).1, o_bind, if_neg (show ¬ (2 : Nat) = 0 by decide)]
    refine ⟨(S, 1), wr S1 78 0 1, ?_, rfl, ?_, z1, z2, z3⟩
    · unfold h_all; rw [ea, o_bind, if_neg (show ¬ (2 : Nat) = 0 by decide), if_pos rfl]
    · show b_all S p0 p1 = _
      unfold b_all
      rw [b1, o_bind]
      by_cases h0 : ¬ p0 < 0 ∧ p0 < 8
      · rw [(reg_ok S1 h0).2.1, o_bind, if_pos rfl]
        have h1 : ¬ (¬ p1 < 0 ∧ p1 < 8) := hb.resolve_left (fun e => e h0)
        rw [(reg_bad S1 h1).2, o_bind, if_neg (by decide)]
      · rw [(reg_bad S1 h0).2, o_bind, if_neg (by decide)]
  by_cases h0 : ¬ p0 < 0 ∧ p0 < 8
  rotate_left
  · exact bad (Or.inl h0)
  by_cases h1 : ¬ p1 < 0 ∧ p1 < 8
  rotate_left
  · exact bad (Or.inr h1)
  obtain ⟨a0, -, n0, hn0, rfl⟩ := reg_ok S h0
  obtain ⟨a1, -, n1, hn1, rfl⟩ := reg_ok S h1
  have m1 := nine_lt _ (ra_mem g3 g2 hn1)
  have hdn : dr ∈ nine := g3.mem_iff.mp List.mem_cons_self
  have md := nine_lt dr hdn
  have r1ne : ra.getD n1 0 ≠ dr := ra_ne g3 g2 hn1
  obtain ⟨q1, q1'⟩ := get46 g1 g2 hn1 m1.1
  obtain ⟨u1, u1'⟩ := get81 n1 hn1
  obtain ⟨v1, c1⟩ := reg_vat (g5 n1 hn1)
  have dv := (g5 n1 hn1).2.2.2.1
  have hd9 : (rd S 41 9).toNatClampNeg = dr := by rw [g4, i_cl (by omega)]
  obtain ⟨S3, B, s1, s2, s3, s4, s5, s6, s7⟩ := list_val (S := S) (ta := ra.getD n1 0) (o := dr) l75 i1.2.2.2.2.1 i1.2.2.2.2.2.1 (by omega) ⟨by omega, fun e => r1ne e.symm, by omega, by omega, by omega⟩ v1 dv
  have wo := allT_ok v1
  have eA : ∀ X : SS × Nat, a_keep S3 (Int32.ofNat n0) = some X → a_all S (Int32.ofNat n0) (Int32.ofNat n1) = if X.2 = 0 then some (X.1, 0) else some (X.1, X.2) := by
    intro X hX
    unfold a_all
    rw [a0, o_bind, if_pos rfl, a1, o_bind, if_pos rfl, q1, o_bind, q1', hd9, s1, o_bind, hX, o_bind]
  have ne3 : ∀ a, a ∉ cSc → a ≠ 75 ∧ a ≠ 76 ∧ a ≠ 77 := fun a ha => ⟨fun e => ha (e ▸ by decide), fun e => ha (e ▸ by decide), fun e => ha (e ▸ by decide)⟩
  have lc : lenC S3 := by
    obtain ⟨y1, y2, y3, y4, y5, y6⟩ := i1.lenC
    exact ⟨by unfold rd; rw [s2 47 (by decide) (by decide) (by decide) (by omega)]; exact y1, by rw [s2 48 (by decide) (by decide) (by decide) (by omega)]; exact y2, by rw [s2 71 (by decide) (by decide) (by decide) (by omega)]; exact y3, by rw [s2 74 (by decide) (by decide) (by decide) (by omega)]; exact y4, s3, s4⟩
  have fc := fin_call (S := S) (S3 := S3) (T := allT (ts n1)) (B := B) (n0 := n0) (bc := fun X => b_all X (Int32.ofNat n0) (Int32.ofNat n1)) (c2 := 0) (c3 := 2) l41 i1 i2 i3 i4 i5 hn0 wo (fun a x1 x2 => s2 a (ne3 a x1).1 (ne3 a x1).2.1 (ne3 a x1).2.2 x2) lc s5 s6 s7 (by
    intro T0 hT
    have n78 : T0 78 = S 78 := hT 78 (by decide) (by decide) (by decide) (by decide)
    obtain ⟨T1, b1, b2, b3, b4, b5, b6, b7⟩ := begin_val (S := T0) (by rw [n78]; exact l78) (by rw [hT 90 (by decide) (by decide) (by decide) (by decide)]; exact l90) (by rw [hT 91 (by decide) (by decide) (by decide) (by decide)]; exact l91)
    obtain ⟨T2, at_, e1, o1, f1, a1'⟩ := oopen b7 5
    have d8 : ∀ r, r < 8 → 82 + r ≠ 41 ∧ 82 + r ≠ 46 ∧ 82 + r ∉ cSc ∧ 82 + r ∉ nine ∧ 82 + r ≠ 78 ∧ 82 + r ≠ 90 ∧ 82 + r ≠ 91 := by decide
    have eaa : T2 (82 + n1) = S (82 + n1) := by
      obtain ⟨x1, x2, x3, x4, x5, x6, x7⟩ := d8 n1 hn1
      rw [f1 _ x6 x7, b2 _ x5 x6, hT _ x1 x2 x3 x4]
    have T2f : ∀ a, a ≠ 78 → a ≠ 90 → a ≠ 91 → T2 a = T0 a := fun a x1 x2 x3 => by rw [f1 a x2 x3, b2 a x1 x2]
    obtain ⟨y1, y2, y3, y4, y5⟩ := i1.lenR
    have rr : rowR T2 (S (82 + n1)) [] := ⟨by rw [T2f 99 (by decide) (by decide) (by decide), hT 99 (by decide) (by decide) (by decide) (by decide)]; exact y4, by rw [T2f 100 (by decide) (by decide) (by decide), hT 100 (by decide) (by decide) (by decide) (by decide)]; exact y5, fun i hi => absurd hi (Nat.not_lt_zero i)⟩
    obtain ⟨T3, k1, k2, k3, k4⟩ := lr_all (us := S (82 + n1)) (aa := 82 + n1) (by omega) (ts n1) 64 0 [] T2 _ (by omega) (by simp only [List.length_nil]; omega) c1 eaa rr o1
    obtain ⟨T4, e4, o4, f4⟩ := oclose (C := []) (body := cP (plV [] (ts n1))) (k := 5) k4 a1'
    have fr : ∀ a, a ∉ rSc → T4 a = T0 a := fun a ha => by
      have x0 : a ≠ 78 := fun e => ha (e ▸ by decide)
      have x1 : a ≠ 90 := fun e => ha (e ▸ by decide)
      have x2 : a ≠ 91 := fun e => ha (e ▸ by decide)
      have x3 : a ≠ 99 := fun e => ha (e ▸ by decide)
      have x4 : a ≠ 100 := fun e => ha (e ▸ by decide)
      rw [f4 a x1 x2, k3 a x1 x2 x3 x4, T2f a x0 x1 x2]
    have e78 : T4 78 = T1 78 := by rw [f4 78 (by decide) (by decide), k3 78 (by decide) (by decide) (by decide) (by decide), f1 78 (by decide) (by decide)]
    have r78 : ∀ k, rd T4 78 k = rd T1 78 k := fun k => by unfold rd; rw [e78]
    refine ⟨T4, ?_, fr, fun k hk => ?_, by rw [r78]; exact b4, by rw [r78]; exact b5, by rw [e78]; exact b6, by rw [allT_c]; exact o4, ?_, ?_, ?_, ?_, ?_⟩
    · show b_all T0 _ _ = _
      unfold b_all
      rw [b1, o_bind, (reg_ok T1 h0).2.1, o_bind, if_pos rfl, (reg_ok T1 h1).2.1, o_bind, if_pos rfl, e1, o_bind, u1, o_bind, u1']
      rw [show b_list 64 T2 (82 + n1) 0 0 = _ from k1, o_bind, e4, o_bind]
    · rw [r78, b3 k (by omega) (by omega)]; unfold rd; rw [n78]
    · rw [f4 80 (by decide) (by decide), k3 80 (by decide) (by decide) (by decide) (by decide), T2f 80 (by decide) (by decide) (by decide), hT 80 (by decide) (by decide) (by decide) (by decide)]; exact y1
    · rw [f4 97 (by decide) (by decide), k3 97 (by decide) (by decide) (by decide) (by decide), T2f 97 (by decide) (by decide) (by decide), hT 97 (by decide) (by decide) (by decide) (by decide)]; exact y2
    · rw [f4 98 (by decide) (by decide), k3 98 (by decide) (by decide) (by decide) (by decide), T2f 98 (by decide) (by decide) (by decide), hT 98 (by decide) (by decide) (by decide) (by decide)]; exact y3
    · rw [f4 99 (by decide) (by decide)]; exact k2.1
    · rw [f4 100 (by decide) (by decide)]; exact k2.2.1)
  rcases fc with ⟨Sg, W, c1', c2, c3, c4, c5, c6⟩ | ⟨W, c1', c2, c3, c4, c5, c6⟩
  · refine ⟨(Sg, 0), W, ?_, c2, c3, c4, c5, c6⟩
    unfold h_all; rw [eA _ c1', if_pos rfl, o_bind, if_pos rfl]
  · refine ⟨(S3, 2), W, ?_, c2, c3, c4, c5, c6⟩
    unfold h_all; rw [eA _ c1', if_neg (show ¬ (1 : Nat) = 0 by decide), o_bind, if_neg (show ¬ (1 : Nat) = 0 by decide), if_neg (show ¬ (1 : Nat) = 2 by decide), if_pos rfl]
end All146
