/-! The class's del, up to its end. -/
section Del172
/-- the steps of the path j -/
def stO (es : List Mb) (j : Nat) : List Mb := toL (es.getD j nulM).2.2.2.2
theorem dell {N n0 n2 tp dr : Nat} {vs post : List Int32} {es : List Mb} {Q : List Nat} {ra : List Nat} (hdr : dr < 1000 ∧ dr ≠ 67 ∧ dr ≠ 72 ∧ dr ≠ 73 ∧ dr ≠ 74 ∧ dr ≠ 46 ∧ dr ≠ 41) (htp : tp ≠ 67 ∧ tp ≠ 73 ∧ tp ≠ dr ∧ tp < 1000) (hN : N ≤ 100) (hNe : N ≤ es.length) (hQl : Q.length = N) (hQ : ∀ j ∈ Q, j < N) (hat : ∀ j (h : j < es.length), vat vs (ip false 1 es j) (es[j]).2 ∧ (es[j]).2.1 = 5) : ∀ (k n : Nat) (S : SS) (t : Vl), k ≤ N → k < n → iget (S 46) (Int32.ofNat n2) = some (Int32.ofNat tp) → rd S 41 9 = Int32.ofNat dr → S dr = 0 :: bV t → wV t → (bV t).length ≤ 4096 → tT S tp = vs → (S 67).length = 6 → (S 73).length = 4 → rd S 72 4 = Int32.ofNat N → S 74 = Q.map (fun j => Int32.ofNat (ip false 1 es j)) ++ post → (S 74).length = 100 → (∀ T, cutL (((Q.take k).reverse).map (stO es)) t = some T → ∃ S', a_del_l84 n S (Int32.ofNat n0) (Int32.ofNat n2) (Int32.ofInt ((k : Int) - 1)) = ((a_keep S' (Int32.ofNat n0)).bind fun r24 => if r24.2 = 0 then some (r24.1, 0) else some (r24.1, r24.2)) ∧ frK S S' dr ∧ wV T ∧ (bV T).length ≤ 4096 ∧ S' dr = 0 :: bV T) ∧ (cutL (((Q.take k).reverse).map (stO es)) t = none → ∃ S' e, a_del_l84 n S (Int32.ofNat n0) (Int32.ofNat n2) (Int32.ofInt ((k : Int) - 1)) = some (wr S' 41 11 e, 4) ∧ frK S S' dr) := by
  intro k
  induction k with
  | zero =>
    intro n S t hk hn h46 h41 hd hw hl ht h67 h73 h72 h74 h74l
    obtain ⟨n, rfl⟩ : ∃ j, n = j + 1 := ⟨n - 1, by omega⟩
    refine ⟨fun T hT => ?_, fun hT => by cases hT⟩
    cases hT
    refine ⟨S, ?_, frK.refl _ _, hw, hl, hd⟩
    unfold a_del_l84
    rw [if_pos (by decide)]
  | succ k ih =>
    intro n S t hk hn h46 h41 hd hw hl ht h67 h73 h72 h74 h74l
    obtain ⟨n, rfl⟩ : ∃ j, n = j + 1 := ⟨n - 1, by omega⟩
    have hkQ : k < Q.length := by omega
    have hqk := hQ _ (List.getElem_mem hkQ)
    have e1 : Int32.ofInt (((k + 1 : Nat) : Int) - 1) = Int32.ofNat k := by
      rw [show (((k + 1 : Nat) : Int) - 1) = (k : Int) by omega]
      rfl
    have e2 : Int32.ofNat k + (-1) = Int32.ofInt ((k : Int) - 1) := by
      apply Int32.toInt_inj.mp
      have a1 : (Int32.ofNat k).toInt = (k : Int) := i_of (by omega)
      have a2 : (-1 : Int32).toInt = -1 := rfl
      rw [i_add (by rw [a1, a2]; omega) (by rw [a1, a2]; omega), a1, a2, i_ofInt (by omega) (by omega)]
      omega
    have ig : iget (S 74) (Int32.ofNat k) = some (Int32.ofNat (ip false 1 es Q[k])) := by
      have : (S 74)[k]'(by omega) = (Q.map (fun j => Int32.ofNat (ip false 1 es j)) ++ post)[k]'(by rw [List.length_append, List.length_map]; omega) := List.getElem_of_eq h74 _
      rw [iget_in (by omega) (by omega), this, List.getElem_append_left (by rw [List.length_map]; exact hkQ), List.getElem_map]
    obtain ⟨v1, v5⟩ := hat Q[k] (by omega)
    have v1' := v1
    rw [vl5 v5] at v1'
    have est : stO es Q[k] = toL (es[Q[k]]'(by omega)).2.2.2.2 := by unfold stO; rw [getD_in _ (show Q[k] < es.length by omega)]
    have hvt : vat (bV t) 0 t := ⟨hl, (bV_pass t hw).2, hw, [], by rw [List.drop_zero, List.append_nil], Or.inl rfl⟩
    obtain ⟨S1, e, j1, j2, j3, j4, j5, j6⟩ := kcut_val (k := k) (N := N) ⟨hdr.1, hdr.2.1, hdr.2.2.1, hdr.2.2.2.1, hdr.2.2.2.2.1⟩ ⟨htp.1, htp.2.1, htp.2.2.1⟩ hd hvt ht v1' h67 h73 h72 hN (by omega) ig
    rw [← est] at j5 j6
    have er : ((Q.take (k + 1)).reverse).map (stO es) = stO es Q[k] :: ((Q.take k).reverse).map (stO es) := by
      rw [List.take_succ_eq_append_getElem hkQ, List.reverse_append]
      rfl
    have ecl : cutL (((Q.take (k + 1)).reverse).map (stO es)) t = (cutP (stO es Q[k]) t).bind fun u => cutL (((Q.take k).reverse).map (stO es)) u := by rw [er]; rfl
    have step : a_del_l84 (n + 1) S (Int32.ofNat n0) (Int32.ofNat n2) (Int32.ofInt (((k + 1 : Nat) : Int) - 1)) = ((a_refuse S1 e).bind fun r29 => if r29.2 = 0 then a_del_l84 n r29.1 (Int32.ofNat n0) (Int32.ofNat n2) (Int32.ofInt ((k : Int) - 1)) else some (r29.1, r29.2)) := by
      rw [e1]
      show (if Int32.ofNat k < 0 then _ else _) = _
      rw [if_neg (i_nn (by omega)), h46, o_bind, h41, i_cl (by omega), i_cl (by omega), j1, o_bind, e2]
    rw [ecl, step]
    by_cases he : e = 0
    · obtain ⟨T, y1, y2, y3, y4⟩ := j5 he
      have step2 : ((a_refuse S1 e).bind fun r29 => if r29.2 = 0 then a_del_l84 n r29.1 (Int32.ofNat n0) (Int32.ofNat n2) (Int32.ofInt ((k : Int) - 1)) else some (r29.1, r29.2)) = a_del_l84 n S1 (Int32.ofNat n0) (Int32.ofNat n2) (Int32.ofInt ((k : Int) - 1)) := by
        rw [(refuse_a e).1 he, o_bind, if_pos rfl]
      rw [y1, step2]
      show (∀ U, cutL (((Q.take k).reverse).map (stO es)) T = some U → _) ∧ (cutL (((Q.take k).reverse).map (stO es)) T = none → _)
      obtain ⟨z1, z2⟩ := ih n S1 T (by omega) (by omega) (by rw [j2 46 (by decide) (by decide) (fun c => hdr.2.2.2.2.2.1 c.symm)]; exact h46) (by unfold rd at h41 ⊢; rw [j2 41 (by decide) (by decide) (fun c => hdr.2.2.2.2.2.2 c.symm)]; exact h41) y4 y2 y3 (by unfold tT at ht ⊢; rw [j2 tp htp.1 htp.2.1 htp.2.2.1]; exact ht) j3 j4 (by unfold rd at h72 ⊢; rw [j2 72 (by decide) (by decide) (fun c => hdr.2.2.1 c.symm)]; exact h72) (by rw [j2 74 (by decide) (by decide) (fun c => hdr.2.2.2.2.1 c.symm)]; exact h74) (by rw [j2 74 (by decide) (by decide) (fun c => hdr.2.2.2.2.1 c.symm)]; exact h74l)
      refine ⟨fun U hU => ?_, fun hU => ?_⟩
      · obtain ⟨S', w1, w2, w3⟩ := z1 U hU
        exact ⟨S', w1, j2.trans w2, w3⟩
      · obtain ⟨S', e', w1, w2⟩ := z2 hU
        exact ⟨S', e', w1, j2.trans w2⟩
    · have step2 : ((a_refuse S1 e).bind fun r29 => if r29.2 = 0 then a_del_l84 n r29.1 (Int32.ofNat n0) (Int32.ofNat n2) (Int32.ofInt ((k : Int) - 1)) else some (r29.1, r29.2)) = some (wr S1 41 11 e, 4) := by
        rw [(refuse_a e).2 he, o_bind, if_neg (show ¬ (4 : Nat) = 0 by decide)]
      rw [j6 he, step2]
      exact ⟨fun U hU => (by cases hU), fun _ => ⟨S1, e, rfl, j2⟩⟩
/-- what the class's del leaves alone -/
def frD (S S' : SS) (dr : Nat) : Prop := (∀ a, a ∉ cSc → a ≠ dr → S' a = S a) ∧ lenC S'
theorem adel_val {S : SS} {ts : Nat → Vl} {dr : Nat} {ra : List Nat} {n0 n1 n2 : Nat} (hcs : ∃ h, cs h S) (i1 : InvL S) (i5 : InvG S ts dr ra) (hn0 : n0 < 8) (hn1 : n1 < 8) (hn2 : n2 < 8) : (¬ ((ts n2).1 = 5 ∧ okE (toL (ts n2).2.2.2)) → ∃ S' e, a_del S (Int32.ofNat n0) (Int32.ofNat n1) (Int32.ofNat n2) = some (wr S' 41 11 e, 4) ∧ frD S S' dr) ∧ ((ts n2).1 = 5 ∧ okE (toL (ts n2).2.2.2) → ¬ ((toL (ts n2).2.2.2).length ≤ 100 ∧ smL (toL (ts n2).2.2.2) ≤ 100) → ∃ S', a_del S (Int32.ofNat n0) (Int32.ofNat n1) (Int32.ofNat n2) = some (S', 1) ∧ frD S S' dr) ∧ ((ts n2).1 = 5 ∧ okE (toL (ts n2).2.2.2) → (toL (ts n2).2.2.2).length ≤ 100 ∧ smL (toL (ts n2).2.2.2) ≤ 100 → ∃ Q : List Nat, Q.Perm (List.range (toL (ts n2).2.2.2).length) ∧ srtN (fun j => key 61 ((toL (ts n2).2.2.2).getD j nulM).2) Q (toL (ts n2).2.2.2).length ∧ (∀ T, cutL ((Q.reverse).map (stO (toL (ts n2).2.2.2))) (ts n1) = some T → ∃ S', a_del S (Int32.ofNat n0) (Int32.ofNat n1) (Int32.ofNat n2) = ((a_keep S' (Int32.ofNat n0)).bind fun r24 => if r24.2 = 0 then some (r24.1, 0) else some (r24.1, r24.2)) ∧ frD S S' dr ∧ wV T ∧ (bV T).length ≤ 4096 ∧ S' dr = 0 :: bV T) ∧ (cutL ((Q.reverse).map (stO (toL (ts n2).2.2.2))) (ts n1) = none → ∃ S' e, a_del S (Int32.ofNat n0) (Int32.ofNat n1) (Int32.ofNat n2) = some (wr S' 41 11 e, 4) ∧ frD S S' dr)) := by
  obtain ⟨l78, l41, l90, l96, l67, l68, l69, l70, l72, l73, l75, l47⟩ := cs.l78 hcs
  obtain ⟨g1, g2, g3, g4, g5⟩ := id i5
  have reg : ∀ n, n < 8 → a_reg S (Int32.ofNat n) = some (S, 0) := by
    intro n hn
    have : ¬ Int32.ofNat n < 0 ∧ Int32.ofNat n < 8 := ⟨i_nn (by omega), by rw [show (8 : Int32) = Int32.ofNat 8 from rfl, i_lt' (by omega) (by omega)]; exact hn⟩
    exact (reg_ok S this).1
  have hdn : dr ∈ nine := g3.mem_iff.mp List.mem_cons_self
  have n9 : ∀ a, a ∉ nine → a ≠ dr := fun a ha e => ha (e ▸ hdn)
  have nt : ∀ a ∈ nine, a < 1000 ∧ a ≠ 67 ∧ a ≠ 72 ∧ a ≠ 73 ∧ a ≠ 74 ∧ a ≠ 46 ∧ a ≠ 41 ∧ a ≠ 47 ∧ a ≠ 48 ∧ a ∉ cSc := by decide
  obtain ⟨d1, d2, d3, d4, d5, d6, d7, d8, d9, d10⟩ := nt dr hdn
  have m1 := ra_mem g3 g2 hn1
  have m2 := ra_mem g3 g2 hn2
  obtain ⟨p1, p2, p3, p4, p5, p6, p7, p8, p9, p10⟩ := nt _ m2
  obtain ⟨q1, q2, q3, q4, q5, q6, q7, q8, q9, q10⟩ := nt _ m1
  have pd := ra_ne g3 g2 hn2
  have qd := ra_ne g3 g2 hn1
  obtain ⟨c2, c2'⟩ := get46 g1 g2 hn2 p1
  obtain ⟨c1, c1'⟩ := get46 g1 g2 hn1 q1
  obtain ⟨v2, -⟩ := reg_vat (g5 n2 hn2)
  obtain ⟨y1, y2, y3, y4, y5, y6⟩ := i1.lenC
  obtain ⟨S1, e, j1, j2, j3, j4, j5, j6⟩ := look_val (t0 := ra.getD n2 0) ⟨p3, p5⟩ v2 l72 y4
  have fr1 : ∀ a, a ∉ cSc → S1 a = S a := fun a ha => j2 a (fun c => ha (c ▸ by decide)) (fun c => ha (c ▸ by decide))
  have D1 : frD S S1 dr := ⟨fun a ha _ => fr1 a ha, by unfold rd; rw [j2 47 (by decide) (by decide)]; exact y1, by rw [j2 48 (by decide) (by decide)]; exact y2, by rw [j2 71 (by decide) (by decide)]; exact y3, j4, by rw [j2 76 (by decide) (by decide)]; exact y5, by rw [j2 77 (by decide) (by decide)]; exact y6⟩
  have head : a_del S (Int32.ofNat n0) (Int32.ofNat n1) (Int32.ofNat n2) = ((a_refuse S1 e).bind fun r10 => if r10.2 = 0 then ((k_many r10.1).bind fun r12 => (if r12 = 0 then ((iget (r10.1 46) (Int32.ofNat n2)).bind fun b15 => ((k_sort r10.1 b15.toNatClampNeg).bind fun r16 => ((iget (r16 46) (Int32.ofNat n1)).bind fun b18 => ((scopy r16 ((rd r16 41 9).toNatClampNeg) b18.toNatClampNeg).bind fun r19 => ((k_paths r19).bind fun r21 => a_del_l84 10000 r19 (Int32.ofNat n0) (Int32.ofNat n2) (r21 - 1)))))) else some (r10.1, 1))) else some (r10.1, r10.2)) := by
    unfold a_del
    rw [reg n0 hn0, o_bind, if_pos rfl, reg n1 hn1, o_bind, if_pos rfl, reg n2 hn2, o_bind, if_pos rfl, c2, o_bind, c2', j1, o_bind]
  rw [head]
  obtain ⟨es, hes⟩ : ∃ es, es = toL (ts n2).2.2.2 := ⟨_, rfl⟩
  rw [← hes] at j5 j6
  rw [← hes]
  refine ⟨fun hno => ?_, fun hok => ?_, fun hok => ?_⟩
  · have he : e ≠ 0 := fun c => hno (j5.mp c)
    rw [(refuse_a e).2 he, o_bind, if_neg (show ¬ (4 : Nat) = 0 by decide)]
    exact ⟨S1, e, rfl, D1⟩
  · intro hmany
    have he : e = 0 := j5.mpr hok
    obtain ⟨r4, r5, hlen, -⟩ := j6 he
    have hsm : smL es < 2147483648 := by
      have : ∀ l : List Mb, (∀ x ∈ l, cnt x ≤ 100) → smL l ≤ 100 * l.length := by
        intro l
        induction l with
        | nil => intro _; exact Nat.zero_le _
        | cons x l ih =>
          intro h
          have h1 := ih (fun y hy => h y (List.mem_cons_of_mem _ hy))
          have h2 := h x List.mem_cons_self
          unfold smL at h1 ⊢
          rw [List.map_cons, List.sum_cons, List.length_cons]
          omega
      have := this es (fun x hx => (hok.2 x hx).2)
      omega
    have km : k_many S1 = some 1 := by
      unfold k_many
      rw [r4, r5]
      by_cases c : es.length ≤ 100
      · rw [if_neg (by rw [show (100 : Int32) = Int32.ofNat 100 from rfl, i_lt' (by omega) (by omega)]; omega), if_neg (by rw [show (100 : Int32) = Int32.ofNat 100 from rfl, i_le' (by omega) (by omega)]; exact fun d => hmany ⟨c, d⟩)]
      · rw [if_pos (by rw [show (100 : Int32) = Int32.ofNat 100 from rfl, i_lt' (by omega) (by omega)]; omega)]
    rw [(refuse_a e).1 he, o_bind, if_pos rfl, km, o_bind, if_neg (by decide)]
    exact ⟨S1, rfl, D1⟩
  · intro hfew
    have he : e = 0 := j5.mpr hok
    obtain ⟨r4, r5, hlen, hpl⟩ := j6 he
    have km : k_many S1 = some 0 := by
      unfold k_many
      rw [r4, r5, if_neg (by rw [show (100 : Int32) = Int32.ofNat 100 from rfl, i_lt' (by omega) (by omega)]; omega), if_pos (by rw [show (100 : Int32) = Int32.ofNat 100 from rfl, i_le' (by omega) (by omega)]; exact hfew.2)]
    have hdep : ∀ x ∈ es, dV x.2 ≤ 59 := by
      intro x hx
      have h60 := (g5 n2 hn2).2.2.2.1
      have e5 := vl5 hok.1
      rw [e5, ← hes] at h60
      have := dV_kid (k := 5) (v := (ts n2).2.1) (s := (ts n2).2.2.1) (Or.inl rfl) hx
      omega
    have v2' := v2
    rw [vl5 hok.1, ← hes] at v2'
    have hat0 : ∀ j (h : j < es.length), vat (tT S (ra.getD n2 0)) (ip false 1 es j) (es[j]).2 := fun j h => (step_at v2' h).1
    obtain ⟨pre, post, hpp, hpre⟩ : ∃ pre post, S1 74 = pre ++ post ∧ pre = (List.range es.length).map (fun j => Int32.ofNat (ip false 1 es j)) := by
      refine ⟨_, (S1 74).drop es.length, ?_, rfl⟩
      conv => lhs; rw [← List.take_append_drop es.length (S1 74)]
      congr 1
      apply List.ext_getElem
      · rw [List.length_take, List.length_map, List.length_range]; omega
      · intro i h1 h2
        rw [List.length_map, List.length_range] at h2
        have := hpl i (by omega)
        obtain ⟨w1, w2⟩ := List.getElem?_eq_some_iff.mp this
        rw [List.getElem_take, List.getElem_map, List.getElem_range, w2]
    rw [hpre] at hpp
    have hst : stCp S1 (ra.getD n2 0) (ra.getD n2 0) (tT S (ra.getD n2 0)) (tT S (ra.getD n2 0)) 0 := by
      refine ⟨by unfold tT; rw [fr1 _ p10], by unfold tT; rw [fr1 _ p10], by rw [j2 47 (by decide) (by decide)]; exact l47, D1.2.1, D1.2.2.1⟩
    obtain ⟨S2, Q, k1, k2, k3, k4, k5, k6, k7⟩ := ks2 (t0 := ra.getD n2 0) (N := es.length) ⟨p8, p9, p5⟩ hfew.1 (fun j h => ⟨hat0 j h, hdep _ (List.getElem_mem h)⟩) (Nat.le_refl _) (es.length - 1) 1 10000 S1 (List.range es.length) (by omega) (by omega) List.length_range (by omega) hst r4 (fun j hj => List.mem_range.mp hj) hpp j4 (fun a b ha hb hab hbm => by omega)
    have fr2 : ∀ a, a ∉ cSc → S2 a = S a := fun a ha => by rw [k2 a (fun c => ha (c ▸ by decide)) (fun c => ha (c ▸ by decide)) (fun c => ha (c ▸ by decide)), fr1 a ha]
    have hQl : Q.length = es.length := by rw [k6.length_eq, List.length_range]
    have hQm : ∀ j ∈ Q, j < es.length := fun j hj => List.mem_range.mp (k6.mem_iff.mp hj)
    -- the copy
    obtain ⟨b1, b2, b3, -⟩ := g5 n1 hn1
    have tn : tT S2 (ra.getD n1 0) = bV (ts n1) := by unfold tT; rw [fr2 _ q10, b1]; rfl
    have eC : scopy S2 dr (ra.getD n1 0) = some (up S2 dr (0 :: bV (ts n1))) := by
      unfold scopy
      rw [show up S2 dr [0] = up S2 dr (pv []) from rfl, spart_pv (fun c => qd c.symm) ?_ (by decide), List.nil_append, tn, tcut_all _ (by omega), pv_fit b2]
      rw [show (-10000 : Int32) = Int32.ofInt (-10000) from rfl, i_lt, i_ofInt (by decide) (by decide), i_of (by rw [tn]; omega)]
      omega
    obtain ⟨S3, hS3⟩ : ∃ S3, S3 = up S2 dr (0 :: bV (ts n1)) := ⟨_, rfl⟩
    have o3 : ∀ a, a ≠ dr → S3 a = S2 a := fun a ha => by rw [hS3, up_ne ha]
    have r43 : rd S3 72 4 = Int32.ofNat es.length := by
      unfold rd at r4 ⊢
      rw [o3 72 (fun c => d3 c.symm), k2 72 (by decide) (by decide) (by decide)]
      exact r4
    have c46 : iget (S3 46) (Int32.ofNat n2) = some (Int32.ofNat (ra.getD n2 0)) := by rw [o3 46 (fun c => d6 c.symm), fr2 46 (by decide)]; exact c2
    have c41 : rd S3 41 9 = Int32.ofNat dr := by unfold rd at g4 ⊢; rw [o3 41 (fun c => d7 c.symm), fr2 41 (by decide)]; exact g4
    have ekp : k_paths S3 = some (Int32.ofNat es.length) := by
      unfold k_paths imin
      rw [r43, show (100 : Int32) = Int32.ofNat 100 from rfl, if_neg (by rw [i_lt' (by omega) (by omega)]; omega)]
    have em1 : Int32.ofNat es.length - 1 = Int32.ofInt ((es.length : Int) - 1) := by
      apply Int32.toInt_inj.mp
      have a1 : (Int32.ofNat es.length).toInt = (es.length : Int) := i_of (by omega)
      have a2 : (1 : Int32).toInt = 1 := rfl
      rw [Int32.toInt_sub, a1, a2, i_ofInt (by omega) (by omega), Int.bmod_def]
      omega
    have go : ((a_refuse S1 e).bind fun r10 => if r10.2 = 0 then ((k_many r10.1).bind fun r12 => (if r12 = 0 then ((iget (r10.1 46) (Int32.ofNat n2)).bind fun b15 => ((k_sort r10.1 b15.toNatClampNeg).bind fun r16 => ((iget (r16 46) (Int32.ofNat n1)).bind fun b18 => ((scopy r16 ((rd r16 41 9).toNatClampNeg) b18.toNatClampNeg).bind fun r19 => ((k_paths r19).bind fun r21 => a_del_l84 10000 r19 (Int32.ofNat n0) (Int32.ofNat n2) (r21 - 1)))))) else some (r10.1, 1))) else some (r10.1, r10.2)) = a_del_l84 10000 S3 (Int32.ofNat n0) (Int32.ofNat n2) (Int32.ofInt ((es.length : Int) - 1)) := by
      have ks : k_sort S1 (ra.getD n2 0) = some S2 := k1
      have e9 : (rd S2 41 9).toNatClampNeg = dr := by
        have : rd S2 41 9 = Int32.ofNat dr := by unfold rd at g4 ⊢; rw [fr2 41 (by decide)]; exact g4
        rw [this]
        exact i_cl (by omega)
      rw [(refuse_a e).1 he, o_bind]
      show (if (0 : Nat) = 0 then ((k_many S1).bind fun r12 => (if r12 = 0 then ((iget (S1 46) (Int32.ofNat n2)).bind fun b15 => ((k_sort S1 b15.toNatClampNeg).bind fun r16 => ((iget (r16 46) (Int32.ofNat n1)).bind fun b18 => ((scopy r16 ((rd r16 41 9).toNatClampNeg) b18.toNatClampNeg).bind fun r19 => ((k_paths r19).bind fun r21 => a_del_l84 10000 r19 (Int32.ofNat n0) (Int32.ofNat n2) (r21 - 1)))))) else some (S1, 1))) else _) = _
      rw [if_pos rfl, km, o_bind, if_pos rfl, fr1 46 (by decide), c2, o_bind, c2', ks, o_bind, fr2 46 (by decide), c1, o_bind, c1', e9, eC, o_bind, ← hS3, ekp, o_bind, em1]
    have hat3 : ∀ j (h : j < es.length), vat (tT S (ra.getD n2 0)) (ip false 1 es j) (es[j]).2 ∧ (es[j]).2.1 = 5 := fun j h => ⟨hat0 j h, (hok.2 _ (List.getElem_mem h)).1⟩
    obtain ⟨z1, z2⟩ := dell (n0 := n0) (ra := ra) (Q := Q) (post := post) ⟨d1, d2, d3, d4, d5, d6, d7⟩ ⟨p2, p4, pd, p1⟩ hfew.1 (Nat.le_refl _) hQl hQm hat3 es.length 10000 S3 (ts n1) (Nat.le_refl _) (by omega) c46 c41 (by rw [hS3, up_same]) b3 b2 (by unfold tT; rw [o3 _ pd, fr2 _ p10]) (by rw [o3 67 (fun c => d2 c.symm), k2 67 (by decide) (by decide) (by decide), j2 67 (by decide) (by decide)]; exact l67) (by rw [o3 73 (fun c => d4 c.symm), k2 73 (by decide) (by decide) (by decide), j2 73 (by decide) (by decide)]; exact l73) r43 (by rw [o3 74 (fun c => d5 c.symm)]; exact k4) (by rw [o3 74 (fun c => d5 c.symm)]; exact k5)
    rw [List.take_of_length_le (Nat.le_of_eq hQl)] at z1 z2
    have frT : ∀ S', frK S3 S' dr → frD S S' dr := by
      intro S' hf
      have e : ∀ a, a ∈ [47, 48, 71, 74, 76, 77] → S' a = S2 a := fun a ha => by
        have d : ∀ a ∈ [47, 48, 71, 74, 76, 77], a ≠ 67 ∧ a ≠ 73 ∧ a ∉ nine := by decide
        obtain ⟨x1, x2, x3⟩ := d a ha
        rw [hf a x1 x2 (n9 a x3), o3 a (n9 a x3)]
      obtain ⟨u1, u2, u3, u4, u5⟩ := k3
      refine ⟨fun a ha hne => ?_, by unfold rd; rw [e 47 (by decide)]; exact u4, by rw [e 48 (by decide)]; exact u5, by rw [e 71 (by decide), k2 71 (by decide) (by decide) (by decide), j2 71 (by decide) (by decide)]; exact y3, by rw [e 74 (by decide)]; exact k5, by rw [e 76 (by decide), k2 76 (by decide) (by decide) (by decide), j2 76 (by decide) (by decide)]; exact y5, by rw [e 77 (by decide), k2 77 (by decide) (by decide) (by decide), j2 77 (by decide) (by decide)]; exact y6⟩
      rw [hf a (fun c => ha (c ▸ by decide)) (fun c => ha (c ▸ by decide)) hne, o3 a hne, fr2 a ha]
    refine ⟨Q, k6, k7, fun T hT => ?_, fun hT => ?_⟩
    · obtain ⟨S', w1, w2, w3⟩ := z1 T hT
      exact ⟨S', go.trans w1, frT S' w2, w3⟩
    · obtain ⟨S', e', w1, w2⟩ := z2 hT
      exact ⟨S', e', go.trans w1, frT S' w2⟩
end Del172
