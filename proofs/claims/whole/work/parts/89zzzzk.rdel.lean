/-! The reference's del, whole. -/
section RDel177
def dCut (k355 : SS → Int32 → Nat → Int32 → Int32 → Option SS) (S : SS) (l1 : Int32) (a4 : Nat) (l5 l7 : Int32) : Option SS := ((q_clear S).bind fun r33 => ((iget ((wr r33 78 19 (Int32.ofNat a4)) 97) l7).bind fun b36 => ((r_next ((wr r33 78 19 (Int32.ofNat a4)) a4) b36).bind fun r37 => ((iget ((wr (wr r33 78 19 (Int32.ofNat a4)) 78 21 r37) 97) l7).bind fun b40 => (if (b40 + 2) = (rd (wr (wr r33 78 19 (Int32.ofNat a4)) 78 21 r37) 78 21) then ((q_simple (wr (wr r33 78 19 (Int32.ofNat a4)) 78 21 r37) 0).bind fun r42 => k355 r42 l1 a4 l5 (l7 + 1)) else ((b_take 70 (wr (wr r33 78 19 (Int32.ofNat a4)) 78 21 r37) 98 0 (b40 + 2)).bind fun r44 => k355 r44 l1 a4 l5 (l7 + 1)))))))
theorem d372 {k75 k112 : SS → Int32 → Int32 → Nat → Int32 → Int32 → Option SS} {k162 : SS → Int32 → Int32 → Nat → Int32 → Int32 → Int32 → Option SS} {k236 : SS → Int32 → Int32 → Nat → Int32 → Int32 → Option SS} {k355 : SS → Int32 → Nat → Int32 → Int32 → Option SS} {pb : Nat} {l1 l5 l7 : Int32} {C j : List Int32} (hC : C.length ≤ 9000) : ∀ (m i n : Nat) (S : SS) (z : List Int32), i + m = C.length → m < n → S 91 = C ++ j → rd S 90 1 = Int32.ofNat C.length → S 98 = C.take i ++ z → (S 98).length = 9000 → ∃ S', b_del_l372 k75 k112 k162 k236 k355 n S l1 pb l5 l7 (Int32.ofNat i) = dCut k355 S' l1 pb l5 l7 ∧ (∀ a, a ≠ 98 → S' a = S a) ∧ (∃ z, S' 98 = C ++ z) ∧ (S' 98).length = 9000 := by
  intro m
  induction m with
  | zero =>
    intro i n S z hi hn h91 h90 h98 hl
    obtain ⟨n, rfl⟩ : ∃ j, n = j + 1 := ⟨n - 1, by omega⟩
    refine ⟨S, ?_, fun _ _ => rfl, ⟨z, by rw [h98, List.take_of_length_le (by omega)]⟩, hl⟩
    show (if (rd S 90 1) ≤ Int32.ofNat i then dCut k355 S l1 pb l5 l7 else _) = _
    rw [h90, if_pos ((i_le' (by omega) (by omega)).mpr (by omega))]
  | succ m ih =>
    intro i n S z hi hn h91 h90 h98 hl
    obtain ⟨n, rfl⟩ : ∃ j, n = j + 1 := ⟨n - 1, by omega⟩
    have hil : i < C.length := by omega
    have hti : (C.take i).length = i := by rw [List.length_take]; omega
    cases z with
    | nil => rw [h98, List.append_nil, hti] at hl; omega
    | cons h z =>
      have is : iset (S 98) (Int32.ofNat i) C[i] = some (C.take i ++ C[i] :: z) := by
        rw [h98]
        have := iset_at (P := C.take i) (h := h) (v := C[i]) (Z := z) (by omega)
        rw [hti] at this
        exact this
      have ig : iget (S 91) (Int32.ofNat i) = some C[i] := by
        rw [h91, iget_in (by rw [List.length_append]; omega) (by omega), List.getElem_append_left hil]
      have e98 : C.take i ++ C[i] :: z = C.take (i + 1) ++ z := by rw [List.take_succ_eq_append_getElem hil, List.append_assoc]; rfl
      obtain ⟨S', j1, j2, j3, j4⟩ := ih (i + 1) n (up S 98 (C.take (i + 1) ++ z)) z (by omega) (by omega) (by rw [up_ne (by decide)]; exact h91) (by rw [rd_up (by decide)]; exact h90) (by rw [up_same]) (by
        rw [up_same, ← e98]
        rw [h98] at hl
        simp only [List.length_append, List.length_cons] at hl ⊢
        exact hl)
      refine ⟨S', ?_, fun a ha => by rw [j2 a ha, up_ne ha], j3, j4⟩
      show (if (rd S 90 1) ≤ Int32.ofNat i then _ else ((iget (S 91) (Int32.ofNat i)).bind fun b46 => ((iset (S 98) (Int32.ofNat i) b46).bind fun z47 => b_del_l372 k75 k112 k162 k236 k355 n (up S 98 z47) l1 pb l5 l7 (Int32.ofNat i + 1)))) = _
      rw [h90, if_neg (by rw [i_le' (by omega) (by omega)]; omega), ig, o_bind, is, o_bind, i_a1, e98]
      exact j1
/-- what a round of cutting leaves alone -/
def frC (S S' : SS) : Prop := (∀ a, a ≠ 78 → a ≠ 90 → a ≠ 91 → a ≠ 98 → S' a = S a) ∧ (∀ k, k = 0 ∨ k = 1 ∨ k = 3 ∨ k = 4 → rd S' 78 k = rd S 78 k) ∧ (S' 78).length = (S 78).length
theorem frC.trans {S S1 S2 : SS} (a : frC S S1) (b : frC S1 S2) : frC S S2 := ⟨fun x h1 h2 h3 h4 => (b.1 x h1 h2 h3 h4).trans (a.1 x h1 h2 h3 h4), fun k h => (b.2.1 k h).trans (a.2.1 k h), b.2.2.trans a.2.2⟩
theorem frC_3 {S S' : SS} (h : fr3 S S') : frC S S' := ⟨fun a h1 h2 h3 _ => h.1 a h1 h2 h3, fun k hk => h.2.1 k (by omega) (by omega) (by omega), h.2.2⟩
theorem dcut {k355 : SS → Int32 → Nat → Int32 → Int32 → Option SS} {pb a i : Nat} {v : Int} {s : List Int32} {es : List Mb} {l1 l5 : Int32} {S : SS} {t : Vl} {P L : List Nat} {post z : List Int32} (hpb : 82 ≤ pb ∧ pb ≤ 89) (ha : a < es.length) (hE : okE es) (hc : cat (S pb) 0 (5, v, s, ofL es)) (h78 : (S 78).length = 22) (h90 : (S 90).length = 3) (h91 : (S 91).length = 9000) (h39 : S 39 = mp_aS) (h40 : S 40 = mp_aE) (hr : rd S 78 12 = 0) (hi : P.length = i) (hi2 : i ≤ 100) (h97 : S 97 = P.map (fun j => Int32.ofNat (epC es j)) ++ Int32.ofNat (epC es a) :: (L.map (fun j => Int32.ofNat (epC es j)) ++ post)) (h98 : S 98 = cV t ++ z) (l98 : (S 98).length = 9000) (hw : wV t) (hd : dV t ≤ 60) : ∃ S', dCut k355 S l1 pb l5 (Int32.ofNat i) = k355 S' l1 pb l5 (Int32.ofNat (i + 1)) ∧ frC S S' ∧ S' 98 = S 98 ∧ (∃ C', OutV S' C') ∧ (∀ T, cutP (stO es a) t = some T → rd S' 78 12 = 0 ∧ wV T ∧ OutV S' (cV T)) ∧ (cutP (stO es a) t = none → ¬ rd S' 78 12 ≤ 0) := by
  obtain ⟨c1, -, c3, c4⟩ := ep_at hc ha
  have e5 := (hE _ (List.getElem_mem ha)).1
  have est : stO es a = toL (es[a]).2.2.2.2 := by unfold stO; rw [getD_in _ ha]
  obtain ⟨ls, hls⟩ : ∃ ls, ls = stO es a := ⟨_, rfl⟩
  have c1' := c1
  rw [vl5 e5, ← est, ← hls] at c1'
  obtain ⟨n1, n2, n3⟩ := c1'.next
  obtain ⟨h9, hwp, r, hdp⟩ := id c1'
  have elen : (cV (es[a]).2).length = (cV (5, (es[a]).2.2.1, (es[a]).2.2.2.1, ofL ls)).length := by
    conv => lhs; rw [vl5 e5, ← est, ← hls]
  have e5l := cV_l5 (es[a]).2.2.1 (es[a]).2.2.2.1 ls
  obtain ⟨E, hEE⟩ : ∃ E, E = epC es a + (cV (5, (es[a]).2.2.1, (es[a]).2.2.2.1, ofL ls)).length := ⟨_, rfl⟩
  rw [← hEE] at n1 n2
  have hE9 : E ≤ 9000 := by omega
  obtain ⟨S1, hS1⟩ : ∃ S1, S1 = wr (wr S 90 1 0) 90 2 0 := ⟨_, rfl⟩
  obtain ⟨S3, hS3⟩ : ∃ S3, S3 = wr (wr S1 78 19 (Int32.ofNat pb)) 78 21 (Int32.ofNat E) := ⟨_, rfl⟩
  have f1 : ∀ b, b ≠ 90 → S1 b = S b := fun b hb => by rw [hS1, wr_ne hb, wr_ne hb]
  have f3 : ∀ b, b ≠ 90 → b ≠ 78 → S3 b = S b := fun b hb hb2 => by rw [hS3, wr_ne hb2, wr_ne hb2, f1 b hb]
  have l1_78 : (S1 78).length = 22 := by rw [f1 78 (by decide)]; exact h78
  have l3_78 : (S3 78).length = 22 := by rw [hS3, wr_len, wr_len]; exact l1_78
  have k3 : ∀ k, k ≠ 19 → k ≠ 21 → rd S3 78 k = rd S 78 k := fun k k1 k2 => by rw [hS3, rd_wr_j (fun e => k2 e.symm), rd_wr_j (fun e => k1 e.symm)]; unfold rd; rw [f1 78 (by decide)]
  have k19 : rd S3 78 19 = Int32.ofNat pb := by rw [hS3, rd_wr_j (by decide), rd_wr (by rw [l1_78]; decide)]
  have k21 : rd S3 78 21 = Int32.ofNat E := by rw [hS3, rd_wr (by rw [wr_len, l1_78]; decide)]
  have o3 : OutV S3 [] := by
    have e90 : S3 90 = S1 90 := by rw [hS3, wr_ne (by decide), wr_ne (by decide)]
    refine ⟨by rw [f3 91 (by decide) (by decide)]; exact h91, by rw [e90, hS1, wr_len, wr_len]; exact h90, fun _ => ⟨⟨_, rfl⟩, ?_, ?_⟩, fun c => absurd c (by decide)⟩
    · unfold rd; rw [e90]; show rd S1 90 1 = _; rw [hS1, rd_wr_j (by decide), rd_wr (by rw [h90]; decide)]; rfl
    · unfold rd; rw [e90]; show rd S1 90 2 = _; rw [hS1, rd_wr (by rw [wr_len, h90]; decide)]
  have ig : iget (S 97) (Int32.ofNat i) = some (Int32.ofNat (epC es a)) := by
    rw [h97]
    have := iget_at (P := P.map (fun j => Int32.ofNat (epC es j))) (h := Int32.ofNat (epC es a)) (Z := L.map (fun j => Int32.ofNat (epC es j)) ++ post) (by rw [List.length_map]; omega)
    rw [List.length_map, hi] at this
    exact this
  have ea2 : Int32.ofNat (epC es a) + 2 = Int32.ofNat (epC es a + 2) := (Int32.ofNat_add (epC es a) 2).symm
  have head : dCut k355 S l1 pb l5 (Int32.ofNat i) = (if Int32.ofNat (epC es a + 2) = Int32.ofNat E then ((q_simple S3 0).bind fun r42 => k355 r42 l1 pb l5 (Int32.ofNat (i + 1))) else ((b_take 70 S3 98 0 (Int32.ofNat (epC es a + 2))).bind fun r44 => k355 r44 l1 pb l5 (Int32.ofNat (i + 1)))) := by
    unfold dCut q_clear
    rw [o_bind, ← hS1, wr_ne (show 97 ≠ 78 by decide), f1 97 (by decide), ig, o_bind, wr_ne (show pb ≠ 78 by omega), f1 pb (by omega), n1, o_bind, ← hS3, f3 97 (by decide) (by decide), ig, o_bind, ea2, k21, i_a1]
  have hF3 : frC S S3 := ⟨fun b b1 b2 _ _ => f3 b b2 b1, fun k hk => k3 k (by omega) (by omega), by rw [l3_78, h78]⟩
  rw [head]
  by_cases hne : ls = []
  · have eE : E = epC es a + 2 := by rw [hEE, e5l, hne]; rfl
    rw [if_pos (by rw [eE])]
    obtain ⟨S4, q1, q2, q3⟩ := osimple o3 0
    rw [q1, o_bind]
    have ecp : cutP (stO es a) t = some vNull := by rw [← hls, hne]; rfl
    rw [ecp]
    refine ⟨S4, rfl, hF3.trans (frC_3 (fr3_O q3)), by rw [q3 98 (by decide) (by decide), f3 98 (by decide) (by decide)], ⟨_, q2⟩, fun T hT => ?_, fun hn => by cases hn⟩
    cases hT
    refine ⟨by rw [frO_12 q3, k3 12 (by decide) (by decide)]; exact hr, ?_, q2⟩
    exact vNull_ok
  · have hfl : 0 < (blks false ls).flatten.length := by
      have a1 := flat2 _ (blks_h (b := false) hwp.kids)
      have a2 := blks_len false ls
      simp only [Bool.false_eq_true, if_false] at a2
      have : ls.length ≠ 0 := fun c => hne (List.eq_nil_of_length_eq_zero c)
      omega
    rw [if_neg (by rw [i_inj (by omega) (by omega)]; omega)]
    have hP : prT S3 98 pb E := ⟨k19, k21, by rw [f3 pb (by omega) (by omega)]; exact h9, by rw [f3 39 (by decide) (by decide)]; exact h39, by rw [f3 40 (by decide) (by decide)]; exact h40, l3_78, by decide, hpb, hE9⟩
    have hA : atT S3 pb (epC es a + 2) E ls := by
      refine ⟨hwp.kids, by omega, r, ?_⟩
      rw [f3 pb (by omega) (by omega), ← List.drop_drop, hdp, cV_5]
      rfl
    obtain ⟨S4, q1, q2, C', q3, q4, q5⟩ := take_val (aa := 98) (pb := pb) (E := E) 70 ls hne S3 [] 0 t (epC es a + 2) hP hA o3 (by rw [k3 12 (by decide) (by decide)]; exact hr) (by rw [f3 98 (by decide) (by decide)]; exact ⟨by omega, hw, z, by rw [List.drop_zero]; exact h98⟩) (by omega) (by omega)
    have q1 : b_take 70 S3 98 0 (Int32.ofNat (epC es a + 2)) = some S4 := q1
    rw [q1, o_bind]
    have ecp : cutP (stO es a) t = cutV (ls.map fun m => m.2) t none := by rw [← hls]; unfold cutP; rw [if_neg hne]
    rw [ecp]
    refine ⟨S4, rfl, hF3.trans (frC_3 q2), by rw [q2.1 98 (by decide) (by decide) (by decide), f3 98 (by decide) (by decide)], ⟨_, q3⟩, fun T hT => ?_, q5⟩
    obtain ⟨y1, y2, y3⟩ := q4 T hT
    exact ⟨y1, y2, by rw [← y3]; simpa using q3⟩
theorem d355 {k75 k112 : SS → Int32 → Int32 → Nat → Int32 → Int32 → Option SS} {k162 : SS → Int32 → Int32 → Nat → Int32 → Int32 → Int32 → Option SS} {k236 : SS → Int32 → Int32 → Nat → Int32 → Int32 → Option SS} {pb : Nat} {v : Int} {s : List Int32} {es : List Mb} {l1 : Int32} {post : List Int32} (hpb : 82 ≤ pb ∧ pb ≤ 89) (hE : okE es) (hN : es.length ≤ 100) : ∀ (L : List Nat) (n i : Nat) (S : SS) (t : Vl) (P : List Nat), i + L.length = es.length → L.length < n → P.length = i → (∀ j ∈ L, j < es.length) → cat (S pb) 0 (5, v, s, ofL es) → (S 78).length = 22 → S 39 = mp_aS → S 40 = mp_aE → rd S 78 12 = 0 → S 97 = P.map (fun j => Int32.ofNat (epC es j)) ++ (L.map (fun j => Int32.ofNat (epC es j)) ++ post) → OutV S (cV t) → (cV t).length ≤ 9000 → (S 98).length = 9000 → wV t → dV t ≤ 60 → ∃ T2, b_del_l355 k75 k112 k162 k236 n S l1 pb (Int32.ofNat es.length) (Int32.ofNat i) = ((b_finish T2 l1 2 3).bind fun r => some r) ∧ frC S T2 ∧ (T2 98).length = 9000 ∧ (T2 91).length = 9000 ∧ (∀ T, cutL (L.map (stO es)) t = some T → rd T2 78 12 = 0 ∧ wV T ∧ OutV T2 (cV T)) ∧ (cutL (L.map (stO es)) t = none → ¬ rd T2 78 12 ≤ 0) := by
  intro L
  induction L with
  | nil =>
    intro n i S t P hi hn hP hL hc h78 h39 h40 hr h97 ho h9 h98 hw hd
    obtain ⟨n, rfl⟩ : ∃ j, n = j + 1 := ⟨n - 1, by omega⟩
    refine ⟨S, ?_, ⟨fun _ _ _ _ _ => rfl, fun _ _ => rfl, rfl⟩, h98, ho.1, fun T hT => ?_, fun hn => by cases hn⟩
    · show (if Int32.ofNat es.length ≤ Int32.ofNat i then _ else _) = _
      rw [if_pos ((i_le' (by omega) (by omega)).mpr (by simp only [List.length_nil] at hi; omega))]
    · cases hT
      exact ⟨hr, hw, ho⟩
  | cons a L ih =>
    intro n i S t P hi hn hP hL hc h78 h39 h40 hr h97 ho h9 h98 hw hd
    obtain ⟨n, rfl⟩ : ∃ j, n = j + 1 := ⟨n - 1, by omega⟩
    simp only [List.length_cons] at hi hn
    obtain ⟨⟨j, h91⟩, h90, -⟩ := ho.2.2.1 h9
    obtain ⟨S1, q1, q2, ⟨z, q3⟩, q4⟩ := d372 (k75 := k75) (k112 := k112) (k162 := k162) (k236 := k236) (k355 := b_del_l355 k75 k112 k162 k236 n) (pb := pb) (l1 := l1) (l5 := Int32.ofNat es.length) (l7 := Int32.ofNat i) h9 (cV t).length 0 10000 S (S 98) (by omega) (by omega) h91 h90 rfl h98
    obtain ⟨S2, r1, r2, r3, ⟨C', r4⟩, r5, r6⟩ := dcut (k355 := b_del_l355 k75 k112 k162 k236 n) (l1 := l1) (l5 := Int32.ofNat es.length) (P := P) (L := L) (post := post) (z := z) hpb (hL a List.mem_cons_self) hE (show cat (S1 pb) 0 (5, v, s, ofL es) by rw [q2 pb (by omega)]; exact hc) (by rw [q2 78 (by decide)]; exact h78) (by rw [q2 90 (by decide)]; exact ho.2.1) (by rw [q2 91 (by decide)]; exact ho.1) (by rw [q2 39 (by decide)]; exact h39) (by rw [q2 40 (by decide)]; exact h40) (by unfold rd at hr ⊢; rw [q2 78 (by decide)]; exact hr) hP (by omega) (by rw [q2 97 (by decide), h97]; rfl) q3 q4 hw hd
    have F1 : frC S S1 := ⟨fun a _ _ _ h => q2 a h, fun k _ => by unfold rd; rw [q2 78 (by decide)], by rw [q2 78 (by decide)]⟩
    have F2 := F1.trans r2
    have l98 : (S2 98).length = 9000 := by rw [r3]; exact q4
    have step : b_del_l355 k75 k112 k162 k236 (n + 1) S l1 pb (Int32.ofNat es.length) (Int32.ofNat i) = b_del_l355 k75 k112 k162 k236 n S2 l1 pb (Int32.ofNat es.length) (Int32.ofNat (i + 1)) := by
      show (if Int32.ofNat es.length ≤ Int32.ofNat i then _ else (if (rd S 78 12) = 0 then _ else _)) = _
      rw [if_neg (by rw [i_le' (by omega) (by omega)]; omega), if_pos hr]
      exact q1.trans r1
    rw [step, List.map_cons]
    cases hcp : cutP (stO es a) t with
    | none =>
      have hr2 := r6 hcp
      obtain ⟨n, rfl⟩ : ∃ j, n = j + 1 := ⟨n - 1, by omega⟩
      have ecl : cutL (stO es a :: L.map (stO es)) t = none := by
        show (cutP (stO es a) t).bind _ = none
        rw [hcp]
        rfl
      rw [ecl]
      refine ⟨S2, ?_, F2, l98, r4.1, fun T hT => (by cases hT), fun _ => hr2⟩
      show (if Int32.ofNat es.length ≤ Int32.ofNat (i + 1) then ((b_finish S2 l1 2 3).bind fun r29 => some r29) else (if (rd S2 78 12) = 0 then _ else ((b_finish S2 l1 2 3).bind fun r49 => some r49))) = _
      rw [if_neg (show ¬ rd S2 78 12 = 0 from fun e => hr2 (by rw [e]; decide))]
      split <;> rfl
    | some U =>
      obtain ⟨y1, y2, y3⟩ := r5 U hcp
      obtain ⟨z1, z2⟩ := cutP_le (by
        obtain ⟨x, r, e⟩ := cV_h hw.1
        rw [e]
        simp) hcp
      have ecl : cutL (stO es a :: L.map (stO es)) t = cutL (L.map (stO es)) U := by
        show (cutP (stO es a) t).bind _ = _
        rw [hcp]
        rfl
      rw [ecl]
      obtain ⟨T2, w1, w2, w3, w4, w5, w6⟩ := ih n (i + 1) S2 U (P ++ [a]) (by omega) (by omega) (by rw [List.length_append]; simp [hP]) (fun j hj => hL j (List.mem_cons_of_mem _ hj)) (by rw [F2.1 pb (by omega) (by omega) (by omega) (by omega)]; exact hc) (by rw [F2.2.2]; exact h78) (by rw [F2.1 39 (by decide) (by decide) (by decide) (by decide)]; exact h39) (by rw [F2.1 40 (by decide) (by decide) (by decide) (by decide)]; exact h40) y1 (by rw [F2.1 97 (by decide) (by decide) (by decide) (by decide), h97]; simp) y3 (by omega) l98 y2 (by omega)
      exact ⟨T2, w1, F2.trans w2, w3, w4, w5, w6⟩
end RDel177
