section
/-! The reference's del: sorts the paths, cuts them. -/
section RDel176
theorem d162 {k75 : SS → Int32 → Int32 → Nat → Int32 → Int32 → Option SS} {k112 : SS → Int32 → Int32 → Nat → Int32 → Int32 → Option SS} {pb : Nat} {v : Int} {s : List Int32} {es : List Mb} {l1 l2 : Int32} (hE : okE es) : ∀ (m j n : Nat) (S : SS), j + m = es.length → m < n → cat (S pb) 0 (5, v, s, ofL es) → rd S 78 12 = 0 → ∃ k162, b_del_l162 k75 k112 n S l1 l2 pb (Int32.ofNat es.length) (Int32.ofNat (smL (es.take j))) (Int32.ofNat j) = (if es.length ≤ 100 ∧ smL es ≤ 100 then b_del_l236 k75 k112 k162 10000 S l1 l2 pb (Int32.ofNat es.length) 0 else b_del_l236 k75 k112 k162 10000 (wr S 90 2 1) l1 l2 pb 0 0) := by
  have sm : ∀ l : List Mb, (∀ x ∈ l, cnt x ≤ 100) → smL l ≤ 100 * l.length := by
    intro l
    induction l with
    | nil => intro _; exact Nat.zero_le _
    | cons x l ih =>
      intro h
      have h1 := ih (fun y hy => h y (List.mem_cons_of_mem _ hy))
      have h2 := h x List.mem_cons_self
      unfold smL at h1 ⊢
      rw [List.map_cons, List.sum_cons, List.length_cons]
      omega
  intro m
  induction m with
  | zero =>
    intro j n S hj hn hc hr
    obtain ⟨n, rfl⟩ : ∃ j, n = j + 1 := ⟨n - 1, by omega⟩
    have hlen : es.length ≤ 4500 := by
      by_cases c : 0 < es.length
      · exact (ep_at hc c).2.2.2
      · omega
    have hs := sm es (fun x hx => (hE x hx).2)
    refine ⟨b_del_l162 k75 k112 n, ?_⟩
    rw [List.take_of_length_le (by omega)]
    show (if Int32.ofNat es.length ≤ Int32.ofNat j then (if (100 : Int32) < Int32.ofNat es.length then (if (rd S 78 12) = 0 then _ else _) else (if Int32.ofNat (smL es) ≤ (100 : Int32) then _ else (if (rd S 78 12) = 0 then _ else _))) else _) = _
    rw [if_pos ((i_le' (by omega) (by omega)).mpr (by omega)), if_pos hr]
    by_cases c : es.length ≤ 100
    · rw [if_neg (by rw [show (100 : Int32) = Int32.ofNat 100 from rfl, i_lt' (by omega) (by omega)]; omega)]
      by_cases d : smL es ≤ 100
      · rw [if_pos (by rw [show (100 : Int32) = Int32.ofNat 100 from rfl, i_le' (by omega) (by omega)]; exact d), if_pos ⟨c, d⟩]
      · rw [if_neg (by rw [show (100 : Int32) = Int32.ofNat 100 from rfl, i_le' (by omega) (by omega)]; exact d), if_neg (fun e => d e.2)]
    · rw [if_pos (by rw [show (100 : Int32) = Int32.ofNat 100 from rfl, i_lt' (by omega) (by omega)]; omega), if_neg (fun e => c e.1)]
  | succ m ih =>
    intro j n S hj hn hc hr
    obtain ⟨n, rfl⟩ : ∃ j, n = j + 1 := ⟨n - 1, by omega⟩
    have hjl : j < es.length := by omega
    obtain ⟨c1, c2, c3, c4⟩ := ep_at hc hjl
    have cm := ep_many hc hjl (hE _ (List.getElem_mem hjl)).1
    obtain ⟨k162, h⟩ := ih (j + 1) n S (by omega) (by omega) hc hr
    refine ⟨k162, ?_⟩
    rw [← h, smL_s hjl]
    show (if Int32.ofNat es.length ≤ Int32.ofNat j then _ else (if (rd S 78 12) = 0 then _ else _)) = _
    rw [if_neg (by rw [i_le' (by omega) (by omega)]; omega), if_pos hr, c2, o_bind, cm, o_bind, i_a1, Int32.ofNat_add (smL (es.take j))]
/-- in falling order -/
def dscE (es : List Mb) (L : List Nat) : Prop := L.Pairwise (fun a b => ¬ ltS (key 61 (es.getD a nulM).2) (key 61 (es.getD b nulM).2))
theorem ltS_asym {a b : List Int32} (h : ltS a b) : ¬ ltS b a := fun c => ltS_irr _ (ltS_trans h c)
theorem nlt_trans {a b c : List Int32} (h1 : ¬ ltS a b) (h2 : ¬ ltS b c) : ¬ ltS a c := by
  intro h
  rcases ltS_tri a b with e | e | e
  · exact h1 e
  · exact h2 (e ▸ h)
  · exact h2 (ltS_trans e h)
theorem iset_at {P Z : List Int32} {h v : Int32} (hl : P.length < 2147483648) : iset (P ++ h :: Z) (Int32.ofNat P.length) v = some (P ++ v :: Z) := by
  rw [i_set (by simp) hl]
  congr 1
  rw [List.set_append_right _ _ (Nat.le_refl _), Nat.sub_self]
  rfl
theorem iget_at {P Z : List Int32} {h : Int32} (hl : P.length < 2147483648) : iget (P ++ h :: Z) (Int32.ofNat P.length) = some h := by
  rw [iget_in (by simp) hl]
  congr 1
  rw [List.getElem_append_right (Nat.le_refl _)]
  simp
theorem d265 {k75 k112 : SS → Int32 → Int32 → Nat → Int32 → Int32 → Option SS} {k162 : SS → Int32 → Int32 → Nat → Int32 → Int32 → Int32 → Option SS} {k236 : SS → Int32 → Int32 → Nat → Int32 → Int32 → Option SS} {pb x : Nat} {v : Int} {s : List Int32} {es : List Mb} {l1 l2 l5 l7 : Int32} {post : List Int32} (hpb : 82 ≤ pb ∧ pb ≤ 89) (hd : ∀ y ∈ es, dV y.2 ≤ 59) (hx : x < es.length) : ∀ (k n : Nat) (S : SS) (A D : List Nat) (h : Int32), A.length = k → k < n → k ≤ 100 → (∀ j ∈ A, j < es.length) → cat (S pb) 0 (5, v, s, ofL es) → S 97 = A.map (fun j => Int32.ofNat (epC es j)) ++ h :: (D.map (fun j => Int32.ofNat (epC es j)) ++ post) → ∃ S' F, b_del_l265 k75 k112 k162 k236 n S l1 l2 pb l5 l7 (Int32.ofNat (epC es x)) (Int32.ofNat k) = k236 S' l1 l2 pb l5 (l7 + 1) ∧ (∀ a, a ≠ 97 → S' a = S a) ∧ S' 97 = F.map (fun j => Int32.ofNat (epC es j)) ++ post ∧ F.Perm (x :: (A ++ D)) ∧ (dscE es (A ++ D) → (∀ d ∈ D, ltS (key 61 (es.getD d nulM).2) (key 61 (es.getD x nulM).2)) → dscE es F) := by
  intro k
  induction k with
  | zero =>
    intro n S A D h hA hn hk hAl hc h97
    obtain ⟨n, rfl⟩ : ∃ j, n = j + 1 := ⟨n - 1, by omega⟩
    have : A = [] := List.eq_nil_of_length_eq_zero hA
    subst this
    have h97 : S 97 = [] ++ h :: (D.map (fun j => Int32.ofNat (epC es j)) ++ post) := h97
    refine ⟨up S 97 ([] ++ Int32.ofNat (epC es x) :: (D.map (fun j => Int32.ofNat (epC es j)) ++ post)), x :: D, ?_, fun a ha => up_ne ha, by rw [up_same]; rfl, List.Perm.refl _, fun hd1 hd2 => ?_⟩
    · show (if Int32.ofNat 0 ≤ 0 then _ else _) = _
      rw [if_pos (by decide), h97, show iset ([] ++ h :: (D.map (fun j => Int32.ofNat (epC es j)) ++ post)) (Int32.ofNat 0) (Int32.ofNat (epC es x)) = _ from iset_at (P := []) (by decide), o_bind]
    · exact List.pairwise_cons.mpr ⟨fun d hd' => ltS_asym (hd2 d hd'), hd1⟩
  | succ k ih =>
    intro n S A D h hA hn hk hAl hc h97
    obtain ⟨n, rfl⟩ : ∃ j, n = j + 1 := ⟨n - 1, by omega⟩
    obtain ⟨A', a, rfl⟩ : ∃ A' a, A = A' ++ [a] := ⟨A.dropLast, A.getLast (fun e => by rw [e] at hA; simp at hA), (List.dropLast_concat_getLast _).symm⟩
    have hA' : A'.length = k := by simpa using hA
    have ha : a < es.length := hAl a (by simp)
    obtain ⟨c1, c2, c3, c4⟩ := ep_at hc ha
    obtain ⟨e1, e2, e3, e4⟩ := ep_at hc hx
    obtain ⟨e, r1, r2⟩ := rcmp_val 61 70 (by decide) (S pb) (S pb) _ _ _ _ c1 e1 (by have := hd _ (List.getElem_mem ha); omega)
    rw [cmpK_key c1.2.1 e1.2.1] at r2
    have h97a : S 97 = A'.map (fun j => Int32.ofNat (epC es j)) ++ Int32.ofNat (epC es a) :: (h :: (D.map (fun j => Int32.ofNat (epC es j)) ++ post)) := by rw [h97]; simp
    have h97b : S 97 = (A' ++ [a]).map (fun j => Int32.ofNat (epC es j)) ++ h :: (D.map (fun j => Int32.ofNat (epC es j)) ++ post) := h97
    have em : Int32.ofNat (k + 1) - 1 = Int32.ofNat k := by
      have := i_subN (a := k + 1) (b := 1) (by omega) (by omega)
      rw [Nat.add_sub_cancel] at this
      exact this
    have em2 : Int32.ofNat (k + 1) + (-1) = Int32.ofNat k := by
      apply Int32.toInt_inj.mp
      have a1 : (Int32.ofNat (k + 1)).toInt = ((k + 1 : Nat) : Int) := i_of (by omega)
      have a2 : (-1 : Int32).toInt = -1 := rfl
      rw [i_add (by rw [a1, a2]; omega) (by rw [a1, a2]; omega), a1, a2, i_of (by omega)]
      omega
    have ig : iget (S 97) (Int32.ofNat k) = some (Int32.ofNat (epC es a)) := by
      rw [h97a]
      have := iget_at (P := A'.map (fun j => Int32.ofNat (epC es j))) (h := Int32.ofNat (epC es a)) (Z := h :: (D.map (fun j => Int32.ofNat (epC es j)) ++ post)) (by rw [List.length_map]; omega)
      rw [List.length_map, hA'] at this
      exact this
    have is : ∀ w, iset (S 97) (Int32.ofNat (k + 1)) w = some ((A' ++ [a]).map (fun j => Int32.ofNat (epC es j)) ++ w :: (D.map (fun j => Int32.ofNat (epC es j)) ++ post)) := by
      intro w
      rw [h97b]
      have := iset_at (P := (A' ++ [a]).map (fun j => Int32.ofNat (epC es j))) (h := h) (v := w) (Z := D.map (fun j => Int32.ofNat (epC es j)) ++ post) (by rw [List.length_map]; omega)
      rw [List.length_map, hA] at this
      exact this
    have head : b_del_l265 k75 k112 k162 k236 (n + 1) S l1 l2 pb l5 l7 (Int32.ofNat (epC es x)) (Int32.ofNat (k + 1)) = (if 0 ≤ e then k236 (up S 97 ((A' ++ [a]).map (fun j => Int32.ofNat (epC es j)) ++ Int32.ofNat (epC es x) :: (D.map (fun j => Int32.ofNat (epC es j)) ++ post))) l1 l2 pb l5 (l7 + 1) else b_del_l265 k75 k112 k162 k236 n (up S 97 ((A' ++ [a]).map (fun j => Int32.ofNat (epC es j)) ++ Int32.ofNat (epC es a) :: (D.map (fun j => Int32.ofNat (epC es j)) ++ post))) l1 l2 pb l5 l7 (Int32.ofNat (epC es x)) (Int32.ofNat k)) := by
      show (if Int32.ofNat (k + 1) ≤ 0 then _ else _) = _
      rw [if_neg (by rw [show (0 : Int32) = Int32.ofNat 0 from rfl, i_le' (by omega) (by omega)]; omega), em, ig, o_bind, r1, o_bind, is, o_bind, is, o_bind, em2]
    rw [head]
    have ga : es.getD a nulM = es[a] := getD_in _ ha
    have gx : es.getD x nulM = es[x] := getD_in _ hx
    by_cases he : 0 ≤ e
    · rw [if_pos he]
      rw [r2, cmpS_ge, ← ga, ← gx] at he
      refine ⟨_, (A' ++ [a]) ++ x :: D, rfl, fun b hb => up_ne hb, by rw [up_same]; simp, List.perm_middle, fun hd1 hd2 => ?_⟩
      obtain ⟨p1, p2, p3⟩ := List.pairwise_append.mp hd1
      refine List.pairwise_append.mpr ⟨p1, List.pairwise_cons.mpr ⟨fun d hd' => ltS_asym (hd2 d hd'), p2⟩, fun b hb c hc' => ?_⟩
      have hbx : ¬ ltS (key 61 (es.getD b nulM).2) (key 61 (es.getD x nulM).2) := by
        rcases List.mem_append.mp hb with g | g
        · obtain ⟨-, -, q3⟩ := List.pairwise_append.mp p1
          exact nlt_trans (q3 b g a (by simp)) he
        · rw [List.mem_singleton.mp g]
          exact he
      rcases List.mem_cons.mp hc' with g | g
      · rw [g]; exact hbx
      · exact p3 b hb c g
    · rw [if_neg he]
      rw [r2, cmpS_ge, ← ga, ← gx, Classical.not_not] at he
      obtain ⟨S', F, j1, j2, j3, j4, j5⟩ := ih n (up S 97 ((A' ++ [a]).map (fun j => Int32.ofNat (epC es j)) ++ Int32.ofNat (epC es a) :: (D.map (fun j => Int32.ofNat (epC es j)) ++ post))) A' (a :: D) (Int32.ofNat (epC es a)) hA' (by omega) (by omega) (fun j hj => hAl j (List.mem_append_left _ hj)) (by rw [up_ne (by omega)]; exact hc) (by rw [up_same]; simp)
      have eAD : A' ++ a :: D = A' ++ [a] ++ D := by simp
      rw [eAD] at j4 j5
      refine ⟨S', F, j1, fun b hb => by rw [j2 b hb, up_ne hb], j3, j4, fun hd1 hd2 => j5 hd1 (fun d hd' => ?_)⟩
      rcases List.mem_cons.mp hd' with g | g
      · rw [g]; exact he
      · exact hd2 d g
/-- how the sorting ends -/
def dEnd (k75 k112 : SS → Int32 → Int32 → Nat → Int32 → Int32 → Option SS) (k162 : SS → Int32 → Int32 → Nat → Int32 → Int32 → Int32 → Option SS) (k236 : SS → Int32 → Int32 → Nat → Int32 → Int32 → Option SS) (S : SS) (l1 l2 : Int32) (a4 : Nat) (l5 : Int32) : Option SS := (if (rd S 90 2) = 0 then ((iget sh81 l2).bind fun b25 => ((q_copy S b25.toNatClampNeg 0).bind fun r26 => b_del_l355 k75 k112 k162 k236 10000 r26 l1 a4 l5 0)) else b_del_l355 k75 k112 k162 k236 10000 S l1 a4 l5 0)
theorem d236_e {k75 k112 : SS → Int32 → Int32 → Nat → Int32 → Int32 → Option SS} {k162 : SS → Int32 → Int32 → Nat → Int32 → Int32 → Int32 → Option SS} {n : Nat} {S : SS} {l1 l2 l5 l7 : Int32} {a4 : Nat} (h : l5 ≤ l7 ∨ ¬ rd S 78 12 = 0) : b_del_l236 k75 k112 k162 (n + 1) S l1 l2 a4 l5 l7 = dEnd k75 k112 k162 (b_del_l236 k75 k112 k162 n) S l1 l2 a4 l5 := by
  show (if l5 ≤ l7 then dEnd k75 k112 k162 (b_del_l236 k75 k112 k162 n) S l1 l2 a4 l5 else (if (rd S 78 12) = 0 then _ else dEnd k75 k112 k162 (b_del_l236 k75 k112 k162 n) S l1 l2 a4 l5)) = _
  by_cases c : l5 ≤ l7
  · rw [if_pos c]
  · rw [if_neg c, if_neg (h.resolve_left c)]
theorem d236 {k75 k112 : SS → Int32 → Int32 → Nat → Int32 → Int32 → Option SS} {k162 : SS → Int32 → Int32 → Nat → Int32 → Int32 → Int32 → Option SS} {pb : Nat} {v : Int} {s : List Int32} {es : List Mb} {l1 l2 : Int32} (hpb : 82 ≤ pb ∧ pb ≤ 89) (hd : ∀ y ∈ es, dV y.2 ≤ 59) (hN : es.length ≤ 100) : ∀ (m j n : Nat) (S : SS) (R : List Nat) (post : List Int32), j + m = es.length → m < n → cat (S pb) 0 (5, v, s, ofL es) → rd S 78 12 = 0 → R.Perm (List.range j) → dscE es R → S 97 = R.map (fun j => Int32.ofNat (epC es j)) ++ post → m < post.length → ∃ S' R' post' k236, b_del_l236 k75 k112 k162 n S l1 l2 pb (Int32.ofNat es.length) (Int32.ofNat j) = dEnd k75 k112 k162 k236 S' l1 l2 pb (Int32.ofNat es.length) ∧ (∀ a, a ≠ 97 → S' a = S a) ∧ R'.Perm (List.range es.length) ∧ dscE es R' ∧ S' 97 = R'.map (fun j => Int32.ofNat (epC es j)) ++ post' ∧ (S' 97).length = (S 97).length := by
  intro m
  induction m with
  | zero =>
    intro j n S R post hj hn hc hr hp hs h97 hpl
    obtain ⟨n, rfl⟩ : ∃ j, n = j + 1 := ⟨n - 1, by omega⟩
    have : j = es.length := by omega
    subst this
    exact ⟨S, R, post, _, d236_e (Or.inl ((i_le' (by omega) (by omega)).mpr (Nat.le_refl _))), fun _ _ => rfl, hp, hs, h97, rfl⟩
  | succ m ih =>
    intro j n S R post hj hn hc hr hp hs h97 hpl
    obtain ⟨n, rfl⟩ : ∃ j, n = j + 1 := ⟨n - 1, by omega⟩
    have hjl : j < es.length := by omega
    obtain ⟨c1, c2, c3, c4⟩ := ep_at hc hjl
    have hRl : R.length = j := by rw [hp.length_eq, List.length_range]
    cases post with
    | nil => simp at hpl
    | cons h post =>
      obtain ⟨S1, F, j1, j2, j3, j4, j5⟩ := d265 (k75 := k75) (k112 := k112) (k162 := k162) (k236 := b_del_l236 k75 k112 k162 n) (l1 := l1) (l2 := l2) (l5 := Int32.ofNat es.length) (l7 := Int32.ofNat j) (post := post) hpb hd hjl j 10000 S R [] h hRl (by omega) (by omega) (fun i hi => by have := List.mem_range.mp (hp.mem_iff.mp hi); omega) hc (by rw [h97]; rfl)
      rw [List.append_nil] at j4 j5
      have hF : F.Perm (List.range (j + 1)) := by
        refine j4.trans ?_
        rw [List.range_succ]
        exact ((List.Perm.cons j hp).trans (List.perm_append_singleton j (List.range j)).symm)
      obtain ⟨S', R', post', k236, q1, q2, q3, q4, q5, q6⟩ := ih (j + 1) n S1 F post (by omega) (by omega) (by rw [j2 pb (by omega)]; exact hc) (by unfold rd at hr ⊢; rw [j2 78 (by decide)]; exact hr) hF (j5 hs (fun d hd' => by cases hd')) j3 (by simp only [List.length_cons] at hpl; omega)
      refine ⟨S', R', post', k236, ?_, fun a ha => by rw [q2 a ha, j2 a ha], q3, q4, q5, ?_⟩
      · show (if Int32.ofNat es.length ≤ Int32.ofNat j then _ else (if (rd S 78 12) = 0 then _ else _)) = _
        rw [if_neg (by rw [i_le' (by omega) (by omega)]; omega), if_pos hr, c2, o_bind, j1, i_a1]
        exact q1
      · rw [q6, j3, h97]
        simp only [List.length_append, List.length_map, List.length_cons]
        rw [hF.length_eq, hRl, List.length_range]
        omega
end RDel176
end

section
/-! The reference's del, whole. -/
section RDel177
def dCut (k355 : SS → Int32 → Nat → Int32 → Int32 → Option SS) (S : SS) (l1 : Int32) (a4 : Nat) (l5 l7 : Int32) : Option SS := ((q_clear S).bind fun r33 => ((iget ((wr r33 78 19 (Int32.ofNat a4)) 97) l7).bind fun b36 => ((r_next ((wr r33 78 19 (Int32.ofNat a4)) a4) b36).bind fun r37 => ((iget ((wr (wr r33 78 19 (Int32.ofNat a4)) 78 21 r37) 97) l7).bind fun b40 => (if (b40 + 2) = (rd (wr (wr r33 78 19 (Int32.ofNat a4)) 78 21 r37) 78 21) then ((q_simple (wr (wr r33 78 19 (Int32.ofNat a4)) 78 21 r37) 0).bind fun r42 => k355 r42 l1 a4 l5 (l7 + 1)) else ((b_take 70 (wr (wr r33 78 19 (Int32.ofNat a4)) 78 21 r37) 98 0 (b40 + 2)).bind fun r44 => k355 r44 l1 a4 l5 (l7 + 1)))))))
theorem d372 {k75 k112 : SS → Int32 → Int32 → Nat → Int32 → Int32 → Option SS} {k162 : SS → Int32 → Int32 → Nat → Int32 → Int32 → Int32 → Option SS} {k236 : SS → Int32 → Int32 → Nat → Int32 → Int32 → Option SS} {k355 : SS → Int32 → Nat → Int32 → Int32 → Option SS} {pb : Nat} {l1 l5 l7 : Int32} {C j : List Int32} (hC : C.length ≤ 9000) : ∀ (m i n : Nat) (S : SS) (z : List Int32), i + m = C.length → m < n → S 91 = C ++ j → rd S 90 1 = Int32.ofNat C.length → S 98 = C.take i ++ z → (S 98).length = 9000 → ∃ S', b_del_l372 k75 k112 k162 k236 k355 n S l1 pb l5 l7 (Int32.ofNat i) = dCut k355 S' l1 pb l5 l7 ∧ (∀ a, a ≠ 98 → S' a = S a) ∧ (∃ z, S' 98 = C ++ z) ∧ (S' 98).length = 9000 := by
  intro m
  induction m with
  | zero =>
    intro i n S z hi hn h91 h90 h98 hl
    obtain ⟨n, rfl⟩ : ∃ j, n = j + 1 := ⟨n - 1, by omega⟩
    refine ⟨S, ?_, fun _ _ => rfl, ⟨z, by rw [h98, List.take_of_length_le (by omega)]⟩, hl⟩
    show (if (rd S 90 1) ≤ Int32.ofNat i then dCut k355 S l1 pb l5 l7 else _) = _
    rw [h90, if_pos ((i_le' (by omega) (by omega)).mpr (by omega))]
  | succ m ih =>
    intro i n S z hi hn h91 h90 h98 hl
    obtain ⟨n, rfl⟩ : ∃ j, n = j + 1 := ⟨n - 1, by omega⟩
    have hil : i < C.length := by omega
    have hti : (C.take i).length = i := by rw [List.length_take]; omega
    cases z with
    | nil => rw [h98, List.append_nil, hti] at hl; omega
    | cons h z =>
      have is : iset (S 98) (Int32.ofNat i) C[i] = some (C.take i ++ C[i] :: z) := by
        rw [h98]
        have := iset_at (P := C.take i) (h := h) (v := C[i]) (Z := z) (by omega)
        rw [hti] at this
        exact this
      have ig : iget (S 91) (Int32.ofNat i) = some C[i] := by
        rw [h91, iget_in (by rw [List.length_append]; omega) (by omega), List.getElem_append_left hil]
      have e98 : C.take i ++ C[i] :: z = C.take (i + 1) ++ z := by rw [List.take_succ_eq_append_getElem hil, List.append_assoc]; rfl
      obtain ⟨S', j1, j2, j3, j4⟩ := ih (i + 1) n (up S 98 (C.take (i + 1) ++ z)) z (by omega) (by omega) (by rw [up_ne (by decide)]; exact h91) (by rw [rd_up (by decide)]; exact h90) (by rw [up_same]) (by
        rw [up_same, ← e98]
        rw [h98] at hl
        simp only [List.length_append, List.length_cons] at hl ⊢
        exact hl)
      refine ⟨S', ?_, fun a ha => by rw [j2 a ha, up_ne ha], j3, j4⟩
      show (if (rd S 90 1) ≤ Int32.ofNat i then _ else ((iget (S 91) (Int32.ofNat i)).bind fun b46 => ((iset (S 98) (Int32.ofNat i) b46).bind fun z47 => b_del_l372 k75 k112 k162 k236 k355 n (up S 98 z47) l1 pb l5 l7 (Int32.ofNat i + 1)))) = _
      rw [h90, if_neg (by rw [i_le' (by omega) (by omega)]; omega), ig, o_bind, is, o_bind, i_a1, e98]
      exact j1
/-- what a round of cutting leaves alone -/
def frC (S S' : SS) : Prop := (∀ a, a ≠ 78 → a ≠ 90 → a ≠ 91 → a ≠ 98 → S' a = S a) ∧ (∀ k, k = 0 ∨ k = 1 ∨ k = 3 ∨ k = 4 → rd S' 78 k = rd S 78 k) ∧ (S' 78).length = (S 78).length
theorem frC.trans {S S1 S2 : SS} (a : frC S S1) (b : frC S1 S2) : frC S S2 := ⟨fun x h1 h2 h3 h4 => (b.1 x h1 h2 h3 h4).trans (a.1 x h1 h2 h3 h4), fun k h => (b.2.1 k h).trans (a.2.1 k h), b.2.2.trans a.2.2⟩
theorem frC_3 {S S' : SS} (h : fr3 S S') : frC S S' := ⟨fun a h1 h2 h3 _ => h.1 a h1 h2 h3, fun k hk => h.2.1 k (by omega) (by omega) (by omega), h.2.2⟩
theorem dcut {k355 : SS → Int32 → Nat → Int32 → Int32 → Option SS} {pb a i : Nat} {v : Int} {s : List Int32} {es : List Mb} {l1 l5 : Int32} {S : SS} {t : Vl} {P L : List Nat} {post z : List Int32} (hpb : 82 ≤ pb ∧ pb ≤ 89) (ha : a < es.length) (hE : okE es) (hc : cat (S pb) 0 (5, v, s, ofL es)) (h78 : (S 78).length = 22) (h90 : (S 90).length = 3) (h91 : (S 91).length = 9000) (h39 : S 39 = mp_aS) (h40 : S 40 = mp_aE) (hr : rd S 78 12 = 0) (hi : P.length = i) (hi2 : i ≤ 100) (h97 : S 97 = P.map (fun j => Int32.ofNat (epC es j)) ++ Int32.ofNat (epC es a) :: (L.map (fun j => Int32.ofNat (epC es j)) ++ post)) (h98 : S 98 = cV t ++ z) (l98 : (S 98).length = 9000) (hw : wV t) (hd : dV t ≤ 60) : ∃ S', dCut k355 S l1 pb l5 (Int32.ofNat i) = k355 S' l1 pb l5 (Int32.ofNat (i + 1)) ∧ frC S S' ∧ S' 98 = S 98 ∧ (∃ C', OutV S' C') ∧ (∀ T, cutP (stO es a) t = some T → rd S' 78 12 = 0 ∧ wV T ∧ OutV S' (cV T)) ∧ (cutP (stO es a) t = none → ¬ rd S' 78 12 ≤ 0) := by
  obtain ⟨c1, -, c3, c4⟩ := ep_at hc ha
  have e5 := (hE _ (List.getElem_mem ha)).1
  have est : stO es a = toL (es[a]).2.2.2.2 := by unfold stO; rw [getD_in _ ha]
  obtain ⟨ls, hls⟩ : ∃ ls, ls = stO es a := ⟨_, rfl⟩
  have c1' := c1
  rw [vl5 e5, ← est, ← hls] at c1'
  obtain ⟨n1, n2, n3⟩ := c1'.next
  obtain ⟨h9, hwp, r, hdp⟩ := id c1'
  have elen : (cV (es[a]).2).length = (cV (5, (es[a]).2.2.1, (es[a]).2.2.2.1, ofL ls)).length := by
    conv => lhs; rw [vl5 e5, ← est, ← hls]
  have e5l := cV_l5 (es[a]).2.2.1 (es[a]).2.2.2.1 ls
  obtain ⟨E, hEE⟩ : ∃ E, E = epC es a + (cV (5, (es[a]).2.2.1, (es[a]).2.2.2.1, ofL ls)).length := ⟨_, rfl⟩
  rw [← hEE] at n1 n2
  have hE9 : E ≤ 9000 := by omega
  obtain ⟨S1, hS1⟩ : ∃ S1, S1 = wr (wr S 90 1 0) 90 2 0 := ⟨_, rfl⟩
  obtain ⟨S3, hS3⟩ : ∃ S3, S3 = wr (wr S1 78 19 (Int32.ofNat pb)) 78 21 (Int32.ofNat E) := ⟨_, rfl⟩
  have f1 : ∀ b, b ≠ 90 → S1 b = S b := fun b hb => by rw [hS1, wr_ne hb, wr_ne hb]
  have f3 : ∀ b, b ≠ 90 → b ≠ 78 → S3 b = S b := fun b hb hb2 => by rw [hS3, wr_ne hb2, wr_ne hb2, f1 b hb]
  have l1_78 : (S1 78).length = 22 := by rw [f1 78 (by decide)]; exact h78
  have l3_78 : (S3 78).length = 22 := by rw [hS3, wr_len, wr_len]; exact l1_78
  have k3 : ∀ k, k ≠ 19 → k ≠ 21 → rd S3 78 k = rd S 78 k := fun k k1 k2 => by rw [hS3, rd_wr_j (fun e => k2 e.symm), rd_wr_j (fun e => k1 e.symm)]; unfold rd; rw [f1 78 (by decide)]
  have k19 : rd S3 78 19 = Int32.ofNat pb := by rw [hS3, rd_wr_j (by decide), rd_wr (by rw [l1_78]; decide)]
  have k21 : rd S3 78 21 = Int32.ofNat E := by rw [hS3, rd_wr (by rw [wr_len, l1_78]; decide)]
  have o3 : OutV S3 [] := by
    have e90 : S3 90 = S1 90 := by rw [hS3, wr_ne (by decide), wr_ne (by decide)]
    refine ⟨by rw [f3 91 (by decide) (by decide)]; exact h91, by rw [e90, hS1, wr_len, wr_len]; exact h90, fun _ => ⟨⟨_, rfl⟩, ?_, ?_⟩, fun c => absurd c (by decide)⟩
    · unfold rd; rw [e90]; show rd S1 90 1 = _; rw [hS1, rd_wr_j (by decide), rd_wr (by rw [h90]; decide)]; rfl
    · unfold rd; rw [e90]; show rd S1 90 2 = _; rw [hS1, rd_wr (by rw [wr_len, h90]; decide)]
  have ig : iget (S 97) (Int32.ofNat i) = some (Int32.ofNat (epC es a)) := by
    rw [h97]
    have := iget_at (P := P.map (fun j => Int32.ofNat (epC es j))) (h := Int32.ofNat (epC es a)) (Z := L.map (fun j => Int32.ofNat (epC es j)) ++ post) (by rw [List.length_map]; omega)
    rw [List.length_map, hi] at this
    exact this
  have ea2 : Int32.ofNat (epC es a) + 2 = Int32.ofNat (epC es a + 2) := (Int32.ofNat_add (epC es a) 2).symm
  have head : dCut k355 S l1 pb l5 (Int32.ofNat i) = (if Int32.ofNat (epC es a + 2) = Int32.ofNat E then ((q_simple S3 0).bind fun r42 => k355 r42 l1 pb l5 (Int32.ofNat (i + 1))) else ((b_take 70 S3 98 0 (Int32.ofNat (epC es a + 2))).bind fun r44 => k355 r44 l1 pb l5 (Int32.ofNat (i + 1)))) := by
    unfold dCut q_clear
    rw [o_bind, ← hS1, wr_ne (show 97 ≠ 78 by decide), f1 97 (by decide), ig, o_bind, wr_ne (show pb ≠ 78 by omega), f1 pb (by omega), n1, o_bind, ← hS3, f3 97 (by decide) (by decide), ig, o_bind, ea2, k21, i_a1]
  have hF3 : frC S S3 := ⟨fun b b1 b2 _ _ => f3 b b2 b1, fun k hk => k3 k (by omega) (by omega), by rw [l3_78, h78]⟩
  rw [head]
  by_cases hne : ls = []
  · have eE : E = epC es a + 2 := by rw [hEE, e5l, hne]; rfl
    rw [if_pos (by rw [eE])]
    obtain ⟨S4, q1, q2, q3⟩ := osimple o3 0
    rw [q1, o_bind]
    have ecp : cutP (stO es a) t = some vNull := by rw [← hls, hne]; rfl
    rw [ecp]
    refine ⟨S4, rfl, hF3.trans (frC_3 (fr3_O q3)), by rw [q3 98 (by decide) (by decide), f3 98 (by decide) (by decide)], ⟨_, q2⟩, fun T hT => ?_, fun hn => by cases hn⟩
    cases hT
    refine ⟨by rw [frO_12 q3, k3 12 (by decide) (by decide)]; exact hr, ?_, q2⟩
    exact vNull_ok
  · have hfl : 0 < (blks false ls).flatten.length := by
      have a1 := flat2 _ (blks_h (b := false) hwp.kids)
      have a2 := blks_len false ls
      simp only [Bool.false_eq_true, if_false] at a2
      have : ls.length ≠ 0 := fun c => hne (List.eq_nil_of_length_eq_zero c)
      omega
    rw [if_neg (by rw [i_inj (by omega) (by omega)]; omega)]
    have hP : prT S3 98 pb E := ⟨k19, k21, by rw [f3 pb (by omega) (by omega)]; exact h9, by rw [f3 39 (by decide) (by decide)]; exact h39, by rw [f3 40 (by decide) (by decide)]; exact h40, l3_78, by decide, hpb, hE9⟩
    have hA : atT S3 pb (epC es a + 2) E ls := by
      refine ⟨hwp.kids, by omega, r, ?_⟩
      rw [f3 pb (by omega) (by omega), ← List.drop_drop, hdp, cV_5]
      rfl
    obtain ⟨S4, q1, q2, C', q3, q4, q5⟩ := take_val (aa := 98) (pb := pb) (E := E) 70 ls hne S3 [] 0 t (epC es a + 2) hP hA o3 (by rw [k3 12 (by decide) (by decide)]; exact hr) (by rw [f3 98 (by decide) (by decide)]; exact ⟨by omega, hw, z, by rw [List.drop_zero]; exact h98⟩) (by omega) (by omega)
    have q1 : b_take 70 S3 98 0 (Int32.ofNat (epC es a + 2)) = some S4 := q1
    rw [q1, o_bind]
    have ecp : cutP (stO es a) t = cutV (ls.map fun m => m.2) t none := by rw [← hls]; unfold cutP; rw [if_neg hne]
    rw [ecp]
    refine ⟨S4, rfl, hF3.trans (frC_3 q2), by rw [q2.1 98 (by decide) (by decide) (by decide), f3 98 (by decide) (by decide)], ⟨_, q3⟩, fun T hT => ?_, q5⟩
    obtain ⟨y1, y2, y3⟩ := q4 T hT
    exact ⟨y1, y2, by rw [← y3]; simpa using q3⟩
theorem d355 {k75 k112 : SS → Int32 → Int32 → Nat → Int32 → Int32 → Option SS} {k162 : SS → Int32 → Int32 → Nat → Int32 → Int32 → Int32 → Option SS} {k236 : SS → Int32 → Int32 → Nat → Int32 → Int32 → Option SS} {pb : Nat} {v : Int} {s : List Int32} {es : List Mb} {l1 : Int32} {post : List Int32} (hpb : 82 ≤ pb ∧ pb ≤ 89) (hE : okE es) (hN : es.length ≤ 100) : ∀ (L : List Nat) (n i : Nat) (S : SS) (t : Vl) (P : List Nat), i + L.length = es.length → L.length < n → P.length = i → (∀ j ∈ L, j < es.length) → cat (S pb) 0 (5, v, s, ofL es) → (S 78).length = 22 → S 39 = mp_aS → S 40 = mp_aE → rd S 78 12 = 0 → S 97 = P.map (fun j => Int32.ofNat (epC es j)) ++ (L.map (fun j => Int32.ofNat (epC es j)) ++ post) → OutV S (cV t) → (cV t).length ≤ 9000 → (S 98).length = 9000 → wV t → dV t ≤ 60 → ∃ T2, b_del_l355 k75 k112 k162 k236 n S l1 pb (Int32.ofNat es.length) (Int32.ofNat i) = ((b_finish T2 l1 2 3).bind fun r => some r) ∧ frC S T2 ∧ (T2 98).length = 9000 ∧ (T2 91).length = 9000 ∧ (∀ T, cutL (L.map (stO es)) t = some T → rd T2 78 12 = 0 ∧ wV T ∧ OutV T2 (cV T)) ∧ (cutL (L.map (stO es)) t = none → ¬ rd T2 78 12 ≤ 0) := by
  intro L
  induction L with
  | nil =>
    intro n i S t P hi hn hP hL hc h78 h39 h40 hr h97 ho h9 h98 hw hd
    obtain ⟨n, rfl⟩ : ∃ j, n = j + 1 := ⟨n - 1, by omega⟩
    refine ⟨S, ?_, ⟨fun _ _ _ _ _ => rfl, fun _ _ => rfl, rfl⟩, h98, ho.1, fun T hT => ?_, fun hn => by cases hn⟩
    · show (if Int32.ofNat es.length ≤ Int32.ofNat i then _ else _) = _
      rw [if_pos ((i_le' (by omega) (by omega)).mpr (by simp only [List.length_nil] at hi; omega))]
    · cases hT
      exact ⟨hr, hw, ho⟩
  | cons a L ih =>
    intro n i S t P hi hn hP hL hc h78 h39 h40 hr h97 ho h9 h98 hw hd
    obtain ⟨n, rfl⟩ : ∃ j, n = j + 1 := ⟨n - 1, by omega⟩
    simp only [List.length_cons] at hi hn
    obtain ⟨⟨j, h91⟩, h90, -⟩ := ho.2.2.1 h9
    obtain ⟨S1, q1, q2, ⟨z, q3⟩, q4⟩ := d372 (k75 := k75) (k112 := k112) (k162 := k162) (k236 := k236) (k355 := b_del_l355 k75 k112 k162 k236 n) (pb := pb) (l1 := l1) (l5 := Int32.ofNat es.length) (l7 := Int32.ofNat i) h9 (cV t).length 0 10000 S (S 98) (by omega) (by omega) h91 h90 rfl h98
    obtain ⟨S2, r1, r2, r3, ⟨C', r4⟩, r5, r6⟩ := dcut (k355 := b_del_l355 k75 k112 k162 k236 n) (l1 := l1) (l5 := Int32.ofNat es.length) (P := P) (L := L) (post := post) (z := z) hpb (hL a List.mem_cons_self) hE (show cat (S1 pb) 0 (5, v, s, ofL es) by rw [q2 pb (by omega)]; exact hc) (by rw [q2 78 (by decide)]; exact h78) (by rw [q2 90 (by decide)]; exact ho.2.1) (by rw [q2 91 (by decide)]; exact ho.1) (by rw [q2 39 (by decide)]; exact h39) (by rw [q2 40 (by decide)]; exact h40) (by unfold rd at hr ⊢; rw [q2 78 (by decide)]; exact hr) hP (by omega) (by rw [q2 97 (by decide), h97]; rfl) q3 q4 hw hd
    have F1 : frC S S1 := ⟨fun a _ _ _ h => q2 a h, fun k _ => by unfold rd; rw [q2 78 (by decide)], by rw [q2 78 (by decide)]⟩
    have F2 := F1.trans r2
    have l98 : (S2 98).length = 9000 := by rw [r3]; exact q4
    have step : b_del_l355 k75 k112 k162 k236 (n + 1) S l1 pb (Int32.ofNat es.length) (Int32.ofNat i) = b_del_l355 k75 k112 k162 k236 n S2 l1 pb (Int32.ofNat es.length) (Int32.ofNat (i + 1)) := by
      show (if Int32.ofNat es.length ≤ Int32.ofNat i then _ else (if (rd S 78 12) = 0 then _ else _)) = _
      rw [if_neg (by rw [i_le' (by omega) (by omega)]; omega), if_pos hr]
      exact q1.trans r1
    rw [step, List.map_cons]
    cases hcp : cutP (stO es a) t with
    | none =>
      have hr2 := r6 hcp
      obtain ⟨n, rfl⟩ : ∃ j, n = j + 1 := ⟨n - 1, by omega⟩
      have ecl : cutL (stO es a :: L.map (stO es)) t = none := by
        show (cutP (stO es a) t).bind _ = none
        rw [hcp]
        rfl
      rw [ecl]
      refine ⟨S2, ?_, F2, l98, r4.1, fun T hT => (by cases hT), fun _ => hr2⟩
      show (if Int32.ofNat es.length ≤ Int32.ofNat (i + 1) then ((b_finish S2 l1 2 3).bind fun r29 => some r29) else (if (rd S2 78 12) = 0 then _ else ((b_finish S2 l1 2 3).bind fun r49 => some r49))) = _
      rw [if_neg (show ¬ rd S2 78 12 = 0 from fun e => hr2 (by rw [e]; decide))]
      split <;> rfl
    | some U =>
      obtain ⟨y1, y2, y3⟩ := r5 U hcp
      obtain ⟨z1, z2⟩ := cutP_le (by
        obtain ⟨x, r, e⟩ := cV_h hw.1
        rw [e]
        simp) hcp
      have ecl : cutL (stO es a :: L.map (stO es)) t = cutL (L.map (stO es)) U := by
        show (cutP (stO es a) t).bind _ = _
        rw [hcp]
        rfl
      rw [ecl]
      obtain ⟨T2, w1, w2, w3, w4, w5, w6⟩ := ih n (i + 1) S2 U (P ++ [a]) (by omega) (by omega) (by rw [List.length_append]; simp [hP]) (fun j hj => hL j (List.mem_cons_of_mem _ hj)) (by rw [F2.1 pb (by omega) (by omega) (by omega) (by omega)]; exact hc) (by rw [F2.2.2]; exact h78) (by rw [F2.1 39 (by decide) (by decide) (by decide) (by decide)]; exact h39) (by rw [F2.1 40 (by decide) (by decide) (by decide) (by decide)]; exact h40) y1 (by rw [F2.1 97 (by decide) (by decide) (by decide) (by decide), h97]; simp) y3 (by omega) l98 y2 (by omega)
      exact ⟨T2, w1, F2.trans w2, w3, w4, w5, w6⟩
end RDel177
end

section
/-! The call del. -/
section Del178
theorem l355_r {k75 k112 : SS → Int32 → Int32 → Nat → Int32 → Int32 → Option SS} {k162 : SS → Int32 → Int32 → Nat → Int32 → Int32 → Int32 → Option SS} {k236 : SS → Int32 → Int32 → Nat → Int32 → Int32 → Option SS} {n : Nat} {S : SS} {l1 l5 l7 : Int32} {a4 : Nat} (h : l5 ≤ l7 ∨ ¬ rd S 78 12 = 0) : b_del_l355 k75 k112 k162 k236 (n + 1) S l1 a4 l5 l7 = ((b_finish S l1 2 3).bind fun r => some r) := by
  show (if l5 ≤ l7 then ((b_finish S l1 2 3).bind fun r29 => some r29) else (if (rd S 78 12) = 0 then _ else ((b_finish S l1 2 3).bind fun r49 => some r49))) = _
  by_cases c : l5 ≤ l7
  · rw [if_pos c]
  · rw [if_neg c, if_neg (h.resolve_left c)]
theorem l112_r {k75 : SS → Int32 → Int32 → Nat → Int32 → Int32 → Option SS} {n : Nat} {S : SS} {l1 l2 l5 l6 : Int32} {a4 : Nat} (h : l5 ≤ l6 ∨ ¬ rd S 78 12 = 0) : b_del_l112 k75 (n + 1) S l1 l2 a4 l5 l6 = b_del_l162 k75 (b_del_l112 k75 n) 10000 S l1 l2 a4 l5 0 0 := by
  show (if l5 ≤ l6 then b_del_l162 k75 (b_del_l112 k75 n) 10000 S l1 l2 a4 l5 0 0 else (if (rd S 78 12) = 0 then _ else b_del_l162 k75 (b_del_l112 k75 n) 10000 S l1 l2 a4 l5 0 0)) = _
  by_cases c : l5 ≤ l6
  · rw [if_pos c]
  · rw [if_neg c, if_neg (h.resolve_left c)]
theorem l75_0 {n : Nat} {S : SS} {l1 l2 l5 l6 : Int32} {a4 : Nat} (h : l5 ≤ l6) : b_del_l75 (n + 1) S l1 l2 a4 l5 l6 = b_del_l112 (b_del_l75 n) 10000 S l1 l2 a4 l5 0 := by
  show (if l5 ≤ l6 then _ else _) = _
  rw [if_pos h]
theorem bdel_val {T0 : SS} {n0 n1 n2 : Nat} {t pt : Vl} (l78 : (T0 78).length = 22) (l90 : (T0 90).length = 3) (l91 : (T0 91).length = 9000) (l97 : (T0 97).length = 4200) (l98 : (T0 98).length = 9000) (h39 : T0 39 = mp_aS) (h40 : T0 40 = mp_aE) (hn0 : n0 < 8) (hn1 : n1 < 8) (hn2 : n2 < 8) (ca : cat (T0 (82 + n1)) 0 t) (cp : cat (T0 (82 + n2)) 0 pt) (hd : dV t ≤ 60) (hdp : dV pt ≤ 60) : ∃ T2, b_del T0 (Int32.ofNat n0) (Int32.ofNat n1) (Int32.ofNat n2) = ((b_finish T2 (Int32.ofNat n0) 2 3).bind fun r => some r) ∧ (∀ a, a ≠ 78 → a ≠ 90 → a ≠ 91 → a ≠ 97 → a ≠ 98 → T2 a = T0 a) ∧ (∀ k, k = 1 ∨ k = 3 ∨ k = 4 → rd T2 78 k = rd T0 78 k) ∧ rd T2 78 0 = 0 ∧ (T2 78).length = 22 ∧ (T2 91).length = 9000 ∧ (T2 97).length = 4200 ∧ (T2 98).length = 9000 ∧ (¬ (pt.1 = 5 ∧ okE (toL pt.2.2.2)) → ¬ rd T2 78 12 ≤ 0) ∧ (pt.1 = 5 ∧ okE (toL pt.2.2.2) → ¬ ((toL pt.2.2.2).length ≤ 100 ∧ smL (toL pt.2.2.2) ≤ 100) → rd T2 78 12 = 0 ∧ rd T2 90 2 = 1) ∧ (pt.1 = 5 ∧ okE (toL pt.2.2.2) → (toL pt.2.2.2).length ≤ 100 ∧ smL (toL pt.2.2.2) ≤ 100 → ∃ R : List Nat, R.Perm (List.range (toL pt.2.2.2).length) ∧ dscE (toL pt.2.2.2) R ∧ (∀ T, cutL (R.map (stO (toL pt.2.2.2))) t = some T → rd T2 78 12 = 0 ∧ wV T ∧ OutV T2 (cV T)) ∧ (cutL (R.map (stO (toL pt.2.2.2))) t = none → ¬ rd T2 78 12 ≤ 0)) := by
  obtain ⟨S1, b1, b2, b3, b4, b5, b6, b7⟩ := begin_val l78 l90 l91
  have reg : ∀ n, n < 8 → b_none S1 (Int32.ofNat n) = some 0 := by
    intro n hn
    have : ¬ Int32.ofNat n < 0 ∧ Int32.ofNat n < 8 := ⟨i_nn (by omega), by rw [show (8 : Int32) = Int32.ofNat 8 from rfl, i_lt' (by omega) (by omega)]; exact hn⟩
    exact (reg_ok S1 this).2.1
  obtain ⟨d1, d1'⟩ := get81 n1 hn1
  obtain ⟨d2, d2'⟩ := get81 n2 hn2
  have cp1 : cat (S1 (82 + n2)) 0 pt := by rw [b2 _ (by omega) (by omega)]; exact cp
  have head : b_del T0 (Int32.ofNat n0) (Int32.ofNat n1) (Int32.ofNat n2) = (if Int32.ofNat pt.1 = (5 : Int32) then ((r_many (S1 (82 + n2)) 0).bind fun r15 => b_del_l75 10000 S1 (Int32.ofNat n0) (Int32.ofNat n1) (82 + n2) r15 0) else ((b_refuse S1 1).bind fun r93 => b_del_l75 10000 r93 (Int32.ofNat n0) (Int32.ofNat n1) (82 + n2) 0 0)) := by
    unfold b_del
    rw [b1, o_bind, reg n0 hn0, o_bind, if_pos rfl, reg n1 hn1, o_bind, if_pos rfl, reg n2 hn2, o_bind, if_pos rfl, d2, o_bind, d2', show iget (S1 (82 + n2)) 0 = some (Int32.ofNat pt.1) from cp1.kind, o_bind]
  have k6 := cp.2.1.1
  -- from a refusal on
  have refd : ∀ (k75 : SS → Int32 → Int32 → Nat → Int32 → Int32 → Option SS) (n N : Nat) (S : SS), N ≤ 4500 → rfS S1 S → ¬ rd S 78 12 ≤ 0 → (∀ k112, ∃ k162, b_del_l162 k75 k112 (n + 1) S (Int32.ofNat n0) (Int32.ofNat n1) (82 + n2) (Int32.ofNat N) 0 0 = b_del_l236 k75 k112 k162 10000 S (Int32.ofNat n0) (Int32.ofNat n1) (82 + n2) (Int32.ofNat N) 0) := by
    intro k75 n N S hN hS hr k112
    have hr0 : ¬ rd S 78 12 = 0 := fun e => hr (by rw [e]; decide)
    refine ⟨b_del_l162 k75 k112 n, ?_⟩
    show (if Int32.ofNat N ≤ 0 then (if (100 : Int32) < Int32.ofNat N then (if (rd S 78 12) = 0 then _ else _) else (if (0 : Int32) ≤ (100 : Int32) then _ else (if (rd S 78 12) = 0 then _ else _))) else (if (rd S 78 12) = 0 then _ else (if (100 : Int32) < Int32.ofNat N then _ else (if (0 : Int32) ≤ (100 : Int32) then _ else _)))) = _
    rw [if_neg hr0, if_neg hr0, if_pos (show (0 : Int32) ≤ 100 by decide)]
    split <;> split <;> rfl
  have refe : ∀ (k75 k112 : SS → Int32 → Int32 → Nat → Int32 → Int32 → Option SS) (k162 : SS → Int32 → Int32 → Nat → Int32 → Int32 → Int32 → Option SS) (N : Nat) (S : SS), N ≤ 4500 → rfS S1 S → ¬ rd S 78 12 ≤ 0 → ∃ T2, b_del_l236 k75 k112 k162 10000 S (Int32.ofNat n0) (Int32.ofNat n1) (82 + n2) (Int32.ofNat N) 0 = ((b_finish T2 (Int32.ofNat n0) 2 3).bind fun r => some r) ∧ (∀ a, a ≠ 78 → a ≠ 90 → a ≠ 91 → a ≠ 97 → a ≠ 98 → T2 a = T0 a) ∧ (∀ k, k = 1 ∨ k = 3 ∨ k = 4 → rd T2 78 k = rd T0 78 k) ∧ rd T2 78 0 = 0 ∧ (T2 78).length = 22 ∧ (T2 91).length = 9000 ∧ (T2 97).length = 4200 ∧ (T2 98).length = 9000 ∧ ¬ rd T2 78 12 ≤ 0 := by
    intro k75 k112 k162 N S hN hS hr
    have hr0 : ¬ rd S 78 12 = 0 := fun e => hr (by rw [e]; decide)
    have o1 : OutV S [] := by
      unfold OutV rd at b7 ⊢
      rw [hS.1 91 (by decide), hS.1 90 (by decide)]
      exact b7
    obtain ⟨h9, hw, r, hdr⟩ := ca
    obtain ⟨S2, q1, q2, q3⟩ := ocopy (S := S) (aa := 82 + n1) (p := 0) (w := cV t) (r := r) (by omega) (cV_h hw.1) o1 (by rw [hS.1 _ (by omega), b2 _ (by omega) (by omega)]; exact h9) (by rw [hS.1 _ (by omega), b2 _ (by omega) (by omega)]; exact hdr)
    have q1 : q_copy S (82 + n1) 0 = some S2 := q1
    have e90 : rd S 90 2 = 0 := (o1.2.2.1 (by decide)).2.2
    have oth : ∀ a, a ≠ 78 → a ≠ 90 → a ≠ 91 → S2 a = T0 a := fun a x1 x2 x3 => by rw [q3 a x2 x3, hS.1 a x1, b2 a x1 x2]
    refine ⟨S2, ?_, fun a x1 x2 x3 _ _ => oth a x1 x2 x3, fun k hk => by rw [frO_12 q3, hS.2.1 k (by omega), b3 k (by omega) (by omega)], by rw [frO_12 q3, hS.2.1 0 (by decide)]; exact b4, by rw [q3 78 (by decide) (by decide), hS.2.2]; exact b6, q2.1, by rw [oth 97 (by decide) (by decide) (by decide)]; exact l97, by rw [oth 98 (by decide) (by decide) (by decide)]; exact l98, by rw [frO_12 q3]; exact hr⟩
    rw [d236_e (n := 9999) (Or.inr hr0)]
    unfold dEnd
    rw [if_pos e90, d1, o_bind, d1', q1, o_bind]
    exact l355_r (n := 9999) (Or.inr (by rw [frO_12 q3]; exact hr0))
  rw [head]
  by_cases e5 : pt.1 = 5
  · obtain ⟨kp, vp, sp, fp⟩ := pt
    obtain ⟨es, rfl⟩ : ∃ l, fp = ofL l := ⟨toL fp, (ofL_toL fp).symm⟩
    have e5 : kp = 5 := e5
    subst e5
    have etl : toL ((5, vp, sp, ofL es) : Vl).2.2.2 = es := toL_ofL es
    rw [etl]
    obtain ⟨-, -, r, dp⟩ := id cp1
    have hm := many_val (p := 0) (r := r) cp1.1 cp1.2.1.kids (Or.inl rfl) dp
    have hlen : es.length ≤ 4500 := by
      by_cases c : 0 < es.length
      · exact (ep_at cp1 c).2.2.2
      · omega
    have hdk : ∀ y ∈ es, dV y.2 ≤ 59 := fun y hy => by
      have := dV_kid (k := 5) (v := vp) (s := sp) (Or.inl rfl) hy
      omega
    rw [if_pos (show Int32.ofNat ((5, vp, sp, ofL es) : Vl).1 = 5 from rfl), show r_many (S1 (82 + n2)) 0 = some (Int32.ofNat es.length) from hm, o_bind]
    obtain ⟨S2, n', j1, j2, j3⟩ := d75 (l1 := Int32.ofNat n0) (l2 := Int32.ofNat n1) (pb := 82 + n2) (by omega) es.length 0 10000 S1 (by omega) (by omega) cp1 b6 (Or.inl b5)
    have j1 : b_del_l75 10000 S1 (Int32.ofNat n0) (Int32.ofNat n1) (82 + n2) (Int32.ofNat es.length) 0 = _ := j1
    rw [j1]
    rw [List.drop_zero] at j3
    rcases j3 with ⟨-, rfl, a5⟩ | ⟨hr, hno⟩
    · obtain ⟨S3, k112, q1, q2, q3⟩ := d112 (k75 := b_del_l75 n') (l1 := Int32.ofNat n0) (l2 := Int32.ofNat n1) (pb := 82 + n2) (by omega) a5 es.length 0 10000 S2 (by omega) (by omega) cp1 b6 b5
      have q1 : b_del_l112 (b_del_l75 n') 10000 S2 (Int32.ofNat n0) (Int32.ofNat n1) (82 + n2) (Int32.ofNat es.length) 0 = _ := q1
      rw [q1]
      rw [List.drop_zero] at q3
      rcases q3 with ⟨rfl, a6⟩ | ⟨hr, hno⟩
      · have hE : okE es := fun x hx => ⟨a5 x hx, a6 x hx⟩
        obtain ⟨k162, w1⟩ := d162 (k75 := b_del_l75 n') (k112 := k112) (l1 := Int32.ofNat n0) (l2 := Int32.ofNat n1) hE es.length 0 10000 S3 (by omega) (by omega) cp1 b5
        have w1 : b_del_l162 (b_del_l75 n') k112 10000 S3 (Int32.ofNat n0) (Int32.ofNat n1) (82 + n2) (Int32.ofNat es.length) 0 0 = _ := w1
        rw [w1]
        by_cases hfew : es.length ≤ 100 ∧ smL es ≤ 100
        · rw [if_pos hfew]
          obtain ⟨S4, R, post, k236, x1, x2, x3, x4, x5, x6⟩ := d236 (k75 := b_del_l75 n') (k112 := k112) (k162 := k162) (l1 := Int32.ofNat n0) (l2 := Int32.ofNat n1) (pb := 82 + n2) (by omega) hdk hfew.1 es.length 0 10000 S3 [] (S3 97) (by omega) (by omega) cp1 b5 (by rw [List.range_zero]) List.Pairwise.nil rfl (by rw [b2 97 (by decide) (by decide), l97]; omega)
          have x1 : b_del_l236 (b_del_l75 n') k112 k162 10000 S3 (Int32.ofNat n0) (Int32.ofNat n1) (82 + n2) (Int32.ofNat es.length) 0 = _ := x1
          rw [x1]
          have e78 : S4 78 = S3 78 := x2 78 (by decide)
          have o4 : OutV S4 [] := by
            unfold OutV rd at b7 ⊢
            rw [x2 91 (by decide), x2 90 (by decide)]
            exact b7
          have e90 : rd S4 90 2 = 0 := (o4.2.2.1 (by decide)).2.2
          obtain ⟨h9, hw, r', hdr⟩ := id ca
          have cn := ca.next.2
          have e82 : ∀ n, n < 8 → S4 (82 + n) = T0 (82 + n) := fun n hn => by rw [x2 _ (by omega), b2 _ (by omega) (by omega)]
          obtain ⟨S5, y1, y2, y3⟩ := ocopy (S := S4) (aa := 82 + n1) (p := 0) (w := cV t) (r := r') (by omega) (cV_h hw.1) o4 (by rw [e82 n1 hn1]; exact h9) (by rw [e82 n1 hn1]; exact hdr)
          have y1 : q_copy S4 (82 + n1) 0 = some S5 := y1
          rw [List.nil_append] at y2
          have oth5 : ∀ a, a ≠ 78 → a ≠ 90 → a ≠ 91 → a ≠ 97 → S5 a = T0 a := fun a z1 z2 z3 z4 => by rw [y3 a z2 z3, x2 a z4, b2 a z1 z2]
          have k5 : ∀ k, k ≠ 0 → k ≠ 12 → rd S5 78 k = rd T0 78 k := fun k z1 z2 => by rw [frO_12 y3, ← b3 k z1 z2]; unfold rd; rw [e78]
          have k50 : rd S5 78 0 = 0 ∧ rd S5 78 12 = 0 := by rw [frO_12 y3, frO_12 y3]; unfold rd at b4 b5 ⊢; rw [e78]; exact ⟨b4, b5⟩
          obtain ⟨T2, z1, z2, z3, z4, z5, z6⟩ := d355 (k75 := b_del_l75 n') (k112 := k112) (k162 := k162) (k236 := k236) (l1 := Int32.ofNat n0) (post := post) (pb := 82 + n2) (v := vp) (s := sp) (by omega) hE hfew.1 R 10000 0 S5 t [] (by rw [x3.length_eq, List.length_range]; omega) (by rw [x3.length_eq, List.length_range]; omega) rfl (fun j hj => List.mem_range.mp (x3.mem_iff.mp hj)) (by rw [oth5 _ (by omega) (by omega) (by omega) (by omega)]; exact cp) (by rw [y3 78 (by decide) (by decide), e78]; exact b6) (by rw [oth5 39 (by decide) (by decide) (by decide) (by decide)]; exact h39) (by rw [oth5 40 (by decide) (by decide) (by decide) (by decide)]; exact h40) k50.2 (by rw [y3 97 (by decide) (by decide), x5]; rfl) y2 (by omega) (by rw [oth5 98 (by decide) (by decide) (by decide) (by decide)]; exact l98) hw hd
          have z1 : b_del_l355 (b_del_l75 n') k112 k162 k236 10000 S5 (Int32.ofNat n0) (82 + n2) (Int32.ofNat es.length) 0 = _ := z1
          refine ⟨T2, ?_, fun a u1 u2 u3 u4 u5 => by rw [z2.1 a u1 u2 u3 u5, oth5 a u1 u2 u3 u4], fun k hk => by rw [z2.2.1 k (by omega), k5 k (by omega) (by omega)], by rw [z2.2.1 0 (by omega)]; exact k50.1, by rw [z2.2.2, y3 78 (by decide) (by decide), e78]; exact b6, z4, by rw [z2.1 97 (by decide) (by decide) (by decide) (by decide), y3 97 (by decide) (by decide), x6, b2 97 (by decide) (by decide)]; exact l97, z3, fun c => absurd ⟨rfl, hE⟩ c, fun _ c => absurd hfew c, fun _ _ => ⟨R, x3, x4, z5, z6⟩⟩
          unfold dEnd
          rw [if_pos e90, d1, o_bind, d1', y1, o_bind, z1]
        · rw [if_neg hfew]
          have h2 : rd (wr S3 90 2 1) 90 2 = 1 := rd_wr (by rw [b7.2.1]; decide)
          refine ⟨wr S3 90 2 1, ?_, fun a u1 u2 _ _ _ => by rw [wr_ne u2, b2 a u1 u2], fun k hk => by rw [rd_wr_ne (by decide), b3 k (by omega) (by omega)], by rw [rd_wr_ne (by decide)]; exact b4, by rw [wr_ne (by decide)]; exact b6, by rw [wr_ne (by decide)]; exact b7.1, by rw [wr_ne (by decide), b2 97 (by decide) (by decide)]; exact l97, by rw [wr_ne (by decide), b2 98 (by decide) (by decide)]; exact l98, fun c => absurd ⟨rfl, hE⟩ c, fun _ _ => ⟨by rw [rd_wr_ne (by decide)]; exact b5, h2⟩, fun _ c => absurd c hfew⟩
          rw [d236_e (n := 9999) (Or.inl (by decide))]
          unfold dEnd
          rw [if_neg (by rw [h2]; decide)]
          exact l355_r (n := 9999) (Or.inl (by decide))
      · obtain ⟨k162, w1⟩ := refd (b_del_l75 n') 9999 es.length S3 hlen q2 hr k112
        rw [w1]
        obtain ⟨T2, z1, z2, z3, z4, z5, z6, z7, z8, z9⟩ := refe (b_del_l75 n') k112 k162 es.length S3 hlen q2 hr
        have no : ¬ okE es := fun c => hno (fun x hx => (c x hx).2)
        exact ⟨T2, z1, z2, z3, z4, z5, z6, z7, z8, fun _ => z9, fun c => absurd c.2 no, fun c => absurd c.2 no⟩
    · have h112 : ∃ k112, b_del_l112 (b_del_l75 n') 10000 S2 (Int32.ofNat n0) (Int32.ofNat n1) (82 + n2) (Int32.ofNat es.length) 0 = b_del_l162 (b_del_l75 n') k112 10000 S2 (Int32.ofNat n0) (Int32.ofNat n1) (82 + n2) (Int32.ofNat es.length) 0 0 := by
        exact ⟨b_del_l112 (b_del_l75 n') 9999, l112_r (n := 9999) (Or.inr (fun e => hr (by rw [e]; decide)))⟩
      obtain ⟨k112, q1⟩ := h112
      rw [q1]
      obtain ⟨k162, w1⟩ := refd (b_del_l75 n') 9999 es.length S2 hlen j2 hr k112
      rw [w1]
      obtain ⟨T2, z1, z2, z3, z4, z5, z6, z7, z8, z9⟩ := refe (b_del_l75 n') k112 k162 es.length S2 hlen j2 hr
      have no : ¬ okE es := fun c => hno ⟨b5, fun x hx => (c x hx).1⟩
      exact ⟨T2, z1, z2, z3, z4, z5, z6, z7, z8, fun _ => z9, fun c => absurd c.2 no, fun c => absurd c.2 no⟩
  · obtain ⟨S2, q1, q2, q3⟩ := rfS_ref (v := 1) b6 (Or.inl b5) (by decide)
    rw [if_neg (kne5 k6 e5), q1, o_bind]
    have h75 : b_del_l75 10000 S2 (Int32.ofNat n0) (Int32.ofNat n1) (82 + n2) 0 0 = b_del_l162 (b_del_l75 9999) (b_del_l112 (b_del_l75 9999) 9999) 10000 S2 (Int32.ofNat n0) (Int32.ofNat n1) (82 + n2) (Int32.ofNat 0) 0 0 := (l75_0 (n := 9999) (by decide)).trans (l112_r (n := 9999) (Or.inl (by decide)))
    rw [h75]
    obtain ⟨k162, w1⟩ := refd (b_del_l75 9999) 9999 0 S2 (by omega) q2 q3 (b_del_l112 (b_del_l75 9999) 9999)
    rw [w1]
    obtain ⟨T2, z1, z2, z3, z4, z5, z6, z7, z8, z9⟩ := refe (b_del_l75 9999) (b_del_l112 (b_del_l75 9999) 9999) k162 0 S2 (by omega) q2 q3
    exact ⟨T2, z1, z2, z3, z4, z5, z6, z7, z8, fun _ => z9, fun c => absurd c.1 e5, fun c => absurd c.1 e5⟩
end Del178
end

section
/-! The call del: both sides. -/
section Del179
/-- how a call ends that found too much -/
theorem fin_limit {S S3 T2 : SS} {ts : Nat → Vl} {dr : Nat} {ra : List Nat} {tape res : List Int32} {n0 : Nat} {bc : SS → Option SS} {c2 c3 : Int32} (i1 : InvL S) (i2 : InvB S) (i3 : InvT S tape) (i4 : InvP S res) (i5 : InvG S ts dr ra) (f3 : ∀ a, a ∉ cSc → a ≠ dr → S3 a = S a) (lc : lenC S3) (w1 : bc S3 = ((b_finish T2 (Int32.ofNat n0) c2 c3).bind fun r => some r)) (w2 : ∀ a, a ∉ rSc → T2 a = S3 a) (w3 : ∀ k, k = 1 ∨ k = 3 ∨ k = 4 → rd T2 78 k = rd S 78 k) (w5 : rd T2 78 12 = 0) (w6 : (T2 78).length = 22) (w7 : (T2 91).length = 9000) (h2 : rd T2 90 2 = 1) (w8 : lenR T2) : ∃ W, S3 0 = S 0 ∧ bc S3 = some W ∧ rd W 78 0 = c3 ∧ W 0 = S 0 ∧ Inv W := by
  obtain ⟨g1, g2, g3, g4, g5⟩ := id i5
  have hdn : dr ∈ nine := g3.mem_iff.mp List.mem_cons_self
  have n9 : ∀ a, a ∉ nine → a ≠ dr := fun a ha e => ha (e ▸ hdn)
  have dd : ∀ a ∈ nine, a ∉ cSc ∧ a ∉ rSc ∧ a ≠ 41 ∧ a ≠ 46 ∧ a ≠ 80 ∧ a ≠ 94 ∧ a ≠ 78 ∧ a < 82 := by decide
  have d8 : ∀ r, r < 8 → 82 + r ∉ cSc ∧ 82 + r ∉ rSc ∧ 82 + r ∉ nine ∧ 82 + r ≠ 41 ∧ 82 + r ≠ 46 ∧ 82 + r ≠ 80 ∧ 82 + r ≠ 94 ∧ 82 + r ≠ 78 := by decide
  obtain ⟨w8, w10, w11, w12, w13⟩ := w8
  have fv : ∃ W, b_finish T2 (Int32.ofNat n0) c2 c3 = some W ∧ (∀ a, a ≠ 80 → a ≠ 94 → a ≠ 78 → W a = T2 a) ∧ (W 80).length = 9000 ∧ rd W 78 0 = c3 ∧ ∀ k, k ≠ 0 → rd W 78 k = rd T2 78 k := by
    refine ⟨wr T2 78 0 c3, ?_, fun a _ _ h => wr_ne h, by rw [wr_ne (by decide)]; exact w8, rd_wr (by rw [w6]; decide), fun k hk => rd_wr_j (fun e => hk e.symm)⟩
    unfold b_finish b_fits
    rw [w5, if_pos (by decide), h2, if_neg (by decide), o_bind, if_pos rfl]
  obtain ⟨W, z1, z2, z3, z4, z5⟩ := fv
  have Wf : ∀ a, a ∉ rSc → W a = S3 a := fun a x1 => by
    have h80 : a ≠ 80 := fun e => x1 (e ▸ by decide)
    have h94 : a ≠ 94 := fun e => x1 (e ▸ by decide)
    have h78 : a ≠ 78 := fun e => x1 (e ▸ by decide)
    rw [z2 a h80 h94 h78, w2 a x1]
  have WS : ∀ a, a ∉ rSc → a ∉ cSc → a ≠ dr → W a = S a := fun a x1 x2 x3 => (Wf a x1).trans (f3 a x2 x3)
  have W41 : ∀ k, rd W 41 k = rd S 41 k := fun k => by unfold rd; rw [WS 41 (by decide) (by decide) (n9 41 (by decide))]
  have W78 : ∀ k, k = 1 ∨ k = 3 ∨ k = 4 → rd W 78 k = rd S 78 k := fun k hk => by rw [z5 k (by omega), w3 k hk]
  refine ⟨W, f3 0 (by decide) (n9 0 (by decide)), by rw [w1, z1, o_bind], z4, WS 0 (by decide) (by decide) (n9 0 (by decide)), ?_⟩
  have K : ∀ a, a ∈ [39, 40, 42, 79, 44, 92, 46] → W a = S a := fun a ha => by
    have d : ∀ a ∈ [39, 40, 42, 79, 44, 92, 46], a ∉ rSc ∧ a ∉ cSc ∧ a ∉ nine := by decide
    obtain ⟨x1, x2, x3⟩ := d a ha
    exact WS a x1 x2 (n9 a x3)
  have K3 : ∀ a, a ∈ [47, 48, 71, 74, 76, 77] → W a = S3 a := fun a ha => by
    have d : ∀ a ∈ [47, 48, 71, 74, 76, 77], a ∉ rSc := by decide
    exact Wf a (d a ha)
  have K2 : ∀ a, a ∈ [97, 98, 99, 100, 91] → W a = T2 a := fun a ha => by
    have d : ∀ a ∈ [97, 98, 99, 100, 91], a ≠ 80 ∧ a ≠ 94 ∧ a ≠ 78 := by decide
    obtain ⟨x1, x2, x3⟩ := d a ha
    exact z2 a x1 x2 x3
  obtain ⟨y1, y2, y3, y4, y5, y6⟩ := lc
  exact finA i3 i4 i5 ⟨by unfold rd; rw [K3 47 (by decide)]; exact y1, by rw [K3 48 (by decide)]; exact y2, by rw [K3 71 (by decide)]; exact y3, by rw [K3 74 (by decide)]; exact y4, by rw [K3 76 (by decide)]; exact y5, by rw [K3 77 (by decide)]; exact y6, z3, by rw [K2 91 (by decide)]; exact w7, by rw [K2 97 (by decide)]; exact w10, by rw [K2 98 (by decide)]; exact w11, by rw [K2 99 (by decide)]; exact w12, by rw [K2 100 (by decide)]; exact w13, (K 39 (by decide)).trans i1.2.2.2.2.2.2.2.2.2.2.2.2.1, (K 40 (by decide)).trans i1.2.2.2.2.2.2.2.2.2.2.2.2.2⟩ ⟨by rw [W78 3 (by omega), W41]; exact i2.1, by rw [W78 4 (by omega), W41]; exact i2.2⟩ (K 42 (by decide)) (K 79 (by decide)) (W78 1 (by omega)) (K 44 (by decide)) (K 92 (by decide)) (K 46 (by decide)) (W41 9) (fun a ha hne => WS a (dd a ha).2.1 (dd a ha).1 hne) (fun r hr => WS _ (d8 r hr).2.1 (d8 r hr).1 (n9 _ (d8 r hr).2.2.1))
/-- both orders cut the same -/
theorem ord_same {es : List Mb} {Q R : List Nat} {t : Vl} (hok : okE es) (hw : okL es) (hQ : Q.Perm (List.range es.length)) (hR : R.Perm (List.range es.length)) (sQ : srtN (fun j => key 61 (es.getD j nulM).2) Q es.length) (sR : dscE es R) : cutL (Q.reverse.map (stO es)) t = cutL (R.map (stO es)) t := by
  have hQl : Q.length = es.length := by rw [hQ.length_eq, List.length_range]
  have pQ : (Q.reverse.map (fun j => key 61 (es.getD j nulM).2)).Pairwise (fun a b => ¬ ltS a b) := by
    rw [List.pairwise_map, List.pairwise_reverse, List.pairwise_iff_getElem]
    intro i j hi hj hij
    exact sQ i j hi hj hij (by omega)
  have pR : (R.map (fun j => key 61 (es.getD j nulM).2)).Pairwise (fun a b => ¬ ltS a b) := by
    rw [List.pairwise_map]
    exact sR
  have pm : (Q.reverse.map (fun j => key 61 (es.getD j nulM).2)).Perm (R.map (fun j => key 61 (es.getD j nulM).2)) := ((List.reverse_perm Q).trans (hQ.trans hR.symm)).map _
  have ek : Q.reverse.map (fun j => key 61 (es.getD j nulM).2) = R.map (fun j => key 61 (es.getD j nulM).2) := by
    refine List.Perm.eq_of_pairwise (le := fun a b => ¬ ltS a b) ?_ pQ pR pm
    intro a b _ _ h1 h2
    rcases ltS_tri a b with c | c | c
    · exact absurd c h1
    · exact c
    · exact absurd c h2
  have mem : ∀ (L : List Nat), L.Perm (List.range es.length) → ∀ a ∈ L.map (fun j => (es.getD j nulM).2), wV a ∧ a.1 = 5 := by
    intro L hL a ha
    obtain ⟨j, hj, rfl⟩ := List.mem_map.mp ha
    have hjl : j < es.length := List.mem_range.mp (hL.mem_iff.mp hj)
    rw [getD_in _ hjl]
    exact ⟨(hw _ (List.getElem_mem hjl)).2, (hok _ (List.getElem_mem hjl)).1⟩
  have := cutL_same (n := 58) (Q.reverse.map (fun j => (es.getD j nulM).2)) (R.map (fun j => (es.getD j nulM).2)) t (mem _ ((List.reverse_perm Q).trans hQ)) (fun b hb => (mem _ hR b hb).1) (by rw [List.map_map, List.map_map]; exact ek)
  rw [List.map_map, List.map_map] at this
  exact this
/-- del -/
theorem op6 : stp6 Inv := by
  intro S p0 p1 p2 hcs hI
  obtain ⟨l78, l41, l90, -⟩ := cs.l78 hcs
  obtain ⟨i1, i2, ⟨tape, i3⟩, ⟨res, i4⟩, ts, dr, ra, i5⟩ := id hI
  obtain ⟨g1, g2, g3, g4, g5⟩ := id i5
  have l91 : (S 91).length = 9000 := i1.2.2.2.2.2.2.2.1
  have h39 : S 39 = mp_aS := i1.2.2.2.2.2.2.2.2.2.2.2.2.1
  have h40 : S 40 = mp_aE := i1.2.2.2.2.2.2.2.2.2.2.2.2.2
  have bad : a_del S p0 p1 p2 = some (S, 2) → (∀ S1, b_begin S = some S1 → b_del S p0 p1 p2 = some (wr S1 78 0 1)) → ∃ (c : SS × Int32) (w : SS), h_del S p0 p1 p2 = some c ∧ c.1 0 = S 0 ∧ b_del c.1 p0 p1 p2 = some w ∧ rd w 78 0 = c.2 ∧ w 0 = S 0 ∧ Inv w := by
    intro e1 e2
    obtain ⟨S1, b1, b2, b3, b4, b5, b6, b7⟩ := begin_val l78 l90 l91
    obtain ⟨z1, z2, z3⟩ := bad_begin hI b6 b2 b3
    refine ⟨(S, 1), wr S1 78 0 1, ?_, rfl, e2 S1 b1, z1, z2, z3⟩
    unfold h_del
    rw [e1, o_bind, if_neg (show ¬ (2 : Nat) = 0 by decide), if_pos rfl]
  by_cases h0 : ¬ p0 < 0 ∧ p0 < 8
  rotate_left
  · refine bad ?_ fun S1 b1 => ?_
    · unfold a_del; rw [(reg_bad S h0).1, o_bind, if_neg (show ¬ (2 : Nat) = 0 by decide)]
    · unfold b_del; rw [b1, o_bind, (reg_bad S1 h0).2, o_bind, if_neg (by decide)]
  by_cases h1 : ¬ p1 < 0 ∧ p1 < 8
  rotate_left
  · refine bad ?_ fun S1 b1 => ?_
    · unfold a_del; rw [(reg_ok S h0).1, o_bind, if_pos rfl, (reg_bad S h1).1, o_bind, if_neg (show ¬ (2 : Nat) = 0 by decide)]
    · unfold b_del; rw [b1, o_bind, (reg_ok S1 h0).2.1, o_bind, if_pos rfl, (reg_bad S1 h1).2, o_bind, if_neg (by decide)]
  by_cases h2 : ¬ p2 < 0 ∧ p2 < 8
  rotate_left
  · refine bad ?_ fun S1 b1 => ?_
    · unfold a_del; rw [(reg_ok S h0).1, o_bind, if_pos rfl, (reg_ok S h1).1, o_bind, if_pos rfl, (reg_bad S h2).1, o_bind, if_neg (show ¬ (2 : Nat) = 0 by decide)]
    · unfold b_del; rw [b1, o_bind, (reg_ok S1 h0).2.1, o_bind, if_pos rfl, (reg_ok S1 h1).2.1, o_bind, if_pos rfl, (reg_bad S1 h2).2, o_bind, if_neg (by decide)]
  obtain ⟨a0, -, n0, hn0, rfl⟩ := reg_ok S h0
  obtain ⟨a1, -, n1, hn1, rfl⟩ := reg_ok S h1
  obtain ⟨a2, -, n2, hn2, rfl⟩ := reg_ok S h2
  have hdn : dr ∈ nine := g3.mem_iff.mp List.mem_cons_self
  have n9 : ∀ a, a ∉ nine → a ≠ dr := fun a ha e => ha (e ▸ hdn)
  obtain ⟨v1, k1⟩ := reg_vat (g5 n1 hn1)
  obtain ⟨v2, k2⟩ := reg_vat (g5 n2 hn2)
  obtain ⟨u1, u2, u3⟩ := adel_val hcs i1 i5 hn0 hn1 hn2
  have d8 : ∀ r, r < 8 → 82 + r ∉ cSc ∧ 82 + r ∉ nine ∧ 82 + r ≠ 41 ∧ 82 + r ≠ 46 := by decide
  obtain ⟨es, hes⟩ : ∃ es, es = toL (ts n2).2.2.2 := ⟨_, rfl⟩
  rw [← hes] at u1 u2 u3
  have refT : ∀ T0 : SS, (∀ a, a ≠ 41 → a ≠ 46 → a ∉ cSc → a ∉ nine → T0 a = S a) → ∃ T2, b_del T0 (Int32.ofNat n0) (Int32.ofNat n1) (Int32.ofNat n2) = ((b_finish T2 (Int32.ofNat n0) 2 3).bind fun r => some r) ∧ (∀ a, a ∉ rSc → T2 a = T0 a) ∧ (∀ k, k = 1 ∨ k = 3 ∨ k = 4 → rd T2 78 k = rd S 78 k) ∧ rd T2 78 0 = 0 ∧ (T2 78).length = 22 ∧ (T2 91).length = 9000 ∧ lenR T2 ∧ (¬ ((ts n2).1 = 5 ∧ okE es) → ¬ rd T2 78 12 ≤ 0) ∧ ((ts n2).1 = 5 ∧ okE es → ¬ (es.length ≤ 100 ∧ smL es ≤ 100) → rd T2 78 12 = 0 ∧ rd T2 90 2 = 1) ∧ ((ts n2).1 = 5 ∧ okE es → es.length ≤ 100 ∧ smL es ≤ 100 → ∃ R : List Nat, R.Perm (List.range es.length) ∧ dscE es R ∧ (∀ T, cutL (R.map (stO es)) (ts n1) = some T → rd T2 78 12 = 0 ∧ wV T ∧ OutV T2 (cV T)) ∧ (cutL (R.map (stO es)) (ts n1) = none → ¬ rd T2 78 12 ≤ 0)) := by
    intro T0 hT0
    have e82 : ∀ n, n < 8 → T0 (82 + n) = S (82 + n) := fun n hn => by
      obtain ⟨x1, x2, x3, x4⟩ := d8 n hn
      exact hT0 _ x3 x4 x1 x2
    have e78 : T0 78 = S 78 := hT0 78 (by decide) (by decide) (by decide) (by decide)
    obtain ⟨y1, y2, y3, y4, y5⟩ := i1.lenR
    obtain ⟨T2, w1, w2, w3, w4, w5, w6, w7, w8, w9, w10, w11⟩ := bdel_val (T0 := T0) (n0 := n0) (n1 := n1) (n2 := n2) (t := ts n1) (pt := ts n2) (by rw [e78]; exact l78) (by rw [hT0 90 (by decide) (by decide) (by decide) (by decide)]; exact l90) (by rw [hT0 91 (by decide) (by decide) (by decide) (by decide)]; exact l91) (by rw [hT0 97 (by decide) (by decide) (by decide) (by decide)]; exact y2) (by rw [hT0 98 (by decide) (by decide) (by decide) (by decide)]; exact y3) (by rw [hT0 39 (by decide) (by decide) (by decide) (by decide)]; exact h39) (by rw [hT0 40 (by decide) (by decide) (by decide) (by decide)]; exact h40) hn0 hn1 hn2 (by rw [e82 n1 hn1]; exact k1) (by rw [e82 n2 hn2]; exact k2) (g5 n1 hn1).2.2.2.1 (g5 n2 hn2).2.2.2.1
    rw [← hes] at w9 w10 w11
    have er : ∀ a, a ∈ [80, 99, 100] → T2 a = S a := fun a ha => by
      have d : ∀ a ∈ [80, 99, 100], a ≠ 78 ∧ a ≠ 90 ∧ a ≠ 91 ∧ a ≠ 97 ∧ a ≠ 98 ∧ a ≠ 41 ∧ a ≠ 46 ∧ a ∉ cSc ∧ a ∉ nine := by decide
      obtain ⟨x1, x2, x3, x4, x5, x6, x7, x8, x9⟩ := d a ha
      rw [w2 a x1 x2 x3 x4 x5, hT0 a x6 x7 x8 x9]
    exact ⟨T2, w1, fun a ha => w2 a (fun e => ha (e ▸ by decide)) (fun e => ha (e ▸ by decide)) (fun e => ha (e ▸ by decide)) (fun e => ha (e ▸ by decide)) (fun e => ha (e ▸ by decide)), fun k hk => by rw [w3 k hk]; unfold rd; rw [e78], w4, w5, w6, ⟨by rw [er 80 (by decide)]; exact y1, w7, w8, by rw [er 99 (by decide)]; exact y4, by rw [er 100 (by decide)]; exact y5⟩, w9, w10, w11⟩
  have refused : ∀ S' e, a_del S (Int32.ofNat n0) (Int32.ofNat n1) (Int32.ofNat n2) = some (wr S' 41 11 e, 4) → frD S S' dr → (∀ T0 : SS, (∀ a, a ≠ 41 → a ≠ 46 → a ∉ cSc → a ∉ nine → T0 a = S a) → ∃ T2, b_del T0 (Int32.ofNat n0) (Int32.ofNat n1) (Int32.ofNat n2) = ((b_finish T2 (Int32.ofNat n0) 2 3).bind fun r => some r) ∧ (∀ a, a ∉ rSc → T2 a = T0 a) ∧ (∀ k, k = 1 ∨ k = 3 ∨ k = 4 → rd T2 78 k = rd S 78 k) ∧ (T2 78).length = 22 ∧ (T2 91).length = 9000 ∧ lenR T2 ∧ ¬ rd T2 78 12 ≤ 0) → ∃ (c : SS × Int32) (w : SS), h_del S (Int32.ofNat n0) (Int32.ofNat n1) (Int32.ofNat n2) = some c ∧ c.1 0 = S 0 ∧ b_del c.1 (Int32.ofNat n0) (Int32.ofNat n1) (Int32.ofNat n2) = some w ∧ rd w 78 0 = c.2 ∧ w 0 = S 0 ∧ Inv w := by
    intro S3 e hA hF hT
    obtain ⟨Sc, hSc⟩ : ∃ Sc, Sc = wr S3 41 11 e := ⟨_, rfl⟩
    have hT0 : ∀ a, a ≠ 41 → a ≠ 46 → a ∉ cSc → a ∉ nine → Sc a = S a := fun a x1 _ x3 x4 => by rw [hSc, wr_ne x1, hF.1 a x3 (n9 a x4)]
    obtain ⟨T2, w1, w2, w3, w4, w5, w6, w7⟩ := hT Sc hT0
    have e41 : S3 41 = S 41 := hF.1 41 (by decide) (n9 41 (by decide))
    have lcS : lenC Sc := by
      obtain ⟨y1, y2, y3, y4, y5, y6⟩ := hF.2
      exact ⟨by rw [hSc, rd_wr_ne (by decide)]; exact y1, by rw [hSc, wr_ne (by decide)]; exact y2, by rw [hSc, wr_ne (by decide)]; exact y3, by rw [hSc, wr_ne (by decide)]; exact y4, by rw [hSc, wr_ne (by decide)]; exact y5, by rw [hSc, wr_ne (by decide)]; exact y6⟩
    obtain ⟨W, z1, z2, z3, z4, z5⟩ := fin_refused (S := S) (Sc := Sc) (bc := fun T => b_del T (Int32.ofNat n0) (Int32.ofNat n1) (Int32.ofNat n2)) (T2 := T2) i1 i2 i3 i4 i5 (fun a x1 x2 x3 => by rw [hSc, wr_ne x3, hF.1 a x1 x2]) (fun k hk => by rw [hSc, rd_wr_j (fun c => hk c.symm)]; unfold rd; rw [e41]) lcS w1 w2 (fun k hk => w3 k (by omega)) w7 w4 w5 w6
    refine ⟨(Sc, 2), W, ?_, z1, z2, z3, z4, z5⟩
    unfold h_del
    rw [hA, o_bind, if_neg (show ¬ (4 : Nat) = 0 by decide), if_neg (show ¬ (4 : Nat) = 2 by decide), if_pos rfl, hSc]
  by_cases hok : (ts n2).1 = 5 ∧ okE es
  rotate_left
  · obtain ⟨S', e, q1, q2⟩ := u1 hok
    refine refused S' e q1 q2 (fun T0 hT0 => ?_)
    obtain ⟨T2, w1, w2, w3, w4, w5, w6, w7, w8, w9, w10⟩ := refT T0 hT0
    exact ⟨T2, w1, w2, w3, w5, w6, w7, w8 hok⟩
  by_cases hfew : es.length ≤ 100 ∧ smL es ≤ 100
  rotate_left
  · obtain ⟨S', q1, q2⟩ := u2 hok hfew
    obtain ⟨T2, w1, w2, w3, w4, w5, w6, w7, w8, w9, w10⟩ := refT S' (fun a _ _ x3 x4 => q2.1 a x3 (n9 a x4))
    obtain ⟨y1, y2⟩ := w9 hok hfew
    obtain ⟨W, z1, z2, z3, z4, z5⟩ := fin_limit (bc := fun T => b_del T (Int32.ofNat n0) (Int32.ofNat n1) (Int32.ofNat n2)) i1 i2 i3 i4 i5 q2.1 q2.2 w1 w2 w3 y1 w5 w6 y2 w7
    refine ⟨(S', 3), W, ?_, z1, z2, z3, z4, z5⟩
    unfold h_del
    rw [q1, o_bind, if_neg (show ¬ (1 : Nat) = 0 by decide), if_neg (show ¬ (1 : Nat) = 2 by decide), if_neg (show ¬ (1 : Nat) = 4 by decide), if_pos rfl]
  obtain ⟨Q, q1, q2, q3, q4⟩ := u3 hok hfew
  have hw : okL es := by
    have := (g5 n2 hn2).2.2.1
    rw [vl5 hok.1, ← hes] at this
    exact this.kids
  cases hcl : cutL (Q.reverse.map (stO es)) (ts n1) with
  | none =>
    obtain ⟨S', e, r1, r2⟩ := q4 hcl
    refine refused S' e r1 r2 (fun T0 hT0 => ?_)
    obtain ⟨T2, w1, w2, w3, w4, w5, w6, w7, w8, w9, w10⟩ := refT T0 hT0
    obtain ⟨R, x1, x2, x3, x4⟩ := w10 hok hfew
    exact ⟨T2, w1, w2, w3, w5, w6, w7, x4 (by rw [← ord_same hok.2 hw q1 x1 q2 x2]; exact hcl)⟩
  | some T =>
    obtain ⟨S3, r1, r2, r3, r4, r5⟩ := q3 T hcl
    rcases fin_call2 (bc := fun T => b_del T (Int32.ofNat n0) (Int32.ofNat n1) (Int32.ofNat n2)) (c2 := 2) (c3 := 3) (B := bV T) l41 i1 i2 i3 i4 i5 hn0 r3 r2.1 r2.2 (by rw [r5, pv_fit r4]) (fun _ => rfl) (fun c => c) (fun T0 hT0 => by
      obtain ⟨T2, w1, w2, w3, w4, w5, w6, w7, w8, w9, w10⟩ := refT T0 hT0
      obtain ⟨R, x1, x2, x3, x4⟩ := w10 hok hfew
      obtain ⟨y1, y2, y3⟩ := x3 T (by rw [← ord_same hok.2 hw q1 x1 q2 x2]; exact hcl)
      exact ⟨T2, w1, w2, w3, w4, y1, w5, ⟨_, y3, Or.inl rfl⟩, w7⟩) with ⟨Sg, W, z1, z2, z3, z4, z5, z6⟩ | ⟨W, z1, z2, z3, z4, z5, z6⟩
    · refine ⟨(Sg, 0), W, ?_, z2, z3, z4, z5, z6⟩
      unfold h_del
      rw [r1, z1, o_bind, if_pos rfl, o_bind, if_pos rfl]
    · refine ⟨(S3, 3), W, ?_, z2, z3, z4, z5, z6⟩
      unfold h_del
      rw [r1, z1, o_bind, if_neg (show ¬ (1 : Nat) = 0 by decide), o_bind, if_neg (show ¬ (1 : Nat) = 0 by decide), if_neg (show ¬ (1 : Nat) = 2 by decide), if_neg (show ¬ (1 : Nat) = 4 by decide), if_pos rfl]
end Del179
end

section
/-! What reading a text of JSON means. -/
section Parse180
abbrev atP' (ts : List Int32) (k : Nat) : Int32 := tat ts (Int32.ofNat k)
def skp (ts : List Int32) (k : Nat) : Nat := k + ((ts.drop k).takeWhile (fun b => sg_blank b != 0)).length
def pEsc (ts : List Int32) (k : Nat) : Option (Int32 × Nat) :=
  if atP' ts (k + 1) = 117 then
    (if sg_hexv (atP' ts (k + 2)) = -1 ∨ sg_hexv (atP' ts (k + 3)) = -1 ∨ sg_hexv (atP' ts (k + 4)) = -1 ∨ sg_hexv (atP' ts (k + 5)) = -1 then none
     else if ((sg_hexv (atP' ts (k + 2)) * 16 + sg_hexv (atP' ts (k + 3))) * 16 + sg_hexv (atP' ts (k + 4))) * 16 + sg_hexv (atP' ts (k + 5)) ≤ 127 then some (((sg_hexv (atP' ts (k + 2)) * 16 + sg_hexv (atP' ts (k + 3))) * 16 + sg_hexv (atP' ts (k + 4))) * 16 + sg_hexv (atP' ts (k + 5)), k + 6) else none)
  else if sg_meaning (atP' ts (k + 1)) = -1 then none else some (sg_meaning (atP' ts (k + 1)), k + 2)
def pChr (ts : List Int32) (k : Nat) : Option (Int32 × Nat) := if atP' ts k = 92 then pEsc ts k else if atP' ts k < 32 then none else if atP' ts k ≤ 126 then some (atP' ts k, k + 1) else none
def pStr (ts : List Int32) : Nat → Nat → Option (List Int32 × Nat)
  | 0, _ => none
  | n + 1, k => if atP' ts k = 34 then some ([], k + 1) else (pChr ts k).bind fun c => (pStr ts n c.2).map fun s => (c.1 :: s.1, s.2)
def sat (a : Nat) (b : Int32) : Nat := if a ≤ 9007199254740991 then a * 10 + (b - 48).toNatClampNeg else a
def digs (ts : List Int32) (k : Nat) : List Int32 := (ts.drop k).takeWhile (fun b => sg_digit b != 0)
def pNum (ts : List Int32) (k : Nat) : Option (Int × Nat) :=
  if sg_digit (atP' ts (if atP' ts k = 45 then k + 1 else k)) = 0 then none
  else if atP' ts (if atP' ts k = 45 then k + 1 else k) = 48 then some (0, (if atP' ts k = 45 then k + 1 else k) + 1)
  else if (digs ts (if atP' ts k = 45 then k + 1 else k)).foldl sat 0 ≤ 9007199254740991 then some (if atP' ts k = 45 then -(((digs ts (if atP' ts k = 45 then k + 1 else k)).foldl sat 0 : Nat) : Int) else ((digs ts (if atP' ts k = 45 then k + 1 else k)).foldl sat 0 : Nat), (if atP' ts k = 45 then k + 1 else k) + (digs ts (if atP' ts k = 45 then k + 1 else k)).length) else none
def pLit (ts w : List Int32) (k : Nat) : Option Nat := if (ts.drop k).take w.length = w then some (k + w.length) else none
def pEl (ts : List Int32) (rec : Nat → Option (Vl × Nat)) : Nat → Nat → Option (List Mb × Nat)
  | 0, _ => none
  | m + 1, k => (rec k).bind fun x => if atP' ts (skp ts x.2) = 44 then (pEl ts rec m (skp ts (skp ts x.2 + 1))).map fun l => (([], x.1) :: l.1, l.2) else if atP' ts (skp ts x.2) = 93 then some ([([], x.1)], skp ts x.2 + 1) else none
def pMe (ts : List Int32) (rec : Nat → Option (Vl × Nat)) : Nat → List (List Int32) → Nat → Option (List Mb × Nat)
  | 0, _, _ => none
  | m + 1, ns, k => if atP' ts k = 34 then (pStr ts 5000 (k + 1)).bind fun s => if s.1 ∈ ns then none else if atP' ts (skp ts s.2) = 58 then (rec (skp ts (skp ts s.2 + 1))).bind fun x => if atP' ts (skp ts x.2) = 44 then (pMe ts rec m (ns ++ [s.1]) (skp ts (skp ts x.2 + 1))).map fun l => ((s.1, x.1) :: l.1, l.2) else if atP' ts (skp ts x.2) = 125 then some ([(s.1, x.1)], skp ts x.2 + 1) else none else none else none
def pVal (ts : List Int32) : Nat → Nat → Option (Vl × Nat)
  | 0, _ => none
  | n + 1, k =>
    if atP' ts k = 91 then (if n = 0 then none else if atP' ts (skp ts (k + 1)) = 93 then some ((5, 0, [], ofL []), skp ts (k + 1) + 1) else (pEl ts (pVal ts n) 5000 (skp ts (k + 1))).map fun l => ((5, 0, [], ofL l.1), l.2))
    else if atP' ts k = 123 then (if n = 0 then none else if atP' ts (skp ts (k + 1)) = 125 then some ((6, 0, [], ofL []), skp ts (k + 1) + 1) else (pMe ts (pVal ts n) 5000 [] (skp ts (k + 1))).map fun l => ((6, 0, [], ofL l.1), l.2))
    else if atP' ts k = 34 then (pStr ts 5000 (k + 1)).map fun s => ((4, 0, s.1, .leaf), s.2)
    else if atP' ts k = 110 then (pLit ts [110, 117, 108, 108] k).map fun e => (vNull, e)
    else if atP' ts k = 102 then (pLit ts [102, 97, 108, 115, 101] k).map fun e => ((1, 0, [], .leaf), e)
    else if atP' ts k = 116 then (pLit ts [116, 114, 117, 101] k).map fun e => ((2, 0, [], .leaf), e)
    else (pNum ts k).map fun x => ((3, x.1, [], .leaf), x.2)
/-- a sign stands within the text -/
theorem at_lt {ts : List Int32} (hl : ts.length ≤ 4096) {k : Nat} (hk : k < 100000) {x : Int32} (h : atP' ts k = x) (hx : x ≠ -1) : ∃ hh : k < ts.length, ts[k] = x ∧ ts.drop k = x :: ts.drop (k + 1) := by
  by_cases c : k < ts.length
  · have := tat_in hl c
    unfold atP' at h
    rw [this] at h
    exact ⟨c, h, by rw [← h]; exact List.drop_eq_getElem_cons c⟩
  · have := tat_out hl (show ts.length ≤ k by omega) (by omega)
    unfold atP' at h
    rw [this] at h
    exact absurd h.symm hx
theorem skp_le (ts : List Int32) (k : Nat) : k ≤ skp ts k ∧ (k ≤ ts.length → skp ts k ≤ ts.length) := by
  unfold skp
  refine ⟨by omega, fun h => ?_⟩
  have := (List.takeWhile_sublist (fun b => sg_blank b != 0) (l := ts.drop k)).length_le
  rw [List.length_drop] at this
  omega
theorem hexv_rng : ∀ b : Int32, sg_hexv b = -1 ∨ (0 ≤ (sg_hexv b).toInt ∧ (sg_hexv b).toInt ≤ 15) := by
  intro b
  unfold sg_hexv
  have e48 : (48 : Int32).toInt = 48 := rfl
  have e57 : (57 : Int32).toInt = 57 := rfl
  have e65 : (65 : Int32).toInt = 65 := rfl
  have e70 : (70 : Int32).toInt = 70 := rfl
  have e97 : (97 : Int32).toInt = 97 := rfl
  have e102 : (102 : Int32).toInt = 102 := rfl
  have e10 : (10 : Int32).toInt = 10 := rfl
  have hb := Int32.toInt_lt b
  have hb2 := Int32.le_toInt b
  have s1 : 48 ≤ b.toInt → (b - 48).toInt = b.toInt - 48 := fun h => by rw [i_sub (by rw [e48]; omega) (by rw [e48]; omega), e48]
  have s2 : 97 ≤ b.toInt → (b - 97 + 10).toInt = b.toInt - 87 := fun h => by
    have : (b - 97).toInt = b.toInt - 97 := by rw [i_sub (by rw [e97]; omega) (by rw [e97]; omega), e97]
    rw [i_add (by rw [this, e10]; omega) (by rw [this, e10]; omega), this, e10]
    omega
  have s3 : 65 ≤ b.toInt → (b - 65 + 10).toInt = b.toInt - 55 := fun h => by
    have : (b - 65).toInt = b.toInt - 65 := by rw [i_sub (by rw [e65]; omega) (by rw [e65]; omega), e65]
    rw [i_add (by rw [this, e10]; omega) (by rw [this, e10]; omega), this, e10]
    omega
  simp only [i_lt, e48, e57, e65, e70, e97, e102]
  repeat' split
  all_goals first | (left; rfl) | (right; (first | rw [s1 (by omega)] | rw [s2 (by omega)] | rw [s3 (by omega)]); omega)
/-- a character that was read -/
def chOK (ts : List Int32) (k : Nat) (c : Int32) (e : Nat) : Prop := (0 ≤ c ∧ c ≤ 127) ∧ (esc c).length + k ≤ e ∧ k < e ∧ e ≤ ts.length
theorem esc_6 : ∀ n, n < 128 → (esc (Int32.ofNat n)).length ≤ 6 := by decide +kernel
theorem esc_p : ∀ n, n < 127 → 32 ≤ n → n ≠ 34 → n ≠ 92 → esc (Int32.ofNat n) = [Int32.ofNat n] := by decide +kernel
theorem mean_k : ∀ b : Int32, sg_meaning b ≠ -1 → (0 ≤ sg_meaning b ∧ sg_meaning b ≤ 127) ∧ (esc (sg_meaning b)).length ≤ 2 ∧ b ≠ -1 := by
  intro b
  unfold sg_meaning
  by_cases h1 : b = 34
  · rw [if_pos h1, h1]; decide
  rw [if_neg h1]
  by_cases h2 : b = 47
  · rw [if_pos h2, h2]; decide
  rw [if_neg h2]
  by_cases h3 : b = 92
  · rw [if_pos h3, h3]; decide
  rw [if_neg h3]
  by_cases h4 : b = 98
  · rw [if_pos h4, h4]; decide
  rw [if_neg h4]
  by_cases h5 : b = 102
  · rw [if_pos h5, h5]; decide
  rw [if_neg h5]
  by_cases h6 : b = 110
  · rw [if_pos h6, h6]; decide
  rw [if_neg h6]
  by_cases h7 : b = 114
  · rw [if_pos h7, h7]; decide
  rw [if_neg h7]
  by_cases h8 : b = 116
  · rw [if_pos h8, h8]; decide
  rw [if_neg h8]
  intro h
  exact absurd rfl h
theorem hexv_m1 : sg_hexv (-1) = -1 := by decide
theorem hex_mul {x y : Int32} {X Y : Int} (hx : x.toInt = X) (hy : y.toInt = Y) (h1 : 0 ≤ X ∧ X ≤ 100000) (h2 : 0 ≤ Y ∧ Y ≤ 15) : (x * 16 + y).toInt = X * 16 + Y := by
  have e16 : (16 : Int32).toInt = 16 := rfl
  have m : (x * 16).toInt = X * 16 := by
    rw [Int32.toInt_mul, hx, e16, Int.bmod_def]
    omega
  rw [i_add (by rw [m, hy]; omega) (by rw [m, hy]; omega), m, hy]
theorem pEsc_ok {ts : List Int32} (hl : ts.length ≤ 4096) {k e : Nat} {c : Int32} (hk : k ≤ 5000) (h : pEsc ts k = some (c, e)) : chOK ts k c e := by
  unfold pEsc at h
  by_cases hu : atP' ts (k + 1) = 117
  · rw [if_pos hu] at h
    by_cases hh : sg_hexv (atP' ts (k + 2)) = -1 ∨ sg_hexv (atP' ts (k + 3)) = -1 ∨ sg_hexv (atP' ts (k + 4)) = -1 ∨ sg_hexv (atP' ts (k + 5)) = -1
    · rw [if_pos hh] at h
      cases h
    · rw [if_neg hh] at h
      have n1 : sg_hexv (atP' ts (k + 2)) ≠ -1 := fun c => hh (Or.inl c)
      have n2 : sg_hexv (atP' ts (k + 3)) ≠ -1 := fun c => hh (Or.inr (Or.inl c))
      have n3 : sg_hexv (atP' ts (k + 4)) ≠ -1 := fun c => hh (Or.inr (Or.inr (Or.inl c)))
      have n4 : sg_hexv (atP' ts (k + 5)) ≠ -1 := fun c => hh (Or.inr (Or.inr (Or.inr c)))
      obtain ⟨l5, -, -⟩ := at_lt hl (k := k + 5) (by omega) rfl (fun c => n4 (by rw [c]; exact hexv_m1))
      have r1 := (hexv_rng _).resolve_left n1
      have r2 := (hexv_rng _).resolve_left n2
      have r3 := (hexv_rng _).resolve_left n3
      have r4 := (hexv_rng _).resolve_left n4
      have m1 := hex_mul (x := sg_hexv (atP' ts (k + 2))) (y := sg_hexv (atP' ts (k + 3))) rfl rfl (by omega) r2
      have m2 := hex_mul m1 (y := sg_hexv (atP' ts (k + 4))) rfl (by omega) r3
      have m3 := hex_mul m2 (y := sg_hexv (atP' ts (k + 5))) rfl (by omega) r4
      by_cases h7 : ((sg_hexv (atP' ts (k + 2)) * 16 + sg_hexv (atP' ts (k + 3))) * 16 + sg_hexv (atP' ts (k + 4))) * 16 + sg_hexv (atP' ts (k + 5)) ≤ 127
      · rw [if_pos h7] at h
        cases h
        have c1 : 0 ≤ ((sg_hexv (atP' ts (k + 2)) * 16 + sg_hexv (atP' ts (k + 3))) * 16 + sg_hexv (atP' ts (k + 4))) * 16 + sg_hexv (atP' ts (k + 5)) := by
          rw [i_le, m3, show (0 : Int32).toInt = 0 from rfl]
          omega
        obtain ⟨n, hn, en⟩ := ch_of ⟨c1, h7⟩
        have := esc_6 n hn
        rw [← en] at this
        exact ⟨⟨c1, h7⟩, by omega, by omega, by omega⟩
      · rw [if_neg h7] at h
        cases h
  · rw [if_neg hu] at h
    by_cases hm : sg_meaning (atP' ts (k + 1)) = -1
    · rw [if_pos hm] at h
      cases h
    · rw [if_neg hm] at h
      cases h
      obtain ⟨c1, c2, c3⟩ := mean_k _ hm
      obtain ⟨l1, -, -⟩ := at_lt hl (k := k + 1) (by omega) rfl c3
      exact ⟨c1, by omega, by omega, by omega⟩
theorem pChr_ok {ts : List Int32} (hl : ts.length ≤ 4096) {k e : Nat} {c : Int32} (hk : k ≤ 5000) (h34 : atP' ts k ≠ 34) (h : pChr ts k = some (c, e)) : chOK ts k c e := by
  unfold pChr at h
  by_cases h9 : atP' ts k = 92
  · rw [if_pos h9] at h
    exact pEsc_ok hl hk h
  rw [if_neg h9] at h
  by_cases h3 : atP' ts k < 32
  · rw [if_pos h3] at h
    cases h
  rw [if_neg h3] at h
  by_cases h1 : atP' ts k ≤ 126
  · rw [if_pos h1] at h
    cases h
    obtain ⟨l1, -, -⟩ := at_lt hl (k := k) (by omega) rfl (fun c => h3 (by rw [c]; decide))
    have c1 : 0 ≤ atP' ts k ∧ atP' ts k ≤ 127 := by
      rw [i_lt, show (32 : Int32).toInt = 32 from rfl] at h3
      rw [i_le, show (126 : Int32).toInt = 126 from rfl] at h1
      rw [i_le, i_le, show (0 : Int32).toInt = 0 from rfl, show (127 : Int32).toInt = 127 from rfl]
      omega
    obtain ⟨n, hn, en⟩ := ch_of c1
    have h3' : 32 ≤ n := by
      rw [en, show (32 : Int32) = Int32.ofNat 32 from rfl, i_lt' (by omega) (by omega)] at h3
      omega
    have h1' : n < 127 := by
      rw [en, show (126 : Int32) = Int32.ofNat 126 from rfl, i_le' (by omega) (by omega)] at h1
      omega
    have := esc_p n h1' h3' (fun e => h34 (by rw [en, e]; rfl)) (fun e => h9 (by rw [en, e]; rfl))
    refine ⟨c1, ?_, by omega, by omega⟩
    rw [en, this]
    simp only [List.length_cons, List.length_nil]
    omega
  · rw [if_neg h1] at h
    cases h
theorem pStr_ok {ts : List Int32} (hl : ts.length ≤ 4096) : ∀ (n k : Nat) (s : List Int32) (e : Nat), k ≤ 5000 → pStr ts n k = some (s, e) → okS s ∧ (s.flatMap esc).length + 1 + k ≤ e ∧ e ≤ ts.length := by
  intro n
  induction n with
  | zero => intro k s e _ h; cases h
  | succ n ih =>
    intro k s e hk h
    unfold pStr at h
    by_cases h34 : atP' ts k = 34
    · rw [if_pos h34] at h
      cases h
      obtain ⟨l1, -, -⟩ := at_lt hl (k := k) (by omega) h34 (by decide)
      exact ⟨fun c hc => (by cases hc), (by rw [List.flatMap_nil, List.length_nil]; omega), by omega⟩
    · rw [if_neg h34] at h
      cases hc : pChr ts k with
      | none => rw [hc] at h; cases h
      | some c =>
        obtain ⟨c, e1⟩ := c
        obtain ⟨a1, a2, a3, a4⟩ := pChr_ok hl hk h34 hc
        rw [hc] at h
        cases hs : pStr ts n e1 with
        | none =>
          have h : ((pStr ts n e1).map fun s => (c :: s.1, s.2)) = some (s, e) := h
          rw [hs] at h
          cases h
        | some x =>
          obtain ⟨s1, e2⟩ := x
          have h : ((pStr ts n e1).map fun s => (c :: s.1, s.2)) = some (s, e) := h
          rw [hs] at h
          cases h
          obtain ⟨b1, b2, b3⟩ := ih e1 s1 e2 (by omega) hs
          refine ⟨fun (x : Int32) (hx : x ∈ c :: s1) => ?_, ?_, b3⟩
          · rcases List.mem_cons.mp hx with g | g
            · rw [g]; exact a1
            · exact b1 x g
          · show ((c :: s1).flatMap esc).length + 1 + k ≤ e2
            rw [List.flatMap_cons, List.length_append]
            omega
end Parse180
end

section
/-! What a text that was read is like: numbers, values. -/
section Parse181
theorem dig_d {b : Int32} (h : sg_digit b ≠ 0) : ∃ d, d < 10 ∧ b = Int32.ofNat (48 + d) ∧ (b - 48).toNatClampNeg = d ∧ b ≠ -1 := by
  unfold sg_digit at h
  have e48 : (48 : Int32).toInt = 48 := rfl
  have e57 : (57 : Int32).toInt = 57 := rfl
  by_cases h1 : b < 48
  · rw [if_pos h1] at h; exact absurd rfl h
  rw [if_neg h1] at h
  by_cases h2 : 57 < b
  · rw [if_pos h2] at h; exact absurd rfl h
  rw [i_lt, e48] at h1
  rw [i_lt, e57] at h2
  have hb : b = Int32.ofNat (48 + (b.toInt - 48).toNat) := i_ofnn (by omega) (by omega)
  refine ⟨(b.toInt - 48).toNat, by omega, hb, ?_, fun c => ?_⟩
  · rw [i_nat, i_sub (by rw [e48]; omega) (by rw [e48]; omega), e48]
  · rw [c] at h1
    exact h1 (by decide)
def pl (a : Nat) (b : Int32) : Nat := a * 10 + (b - 48).toNatClampNeg
theorem sat_ge : ∀ (ds : List Int32) (a : Nat), 9007199254740991 < a → ds.foldl sat a = a := by
  intro ds
  induction ds with
  | nil => intro a _; rfl
  | cons d ds ih =>
    intro a h
    rw [List.foldl_cons]
    have : sat a d = a := by unfold sat; rw [if_neg (by omega)]
    rw [this]
    exact ih a h
theorem sat_pl : ∀ (ds : List Int32) (a : Nat), ds.foldl sat a ≤ 9007199254740991 → ds.foldl sat a = ds.foldl pl a := by
  intro ds
  induction ds with
  | nil => intro a _; rfl
  | cons d ds ih =>
    intro a h
    by_cases ha : a ≤ 9007199254740991
    · have e : sat a d = pl a d := by unfold sat pl; rw [if_pos ha]
      rw [List.foldl_cons, e] at h
      rw [List.foldl_cons, List.foldl_cons, e]
      exact ih _ h
    · rw [sat_ge _ _ (by omega)] at h
      omega
theorem pl_dig : ∀ (L : Nat) (ds : List Int32), ds.length = L + 1 → (∀ b ∈ ds, sg_digit b ≠ 0) → ds.head? ≠ some 48 → 10 ^ L ≤ ds.foldl pl 0 ∧ ∀ n, L < n → digF n (ds.foldl pl 0) = ds := by
  intro L
  induction L with
  | zero =>
    intro ds hl hd hh
    obtain ⟨b, rfl⟩ : ∃ b, ds = [b] := List.length_eq_one_iff.mp hl
    obtain ⟨d, h1, h2, h3, -⟩ := dig_d (hd b List.mem_cons_self)
    have e : [b].foldl pl 0 = d := by show 0 * 10 + (b - 48).toNatClampNeg = d; rw [h3]; omega
    rw [e]
    refine ⟨?_, fun n hn => ?_⟩
    · have : d ≠ 0 := fun c => hh (by rw [h2, c]; rfl)
      simp only [Nat.pow_zero]
      omega
    · cases n with
      | zero => omega
      | succ n =>
        unfold digF
        rw [if_pos h1, h2]
  | succ L ih =>
    intro ds hl hd hh
    rcases List.eq_nil_or_concat ds with c | ⟨ds', b, c⟩
    · rw [c] at hl; simp at hl
    rw [List.concat_eq_append] at c
    have hl' : ds'.length = L + 1 := by rw [c] at hl; simp at hl; exact hl
    have hh' : ds'.head? ≠ some 48 := by
      intro x
      apply hh
      cases ds' with
      | nil => simp at hl'
      | cons y z => rw [c]; exact x
    obtain ⟨a1, a2⟩ := ih ds' hl' (fun x hx => hd x (by rw [c]; exact List.mem_append_left _ hx)) hh'
    obtain ⟨d, h1, h2, h3, -⟩ := dig_d (hd b (by rw [c]; simp))
    have e : ds.foldl pl 0 = ds'.foldl pl 0 * 10 + d := by
      rw [c, List.foldl_append]
      show pl (ds'.foldl pl 0) b = _
      unfold pl
      rw [h3]
    have hp : 1 ≤ 10 ^ L := Nat.one_le_pow _ _ (by decide)
    rw [e]
    refine ⟨by rw [Nat.pow_succ]; omega, fun n hn => ?_⟩
    cases n with
    | zero => omega
    | succ n =>
      unfold digF
      rw [if_neg (by omega), show (ds'.foldl pl 0 * 10 + d) / 10 = ds'.foldl pl 0 by omega, show (ds'.foldl pl 0 * 10 + d) % 10 = d by omega, a2 n (by omega), c, h2]
theorem take_while_mem {p : Int32 → Bool} : ∀ (l : List Int32), ∀ b ∈ l.takeWhile p, p b = true := by
  intro l
  induction l with
  | nil => intro b hb; cases hb
  | cons x l ih =>
    intro b hb
    by_cases hx : p x = true
    · rw [List.takeWhile_cons_of_pos hx] at hb
      rcases List.mem_cons.mp hb with e | e
      · rw [e]; exact hx
      · exact ih b e
    · rw [List.takeWhile_cons_of_neg hx] at hb
      cases hb
theorem digs_dig (ts : List Int32) (k : Nat) : ∀ b ∈ digs ts k, sg_digit b ≠ 0 := fun b hb => by
  have := take_while_mem (ts.drop k) b hb
  simpa using this
theorem digs_cons {ts : List Int32} (hl : ts.length ≤ 4096) {k : Nat} (hk : k < 100000) (h : sg_digit (atP' ts k) ≠ 0) : k < ts.length ∧ digs ts k = atP' ts k :: digs ts (k + 1) := by
  obtain ⟨d, -, -, -, n1⟩ := dig_d h
  obtain ⟨l1, l2, l3⟩ := at_lt hl hk rfl n1
  refine ⟨l1, ?_⟩
  unfold digs
  rw [l3, List.takeWhile_cons_of_pos (by simpa using h)]
theorem digs_nil {ts : List Int32} (hl : ts.length ≤ 4096) {k : Nat} (hk : k < 100000) (h : sg_digit (atP' ts k) = 0) : digs ts k = [] := by
  unfold digs
  by_cases c : k < ts.length
  · have := tat_in hl c
    unfold atP' at h
    rw [this] at h
    rw [List.drop_eq_getElem_cons c, List.takeWhile_cons_of_neg (by simpa using h)]
  · rw [List.drop_of_length_le (by omega)]
    rfl
theorem digs_len (ts : List Int32) (k : Nat) (h : k ≤ ts.length) : k + (digs ts k).length ≤ ts.length := by
  have := (List.takeWhile_sublist (fun b => sg_digit b != 0) (l := ts.drop k)).length_le
  rw [List.length_drop] at this
  unfold digs
  omega
theorem digs_pre (ts : List Int32) (k : Nat) : (ts.drop k).take (digs ts k).length = digs ts k := by
  unfold digs
  have := List.takeWhile_prefix (fun b => sg_digit b != 0) (l := ts.drop k)
  exact (List.prefix_iff_eq_take.mp this).symm
/-- a number that was read: its digits are those it is printed with -/
theorem digs_num {ts : List Int32} (hl : ts.length ≤ 4096) {k : Nat} (hk : k < 100000) (h : sg_digit (atP' ts k) ≠ 0) (h0 : atP' ts k ≠ 48) (hm : (digs ts k).foldl sat 0 ≤ 9007199254740991) : digF 20 ((digs ts k).foldl sat 0) = digs ts k ∧ 0 < (digs ts k).foldl sat 0 := by
  obtain ⟨l1, e⟩ := digs_cons hl hk h
  have hd := digs_dig ts k
  have hh : (digs ts k).head? ≠ some 48 := by rw [e]; intro c; exact h0 (Option.some.inj c)
  have hs := sat_pl _ _ hm
  rw [hs] at hm ⊢
  obtain ⟨L, hL⟩ : ∃ L, (digs ts k).length = L + 1 := ⟨(digs ts (k + 1)).length, by rw [e]; rfl⟩
  obtain ⟨a1, a2⟩ := pl_dig L _ hL hd hh
  have hp : 1 ≤ 10 ^ L := Nat.one_le_pow _ _ (by decide)
  have : L < 20 := by
    by_cases c : L < 20
    · exact c
    · have := Nat.pow_le_pow_right (n := 10) (by decide) (show 20 ≤ L by omega)
      have p20 : 10 ^ 20 = 100000000000000000000 := by decide
      omega
  exact ⟨a2 20 this, by omega⟩
/-- how a number was read -/
theorem pNum_cases {ts : List Int32} (hl : ts.length ≤ 4096) {k e : Nat} {v : Int} (hk : k ≤ 5000) (h : pNum ts k = some (v, e)) : (-9007199254740991 ≤ v ∧ v ≤ 9007199254740991) ∧ k < e ∧ e ≤ ts.length ∧ (pnum v).length + k ≤ e := by
  unfold pNum at h
  obtain ⟨k', hk'⟩ : ∃ k', k' = if atP' ts k = 45 then k + 1 else k := ⟨_, rfl⟩
  rw [← hk'] at h
  have kk : k ≤ k' ∧ k' ≤ k + 1 := by rw [hk']; split <;> omega
  by_cases h1 : sg_digit (atP' ts k') = 0
  · rw [if_pos h1] at h; cases h
  rw [if_neg h1] at h
  obtain ⟨l1, e1⟩ := digs_cons hl (by omega) h1
  by_cases h2 : atP' ts k' = 48
  · rw [if_pos h2] at h
    cases h
    refine ⟨by omega, by omega, by omega, ?_⟩
    rw [show (pnum 0).length = 1 from by decide]
    omega
  rw [if_neg h2] at h
  by_cases h3 : (digs ts k').foldl sat 0 ≤ 9007199254740991
  rotate_left
  · rw [if_neg h3] at h; cases h
  rw [if_pos h3] at h
  obtain ⟨d1, d2⟩ := digs_num hl (by omega) h1 h2 h3
  have dl := digs_len ts k' (by omega)
  have d0 : 0 < (digs ts k').length := by rw [e1]; simp
  generalize hw : (digs ts k').foldl sat 0 = w at *
  by_cases h4 : atP' ts k = 45
  · rw [if_pos h4] at h hk'
    cases h
    refine ⟨by omega, by omega, by omega, ?_⟩
    unfold pnum
    rw [if_pos (by omega), Int.natAbs_neg, Int.natAbs_natCast, d1, List.length_append]
    simp only [List.length_cons, List.length_nil]
    omega
  · rw [if_neg h4] at h hk'
    cases h
    refine ⟨by omega, by omega, by omega, ?_⟩
    unfold pnum
    rw [if_neg (by omega), Int.natAbs_natCast, d1]
    simp only [List.nil_append]
    omega
theorem pLit_ok {ts w : List Int32} {k e : Nat} (hw : w ≠ []) (h : pLit ts w k = some e) : e = k + w.length ∧ e ≤ ts.length := by
  unfold pLit at h
  by_cases c : (ts.drop k).take w.length = w
  · rw [if_pos c] at h
    cases h
    have := congrArg List.length c
    rw [List.length_take, List.length_drop] at this
    have h0 := List.length_pos_iff.mpr hw
    exact ⟨rfl, by omega⟩
  · rw [if_neg c] at h; cases h
/-- what is known of a value that was read -/
def rdV (ts : List Int32) (k : Nat) (t : Vl) (e : Nat) : Prop := wV t ∧ k + (bV t).length ≤ e ∧ e ≤ ts.length
theorem jn_one (b : Bool) (m : Mb) : jn ([m].map (bM b)) = bM b m := rfl
theorem jn_more (b : Bool) (m : Mb) {l : List Mb} (h : l ≠ []) : jn ((m :: l).map (bM b)) = bM b m ++ 44 :: jn (l.map (bM b)) := by
  rw [jn_cons, if_neg h]
theorem pEl_ok {ts : List Int32} (hl : ts.length ≤ 4096) {rec : Nat → Option (Vl × Nat)} (hrec : ∀ k t e, k ≤ ts.length → rec k = some (t, e) → rdV ts k t e) : ∀ (m k : Nat) (l : List Mb) (e : Nat), k ≤ ts.length → pEl ts rec m k = some (l, e) → l ≠ [] ∧ okL l ∧ k + (jn (l.map (bM false))).length + 1 ≤ e ∧ e ≤ ts.length := by
  intro m
  induction m with
  | zero => intro k l e _ h; cases h
  | succ m ih =>
    intro k l e hk h
    unfold pEl at h
    cases hr : rec k with
    | none => rw [hr] at h; cases h
    | some x =>
      obtain ⟨t, e1⟩ := x
      rw [hr, o_bind] at h
      obtain ⟨a1, a2, a3⟩ := hrec k t e1 hk hr
      obtain ⟨s1, s2⟩ := skp_le ts e1
      have s2 := s2 a3
      simp only at h
      by_cases h1 : atP' ts (skp ts e1) = 44
      · rw [if_pos h1] at h
        obtain ⟨l1, -, -⟩ := at_lt hl (by omega) h1 (by decide)
        obtain ⟨s3, s4⟩ := skp_le ts (skp ts e1 + 1)
        have s4 := s4 (by omega)
        cases hq : pEl ts rec m (skp ts (skp ts e1 + 1)) with
        | none => rw [hq] at h; cases h
        | some y =>
          obtain ⟨l', e'⟩ := y
          rw [hq] at h
          cases h
          dsimp only
          obtain ⟨b1, b2, b3, b4⟩ := ih _ l' e' s4 hq
          refine ⟨by simp, fun x hx => ?_, ?_, b4⟩
          · rcases List.mem_cons.mp hx with c | c
            · rw [c]; exact ⟨fun _ hc => (by cases hc), a1⟩
            · exact b2 x c
          · rw [jn_more false _ b1, List.length_append, List.length_cons, show (bM false ([], t)).length = (bV t).length from rfl]
            omega
      · rw [if_neg h1] at h
        by_cases h2 : atP' ts (skp ts e1) = 93
        · rw [if_pos h2] at h
          cases h
          obtain ⟨l1, -, -⟩ := at_lt hl (by omega) h2 (by decide)
          refine ⟨by simp, fun x hx => ?_, ?_, by omega⟩
          · rw [List.mem_singleton.mp hx]; exact ⟨fun _ hc => (by cases hc), a1⟩
          · rw [jn_one, show (bM false ([], t)).length = (bV t).length from rfl]
            omega
        · rw [if_neg h2] at h; cases h
theorem bM_len (s : List Int32) (t : Vl) : (bM true (s, t)).length = (s.flatMap esc).length + 3 + (bV t).length := by
  unfold bM pstr
  simp only [if_true, List.length_append, List.length_cons, List.length_nil]
theorem pMe_ok {ts : List Int32} (hl : ts.length ≤ 4096) {rec : Nat → Option (Vl × Nat)} (hrec : ∀ k t e, k ≤ ts.length → rec k = some (t, e) → rdV ts k t e) : ∀ (m : Nat) (ns : List (List Int32)) (k : Nat) (l : List Mb) (e : Nat), k ≤ ts.length → pMe ts rec m ns k = some (l, e) → l ≠ [] ∧ okL l ∧ ((l.map fun m => m.1).Nodup ∧ ∀ x ∈ l, x.1 ∉ ns) ∧ k + (jn (l.map (bM true))).length + 1 ≤ e ∧ e ≤ ts.length := by
  intro m
  induction m with
  | zero => intro ns k l e _ h; cases h
  | succ m ih =>
    intro ns k l e hk h
    unfold pMe at h
    by_cases h34 : atP' ts k = 34
    rotate_left
    · rw [if_neg h34] at h; cases h
    rw [if_pos h34] at h
    obtain ⟨l34, -, -⟩ := at_lt hl (by omega) h34 (by decide)
    cases hs : pStr ts 5000 (k + 1) with
    | none => rw [hs] at h; cases h
    | some sx =>
      obtain ⟨s, e0⟩ := sx
      rw [hs, o_bind] at h
      obtain ⟨c1, c2, c3⟩ := pStr_ok hl 5000 (k + 1) s e0 (by omega) hs
      simp only at h
      by_cases hn : s ∈ ns
      · rw [if_pos hn] at h; cases h
      rw [if_neg hn] at h
      obtain ⟨u1, u2⟩ := skp_le ts e0
      have u2 := u2 c3
      by_cases h58 : atP' ts (skp ts e0) = 58
      rotate_left
      · rw [if_neg h58] at h; cases h
      rw [if_pos h58] at h
      obtain ⟨l58, -, -⟩ := at_lt hl (by omega) h58 (by decide)
      obtain ⟨u3, u4⟩ := skp_le ts (skp ts e0 + 1)
      have u4 := u4 (by omega)
      cases hr : rec (skp ts (skp ts e0 + 1)) with
      | none => rw [hr] at h; cases h
      | some x =>
        obtain ⟨t, e1⟩ := x
        rw [hr, o_bind] at h
        obtain ⟨a1, a2, a3⟩ := hrec _ t e1 u4 hr
        obtain ⟨s1, s2⟩ := skp_le ts e1
        have s2 := s2 a3
        simp only at h
        by_cases h1 : atP' ts (skp ts e1) = 44
        · rw [if_pos h1] at h
          obtain ⟨l1, -, -⟩ := at_lt hl (by omega) h1 (by decide)
          obtain ⟨s3, s4⟩ := skp_le ts (skp ts e1 + 1)
          have s4 := s4 (by omega)
          cases hq : pMe ts rec m (ns ++ [s]) (skp ts (skp ts e1 + 1)) with
          | none => rw [hq] at h; cases h
          | some y =>
            obtain ⟨l', e'⟩ := y
            rw [hq] at h
            cases h
            dsimp only
            obtain ⟨b1, b2, ⟨b5, b6⟩, b3, b4⟩ := ih _ _ l' e' s4 hq
            refine ⟨by simp, fun x hx => ?_, ⟨?_, fun x hx => ?_⟩, ?_, b4⟩
            · rcases List.mem_cons.mp hx with c | c
              · rw [c]; exact ⟨c1, a1⟩
              · exact b2 x c
            · rw [List.map_cons, List.nodup_cons]
              refine ⟨fun c => ?_, b5⟩
              obtain ⟨y, y1, y2⟩ := List.mem_map.mp c
              exact b6 y y1 (by rw [y2]; simp)
            · rcases List.mem_cons.mp hx with c | c
              · rw [c]; exact hn
              · intro d; exact b6 x c (List.mem_append_left _ d)
            · rw [jn_more true _ b1, List.length_append, List.length_cons, bM_len]
              omega
        · rw [if_neg h1] at h
          by_cases h2 : atP' ts (skp ts e1) = 125
          · rw [if_pos h2] at h
            cases h
            obtain ⟨l1, -, -⟩ := at_lt hl (by omega) h2 (by decide)
            refine ⟨by simp, fun x hx => ?_, ⟨by simp, fun x hx => ?_⟩, ?_, by omega⟩
            · rw [List.mem_singleton.mp hx]; exact ⟨c1, a1⟩
            · rw [List.mem_singleton.mp hx]; exact hn
            · rw [jn_one, bM_len]
              omega
          · rw [if_neg h2] at h; cases h
theorem map_some {α β : Type} {o : Option α} {f : α → β} {b : β} (h : o.map f = some b) : ∃ a, o = some a ∧ b = f a := by
  cases o with
  | none => cases h
  | some a => exact ⟨a, rfl, (Option.some.inj h).symm⟩
theorem okS_nil : okS [] := fun _ hc => by cases hc
theorem leaf_w {k : Nat} {v : Int} {s : List Int32} (h1 : k ≤ 4) (h2 : k = 3 → -9007199254740991 ≤ v ∧ v ≤ 9007199254740991) (h3 : okS s) : wV (k, v, s, .leaf) :=
  ⟨by show k ≤ 6; omega, h2, h3, fun _ => rfl, fun c => by have c : k = 6 := c; omega, trivial⟩
theorem pVal_ok {ts : List Int32} (hl : ts.length ≤ 4096) : ∀ (n k : Nat) (t : Vl) (e : Nat), k ≤ ts.length → pVal ts n k = some (t, e) → rdV ts k t e := by
  intro n
  induction n with
  | zero => intro k t e _ h; cases h
  | succ n ih =>
    intro k t e hk h
    unfold pVal at h
    obtain ⟨s1, s2⟩ := skp_le ts (k + 1)
    by_cases h91 : atP' ts k = 91
    · rw [if_pos h91] at h
      obtain ⟨l1, -, -⟩ := at_lt hl (by omega) h91 (by decide)
      have s2 := s2 (by omega)
      by_cases hn : n = 0
      · rw [if_pos hn] at h; cases h
      rw [if_neg hn] at h
      by_cases h93 : atP' ts (skp ts (k + 1)) = 93
      · rw [if_pos h93] at h
        cases h
        obtain ⟨l2, -, -⟩ := at_lt hl (by omega) h93 (by decide)
        refine ⟨wV_5 okS_nil (fun m hm => by cases hm), ?_, by omega⟩
        rw [bV_5]
        show k + 2 ≤ _
        omega
      rw [if_neg h93] at h
      obtain ⟨⟨l, e'⟩, q1, q2⟩ := map_some h
      cases q2
      obtain ⟨b1, b2, b3, b4⟩ := pEl_ok hl ih _ _ l e' s2 q1
      refine ⟨wV_5 okS_nil b2, ?_, b4⟩
      rw [bV_5, List.length_cons, List.length_append]
      simp only [List.length_cons, List.length_nil]
      omega
    rw [if_neg h91] at h
    by_cases h123 : atP' ts k = 123
    · rw [if_pos h123] at h
      obtain ⟨l1, -, -⟩ := at_lt hl (by omega) h123 (by decide)
      have s2 := s2 (by omega)
      by_cases hn : n = 0
      · rw [if_pos hn] at h; cases h
      rw [if_neg hn] at h
      by_cases h125 : atP' ts (skp ts (k + 1)) = 125
      · rw [if_pos h125] at h
        cases h
        obtain ⟨l2, -, -⟩ := at_lt hl (by omega) h125 (by decide)
        refine ⟨wV_6 okS_nil (fun m hm => by cases hm) (by unfold nod; simp), ?_, by omega⟩
        rw [bV_6]
        show k + 2 ≤ _
        omega
      rw [if_neg h125] at h
      obtain ⟨⟨l, e'⟩, q1, q2⟩ := map_some h
      cases q2
      obtain ⟨b1, b2, b5, b3, b4⟩ := pMe_ok hl ih _ _ _ l e' s2 q1
      refine ⟨wV_6 okS_nil b2 b5.1, ?_, b4⟩
      rw [bV_6, List.length_cons, List.length_append]
      simp only [List.length_cons, List.length_nil]
      omega
    rw [if_neg h123] at h
    by_cases h34 : atP' ts k = 34
    · rw [if_pos h34] at h
      obtain ⟨⟨s, e'⟩, q1, q2⟩ := map_some h
      cases q2
      obtain ⟨c1, c2, c3⟩ := pStr_ok hl 5000 (k + 1) s e' (by omega) q1
      refine ⟨leaf_w (by decide) (fun c => by omega) c1, ?_, c3⟩
      show k + (pstr s).length ≤ e'
      unfold pstr
      simp only [List.length_cons, List.length_append, List.length_nil]
      omega
    rw [if_neg h34] at h
    by_cases h110 : atP' ts k = 110
    · rw [if_pos h110] at h
      obtain ⟨e', q1, q2⟩ := map_some h
      cases q2
      obtain ⟨c1, c2⟩ := pLit_ok (by simp) q1
      simp only [List.length_cons, List.length_nil] at c1
      exact ⟨leaf_w (by decide) (fun c => by omega) okS_nil, by show k + 4 ≤ e; omega, c2⟩
    rw [if_neg h110] at h
    by_cases h102 : atP' ts k = 102
    · rw [if_pos h102] at h
      obtain ⟨e', q1, q2⟩ := map_some h
      cases q2
      obtain ⟨c1, c2⟩ := pLit_ok (by simp) q1
      simp only [List.length_cons, List.length_nil] at c1
      exact ⟨leaf_w (by decide) (fun c => by omega) okS_nil, by show k + 5 ≤ e; omega, c2⟩
    rw [if_neg h102] at h
    by_cases h116 : atP' ts k = 116
    · rw [if_pos h116] at h
      obtain ⟨e', q1, q2⟩ := map_some h
      cases q2
      obtain ⟨c1, c2⟩ := pLit_ok (by simp) q1
      simp only [List.length_cons, List.length_nil] at c1
      exact ⟨leaf_w (by decide) (fun c => by omega) okS_nil, by show k + 4 ≤ e; omega, c2⟩
    rw [if_neg h116] at h
    obtain ⟨⟨v, e'⟩, q1, q2⟩ := map_some h
    cases q2
    obtain ⟨c1, c2, c3, c4⟩ := pNum_cases hl (by omega) q1
    refine ⟨leaf_w (by decide) (fun _ => c1) okS_nil, ?_, c3⟩
    show k + (pnum v).length ≤ e'
    omega
end Parse181
end
