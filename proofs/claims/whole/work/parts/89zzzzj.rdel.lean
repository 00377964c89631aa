/-! The reference's del: sorts the paths, cuts them. -/
section RDel176
theorem d162 {k75 : SS → Int32 → Int32 → Nat → Int32 → Int32 → Option SS} {k112 : SS → Int32 → Int32 → Nat → Int32 → Int32 → Option SS} {pb : Nat} {v : Int} {s : List Int32} {es : List Mb} {l1 l2 : Int32} (hE : okE es) : ∀ (m j n : Nat) (S : SS), j + m = es.length → m < n → cat (S pb) 0 (5, v, s, ofL es) → rd S 78 12 = 0 → ∃ k162, b_del_l162 k75 k112 n S l1 l2 pb (Int32.ofNat es.length) (Int32.ofNat (smL (es.take j))) (Int32.ofNat j) = (if es.length ≤ 100 ∧ smL es ≤ 100 then b_del_l236 k75 k112 k162 10000 S l1 l2 pb (Int32.ofNat es.length) 0 else b_del_l236 k75 k112 k162 10000 (wr S 90 2 1) l1 l2 pb 0 0) := by
  have sm : ∀ l : List Mb, (∀ x ∈ l, cnt x ≤ 100) → smL l ≤ 100 * l.length := by
    intro l
    induction l with
    | nil => intro _; exact Nat.zero_le _
    | cons x l ih =>
      intro h
      have h1 := ih (fun y hy => h y (List.mem_cons_of_mem _ hy))
      have h2 := h x List.mem_cons_self
      unfold smL at h1 ⊢
      rw [List.map_cons, List.sum_cons, List.length_cons]
      omega
  intro m
  induction m with
  | zero =>
    intro j n S hj hn hc hr
    obtain ⟨n, rfl⟩ : ∃ j, n = j + 1 := ⟨n - 1, by omega⟩
    have hlen : es.length ≤ 4500 := by
      by_cases c : 0 < es.length
      · exact (ep_at hc c).2.2.2
      · omega
    have hs := sm es (fun x hx => (hE x hx).2)
    refine ⟨b_del_l162 k75 k112 n, ?_⟩
    rw [List.take_of_length_le (by omega)]
    show (if Int32.ofNat es.length ≤ Int32.ofNat j then (if (100 : Int32) < Int32.ofNat es.length then (if (rd S 78 12) = 0 then _ else _) else (if Int32.ofNat (smL es) ≤ (100 : Int32) then _ else (if (rd S 78 12) = 0 then _ else _))) else _) = _
    rw [if_pos ((i_le' (by omega) (by omega)).mpr (by omega)), if_pos hr]
    by_cases c : es.length ≤ 100
    · rw [if_neg (by rw [show (100 : Int32) = Int32.ofNat 100 from rfl, i_lt' (by omega) (by omega)]; omega)]
      by_cases d : smL es ≤ 100
      · rw [if_pos (by rw [show (100 : Int32) = Int32.ofNat 100 from rfl, i_le' (by omega) (by omega)]; exact d), if_pos ⟨c, d⟩]
      · rw [if_neg (by rw [show (100 : Int32) = Int32.ofNat 100 from rfl, i_le' (by omega) (by omega)]; exact d), if_neg (fun e => d e.2)]
    · rw [if_pos (by rw [show (100 : Int32) = Int32.ofNat 100 from rfl, i_lt' (by omega) (by omega)]; omega), if_neg (fun e => c e.1)]
  | succ m ih =>
    intro j n S hj hn hc hr
    obtain ⟨n, rfl⟩ : ∃ j, n = j + 1 := ⟨n - 1, by omega⟩
    have hjl : j < es.length := by omega
    obtain ⟨c1, c2, c3, c4⟩ := ep_at hc hjl
    have cm := ep_many hc hjl (hE _ (List.getElem_mem hjl)).1
    obtain ⟨k162, h⟩ := ih (j + 1) n S (by omega) (by omega) hc hr
    refine ⟨k162, ?_⟩
    rw [← h, smL_s hjl]
    show (if Int32.ofNat es.length ≤ Int32.ofNat j then _ else (if (rd S 78 12) = 0 then _ else _)) = _
    rw [if_neg (by rw [i_le' (by omega) (by omega)]; omega), if_pos hr, c2, o_bind, cm, o_bind, i_a1, Int32.ofNat_add (smL (es.take j))]
/-- in falling order -/
def dscE (es : List Mb) (L : List Nat) : Prop := L.Pairwise (fun a b => ¬ ltS (key 61 (es.getD a nulM).2) (key 61 (es.getD b nulM).2))
theorem ltS_asym {a b : List Int32} (h : ltS a b) : ¬ ltS b a := fun c => ltS_irr _ (ltS_trans h c)
theorem nlt_trans {a b c : List Int32} (h1 : ¬ ltS a b) (h2 : ¬ ltS b c) : ¬ ltS a c := by
  intro h
  rcases ltS_tri a b with e | e | e
  · exact h1 e
  · exact h2 (e ▸ h)
  · exact h2 (ltS_trans e h)
theorem iset_at {P Z : List Int32} {h v : Int32} (hl : P.length < 2147483648) : iset (P ++ h :: Z) (Int32.ofNat P.length) v = some (P ++ v :: Z) := by
  rw [i_set (by simp) hl]
  congr 1
  rw [List.set_append_right _ _ (Nat.le_refl _), Nat.sub_self]
  rfl
theorem iget_at {P Z : List Int32} {h : Int32} (hl : P.length < 2147483648) : iget (P ++ h :: Z) (Int32.ofNat P.length) = some h := by
  rw [iget_in (by simp) hl]
  congr 1
  rw [List.getElem_append_right (Nat.le_refl _)]
  simp
theorem d265 {k75 k112 : SS → Int32 → Int32 → Nat → Int32 → Int32 → Option SS} {k162 : SS → Int32 → Int32 → Nat → Int32 → Int32 → Int32 → Option SS} {k236 : SS → Int32 → Int32 → Nat → Int32 → Int32 → Option SS} {pb x : Nat} {v : Int} {s : List Int32} {es : List Mb} {l1 l2 l5 l7 : Int32} {post : List Int32} (hpb : 82 ≤ pb ∧ pb ≤ 89) (hd : ∀ y ∈ es, dV y.2 ≤ 59) (hx : x < es.length) : ∀ (k n : Nat) (S : SS) (A D : List Nat) (h : Int32), A.length = k → k < n → k ≤ 100 → (∀ j ∈ A, j < es.length) → cat (S pb) 0 (5, v, s, ofL es) → S 97 = A.map (fun j => Int32.ofNat (epC es j)) ++ h :: (D.map (fun j => Int32.ofNat (epC es j)) ++ post) → ∃ S' F, b_del_l265 k75 k112 k162 k236 n S l1 l2 pb l5 l7 (Int32.ofNat (epC es x)) (Int32.ofNat k) = k236 S' l1 l2 pb l5 (l7 + 1) ∧ (∀ a, a ≠ 97 → S' a = S a) ∧ S' 97 = F.map (fun j => Int32.ofNat (epC es j)) ++ post ∧ F.Perm (x :: (A ++ D)) ∧ (dscE es (A ++ D) → (∀ d ∈ D, ltS (key 61 (es.getD d nulM).2) (key 61 (es.getD x nulM).2)) → dscE es F) := by
  intro k
  induction k with
  | zero =>
    intro n S A D h hA hn hk hAl hc h97
    obtain ⟨n, rfl⟩ : ∃ j, n = j + 1 := ⟨n - 1, by omega⟩
    have : A = [] := List.eq_nil_of_length_eq_zero hA
    subst this
    have h97 : S 97 = [] ++ h :: (D.map (fun j => Int32.ofNat (epC es j)) ++ post) := h97
    refine ⟨up S 97 ([] ++ Int32.ofNat (epC es x) :: (D.map (fun j => Int32.ofNat (epC es j)) ++ post)), x :: D, ?_, fun a ha => up_ne ha, by rw [up_same]; rfl, List.Perm.refl _, fun hd1 hd2 => ?_⟩
    · show (if Int32.ofNat 0 ≤ 0 then _ else _) = _
      rw [if_pos (by decide), h97, show iset ([] ++ h :: (D.map (fun j => Int32.ofNat (epC es j)) ++ post)) (Int32.ofNat 0) (Int32.ofNat (epC es x)) = _ from iset_at (P := []) (by decide), o_bind]
    · exact List.pairwise_cons.mpr ⟨fun d hd' => ltS_asym (hd2 d hd'), hd1⟩
  | succ k ih =>
    intro n S A D h hA hn hk hAl hc h97
    obtain ⟨n, rfl⟩ : ∃ j, n = j + 1 := ⟨n - 1, by omega⟩
    obtain ⟨A', a, rfl⟩ : ∃ A' a, A = A' ++ [a] := ⟨A.dropLast, A.getLast (fun e => by rw [e] at hA; simp at hA), (List.dropLast_concat_getLast _).symm⟩
    have hA' : A'.length = k := by simpa using hA
    have ha : a < es.length := hAl a (by simp)
    obtain ⟨c1, c2, c3, c4⟩ := ep_at hc ha
    obtain ⟨e1, e2, e3, e4⟩ := ep_at hc hx
    obtain ⟨e, r1, r2⟩ := rcmp_val 61 70 (by decide) (S pb) (S pb) _ _ _ _ c1 e1 (by have := hd _ (List.getElem_mem ha); omega)
    rw [cmpK_key c1.2.1 e1.2.1] at r2
    have h97a : S 97 = A'.map (fun j => Int32.ofNat (epC es j)) ++ Int32.ofNat (epC es a) :: (h :: (D.map (fun j => Int32.ofNat (epC es j)) ++ post)) := by rw [h97]; simp
    have h97b : S 97 = (A' ++ [a]).map (fun j => Int32.ofNat (epC es j)) ++ h :: (D.map (fun j => Int32.ofNat (epC es j)) ++ post) := h97
    have em : Int32.ofNat (k + 1) - 1 = Int32.ofNat k := by
      have := i_subN (a := k + 1) (b := 1) (by omega) (by omega)
      rw [Nat.add_sub_cancel] at this
      exact this
    have em2 : Int32.ofNat (k + 1) + (-1) = Int32.ofNat k := by
      apply Int32.toInt_inj.mp
      have a1 : (Int32.ofNat (k + 1)).toInt = ((k + 1 : Nat) : Int) := i_of (by omega)
      have a2 : (-1 : Int32).toInt = -1 := rfl
      rw [i_add (by rw [a1, a2]; omega) (by rw [a1, a2]; omega), a1, a2, i_of (by omega)]
      omega
    have ig : iget (S 97) (Int32.ofNat k) = some (Int32.ofNat (epC es a)) := by
      rw [h97a]
      have := iget_at (P := A'.map (fun j => Int32.ofNat (epC es j))) (h := Int32.ofNat (epC es a)) (Z := h :: (D.map (fun j => Int32.ofNat (epC es j)) ++ post)) (by rw [List.length_map]; omega)
      rw [List.length_map, hA'] at this
      exact this
    have is : ∀ w, iset (S 97) (Int32.ofNat (k + 1)) w = some ((A' ++ [a]).map (fun j => Int32.ofNat (epC es j)) ++ w :: (D.map (fun j => Int32.ofNat (epC es j)) ++ post)) := by
      intro w
      rw [h97b]
      have := iset_at (P := (A' ++ [a]).map (fun j => Int32.ofNat (epC es j))) (h := h) (v := w) (Z := D.map (fun j => Int32.ofNat (epC es j)) ++ post) (by rw [List.length_map]; omega)
      rw [List.length_map, hA] at this
      exact this
    have head : b_del_l265 k75 k112 k162 k236 (n + 1) S l1 l2 pb l5 l7 (Int32.ofNat (epC es x)) (Int32.ofNat (k + 1)) = (if 0 ≤ e then k236 (up S 97 ((A' ++ [a]).map (fun j => Int32.ofNat (epC es j)) ++ Int32.ofNat (epC es x) :: (D.map (fun j => Int32.ofNat (epC es j)) ++ post))) l1 l2 pb l5 (l7 + 1) else b_del_l265 k75 k112 k162 k236 n (up S 97 ((A' ++ [a]).map (fun j => Int32.ofNat (epC es j)) ++ Int32.ofNat (epC es a) :: (D.map (fun j => Int32.ofNat (epC es j)) ++ post))) l1 l2 pb l5 l7 (Int32.ofNat (epC es x)) (Int32.ofNat k)) := by
      show (if Int32.ofNat (k + 1) ≤ 0 then _ else _) = _
      rw [if_neg (by rw [show (0 : Int32) = Int32.ofNat 0 from rfl, i_le' (by omega) (by omega)]; omega), em, ig, o_bind, r1, o_bind, is, o_bind, is, o_bind, em2]
    rw [head]
    have ga : es.getD a nulM = es[a] := getD_in _ ha
    have gx : es.getD x nulM = es[x] := getD_in _ hx
    by_cases he : 0 ≤ e
    · rw [if_pos he]
      rw [r2, cmpS_ge, ← ga, ← gx] at he
      refine ⟨_, (A' ++ [a]) ++ x :: D, rfl, fun b hb => up_ne hb, by rw [up_same]; simp, List.perm_middle, fun hd1 hd2 => ?_⟩
      obtain ⟨p1, p2, p3⟩ := List.pairwise_append.mp hd1
      refine List.pairwise_append.mpr ⟨p1, List.pairwise_cons.mpr ⟨fun d hd' => ltS_asym (hd2 d hd'), p2⟩, fun b hb c hc' => ?_⟩
      have hbx : ¬ ltS (key 61 (es.getD b nulM).2) (key 61 (es.getD x nulM).2) := by
        rcases List.mem_append.mp hb with g | g
        · obtain ⟨-, -, q3⟩ := List.pairwise_append.mp p1
          exact nlt_trans (q3 b g a (by simp)) he
        · rw [List.mem_singleton.mp g]
          exact he
      rcases List.mem_cons.mp hc' with g | g
      · rw [g]; exact hbx
      · exact p3 b hb c g
    · rw [if_neg he]
      rw [r2, cmpS_ge, ← ga, ← gx, Classical.not_not] at he
      obtain ⟨S', F, j1, j2, j3, j4, j5⟩ := ih n (up S 97 ((A' ++ [a]).map (fun j => Int32.ofNat (epC es j)) ++ Int32.ofNat (epC es a) :: (D.map (fun j => Int32.ofNat (epC es j)) ++ post))) A' (a :: D) (Int32.ofNat (epC es a)) hA' (by omega) (by omega) (fun j hj => hAl j (List.mem_append_left _ hj)) (by rw [up_ne (by omega)]; exact hc) (by rw [up_same]; simp)
      have eAD : A' ++ a :: D = A' ++ [a] ++ D := by simp
      rw [eAD] at j4 j5
      refine ⟨S', F, j1, fun b hb => by rw [j2 b hb, up_ne hb], j3, j4, fun hd1 hd2 => j5 hd1 (fun d hd' => ?_)⟩
      rcases List.mem_cons.mp hd' with g | g
      · rw [g]; exact he
      · exact hd2 d g
/-- how the sorting ends -/
def dEnd (k75 k112 : SS → Int32 → Int32 → Nat → Int32 → Int32 → Option SS) (k162 : SS → Int32 → Int32 → Nat → Int32 → Int32 → Int32 → Option SS) (k236 : SS → Int32 → Int32 → Nat → Int32 → Int32 → Option SS) (S : SS) (l1 l2 : Int32) (a4 : Nat) (l5 : Int32) : Option SS := (if (rd S 90 2) = 0 then ((iget sh81 l2).bind fun b25 => ((q_copy S b25.toNatClampNeg 0).bind fun r26 => b_del_l355 k75 k112 k162 k236 10000 r26 l1 a4 l5 0)) else b_del_l355 k75 k112 k162 k236 10000 S l1 a4 l5 0)
theorem d236_e {k75 k112 : SS → Int32 → Int32 → Nat → Int32 → Int32 → Option SS} {k162 : SS → Int32 → Int32 → Nat → Int32 → Int32 → Int32 → Option SS} {n : Nat} {S : SS} {l1 l2 l5 l7 : Int32} {a4 : Nat} (h : l5 ≤ l7 ∨ ¬ rd S 78 12 = 0) : b_del_l236 k75 k112 k162 (n + 1) S l1 l2 a4 l5 l7 = dEnd k75 k112 k162 (b_del_l236 k75 k112 k162 n) S l1 l2 a4 l5 := by
  show (if l5 ≤ l7 then dEnd k75 k112 k162 (b_del_l236 k75 k112 k162 n) S l1 l2 a4 l5 else (if (rd S 78 12) = 0 then _ else dEnd k75 k112 k162 (b_del_l236 k75 k112 k162 n) S l1 l2 a4 l5)) = _
  by_cases c : l5 ≤ l7
  · rw [if_pos c]
  · rw [if_neg c, if_neg (h.resolve_left c)]
theorem d236 {k75 k112 : SS → Int32 → Int32 → Nat → Int32 → Int32 → Option SS} {k162 : SS → Int32 → Int32 → Nat → Int32 → Int32 → Int32 → Option SS} {pb : Nat} {v : Int} {s : List Int32} {es : List Mb} {l1 l2 : Int32} (hpb : 82 ≤ pb ∧ pb ≤ 89) (hd : ∀ y ∈ es, dV y.2 ≤ 59) (hN : es.length ≤ 100) : ∀ (m j n : Nat) (S : SS) (R : List Nat) (post : List Int32), j + m = es.length → m < n → cat (S pb) 0 (5, v, s, ofL es) → rd S 78 12 = 0 → R.Perm (List.range j) → dscE es R → S 97 = R.map (fun j => Int32.ofNat (epC es j)) ++ post → m < post.length → ∃ S' R' post' k236, b_del_l236 k75 k112 k162 n S l1 l2 pb (Int32.ofNat es.length) (Int32.ofNat j) = dEnd k75 k112 k162 k236 S' l1 l2 pb (Int32.ofNat es.length) ∧ (∀ a, a ≠ 97 → S' a = S a) ∧ R'.Perm (List.range es.length) ∧ dscE es R' ∧ S' 97 = R'.map (fun j => Int32.ofNat (epC es j)) ++ post' ∧ (S' 97).length = (S 97).length := by
  intro m
  induction m with
  | zero =>
    intro j n S R post hj hn hc hr hp hs h97 hpl
    obtain ⟨n, rfl⟩ : ∃ j, n = j + 1 := ⟨n - 1, by omega⟩
    have : j = es.length := by omega
    subst this
    exact ⟨S, R, post, _, d236_e (Or.inl ((i_le' (by omega) (by omega)).mpr (Nat.le_refl _))), fun _ _ => rfl, hp, hs, h97, rfl⟩
  | succ m ih =>
    intro j n S R post hj hn hc hr hp hs h97 hpl
    obtain ⟨n, rfl⟩ : ∃ j, n = j + 1 := ⟨n - 1, by omega⟩
    have hjl : j < es.length := by omega
    obtain ⟨c1, c2, c3, c4⟩ := ep_at hc hjl
    have hRl : R.length = j := by rw [hp.length_eq, List.length_range]
    cases post with
    | nil => simp at hpl
    | cons h post =>
      obtain ⟨S1, F, j1, j2, j3, j4, j5⟩ := d265 (k75 := k75) (k112 := k112) (k162 := k162) (k236 := b_del_l236 k75 k112 k162 n) (l1 := l1) (l2 := l2) (l5 := Int32.ofNat es.length) (l7 := Int32.ofNat j) (post := post) hpb hd hjl j 10000 S R [] h hRl (by omega) (by omega) (fun i hi => by have := List.mem_range.mp (hp.mem_iff.mp hi); omega) hc (by rw [h97]; rfl)
      rw [List.append_nil] at j4 j5
      have hF : F.Perm (List.range (j + 1)) := by
        refine j4.trans ?_
        rw [List.range_succ]
        exact ((List.Perm.cons j hp).trans (List.perm_append_singleton j (List.range j)).symm)
      obtain ⟨S', R', post', k236, q1, q2, q3, q4, q5, q6⟩ := ih (j + 1) n S1 F post (by omega) (by omega) (by rw [j2 pb (by omega)]; exact hc) (by unfold rd at hr ⊢; rw [j2 78 (by decide)]; exact hr) hF (j5 hs (fun d hd' => by cases hd')) j3 (by simp only [List.length_cons] at hpl; omega)
      refine ⟨S', R', post', k236, ?_, fun a ha => by rw [q2 a ha, j2 a ha], q3, q4, q5, ?_⟩
      · show (if Int32.ofNat es.length ≤ Int32.ofNat j then _ else (if (rd S 78 12) = 0 then _ else _)) = _
        rw [if_neg (by rw [i_le' (by omega) (by omega)]; omega), if_pos hr, c2, o_bind, j1, i_a1]
        exact q1
      · rw [q6, j3, h97]
        simp only [List.length_append, List.length_map, List.length_cons]
        rw [hF.length_eq, hRl, List.length_range]
        omega
end RDel176
