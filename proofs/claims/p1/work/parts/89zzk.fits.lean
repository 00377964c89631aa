/-! Does it fit? The reference's look at depth and length. -/
section Fits126
def popd (i : Nat) : List Nat → List Nat
  | [] => []
  | z :: Z => if z ≤ i then popd i Z else z :: Z
/-- the ends of what is open, the innermost first -/
def stk (S : SS) (Z : List Nat) : Prop := (S 80).length = 9000 ∧ Z.length ≤ 61 ∧ (∀ z ∈ Z, z ≤ 9000) ∧ ∃ j, S 80 = Z.reverse.map Int32.ofNat ++ j
theorem popd_app {i : Nat} : ∀ (X E : List Nat), (∀ x ∈ X, x ≤ i) → (∀ e ∈ E.head?, i < e) → popd i (X ++ E) = E := by
  intro X
  induction X with
  | nil =>
    intro E _ h
    cases E with
    | nil => rfl
    | cons e E =>
      show (if e ≤ i then _ else _) = _
      rw [if_neg (by have := h e rfl; omega)]
  | cons x X ih =>
    intro E h1 h2
    show (if x ≤ i then _ else _) = _
    rw [if_pos (h1 x List.mem_cons_self)]
    exact ih E (fun y hy => h1 y (List.mem_cons_of_mem _ hy)) h2
theorem stk_top {S : SS} {z : Nat} {Z : List Nat} (h : stk S (z :: Z)) : iget (S 80) (Int32.ofNat (z :: Z).length - 1) = some (Int32.ofNat z) ∧ stk S Z := by
  obtain ⟨h1, h2, h3, j, h4⟩ := h
  rw [List.reverse_cons, List.map_append, List.append_assoc] at h4
  refine ⟨?_, h1, by simp only [List.length_cons] at h2; omega, fun y hy => h3 y (List.mem_cons_of_mem _ hy), _, h4⟩
  have e : Int32.ofNat (z :: Z).length - 1 = Int32.ofNat Z.length := by
    apply Int32.toInt_inj.mp
    simp only [List.length_cons] at h2 ⊢
    have z1 : (1 : Int32).toInt = 1 := rfl
    have a1 : (Int32.ofNat (Z.length + 1)).toInt = ((Z.length + 1 : Nat) : Int) := i_of (by omega)
    rw [i_sub (by rw [a1, z1]; omega) (by rw [a1, z1]; omega), a1, i_of (by omega), z1]
    omega
  rw [e]
  refine iget_drop (r := j) (by omega) ?_
  rw [h4, show Z.length = (Z.reverse.map Int32.ofNat).length by rw [List.length_map, List.length_reverse], List.drop_left]
  rfl
/-- what is done with the block at i -/
def fbody (k16 : SS → Int32 → Int32 → Option (SS × Int32)) (S : SS) (l1 l2 : Int32) : Option (SS × Int32) := ((iget (S 91) l2).bind fun b8 => (if b8 = (5 : Int32) then ((r_next (S 91) l2).bind fun r10 => ((iset (S 80) l1 r10).bind fun z12 => (if (l1 + 1) ≤ (60 : Int32) then k16 (up S 80 z12) (l1 + 1) (l2 + 2) else some (up S 80 z12, 0)))) else (if b8 = (6 : Int32) then ((r_next (S 91) l2).bind fun r16 => ((iset (S 80) l1 r16).bind fun z18 => (if (l1 + 1) ≤ (60 : Int32) then k16 (up S 80 z18) (l1 + 1) (l2 + 2) else some (up S 80 z18, 0)))) else ((r_next (S 91) l2).bind fun r21 => k16 S l1 r21))))
theorem pops {k16 : SS → Int32 → Int32 → Option (SS × Int32)} {S : SS} {i : Nat} (hi : i ≤ 9000) : ∀ (Z : List Nat) (n : Nat), stk S Z → Z.length < n → b_fits_l27 k16 n S (Int32.ofNat Z.length) (Int32.ofNat i) = fbody k16 S (Int32.ofNat (popd i Z).length) (Int32.ofNat i) := by
  intro Z
  induction Z with
  | nil =>
    intro n hs hn
    cases n with
    | zero => omega
    | succ n =>
      show (if Int32.ofNat 0 ≤ 0 then _ else _) = _
      rw [if_pos (by decide)]
      rfl
  | cons z Z ih =>
    intro n hs hn
    cases n with
    | zero => omega
    | succ n =>
      obtain ⟨t1, t2⟩ := stk_top hs
      have hz := hs.2.2.1 z List.mem_cons_self
      have hl := hs.2.1
      show (if Int32.ofNat (z :: Z).length ≤ 0 then _ else _) = _
      rw [if_neg (by rw [show (0 : Int32) = Int32.ofNat 0 from rfl, i_le' (by omega) (by omega)]; simp), t1, o_bind]
      show _ = fbody k16 S (Int32.ofNat (if z ≤ i then popd i Z else z :: Z).length) (Int32.ofNat i)
      by_cases h : z ≤ i
      · rw [if_neg (by rw [i_lt' (by omega) (by omega)]; omega), if_pos h]
        simp only [List.length_cons]
        rw [i_s1 (by omega) (by simp only [List.length_cons] at hl; omega), show Z.length + 1 - 1 = Z.length by omega]
        exact ih n t2 (by simp only [List.length_cons] at hn; omega)
      · rw [if_pos ((i_lt' (by omega) (by omega)).mpr (by omega)), if_neg h]
        rfl
theorem stk_pop {S : SS} : ∀ (X E : List Nat), stk S (X ++ E) → stk S E := by
  intro X
  induction X with
  | nil => intro E h; exact h
  | cons x X ih => intro E h; exact ih E (stk_top h).2
theorem stk_push {S : SS} {E : List Nat} {e : Nat} (h : stk S E) (he : e ≤ 9000) (hl : E.length ≤ 60) : ∃ z, iset (S 80) (Int32.ofNat E.length) (Int32.ofNat e) = some z ∧ stk (up S 80 z) (e :: E) := by
  obtain ⟨h1, h2, h3, j, h4⟩ := h
  have hlen : (E.reverse.map Int32.ofNat).length = E.length := by rw [List.length_map, List.length_reverse]
  cases j with
  | nil => rw [h4, List.append_nil, hlen] at h1; omega
  | cons y j =>
    refine ⟨(S 80).set E.length (Int32.ofNat e), ?_, by rw [up_same, List.length_set]; exact h1, by simp only [List.length_cons]; omega, fun z hz => (List.mem_cons.mp hz).elim (fun q => by omega) (h3 z), j, ?_⟩
    · unfold iset
      rw [if_neg (i_nn (by omega)), i_cl (by omega), if_pos (by omega)]
    · rw [up_same, h4, List.set_append_right _ _ (by omega), hlen, Nat.sub_self, List.set_cons_zero, List.reverse_cons, List.map_append, List.append_assoc]
      rfl
def fr80 (S S' : SS) : Prop := ∀ a, a ≠ 80 → S' a = S a
theorem fr80.trans {S S1 S2 : SS} (a : fr80 S S1) (b : fr80 S1 S2) : fr80 S S2 := fun x h => (b x h).trans (a x h)
/-- how a value is gone over -/
def PV (N : Nat) (t : Vl) : Prop := ∀ (n i : Nat) (S : SS) (X E : List Nat) (r : List Int32), stk S (X ++ E) → (∀ x ∈ X, x ≤ i) → (∀ e ∈ E.head?, i < e) → (S 91).drop i = cV t ++ r → (S 91).length ≤ 9000 → rd S 90 1 = Int32.ofNat N → i + (cV t).length ≤ N → N ≤ 9000 → N < n + i → E.length ≤ 60 →
  (E.length + dV t ≤ 60 → ∃ n' S' X', b_fits_l16 n S (Int32.ofNat (X ++ E).length) (Int32.ofNat i) = b_fits_l16 n' S' (Int32.ofNat (X' ++ E).length) (Int32.ofNat (i + (cV t).length)) ∧ stk S' (X' ++ E) ∧ (∀ x ∈ X', x ≤ i + (cV t).length) ∧ N < n' + (i + (cV t).length) ∧ fr80 S S') ∧
  (60 < E.length + dV t → ∃ S', b_fits_l16 n S (Int32.ofNat (X ++ E).length) (Int32.ofNat i) = some (S', 0) ∧ fr80 S S' ∧ (S' 80).length = 9000)
/-- the start of it: what is over is dropped -/
theorem fstart {N n i : Nat} {S : SS} {X E : List Nat} (hs : stk S (X ++ E)) (h1 : ∀ x ∈ X, x ≤ i) (h2 : ∀ e ∈ E.head?, i < e) (h3 : rd S 90 1 = Int32.ofNat N) (h4 : i < N) (h5 : N ≤ 9000) : b_fits_l16 (n + 1) S (Int32.ofNat (X ++ E).length) (Int32.ofNat i) = fbody (b_fits_l16 n) S (Int32.ofNat E.length) (Int32.ofNat i) := by
  show (if rd S 90 1 ≤ Int32.ofNat i then _ else _) = _
  rw [h3, if_neg (by rw [i_le' (by omega) (by omega)]; omega), pops (by omega) _ _ hs (by have := hs.2.1; omega), popd_app X E h1 h2]
theorem PV_leaf {N : Nat} {t : Vl} (hk : t.1 ≤ 6) (h5 : t.1 ≠ 5) (h6 : t.1 ≠ 6) : PV N t := by
  intro n i S X E r hs h1 h2 h3 h4 h7 h8 h9 hn hE
  have hd : dV t = 0 := by unfold dV; rw [if_neg (fun e => e.elim h5 h6)]
  have h2l := (cV_h hk).len
  obtain ⟨n1, n2⟩ := rnext_at h4 (cV_h hk) h3
  obtain ⟨q, hq⟩ := cV_hdd hk
  have hi : iget (S 91) (Int32.ofNat i) = some (Int32.ofNat t.1) := by
    have h' := h3
    rw [hq] at h'
    exact iget_drop h4 h'
  cases n with
  | zero => omega
  | succ n =>
    refine ⟨fun _ => ⟨n, S, [], ?_, stk_pop X E hs, fun x hx => (by cases hx), by omega, fun _ _ => rfl⟩, fun h => by omega⟩
    rw [fstart hs h1 h2 h7 (by omega) h9]
    unfold fbody
    rw [hi, o_bind, if_neg (by rw [show (5 : Int32) = Int32.ofNat 5 from rfl, i_inj (by omega) (by omega)]; exact h5), if_neg (by rw [show (6 : Int32) = Int32.ofNat 6 from rfl, i_inj (by omega) (by omega)]; exact h6), n1, o_bind]
    rfl
theorem PV_list {N e : Nat} {E : List Nat} (hE : E.length + 1 ≤ 60) : ∀ (vs : List Vl) (n i : Nat) (S : SS) (X : List Nat) (r : List Int32), (∀ v ∈ vs, PV N v ∧ v.1 ≤ 6) → stk S (X ++ e :: E) → (∀ x ∈ X, x ≤ i) → (S 91).drop i = (vs.map cV).flatten ++ r → (S 91).length ≤ 9000 → rd S 90 1 = Int32.ofNat N → i + (vs.map cV).flatten.length = e → e ≤ N → N ≤ 9000 → N < n + i →
    ((∀ v ∈ vs, E.length + 1 + dV v ≤ 60) → ∃ n' S' X', b_fits_l16 n S (Int32.ofNat (X ++ e :: E).length) (Int32.ofNat i) = b_fits_l16 n' S' (Int32.ofNat (X' ++ e :: E).length) (Int32.ofNat e) ∧ stk S' (X' ++ e :: E) ∧ (∀ x ∈ X', x ≤ e) ∧ N < n' + e ∧ fr80 S S') ∧
    ((∃ v ∈ vs, 60 < E.length + 1 + dV v) → ∃ S', b_fits_l16 n S (Int32.ofNat (X ++ e :: E).length) (Int32.ofNat i) = some (S', 0) ∧ fr80 S S' ∧ (S' 80).length = 9000) := by
  intro vs
  induction vs with
  | nil =>
    intro n i S X r _ hs h1 h3 h4 h7 h8 h9 h10 hn
    have : i = e := by simpa using h8
    subst this
    exact ⟨fun _ => ⟨n, S, X, rfl, hs, h1, hn, fun _ _ => rfl⟩, fun ⟨v, hv, _⟩ => by cases hv⟩
  | cons v vs ih =>
    intro n i S X r hv hs h1 h3 h4 h7 h8 h9 h10 hn
    obtain ⟨pv1, k6⟩ := hv v List.mem_cons_self
    have h2l := (cV_h k6).len
    simp only [List.map_cons, List.flatten_cons, List.length_append, List.append_assoc] at h3 h8
    have hp := pv1 n i S X (e :: E) _ hs h1 (fun x hx => by cases hx; omega) h3 h4 h7 (by omega) h10 hn hE
    have go : ∀ (n' : Nat) (S' : SS) (X' : List Nat), fr80 S S' → stk S' (X' ++ e :: E) → (∀ x ∈ X', x ≤ i + (cV v).length) → N < n' + (i + (cV v).length) → _ := fun n' S' X' f1 f2 f3 f4 => ih n' (i + (cV v).length) S' X' r (fun w hw => hv w (List.mem_cons_of_mem _ hw)) f2 f3 (by rw [f1 91 (by decide)]; exact drop_more h3) (by rw [f1 91 (by decide)]; exact h4) (by unfold rd; rw [f1 90 (by decide)]; exact h7) (by omega) h9 h10 f4
    by_cases hd : E.length + 1 + dV v ≤ 60
    · obtain ⟨n', S', X', g1, g2, g3, g4, g5⟩ := hp.1 (by simp only [List.length_cons]; omega)
      obtain ⟨i1, i2⟩ := go n' S' X' g5 g2 g3 g4
      refine ⟨fun ha => ?_, fun hb => ?_⟩
      · obtain ⟨n2, S2, X2, j1, j2, j3, j4, j5⟩ := i1 fun w hw => ha w (List.mem_cons_of_mem _ hw)
        exact ⟨n2, S2, X2, g1.trans j1, j2, j3, j4, g5.trans j5⟩
      · obtain ⟨w, hw, hw2⟩ := hb
        rcases List.mem_cons.mp hw with rfl | hw
        · omega
        · obtain ⟨S2, j1, j2, j3⟩ := i2 ⟨w, hw, hw2⟩
          exact ⟨S2, g1.trans j1, g5.trans j2, j3⟩
    · refine ⟨fun ha => absurd (ha v List.mem_cons_self) hd, fun _ => ?_⟩
      exact hp.2 (by simp only [List.length_cons]; omega)
/-- members as values, their names among them -/
def vals (b : Bool) (l : List Mb) : List Vl := l.flatMap fun m => if b then [(4, 0, m.1, .leaf), m.2] else [m.2]
theorem vals_blks (b : Bool) (l : List Mb) : (vals b l).map cV = blks b l := by
  unfold vals blks
  induction l with
  | nil => rfl
  | cons m l ih =>
    rw [List.flatMap_cons, List.map_append, ih, List.flatMap_cons]
    congr 1
    cases b <;> rfl
theorem dF_le {l : List Mb} {d : Nat} (h : ∀ m ∈ l, dV m.2 ≤ d) : dF (ofL l) ≤ d := by
  induction l with
  | nil => exact Nat.zero_le _
  | cons m l ih =>
    rw [dF_cons]
    have h1 := h m List.mem_cons_self
    have h2 := ih fun x hx => h x (List.mem_cons_of_mem _ hx)
    omega
theorem PV_all {N : Nat} (t : Vl) : wV t → PV N t := by
  induction t using Vl.ind with
  | h k v s l ih =>
    intro hw
    have hk := hw.kids
    have w1 : k ≤ 6 := hw.1
    by_cases hb : k = 5 ∨ k = 6
    · intro n i S X E r hs h1 h2 h3 h4 h7 h8 h9 hn hE
      have h6 : (k, v, s, ofL l).1 ≤ 6 := w1
      have hdV : dV (k, v, s, ofL l) = 1 + dF (ofL l) := by unfold dV; rw [if_pos hb]
      have h2l := (cV_h h6).len
      obtain ⟨n1, n2⟩ := rnext_at h4 (cV_h h6) h3
      obtain ⟨q, hq⟩ := cV_hdd h6
      have hi : iget (S 91) (Int32.ofNat i) = some (Int32.ofNat k) := by
        have h' := h3
        rw [hq] at h'
        exact iget_drop h4 h'
      obtain ⟨c1, c2⟩ := cbox_in hb h3
      cases n with
      | zero => omega
      | succ n =>
        obtain ⟨z, z1, z2⟩ := stk_push (e := i + (cV (k, v, s, ofL l)).length) (stk_pop X E hs) (by omega) hE
        have e1 : b_fits_l16 (n + 1) S (Int32.ofNat (X ++ E).length) (Int32.ofNat i) = if Int32.ofNat E.length + 1 ≤ 60 then b_fits_l16 n (up S 80 z) (Int32.ofNat E.length + 1) (Int32.ofNat i + 2) else some (up S 80 z, 0) := by
          rw [fstart hs h1 h2 h7 (by omega) h9]
          unfold fbody
          rw [hi, o_bind, n1, o_bind, z1, o_bind]
          rcases hb with rfl | rfl
          · rw [if_pos (by decide)]
          · rw [if_neg (by decide), if_pos (by decide)]
        have f80 : fr80 S (up S 80 z) := fun a ha => up_ne ha
        by_cases h60 : E.length + 1 ≤ 60
        · rw [i_a1, if_pos (by rw [show (60 : Int32) = Int32.ofNat 60 from rfl, i_le' (by omega) (by omega)]; exact h60), show Int32.ofNat i + 2 = Int32.ofNat (i + 2) from (Int32.ofNat_add i 2).symm] at e1
          have hvs : ∀ w ∈ vals (k == 6) l, PV N w ∧ w.1 ≤ 6 := by
            intro w hw'
            unfold vals at hw'
            obtain ⟨m, hm, hm2⟩ := List.mem_flatMap.mp hw'
            have hv := ih m hm (hk m hm).2
            have hk6 := (hk m hm).2.1
            cases hkb : (k == 6) with
            | false => rw [hkb] at hm2; simp at hm2; rw [hm2]; exact ⟨hv, hk6⟩
            | true =>
              rw [hkb] at hm2
              simp at hm2
              rcases hm2 with e | e <;> rw [e]
              · exact ⟨PV_leaf (t := (4, 0, m.1, .leaf)) (show (4 : Nat) ≤ 6 by decide) (show (4 : Nat) ≠ 5 by decide) (show (4 : Nat) ≠ 6 by decide), (show (4 : Nat) ≤ 6 by decide)⟩
              · exact ⟨hv, hk6⟩
          have hl := PV_list (N := N) (e := i + (cV (k, v, s, ofL l)).length) h60 (vals (k == 6) l) n (i + 2) (up S 80 z) [] r hvs z2 (fun x hx => by cases hx) (by rw [up_ne (by decide), vals_blks]; exact c1) (by rw [up_ne (by decide)]; exact h4) (by rw [rd_up (by decide)]; exact h7) (by rw [vals_blks]; omega) h8 h9 (by omega)
          have dmem : ∀ w ∈ vals (k == 6) l, dV w ≤ dF (ofL l) := by
            intro w hw'
            unfold vals at hw'
            obtain ⟨m, hm, hm2⟩ := List.mem_flatMap.mp hw'
            have h0 := dF_mem (f := ofL l) (m := m) (by rw [toL_ofL]; exact hm)
            cases hkb : (k == 6) with
            | false => rw [hkb] at hm2; simp at hm2; rw [hm2]; exact h0
            | true =>
              rw [hkb] at hm2
              simp at hm2
              rcases hm2 with e | e <;> rw [e]
              · exact Nat.zero_le _
              · exact h0
          refine ⟨fun hd => ?_, fun hd => ?_⟩
          · obtain ⟨n', S', X', j1, j2, j3, j4, j5⟩ := hl.1 fun w hw' => by have := dmem w hw'; omega
            refine ⟨n', S', X' ++ [i + (cV (k, v, s, ofL l)).length], ?_, ?_, ?_, j4, f80.trans j5⟩
            · rw [e1, List.append_assoc]; exact j1
            · rw [List.append_assoc]; exact j2
            · intro x hx
              rcases List.mem_append.mp hx with hx | hx
              · exact j3 x hx
              · rw [List.mem_singleton.mp hx]; exact Nat.le_refl _
          · have : ∃ w ∈ vals (k == 6) l, 60 < E.length + 1 + dV w := by
              refine Classical.byContradiction fun hno => ?_
              have : dF (ofL l) ≤ 60 - (E.length + 1) := dF_le fun m hm => by
                refine Classical.byContradiction fun hc => hno ⟨m.2, ?_, by omega⟩
                unfold vals
                refine List.mem_flatMap.mpr ⟨m, hm, ?_⟩
                split <;> simp
              omega
            obtain ⟨S', j1, j2, j3⟩ := hl.2 this
            exact ⟨S', by rw [e1]; exact j1, f80.trans j2, j3⟩
        · rw [i_a1, if_neg (by rw [show (60 : Int32) = Int32.ofNat 60 from rfl, i_le' (by omega) (by omega)]; exact h60)] at e1
          exact ⟨fun hd => by omega, fun _ => ⟨_, e1, f80, z2.1⟩⟩
    · exact PV_leaf w1 (fun e => hb (Or.inl e)) (fun e => hb (Or.inr e))
end Fits126
