/-! A value never grows by a cut; the reference looks at the paths. -/
section RDel175
theorem dV_sub {k : Nat} {v : Int} {s : List Int32} {l : List Mb} {n : Nat} (h1 : 1 ≤ n) (h : ∀ x ∈ l, dV x.2 + 1 ≤ n) : dV (k, v, s, ofL l) ≤ n := by
  have : ∀ l : List Mb, (∀ x ∈ l, dV x.2 + 1 ≤ n) → 1 + dF (ofL l) ≤ n := by
    intro l
    induction l with
    | nil => intro _; exact h1
    | cons m l ih =>
      intro h
      have a1 := h m List.mem_cons_self
      have a2 := ih (fun x hx => h x (List.mem_cons_of_mem _ hx))
      have e : dF (ofL (m :: l)) = max (dV m.2) (dF (ofL l)) := rfl
      rw [e]
      omega
  unfold dV
  by_cases hk : (k, v, s, ofL l).1 = 5 ∨ (k, v, s, ofL l).1 = 6
  · rw [if_pos hk]; exact this l h
  · rw [if_neg hk]; omega
theorem dV_box {k : Nat} {v : Int} {s : List Int32} {l : List Mb} (hk : k = 5 ∨ k = 6) : 1 ≤ dV (k, v, s, ofL l) := by
  unfold dV
  rw [if_pos (show (k, v, s, ofL l).1 = 5 ∨ (k, v, s, ofL l).1 = 6 from hk)]
  omega
theorem bl_part (b : Bool) (l : List Mb) (i j : Nat) (hij : i ≤ j) : (blks b (l.take i ++ l.drop j)).flatten.length ≤ (blks b l).flatten.length := by
  have e : l = l.take i ++ ((l.drop i).take (j - i) ++ l.drop j) := by
    have : l.drop j = (l.drop i).drop (j - i) := by rw [List.drop_drop]; congr 1; omega
    rw [this, List.take_append_drop, List.take_append_drop]
  conv => rhs; rw [e]
  rw [blks_app, blks_app, blks_app, List.flatten_append, List.flatten_append, List.flatten_append, List.length_append, List.length_append, List.length_append]
  omega
theorem bk_set (b : Bool) (l : List Mb) (j : Nat) (hj : j < l.length) {U : Vl} (hU : (cV U).length ≤ (cV (l[j]).2).length) : (blks b (l.set j ((l[j]).1, U))).flatten.length ≤ (blks b l).flatten.length := by
  have e : l = l.take j ++ l[j] :: l.drop (j + 1) := by rw [← List.drop_eq_getElem_cons hj, List.take_append_drop]
  conv => rhs; rw [e]
  rw [List.set_eq_take_append_cons_drop, if_pos hj, blks_app, blks_app, List.flatten_append, List.flatten_append, List.length_append, List.length_append]
  cases b with
  | true =>
    rw [(blks_m _ _).1, (blks_m _ _).1]
    simp only [List.length_append]
    omega
  | false =>
    rw [(blks_m _ _).2, (blks_m _ _).2]
    simp only [List.length_append]
    omega
theorem cV_l5 (v : Int) (s : List Int32) (l : List Mb) : (cV (5, v, s, ofL l)).length = (blks false l).flatten.length + 2 := by rw [cV_5]; rfl
theorem cV_l6 (v : Int) (s : List Int32) (l : List Mb) : (cV (6, v, s, ofL l)).length = (blks true l).flatten.length + 2 := by rw [cV_6]; rfl
theorem cut_le : ∀ (ps : List Vl) (t : Vl) (w : Option (Nat × Nat)) (T : Vl), (∀ a b, w = some (a, b) → t.1 = 5 ∧ a ≤ b) → cutV ps t w = some T → (cV T).length ≤ (cV t).length ∧ dV T ≤ dV t := by
  intro ps
  induction ps with
  | nil =>
    intro t w T hw hT
    cases w with
    | none => cases hT; exact ⟨Nat.le_refl _, Nat.le_refl _⟩
    | some ab =>
      obtain ⟨a, b⟩ := ab
      obtain ⟨h5, hab⟩ := hw a b rfl
      cases hT
      obtain ⟨kt, v0, s0, ft⟩ := t
      obtain ⟨l, rfl⟩ : ∃ l, ft = ofL l := ⟨toL ft, (ofL_toL ft).symm⟩
      have h5 : kt = 5 := h5
      subst h5
      show (cV (5, v0, s0, ofL ((toL (ofL l)).take a ++ (toL (ofL l)).drop b))).length ≤ _ ∧ dV (5, v0, s0, ofL ((toL (ofL l)).take a ++ (toL (ofL l)).drop b)) ≤ _
      rw [toL_ofL, cV_l5, cV_l5]
      refine ⟨by have := bl_part false l a b hab; omega, dV_sub (dV_box (Or.inl rfl)) (fun x hx => dV_kid (Or.inl rfl) ?_)⟩
      rcases List.mem_append.mp hx with c | c
      · exact List.mem_of_mem_take c
      · exact List.mem_of_mem_drop c
  | cons pi ps ih =>
    intro t w T hw hT
    by_cases t0 : t.1 = 0
    · rw [cutV_null t0] at hT
      cases hT
      exact ⟨Nat.le_refl _, Nat.le_refl _⟩
    by_cases t5 : t.1 = 5
    · obtain ⟨kt, v0, s0, ft⟩ := t
      obtain ⟨l, rfl⟩ : ∃ l, ft = ofL l := ⟨toL ft, (ofL_toL ft).symm⟩
      have t5 : kt = 5 := t5
      subst t5
      by_cases e3 : pi.1 = 3
      · rw [cutV_53 e3] at hT
        by_cases hin : 0 ≤ atX pi.2.1 (winN (5, v0, s0, ofL l) w) ∧ atX pi.2.1 (winN (5, v0, s0, ofL l) w) < winN (5, v0, s0, ofL l) w
        · rw [if_pos hin] at hT
          obtain ⟨j, hj⟩ : ∃ j, j = winA (5, v0, s0, ofL l) w + (atX pi.2.1 (winN (5, v0, s0, ofL l) w)).toNat := ⟨_, rfl⟩
          rw [← hj] at hT
          by_cases hp : ps.isEmpty = true
          · rw [if_pos hp] at hT
            cases hT
            rw [cV_l5, cV_l5]
            refine ⟨by have := bl_part false l j (j + 1) (by omega); omega, dV_sub (dV_box (Or.inl rfl)) (fun x hx => dV_kid (Or.inl rfl) ?_)⟩
            rcases List.mem_append.mp hx with c | c
            · exact List.mem_of_mem_take c
            · exact List.mem_of_mem_drop c
          · rw [if_neg hp] at hT
            cases hU : cutV ps (l.getD j nulM).2 none with
            | none => rw [hU] at hT; cases hT
            | some U =>
              rw [hU] at hT
              cases hT
              obtain ⟨a1, a2⟩ := ih _ none U (fun _ _ e => by cases e) hU
              rw [cV_l5, cV_l5]
              by_cases hjl : j < l.length
              · rw [getD_in _ hjl] at a1 a2 ⊢
                refine ⟨by have := bk_set false l j hjl a1; omega, dV_sub (dV_box (Or.inl rfl)) (fun x hx => ?_)⟩
                rcases List.mem_or_eq_of_mem_set hx with c | c
                · exact dV_kid (Or.inl rfl) c
                · rw [c]
                  have := dV_kid (k := 5) (v := v0) (s := s0) (Or.inl rfl) (List.getElem_mem hjl)
                  show dV U + 1 ≤ _
                  omega
              · have e := List.set_eq_of_length_le (a := ((l.getD j nulM).1, U)) (show l.length ≤ j by omega)
                show (blks false (l.set j ((l.getD j nulM).1, U))).flatten.length + 2 ≤ _ ∧ dV (5, v0, s0, ofL (l.set j ((l.getD j nulM).1, U))) ≤ _
                rw [e]
                exact ⟨Nat.le_refl _, Nat.le_refl _⟩
        · rw [if_neg hin] at hT
          cases hT
          exact ⟨Nat.le_refl _, Nat.le_refl _⟩
      · by_cases h6 : pi.1 = 6 ∧ okBd pi
        · rw [cutV_56 h6.1 h6.2] at hT
          refine ih _ _ T (fun a b e => ?_) hT
          cases e
          refine ⟨rfl, (nw_ok pi ?_).1⟩
          exact Nat.le_add_right _ _
        · rw [cutV_5x e3 (fun e => fun c => h6 ⟨e, c⟩)] at hT
          cases hT
    by_cases t6 : t.1 = 6
    · have hwn : w = none := by
        cases w with
        | none => rfl
        | some ab => exact absurd (hw ab.1 ab.2 rfl).1 t5
      subst hwn
      obtain ⟨kt, v0, s0, ft⟩ := t
      obtain ⟨l, rfl⟩ : ∃ l, ft = ofL l := ⟨toL ft, (ofL_toL ft).symm⟩
      have t6 : kt = 6 := t6
      subst t6
      by_cases e4 : pi.1 = 4
      · rw [cutV_64 e4] at hT
        unfold cutM at hT
        obtain ⟨j, hj⟩ : ∃ j, j = l.findIdx (fun m => m.1 == pi.2.2.1) := ⟨_, rfl⟩
        rw [← hj] at hT
        by_cases hjl : j < l.length
        · rw [if_pos hjl] at hT
          by_cases hp : ps.isEmpty = true
          · rw [if_pos hp] at hT
            cases hT
            rw [cV_l6, cV_l6]
            refine ⟨by have := bl_part true l j (j + 1) (by omega); omega, dV_sub (dV_box (Or.inr rfl)) (fun x hx => dV_kid (Or.inr rfl) ?_)⟩
            rcases List.mem_append.mp hx with c | c
            · exact List.mem_of_mem_take c
            · exact List.mem_of_mem_drop c
          · rw [if_neg hp, getD_in _ hjl] at hT
            cases hU : cutV ps (l[j]).2 none with
            | none => rw [hU] at hT; cases hT
            | some U =>
              rw [hU] at hT
              cases hT
              obtain ⟨a1, a2⟩ := ih _ none U (fun _ _ e => by cases e) hU
              rw [cV_l6, cV_l6]
              refine ⟨by have := bk_set true l j hjl a1; show (blks true (l.set j ((l[j]).1, U))).flatten.length + 2 ≤ _; omega, dV_sub (dV_box (Or.inr rfl)) (fun x hx => ?_)⟩
              rcases List.mem_or_eq_of_mem_set hx with c | c
              · exact dV_kid (Or.inr rfl) c
              · rw [c]
                have := dV_kid (k := 6) (v := v0) (s := s0) (Or.inr rfl) (List.getElem_mem hjl)
                show dV U + 1 ≤ _
                omega
        · rw [if_neg hjl] at hT
          cases hT
          exact ⟨Nat.le_refl _, Nat.le_refl _⟩
      · rw [cutV_6x e4] at hT
        cases hT
    · have : cutV (pi :: ps) t w = none := by
        unfold cutV
        rw [if_neg t0, if_neg t5, if_neg t6, if_neg t5]
        simp
      rw [this] at hT
      cases hT
theorem cutP_le {lp : List Mb} {t T : Vl} (ht : 2 ≤ (cV t).length) (h : cutP lp t = some T) : (cV T).length ≤ (cV t).length ∧ dV T ≤ dV t := by
  unfold cutP at h
  by_cases e : lp = []
  · rw [if_pos e] at h
    cases h
    exact ⟨ht, Nat.zero_le _⟩
  · rw [if_neg e] at h
    exact cut_le _ t none T (fun _ _ e => by cases e) h
/-- the paths as cells -/
def epC (es : List Mb) (j : Nat) : Nat := bp 2 (blks false es) j
theorem ep_at {as : List Int32} {v : Int} {s : List Int32} {es : List Mb} (h : cat as 0 (5, v, s, ofL es)) {j : Nat} (hj : j < es.length) : cat as (epC es j) (es[j]).2 ∧ r_element as 0 (Int32.ofNat j).toInt64 = some (Int32.ofNat (epC es j)) ∧ epC es j + (cV (es[j]).2).length ≤ 9000 ∧ es.length ≤ 4500 := by
  have h1 : cat as (epC es j) (es[j]).2 := h.elem hj
  obtain ⟨h9, hw, r, hd⟩ := id h
  have hn := h1.next.2
  have hn0 := h.next.2
  have hl : (blks false es).length = es.length := by
    have := blks_len false es
    simpa using this
  have hfl := flat2 _ (blks_h (b := false) hw.kids)
  have e5 := cV_l5 v s es
  refine ⟨h1, ?_, by omega, by omega⟩
  have hd2 : as.drop 2 = (blks false es).flatten ++ r := by
    rw [List.drop_zero, cV_5] at hd
    rw [hd]
    rfl
  unfold r_element
  rw [l_32 j (by omega)]
  have := elem_l (p := 0) (k := j) h9 (by omega) (blks false es) 10000 0 2 (blks_h hw.kids) hd2 (Nat.zero_le _) (by omega) (by omega)
  rw [Nat.sub_zero] at this
  exact this
theorem ep_many {as : List Int32} {v : Int} {s : List Int32} {es : List Mb} (h : cat as 0 (5, v, s, ofL es)) {j : Nat} (hj : j < es.length) (h5 : (es[j]).2.1 = 5) : r_many as (Int32.ofNat (epC es j)) = some (Int32.ofNat (cnt es[j])) := by
  obtain ⟨c1, -⟩ := ep_at h hj
  have c1' := c1
  rw [vl5 h5] at c1'
  obtain ⟨h9, hw, r, hd⟩ := c1'
  obtain ⟨l, hl⟩ : ∃ l, (es[j]).2.2.2.2 = ofL l := ⟨toL _, (ofL_toL _).symm⟩
  rw [ofL_toL, hl] at hd
  rw [ofL_toL, hl] at hw
  have := many_val (p := epC es j) h9 hw.kids (Or.inl rfl) hd
  rw [this]
  unfold cnt
  rw [hl, toL_ofL]
/-- only the refusal has changed -/
def rfS (S S' : SS) : Prop := (∀ a, a ≠ 78 → S' a = S a) ∧ (∀ k, k ≠ 12 → rd S' 78 k = rd S 78 k) ∧ (S' 78).length = (S 78).length
theorem rfS.refl (S : SS) : rfS S S := ⟨fun _ _ => rfl, fun _ _ => rfl, rfl⟩
theorem rfS.trans {S S1 S2 : SS} (a : rfS S S1) (b : rfS S1 S2) : rfS S S2 := ⟨fun x h => (b.1 x h).trans (a.1 x h), fun k h => (b.2.1 k h).trans (a.2.1 k h), b.2.2.trans a.2.2⟩
theorem rfS_ref {S : SS} (h78 : (S 78).length = 22) (hr : rd S 78 12 = 0 ∨ ¬ rd S 78 12 ≤ 0) {v : Int32} (hv : ¬ v ≤ 0) : ∃ S', b_refuse S v = some S' ∧ rfS S S' ∧ ¬ rd S' 78 12 ≤ 0 := by
  unfold b_refuse
  rcases hr with h | h
  · rw [if_pos h]
    exact ⟨_, rfl, ⟨fun a ha => wr_ne ha, fun k hk => rd_wr_j (fun e => hk e.symm), wr_len⟩, by rw [rd_wr (by rw [h78]; decide)]; exact hv⟩
  · rw [if_neg (fun e => h (by rw [e]; decide))]
    exact ⟨S, rfl, rfS.refl S, h⟩
theorem d75 {pb : Nat} {v : Int} {s : List Int32} {es : List Mb} {l1 l2 : Int32} (hpb : 82 ≤ pb ∧ pb ≤ 89) : ∀ (m j n : Nat) (S : SS), j + m = es.length → m < n → cat (S pb) 0 (5, v, s, ofL es) → (S 78).length = 22 → (rd S 78 12 = 0 ∨ ¬ rd S 78 12 ≤ 0) → ∃ S' n', b_del_l75 n S l1 l2 pb (Int32.ofNat es.length) (Int32.ofNat j) = b_del_l112 (b_del_l75 n') 10000 S' l1 l2 pb (Int32.ofNat es.length) 0 ∧ rfS S S' ∧ ((rd S 78 12 = 0 ∧ S' = S ∧ ∀ x ∈ es.drop j, x.2.1 = 5) ∨ (¬ rd S' 78 12 ≤ 0 ∧ ¬ (rd S 78 12 = 0 ∧ ∀ x ∈ es.drop j, x.2.1 = 5))) := by
  intro m
  induction m with
  | zero =>
    intro j n S hj hn hc h78 hr
    obtain ⟨n, rfl⟩ : ∃ j, n = j + 1 := ⟨n - 1, by omega⟩
    have hlen : es.length ≤ 4500 := by
      by_cases c : 0 < es.length
      · exact (ep_at hc c).2.2.2
      · omega
    refine ⟨S, n, ?_, rfS.refl S, ?_⟩
    · unfold b_del_l75
      rw [if_pos ((i_le' (by omega) (by omega)).mpr (by omega))]
    · have e : es.drop j = [] := List.drop_eq_nil_of_le (by omega)
      rw [e]
      rcases hr with h | h
      · exact Or.inl ⟨h, rfl, fun x hx => by cases hx⟩
      · exact Or.inr ⟨h, fun c => h (by rw [c.1]; decide)⟩
  | succ m ih =>
    intro j n S hj hn hc h78 hr
    obtain ⟨n, rfl⟩ : ∃ j, n = j + 1 := ⟨n - 1, by omega⟩
    have hjl : j < es.length := by omega
    obtain ⟨c1, c2, c3, c4⟩ := ep_at hc hjl
    have k6 := c1.2.1.1
    have ed : ∀ x, x ∈ es.drop j ↔ (x = es[j] ∨ x ∈ es.drop (j + 1)) := fun x => by rw [List.drop_eq_getElem_cons hjl, List.mem_cons]
    by_cases h5 : (es[j]).2.1 = 5
    · obtain ⟨S', n', j1, j2, j3⟩ := ih (j + 1) n S (by omega) (by omega) hc h78 hr
      refine ⟨S', n', ?_, j2, ?_⟩
      · show (if Int32.ofNat es.length ≤ Int32.ofNat j then _ else _) = _
        rw [if_neg (by rw [i_le' (by omega) (by omega)]; omega), c2, o_bind, c1.kind, o_bind, if_pos (by rw [h5]; rfl), i_a1]
        exact j1
      · have : (∀ x ∈ es.drop j, x.2.1 = 5) ↔ ∀ x ∈ es.drop (j + 1), x.2.1 = 5 := ⟨fun h x hx => h x ((ed x).mpr (Or.inr hx)), fun h x hx => by
          rcases (ed x).mp hx with c | c
          · rw [c]; exact h5
          · exact h x c⟩
        rw [this]
        exact j3
    · obtain ⟨S1, q1, q2, q3⟩ := rfS_ref (v := 1) h78 hr (by decide)
      obtain ⟨S', n', j1, j2, j3⟩ := ih (j + 1) n S1 (by omega) (by omega) (by rw [q2.1 pb (by omega)]; exact hc) (by rw [q2.2.2]; exact h78) (Or.inr q3)
      refine ⟨S', n', ?_, q2.trans j2, Or.inr ⟨?_, fun c => h5 (c.2 _ ((ed _).mpr (Or.inl rfl)))⟩⟩
      · show (if Int32.ofNat es.length ≤ Int32.ofNat j then _ else _) = _
        rw [if_neg (by rw [i_le' (by omega) (by omega)]; omega), c2, o_bind, c1.kind, o_bind, if_neg (kne5 k6 h5), q1, o_bind, i_a1]
        exact j1
      · rcases j3 with c | c
        · exact absurd (by rw [c.1]; decide) q3
        · exact c.1
theorem d112 {k75 : SS → Int32 → Int32 → Nat → Int32 → Int32 → Option SS} {pb : Nat} {v : Int} {s : List Int32} {es : List Mb} {l1 l2 : Int32} (hpb : 82 ≤ pb ∧ pb ≤ 89) (h5 : ∀ x ∈ es, x.2.1 = 5) : ∀ (m j n : Nat) (S : SS), j + m = es.length → m < n → cat (S pb) 0 (5, v, s, ofL es) → (S 78).length = 22 → rd S 78 12 = 0 → ∃ S' k112, b_del_l112 k75 n S l1 l2 pb (Int32.ofNat es.length) (Int32.ofNat j) = b_del_l162 k75 k112 10000 S' l1 l2 pb (Int32.ofNat es.length) 0 0 ∧ rfS S S' ∧ ((S' = S ∧ ∀ x ∈ es.drop j, cnt x ≤ 100) ∨ (¬ rd S' 78 12 ≤ 0 ∧ ¬ ∀ x ∈ es.drop j, cnt x ≤ 100)) := by
  intro m
  induction m with
  | zero =>
    intro j n S hj hn hc h78 hr
    obtain ⟨n, rfl⟩ : ∃ j, n = j + 1 := ⟨n - 1, by omega⟩
    have hlen : es.length ≤ 4500 := by
      by_cases c : 0 < es.length
      · exact (ep_at hc c).2.2.2
      · omega
    refine ⟨S, b_del_l112 k75 n, ?_, rfS.refl S, Or.inl ⟨rfl, ?_⟩⟩
    · show (if Int32.ofNat es.length ≤ Int32.ofNat j then _ else _) = _
      rw [if_pos ((i_le' (by omega) (by omega)).mpr (by omega))]
    · have e : es.drop j = [] := List.drop_eq_nil_of_le (by omega)
      rw [e]
      exact fun x hx => by cases hx
  | succ m ih =>
    intro j n S hj hn hc h78 hr
    obtain ⟨n, rfl⟩ : ∃ j, n = j + 1 := ⟨n - 1, by omega⟩
    have hjl : j < es.length := by omega
    obtain ⟨c1, c2, c3, c4⟩ := ep_at hc hjl
    have cm := ep_many hc hjl (h5 _ (List.getElem_mem hjl))
    have hcnt : cnt es[j] ≤ 4500 := by
      have e5 := h5 _ (List.getElem_mem hjl)
      have c1' := c1
      rw [vl5 e5] at c1'
      obtain ⟨h9, hw, -⟩ := id c1'
      have := cV_l5 (es[j]).2.2.1 (es[j]).2.2.2.1 (toL (es[j]).2.2.2.2)
      have hfl := flat2 _ (blks_h (b := false) hw.kids)
      have hbl := blks_len false (toL (es[j]).2.2.2.2)
      simp only [Bool.false_eq_true, if_false] at hbl
      have n2 := c1'.next.2
      unfold cnt
      omega
    have ed : ∀ x, x ∈ es.drop j ↔ (x = es[j] ∨ x ∈ es.drop (j + 1)) := fun x => by rw [List.drop_eq_getElem_cons hjl, List.mem_cons]
    have head : b_del_l112 k75 (n + 1) S l1 l2 pb (Int32.ofNat es.length) (Int32.ofNat j) = (if Int32.ofNat (cnt es[j]) ≤ (100 : Int32) then b_del_l112 k75 n S l1 l2 pb (Int32.ofNat es.length) (Int32.ofNat (j + 1)) else ((b_refuse S 2).bind fun r85 => b_del_l112 k75 n r85 l1 l2 pb (Int32.ofNat es.length) (Int32.ofNat (j + 1)))) := by
      show (if Int32.ofNat es.length ≤ Int32.ofNat j then _ else _) = _
      rw [if_neg (by rw [i_le' (by omega) (by omega)]; omega), if_pos hr, c2, o_bind, cm, o_bind, i_a1]
    rw [head]
    by_cases h1 : cnt es[j] ≤ 100
    · rw [if_pos (by rw [show (100 : Int32) = Int32.ofNat 100 from rfl, i_le' (by omega) (by omega)]; exact h1)]
      obtain ⟨S', k112, j1, j2, j3⟩ := ih (j + 1) n S (by omega) (by omega) hc h78 hr
      refine ⟨S', k112, j1, j2, ?_⟩
      have : (∀ x ∈ es.drop j, cnt x ≤ 100) ↔ ∀ x ∈ es.drop (j + 1), cnt x ≤ 100 := ⟨fun h x hx => h x ((ed x).mpr (Or.inr hx)), fun h x hx => by
        rcases (ed x).mp hx with c | c
        · rw [c]; exact h1
        · exact h x c⟩
      rw [this]
      exact j3
    · rw [if_neg (by rw [show (100 : Int32) = Int32.ofNat 100 from rfl, i_le' (by omega) (by omega)]; exact h1)]
      obtain ⟨S1, q1, q2, q3⟩ := rfS_ref (v := 2) h78 (Or.inl hr) (by decide)
      rw [q1, o_bind]
      obtain ⟨n, rfl⟩ : ∃ j, n = j + 1 := ⟨n - 1, by omega⟩
      refine ⟨S1, b_del_l112 k75 n, ?_, q2, Or.inr ⟨q3, fun c => h1 (c _ ((ed _).mpr (Or.inl rfl)))⟩⟩
      show (if Int32.ofNat es.length ≤ Int32.ofNat (j + 1) then _ else _) = _
      split
      · rfl
      · rw [if_neg (fun e => q3 (by rw [e]; decide))]
end RDel175
