section
/-! The class looks at the paths, and sorts them. -/
section Look171
def cnt (x : Mb) : Nat := (toL x.2.2.2.2).length
def smL (es : List Mb) : Nat := (es.map cnt).sum
def okE (es : List Mb) : Prop := ∀ x ∈ es, x.2.1 = 5 ∧ cnt x ≤ 100
theorem smL_s {es : List Mb} {j : Nat} (h : j < es.length) : smL (es.take (j + 1)) = smL (es.take j) + cnt es[j] := by
  unfold smL
  rw [List.take_succ_eq_append_getElem h, List.map_append, List.sum_append]
  simp
theorem look_l {t0 : Nat} {vs : List Int32} {v : Int} {s : List Int32} {es : List Mb} {x0 x1 x2 x3 : Int32} (ht0 : t0 ≠ 72 ∧ t0 ≠ 74) (hp : vat vs 0 (5, v, s, ofL es)) : ∀ (m j n : Nat) (S : SS) (l2 : Int32), j + m = es.length → m < n → tT S t0 = vs → S 72 = [x0, x1, x2, x3, Int32.ofNat j, Int32.ofNat (smL (es.take j))] → (S 74).length = 100 → (∀ k, k < min j 100 → (S 74)[k]? = some (Int32.ofNat (ip false 1 es k))) → (l2 = 0 ∨ l2 = 2) → ∃ S' e, k_lookAt_l29 t0 n S l2 (if m = 0 then -1 else Int32.ofNat (ip false 1 es j)) = some (S', e) ∧ (∀ a, a ≠ 72 → a ≠ 74 → S' a = S a) ∧ (S' 72).length = 6 ∧ (S' 74).length = 100 ∧ (e = 0 ↔ l2 = 0 ∧ okE (es.drop j)) ∧ (e = 0 → S' 72 = [x0, x1, x2, x3, Int32.ofNat es.length, Int32.ofNat (smL es)] ∧ ∀ k, k < min es.length 100 → (S' 74)[k]? = some (Int32.ofNat (ip false 1 es k))) := by
  have hil := (hp.items (Or.inl rfl)).2
  have hvl := hp.1
  intro m
  induction m with
  | zero =>
    intro j n S l2 hj hn ht h72 h74 hk hl2
    obtain ⟨n, rfl⟩ : ∃ j, n = j + 1 := ⟨n - 1, by omega⟩
    have ej : j = es.length := by omega
    subst ej
    refine ⟨S, l2, ?_, fun _ _ _ => rfl, by rw [h72]; rfl, h74, ⟨fun h => ⟨h, fun x hx => ?_⟩, fun h => h.1⟩, fun _ => ⟨?_, hk⟩⟩
    · unfold k_lookAt_l29
      rw [if_pos rfl, if_pos rfl]
    · rw [List.drop_eq_nil_of_le (Nat.le_refl _)] at hx
      cases hx
    · rw [h72, List.take_of_length_le (Nat.le_refl _)]
  | succ m ih =>
    intro j n S l2 hj hn ht h72 h74 hk hl2
    obtain ⟨n, rfl⟩ : ∃ j, n = j + 1 := ⟨n - 1, by omega⟩
    have hjl : j < es.length := by omega
    obtain ⟨s1, s2⟩ := step_at hp hjl
    have hlt := s1.lt
    have k6 := s1.2.2.1.1
    have enx : (if j + 1 < es.length then Int32.ofNat (ip false 1 es (j + 1)) else (-1 : Int32)) = if m = 0 then -1 else Int32.ofNat (ip false 1 es (j + 1)) := by
      by_cases c : m = 0
      · rw [if_pos c, if_neg (by omega)]
      · rw [if_neg c, if_pos (by omega)]
    rw [enx] at s2
    have e4 : rd S 72 4 = Int32.ofNat j := by unfold rd; rw [h72]; rfl
    have n0 : ¬ Int32.ofNat (ip false 1 es j) = -1 := i_ne1 (by omega)
    have n1 : ¬ (4096 : Int32) ≤ Int32.ofNat j := by rw [show (4096 : Int32) = Int32.ofNat 4096 from rfl, i_le' (by omega) (by omega)]; omega
    have hdr : okE (es.drop j) ↔ ((es[j]).2.1 = 5 ∧ cnt es[j] ≤ 100) ∧ okE (es.drop (j + 1)) := by
      rw [List.drop_eq_getElem_cons hjl]
      unfold okE
      constructor
      · intro h
        exact ⟨h _ List.mem_cons_self, fun x hx => h x (List.mem_cons_of_mem _ hx)⟩
      · intro h x hx
        rcases List.mem_cons.mp hx with c | c
        · rw [c]; exact h.1
        · exact h.2 x c
    rw [if_neg (by omega : ¬ m + 1 = 0)]
    by_cases e5 : (es[j]).2.1 = 5
    rotate_left
    · refine ⟨S, 1, ?_, fun _ _ _ => rfl, by rw [h72]; rfl, h74, ⟨fun h => absurd h (by decide), fun h => absurd (hdr.mp h.2).1.1 e5⟩, fun h => absurd h (by decide)⟩
      unfold k_lookAt_l29
      rw [if_neg n0, e4, if_neg n1, ht, s1.kind, o_bind, if_neg (kne5 k6 e5)]
    have s1' := s1
    rw [vl5 e5] at s1'
    obtain ⟨i1, i2⟩ := s1'.items (Or.inl rfl)
    have i1 : t_items vs (Int32.ofNat (ip false 1 es j)) = some (Int32.ofNat (cnt es[j])) := i1
    have i2 : cnt es[j] < 4096 := i2
    -- the state behind it
    have cont : ∀ (S1 : SS) (l2' : Int32), S1 72 = S 72 → (∀ a, a ≠ 72 → a ≠ 74 → S1 a = S a) → (S1 74).length = 100 → (∀ k, k < min (j + 1) 100 → (S1 74)[k]? = some (Int32.ofNat (ip false 1 es k))) → (l2' = 0 ∨ l2' = 2) → (l2' = 0 ↔ l2 = 0 ∧ cnt es[j] ≤ 100) → ∃ S' e, ((t_next (tT (wr (wr S1 72 4 ((rd S1 72 4) + 1)) 72 5 ((rd (wr S1 72 4 ((rd S1 72 4) + 1)) 72 5) + (Int32.ofNat (cnt es[j])))) t0) (Int32.ofNat (ip false 1 es j))).bind fun r19 => k_lookAt_l29 t0 n (wr (wr S1 72 4 ((rd S1 72 4) + 1)) 72 5 ((rd (wr S1 72 4 ((rd S1 72 4) + 1)) 72 5) + (Int32.ofNat (cnt es[j])))) l2' r19) = some (S', e) ∧ (∀ a, a ≠ 72 → a ≠ 74 → S' a = S a) ∧ (S' 72).length = 6 ∧ (S' 74).length = 100 ∧ (e = 0 ↔ l2 = 0 ∧ okE (es.drop j)) ∧ (e = 0 → S' 72 = [x0, x1, x2, x3, Int32.ofNat es.length, Int32.ofNat (smL es)] ∧ ∀ k, k < min es.length 100 → (S' 74)[k]? = some (Int32.ofNat (ip false 1 es k))) := by
      intro S1 l2' g72 gf g74 gk gl gl'
      have h721 : S1 72 = [x0, x1, x2, x3, Int32.ofNat j, Int32.ofNat (smL (es.take j))] := g72.trans h72
      have r4 : rd S1 72 4 = Int32.ofNat j := by unfold rd; rw [h721]; rfl
      have w1 : wr S1 72 4 (rd S1 72 4 + 1) = up S1 72 [x0, x1, x2, x3, Int32.ofNat (j + 1), Int32.ofNat (smL (es.take j))] := by
        rw [r4, i_a1, wr_eq h721]
        rfl
      have r5 : rd (up S1 72 [x0, x1, x2, x3, Int32.ofNat (j + 1), Int32.ofNat (smL (es.take j))]) 72 5 = Int32.ofNat (smL (es.take j)) := by unfold rd; rw [up_same]; rfl
      have w2 : wr (up S1 72 [x0, x1, x2, x3, Int32.ofNat (j + 1), Int32.ofNat (smL (es.take j))]) 72 5 (Int32.ofNat (smL (es.take j)) + Int32.ofNat (cnt es[j])) = up S1 72 [x0, x1, x2, x3, Int32.ofNat (j + 1), Int32.ofNat (smL (es.take (j + 1)))] := by
        rw [← Int32.ofNat_add, ← smL_s hjl, wr_up]
        rfl
      rw [w1, r5, w2]
      obtain ⟨S2, hS2⟩ : ∃ S2, S2 = up S1 72 [x0, x1, x2, x3, Int32.ofNat (j + 1), Int32.ofNat (smL (es.take (j + 1)))] := ⟨_, rfl⟩
      rw [← hS2]
      have t2 : tT S2 t0 = vs := by unfold tT at *; rw [hS2, up_ne ht0.1, gf t0 ht0.1 ht0.2]; exact ht
      obtain ⟨S', e, j1, j2, j3, j4, j5, j6⟩ := ih (j + 1) n S2 l2' (by omega) (by omega) t2 (by rw [hS2, up_same]) (by rw [hS2, up_ne (by decide)]; exact g74) (by rw [hS2, up_ne (by decide)]; exact gk) gl
      refine ⟨S', e, by rw [t2, s2, o_bind]; exact j1, fun a h1 h2 => by rw [j2 a h1 h2, hS2, up_ne h1, gf a h1 h2], j3, j4, ?_, j6⟩
      rw [j5, gl', hdr]
      constructor
      · intro h; exact ⟨h.1.1, ⟨e5, h.1.2⟩, h.2⟩
      · intro h; exact ⟨⟨h.1, h.2.1.2⟩, h.2.2⟩
    unfold k_lookAt_l29
    rw [if_neg n0, e4, if_neg n1, ht, s1.kind, o_bind, if_pos (by rw [e5]; rfl), i1, o_bind]
    have hge : (100 : Int32) ≤ Int32.ofNat j ↔ 100 ≤ j := by rw [show (100 : Int32) = Int32.ofNat 100 from rfl, i_le' (by omega) (by omega)]
    have hw : j < 100 → ∃ z, iset (S 74) (Int32.ofNat j) (Int32.ofNat (ip false 1 es j)) = some z ∧ z.length = 100 ∧ ∀ k, k < min (j + 1) 100 → z[k]? = some (Int32.ofNat (ip false 1 es k)) := by
      intro hj100
      refine ⟨_, i_set (by omega) (by omega), by rw [List.length_set]; exact h74, fun k hk' => ?_⟩
      by_cases ek : k = j
      · subst ek
        rw [List.getElem?_set_self (by omega)]
      · rw [List.getElem?_set_ne (fun c => ek c.symm)]
        exact hk k (by omega)
    by_cases hc : cnt es[j] ≤ 100
    · rw [if_pos (by rw [show (100 : Int32) = Int32.ofNat 100 from rfl, i_le' (by omega) (by omega)]; exact hc)]
      by_cases h100 : 100 ≤ j
      · rw [if_pos (hge.mpr h100)]
        have := cont S l2 rfl (fun _ _ _ => rfl) h74 (fun k hk' => hk k (by omega)) hl2 ⟨fun h => ⟨h, hc⟩, fun h => h.1⟩
        rw [e4] at this
        exact this
      · obtain ⟨z, z1, z2, z3⟩ := hw (by omega)
        rw [if_neg (fun c => h100 (hge.mp c)), z1, o_bind]
        exact cont (up S 74 z) l2 (up_ne (by decide)) (fun a _ h2 => up_ne h2) (by rw [up_same]; exact z2) (by rw [up_same]; exact z3) hl2 ⟨fun h => ⟨h, hc⟩, fun h => h.1⟩
    · rw [if_neg (by rw [show (100 : Int32) = Int32.ofNat 100 from rfl, i_le' (by omega) (by omega)]; exact hc)]
      have fl : ((2 : Int32) = 0 ↔ l2 = 0 ∧ cnt es[j] ≤ 100) := ⟨fun h => absurd h (by decide), fun h => absurd h.2 hc⟩
      by_cases h100 : 100 ≤ j
      · rw [if_pos (hge.mpr h100)]
        have := cont S 2 rfl (fun _ _ _ => rfl) h74 (fun k hk' => hk k (by omega)) (Or.inr rfl) fl
        rw [e4] at this
        exact this
      · obtain ⟨z, z1, z2, z3⟩ := hw (by omega)
        rw [if_neg (fun c => h100 (hge.mp c)), z1, o_bind]
        exact cont (up S 74 z) 2 (up_ne (by decide)) (fun a _ h2 => up_ne h2) (by rw [up_same]; exact z2) (by rw [up_same]; exact z3) (Or.inr rfl) fl
/-- lookAt -/
theorem look_val {S : SS} {t0 : Nat} {pt : Vl} (ht0 : t0 ≠ 72 ∧ t0 ≠ 74) (hp : vat (tT S t0) 0 pt) (h72 : (S 72).length = 6) (h74 : (S 74).length = 100) : ∃ S' e, k_lookAt S t0 = some (S', e) ∧ (∀ a, a ≠ 72 → a ≠ 74 → S' a = S a) ∧ (S' 72).length = 6 ∧ (S' 74).length = 100 ∧ (e = 0 ↔ pt.1 = 5 ∧ okE (toL pt.2.2.2)) ∧ (e = 0 → rd S' 72 4 = Int32.ofNat (toL pt.2.2.2).length ∧ rd S' 72 5 = Int32.ofNat (smL (toL pt.2.2.2)) ∧ (toL pt.2.2.2).length < 4096 ∧ ∀ k, k < min (toL pt.2.2.2).length 100 → (S' 74)[k]? = some (Int32.ofNat (ip false 1 (toL pt.2.2.2) k))) := by
  obtain ⟨x0, x1, x2, x3, x4, x5, e72⟩ : ∃ a b c d e f, S 72 = [a, b, c, d, e, f] := by
    match hS : S 72, h72 with
    | [a, b, c, d, e, f], _ => exact ⟨a, b, c, d, e, f, rfl⟩
  have k6 := hp.2.2.1.1
  obtain ⟨S0, hS0⟩ : ∃ S0, S0 = wr (wr S 72 4 0) 72 5 0 := ⟨_, rfl⟩
  have e0 : S0 = up S 72 [x0, x1, x2, x3, 0, 0] := by rw [hS0, wr_eq e72, wr_up]; rfl
  have tt : tT S0 t0 = tT S t0 := by unfold tT; rw [e0, up_ne ht0.1]
  unfold k_lookAt
  rw [← hS0, tt, show (0 : Int32) = Int32.ofNat 0 from rfl, hp.kind, o_bind]
  by_cases e5 : pt.1 = 5
  · obtain ⟨kp, vp, sp, fp⟩ := pt
    obtain ⟨es, rfl⟩ : ∃ l, fp = ofL l := ⟨toL fp, (ofL_toL fp).symm⟩
    have e5 : kp = 5 := e5
    subst e5
    have etl : toL ((5, vp, sp, ofL es) : Vl).2.2.2 = es := toL_ofL es
    rw [etl]
    have hil := (hp.items (Or.inl rfl)).2
    rw [if_pos (show Int32.ofNat ((5, vp, sp, ofL es) : Vl).1 = 5 from rfl), hp.first (Or.inl rfl), o_bind]
    obtain ⟨S', e, j1, j2, j3, j4, j5, j6⟩ := look_l ht0 hp es.length 0 10000 S0 0 (by omega) (by omega) tt (by rw [e0, up_same]; rfl) (by rw [e0, up_ne (by decide)]; exact h74) (fun k hk => absurd hk (by omega)) (Or.inl rfl)
    refine ⟨S', e, ?_, fun a h1 h2 => by rw [j2 a h1 h2, e0, up_ne h1], j3, j4, ?_, fun h => ?_⟩
    · rw [← j1, ip_0]
      congr 1
      by_cases hn : es = []
      · rw [if_pos hn, if_pos (by rw [hn]; rfl)]
      · rw [if_neg hn, if_neg (by intro c; exact hn (List.eq_nil_of_length_eq_zero c))]
    · show e = 0 ↔ _
      rw [j5, List.drop_zero]
      exact ⟨fun h => ⟨rfl, h.2⟩, fun h => ⟨rfl, h.2⟩⟩
    · obtain ⟨y1, y2⟩ := j6 h
      exact ⟨by unfold rd; rw [y1]; rfl, by unfold rd; rw [y1]; rfl, hil, y2⟩
  · rw [if_neg (kne5 k6 e5)]
    refine ⟨S0, 1, rfl, fun a h1 _ => by rw [e0, up_ne h1], by rw [e0, up_same]; rfl, by rw [e0, up_ne (by decide)]; exact h74, ⟨fun h => absurd h (by decide), fun h => absurd h.1 e5⟩, fun h => absurd h (by decide)⟩
/-- one path finds its place -/
theorem ks20 {t0 N i x : Nat} {vs post : List Int32} {es : List Mb} {k2 : SS → Int32 → Option SS} (ht0 : t0 ≠ 47 ∧ t0 ≠ 48 ∧ t0 ≠ 74) (hN : N ≤ 100) (hat : ∀ j (h : j < es.length), vat vs (ip false 1 es j) (es[j]).2 ∧ dV (es[j]).2 ≤ 59) (hNe : N ≤ es.length) (hx : x < N) : ∀ (k n : Nat) (S : SS) (Q : List Nat), k < Q.length → Q.length = N → k < n → k ≤ i → i < N → stCp S t0 t0 vs vs 0 → (∀ j ∈ Q, j < N) → S 74 = Q.map (fun j => Int32.ofNat (ip false 1 es j)) ++ post → (S 74).length = 100 → ∃ S' Q', k_sort_l20 t0 k2 n S (Int32.ofNat i) (Int32.ofNat (ip false 1 es x)) (Int32.ofNat k) = k2 S' (Int32.ofNat i + 1) ∧ (∀ a, a ≠ 47 → a ≠ 48 → a ≠ 74 → S' a = S a) ∧ stCp S' t0 t0 vs vs 0 ∧ S' 74 = Q'.map (fun j => Int32.ofNat (ip false 1 es j)) ++ post ∧ (S' 74).length = 100 ∧ Q'.length = Q.length ∧ Q'.Perm (Q.set k x) ∧ (hole (fun j => key 61 (es.getD j nulM).2) Q (i + 1) k x → srtN (fun j => key 61 (es.getD j nulM).2) Q' (i + 1)) := by
  intro k
  induction k with
  | zero =>
    intro n S Q hk hQl hn hki hiN hS hQ h74 hl
    obtain ⟨n, rfl⟩ : ∃ j, n = j + 1 := ⟨n - 1, by omega⟩
    have hs : iset (S 74) (Int32.ofNat 0) (Int32.ofNat (ip false 1 es x)) = some ((Q.set 0 x).map (fun j => Int32.ofNat (ip false 1 es j)) ++ post) := by
      rw [h74, i_set (by rw [List.length_append, List.length_map]; omega) (by omega), List.set_append_left _ _ (by rw [List.length_map]; exact hk), List.map_set]
    refine ⟨up S 74 ((Q.set 0 x).map (fun j => Int32.ofNat (ip false 1 es j)) ++ post), Q.set 0 x, ?_, fun a _ _ h => up_ne h, ?_, up_same, ?_, List.length_set, List.Perm.refl _, fun h => hole_set h hk (Or.inl rfl)⟩
    · unfold k_sort_l20
      rw [if_pos (by decide), hs, o_bind]
    · unfold stCp tT rd at hS ⊢
      rw [up_ne ht0.2.2, up_ne (by decide), up_ne (by decide)]
      exact hS
    · rw [up_same, List.length_append, List.length_map, List.length_set]
      rw [h74, List.length_append, List.length_map] at hl
      exact hl
  | succ k ih =>
    intro n S Q hk hQl hn hki hiN hS hQ h74 hl
    obtain ⟨n, rfl⟩ : ∃ j, n = j + 1 := ⟨n - 1, by omega⟩
    have hk' : k < Q.length := by omega
    have hqk := hQ _ (List.getElem_mem hk')
    have ig : ∀ S2 : SS, S2 74 = S 74 → iget (S2 74) (Int32.ofNat (k + 1) - 1) = some (Int32.ofNat (ip false 1 es Q[k])) := by
      intro S2 h2
      rw [show (1 : Int32) = Int32.ofNat 1 from rfl, i_subN (by omega) (by omega), Nat.add_sub_cancel, h2, iget_in (by omega) (by omega)]
      congr 1
      have : (S 74)[k]'(by omega) = (Q.map (fun j => Int32.ofNat (ip false 1 es j)) ++ post)[k]'(by rw [List.length_append, List.length_map]; omega) := List.getElem_of_eq h74 _
      rw [this, List.getElem_append_left (by rw [List.length_map]; exact hk'), List.getElem_map]
    obtain ⟨v1, d1⟩ := hat Q[k] (by omega)
    obtain ⟨v2, d2⟩ := hat x (by omega)
    have lt1 := v1.lt
    have lt2 := v2.lt
    have hvl := v1.1
    obtain ⟨S1, e, o1, o2, o3⟩ := ocmp_val 61 100 (by decide) S t0 t0 (ip false 1 es Q[k]) (ip false 1 es x) 0 0 vs vs _ _ ⟨ht0.2.1, ht0.1⟩ ⟨ht0.2.1, ht0.1⟩ hS v1 v2 (by omega) (by omega) (by omega)
    have hS1 := hS.fr ⟨ht0.2.1, ht0.1⟩ ⟨ht0.2.1, ht0.1⟩ o3
    have e74 : S1 74 = S 74 := o3.1 74 (by decide) (by decide)
    rw [cmpK_key v1.2.2.1 v2.2.2.1] at o2
    have eg : ∀ j (h : j < es.length), (es.getD j nulM).2 = (es[j]).2 := fun j h => by rw [getD_in _ h]
    have o1' : o_cmp 100 S t0 (Int32.ofNat (ip false 1 es Q[k])) t0 (Int32.ofNat (ip false 1 es x)) 0 = some (S1, e) := o1
    have nl : ¬ Int32.ofNat (k + 1) ≤ 0 := by rw [show (0 : Int32) = Int32.ofNat 0 from rfl, i_le' (by omega) (by omega)]; omega
    by_cases hc : e ≤ 0
    · have hs : iset (S1 74) (Int32.ofNat (k + 1)) (Int32.ofNat (ip false 1 es x)) = some ((Q.set (k + 1) x).map (fun j => Int32.ofNat (ip false 1 es j)) ++ post) := by
        rw [e74, h74, i_set (by rw [List.length_append, List.length_map]; omega) (by omega), List.set_append_left _ _ (by rw [List.length_map]; exact hk), List.map_set]
      refine ⟨up S1 74 ((Q.set (k + 1) x).map (fun j => Int32.ofNat (ip false 1 es j)) ++ post), Q.set (k + 1) x, ?_, fun a a1 a2 a3 => by rw [up_ne a3, o3.1 a a1 a2], ?_, up_same, ?_, List.length_set, List.Perm.refl _, fun h => hole_set h hk (Or.inr ⟨by omega, ?_⟩)⟩
      · unfold k_sort_l20
        rw [if_neg nl, ig S rfl, o_bind, o1', o_bind, if_pos hc, hs, o_bind]
      · unfold stCp tT rd at hS1 ⊢
        rw [up_ne ht0.2.2, up_ne (by decide), up_ne (by decide)]
        exact hS1
      · rw [up_same, List.length_append, List.length_map, List.length_set]
        rw [h74, List.length_append, List.length_map] at hl
        exact hl
      · rw [o2, cmpS_le] at hc
        simp only [Nat.add_sub_cancel]
        rw [eg x (by omega), eg Q[k] (by omega)]
        exact hc
    · have hs : iset (S1 74) (Int32.ofNat (k + 1)) (Int32.ofNat (ip false 1 es Q[k])) = some ((Q.set (k + 1) Q[k]).map (fun j => Int32.ofNat (ip false 1 es j)) ++ post) := by
        rw [e74, h74, i_set (by rw [List.length_append, List.length_map]; omega) (by omega), List.set_append_left _ _ (by rw [List.length_map]; exact hk), List.map_set]
      have e2 : Int32.ofNat (k + 1) + (-1) = Int32.ofNat k := by
        apply Int32.toInt_inj.mp
        have a1 : (Int32.ofNat (k + 1)).toInt = ((k + 1 : Nat) : Int) := i_of (by omega)
        have a2 : (-1 : Int32).toInt = -1 := rfl
        rw [i_add (by rw [a1, a2]; omega) (by rw [a1, a2]; omega), a1, a2, i_of (by omega)]
        omega
      obtain ⟨S', Q', j1, j2, j3, j4, j5, j6, j7, j8⟩ := ih n (up S1 74 ((Q.set (k + 1) Q[k]).map (fun j => Int32.ofNat (ip false 1 es j)) ++ post)) (Q.set (k + 1) Q[k]) (by rw [List.length_set]; omega) (by rw [List.length_set]; exact hQl) (by omega) (by omega) hiN (by
        unfold stCp tT rd at hS1 ⊢
        rw [up_ne ht0.2.2, up_ne (by decide), up_ne (by decide)]
        exact hS1) (fun j hj => by
          rcases List.mem_or_eq_of_mem_set hj with c | c
          · exact hQ j c
          · rw [c]; exact hqk) up_same (by
        rw [up_same, List.length_append, List.length_map, List.length_set]
        rw [h74, List.length_append, List.length_map] at hl
        exact hl)
      refine ⟨S', Q', ?_, fun a a1 a2 a3 => by rw [j2 a a1 a2 a3, up_ne a3, o3.1 a a1 a2], j3, j4, j5, by rw [j6, List.length_set], ?_, fun h => j8 ?_⟩
      · unfold k_sort_l20
        rw [if_neg nl, ig S rfl, o_bind, o1', o_bind, if_neg hc, ig S1 e74, o_bind, hs, o_bind, e2]
        exact j1
      · exact j7.trans (mv_perm hk hk' (by omega))
      · have hlt : ltS (key 61 (es.getD x nulM).2) (key 61 (es.getD Q[k] nulM).2) := by
          rw [eg x (by omega), eg Q[k] (by omega)]
          apply Classical.byContradiction
          intro c
          exact hc (by rw [o2]; exact (cmpS_le _ _).mpr c)
        have := hole_mv h hk (by omega) (by omega) hlt
        exact this
theorem ks2 {t0 N : Nat} {vs post : List Int32} {es : List Mb} (ht0 : t0 ≠ 47 ∧ t0 ≠ 48 ∧ t0 ≠ 74) (hN : N ≤ 100) (hat : ∀ j (h : j < es.length), vat vs (ip false 1 es j) (es[j]).2 ∧ dV (es[j]).2 ≤ 59) (hNe : N ≤ es.length) : ∀ (m i n : Nat) (S : SS) (Q : List Nat), (i + m = N ∨ (m = 0 ∧ N ≤ i)) → i ≤ 1000 → Q.length = N → m < n → stCp S t0 t0 vs vs 0 → rd S 72 4 = Int32.ofNat N → (∀ j ∈ Q, j < N) → S 74 = Q.map (fun j => Int32.ofNat (ip false 1 es j)) ++ post → (S 74).length = 100 → srtN (fun j => key 61 (es.getD j nulM).2) Q i → ∃ S' Q', k_sort_l2 t0 n S (Int32.ofNat i) = some S' ∧ (∀ a, a ≠ 47 → a ≠ 48 → a ≠ 74 → S' a = S a) ∧ stCp S' t0 t0 vs vs 0 ∧ S' 74 = Q'.map (fun j => Int32.ofNat (ip false 1 es j)) ++ post ∧ (S' 74).length = 100 ∧ Q'.Perm Q ∧ srtN (fun j => key 61 (es.getD j nulM).2) Q' N := by
  intro m
  have im : ∀ S : SS, rd S 72 4 = Int32.ofNat N → imin (rd S 72 4) 100 = Int32.ofNat N := by
    intro S h
    unfold imin
    rw [h, show (100 : Int32) = Int32.ofNat 100 from rfl, if_neg (by rw [i_lt' (by omega) (by omega)]; omega)]
  induction m with
  | zero =>
    intro i n S Q hi hi2 hQl hn hS hr hQ h74 hl hs
    obtain ⟨n, rfl⟩ : ∃ j, n = j + 1 := ⟨n - 1, by omega⟩
    refine ⟨S, Q, ?_, fun _ _ _ _ => rfl, hS, h74, hl, List.Perm.refl _, fun a b ha hb hab hbm => hs a b ha hb hab (by omega)⟩
    unfold k_sort_l2 k_paths
    rw [o_bind, im S hr, if_pos ((i_le' (by omega) (by omega)).mpr (by omega))]
  | succ m ih =>
    intro i n S Q hi hi2 hQl hn hS hr hQ h74 hl hs
    obtain ⟨n, rfl⟩ : ∃ j, n = j + 1 := ⟨n - 1, by omega⟩
    have hiN : i < N := by omega
    have hiQ : i < Q.length := by omega
    have ig : iget (S 74) (Int32.ofNat i) = some (Int32.ofNat (ip false 1 es Q[i])) := by
      rw [iget_in (by omega) (by omega)]
      congr 1
      have : (S 74)[i]'(by omega) = (Q.map (fun j => Int32.ofNat (ip false 1 es j)) ++ post)[i]'(by rw [List.length_append, List.length_map]; omega) := List.getElem_of_eq h74 _
      rw [this, List.getElem_append_left (by rw [List.length_map]; exact hiQ), List.getElem_map]
    obtain ⟨S1, Q1, e1, e2, e3, e4, e5, e6, e7, e8⟩ := ks20 (k2 := k_sort_l2 t0 n) (i := i) ht0 hN hat hNe (hQ _ (List.getElem_mem hiQ)) i 10000 S Q hiQ hQl (by omega) (Nat.le_refl _) hiN hS hQ h74 hl
    rw [List.set_getElem_self] at e7
    obtain ⟨S', Q', j1, j2, j3, j4, j5, j6, j7⟩ := ih (i + 1) n S1 Q1 (by omega) (by omega) (by omega) (by omega) e3 (by unfold rd at hr ⊢; rw [e2 72 (by decide) (by decide) (by decide)]; exact hr) (fun j hj => hQ j (e7.mem_iff.mp hj)) e4 e5 (e8 (hole_in hiQ hs))
    refine ⟨S', Q', ?_, fun a a1 a2 a3 => (j2 a a1 a2 a3).trans (e2 a a1 a2 a3), j3, j4, j5, j6.trans e7, j7⟩
    unfold k_sort_l2 k_paths
    rw [o_bind, im S hr, if_neg (by rw [i_le' (by omega) (by omega)]; omega), ig, o_bind, e1, i_a1]
    exact j1
end Look171
end

section
/-! The class's del, up to its end. -/
section Del172
/-- the steps of the path j -/
def stO (es : List Mb) (j : Nat) : List Mb := toL (es.getD j nulM).2.2.2.2
theorem dell {N n0 n2 tp dr : Nat} {vs post : List Int32} {es : List Mb} {Q : List Nat} {ra : List Nat} (hdr : dr < 1000 ∧ dr ≠ 67 ∧ dr ≠ 72 ∧ dr ≠ 73 ∧ dr ≠ 74 ∧ dr ≠ 46 ∧ dr ≠ 41) (htp : tp ≠ 67 ∧ tp ≠ 73 ∧ tp ≠ dr ∧ tp < 1000) (hN : N ≤ 100) (hNe : N ≤ es.length) (hQl : Q.length = N) (hQ : ∀ j ∈ Q, j < N) (hat : ∀ j (h : j < es.length), vat vs (ip false 1 es j) (es[j]).2 ∧ (es[j]).2.1 = 5) : ∀ (k n : Nat) (S : SS) (t : Vl), k ≤ N → k < n → iget (S 46) (Int32.ofNat n2) = some (Int32.ofNat tp) → rd S 41 9 = Int32.ofNat dr → S dr = 0 :: bV t → wV t → (bV t).length ≤ 4096 → tT S tp = vs → (S 67).length = 6 → (S 73).length = 4 → rd S 72 4 = Int32.ofNat N → S 74 = Q.map (fun j => Int32.ofNat (ip false 1 es j)) ++ post → (S 74).length = 100 → (∀ T, cutL (((Q.take k).reverse).map (stO es)) t = some T → ∃ S', a_del_l84 n S (Int32.ofNat n0) (Int32.ofNat n2) (Int32.ofInt ((k : Int) - 1)) = ((a_keep S' (Int32.ofNat n0)).bind fun r24 => if r24.2 = 0 then some (r24.1, 0) else some (r24.1, r24.2)) ∧ frK S S' dr ∧ wV T ∧ (bV T).length ≤ 4096 ∧ S' dr = 0 :: bV T) ∧ (cutL (((Q.take k).reverse).map (stO es)) t = none → ∃ S' e, a_del_l84 n S (Int32.ofNat n0) (Int32.ofNat n2) (Int32.ofInt ((k : Int) - 1)) = some (wr S' 41 11 e, 4) ∧ frK S S' dr) := by
  intro k
  induction k with
  | zero =>
    intro n S t hk hn h46 h41 hd hw hl ht h67 h73 h72 h74 h74l
    obtain ⟨n, rfl⟩ : ∃ j, n = j + 1 := ⟨n - 1, by omega⟩
    refine ⟨fun T hT => ?_, fun hT => by cases hT⟩
    cases hT
    refine ⟨S, ?_, frK.refl _ _, hw, hl, hd⟩
    unfold a_del_l84
    rw [if_pos (by decide)]
  | succ k ih =>
    intro n S t hk hn h46 h41 hd hw hl ht h67 h73 h72 h74 h74l
    obtain ⟨n, rfl⟩ : ∃ j, n = j + 1 := ⟨n - 1, by omega⟩
    have hkQ : k < Q.length := by omega
    have hqk := hQ _ (List.getElem_mem hkQ)
    have e1 : Int32.ofInt (((k + 1 : Nat) : Int) - 1) = Int32.ofNat k := by
      rw [show (((k + 1 : Nat) : Int) - 1) = (k : Int) by omega]
      rfl
    have e2 : Int32.ofNat k + (-1) = Int32.ofInt ((k : Int) - 1) := by
      apply Int32.toInt_inj.mp
      have a1 : (Int32.ofNat k).toInt = (k : Int) := i_of (by omega)
      have a2 : (-1 : Int32).toInt = -1 := rfl
      rw [i_add (by rw [a1, a2]; omega) (by rw [a1, a2]; omega), a1, a2, i_ofInt (by omega) (by omega)]
      omega
    have ig : iget (S 74) (Int32.ofNat k) = some (Int32.ofNat (ip false 1 es Q[k])) := by
      have : (S 74)[k]'(by omega) = (Q.map (fun j => Int32.ofNat (ip false 1 es j)) ++ post)[k]'(by rw [List.length_append, List.length_map]; omega) := List.getElem_of_eq h74 _
      rw [iget_in (by omega) (by omega), this, List.getElem_append_left (by rw [List.length_map]; exact hkQ), List.getElem_map]
    obtain ⟨v1, v5⟩ := hat Q[k] (by omega)
    have v1' := v1
    rw [vl5 v5] at v1'
    have est : stO es Q[k] = toL (es[Q[k]]'(by omega)).2.2.2.2 := by unfold stO; rw [getD_in _ (show Q[k] < es.length by omega)]
    have hvt : vat (bV t) 0 t := ⟨hl, (bV_pass t hw).2, hw, [], by rw [List.drop_zero, List.append_nil], Or.inl rfl⟩
    obtain ⟨S1, e, j1, j2, j3, j4, j5, j6⟩ := kcut_val (k := k) (N := N) ⟨hdr.1, hdr.2.1, hdr.2.2.1, hdr.2.2.2.1, hdr.2.2.2.2.1⟩ ⟨htp.1, htp.2.1, htp.2.2.1⟩ hd hvt ht v1' h67 h73 h72 hN (by omega) ig
    rw [← est] at j5 j6
    have er : ((Q.take (k + 1)).reverse).map (stO es) = stO es Q[k] :: ((Q.take k).reverse).map (stO es) := by
      rw [List.take_succ_eq_append_getElem hkQ, List.reverse_append]
      rfl
    have ecl : cutL (((Q.take (k + 1)).reverse).map (stO es)) t = (cutP (stO es Q[k]) t).bind fun u => cutL (((Q.take k).reverse).map (stO es)) u := by rw [er]; rfl
    have step : a_del_l84 (n + 1) S (Int32.ofNat n0) (Int32.ofNat n2) (Int32.ofInt (((k + 1 : Nat) : Int) - 1)) = ((a_refuse S1 e).bind fun r29 => if r29.2 = 0 then a_del_l84 n r29.1 (Int32.ofNat n0) (Int32.ofNat n2) (Int32.ofInt ((k : Int) - 1)) else some (r29.1, r29.2)) := by
      rw [e1]
      show (if Int32.ofNat k < 0 then _ else _) = _
      rw [if_neg (i_nn (by omega)), h46, o_bind, h41, i_cl (by omega), i_cl (by omega), j1, o_bind, e2]
    rw [ecl, step]
    by_cases he : e = 0
    · obtain ⟨T, y1, y2, y3, y4⟩ := j5 he
      have step2 : ((a_refuse S1 e).bind fun r29 => if r29.2 = 0 then a_del_l84 n r29.1 (Int32.ofNat n0) (Int32.ofNat n2) (Int32.ofInt ((k : Int) - 1)) else some (r29.1, r29.2)) = a_del_l84 n S1 (Int32.ofNat n0) (Int32.ofNat n2) (Int32.ofInt ((k : Int) - 1)) := by
        rw [(refuse_a e).1 he, o_bind, if_pos rfl]
      rw [y1, step2]
      show (∀ U, cutL (((Q.take k).reverse).map (stO es)) T = some U → _) ∧ (cutL (((Q.take k).reverse).map (stO es)) T = none → _)
      obtain ⟨z1, z2⟩ := ih n S1 T (by omega) (by omega) (by rw [j2 46 (by decide) (by decide) (fun c => hdr.2.2.2.2.2.1 c.symm)]; exact h46) (by unfold rd at h41 ⊢; rw [j2 41 (by decide) (by decide) (fun c => hdr.2.2.2.2.2.2 c.symm)]; exact h41) y4 y2 y3 (by unfold tT at ht ⊢; rw [j2 tp htp.1 htp.2.1 htp.2.2.1]; exact ht) j3 j4 (by unfold rd at h72 ⊢; rw [j2 72 (by decide) (by decide) (fun c => hdr.2.2.1 c.symm)]; exact h72) (by rw [j2 74 (by decide) (by decide) (fun c => hdr.2.2.2.2.1 c.symm)]; exact h74) (by rw [j2 74 (by decide) (by decide) (fun c => hdr.2.2.2.2.1 c.symm)]; exact h74l)
      refine ⟨fun U hU => ?_, fun hU => ?_⟩
      · obtain ⟨S', w1, w2, w3⟩ := z1 U hU
        exact ⟨S', w1, j2.trans w2, w3⟩
      · obtain ⟨S', e', w1, w2⟩ := z2 hU
        exact ⟨S', e', w1, j2.trans w2⟩
    · have step2 : ((a_refuse S1 e).bind fun r29 => if r29.2 = 0 then a_del_l84 n r29.1 (Int32.ofNat n0) (Int32.ofNat n2) (Int32.ofInt ((k : Int) - 1)) else some (r29.1, r29.2)) = some (wr S1 41 11 e, 4) := by
        rw [(refuse_a e).2 he, o_bind, if_neg (show ¬ (4 : Nat) = 0 by decide)]
      rw [j6 he, step2]
      exact ⟨fun U hU => (by cases hU), fun _ => ⟨S1, e, rfl, j2⟩⟩
/-- what the class's del leaves alone -/
def frD (S S' : SS) (dr : Nat) : Prop := (∀ a, a ∉ cSc → a ≠ dr → S' a = S a) ∧ lenC S'
theorem adel_val {S : SS} {ts : Nat → Vl} {dr : Nat} {ra : List Nat} {n0 n1 n2 : Nat} (hcs : ∃ h, cs h S) (i1 : InvL S) (i5 : InvG S ts dr ra) (hn0 : n0 < 8) (hn1 : n1 < 8) (hn2 : n2 < 8) : (¬ ((ts n2).1 = 5 ∧ okE (toL (ts n2).2.2.2)) → ∃ S' e, a_del S (Int32.ofNat n0) (Int32.ofNat n1) (Int32.ofNat n2) = some (wr S' 41 11 e, 4) ∧ frD S S' dr) ∧ ((ts n2).1 = 5 ∧ okE (toL (ts n2).2.2.2) → ¬ ((toL (ts n2).2.2.2).length ≤ 100 ∧ smL (toL (ts n2).2.2.2) ≤ 100) → ∃ S', a_del S (Int32.ofNat n0) (Int32.ofNat n1) (Int32.ofNat n2) = some (S', 1) ∧ frD S S' dr) ∧ ((ts n2).1 = 5 ∧ okE (toL (ts n2).2.2.2) → (toL (ts n2).2.2.2).length ≤ 100 ∧ smL (toL (ts n2).2.2.2) ≤ 100 → ∃ Q : List Nat, Q.Perm (List.range (toL (ts n2).2.2.2).length) ∧ srtN (fun j => key 61 ((toL (ts n2).2.2.2).getD j nulM).2) Q (toL (ts n2).2.2.2).length ∧ (∀ T, cutL ((Q.reverse).map (stO (toL (ts n2).2.2.2))) (ts n1) = some T → ∃ S', a_del S (Int32.ofNat n0) (Int32.ofNat n1) (Int32.ofNat n2) = ((a_keep S' (Int32.ofNat n0)).bind fun r24 => if r24.2 = 0 then some (r24.1, 0) else some (r24.1, r24.2)) ∧ frD S S' dr ∧ wV T ∧ (bV T).length ≤ 4096 ∧ S' dr = 0 :: bV T) ∧ (cutL ((Q.reverse).map (stO (toL (ts n2).2.2.2))) (ts n1) = none → ∃ S' e, a_del S (Int32.ofNat n0) (Int32.ofNat n1) (Int32.ofNat n2) = some (wr S' 41 11 e, 4) ∧ frD S S' dr)) := by
  obtain ⟨l78, l41, l90, l96, l67, l68, l69, l70, l72, l73, l75, l47⟩ := cs.l78 hcs
  obtain ⟨g1, g2, g3, g4, g5⟩ := id i5
  have reg : ∀ n, n < 8 → a_reg S (Int32.ofNat n) = some (S, 0) := by
    intro n hn
    have : ¬ Int32.ofNat n < 0 ∧ Int32.ofNat n < 8 := ⟨i_nn (by omega), by rw [show (8 : Int32) = Int32.ofNat 8 from rfl, i_lt' (by omega) (by omega)]; exact hn⟩
    exact (reg_ok S this).1
  have hdn : dr ∈ nine := g3.mem_iff.mp List.mem_cons_self
  have n9 : ∀ a, a ∉ nine → a ≠ dr := fun a ha e => ha (e ▸ hdn)
  have nt : ∀ a ∈ nine, a < 1000 ∧ a ≠ 67 ∧ a ≠ 72 ∧ a ≠ 73 ∧ a ≠ 74 ∧ a ≠ 46 ∧ a ≠ 41 ∧ a ≠ 47 ∧ a ≠ 48 ∧ a ∉ cSc := by decide
  obtain ⟨d1, d2, d3, d4, d5, d6, d7, d8, d9, d10⟩ := nt dr hdn
  have m1 := ra_mem g3 g2 hn1
  have m2 := ra_mem g3 g2 hn2
  obtain ⟨p1, p2, p3, p4, p5, p6, p7, p8, p9, p10⟩ := nt _ m2
  obtain ⟨q1, q2, q3, q4, q5, q6, q7, q8, q9, q10⟩ := nt _ m1
  have pd := ra_ne g3 g2 hn2
  have qd := ra_ne g3 g2 hn1
  obtain ⟨c2, c2'⟩ := get46 g1 g2 hn2 p1
  obtain ⟨c1, c1'⟩ := get46 g1 g2 hn1 q1
  obtain ⟨v2, -⟩ := reg_vat (g5 n2 hn2)
  obtain ⟨y1, y2, y3, y4, y5, y6⟩ := i1.lenC
  obtain ⟨S1, e, j1, j2, j3, j4, j5, j6⟩ := look_val (t0 := ra.getD n2 0) ⟨p3, p5⟩ v2 l72 y4
  have fr1 : ∀ a, a ∉ cSc → S1 a = S a := fun a ha => j2 a (fun c => ha (c ▸ by decide)) (fun c => ha (c ▸ by decide))
  have D1 : frD S S1 dr := ⟨fun a ha _ => fr1 a ha, by unfold rd; rw [j2 47 (by decide) (by decide)]; exact y1, by rw [j2 48 (by decide) (by decide)]; exact y2, by rw [j2 71 (by decide) (by decide)]; exact y3, j4, by rw [j2 76 (by decide) (by decide)]; exact y5, by rw [j2 77 (by decide) (by decide)]; exact y6⟩
  have head : a_del S (Int32.ofNat n0) (Int32.ofNat n1) (Int32.ofNat n2) = ((a_refuse S1 e).bind fun r10 => if r10.2 = 0 then ((k_many r10.1).bind fun r12 => (if r12 = 0 then ((iget (r10.1 46) (Int32.ofNat n2)).bind fun b15 => ((k_sort r10.1 b15.toNatClampNeg).bind fun r16 => ((iget (r16 46) (Int32.ofNat n1)).bind fun b18 => ((scopy r16 ((rd r16 41 9).toNatClampNeg) b18.toNatClampNeg).bind fun r19 => ((k_paths r19).bind fun r21 => a_del_l84 10000 r19 (Int32.ofNat n0) (Int32.ofNat n2) (r21 - 1)))))) else some (r10.1, 1))) else some (r10.1, r10.2)) := by
    unfold a_del
    rw [reg n0 hn0, o_bind, if_pos rfl, reg n1 hn1, o_bind, if_pos rfl, reg n2 hn2, o_bind, if_pos rfl, c2, o_bind, c2', j1, o_bind]
  rw [head]
  obtain ⟨es, hes⟩ : ∃ es, es = toL (ts n2).2.2.2 := ⟨_, rfl⟩
  rw [← hes] at j5 j6
  rw [← hes]
  refine ⟨fun hno => ?_, fun hok => ?_, fun hok => ?_⟩
  · have he : e ≠ 0 := fun c => hno (j5.mp c)
    rw [(refuse_a e).2 he, o_bind, if_neg (show ¬ (4 : Nat) = 0 by decide)]
    exact ⟨S1, e, rfl, D1⟩
  · intro hmany
    have he : e = 0 := j5.mpr hok
    obtain ⟨r4, r5, hlen, -⟩ := j6 he
    have hsm : smL es < 2147483648 := by
      have : ∀ l : List Mb, (∀ x ∈ l, cnt x ≤ 100) → smL l ≤ 100 * l.length := by
        intro l
        induction l with
        | nil => intro _; exact Nat.zero_le _
        | cons x l ih =>
          intro h
          have h1 := ih (fun y hy => h y (List.mem_cons_of_mem _ hy))
          have h2 := h x List.mem_cons_self
          unfold smL at h1 ⊢
          rw [List.map_cons, List.sum_cons, List.length_cons]
          omega
      have := this es (fun x hx => (hok.2 x hx).2)
      omega
    have km : k_many S1 = some 1 := by
      unfold k_many
      rw [r4, r5]
      by_cases c : es.length ≤ 100
      · rw [if_neg (by rw [show (100 : Int32) = Int32.ofNat 100 from rfl, i_lt' (by omega) (by omega)]; omega), if_neg (by rw [show (100 : Int32) = Int32.ofNat 100 from rfl, i_le' (by omega) (by omega)]; exact fun d => hmany ⟨c, d⟩)]
      · rw [if_pos (by rw [show (100 : Int32) = Int32.ofNat 100 from rfl, i_lt' (by omega) (by omega)]; omega)]
    rw [(refuse_a e).1 he, o_bind, if_pos rfl, km, o_bind, if_neg (by decide)]
    exact ⟨S1, rfl, D1⟩
  · intro hfew
    have he : e = 0 := j5.mpr hok
    obtain ⟨r4, r5, hlen, hpl⟩ := j6 he
    have km : k_many S1 = some 0 := by
      unfold k_many
      rw [r4, r5, if_neg (by rw [show (100 : Int32) = Int32.ofNat 100 from rfl, i_lt' (by omega) (by omega)]; omega), if_pos (by rw [show (100 : Int32) = Int32.ofNat 100 from rfl, i_le' (by omega) (by omega)]; exact hfew.2)]
    have hdep : ∀ x ∈ es, dV x.2 ≤ 59 := by
      intro x hx
      have h60 := (g5 n2 hn2).2.2.2.1
      have e5 := vl5 hok.1
      rw [e5, ← hes] at h60
      have := dV_kid (k := 5) (v := (ts n2).2.1) (s := (ts n2).2.2.1) (Or.inl rfl) hx
      omega
    have v2' := v2
    rw [vl5 hok.1, ← hes] at v2'
    have hat0 : ∀ j (h : j < es.length), vat (tT S (ra.getD n2 0)) (ip false 1 es j) (es[j]).2 := fun j h => (step_at v2' h).1
    obtain ⟨pre, post, hpp, hpre⟩ : ∃ pre post, S1 74 = pre ++ post ∧ pre = (List.range es.length).map (fun j => Int32.ofNat (ip false 1 es j)) := by
      refine ⟨_, (S1 74).drop es.length, ?_, rfl⟩
      conv => lhs; rw [← List.take_append_drop es.length (S1 74)]
      congr 1
      apply List.ext_getElem
      · rw [List.length_take, List.length_map, List.length_range]; omega
      · intro i h1 h2
        rw [List.length_map, List.length_range] at h2
        have := hpl i (by omega)
        obtain ⟨w1, w2⟩ := List.getElem?_eq_some_iff.mp this
        rw [List.getElem_take, List.getElem_map, List.getElem_range, w2]
    rw [hpre] at hpp
    have hst : stCp S1 (ra.getD n2 0) (ra.getD n2 0) (tT S (ra.getD n2 0)) (tT S (ra.getD n2 0)) 0 := by
      refine ⟨by unfold tT; rw [fr1 _ p10], by unfold tT; rw [fr1 _ p10], by rw [j2 47 (by decide) (by decide)]; exact l47, D1.2.1, D1.2.2.1⟩
    obtain ⟨S2, Q, k1, k2, k3, k4, k5, k6, k7⟩ := ks2 (t0 := ra.getD n2 0) (N := es.length) ⟨p8, p9, p5⟩ hfew.1 (fun j h => ⟨hat0 j h, hdep _ (List.getElem_mem h)⟩) (Nat.le_refl _) (es.length - 1) 1 10000 S1 (List.range es.length) (by omega) (by omega) List.length_range (by omega) hst r4 (fun j hj => List.mem_range.mp hj) hpp j4 (fun a b ha hb hab hbm => by omega)
    have fr2 : ∀ a, a ∉ cSc → S2 a = S a := fun a ha => by rw [k2 a (fun c => ha (c ▸ by decide)) (fun c => ha (c ▸ by decide)) (fun c => ha (c ▸ by decide)), fr1 a ha]
    have hQl : Q.length = es.length := by rw [k6.length_eq, List.length_range]
    have hQm : ∀ j ∈ Q, j < es.length := fun j hj => List.mem_range.mp (k6.mem_iff.mp hj)
    -- the copy
    obtain ⟨b1, b2, b3, -⟩ := g5 n1 hn1
    have tn : tT S2 (ra.getD n1 0) = bV (ts n1) := by unfold tT; rw [fr2 _ q10, b1]; rfl
    have eC : scopy S2 dr (ra.getD n1 0) = some (up S2 dr (0 :: bV (ts n1))) := by
      unfold scopy
      rw [show up S2 dr [0] = up S2 dr (pv []) from rfl, spart_pv (fun c => qd c.symm) ?_ (by decide), List.nil_append, tn, tcut_all _ (by omega), pv_fit b2]
      rw [show (-10000 : Int32) = Int32.ofInt (-10000) from rfl, i_lt, i_ofInt (by decide) (by decide), i_of (by rw [tn]; omega)]
      omega
    obtain ⟨S3, hS3⟩ : ∃ S3, S3 = up S2 dr (0 :: bV (ts n1)) := ⟨_, rfl⟩
    have o3 : ∀ a, a ≠ dr → S3 a = S2 a := fun a ha => by rw [hS3, up_ne ha]
    have r43 : rd S3 72 4 = Int32.ofNat es.length := by
      unfold rd at r4 ⊢
      rw [o3 72 (fun c => d3 c.symm), k2 72 (by decide) (by decide) (by decide)]
      exact r4
    have c46 : iget (S3 46) (Int32.ofNat n2) = some (Int32.ofNat (ra.getD n2 0)) := by rw [o3 46 (fun c => d6 c.symm), fr2 46 (by decide)]; exact c2
    have c41 : rd S3 41 9 = Int32.ofNat dr := by unfold rd at g4 ⊢; rw [o3 41 (fun c => d7 c.symm), fr2 41 (by decide)]; exact g4
    have ekp : k_paths S3 = some (Int32.ofNat es.length) := by
      unfold k_paths imin
      rw [r43, show (100 : Int32) = Int32.ofNat 100 from rfl, if_neg (by rw [i_lt' (by omega) (by omega)]; omega)]
    have em1 : Int32.ofNat es.length - 1 = Int32.ofInt ((es.length : Int) - 1) := by
      apply Int32.toInt_inj.mp
      have a1 : (Int32.ofNat es.length).toInt = (es.length : Int) := i_of (by omega)
      have a2 : (1 : Int32).toInt = 1 := rfl
      rw [Int32.toInt_sub, a1, a2, i_ofInt (by omega) (by omega), Int.bmod_def]
      omega
    have go : ((a_refuse S1 e).bind fun r10 => if r10.2 = 0 then ((k_many r10.1).bind fun r12 => (if r12 = 0 then ((iget (r10.1 46) (Int32.ofNat n2)).bind fun b15 => ((k_sort r10.1 b15.toNatClampNeg).bind fun r16 => ((iget (r16 46) (Int32.ofNat n1)).bind fun b18 => ((scopy r16 ((rd r16 41 9).toNatClampNeg) b18.toNatClampNeg).bind fun r19 => ((k_paths r19).bind fun r21 => a_del_l84 10000 r19 (Int32.ofNat n0) (Int32.ofNat n2) (r21 - 1)))))) else some (r10.1, 1))) else some (r10.1, r10.2)) = a_del_l84 10000 S3 (Int32.ofNat n0) (Int32.ofNat n2) (Int32.ofInt ((es.length : Int) - 1)) := by
      have ks : k_sort S1 (ra.getD n2 0) = some S2 := k1
      have e9 : (rd S2 41 9).toNatClampNeg = dr := by
        have : rd S2 41 9 = Int32.ofNat dr := by unfold rd at g4 ⊢; rw [fr2 41 (by decide)]; exact g4
        rw [this]
        exact i_cl (by omega)
      rw [(refuse_a e).1 he, o_bind]
      show (if (0 : Nat) = 0 then ((k_many S1).bind fun r12 => (if r12 = 0 then ((iget (S1 46) (Int32.ofNat n2)).bind fun b15 => ((k_sort S1 b15.toNatClampNeg).bind fun r16 => ((iget (r16 46) (Int32.ofNat n1)).bind fun b18 => ((scopy r16 ((rd r16 41 9).toNatClampNeg) b18.toNatClampNeg).bind fun r19 => ((k_paths r19).bind fun r21 => a_del_l84 10000 r19 (Int32.ofNat n0) (Int32.ofNat n2) (r21 - 1)))))) else some (S1, 1))) else _) = _
      rw [if_pos rfl, km, o_bind, if_pos rfl, fr1 46 (by decide), c2, o_bind, c2', ks, o_bind, fr2 46 (by decide), c1, o_bind, c1', e9, eC, o_bind, ← hS3, ekp, o_bind, em1]
    have hat3 : ∀ j (h : j < es.length), vat (tT S (ra.getD n2 0)) (ip false 1 es j) (es[j]).2 ∧ (es[j]).2.1 = 5 := fun j h => ⟨hat0 j h, (hok.2 _ (List.getElem_mem h)).1⟩
    obtain ⟨z1, z2⟩ := dell (n0 := n0) (ra := ra) (Q := Q) (post := post) ⟨d1, d2, d3, d4, d5, d6, d7⟩ ⟨p2, p4, pd, p1⟩ hfew.1 (Nat.le_refl _) hQl hQm hat3 es.length 10000 S3 (ts n1) (Nat.le_refl _) (by omega) c46 c41 (by rw [hS3, up_same]) b3 b2 (by unfold tT; rw [o3 _ pd, fr2 _ p10]) (by rw [o3 67 (fun c => d2 c.symm), k2 67 (by decide) (by decide) (by decide), j2 67 (by decide) (by decide)]; exact l67) (by rw [o3 73 (fun c => d4 c.symm), k2 73 (by decide) (by decide) (by decide), j2 73 (by decide) (by decide)]; exact l73) r43 (by rw [o3 74 (fun c => d5 c.symm)]; exact k4) (by rw [o3 74 (fun c => d5 c.symm)]; exact k5)
    rw [List.take_of_length_le (Nat.le_of_eq hQl)] at z1 z2
    have frT : ∀ S', frK S3 S' dr → frD S S' dr := by
      intro S' hf
      have e : ∀ a, a ∈ [47, 48, 71, 74, 76, 77] → S' a = S2 a := fun a ha => by
        have d : ∀ a ∈ [47, 48, 71, 74, 76, 77], a ≠ 67 ∧ a ≠ 73 ∧ a ∉ nine := by decide
        obtain ⟨x1, x2, x3⟩ := d a ha
        rw [hf a x1 x2 (n9 a x3), o3 a (n9 a x3)]
      obtain ⟨u1, u2, u3, u4, u5⟩ := k3
      refine ⟨fun a ha hne => ?_, by unfold rd; rw [e 47 (by decide)]; exact u4, by rw [e 48 (by decide)]; exact u5, by rw [e 71 (by decide), k2 71 (by decide) (by decide) (by decide), j2 71 (by decide) (by decide)]; exact y3, by rw [e 74 (by decide)]; exact k5, by rw [e 76 (by decide), k2 76 (by decide) (by decide) (by decide), j2 76 (by decide) (by decide)]; exact y5, by rw [e 77 (by decide), k2 77 (by decide) (by decide) (by decide), j2 77 (by decide) (by decide)]; exact y6⟩
      rw [hf a (fun c => ha (c ▸ by decide)) (fun c => ha (c ▸ by decide)) hne, o3 a hne, fr2 a ha]
    refine ⟨Q, k6, k7, fun T hT => ?_, fun hT => ?_⟩
    · obtain ⟨S', w1, w2, w3⟩ := z1 T hT
      exact ⟨S', go.trans w1, frT S' w2, w3⟩
    · obtain ⟨S', e', w1, w2⟩ := z2 hT
      exact ⟨S', e', go.trans w1, frT S' w2⟩
end Del172
end

section
/-! The reference takes what a path leads to out of a value. -/
section RTake173
/-- the reference's place, exactly -/
theorem rplace_pos {S : SS} {aa p : Nat} {v0 : Int} {s0 : List Int32} {l : List Mb} {w : Option (Nat × Nat)} {v : Int} (hp9 : p < 9000) (h : spR S aa (5, v0, s0, ofL l) w (Int32.ofNat p)) (hv : -9007199254740991 ≤ v ∧ v ≤ 9007199254740991) : b_place S aa (Int64.ofInt v) = some (if 0 ≤ atX v (winN (5, v0, s0, ofL l) w) ∧ atX v (winN (5, v0, s0, ofL l) w) < winN (5, v0, s0, ofL l) w then Int32.ofNat (pos (5, v0, s0, ofL l) p (winA (5, v0, s0, ofL l) w + (atX v (winN (5, v0, s0, ofL l) w)).toNat)) else -1) ∧ winA (5, v0, s0, ofL l) w + winN (5, v0, s0, ofL l) w ≤ l.length := by
  obtain ⟨bw, bn⟩ := between_val h rfl
  obtain ⟨p', e, hp', hc, hw, hn0, hb⟩ := id h
  have epp : p = p' := (i_inj (by omega) (by omega)).mp e
  subst epp
  obtain ⟨r1, r2⟩ := hb (Or.inr rfl)
  obtain ⟨w1, w2, w3⟩ := win_le hw
  have hsz : size (5, v0, s0, ofL l) = l.length := by unfold size; rw [if_neg (show ¬ (5 : Nat) = 4 by decide)]; exact congrArg List.length (toL_ofL l)
  rw [hsz] at w2
  obtain ⟨n, hn⟩ : ∃ n, n = winN (5, v0, s0, ofL l) w := ⟨_, rfl⟩
  obtain ⟨A, hA⟩ : ∃ A, A = winA (5, v0, s0, ofL l) w := ⟨_, rfl⟩
  rw [← hn] at bw bn w3
  rw [← hA] at r1 w3
  rw [← hn, ← hA]
  refine ⟨?_, by omega⟩
  have z0 : (0 : Int64).toInt = 0 := rfl
  have lv := l_of (z := v) (by omega) (by omega)
  have ln : ((Int32.ofNat n).toInt64).toInt = n := j64 (by omega)
  have la : (Int64.ofInt v + (Int32.ofNat n).toInt64).toInt = v + n := by rw [l_add (by rw [lv]; omega) (by rw [ln]; omega), lv, ln]
  have wk : ∀ k : Nat, k < n → b_walk S aa (rd S 78 17) (Int64.ofInt k) = some (Int32.ofNat (pos (5, v0, s0, ofL l) p (A + k))) := by
    intro k hk
    rw [r1]
    refine walk_val hc rfl ?_
    show A + k ≤ (toL (ofL l)).length
    rw [toL_ofL]
    omega
  unfold b_place
  rw [bw, o_bind]
  by_cases hs : v < 0
  · have hx : atX v n = v + n := by unfold atX; rw [if_pos hs]
    rw [hx, if_neg (by rw [lg_ge, lv, z0]; omega)]
    by_cases c1 : v + n < 0
    · rw [if_pos ((lg_lt _ _).mpr (by rw [la, z0]; exact c1)), if_neg (by omega)]
    · have c2 : v + (n : Int) < n := by omega
      have e2 : Int64.ofInt v + (Int32.ofNat n).toInt64 = Int64.ofInt ((v + n).toNat : Nat) := by
        apply l_inj
        rw [la]
        omega
      rw [if_neg (by rw [lg_lt, la, z0]; exact c1), if_pos ((lg_lt _ _).mpr (by rw [la, ln]; exact c2)), e2, wk _ (by omega), o_bind, if_pos (by omega)]
  · have hx : atX v n = v := by unfold atX; rw [if_neg hs]
    rw [hx, if_pos ((lg_ge _ _).mpr (by rw [lv, z0]; omega)), if_neg (by rw [lg_lt, lv, z0]; exact hs)]
    by_cases c2 : v < n
    · have e2 : Int64.ofInt v = Int64.ofInt (v.toNat : Nat) := by
        congr 1
        omega
      rw [if_pos ((lg_lt _ _).mpr (by rw [lv, ln]; exact c2)), e2, wk _ (by omega), o_bind, if_pos (by omega)]
    · rw [if_neg (by rw [lg_lt, lv, ln]; exact c2), if_neg (by omega)]
/-- what stands there for take -/
def prT (S : SS) (aa pb E : Nat) : Prop := rd S 78 19 = Int32.ofNat pb ∧ rd S 78 21 = Int32.ofNat E ∧ (S pb).length ≤ 9000 ∧ S 39 = mp_aS ∧ S 40 = mp_aE ∧ (S 78).length = 22 ∧ (aa ≠ 78 ∧ aa ≠ 90 ∧ aa ≠ 91) ∧ (82 ≤ pb ∧ pb ≤ 89) ∧ E ≤ 9000
theorem prT.fr {S S' : SS} {aa pb E : Nat} (h : prT S aa pb E) (hf : fr3 S S') : prT S' aa pb E := by
  obtain ⟨h1, h2, h3, h4, h5, h6, h7, h8, h9⟩ := h
  exact ⟨by rw [hf.2.1 19 (by decide) (by decide) (by decide)]; exact h1, by rw [hf.2.1 21 (by decide) (by decide) (by decide)]; exact h2, by rw [hf.1 pb (by omega) (by omega) (by omega)]; exact h3, by rw [hf.1 39 (by decide) (by decide) (by decide)]; exact h4, by rw [hf.1 40 (by decide) (by decide) (by decide)]; exact h5, by rw [hf.2.2]; exact h6, h7, h8, h9⟩
theorem prT.p {S : SS} {aa pb E : Nat} (h : prT S aa pb E) : ¬ rd S 78 19 = 0 ∧ (rd S 78 19).toNatClampNeg = pb := by
  obtain ⟨h1, h2, h3, h4, h5, h6, h7, h8, h9⟩ := h
  rw [h1, show (0 : Int32) = Int32.ofNat 0 from rfl, i_inj (by omega) (by omega), i_cl (by omega)]
  exact ⟨by omega, rfl⟩
def atT (S : SS) (pb i E : Nat) (ls : List Mb) : Prop := okL ls ∧ i + (blks false ls).flatten.length = E ∧ ∃ r, (S pb).drop i = (blks false ls).flatten ++ r
theorem atT.fr {S S' : SS} {pb i E : Nat} {ls : List Mb} (h : atT S pb i E ls) (hb : 82 ≤ pb ∧ pb ≤ 89) (hf : fr3 S S') : atT S' pb i E ls := by
  unfold atT
  rw [hf.1 pb (by omega) (by omega) (by omega)]
  exact h
theorem atT.cons {S : SS} {aa pb i E : Nat} {m : Mb} {ls : List Mb} (h : atT S pb i E (m :: ls)) (hP : prT S aa pb E) : i < E ∧ cat (S pb) i m.2 ∧ r_next (S pb) (Int32.ofNat i) = some (Int32.ofNat (i + (cV m.2).length)) ∧ atT S pb (i + (cV m.2).length) E ls ∧ b_isLast S (Int32.ofNat i) = some (if ls = [] then 1 else 0) := by
  obtain ⟨h1, h4, r, h5⟩ := h
  obtain ⟨p1, p2⟩ := hP.p
  obtain ⟨q1, q2, q3, -, -, -, -, -, q9⟩ := hP
  have eb : blks false (m :: ls) = cV m.2 :: blks false ls := rfl
  rw [eb] at h4 h5
  have hh : ∀ z ∈ cV m.2 :: blks false ls, hdd z := by rw [← eb]; exact blks_h h1
  obtain ⟨s1, s2, s3, s4⟩ := blk_step q3 hh h5
  rw [List.flatten_cons, List.length_append] at h4
  rw [List.flatten_cons, List.append_assoc] at h5
  refine ⟨by omega, ⟨q3, (h1 m List.mem_cons_self).2, _, h5⟩, s1, ⟨h1.tail, by omega, r, s2⟩, ?_⟩
  unfold b_isLast
  rw [if_neg p1, p2, s1, o_bind, q2]
  by_cases hn : ls = []
  · subst hn
    have z : (blks false []).flatten.length = 0 := rfl
    rw [if_pos (by rw [i_inj (by omega) (by omega)]; omega), if_pos rfl]
  · rw [if_neg hn, if_neg]
    rw [i_inj (by omega) (by omega)]
    have hf := flat2 _ (blks_h (b := false) h1.tail)
    have hbl := blks_len false ls
    simp only [Bool.false_eq_true, if_false] at hbl
    have : ls.length ≠ 0 := fun c => hn (List.eq_nil_of_length_eq_zero c)
    omega
/-- what a call of take answers -/
def rtO (S S' : SS) (C : List Int32) (o : Option Vl) : Prop := fr3 S S' ∧ ∃ C', OutV S' (C ++ C') ∧ (∀ T, o = some T → rd S' 78 12 = 0 ∧ wV T ∧ C' = cV T) ∧ (o = none → ¬ rd S' 78 12 ≤ 0)
theorem tref {S : SS} {C : List Int32} (h78 : (S 78).length = 22) (ho : OutV S C) (hr : rd S 78 12 = 0) : ∃ S', ((b_refuse S 1).bind fun r => some r) = some S' ∧ rtO S S' C none := by
  obtain ⟨S', h1, h2, C', h3, h4, h5⟩ := rref (v := 1) (dp := 0) h78 ho (by decide) hr
  exact ⟨S', h1, h2, C', h3, (fun T hT => by cases hT), h5⟩
theorem tcopy {S : SS} {aa p : Nat} {t : Vl} {C : List Int32} (haa : aa ≠ 90 ∧ aa ≠ 91) (ho : OutV S C) (hr : rd S 78 12 = 0) (hc : cat (S aa) p t) : ∃ S', ((q_copy S aa (Int32.ofNat p)).bind fun r => some r) = some S' ∧ rtO S S' C (some t) := by
  obtain ⟨h9, hw, r, hd⟩ := hc
  obtain ⟨S1, q1, q2, q3⟩ := ocopy haa (cV_h hw.1) ho h9 hd
  exact ⟨S1, by rw [q1, o_bind], fr3_O q3, _, q2, fun T hT => by cases hT; exact ⟨by rw [frO_12 q3]; exact hr, hw, rfl⟩, fun hn => by cases hn⟩
/-- an array without the elements i to before j -/
theorem tround {S : SS} {aa p i j : Nat} {v0 : Int} {s0 : List Int32} {l : List Mb} {C : List Int32} (haa : aa ≠ 78 ∧ aa ≠ 90 ∧ aa ≠ 91) (ho : OutV S C) (hr : rd S 78 12 = 0) (hc : cat (S aa) p (5, v0, s0, ofL l)) (hij : i ≤ j) (hj : j ≤ l.length) : ∃ S', ((b_around S aa (Int32.ofNat p) (Int32.ofNat (pos (5, v0, s0, ofL l) p i)) (Int32.ofNat (pos (5, v0, s0, ofL l) p j))).bind fun r => some r) = some S' ∧ rtO S S' C (some (5, v0, s0, ofL (l.take i ++ l.drop j))) := by
  obtain ⟨S1, at_, o1, o2, o3, o4⟩ := oopen ho 5
  have hc1 : cat (S1 aa) p (5, v0, s0, ofL l) := by rw [o3 aa haa.2.1 haa.2.2]; exact hc
  have ep0 : pos (5, v0, s0, ofL l) p 0 = p + 2 := by
    obtain ⟨y1, -, -⟩ := pos_in hc (Nat.zero_le l.length)
    rw [y1]
    show p + 2 + 0 = _
    omega
  have epn : pos (5, v0, s0, ofL l) p l.length = p + (cV (5, v0, s0, ofL l)).length := by
    obtain ⟨y1, y2, -⟩ := pos_in hc (Nat.le_refl l.length)
    rw [y1, y2, List.take_of_length_le (Nat.le_refl _)]
    omega
  obtain ⟨S2, q1, q2, q3⟩ := cellsQ (i := 0) (j := i) haa.2 hc1 (Nat.zero_le _) (by omega) o2
  rw [ep0] at q1
  have hc2 : cat (S2 aa) p (5, v0, s0, ofL l) := by rw [q3 aa haa.2.1 haa.2.2]; exact hc1
  obtain ⟨S3, v1, v2, v3⟩ := cellsQ (i := j) (j := l.length) haa.2 hc2 hj (Nat.le_refl _) q2
  rw [epn] at v1
  have body : (blks false ((l.drop 0).take (i - 0))).flatten ++ (blks false ((l.drop j).take (l.length - j))).flatten = (blks false (l.take i ++ l.drop j)).flatten := by
    rw [blks_app, List.flatten_append, List.drop_zero, Nat.sub_zero, List.take_of_length_le (show (l.drop j).length ≤ l.length - j by rw [List.length_drop]; exact Nat.le_refl _)]
  obtain ⟨S4, z1, z2, z3⟩ := oclose (C := C) (k := 5) (at_ := at_) (body := (blks false (l.take i ++ l.drop j)).flatten) (by rw [← body]; simpa using v2) o4
  refine ⟨S4, ?_, ((fr3_O o3).trans (fr3_O q3)).trans ((fr3_O v3).trans (fr3_O z3)), _, z2, fun T hT => ?_, fun hn => by cases hn⟩
  · unfold b_around
    rw [o1, o_bind, show Int32.ofNat p + 2 = Int32.ofNat (p + 2) from (Int32.ofNat_add p 2).symm, q1, o_bind, (hc2.next).1, o_bind, v1, o_bind, z1, o_bind, o_bind]
  · cases hT
    refine ⟨by rw [frO_12 z3, frO_12 v3, frO_12 q3, frO_12 o3]; exact hr, wV_5 hc.2.1.2.2.1 (fun x hx => ?_), by rw [cV_5]⟩
    rcases List.mem_append.mp hx with c | c
    · exact hc.2.1.kids x (List.mem_of_mem_take c)
    · exact hc.2.1.kids x (List.mem_of_mem_drop c)
/-- what the call within does -/
def recT (rec : SS → Nat → Int32 → Int32 → Option SS) (aa pb E d : Nat) (ls : List Mb) : Prop := ∀ (S : SS) (C : List Int32) (p : Nat) (t' : Vl) (i : Nat), prT S aa pb E → atT S pb i E ls → OutV S C → rd S 78 12 = 0 → cat (S aa) p t' → p < 9000 → dV t' < d → ∃ S', rec S aa (Int32.ofNat p) (Int32.ofNat i) = some S' ∧ rtO S S' C (cutV (ls.map fun m => m.2) t' none)
/-- members that are not meant -/
theorem tname_r {aa pb E i p Ee : Nat} {s r rr C : List Int32} {at_ : Int32} {rec : SS → Nat → Int32 → Int32 → Option SS} (ha : C.length ≤ 9000 → at_ = Int32.ofNat C.length) (hE : Ee ≤ 9000) : ∀ (ms : List Mb) (n q : Nat) (S : SS) (D : List Int32), okL ms → (∀ m ∈ ms, m.1 ≠ s) → prT S aa pb E → (S pb).drop i = cstr s ++ rr → OutV S (C ++ 6 :: 0 :: D) → (S aa).length ≤ 9000 → r_next (S aa) (Int32.ofNat p) = some (Int32.ofNat Ee) → (S aa).drop q = (blks true ms).flatten ++ r → q + (blks true ms).flatten.length = Ee → ms.length < n → ∃ S', b_takeName_l16 aa rec n S (Int32.ofNat p) (Int32.ofNat i) at_ (Int32.ofNat q) = some S' ∧ OutV S' (C ++ (6 :: Int32.ofNat ((D ++ (blks true ms).flatten).length + 2) :: (D ++ (blks true ms).flatten))) ∧ frO S S' := by
  intro ms
  induction ms with
  | nil =>
    intro n q S D _ _ hP hs ho hl hn0 hd he hn
    obtain ⟨n, rfl⟩ : ∃ j, n = j + 1 := ⟨n - 1, by omega⟩
    have z : (blks true []).flatten = [] := rfl
    rw [z, List.length_nil] at he
    obtain ⟨S1, z1, z2, z3⟩ := oclose (C := C) (k := 6) (at_ := at_) ho ha
    refine ⟨S1, ?_, by rw [z, List.append_nil]; exact z2, z3⟩
    unfold b_takeName_l16
    rw [hn0, o_bind, if_pos ((i_le' (by omega) (by omega)).mpr (by omega)), z1, o_bind]
  | cons m ms ih =>
    intro n q S D hw hne hP hs ho hl hn0 hd he hn
    obtain ⟨n, rfl⟩ : ∃ j, n = j + 1 := ⟨n - 1, by omega⟩
    obtain ⟨p1, p2⟩ := hP.p
    obtain ⟨-, -, hpl, -, -, -, haa, hpb, -⟩ := id hP
    have eb : blks true (m :: ms) = cstr m.1 :: cV m.2 :: blks true ms := rfl
    rw [eb] at hd he
    have hh : ∀ x ∈ cstr m.1 :: cV m.2 :: blks true ms, hdd x := by rw [← eb]; exact blks_h hw
    obtain ⟨s1, s2, s3, s4⟩ := blk_step hl hh hd
    obtain ⟨u1, u2, u3, u4⟩ := blk_step hl (fun x hx => hh x (List.mem_cons_of_mem _ hx)) s2
    rw [List.flatten_cons, List.length_append, List.flatten_cons, List.length_append] at he
    rw [List.flatten_cons, List.append_assoc] at hd
    rw [List.flatten_cons, List.append_assoc] at s2
    obtain ⟨S1, q1, q2, q3⟩ := ocopy (aa := aa) haa.2 (cstr_hdd m.1) ho hl hd
    have ea : S1 aa = S aa := q3 aa haa.2.1 haa.2.2
    have ep : S1 pb = S pb := q3 pb (by omega) (by omega)
    obtain ⟨S2, v1, v2, v3⟩ := ocopy (S := S1) (aa := aa) (w := cV m.2) haa.2 (cV_h (hw m List.mem_cons_self).2.1) q2 (by rw [ea]; exact hl) (by rw [ea]; exact s2)
    have ea2 : S2 aa = S aa := (v3 aa haa.2.1 haa.2.2).trans ea
    have ep2 : S2 pb = S pb := (v3 pb (by omega) (by omega)).trans ep
    obtain ⟨S', j1, j2, j3⟩ := ih n (q + (cstr m.1).length + (cV m.2).length) S2 (D ++ (cstr m.1 ++ cV m.2)) hw.tail (fun x hx => hne x (List.mem_cons_of_mem _ hx)) (hP.fr ((fr3_O q3).trans (fr3_O v3))) (by rw [ep2]; exact hs) (by simpa using v2) (by rw [ea2]; exact hl) (by rw [ea2]; exact hn0) (by rw [ea2]; exact u2) (by omega) (by simp only [List.length_cons] at hn; omega)
    refine ⟨S', ?_, ?_, (q3.trans v3).trans j3⟩
    · unfold b_takeName_l16
      rw [hn0, o_bind, if_neg (by rw [i_le' (by omega) (by omega)]; omega), if_neg p1, p2, rstr_val hl hpl hd hs, o_bind, if_neg (fun c => hne m List.mem_cons_self ((cmpS_0 _ _).mp c)), q1, o_bind, ea, s1, o_bind, v1, o_bind, ea2, s1, o_bind, u1, o_bind]
      exact j1
    · rw [(blks_m m ms).1]
      simpa using j2
/-- the members without, or with another value -/
noncomputable def cutM (ms : List Mb) (s : List Int32) (ps : List Vl) : Option (List Mb) := if ms.findIdx (fun m => m.1 == s) < ms.length then (if ps.isEmpty then some (ms.take (ms.findIdx (fun m => m.1 == s)) ++ ms.drop (ms.findIdx (fun m => m.1 == s) + 1)) else (cutV ps ((ms.getD (ms.findIdx (fun m => m.1 == s)) nulM).2) none).map (fun u => ms.set (ms.findIdx (fun m => m.1 == s)) ((ms.getD (ms.findIdx (fun m => m.1 == s)) nulM).1, u))) else some ms
theorem tname_l {aa pb E d i p Ee : Nat} {r C : List Int32} {pm : Mb} {ls : List Mb} {at_ : Int32} {rec : SS → Nat → Int32 → Int32 → Option SS} (ha : C.length ≤ 9000 → at_ = Int32.ofNat C.length) (hE : Ee ≤ 9000) (e4 : pm.2.1 = 4) (hrec : ls ≠ [] → recT rec aa pb E d ls) : ∀ (ms : List Mb) (n q : Nat) (S : SS) (D : List Int32), okL ms → nod ms → (∀ m ∈ ms, dV m.2 < d) → prT S aa pb E → atT S pb i E (pm :: ls) → rd S 78 12 = 0 → OutV S (C ++ 6 :: 0 :: D) → (S aa).length ≤ 9000 → r_next (S aa) (Int32.ofNat p) = some (Int32.ofNat Ee) → (S aa).drop q = (blks true ms).flatten ++ r → q + (blks true ms).flatten.length = Ee → ms.length < n → ∃ S' X, b_takeName_l16 aa rec n S (Int32.ofNat p) (Int32.ofNat i) at_ (Int32.ofNat q) = some S' ∧ fr3 S S' ∧ OutV S' (C ++ (6 :: Int32.ofNat ((D ++ X).length + 2) :: (D ++ X))) ∧ (∀ L, cutM ms pm.2.2.2.1 (ls.map fun m => m.2) = some L → rd S' 78 12 = 0 ∧ X = (blks true L).flatten ∧ okL L) ∧ (cutM ms pm.2.2.2.1 (ls.map fun m => m.2) = none → ¬ rd S' 78 12 ≤ 0) := by
  intro ms
  induction ms with
  | nil =>
    intro n q S D _ _ _ hP hA hr ho hl hn0 hd he hn
    obtain ⟨n, rfl⟩ : ∃ j, n = j + 1 := ⟨n - 1, by omega⟩
    have z : (blks true []).flatten = [] := rfl
    rw [z, List.length_nil] at he
    obtain ⟨S1, z1, z2, z3⟩ := oclose (C := C) (k := 6) (at_ := at_) ho ha
    refine ⟨S1, [], ?_, fr3_O z3, by rw [List.append_nil]; exact z2, fun L hL => ?_, fun hn => by cases hn⟩
    · unfold b_takeName_l16
      rw [hn0, o_bind, if_pos ((i_le' (by omega) (by omega)).mpr (by omega)), z1, o_bind]
    · cases hL
      exact ⟨by rw [frO_12 z3]; exact hr, rfl, fun x hx => by cases hx⟩
  | cons m ms ih =>
    intro n q S D hw hnd hdp hP hA hr ho hl hn0 hd he hn
    obtain ⟨n, rfl⟩ : ∃ j, n = j + 1 := ⟨n - 1, by omega⟩
    obtain ⟨p1, p2⟩ := hP.p
    obtain ⟨-, -, hpl, -, -, -, haa, hpb, -⟩ := id hP
    obtain ⟨c1, c2, c3, c4, c5⟩ := hA.cons hP
    obtain ⟨-, -, rr, dd⟩ := id c2
    rw [cV_4 e4] at dd
    have eb : blks true (m :: ms) = cstr m.1 :: cV m.2 :: blks true ms := rfl
    rw [eb] at hd he
    have hh : ∀ x ∈ cstr m.1 :: cV m.2 :: blks true ms, hdd x := by rw [← eb]; exact blks_h hw
    obtain ⟨s1, s2, s3, s4⟩ := blk_step hl hh hd
    obtain ⟨u1, u2, u3, u4⟩ := blk_step hl (fun x hx => hh x (List.mem_cons_of_mem _ hx)) s2
    rw [List.flatten_cons, List.length_append, List.flatten_cons, List.length_append] at he
    rw [List.flatten_cons, List.append_assoc] at hd
    rw [List.flatten_cons, List.append_assoc] at s2
    have hnd' : nod ms ∧ ∀ x ∈ ms, x.1 ≠ m.1 := by
      unfold nod at hnd ⊢
      rw [List.map_cons, List.nodup_cons] at hnd
      exact ⟨hnd.2, fun x hx c => hnd.1 (by rw [← c]; exact List.mem_map_of_mem hx)⟩
    have hn' : ms.length < n := by simp only [List.length_cons] at hn; omega
    by_cases em : m.1 = pm.2.2.2.1
    · have ef : (m :: ms).findIdx (fun x => x.1 == pm.2.2.2.1) = 0 := by rw [List.findIdx_cons]; simp [em]
      have hne' : ∀ x ∈ ms, x.1 ≠ pm.2.2.2.1 := fun x hx => by rw [← em]; exact hnd'.2 x hx
      by_cases hls : ls = []
      · -- it goes
        have ec : cutM (m :: ms) pm.2.2.2.1 (ls.map fun m => m.2) = some ms := by
          unfold cutM
          rw [ef, if_pos (by simp), hls]
          rfl
        obtain ⟨S', j1, j2, j3⟩ := tname_r (s := pm.2.2.2.1) (rr := rr) (rec := rec) ha hE ms n (q + (cstr m.1).length + (cV m.2).length) S D hw.tail hne' hP dd ho hl hn0 u2 (by omega) hn'
        refine ⟨S', (blks true ms).flatten, ?_, fr3_O j3, j2, fun L hL => ?_, fun hn => by rw [ec] at hn; cases hn⟩
        · unfold b_takeName_l16
          rw [hn0, o_bind, if_neg (by rw [i_le' (by omega) (by omega)]; omega), if_neg p1, p2, rstr_val hl hpl hd dd, o_bind, if_pos ((cmpS_0 _ _).mpr em), c5, o_bind, if_pos hls, if_neg (by decide), s1, o_bind, u1, o_bind]
          exact j1
        · rw [ec] at hL
          cases hL
          exact ⟨by rw [frO_12 j3]; exact hr, rfl, hw.tail⟩
      · have hemp : ¬ (ls.map fun m => m.2).isEmpty = true := by rw [List.isEmpty_iff, List.map_eq_nil_iff]; exact hls
        have ec : cutM (m :: ms) pm.2.2.2.1 (ls.map fun m => m.2) = (cutV (ls.map fun m => m.2) m.2 none).map (fun u => (m.1, u) :: ms) := by
          unfold cutM
          rw [ef, if_pos (by simp), if_neg hemp]
          rfl
        obtain ⟨S1, q1, q2, q3⟩ := ocopy (aa := aa) haa.2 (cstr_hdd m.1) ho hl hd
        have ea : S1 aa = S aa := q3 aa haa.2.1 haa.2.2
        have ep : S1 pb = S pb := q3 pb (by omega) (by omega)
        have f1 := fr3_O q3
        have hP1 := hP.fr f1
        obtain ⟨p1', p2'⟩ := hP1.p
        have cm : cat (S1 aa) (q + (cstr m.1).length) m.2 := by rw [ea]; exact ⟨hl, (hw m List.mem_cons_self).2, _, s2⟩
        obtain ⟨S2, d1, d2, C', d3, d4, d5⟩ := hrec hls S1 _ (q + (cstr m.1).length) m.2 (i + (cV pm.2).length) hP1 (c4.fr hpb f1) q2 (by rw [frO_12 q3]; exact hr) cm (by omega) (hdp m List.mem_cons_self)
        have ea2 : S2 aa = S aa := (d2.1 aa haa.1 haa.2.1 haa.2.2).trans ea
        have ep2 : S2 pb = S pb := (d2.1 pb (by omega) (by omega) (by omega)).trans ep
        obtain ⟨S3, j1, j2, j3⟩ := tname_r (s := pm.2.2.2.1) (rr := rr) (rec := rec) ha hE ms n (q + (cstr m.1).length + (cV m.2).length) S2 (D ++ (cstr m.1 ++ C')) hw.tail hne' (hP1.fr d2) (by rw [ep2]; exact dd) (by simpa using d3) (by rw [ea2]; exact hl) (by rw [ea2]; exact hn0) (by rw [ea2]; exact u2) (by omega) hn'
        refine ⟨S3, cstr m.1 ++ (C' ++ (blks true ms).flatten), ?_, (f1.trans d2).trans (fr3_O j3), by simpa using j2, fun L hL => ?_, fun hn => ?_⟩
        · unfold b_takeName_l16
          rw [hn0, o_bind, if_neg (by rw [i_le' (by omega) (by omega)]; omega), if_neg p1, p2, rstr_val hl hpl hd dd, o_bind, if_pos ((cmpS_0 _ _).mpr em), c5, o_bind, if_neg hls, if_pos rfl, q1, o_bind, ea, s1, o_bind, if_neg p1', p2', ep, c3, o_bind, d1, o_bind, ea2, s1, o_bind, u1, o_bind]
          exact j1
        · rw [ec] at hL
          cases ho' : cutV (ls.map fun m => m.2) m.2 none with
          | none => rw [ho'] at hL; cases hL
          | some U =>
            rw [ho'] at hL
            cases hL
            obtain ⟨y1, y2, y3⟩ := d4 U ho'
            refine ⟨by rw [frO_12 j3]; exact y1, by rw [(blks_m _ _).1, y3], fun x hx => ?_⟩
            rcases List.mem_cons.mp hx with c | c
            · rw [c]; exact ⟨(hw m List.mem_cons_self).1, y2⟩
            · exact hw.tail x c
        · rw [ec] at hn
          cases ho' : cutV (ls.map fun m => m.2) m.2 none with
          | none => rw [frO_12 j3]; exact d5 ho'
          | some U => rw [ho'] at hn; cases hn
    · obtain ⟨S1, q1, q2, q3⟩ := ocopy (aa := aa) haa.2 (cstr_hdd m.1) ho hl hd
      have ea : S1 aa = S aa := q3 aa haa.2.1 haa.2.2
      obtain ⟨S2, v1, v2, v3⟩ := ocopy (S := S1) (aa := aa) (w := cV m.2) haa.2 (cV_h (hw m List.mem_cons_self).2.1) q2 (by rw [ea]; exact hl) (by rw [ea]; exact s2)
      have ea2 : S2 aa = S aa := (v3 aa haa.2.1 haa.2.2).trans ea
      have f2 := (fr3_O q3).trans (fr3_O v3)
      have ef : (m :: ms).findIdx (fun x => x.1 == pm.2.2.2.1) = ms.findIdx (fun x => x.1 == pm.2.2.2.1) + 1 := by
        rw [List.findIdx_cons, show (m.1 == pm.2.2.2.1) = false by simp [em]]; rfl
      have ec : cutM (m :: ms) pm.2.2.2.1 (ls.map fun m => m.2) = (cutM ms pm.2.2.2.1 (ls.map fun m => m.2)).map (fun L => m :: L) := by
        unfold cutM
        rw [ef]
        by_cases hj : ms.findIdx (fun x => x.1 == pm.2.2.2.1) < ms.length
        · rw [if_pos hj, if_pos (by simp only [List.length_cons]; omega)]
          by_cases he' : (ls.map fun m => m.2).isEmpty = true
          · rw [if_pos he', if_pos he']
            rfl
          · rw [if_neg he', if_neg he']
            have : (m :: ms).getD (ms.findIdx (fun x => x.1 == pm.2.2.2.1) + 1) nulM = ms.getD (ms.findIdx (fun x => x.1 == pm.2.2.2.1)) nulM := rfl
            rw [this, Option.map_map]
            rfl
        · rw [if_neg hj, if_neg (by simp only [List.length_cons]; omega)]
          rfl
      obtain ⟨S', X, j1, j2, j3, j4, j5⟩ := ih n (q + (cstr m.1).length + (cV m.2).length) S2 (D ++ (cstr m.1 ++ cV m.2)) hw.tail hnd'.1 (fun x hx => hdp x (List.mem_cons_of_mem _ hx)) (hP.fr f2) (hA.fr hpb f2) (by rw [frO_12 v3, frO_12 q3]; exact hr) (by simpa using v2) (by rw [ea2]; exact hl) (by rw [ea2]; exact hn0) (by rw [ea2]; exact u2) (by omega) hn'
      refine ⟨S', cstr m.1 ++ (cV m.2 ++ X), ?_, f2.trans j2, by simpa using j3, fun L hL => ?_, fun hn => ?_⟩
      · unfold b_takeName_l16
        rw [hn0, o_bind, if_neg (by rw [i_le' (by omega) (by omega)]; omega), if_neg p1, p2, rstr_val hl hpl hd dd, o_bind, if_neg (fun c => em ((cmpS_0 _ _).mp c)), q1, o_bind, ea, s1, o_bind, v1, o_bind, ea2, s1, o_bind, u1, o_bind]
        exact j1
      · rw [ec] at hL
        cases ho' : cutM ms pm.2.2.2.1 (ls.map fun m => m.2) with
        | none => rw [ho'] at hL; cases hL
        | some L' =>
          rw [ho'] at hL
          cases hL
          obtain ⟨y1, y2, y3⟩ := j4 L' ho'
          refine ⟨y1, by rw [(blks_m _ _).1, y2], fun x hx => ?_⟩
          rcases List.mem_cons.mp hx with c | c
          · rw [c]; exact hw m List.mem_cons_self
          · exact y3 x c
      · rw [ec] at hn
        cases ho' : cutM ms pm.2.2.2.1 (ls.map fun m => m.2) with
        | none => exact j5 ho'
        | some L' => rw [ho'] at hn; cases hn
end RTake173
end

section
/-! The reference's take, whole. -/
section RTake174
theorem cutM_nod {ms : List Mb} {s : List Int32} {ps : List Vl} {L : List Mb} (h : nod ms) (e : cutM ms s ps = some L) : nod L := by
  unfold cutM at e
  by_cases hj : ms.findIdx (fun m => m.1 == s) < ms.length
  · rw [if_pos hj] at e
    by_cases hp : ps.isEmpty = true
    · rw [if_pos hp] at e
      cases e
      exact drop_nod h _
    · rw [if_neg hp, getD_in _ hj] at e
      cases ho : cutV ps (ms[ms.findIdx (fun m => m.1 == s)]).2 none with
      | none => rw [ho] at e; cases e
      | some U =>
        rw [ho] at e
        cases e
        unfold nod at h ⊢
        have e2 : (ms.map fun m => m.1).set (ms.findIdx (fun m => m.1 == s)) (ms[ms.findIdx (fun m => m.1 == s)]).1 = ms.map fun m => m.1 := by
          have := List.set_getElem_self (as := ms.map fun m => m.1) (i := ms.findIdx (fun m => m.1 == s)) (by rw [List.length_map]; exact hj)
          rw [List.getElem_map] at this
          exact this
        rw [List.map_set]
        show ((ms.map fun m => m.1).set (ms.findIdx (fun m => m.1 == s)) (ms[ms.findIdx (fun m => m.1 == s)]).1).Nodup
        rw [e2]
        exact h
  · rw [if_neg hj] at e
    cases e
    exact h
theorem cutV_64 {pi : Vl} (e4 : pi.1 = 4) (ps : List Vl) (v : Int) (s : List Int32) (l : List Mb) : cutV (pi :: ps) (6, v, s, ofL l) none = (cutM l pi.2.2.1 ps).map (fun L => (6, v, s, ofL L)) := by
  show (if (6 : Nat) = 0 then _ else if pi.1 = 3 then _ else if pi.1 = 4 then (if (6 : Nat) = 6 then _ else none) else _) = _
  rw [if_neg (by decide), if_neg (by omega), if_pos e4, if_pos rfl]
  simp only [toL_ofL]
  unfold cutM
  by_cases hj : l.findIdx (fun m => m.1 == pi.2.2.1) < l.length
  · rw [if_pos hj, if_pos hj]
    by_cases hp : ps.isEmpty = true
    · rw [if_pos hp, if_pos hp]
      rfl
    · rw [if_neg hp, if_neg hp, Option.map_map]
      rfl
  · rw [if_neg hj, if_neg hj]
    rfl
theorem tname_6 {S : SS} {aa pb E d i p : Nat} {m : Mb} {ls : List Mb} {C : List Int32} {v : Int} {s0 : List Int32} {l : List Mb} {rec : SS → Nat → Int32 → Int32 → Option SS} (hP : prT S aa pb E) (ho : OutV S C) (hr : rd S 78 12 = 0) (hA : atT S pb i E (m :: ls)) (e4 : m.2.1 = 4) (hc : cat (S aa) p (6, v, s0, ofL l)) (hp : p < 9000) (hdp : dV (6, v, s0, ofL l) ≤ d) (hrec : ls ≠ [] → recT rec aa pb E d ls) : ∃ S', ((b_takeName S aa rec (Int32.ofNat p) (Int32.ofNat i)).bind fun r => some r) = some S' ∧ rtO S S' C (cutV (m.2 :: ls.map fun m => m.2) (6, v, s0, ofL l) none) := by
  obtain ⟨S1, at_, o1, o2, o3, o4⟩ := oopen ho 6
  have f1 := fr3_O o3
  obtain ⟨-, -, -, -, -, -, haa, hpb, -⟩ := id hP
  have ea : S1 aa = S aa := o3 aa (by omega) (by omega)
  obtain ⟨n1, n2, n3⟩ := hc.next
  obtain ⟨h9, hw, r, hd⟩ := id hc
  obtain ⟨k1, k2⟩ := cbox_in (Or.inr rfl) hd
  have e6 : (6 == 6) = true := rfl
  rw [e6] at k1 k2
  have hbl := blks_len true l
  have hfl := flat2 _ (blks_h (b := true) hw.kids)
  simp only [if_true] at hbl
  obtain ⟨S2, X, z1, z2, z3, z4, z5⟩ := tname_l (d := d) (Ee := p + (cV (6, v, s0, ofL l)).length) (p := p) (r := r) o4 (by omega) e4 hrec l 10000 (p + 2) S1 [] hw.kids hw.nod (fun x hx => by
    have := dV_kid (k := 6) (v := v) (s := s0) (Or.inr rfl) hx
    omega) (hP.fr f1) (hA.fr hpb f1) (by rw [frO_12 o3]; exact hr) o2 (by rw [ea]; exact h9) (by rw [ea]; exact n1) (by rw [ea]; exact k1) (by omega) (by omega)
  refine ⟨S2, ?_, f1.trans z2, _, z3, fun T hT => ?_, fun hn => ?_⟩
  · unfold b_takeName
    rw [o1, o_bind, show Int32.ofNat p + 2 = Int32.ofNat (p + 2) from (Int32.ofNat_add p 2).symm, z1, o_bind]
  · rw [cutV_64 e4] at hT
    cases hM : cutM l m.2.2.2.1 (ls.map fun m => m.2) with
    | none => rw [hM] at hT; cases hT
    | some L =>
      rw [hM] at hT
      cases hT
      obtain ⟨y1, y2, y3⟩ := z4 L hM
      refine ⟨y1, wV_6 hw.2.2.1 y3 (cutM_nod hw.nod hM), ?_⟩
      rw [cV_6, y2]
      rfl
  · rw [cutV_64 e4] at hn
    cases hM : cutM l m.2.2.2.1 (ls.map fun m => m.2) with
    | none => exact z5 hM
    | some L => rw [hM] at hn; cases hn
/-- one element of an array: without it, or with another value -/
theorem tplace {S : SS} {aa pb E d i p j : Nat} {m : Mb} {ls : List Mb} {C : List Int32} {v0 : Int} {s0 : List Int32} {l : List Mb} {rec : SS → Nat → Int32 → Int32 → Option SS} (hP : prT S aa pb E) (ho : OutV S C) (hr : rd S 78 12 = 0) (hA : atT S pb i E (m :: ls)) (hc : cat (S aa) p (5, v0, s0, ofL l)) (hp : p < 9000) (hdp : dV (5, v0, s0, ofL l) ≤ d) (hrec : ls ≠ [] → recT rec aa pb E d ls) (hj : j < l.length) : ∃ S', ((b_isLast S (Int32.ofNat i)).bind fun r30 => (if r30 = 0 then ((iget (S aa) (Int32.ofNat (pos (5, v0, s0, ofL l) p j))).bind fun b33 => (if b33 = 0 then ((q_copy S aa (Int32.ofNat p)).bind fun r35 => some r35) else ((q_open S 5).bind fun r38 => ((b_cells r38.1 aa (Int32.ofNat p + 2) (Int32.ofNat (pos (5, v0, s0, ofL l) p j))).bind fun r40 => (if rd r40 78 19 = 0 then none else ((r_next (r40 ((rd r40 78 19).toNatClampNeg)) (Int32.ofNat i)).bind fun r43 => ((rec r40 aa (Int32.ofNat (pos (5, v0, s0, ofL l) p j)) r43).bind fun r45 => ((r_next (r45 aa) (Int32.ofNat (pos (5, v0, s0, ofL l) p j))).bind fun r47 => ((r_next (r45 aa) (Int32.ofNat p)).bind fun r49 => ((b_cells r45 aa r47 r49).bind fun r51 => ((q_close r51 r38.2).bind fun r53 => some r53))))))))))) else ((r_next (S aa) (Int32.ofNat (pos (5, v0, s0, ofL l) p j))).bind fun r56 => ((b_around S aa (Int32.ofNat p) (Int32.ofNat (pos (5, v0, s0, ofL l) p j)) r56).bind fun r58 => some r58)))) = some S' ∧ rtO S S' C (if (ls.map fun m => m.2).isEmpty then some (5, v0, s0, ofL (l.take j ++ l.drop (j + 1))) else (cutV (ls.map fun m => m.2) (l[j]).2 none).map (fun u => (5, v0, s0, ofL (l.set j ((l[j]).1, u))))) := by
  obtain ⟨c1, c2, c3, c4, c5⟩ := hA.cons hP
  obtain ⟨-, -, -, -, -, h78, haa, hpb, -⟩ := id hP
  have hn9 := hc.next.2
  have h9 := hc.1
  have hce : cat (S aa) (pos (5, v0, s0, ofL l) p j) (l[j]).2 := by
    have := hc.elem hj
    have e1 : pos (5, v0, s0, ofL l) p j = bp (p + 2) (blks false l) j := by
      unfold pos
      rw [if_neg (show ¬ (5 : Nat) = 4 by decide)]
      show bp (p + 2) (blks false (toL (ofL l))) j = _
      rw [toL_ofL]
    rw [e1]
    exact this
  have hpl : pos (5, v0, s0, ofL l) p j < 9000 := by
    have := hce.next.2
    omega
  have enx : r_next (S aa) (Int32.ofNat (pos (5, v0, s0, ofL l) p j)) = some (Int32.ofNat (pos (5, v0, s0, ofL l) p (j + 1))) := by
    rw [hce.next.1]
    congr 2
    obtain ⟨y1, -, -⟩ := pos_in hc (show j ≤ l.length by omega)
    obtain ⟨y2, -, -⟩ := pos_in hc (show j + 1 ≤ l.length by omega)
    rw [y1, y2, List.take_succ_eq_append_getElem hj, blks_app, List.flatten_append, List.length_append, (blks_m _ _).2]
    show _ = p + 2 + (_ + (cV _ ++ []).length)
    rw [List.append_nil]
    omega
  rw [c5, o_bind]
  by_cases hls : ls = []
  · rw [if_pos hls, if_neg (by decide), enx, o_bind, hls]
    obtain ⟨S', t1, t2⟩ := tround haa ho hr hc (show j ≤ j + 1 by omega) (by omega)
    exact ⟨S', t1, t2⟩
  · rw [if_neg hls, if_pos rfl, hce.kind, o_bind]
    have hemp : ¬ (ls.map fun m => m.2).isEmpty = true := by rw [List.isEmpty_iff, List.map_eq_nil_iff]; exact hls
    rw [if_neg hemp]
    have k6 := hce.2.1.1
    by_cases t0 : (l[j]).2.1 = 0
    · rw [if_pos (by rw [t0]; rfl)]
      obtain ⟨S', t1, t2⟩ := tcopy haa.2 ho hr hc
      obtain ⟨m', ls', rfl⟩ : ∃ a b, ls = a :: b := by
        cases ls with
        | nil => exact absurd rfl hls
        | cons a b => exact ⟨a, b, rfl⟩
      rw [List.map_cons, cutV_null t0]
      have : (some (l[j]).2).map (fun u => ((5, v0, s0, ofL (l.set j ((l[j]).1, u))) : Vl)) = some (5, v0, s0, ofL l) := by
        show some ((5, v0, s0, ofL (l.set j ((l[j]).1, (l[j]).2))) : Vl) = _
        rw [show (((l[j]).1, (l[j]).2) : Mb) = l[j] from rfl, List.set_getElem_self]
      rw [this]
      exact ⟨S', t1, t2⟩
    · rw [if_neg (kne0 k6 t0)]
      have ep0 : pos (5, v0, s0, ofL l) p 0 = p + 2 := by
        obtain ⟨y1, -, -⟩ := pos_in hc (Nat.zero_le l.length)
        rw [y1]
        show p + 2 + 0 = _
        omega
      have epn : pos (5, v0, s0, ofL l) p l.length = p + (cV (5, v0, s0, ofL l)).length := by
        obtain ⟨y1, y2, -⟩ := pos_in hc (Nat.le_refl l.length)
        rw [y1, y2, List.take_of_length_le (Nat.le_refl _)]
        omega
      obtain ⟨S1, at_, o1, o2, o3, o4⟩ := oopen ho 5
      have hc1 : cat (S1 aa) p (5, v0, s0, ofL l) := by rw [o3 aa haa.2.1 haa.2.2]; exact hc
      obtain ⟨S2, q1, q2, q3⟩ := cellsQ (i := 0) (j := j) haa.2 hc1 (Nat.zero_le _) (by omega) o2
      rw [ep0] at q1
      have f2 := (fr3_O o3).trans (fr3_O q3)
      have hP2 := hP.fr f2
      obtain ⟨p1, p2⟩ := hP2.p
      have ea2 : S2 aa = S aa := f2.1 aa haa.1 haa.2.1 haa.2.2
      have ep2 : S2 pb = S pb := f2.1 pb (by omega) (by omega) (by omega)
      have hdk := dV_kid (k := 5) (v := v0) (s := s0) (Or.inl rfl) (List.getElem_mem hj)
      obtain ⟨S3, d1, d2, C', d3, d4, d5⟩ := hrec hls S2 _ (pos (5, v0, s0, ofL l) p j) (l[j]).2 (i + (cV m.2).length) hP2 (c4.fr hpb f2) q2 (by rw [frO_12 q3, frO_12 o3]; exact hr) (by rw [ea2]; exact hce) hpl (by omega)
      have ea3 : S3 aa = S aa := (d2.1 aa haa.1 haa.2.1 haa.2.2).trans ea2
      obtain ⟨S4, v1, v2, v3⟩ := cellsQ (i := j + 1) (j := l.length) haa.2 (show cat (S3 aa) p _ by rw [ea3]; exact hc) (by omega) (Nat.le_refl _) d3
      rw [epn] at v1
      obtain ⟨S5, z1, z2, z3⟩ := oclose (C := C) (k := 5) (at_ := at_) (body := (blks false (l.take j)).flatten ++ (C' ++ (blks false (l.drop (j + 1))).flatten)) (by
        rw [List.take_of_length_le (show (l.drop (j + 1)).length ≤ l.length - (j + 1) by rw [List.length_drop]; exact Nat.le_refl _)] at v2
        rw [List.drop_zero, Nat.sub_zero] at v2
        simpa using v2) o4
      refine ⟨S5, ?_, (f2.trans d2).trans ((fr3_O v3).trans (fr3_O z3)), _, z2, fun T hT => ?_, fun hn => ?_⟩
      · rw [o1, o_bind, show Int32.ofNat p + 2 = Int32.ofNat (p + 2) from (Int32.ofNat_add p 2).symm, q1, o_bind, if_neg p1, p2, ep2, c3, o_bind, d1, o_bind, ea3, enx, o_bind, (hc.next).1, o_bind, v1, o_bind, z1, o_bind]
      · cases hU : cutV (ls.map fun m => m.2) (l[j]).2 none with
        | none => rw [hU] at hT; cases hT
        | some U =>
          rw [hU] at hT
          cases hT
          obtain ⟨y1, y2, y3⟩ := d4 U hU
          refine ⟨by rw [frO_12 z3, frO_12 v3]; exact y1, wV_5 hc.2.1.2.2.1 (fun x hx => ?_), ?_⟩
          · rcases List.mem_or_eq_of_mem_set hx with c | c
            · exact hc.2.1.kids x c
            · rw [c]; exact ⟨(hc.2.1.kids _ (List.getElem_mem hj)).1, y2⟩
          · rw [cV_5, List.set_eq_take_append_cons_drop, if_pos hj, blks_app, List.flatten_append, (blks_m _ _).2, y3]
      · cases hU : cutV (ls.map fun m => m.2) (l[j]).2 none with
        | none => rw [frO_12 z3, frO_12 v3]; exact d5 hU
        | some U => rw [hU] at hn; cases hn
theorem cutV_53 {pi : Vl} (e3 : pi.1 = 3) (ps : List Vl) (v : Int) (s : List Int32) (l : List Mb) (w : Option (Nat × Nat)) : cutV (pi :: ps) (5, v, s, ofL l) w = if 0 ≤ atX pi.2.1 (winN (5, v, s, ofL l) w) ∧ atX pi.2.1 (winN (5, v, s, ofL l) w) < winN (5, v, s, ofL l) w then (if ps.isEmpty then some (5, v, s, ofL (l.take (winA (5, v, s, ofL l) w + (atX pi.2.1 (winN (5, v, s, ofL l) w)).toNat) ++ l.drop (winA (5, v, s, ofL l) w + (atX pi.2.1 (winN (5, v, s, ofL l) w)).toNat + 1))) else (cutV ps ((l.getD (winA (5, v, s, ofL l) w + (atX pi.2.1 (winN (5, v, s, ofL l) w)).toNat) nulM).2) none).map (fun u => (5, v, s, ofL (l.set (winA (5, v, s, ofL l) w + (atX pi.2.1 (winN (5, v, s, ofL l) w)).toNat) ((l.getD (winA (5, v, s, ofL l) w + (atX pi.2.1 (winN (5, v, s, ofL l) w)).toNat) nulM).1, u))))) else some (5, v, s, ofL l) := by
  show (if (5 : Nat) = 0 then _ else if pi.1 = 3 then (if (5 : Nat) = 5 then _ else none) else _) = _
  rw [if_neg (by decide), if_pos e3, if_pos rfl]
  simp only [toL_ofL]
theorem cutV_56 {pi : Vl} (e6 : pi.1 = 6) (ok : okBd pi) (ps : List Vl) (v : Int) (s : List Int32) (l : List Mb) (w : Option (Nat × Nat)) : cutV (pi :: ps) (5, v, s, ofL l) w = cutV ps (5, v, s, ofL l) (some (nwA pi (winA (5, v, s, ofL l) w) (winE (5, v, s, ofL l) w), nwB pi (winA (5, v, s, ofL l) w) (winE (5, v, s, ofL l) w))) := by
  show (if (5 : Nat) = 0 then _ else if pi.1 = 3 then _ else if pi.1 = 4 then _ else if pi.1 = 6 then (if _ then (if (5 : Nat) = 5 then _ else none) else none) else _) = _
  rw [if_neg (by decide), if_neg (by omega), if_neg (by omega), if_pos e6, if_pos (@decide_eq_true _ (Classical.propDecidable _) ok), if_pos rfl]
theorem cutV_5x {pi : Vl} (e3 : pi.1 ≠ 3) (e6 : pi.1 = 6 → ¬ okBd pi) (ps : List Vl) (v : Int) (s : List Int32) (l : List Mb) (w : Option (Nat × Nat)) : cutV (pi :: ps) (5, v, s, ofL l) w = none := by
  show (if (5 : Nat) = 0 then _ else if pi.1 = 3 then _ else if pi.1 = 4 then (if (5 : Nat) = 6 then _ else none) else if pi.1 = 6 then (if _ then (if (5 : Nat) = 5 then _ else none) else none) else none) = _
  rw [if_neg (by decide), if_neg e3]
  by_cases e4 : pi.1 = 4
  · rw [if_pos e4, if_neg (by decide)]
  rw [if_neg e4]
  by_cases h6 : pi.1 = 6
  · rw [if_pos h6, if_neg (fun c => e6 h6 (@of_decide_eq_true _ (Classical.propDecidable _) c))]
  · rw [if_neg h6]
theorem tstep {aa pb E d p : Nat} {v0 : Int} {s0 : List Int32} {l : List Mb} {C : List Int32} {rec : SS → Nat → Int32 → Int32 → Option SS} (hp9 : p < 9000) (hdp : dV (5, v0, s0, ofL l) ≤ d) (hrec : ∀ ls, ls ≠ [] → recT rec aa pb E d ls) {ls : List Mb} {m : Mb} {n i : Nat} {S : SS} {w : Option (Nat × Nat)} (hP : prT S aa pb E) (hA : atT S pb i E (m :: ls)) (hr : rd S 78 12 = 0) (ho : OutV S C) (hs : spR S aa (5, v0, s0, ofL l) w (Int32.ofNat p)) (ih : ls ≠ [] → ∀ (i : Nat) (S : SS) (w : Option (Nat × Nat)), prT S aa pb E → atT S pb i E ls → rd S 78 12 = 0 → OutV S C → spR S aa (5, v0, s0, ofL l) w (Int32.ofNat p) → ∃ S', b_takeB_l76 aa rec n S (Int32.ofNat p) (Int32.ofNat i) = some S' ∧ rtO S S' C (cutV (ls.map fun m => m.2) (5, v0, s0, ofL l) w)) : ∃ S', b_takeB_l76 aa rec (n + 1) S (Int32.ofNat p) (Int32.ofNat i) = some S' ∧ rtO S S' C (cutV (m.2 :: ls.map fun m => m.2) (5, v0, s0, ofL l) w) := by
  obtain ⟨p1, p2⟩ := hP.p
  obtain ⟨-, -, -, h39, h40, h78, haa, hpb, -⟩ := id hP
  obtain ⟨c1, c2, c3, c4, c5⟩ := hA.cons hP
  obtain ⟨p', e, hp', hc, hw, hn0, hb⟩ := id hs
  have epp : p = p' := (i_inj (by omega) (by omega)).mp e
  subst epp
  have k6 := c2.2.1.1
  obtain ⟨Sr, y1, y2⟩ := tref h78 ho hr
  unfold b_takeB_l76
  rw [if_neg p1, p2, c2.kind, o_bind]
  by_cases e6 : m.2.1 = 6
  · obtain ⟨g1, g2⟩ := part_val c2 e6 h39 h40
    rw [if_pos (by rw [e6]; rfl)]
    by_cases ok : okBd m.2
    · rw [g1 ok, o_bind, if_neg (by decide), cutV_56 e6 ok]
      obtain ⟨S1, q1, q2, q3⟩ := rnarrow_val (ab := pb) (i := i) h78 haa.1 h39 h40 hs c2 e6 ⟨Or.inr rfl, ok.1, ok.2⟩
      rw [if_pos rfl] at q1
      have f1 := fr3_N q2
      have hP1 := hP.fr f1
      obtain ⟨p1', p2'⟩ := hP1.p
      have hA1 := hA.fr hpb f1
      obtain ⟨-, -, d3, d4, d5⟩ := hA1.cons hP1
      have hO1 : OutV S1 C := by
        unfold OutV rd at ho ⊢
        rw [q2.1 91 (by decide), q2.1 90 (by decide)]
        exact ho
      have hr1 : rd S1 78 12 = 0 := by rw [q2.2.1 12 (by decide) (by decide)]; exact hr
      rw [q1, o_bind, d5, o_bind]
      by_cases hls : ls = []
      · rw [if_pos hls, if_neg (by decide), hls]
        obtain ⟨p', e', hp'', hc', hw', -, hb'⟩ := id q3
        have epp : p = p' := (i_inj (by omega) (by omega)).mp e'
        subst epp
        obtain ⟨r1, r2⟩ := hb' (Or.inr rfl)
        obtain ⟨w1, w2, w3⟩ := win_le hw'
        have hsz : size (5, v0, s0, ofL l) = l.length := by unfold size; rw [if_neg (show ¬ (5 : Nat) = 4 by decide)]; exact congrArg List.length (toL_ofL l)
        rw [hsz] at w2
        obtain ⟨S', t1, t2, t3⟩ := tround haa hO1 hr1 hc' w1 w2
        rw [← r1, ← r2] at t1
        refine ⟨S', t1, f1.trans t2, ?_⟩
        have nwo := nw_ok m.2 (win_le hw).1
        have eE : winE (5, v0, s0, ofL l) (some (nwA m.2 (winA (5, v0, s0, ofL l) w) (winE (5, v0, s0, ofL l) w), nwB m.2 (winA (5, v0, s0, ofL l) w) (winE (5, v0, s0, ofL l) w))) = nwB m.2 (winA (5, v0, s0, ofL l) w) (winE (5, v0, s0, ofL l) w) := by
          show nwA _ _ _ + (nwB _ _ _ - nwA _ _ _) = _
          omega
        rw [eE] at t3
        show ∃ C', OutV S' (C ++ C') ∧ (∀ T, some ((5, v0, s0, ofL ((toL (ofL l)).take _ ++ (toL (ofL l)).drop _)) : Vl) = some T → _) ∧ _
        rw [toL_ofL]
        obtain ⟨C', x1, x2, x3⟩ := t3
        exact ⟨C', x1, x2, fun hn => by cases hn⟩
      · rw [if_neg hls, if_pos rfl, if_neg p1', p2', d3, o_bind]
        obtain ⟨S', j1, j2, j3⟩ := ih hls (i + (cV m.2).length) S1 _ hP1 d4 hr1 hO1 q3
        exact ⟨S', j1, f1.trans j2, j3⟩
    · rw [g2 ok, o_bind, if_pos rfl, if_neg (by rw [e6]; decide), cutV_5x (by omega) (fun _ => ok)]
      exact ⟨Sr, y1, y2⟩
  rw [if_neg (kne6 k6 e6)]
  by_cases e3 : m.2.1 = 3
  · have c2' := c2
    rw [vl3 e3] at c2'
    obtain ⟨u1, u2⟩ := rplace_pos hp9 hs (c2.2.1.2.1 e3)
    rw [if_pos (by rw [e3]; rfl), c2'.number, o_bind, u1, o_bind, cutV_53 e3]
    by_cases hin : 0 ≤ atX m.2.2.1 (winN (5, v0, s0, ofL l) w) ∧ atX m.2.2.1 (winN (5, v0, s0, ofL l) w) < winN (5, v0, s0, ofL l) w
    · have hj : winA (5, v0, s0, ofL l) w + (atX m.2.2.1 (winN (5, v0, s0, ofL l) w)).toNat < l.length := by omega
      rw [if_pos hin, if_pos hin, getD_in _ hj, if_neg (i_ne1 (by
        have := hc.1
        obtain ⟨y1, y2, -⟩ := pos_in hc (Nat.le_of_lt hj)
        obtain ⟨y3, -, -⟩ := pos_in hc (Nat.le_refl l.length)
        have n2 := hc.next.2.1
        have : (blks false (l.take (winA (5, v0, s0, ofL l) w + (atX m.2.2.1 (winN (5, v0, s0, ofL l) w)).toNat))).flatten.length ≤ (blks false l).flatten.length := by
          conv => rhs; rw [← List.take_append_drop (winA (5, v0, s0, ofL l) w + (atX m.2.2.1 (winN (5, v0, s0, ofL l) w)).toNat) l, blks_app, List.flatten_append, List.length_append]
          omega
        omega))]
      exact tplace hP ho hr hA hc hp9 hdp (hrec ls) hj
    · rw [if_neg hin, if_neg hin, if_pos rfl]
      exact tcopy haa.2 ho hr hc
  · rw [if_neg (kne3 k6 e3), cutV_5x e3 (fun c => absurd c e6)]
    exact ⟨Sr, y1, y2⟩
theorem tloop {aa pb E d p : Nat} {v0 : Int} {s0 : List Int32} {l : List Mb} {C : List Int32} {rec : SS → Nat → Int32 → Int32 → Option SS} (hp9 : p < 9000) (hdp : dV (5, v0, s0, ofL l) ≤ d) (hrec : ∀ ls, ls ≠ [] → recT rec aa pb E d ls) : ∀ (ls : List Mb) (n i : Nat) (S : SS) (w : Option (Nat × Nat)), ls ≠ [] → ls.length < n → prT S aa pb E → atT S pb i E ls → rd S 78 12 = 0 → OutV S C → spR S aa (5, v0, s0, ofL l) w (Int32.ofNat p) → ∃ S', b_takeB_l76 aa rec n S (Int32.ofNat p) (Int32.ofNat i) = some S' ∧ rtO S S' C (cutV (ls.map fun m => m.2) (5, v0, s0, ofL l) w) := by
  intro ls
  induction ls with
  | nil => intro n i S w h; exact absurd rfl h
  | cons m ls ih =>
    intro n i S w _ hn hP hA hr ho hs
    obtain ⟨n, rfl⟩ : ∃ j, n = j + 1 := ⟨n - 1, by omega⟩
    exact tstep hp9 hdp hrec hP hA hr ho hs (fun hne i' S' w' => ih n i' S' w' hne (by simp only [List.length_cons] at hn; omega))
theorem cutV_6x {pi : Vl} (e4 : pi.1 ≠ 4) (ps : List Vl) (v : Int) (s : List Int32) (l : List Mb) (w : Option (Nat × Nat)) : cutV (pi :: ps) (6, v, s, ofL l) w = none := by
  show (if (6 : Nat) = 0 then _ else if pi.1 = 3 then (if (6 : Nat) = 5 then _ else none) else if pi.1 = 4 then _ else if pi.1 = 6 then (if _ then (if (6 : Nat) = 5 then _ else none) else none) else none) = _
  rw [if_neg (by decide), if_neg e4, if_neg (show ¬ (6 : Nat) = 5 by decide), if_neg (show ¬ (6 : Nat) = 5 by decide)]
  simp
/-- take, by the reference -/
theorem take_val {aa pb E : Nat} : ∀ (n : Nat) (ls : List Mb), ls ≠ [] → recT (b_take n) aa pb E n ls := by
  intro n
  induction n with
  | zero => intro ls _ S C p t' i _ _ _ _ _ _ h; omega
  | succ n ih =>
    intro ls hne S C p t i hP hA ho hr hc hp9 hd
    obtain ⟨-, -, hpl, h39, h40, h78, haa, hpb, hE⟩ := id hP
    obtain ⟨p1, p2⟩ := hP.p
    have hll : ls.length < 10000 := by
      obtain ⟨a1, a2, -⟩ := hA
      have hbl := blks_len false ls
      have hfl := flat2 _ (blks_h (b := false) a1)
      simp only [Bool.false_eq_true, if_false] at hbl
      omega
    obtain ⟨m, ls', rfl⟩ : ∃ a b, ls = a :: b := by
      cases ls with
      | nil => exact absurd rfl hne
      | cons a b => exact ⟨a, b, rfl⟩
    obtain ⟨c1, c2, c3, c4, c5⟩ := hA.cons hP
    have k6 := hc.2.1.1
    have km := c2.2.1.1
    obtain ⟨Sr, y1, y2⟩ := tref h78 ho hr
    rw [List.map_cons]
    show ∃ S', b_takeB S aa (b_take n) (Int32.ofNat p) (Int32.ofNat i) = some S' ∧ _
    unfold b_takeB
    rw [hc.kind, o_bind]
    by_cases t0 : t.1 = 0
    · rw [if_pos (by rw [t0]; rfl), cutV_null t0]
      exact tcopy haa.2 ho hr hc
    rw [if_neg (kne0 k6 t0)]
    by_cases t6 : t.1 = 6
    · rw [if_pos (by rw [t6]; rfl), if_neg p1, p2, c2.kind, o_bind]
      obtain ⟨kt, v0, s0, ft⟩ := t
      obtain ⟨l, rfl⟩ : ∃ l, ft = ofL l := ⟨toL ft, (ofL_toL ft).symm⟩
      have t6 : kt = 6 := t6
      subst t6
      by_cases e4 : m.2.1 = 4
      · rw [if_pos (by rw [e4]; rfl)]
        exact tname_6 hP ho hr hA e4 hc hp9 (by omega) (ih ls')
      · rw [if_neg (kne4 km e4), if_neg (show ¬ Int32.ofNat ((6, v0, s0, ofL l) : Vl).1 = 5 from (by decide : ¬ (6 : Int32) = 5)), cutV_6x e4]
        exact ⟨Sr, y1, y2⟩
    rw [if_neg (kne6 k6 t6)]
    by_cases t5 : t.1 = 5
    · rw [if_pos (by rw [t5]; rfl), wr_ne haa.1, (hc.next).1, o_bind]
      have hsp := spR_all h78 haa.1 hp9 hc t5
      have fN := frN_wr S (Int32.ofNat p + 2) (Int32.ofNat (p + (cV t).length))
      obtain ⟨S2, hS2⟩ : ∃ S2, S2 = wr (wr S 78 17 (Int32.ofNat p + 2)) 78 18 (Int32.ofNat (p + (cV t).length)) := ⟨_, rfl⟩
      rw [← hS2] at hsp fN
      rw [← hS2]
      have f1 := fr3_N fN
      have hO1 : OutV S2 C := by
        unfold OutV rd at ho ⊢
        rw [fN.1 91 (by decide), fN.1 90 (by decide)]
        exact ho
      obtain ⟨kt, v0, s0, ft⟩ := t
      obtain ⟨l, rfl⟩ : ∃ l, ft = ofL l := ⟨toL ft, (ofL_toL ft).symm⟩
      have t5 : kt = 5 := t5
      subst t5
      obtain ⟨S', j1, j2, j3⟩ := tloop (C := C) hp9 (by omega) ih (m :: ls') 10000 i S2 none hne hll (hP.fr f1) (hA.fr hpb f1) (by rw [fN.2.1 12 (by decide) (by decide)]; exact hr) hO1 hsp
      exact ⟨S', j1, f1.trans j2, j3⟩
    · rw [if_neg (kne5 k6 t5), show cutV (m.2 :: ls'.map fun m => m.2) t none = none from ?_]
      · exact ⟨Sr, y1, y2⟩
      · unfold cutV
        rw [if_neg t0, if_neg t5, if_neg t6, if_neg t5]
        simp
end RTake174
end

section
/-! A value never grows by a cut; the reference looks at the paths. -/
section RDel175
theorem dV_sub {k : Nat} {v : Int} {s : List Int32} {l : List Mb} {n : Nat} (h1 : 1 ≤ n) (h : ∀ x ∈ l, dV x.2 + 1 ≤ n) : dV (k, v, s, ofL l) ≤ n := by
  have : ∀ l : List Mb, (∀ x ∈ l, dV x.2 + 1 ≤ n) → 1 + dF (ofL l) ≤ n := by
    intro l
    induction l with
    | nil => intro _; exact h1
    | cons m l ih =>
      intro h
      have a1 := h m List.mem_cons_self
      have a2 := ih (fun x hx => h x (List.mem_cons_of_mem _ hx))
      have e : dF (ofL (m :: l)) = max (dV m.2) (dF (ofL l)) := rfl
      rw [e]
      omega
  unfold dV
  by_cases hk : (k, v, s, ofL l).1 = 5 ∨ (k, v, s, ofL l).1 = 6
  · rw [if_pos hk]; exact this l h
  · rw [if_neg hk]; omega
theorem dV_box {k : Nat} {v : Int} {s : List Int32} {l : List Mb} (hk : k = 5 ∨ k = 6) : 1 ≤ dV (k, v, s, ofL l) := by
  unfold dV
  rw [if_pos (show (k, v, s, ofL l).1 = 5 ∨ (k, v, s, ofL l).1 = 6 from hk)]
  omega
theorem bl_part (b : Bool) (l : List Mb) (i j : Nat) (hij : i ≤ j) : (blks b (l.take i ++ l.drop j)).flatten.length ≤ (blks b l).flatten.length := by
  have e : l = l.take i ++ ((l.drop i).take (j - i) ++ l.drop j) := by
    have : l.drop j = (l.drop i).drop (j - i) := by rw [List.drop_drop]; congr 1; omega
    rw [this, List.take_append_drop, List.take_append_drop]
  conv => rhs; rw [e]
  rw [blks_app, blks_app, blks_app, List.flatten_append, List.flatten_append, List.flatten_append, List.length_append, List.length_append, List.length_append]
  omega
theorem bk_set (b : Bool) (l : List Mb) (j : Nat) (hj : j < l.length) {U : Vl} (hU : (cV U).length ≤ (cV (l[j]).2).length) : (blks b (l.set j ((l[j]).1, U))).flatten.length ≤ (blks b l).flatten.length := by
  have e : l = l.take j ++ l[j] :: l.drop (j + 1) := by rw [← List.drop_eq_getElem_cons hj, List.take_append_drop]
  conv => rhs; rw [e]
  rw [List.set_eq_take_append_cons_drop, if_pos hj, blks_app, blks_app, List.flatten_append, List.flatten_append, List.length_append, List.length_append]
  cases b with
  | true =>
    rw [(blks_m _ _).1, (blks_m _ _).1]
    simp only [List.length_append]
    omega
  | false =>
    rw [(blks_m _ _).2, (blks_m _ _).2]
    simp only [List.length_append]
    omega
theorem cV_l5 (v : Int) (s : List Int32) (l : List Mb) : (cV (5, v, s, ofL l)).length = (blks false l).flatten.length + 2 := by rw [cV_5]; rfl
theorem cV_l6 (v : Int) (s : List Int32) (l : List Mb) : (cV (6, v, s, ofL l)).length = (blks true l).flatten.length + 2 := by rw [cV_6]; rfl
theorem cut_le : ∀ (ps : List Vl) (t : Vl) (w : Option (Nat × Nat)) (T : Vl), (∀ a b, w = some (a, b) → t.1 = 5 ∧ a ≤ b) → cutV ps t w = some T → (cV T).length ≤ (cV t).length ∧ dV T ≤ dV t := by
  intro ps
  induction ps with
  | nil =>
    intro t w T hw hT
    cases w with
    | none => cases hT; exact ⟨Nat.le_refl _, Nat.le_refl _⟩
    | some ab =>
      obtain ⟨a, b⟩ := ab
      obtain ⟨h5, hab⟩ := hw a b rfl
      cases hT
      obtain ⟨kt, v0, s0, ft⟩ := t
      obtain ⟨l, rfl⟩ : ∃ l, ft = ofL l := ⟨toL ft, (ofL_toL ft).symm⟩
      have h5 : kt = 5 := h5
      subst h5
      show (cV (5, v0, s0, ofL ((toL (ofL l)).take a ++ (toL (ofL l)).drop b))).length ≤ _ ∧ dV (5, v0, s0, ofL ((toL (ofL l)).take a ++ (toL (ofL l)).drop b)) ≤ _
      rw [toL_ofL, cV_l5, cV_l5]
      refine ⟨by have := bl_part false l a b hab; omega, dV_sub (dV_box (Or.inl rfl)) (fun x hx => dV_kid (Or.inl rfl) ?_)⟩
      rcases List.mem_append.mp hx with c | c
      · exact List.mem_of_mem_take c
      · exact List.mem_of_mem_drop c
  | cons pi ps ih =>
    intro t w T hw hT
    by_cases t0 : t.1 = 0
    · rw [cutV_null t0] at hT
      cases hT
      exact ⟨Nat.le_refl _, Nat.le_refl _⟩
    by_cases t5 : t.1 = 5
    · obtain ⟨kt, v0, s0, ft⟩ := t
      obtain ⟨l, rfl⟩ : ∃ l, ft = ofL l := ⟨toL ft, (ofL_toL ft).symm⟩
      have t5 : kt = 5 := t5
      subst t5
      by_cases e3 : pi.1 = 3
      · rw [cutV_53 e3] at hT
        by_cases hin : 0 ≤ atX pi.2.1 (winN (5, v0, s0, ofL l) w) ∧ atX pi.2.1 (winN (5, v0, s0, ofL l) w) < winN (5, v0, s0, ofL l) w
        · rw [if_pos hin] at hT
          obtain ⟨j, hj⟩ : ∃ j, j = winA (5, v0, s0, ofL l) w + (atX pi.2.1 (winN (5, v0, s0, ofL l) w)).toNat := ⟨_, rfl⟩
          rw [← hj] at hT
          by_cases hp : ps.isEmpty = true
          · rw [if_pos hp] at hT
            cases hT
            rw [cV_l5, cV_l5]
            refine ⟨by have := bl_part false l j (j + 1) (by omega); omega, dV_sub (dV_box (Or.inl rfl)) (fun x hx => dV_kid (Or.inl rfl) ?_)⟩
            rcases List.mem_append.mp hx with c | c
            · exact List.mem_of_mem_take c
            · exact List.mem_of_mem_drop c
          · rw [if_neg hp] at hT
            cases hU : cutV ps (l.getD j nulM).2 none with
            | none => rw [hU] at hT; cases hT
            | some U =>
              rw [hU] at hT
              cases hT
              obtain ⟨a1, a2⟩ := ih _ none U (fun _ _ e => by cases e) hU
              rw [cV_l5, cV_l5]
              by_cases hjl : j < l.length
              · rw [getD_in _ hjl] at a1 a2 ⊢
                refine ⟨by have := bk_set false l j hjl a1; omega, dV_sub (dV_box (Or.inl rfl)) (fun x hx => ?_)⟩
                rcases List.mem_or_eq_of_mem_set hx with c | c
                · exact dV_kid (Or.inl rfl) c
                · rw [c]
                  have := dV_kid (k := 5) (v := v0) (s := s0) (Or.inl rfl) (List.getElem_mem hjl)
                  show dV U + 1 ≤ _
                  omega
              · have e := List.set_eq_of_length_le (a := ((l.getD j nulM).1, U)) (show l.length ≤ j by omega)
                show (blks false (l.set j ((l.getD j nulM).1, U))).flatten.length + 2 ≤ _ ∧ dV (5, v0, s0, ofL (l.set j ((l.getD j nulM).1, U))) ≤ _
                rw [e]
                exact ⟨Nat.le_refl _, Nat.le_refl _⟩
        · rw [if_neg hin] at hT
          cases hT
          exact ⟨Nat.le_refl _, Nat.le_refl _⟩
      · by_cases h6 : pi.1 = 6 ∧ okBd pi
        · rw [cutV_56 h6.1 h6.2] at hT
          refine ih _ _ T (fun a b e => ?_) hT
          cases e
          refine ⟨rfl, (nw_ok pi ?_).1⟩
          exact Nat.le_add_right _ _
        · rw [cutV_5x e3 (fun e => fun c => h6 ⟨e, c⟩)] at hT
          cases hT
    by_cases t6 : t.1 = 6
    · have hwn : w = none := by
        cases w with
        | none => rfl
        | some ab => exact absurd (hw ab.1 ab.2 rfl).1 t5
      subst hwn
      obtain ⟨kt, v0, s0, ft⟩ := t
      obtain ⟨l, rfl⟩ : ∃ l, ft = ofL l := ⟨toL ft, (ofL_toL ft).symm⟩
      have t6 : kt = 6 := t6
      subst t6
      by_cases e4 : pi.1 = 4
      · rw [cutV_64 e4] at hT
        unfold cutM at hT
        obtain ⟨j, hj⟩ : ∃ j, j = l.findIdx (fun m => m.1 == pi.2.2.1) := ⟨_, rfl⟩
        rw [← hj] at hT
        by_cases hjl : j < l.length
        · rw [if_pos hjl] at hT
          by_cases hp : ps.isEmpty = true
          · rw [if_pos hp] at hT
            cases hT
            rw [cV_l6, cV_l6]
            refine ⟨by have := bl_part true l j (j + 1) (by omega); omega, dV_sub (dV_box (Or.inr rfl)) (fun x hx => dV_kid (Or.inr rfl) ?_)⟩
            rcases List.mem_append.mp hx with c | c
            · exact List.mem_of_mem_take c
            · exact List.mem_of_mem_drop c
          · rw [if_neg hp, getD_in _ hjl] at hT
            cases hU : cutV ps (l[j]).2 none with
            | none => rw [hU] at hT; cases hT
            | some U =>
              rw [hU] at hT
              cases hT
              obtain ⟨a1, a2⟩ := ih _ none U (fun _ _ e => by cases e) hU
              rw [cV_l6, cV_l6]
              refine ⟨by have := bk_set true l j hjl a1; show (blks true (l.set j ((l[j]).1, U))).flatten.length + 2 ≤ _; omega, dV_sub (dV_box (Or.inr rfl)) (fun x hx => ?_)⟩
              rcases List.mem_or_eq_of_mem_set hx with c | c
              · exact dV_kid (Or.inr rfl) c
              · rw [c]
                have := dV_kid (k := 6) (v := v0) (s := s0) (Or.inr rfl) (List.getElem_mem hjl)
                show dV U + 1 ≤ _
                omega
        · rw [if_neg hjl] at hT
          cases hT
          exact ⟨Nat.le_refl _, Nat.le_refl _⟩
      · rw [cutV_6x e4] at hT
        cases hT
    · have : cutV (pi :: ps) t w = none := by
        unfold cutV
        rw [if_neg t0, if_neg t5, if_neg t6, if_neg t5]
        simp
      rw [this] at hT
      cases hT
theorem cutP_le {lp : List Mb} {t T : Vl} (ht : 2 ≤ (cV t).length) (h : cutP lp t = some T) : (cV T).length ≤ (cV t).length ∧ dV T ≤ dV t := by
  unfold cutP at h
  by_cases e : lp = []
  · rw [if_pos e] at h
    cases h
    exact ⟨ht, Nat.zero_le _⟩
  · rw [if_neg e] at h
    exact cut_le _ t none T (fun _ _ e => by cases e) h
/-- the paths as cells -/
def epC (es : List Mb) (j : Nat) : Nat := bp 2 (blks false es) j
theorem ep_at {as : List Int32} {v : Int} {s : List Int32} {es : List Mb} (h : cat as 0 (5, v, s, ofL es)) {j : Nat} (hj : j < es.length) : cat as (epC es j) (es[j]).2 ∧ r_element as 0 (Int32.ofNat j).toInt64 = some (Int32.ofNat (epC es j)) ∧ epC es j + (cV (es[j]).2).length ≤ 9000 ∧ es.length ≤ 4500 := by
  have h1 : cat as (epC es j) (es[j]).2 := h.elem hj
  obtain ⟨h9, hw, r, hd⟩ := id h
  have hn := h1.next.2
  have hn0 := h.next.2
  have hl : (blks false es).length = es.length := by
    have := blks_len false es
    simpa using this
  have hfl := flat2 _ (blks_h (b := false) hw.kids)
  have e5 := cV_l5 v s es
  refine ⟨h1, ?_, by omega, by omega⟩
  have hd2 : as.drop 2 = (blks false es).flatten ++ r := by
    rw [List.drop_zero, cV_5] at hd
    rw [hd]
    rfl
  unfold r_element
  rw [l_32 j (by omega)]
  have := elem_l (p := 0) (k := j) h9 (by omega) (blks false es) 10000 0 2 (blks_h hw.kids) hd2 (Nat.zero_le _) (by omega) (by omega)
  rw [Nat.sub_zero] at this
  exact this
theorem ep_many {as : List Int32} {v : Int} {s : List Int32} {es : List Mb} (h : cat as 0 (5, v, s, ofL es)) {j : Nat} (hj : j < es.length) (h5 : (es[j]).2.1 = 5) : r_many as (Int32.ofNat (epC es j)) = some (Int32.ofNat (cnt es[j])) := by
  obtain ⟨c1, -⟩ := ep_at h hj
  have c1' := c1
  rw [vl5 h5] at c1'
  obtain ⟨h9, hw, r, hd⟩ := c1'
  obtain ⟨l, hl⟩ : ∃ l, (es[j]).2.2.2.2 = ofL l := ⟨toL _, (ofL_toL _).symm⟩
  rw [ofL_toL, hl] at hd
  rw [ofL_toL, hl] at hw
  have := many_val (p := epC es j) h9 hw.kids (Or.inl rfl) hd
  rw [this]
  unfold cnt
  rw [hl, toL_ofL]
/-- only the refusal has changed -/
def rfS (S S' : SS) : Prop := (∀ a, a ≠ 78 → S' a = S a) ∧ (∀ k, k ≠ 12 → rd S' 78 k = rd S 78 k) ∧ (S' 78).length = (S 78).length
theorem rfS.refl (S : SS) : rfS S S := ⟨fun _ _ => rfl, fun _ _ => rfl, rfl⟩
theorem rfS.trans {S S1 S2 : SS} (a : rfS S S1) (b : rfS S1 S2) : rfS S S2 := ⟨fun x h => (b.1 x h).trans (a.1 x h), fun k h => (b.2.1 k h).trans (a.2.1 k h), b.2.2.trans a.2.2⟩
theorem rfS_ref {S : SS} (h78 : (S 78).length = 22) (hr : rd S 78 12 = 0 ∨ ¬ rd S 78 12 ≤ 0) {v : Int32} (hv : ¬ v ≤ 0) : ∃ S', b_refuse S v = some S' ∧ rfS S S' ∧ ¬ rd S' 78 12 ≤ 0 := by
  unfold b_refuse
  rcases hr with h | h
  · rw [if_pos h]
    exact ⟨_, rfl, ⟨fun a ha => wr_ne ha, fun k hk => rd_wr_j (fun e => hk e.symm), wr_len⟩, by rw [rd_wr (by rw [h78]; decide)]; exact hv⟩
  · rw [if_neg (fun e => h (by rw [e]; decide))]
    exact ⟨S, rfl, rfS.refl S, h⟩
theorem d75 {pb : Nat} {v : Int} {s : List Int32} {es : List Mb} {l1 l2 : Int32} (hpb : 82 ≤ pb ∧ pb ≤ 89) : ∀ (m j n : Nat) (S : SS), j + m = es.length → m < n → cat (S pb) 0 (5, v, s, ofL es) → (S 78).length = 22 → (rd S 78 12 = 0 ∨ ¬ rd S 78 12 ≤ 0) → ∃ S' n', b_del_l75 n S l1 l2 pb (Int32.ofNat es.length) (Int32.ofNat j) = b_del_l112 (b_del_l75 n') 10000 S' l1 l2 pb (Int32.ofNat es.length) 0 ∧ rfS S S' ∧ ((rd S 78 12 = 0 ∧ S' = S ∧ ∀ x ∈ es.drop j, x.2.1 = 5) ∨ (¬ rd S' 78 12 ≤ 0 ∧ ¬ (rd S 78 12 = 0 ∧ ∀ x ∈ es.drop j, x.2.1 = 5))) := by
  intro m
  induction m with
  | zero =>
    intro j n S hj hn hc h78 hr
    obtain ⟨n, rfl⟩ : ∃ j, n = j + 1 := ⟨n - 1, by omega⟩
    have hlen : es.length ≤ 4500 := by
      by_cases c : 0 < es.length
      · exact (ep_at hc c).2.2.2
      · omega
    refine ⟨S, n, ?_, rfS.refl S, ?_⟩
    · unfold b_del_l75
      rw [if_pos ((i_le' (by omega) (by omega)).mpr (by omega))]
    · have e : es.drop j = [] := List.drop_eq_nil_of_le (by omega)
      rw [e]
      rcases hr with h | h
      · exact Or.inl ⟨h, rfl, fun x hx => by cases hx⟩
      · exact Or.inr ⟨h, fun c => h (by rw [c.1]; decide)⟩
  | succ m ih =>
    intro j n S hj hn hc h78 hr
    obtain ⟨n, rfl⟩ : ∃ j, n = j + 1 := ⟨n - 1, by omega⟩
    have hjl : j < es.length := by omega
    obtain ⟨c1, c2, c3, c4⟩ := ep_at hc hjl
    have k6 := c1.2.1.1
    have ed : ∀ x, x ∈ es.drop j ↔ (x = es[j] ∨ x ∈ es.drop (j + 1)) := fun x => by rw [List.drop_eq_getElem_cons hjl, List.mem_cons]
    by_cases h5 : (es[j]).2.1 = 5
    · obtain ⟨S', n', j1, j2, j3⟩ := ih (j + 1) n S (by omega) (by omega) hc h78 hr
      refine ⟨S', n', ?_, j2, ?_⟩
      · show (if Int32.ofNat es.length ≤ Int32.ofNat j then _ else _) = _
        rw [if_neg (by rw [i_le' (by omega) (by omega)]; omega), c2, o_bind, c1.kind, o_bind, if_pos (by rw [h5]; rfl), i_a1]
        exact j1
      · have : (∀ x ∈ es.drop j, x.2.1 = 5) ↔ ∀ x ∈ es.drop (j + 1), x.2.1 = 5 := ⟨fun h x hx => h x ((ed x).mpr (Or.inr hx)), fun h x hx => by
          rcases (ed x).mp hx with c | c
          · rw [c]; exact h5
          · exact h x c⟩
        rw [this]
        exact j3
    · obtain ⟨S1, q1, q2, q3⟩ := rfS_ref (v := 1) h78 hr (by decide)
      obtain ⟨S', n', j1, j2, j3⟩ := ih (j + 1) n S1 (by omega) (by omega) (by rw [q2.1 pb (by omega)]; exact hc) (by rw [q2.2.2]; exact h78) (Or.inr q3)
      refine ⟨S', n', ?_, q2.trans j2, Or.inr ⟨?_, fun c => h5 (c.2 _ ((ed _).mpr (Or.inl rfl)))⟩⟩
      · show (if Int32.ofNat es.length ≤ Int32.ofNat j then _ else _) = _
        rw [if_neg (by rw [i_le' (by omega) (by omega)]; omega), c2, o_bind, c1.kind, o_bind, if_neg (kne5 k6 h5), q1, o_bind, i_a1]
        exact j1
      · rcases j3 with c | c
        · exact absurd (by rw [c.1]; decide) q3
        · exact c.1
theorem d112 {k75 : SS → Int32 → Int32 → Nat → Int32 → Int32 → Option SS} {pb : Nat} {v : Int} {s : List Int32} {es : List Mb} {l1 l2 : Int32} (hpb : 82 ≤ pb ∧ pb ≤ 89) (h5 : ∀ x ∈ es, x.2.1 = 5) : ∀ (m j n : Nat) (S : SS), j + m = es.length → m < n → cat (S pb) 0 (5, v, s, ofL es) → (S 78).length = 22 → rd S 78 12 = 0 → ∃ S' k112, b_del_l112 k75 n S l1 l2 pb (Int32.ofNat es.length) (Int32.ofNat j) = b_del_l162 k75 k112 10000 S' l1 l2 pb (Int32.ofNat es.length) 0 0 ∧ rfS S S' ∧ ((S' = S ∧ ∀ x ∈ es.drop j, cnt x ≤ 100) ∨ (¬ rd S' 78 12 ≤ 0 ∧ ¬ ∀ x ∈ es.drop j, cnt x ≤ 100)) := by
  intro m
  induction m with
  | zero =>
    intro j n S hj hn hc h78 hr
    obtain ⟨n, rfl⟩ : ∃ j, n = j + 1 := ⟨n - 1, by omega⟩
    have hlen : es.length ≤ 4500 := by
      by_cases c : 0 < es.length
      · exact (ep_at hc c).2.2.2
      · omega
    refine ⟨S, b_del_l112 k75 n, ?_, rfS.refl S, Or.inl ⟨rfl, ?_⟩⟩
    · show (if Int32.ofNat es.length ≤ Int32.ofNat j then _ else _) = _
      rw [if_pos ((i_le' (by omega) (by omega)).mpr (by omega))]
    · have e : es.drop j = [] := List.drop_eq_nil_of_le (by omega)
      rw [e]
      exact fun x hx => by cases hx
  | succ m ih =>
    intro j n S hj hn hc h78 hr
    obtain ⟨n, rfl⟩ : ∃ j, n = j + 1 := ⟨n - 1, by omega⟩
    have hjl : j < es.length := by omega
    obtain ⟨c1, c2, c3, c4⟩ := ep_at hc hjl
    have cm := ep_many hc hjl (h5 _ (List.getElem_mem hjl))
    have hcnt : cnt es[j] ≤ 4500 := by
      have e5 := h5 _ (List.getElem_mem hjl)
      have c1' := c1
      rw [vl5 e5] at c1'
      obtain ⟨h9, hw, -⟩ := id c1'
      have := cV_l5 (es[j]).2.2.1 (es[j]).2.2.2.1 (toL (es[j]).2.2.2.2)
      have hfl := flat2 _ (blks_h (b := false) hw.kids)
      have hbl := blks_len false (toL (es[j]).2.2.2.2)
      simp only [Bool.false_eq_true, if_false] at hbl
      have n2 := c1'.next.2
      unfold cnt
      omega
    have ed : ∀ x, x ∈ es.drop j ↔ (x = es[j] ∨ x ∈ es.drop (j + 1)) := fun x => by rw [List.drop_eq_getElem_cons hjl, List.mem_cons]
    have head : b_del_l112 k75 (n + 1) S l1 l2 pb (Int32.ofNat es.length) (Int32.ofNat j) = (if Int32.ofNat (cnt es[j]) ≤ (100 : Int32) then b_del_l112 k75 n S l1 l2 pb (Int32.ofNat es.length) (Int32.ofNat (j + 1)) else ((b_refuse S 2).bind fun r85 => b_del_l112 k75 n r85 l1 l2 pb (Int32.ofNat es.length) (Int32.ofNat (j + 1)))) := by
      show (if Int32.ofNat es.length ≤ Int32.ofNat j then _ else _) = _
      rw [if_neg (by rw [i_le' (by omega) (by omega)]; omega), if_pos hr, c2, o_bind, cm, o_bind, i_a1]
    rw [head]
    by_cases h1 : cnt es[j] ≤ 100
    · rw [if_pos (by rw [show (100 : Int32) = Int32.ofNat 100 from rfl, i_le' (by omega) (by omega)]; exact h1)]
      obtain ⟨S', k112, j1, j2, j3⟩ := ih (j + 1) n S (by omega) (by omega) hc h78 hr
      refine ⟨S', k112, j1, j2, ?_⟩
      have : (∀ x ∈ es.drop j, cnt x ≤ 100) ↔ ∀ x ∈ es.drop (j + 1), cnt x ≤ 100 := ⟨fun h x hx => h x ((ed x).mpr (Or.inr hx)), fun h x hx => by
        rcases (ed x).mp hx with c | c
        · rw [c]; exact h1
        · exact h x c⟩
      rw [this]
      exact j3
    · rw [if_neg (by rw [show (100 : Int32) = Int32.ofNat 100 from rfl, i_le' (by omega) (by omega)]; exact h1)]
      obtain ⟨S1, q1, q2, q3⟩ := rfS_ref (v := 2) h78 (Or.inl hr) (by decide)
      rw [q1, o_bind]
      obtain ⟨n, rfl⟩ : ∃ j, n = j + 1 := ⟨n - 1, by omega⟩
      refine ⟨S1, b_del_l112 k75 n, ?_, q2, Or.inr ⟨q3, fun c => h1 (c _ ((ed _).mpr (Or.inl rfl)))⟩⟩
      show (if Int32.ofNat es.length ≤ Int32.ofNat (j + 1) then _ else _) = _
      split
      · rfl
      · rw [if_neg (fun e => q3 (by rw [e]; decide))]
end RDel175
end
