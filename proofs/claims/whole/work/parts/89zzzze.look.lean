/-! The class looks at the paths, and sorts them. -/
section Look171
def cnt (x : Mb) : Nat := (toL x.2.2.2.2).length
def smL (es : List Mb) : Nat := (es.map cnt).sum
def okE (es : List Mb) : Prop := ∀ x ∈ es, x.2.1 = 5 ∧ cnt x ≤ 100
theorem smL_s {es : List Mb} {j : Nat} (h : j < es.length) : smL (es.take (j + 1)) = smL (es.take j) + cnt es[j] := by
  unfold smL
  rw [List.take_succ_eq_append_getElem h, List.map_append, List.sum_append]
  simp
theorem look_l {t0 : Nat} {vs : List Int32} {v : Int} {s : List Int32} {es : List Mb} {x0 x1 x2 x3 : Int32} (ht0 : t0 ≠ 72 ∧ t0 ≠ 74) (hp : vat vs 0 (5, v, s, ofL es)) : ∀ (m j n : Nat) (S : SS) (l2 : Int32), j + m = es.length → m < n → tT S t0 = vs → S 72 = [x0, x1, x2, x3, Int32.ofNat j, Int32.ofNat (smL (es.take j))] → (S 74).length = 100 → (∀ k, k < min j 100 → (S 74)[k]? = some (Int32.ofNat (ip false 1 es k))) → (l2 = 0 ∨ l2 = 2) → ∃ S' e, k_lookAt_l29 t0 n S l2 (if m = 0 then -1 else Int32.ofNat (ip false 1 es j)) = some (S', e) ∧ (∀ a, a ≠ 72 → a ≠ 74 → S' a = S a) ∧ (S' 72).length = 6 ∧ (S' 74).length = 100 ∧ (e = 0 ↔ l2 = 0 ∧ okE (es.drop j)) ∧ (e = 0 → S' 72 = [x0, x1, x2, x3, Int32.ofNat es.length, Int32.ofNat (smL es)] ∧ ∀ k, k < min es.length 100 → (S' 74)[k]? = some (Int32.ofNat (ip false 1 es k))) := by
  have hil := (hp.items (Or.inl rfl)).2
  have hvl := hp.1
  intro m
  induction m with
  | zero =>
    intro j n S l2 hj hn ht h72 h74 hk hl2
    obtain ⟨n, rfl⟩ : ∃ j, n = j + 1 := ⟨n - 1, by omega⟩
    have ej : j = es.length := by omega
    subst ej
    refine ⟨S, l2, ?_, fun _ _ _ => rfl, by rw [h72]; rfl, h74, ⟨fun h => ⟨h, fun x hx => ?_⟩, fun h => h.1⟩, fun _ => ⟨?_, hk⟩⟩
    · unfold k_lookAt_l29
      rw [if_pos rfl, if_pos rfl]
    · rw [List.drop_eq_nil_of_le (Nat.le_refl _)] at hx
      cases hx
    · rw [h72, List.take_of_length_le (Nat.le_refl _)]
  | succ m ih =>
    intro j n S l2 hj hn ht h72 h74 hk hl2
    obtain ⟨n, rfl⟩ : ∃ j, n = j + 1 := ⟨n - 1, by omega⟩
    have hjl : j < es.length := by omega
    obtain ⟨s1, s2⟩ := step_at hp hjl
    have hlt := s1.lt
    have k6 := s1.2.2.1.1
    have enx : (if j + 1 < es.length then Int32.ofNat (ip false 1 es (j + 1)) else (-1 : Int32)) = if m = 0 then -1 else Int32.ofNat (ip false 1 es (j + 1)) := by
      by_cases c : m = 0
      · rw [if_pos c, if_neg (by omega)]
      · rw [if_neg c, if_pos (by omega)]
    rw [enx] at s2
    have e4 : rd S 72 4 = Int32.ofNat j := by unfold rd; rw [h72]; rfl
    have n0 : ¬ Int32.ofNat (ip false 1 es j) = -1 := i_ne1 (by omega)
    have n1 : ¬ (4096 : Int32) ≤ Int32.ofNat j := by rw [show (4096 : Int32) = Int32.ofNat 4096 from rfl, i_le' (by omega) (by omega)]; omega
    have hdr : okE (es.drop j) ↔ ((es[j]).2.1 = 5 ∧ cnt es[j] ≤ 100) ∧ okE (es.drop (j + 1)) := by
      rw [List.drop_eq_getElem_cons hjl]
      unfold okE
      constructor
      · intro h
        exact ⟨h _ List.mem_cons_self, fun x hx => h x (List.mem_cons_of_mem _ hx)⟩
      · intro h x hx
        rcases List.mem_cons.mp hx with c | c
        · rw [c]; exact h.1
        · exact h.2 x c
    rw [if_neg (by omega : ¬ m + 1 = 0)]
    by_cases e5 : (es[j]).2.1 = 5
    rotate_left
    · refine ⟨S, 1, ?_, fun _ _ _ => rfl, by rw [h72]; rfl, h74, ⟨fun h => absurd h (by decide), fun h => absurd (hdr.mp h.2).1.1 e5⟩, fun h => absurd h (by decide)⟩
      unfold k_lookAt_l29
      rw [if_neg n0, e4, if_neg n1, ht, s1.kind, o_bind, if_neg (kne5 k6 e5)]
    have s1' := s1
    rw [vl5 e5] at s1'
    obtain ⟨i1, i2⟩ := s1'.items (Or.inl rfl)
    have i1 : t_items vs (Int32.ofNat (ip false 1 es j)) = some (Int32.ofNat (cnt es[j])) := i1
    have i2 : cnt es[j] < 4096 := i2
    -- the state behind it
    have cont : ∀ (S1 : SS) (l2' : Int32), S1 72 = S 72 → (∀ a, a ≠ 72 → a ≠ 74 → S1 a = S a) → (S1 74).length = 100 → (∀ k, k < min (j + 1) 100 → (S1 74)[k]? = some (Int32.ofNat (ip false 1 es k))) → (l2' = 0 ∨ l2' = 2) → (l2' = 0 ↔ l2 = 0 ∧ cnt es[j] ≤ 100) → ∃ S' e, ((t_next (tT (wr (wr S1 72 4 ((rd S1 72 4) + 1)) 72 5 ((rd (wr S1 72 4 ((rd S1 72 4) + 1)) 72 5) + (Int32.ofNat (cnt es[j])))) t0) (Int32.ofNat (ip false 1 es j))).bind fun r19 => k_lookAt_l29 t0 n (wr (wr S1 72 4 ((rd S1 72 4) + 1)) 72 5 ((rd (wr S1 72 4 ((rd S1 72 4) + 1)) 72 5) + (Int32.ofNat (cnt es[j])))) l2' r19) = some (S', e) ∧ (∀ a, a ≠ 72 → a ≠ 74 → S' a = S a) ∧ (S' 72).length = 6 ∧ (S' 74).length = 100 ∧ (e = 0 ↔ l2 = 0 ∧ okE (es.drop j)) ∧ (e = 0 → S' 72 = [x0, x1, x2, x3, Int32.ofNat es.length, Int32.ofNat (smL es)] ∧ ∀ k, k < min es.length 100 → (S' 74)[k]? = some (Int32.ofNat (ip false 1 es k))) := by
      intro S1 l2' g72 gf g74 gk gl gl'
      have h721 : S1 72 = [x0, x1, x2, x3, Int32.ofNat j, Int32.ofNat (smL (es.take j))] := g72.trans h72
      have r4 : rd S1 72 4 = Int32.ofNat j := by unfold rd; rw [h721]; rfl
      have w1 : wr S1 72 4 (rd S1 72 4 + 1) = up S1 72 [x0, x1, x2, x3, Int32.ofNat (j + 1), Int32.ofNat (smL (es.take j))] := by
        rw [r4, i_a1, wr_eq h721]
        rfl
      have r5 : rd (up S1 72 [x0, x1, x2, x3, Int32.ofNat (j + 1), Int32.ofNat (smL (es.take j))]) 72 5 = Int32.ofNat (smL (es.take j)) := by unfold rd; rw [up_same]; rfl
      have w2 : wr (up S1 72 [x0, x1, x2, x3, Int32.ofNat (j + 1), Int32.ofNat (smL (es.take j))]) 72 5 (Int32.ofNat (smL (es.take j)) + Int32.ofNat (cnt es[j])) = up S1 72 [x0, x1, x2, x3, Int32.ofNat (j + 1), Int32.ofNat (smL (es.take (j + 1)))] := by
        rw [← Int32.ofNat_add, ← smL_s hjl, wr_up]
        rfl
      rw [w1, r5, w2]
      obtain ⟨S2, hS2⟩ : ∃ S2, S2 = up S1 72 [x0, x1, x2, x3, Int32.ofNat (j + 1), Int32.ofNat (smL (es.take (j + 1)))] := ⟨_, rfl⟩
      rw [← hS2]
      have t2 : tT S2 t0 = vs := by unfold tT at *; rw [hS2, up_ne ht0.1, gf t0 ht0.1 ht0.2]; exact ht
      obtain ⟨S', e, j1, j2, j3, j4, j5, j6⟩ := ih (j + 1) n S2 l2' (by omega) (by omega) t2 (by rw [hS2, up_same]) (by rw [hS2, up_ne (by decide)]; exact g74) (by rw [hS2, up_ne (by decide)]; exact gk) gl
      refine ⟨S', e, by rw [t2, s2, o_bind]; exact j1, fun a h1 h2 => by rw [j2 a h1 h2, hS2, up_ne h1, gf a h1 h2], j3, j4, ?_, j6⟩
      rw [j5, gl', hdr]
      constructor
      · intro h; exact ⟨h.1.1, ⟨e5, h.1.2⟩, h.2⟩
      · intro h; exact ⟨⟨h.1, h.2.1.2⟩, h.2.2⟩
    unfold k_lookAt_l29
    rw [if_neg n0, e4, if_neg n1, ht, s1.kind, o_bind, if_pos (by rw [e5]; rfl), i1, o_bind]
    have hge : (100 : Int32) ≤ Int32.ofNat j ↔ 100 ≤ j := by rw [show (100 : Int32) = Int32.ofNat 100 from rfl, i_le' (by omega) (by omega)]
    have hw : j < 100 → ∃ z, iset (S 74) (Int32.ofNat j) (Int32.ofNat (ip false 1 es j)) = some z ∧ z.length = 100 ∧ ∀ k, k < min (j + 1) 100 → z[k]? = some (Int32.ofNat (ip false 1 es k)) := by
      intro hj100
      refine ⟨_, i_set (by omega) (by omega), by rw [List.length_set]; exact h74, fun k hk' => ?_⟩
      by_cases ek : k = j
      · subst ek
        rw [List.getElem?_set_self (by omega)]
      · rw [List.getElem?_set_ne (fun c => ek c.symm)]
        exact hk k (by omega)
    by_cases hc : cnt es[j] ≤ 100
    · rw [if_pos (by rw [show (100 : Int32) = Int32.ofNat 100 from rfl, i_le' (by omega) (by omega)]; exact hc)]
      by_cases h100 : 100 ≤ j
      · rw [if_pos (hge.mpr h100)]
        have := cont S l2 rfl (fun _ _ _ => rfl) h74 (fun k hk' => hk k (by omega)) hl2 ⟨fun h => ⟨h, hc⟩, fun h => h.1⟩
        rw [e4] at this
        exact this
      · obtain ⟨z, z1, z2, z3⟩ := hw (by omega)
        rw [if_neg (fun c => h100 (hge.mp c)), z1, o_bind]
        exact cont (up S 74 z) l2 (up_ne (by decide)) (fun a _ h2 => up_ne h2) (by rw [up_same]; exact z2) (by rw [up_same]; exact z3) hl2 ⟨fun h => ⟨h, hc⟩, fun h => h.1⟩
    · rw [if_neg (by rw [show (100 : Int32) = Int32.ofNat 100 from rfl, i_le' (by omega) (by omega)]; exact hc)]
      have fl : ((2 : Int32) = 0 ↔ l2 = 0 ∧ cnt es[j] ≤ 100) := ⟨fun h => absurd h (by decide), fun h => absurd h.2 hc⟩
      by_cases h100 : 100 ≤ j
      · rw [if_pos (hge.mpr h100)]
        have := cont S 2 rfl (fun _ _ _ => rfl) h74 (fun k hk' => hk k (by omega)) (Or.inr rfl) fl
        rw [e4] at this
        exact this
      · obtain ⟨z, z1, z2, z3⟩ := hw (by omega)
        rw [if_neg (fun c => h100 (hge.mp c)), z1, o_bind]
        exact cont (up S 74 z) 2 (up_ne (by decide)) (fun a _ h2 => up_ne h2) (by rw [up_same]; exact z2) (by rw [up_same]; exact z3) (Or.inr rfl) fl
/-- lookAt -/
theorem look_val {S : SS} {t0 : Nat} {pt : Vl} (ht0 : t0 ≠ 72 ∧ t0 ≠ 74) (hp : vat (tT S t0) 0 pt) (h72 : (S 72).length = 6) (h74 : (S 74).length = 100) : ∃ S' e, k_lookAt S t0 = some (S', e) ∧ (∀ a, a ≠ 72 → a ≠ 74 → S' a = S a) ∧ (S' 72).length = 6 ∧ (S' 74).length = 100 ∧ (e = 0 ↔ pt.1 = 5 ∧ okE (toL pt.2.2.2)) ∧ (e = 0 → rd S' 72 4 = Int32.ofNat (toL pt.2.2.2).length ∧ rd S' 72 5 = Int32.ofNat (smL (toL pt.2.2.2)) ∧ (toL pt.2.2.2).length < 4096 ∧ ∀ k, k < min (toL pt.2.2.2).length 100 → (S' 74)[k]? = some (Int32.ofNat (ip false 1 (toL pt.2.2.2) k))) := by
  obtain ⟨x0, x1, x2, x3, x4, x5, e72⟩ : ∃ a b c d e f, S 72 = [a, b, c, d, e, f] := by
    match hS : S 72, h72 with
    | [a, b, c, d, e, f], _ => exact ⟨a, b, c, d, e, f, rfl⟩
  have k6 := hp.2.2.1.1
  obtain ⟨S0, hS0⟩ : ∃ S0, S0 = wr (wr S 72 4 0) 72 5 0 := ⟨_, rfl⟩
  have e0 : S0 = up S 72 [x0, x1, x2, x3, 0, 0] := by rw [hS0, wr_eq e72, wr_up]; rfl
  have tt : tT S0 t0 = tT S t0 := by unfold tT; rw [e0, up_ne ht0.1]
  unfold k_lookAt
  rw [← hS0, tt, show (0 : Int32) = Int32.ofNat 0 from rfl, hp.kind, o_bind]
  by_cases e5 : pt.1 = 5
  · obtain ⟨kp, vp, sp, fp⟩ := pt
    obtain ⟨es, rfl⟩ : ∃ l, fp = ofL l := ⟨toL fp, (ofL_toL fp).symm⟩
    have e5 : kp = 5 := e5
    subst e5
    have etl : toL ((5, vp, sp, ofL es) : Vl).2.2.2 = es := toL_ofL es
    rw [etl]
    have hil := (hp.items (Or.inl rfl)).2
    rw [if_pos (show Int32.ofNat ((5, vp, sp, ofL es) : Vl).1 = 5 from rfl), hp.first (Or.inl rfl), o_bind]
    obtain ⟨S', e, j1, j2, j3, j4, j5, j6⟩ := look_l ht0 hp es.length 0 10000 S0 0 (by omega) (by omega) tt (by rw [e0, up_same]; rfl) (by rw [e0, up_ne (by decide)]; exact h74) (fun k hk => absurd hk (by omega)) (Or.inl rfl)
    refine ⟨S', e, ?_, fun a h1 h2 => by rw [j2 a h1 h2, e0, up_ne h1], j3, j4, ?_, fun h => ?_⟩
    · rw [← j1, ip_0]
      congr 1
      by_cases hn : es = []
      · rw [if_pos hn, if_pos (by rw [hn]; rfl)]
      · rw [if_neg hn, if_neg (by intro c; exact hn (List.eq_nil_of_length_eq_zero c))]
    · show e = 0 ↔ _
      rw [j5, List.drop_zero]
      exact ⟨fun h => ⟨rfl, h.2⟩, fun h => ⟨rfl, h.2⟩⟩
    · obtain ⟨y1, y2⟩ := j6 h
      exact ⟨by unfold rd; rw [y1]; rfl, by unfold rd; rw [y1]; rfl, hil, y2⟩
  · rw [if_neg (kne5 k6 e5)]
    refine ⟨S0, 1, rfl, fun a h1 _ => by rw [e0, up_ne h1], by rw [e0, up_same]; rfl, by rw [e0, up_ne (by decide)]; exact h74, ⟨fun h => absurd h (by decide), fun h => absurd h.1 e5⟩, fun h => absurd h (by decide)⟩
/-- one path finds its place -/
theorem ks20 {t0 N i x : Nat} {vs post : List Int32} {es : List Mb} {k2 : SS → Int32 → Option SS} (ht0 : t0 ≠ 47 ∧ t0 ≠ 48 ∧ t0 ≠ 74) (hN : N ≤ 100) (hat : ∀ j (h : j < es.length), vat vs (ip false 1 es j) (es[j]).2 ∧ dV (es[j]).2 ≤ 59) (hNe : N ≤ es.length) (hx : x < N) : ∀ (k n : Nat) (S : SS) (Q : List Nat), k < Q.length → Q.length = N → k < n → k ≤ i → i < N → stCp S t0 t0 vs vs 0 → (∀ j ∈ Q, j < N) → S 74 = Q.map (fun j => Int32.ofNat (ip false 1 es j)) ++ post → (S 74).length = 100 → ∃ S' Q', k_sort_l20 t0 k2 n S (Int32.ofNat i) (Int32.ofNat (ip false 1 es x)) (Int32.ofNat k) = k2 S' (Int32.ofNat i + 1) ∧ (∀ a, a ≠ 47 → a ≠ 48 → a ≠ 74 → S' a = S a) ∧ stCp S' t0 t0 vs vs 0 ∧ S' 74 = Q'.map (fun j => Int32.ofNat (ip false 1 es j)) ++ post ∧ (S' 74).length = 100 ∧ Q'.length = Q.length ∧ Q'.Perm (Q.set k x) ∧ (hole (fun j => key 61 (es.getD j nulM).2) Q (i + 1) k x → srtN (fun j => key 61 (es.getD j nulM).2) Q' (i + 1)) := by
  intro k
  induction k with
  | zero =>
    intro n S Q hk hQl hn hki hiN hS hQ h74 hl
    obtain ⟨n, rfl⟩ : ∃ j, n = j + 1 := ⟨n - 1, by omega⟩
    have hs : iset (S 74) (Int32.ofNat 0) (Int32.ofNat (ip false 1 es x)) = some ((Q.set 0 x).map (fun j => Int32.ofNat (ip false 1 es j)) ++ post) := by
      rw [h74, i_set (by rw [List.length_append, List.length_map]; omega) (by omega), List.set_append_left _ _ (by rw [List.length_map]; exact hk), List.map_set]
    refine ⟨up S 74 ((Q.set 0 x).map (fun j => Int32.ofNat (ip false 1 es j)) ++ post), Q.set 0 x, ?_, fun a _ _ h => up_ne h, ?_, up_same, ?_, List.length_set, List.Perm.refl _, fun h => hole_set h hk (Or.inl rfl)⟩
    · unfold k_sort_l20
      rw [if_pos (by decide), hs, o_bind]
    · unfold stCp tT rd at hS ⊢
      rw [up_ne ht0.2.2, up_ne (by decide), up_ne (by decide)]
      exact hS
    · rw [up_same, List.length_append, List.length_map, List.length_set]
      rw [h74, List.length_append, List.length_map] at hl
      exact hl
  | succ k ih =>
    intro n S Q hk hQl hn hki hiN hS hQ h74 hl
    obtain ⟨n, rfl⟩ : ∃ j, n = j + 1 := ⟨n - 1, by omega⟩
    have hk' : k < Q.length := by omega
    have hqk := hQ _ (List.getElem_mem hk')
    have ig : ∀ S2 : SS, S2 74 = S 74 → iget (S2 74) (Int32.ofNat (k + 1) - 1) = some (Int32.ofNat (ip false 1 es Q[k])) := by
      intro S2 h2
      rw [show (1 : Int32) = Int32.ofNat 1 from rfl, i_subN (by omega) (by omega), Nat.add_sub_cancel, h2, iget_in (by omega) (by omega)]
      congr 1
      have : (S 74)[k]'(by omega) = (Q.map (fun j => Int32.ofNat (ip false 1 es j)) ++ post)[k]'(by rw [List.length_append, List.length_map]; omega) := List.getElem_of_eq h74 _
      rw [this, List.getElem_append_left (by rw [List.length_map]; exact hk'), List.getElem_map]
    obtain ⟨v1, d1⟩ := hat Q[k] (by omega)
    obtain ⟨v2, d2⟩ := hat x (by omega)
    have lt1 := v1.lt
    have lt2 := v2.lt
    have hvl := v1.1
    obtain ⟨S1, e, o1, o2, o3⟩ := ocmp_val 61 100 (by decide) S t0 t0 (ip false 1 es Q[k]) (ip false 1 es x) 0 0 vs vs _ _ ⟨ht0.2.1, ht0.1⟩ ⟨ht0.2.1, ht0.1⟩ hS v1 v2 (by omega) (by omega) (by omega)
    have hS1 := hS.fr ⟨ht0.2.1, ht0.1⟩ ⟨ht0.2.1, ht0.1⟩ o3
    have e74 : S1 74 = S 74 := o3.1 74 (by decide) (by decide)
    rw [cmpK_key v1.2.2.1 v2.2.2.1] at o2
    have eg : ∀ j (h : j < es.length), (es.getD j nulM).2 = (es[j]).2 := fun j h => by rw [getD_in _ h]
    have o1' : o_cmp 100 S t0 (Int32.ofNat (ip false 1 es Q[k])) t0 (Int32.ofNat (ip false 1 es x)) 0 = some (S1, e) := o1
    have nl : ¬ Int32.ofNat (k + 1) ≤ 0 := by rw [show (0 : Int32) = Int32.ofNat 0 from rfl, i_le' (by omega) (by omega)]; omega
    by_cases hc : e ≤ 0
    · have hs : iset (S1 74) (Int32.ofNat (k + 1)) (Int32.ofNat (ip false 1 es x)) = some ((Q.set (k + 1) x).map (fun j => Int32.ofNat (ip false 1 es j)) ++ post) := by
        rw [e74, h74, i_set (by rw [List.length_append, List.length_map]; omega) (by omega), List.set_append_left _ _ (by rw [List.length_map]; exact hk), List.map_set]
      refine ⟨up S1 74 ((Q.set (k + 1) x).map (fun j => Int32.ofNat (ip false 1 es j)) ++ post), Q.set (k + 1) x, ?_, fun a a1 a2 a3 => by rw [up_ne a3, o3.1 a a1 a2], ?_, up_same, ?_, List.length_set, List.Perm.refl _, fun h => hole_set h hk (Or.inr ⟨by omega, ?_⟩)⟩
      · unfold k_sort_l20
        rw [if_neg nl, ig S rfl, o_bind, o1', o_bind, if_pos hc, hs, o_bind]
      · unfold stCp tT rd at hS1 ⊢
        rw [up_ne ht0.2.2, up_ne (by decide), up_ne (by decide)]
        exact hS1
      · rw [up_same, List.length_append, List.length_map, List.length_set]
        rw [h74, List.length_append, List.length_map] at hl
        exact hl
      · rw [o2, cmpS_le] at hc
        simp only [Nat.add_sub_cancel]
        rw [eg x (by omega), eg Q[k] (by omega)]
        exact hc
    · have hs : iset (S1 74) (Int32.ofNat (k + 1)) (Int32.ofNat (ip false 1 es Q[k])) = some ((Q.set (k + 1) Q[k]).map (fun j => Int32.ofNat (ip false 1 es j)) ++ post) := by
        rw [e74, h74, i_set (by rw [List.length_append, List.length_map]; omega) (by omega), List.set_append_left _ _ (by rw [List.length_map]; exact hk), List.map_set]
      have e2 : Int32.ofNat (k + 1) + (-1) = Int32.ofNat k := by
        apply Int32.toInt_inj.mp
        have a1 : (Int32.ofNat (k + 1)).toInt = ((k + 1 : Nat) : Int) := i_of (by omega)
        have a2 : (-1 : Int32).toInt = -1 := rfl
        rw [i_add (by rw [a1, a2]; omega) (by rw [a1, a2]; omega), a1, a2, i_of (by omega)]
        omega
      obtain ⟨S', Q', j1, j2, j3, j4, j5, j6, j7, j8⟩ := ih n (up S1 74 ((Q.set (k + 1) Q[k]).map (fun j => Int32.ofNat (ip false 1 es j)) ++ post)) (Q.set (k + 1) Q[k]) (by rw [List.length_set]; omega) (by rw [List.length_set]; exact hQl) (by omega) (by omega) hiN (by
        unfold stCp tT rd at hS1 ⊢
        rw [up_ne ht0.2.2, up_ne (by decide), up_ne (by decide)]
        exact hS1) (fun j hj => by
          rcases List.mem_or_eq_of_mem_set hj with c | c
          · exact hQ j c
          · rw [c]; exact hqk) up_same (by
        rw [up_same, List.length_append, List.length_map, List.length_set]
        rw [h74, List.length_append, List.length_map] at hl
        exact hl)
      refine ⟨S', Q', ?_, fun a a1 a2 a3 => by rw [j2 a a1 a2 a3, up_ne a3, o3.1 a a1 a2], j3, j4, j5, by rw [j6, List.length_set], ?_, fun h => j8 ?_⟩
      · unfold k_sort_l20
        rw [if_neg nl, ig S rfl, o_bind, o1', o_bind, if_neg hc, ig S1 e74, o_bind, hs, o_bind, e2]
        exact j1
      · exact j7.trans (mv_perm hk hk' (by omega))
      · have hlt : ltS (key 61 (es.getD x nulM).2) (key 61 (es.getD Q[k] nulM).2) := by
          rw [eg x (by omega), eg Q[k] (by omega)]
          apply Classical.byContradiction
          intro c
          exact hc (by rw [o2]; exact (cmpS_le _ _).mpr c)
        have := hole_mv h hk (by omega) (by omega) hlt
        exact this
theorem ks2 {t0 N : Nat} {vs post : List Int32} {es : List Mb} (ht0 : t0 ≠ 47 ∧ t0 ≠ 48 ∧ t0 ≠ 74) (hN : N ≤ 100) (hat : ∀ j (h : j < es.length), vat vs (ip false 1 es j) (es[j]).2 ∧ dV (es[j]).2 ≤ 59) (hNe : N ≤ es.length) : ∀ (m i n : Nat) (S : SS) (Q : List Nat), (i + m = N ∨ (m = 0 ∧ N ≤ i)) → i ≤ 1000 → Q.length = N → m < n → stCp S t0 t0 vs vs 0 → rd S 72 4 = Int32.ofNat N → (∀ j ∈ Q, j < N) → S 74 = Q.map (fun j => Int32.ofNat (ip false 1 es j)) ++ post → (S 74).length = 100 → srtN (fun j => key 61 (es.getD j nulM).2) Q i → ∃ S' Q', k_sort_l2 t0 n S (Int32.ofNat i) = some S' ∧ (∀ a, a ≠ 47 → a ≠ 48 → a ≠ 74 → S' a = S a) ∧ stCp S' t0 t0 vs vs 0 ∧ S' 74 = Q'.map (fun j => Int32.ofNat (ip false 1 es j)) ++ post ∧ (S' 74).length = 100 ∧ Q'.Perm Q ∧ srtN (fun j => key 61 (es.getD j nulM).2) Q' N := by
  intro m
  have im : ∀ S : SS, rd S 72 4 = Int32.ofNat N → imin (rd S 72 4) 100 = Int32.ofNat N := by
    intro S h
    unfold imin
    rw [h, show (100 : Int32) = Int32.ofNat 100 from rfl, if_neg (by rw [i_lt' (by omega) (by omega)]; omega)]
  induction m with
  | zero =>
    intro i n S Q hi hi2 hQl hn hS hr hQ h74 hl hs
    obtain ⟨n, rfl⟩ : ∃ j, n = j + 1 := ⟨n - 1, by omega⟩
    refine ⟨S, Q, ?_, fun _ _ _ _ => rfl, hS, h74, hl, List.Perm.refl _, fun a b ha hb hab hbm => hs a b ha hb hab (by omega)⟩
    unfold k_sort_l2 k_paths
    rw [o_bind, im S hr, if_pos ((i_le' (by omega) (by omega)).mpr (by omega))]
  | succ m ih =>
    intro i n S Q hi hi2 hQl hn hS hr hQ h74 hl hs
    obtain ⟨n, rfl⟩ : ∃ j, n = j + 1 := ⟨n - 1, by omega⟩
    have hiN : i < N := by omega
    have hiQ : i < Q.length := by omega
    have ig : iget (S 74) (Int32.ofNat i) = some (Int32.ofNat (ip false 1 es Q[i])) := by
      rw [iget_in (by omega) (by omega)]
      congr 1
      have : (S 74)[i]'(by omega) = (Q.map (fun j => Int32.ofNat (ip false 1 es j)) ++ post)[i]'(by rw [List.length_append, List.length_map]; omega) := List.getElem_of_eq h74 _
      rw [this, List.getElem_append_left (by rw [List.length_map]; exact hiQ), List.getElem_map]
    obtain ⟨S1, Q1, e1, e2, e3, e4, e5, e6, e7, e8⟩ := ks20 (k2 := k_sort_l2 t0 n) (i := i) ht0 hN hat hNe (hQ _ (List.getElem_mem hiQ)) i 10000 S Q hiQ hQl (by omega) (Nat.le_refl _) hiN hS hQ h74 hl
    rw [List.set_getElem_self] at e7
    obtain ⟨S', Q', j1, j2, j3, j4, j5, j6, j7⟩ := ih (i + 1) n S1 Q1 (by omega) (by omega) (by omega) (by omega) e3 (by unfold rd at hr ⊢; rw [e2 72 (by decide) (by decide) (by decide)]; exact hr) (fun j hj => hQ j (e7.mem_iff.mp hj)) e4 e5 (e8 (hole_in hiQ hs))
    refine ⟨S', Q', ?_, fun a a1 a2 a3 => (j2 a a1 a2 a3).trans (e2 a a1 a2 a3), j3, j4, j5, j6.trans e7, j7⟩
    unfold k_sort_l2 k_paths
    rw [o_bind, im S hr, if_neg (by rw [i_le' (by omega) (by omega)]; omega), ig, o_bind, e1, i_a1]
    exact j1
end Look171
