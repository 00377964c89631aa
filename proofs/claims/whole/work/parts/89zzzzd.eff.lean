/-! Paths that are the same cut the same. -/
section Eff170
theorem arrK_0 {R : Vl → Vl → Int32} : ∀ {l l' : List Mb}, arrK R l l' = 0 → l.length = l'.length ∧ ∀ (k : Nat) (h : k < l.length) (h' : k < l'.length), R (l[k]).2 (l'[k]).2 = 0 := by
  intro l
  induction l with
  | nil =>
    intro l' h
    cases l' with
    | nil => exact ⟨rfl, fun k h => absurd h (by simp)⟩
    | cons m l' => exact absurd h (show ¬ (-1 : Int32) = 0 by decide)
  | cons m l ih =>
    intro l' h
    cases l' with
    | nil => exact absurd h (show ¬ (1 : Int32) = 0 by decide)
    | cons m' l' =>
      have h : (if R m.2 m'.2 = 0 then arrK R l l' else R m.2 m'.2) = 0 := h
      by_cases c : R m.2 m'.2 = 0
      · rw [if_pos c] at h
        obtain ⟨h1, h2⟩ := ih h
        refine ⟨by simp only [List.length_cons]; omega, fun k hk hk' => ?_⟩
        cases k with
        | zero => exact c
        | succ k => exact h2 k (by simpa using hk) (by simpa using hk')
      · rw [if_neg c] at h
        exact absurd h c
/-- as steps of a path they do the same -/
def eqS (a b : Vl) : Prop := a.1 = b.1 ∧ (a.1 = 3 → a.2.1 = b.2.1) ∧ (a.1 = 4 → a.2.2.1 = b.2.2.1) ∧ (a.1 = 6 → (okBd a ↔ okBd b) ∧ ∀ x y, okBd a → nwA a x y = nwA b x y ∧ nwB a x y = nwB b x y)
theorem cmpK_kind {n : Nat} {a b : Vl} (h : cmpK (n + 1) a b = 0) : a.1 = b.1 := by
  apply Classical.byContradiction
  intro c
  have h : (if a.1 = b.1 then _ else if b.1 ≤ a.1 then (1 : Int32) else -1) = 0 := h
  rw [if_neg c] at h
  by_cases g : b.1 ≤ a.1
  · rw [if_pos g] at h; exact absurd h (by decide)
  · rw [if_neg g] at h; exact absurd h (by decide)
theorem cmpK_num {n : Nat} {a b : Vl} (ha : wV a) (hb : wV b) (h : cmpK (n + 1) a b = 0) (h3 : a.1 = 3) : a.2.1 = b.2.1 := by
  have hk := cmpK_kind h
  have h : (if a.1 = b.1 then (if a.1 = 3 then l_cmp (Int64.ofInt a.2.1) (Int64.ofInt b.2.1) else _) else _) = 0 := h
  rw [if_pos hk, if_pos h3] at h
  exact (l_cmp0 (ha.2.1 h3) (hb.2.1 (by rw [← hk]; exact h3))).mp h
theorem byN_same {n : Nat} {a b : Vl} (ha : wV a) (hb : wV b) (h : cmpK (n + 2) a b = 0) (h6 : a.1 = 6) (s : List Int32) : (byN a s = none ∧ byN b s = none) ∨ ∃ x y, byN a s = some x ∧ byN b s = some y ∧ wV x ∧ wV y ∧ cmpK (n + 1) x y = 0 := by
  have hk := cmpK_kind h
  obtain ⟨ka, va, sa, fa⟩ := a
  obtain ⟨kb, vb, sb, fb⟩ := b
  obtain ⟨l, rfl⟩ : ∃ l, fa = ofL l := ⟨toL fa, (ofL_toL fa).symm⟩
  obtain ⟨l', rfl⟩ : ∃ l, fb = ofL l := ⟨toL fb, (ofL_toL fb).symm⟩
  have h6 : ka = 6 := h6
  subst h6
  have hk : 6 = kb := hk
  subst hk
  have es : cmpK (n + 2) (6, va, sa, ofL l) (6, vb, sb, ofL l') = (if namK (nms (srt l)) (nms (srt l')) = 0 then arrK (cmpK (n + 1)) (srt l) (srt l') else namK (nms (srt l)) (nms (srt l'))) := by
    show (if (6 : Nat) = 6 then (if (6 : Nat) = 3 then _ else if (6 : Nat) = 4 then _ else if (6 : Nat) = 5 then _ else if (6 : Nat) = 6 then _ else _) else _) = _
    rw [if_pos rfl, if_neg (by decide), if_neg (by decide), if_neg (by decide), if_pos rfl]
    simp only [toL_ofL]
  rw [es] at h
  have hn : namK (nms (srt l)) (nms (srt l')) = 0 := by
    apply Classical.byContradiction
    intro c
    rw [if_neg c] at h
    exact c h
  rw [if_pos hn] at h
  have hnm := namK_0 hn
  obtain ⟨hlen, hval⟩ := arrK_0 h
  have bn : ∀ (v : Int) (s0 : List Int32) (l : List Mb), nod l → ∀ m ∈ l, m.1 = s → byN (6, v, s0, ofL l) s = some m.2 := by
    intro v s0 l hnd m hm hms
    have hj : l.findIdx (fun m => m.1 == s) < l.length := List.findIdx_lt_length_of_exists ⟨m, hm, by rw [hms]; exact beq_self_eq_true _⟩
    unfold byN
    simp only [toL_ofL]
    rw [dif_pos hj]
    congr 2
    refine hnd.eq (List.getElem_mem hj) hm ?_
    rw [hms]
    exact eq_of_beq (List.findIdx_getElem (w := hj))
  have nn : ∀ (v : Int) (s0 : List Int32) (l : List Mb), (∀ m ∈ l, m.1 ≠ s) → byN (6, v, s0, ofL l) s = none := by
    intro v s0 l hno
    have hj : ¬ l.findIdx (fun m => m.1 == s) < l.length := fun c => hno _ (List.getElem_mem c) (eq_of_beq (List.findIdx_getElem (w := c)))
    unfold byN
    simp only [toL_ofL]
    rw [dif_neg hj]
  have en : ∀ (k : Nat) (h : k < (srt l).length) (h' : k < (srt l').length), ((srt l)[k]).1 = ((srt l')[k]).1 := by
    intro k h h'
    have e1 : (nms (srt l))[k]'(by unfold nms; rw [List.length_map]; exact h) = (nms (srt l'))[k]'(by unfold nms; rw [List.length_map]; exact h') := List.getElem_of_eq hnm _
    unfold nms at e1
    rw [List.getElem_map, List.getElem_map] at e1
    exact e1
  by_cases hex : ∃ m ∈ l, m.1 = s
  · obtain ⟨m, hm, hms⟩ := hex
    right
    obtain ⟨k, hk, ek⟩ := List.getElem_of_mem ((srt_perm l).mem_iff.mpr hm)
    have hk' : k < (srt l').length := by omega
    have hm' : (srt l')[k] ∈ l' := (srt_perm l').mem_iff.mp (List.getElem_mem hk')
    refine ⟨m.2, ((srt l')[k]).2, bn va sa l ha.nod m hm hms, bn vb sb l' hb.nod _ hm' (by rw [← en k hk hk', ek]; exact hms), (ha.kids m hm).2, (hb.kids _ hm').2, ?_⟩
    have := hval k hk hk'
    rw [ek] at this
    exact this
  · left
    refine ⟨nn va sa l (fun m hm c => hex ⟨m, hm, c⟩), nn vb sb l' (fun m' hm' c => ?_)⟩
    obtain ⟨k, hk, ek⟩ := List.getElem_of_mem ((srt_perm l').mem_iff.mpr hm')
    have hk' : k < (srt l).length := by omega
    exact hex ⟨(srt l)[k], (srt_perm l).mem_iff.mp (List.getElem_mem hk'), by rw [en k hk' hk, ek]; exact c⟩
theorem eqS_of {n : Nat} {a b : Vl} (ha : wV a) (hb : wV b) (h : cmpK (n + 2) a b = 0) : eqS a b := by
  have hk := cmpK_kind h
  refine ⟨hk, cmpK_num ha hb h, fun h4 => ?_, fun h6 => ?_⟩
  · have h : (if a.1 = b.1 then (if a.1 = 3 then _ else if a.1 = 4 then cmpS a.2.2.1 b.2.2.1 else _) else _) = 0 := h
    rw [if_pos hk, if_neg (by omega), if_pos h4] at h
    exact (cmpS_0 _ _).mp h
  · have key : ∀ s, (okD (byN a s) ↔ okD (byN b s)) ∧ ∀ n d, okD (byN a s) → lim (byN a s) n d = lim (byN b s) n d := by
      intro s
      rcases byN_same ha hb h h6 s with ⟨e1, e2⟩ | ⟨x, y, e1, e2, wx, wy, hc⟩
      · rw [e1, e2]
        exact ⟨Iff.rfl, fun _ _ _ => rfl⟩
      · have kx := cmpK_kind hc
        rw [e1, e2]
        refine ⟨⟨fun h v hv => ?_, fun h v hv => ?_⟩, fun n d hok => ?_⟩
        · cases hv
          rw [← kx]
          exact h x rfl
        · cases hv
          rw [kx]
          exact h y rfl
        · rcases hok x rfl with c | c
          · rw [lim_0 n d c, lim_0 n d (by rw [← kx]; exact c)]
          · rw [lim_3 n d c, lim_3 n d (by rw [← kx]; exact c), cmpK_num wx wy hc c]
    obtain ⟨k1, l1⟩ := key stS
    obtain ⟨k2, l2⟩ := key enS
    refine ⟨⟨fun g => ⟨k1.mp g.1, k2.mp g.2⟩, fun g => ⟨k1.mpr g.1, k2.mpr g.2⟩⟩, fun x y g => ?_⟩
    unfold nwA nwB
    rw [l1 _ _ g.1, l2 _ _ g.2]
    exact ⟨rfl, rfl⟩
theorem cutV_same : ∀ (ls ls' : List Vl) (t : Vl) (w : Option (Nat × Nat)), ls.length = ls'.length → (∀ (k : Nat) (h : k < ls.length) (h' : k < ls'.length), eqS ls[k] ls'[k]) → cutV ls t w = cutV ls' t w := by
  intro ls
  induction ls with
  | nil =>
    intro ls' t w hl _
    cases ls' with
    | nil => rfl
    | cons a b => simp at hl
  | cons pi ps ih =>
    intro ls' t w hl he
    cases ls' with
    | nil => simp at hl
    | cons pi' ps' =>
      have hl' : ps.length = ps'.length := by simpa using hl
      have he' : ∀ (k : Nat) (h : k < ps.length) (h' : k < ps'.length), eqS ps[k] ps'[k] := fun k h h' => he (k + 1) (by simpa using h) (by simpa using h')
      obtain ⟨e1, e2, e3, e4⟩ : eqS pi pi' := he 0 (by simp) (by simp)
      have hemp : ps.isEmpty = ps'.isEmpty := by
        cases ps with
        | nil => cases ps' with
          | nil => rfl
          | cons a b => simp at hl'
        | cons a b => cases ps' with
          | nil => simp at hl'
          | cons c d => rfl
      by_cases t0 : t.1 = 0
      · rw [cutV_null t0, cutV_null t0]
      unfold cutV
      rw [if_neg t0, if_neg t0, ← e1, ← hemp]
      by_cases k3 : pi.1 = 3
      · rw [if_pos k3, if_pos k3, ← e2 k3, ih ps' _ _ hl' he']
      rw [if_neg k3, if_neg k3]
      by_cases k4 : pi.1 = 4
      · rw [if_pos k4, if_pos k4, ← e3 k4, ih ps' _ _ hl' he']
      rw [if_neg k4, if_neg k4]
      by_cases k6 : pi.1 = 6
      · rw [if_pos k6, if_pos k6]
        obtain ⟨g1, g2⟩ := e4 k6
        by_cases ok : okBd pi
        · rw [if_pos (@decide_eq_true _ (Classical.propDecidable _) ok), if_pos (@decide_eq_true _ (Classical.propDecidable _) (g1.mp ok)), (g2 _ _ ok).1, (g2 _ _ ok).2, ih ps' _ _ hl' he']
        · rw [if_neg (fun g => ok (@of_decide_eq_true _ (Classical.propDecidable _) g)), if_neg (fun g => ok (g1.mpr (@of_decide_eq_true _ (Classical.propDecidable _) g)))]
      · rw [if_neg k6, if_neg k6]
/-- paths with the same row cut the same -/
theorem cutP_key {a b : Vl} {n : Nat} (ha : wV a) (hb : wV b) (h5 : a.1 = 5) (hk : key (n + 3) a = key (n + 3) b) (t : Vl) : cutP (toL a.2.2.2) t = cutP (toL b.2.2.2) t := by
  have h : cmpK (n + 3) a b = 0 := by rw [cmpK_key ha hb, hk]; exact (cmpS_0 _ _).mpr rfl
  have hk' := cmpK_kind h
  obtain ⟨ka, va, sa, fa⟩ := a
  obtain ⟨kb, vb, sb, fb⟩ := b
  obtain ⟨l, rfl⟩ : ∃ l, fa = ofL l := ⟨toL fa, (ofL_toL fa).symm⟩
  obtain ⟨l', rfl⟩ : ∃ l, fb = ofL l := ⟨toL fb, (ofL_toL fb).symm⟩
  have h5 : ka = 5 := h5
  subst h5
  have hk' : 5 = kb := hk'
  subst hk'
  have es : cmpK (n + 3) (5, va, sa, ofL l) (5, vb, sb, ofL l') = arrK (cmpK (n + 2)) l l' := by
    show (if (5 : Nat) = 5 then (if (5 : Nat) = 3 then _ else if (5 : Nat) = 4 then _ else if (5 : Nat) = 5 then _ else _) else _) = _
    rw [if_pos rfl, if_neg (by decide), if_neg (by decide), if_pos rfl]
    simp only [toL_ofL]
  rw [es] at h
  obtain ⟨hlen, hval⟩ := arrK_0 h
  show cutP (toL (ofL l)) t = cutP (toL (ofL l')) t
  rw [toL_ofL, toL_ofL]
  unfold cutP
  by_cases hn : l = []
  · have hn' : l' = [] := by
      apply List.eq_nil_of_length_eq_zero
      rw [← hlen, hn]
      rfl
    rw [if_pos hn, if_pos hn']
  · have hn' : ¬ l' = [] := fun c => hn (List.eq_nil_of_length_eq_zero (by rw [hlen, c]; rfl))
    rw [if_neg hn, if_neg hn']
    refine cutV_same _ _ _ _ (by rw [List.length_map, List.length_map]; exact hlen) (fun k h1 h2 => ?_)
    rw [List.getElem_map, List.getElem_map]
    rw [List.length_map] at h1 h2
    exact eqS_of (ha.kids _ (List.getElem_mem h1)).2 (hb.kids _ (List.getElem_mem h2)).2 (hval k h1 h2)
/-- path after path -/
noncomputable def cutL : List (List Mb) → Vl → Option Vl
  | [], t => some t
  | lp :: ls, t => (cutP lp t).bind fun u => cutL ls u
theorem cutL_app : ∀ (A B : List (List Mb)) (t : Vl), cutL (A ++ B) t = (cutL A t).bind fun u => cutL B u := by
  intro A
  induction A with
  | nil => intro B t; rfl
  | cons lp A ih =>
    intro B t
    show (cutP lp t).bind (fun u => cutL (A ++ B) u) = ((cutP lp t).bind fun u => cutL A u).bind _
    cases cutP lp t with
    | none => rfl
    | some u => exact ih B u
theorem cutL_same {n : Nat} : ∀ (A B : List Vl) (t : Vl), (∀ a ∈ A, wV a ∧ a.1 = 5) → (∀ b ∈ B, wV b) → A.map (key (n + 3)) = B.map (key (n + 3)) → cutL (A.map fun a => toL a.2.2.2) t = cutL (B.map fun a => toL a.2.2.2) t := by
  intro A
  induction A with
  | nil =>
    intro B t _ _ h
    cases B with
    | nil => rfl
    | cons b B => cases h
  | cons a A ih =>
    intro B t hA hB h
    cases B with
    | nil => cases h
    | cons b B =>
      rw [List.map_cons, List.map_cons, List.cons.injEq] at h
      rw [List.map_cons, List.map_cons]
      show (cutP (toL a.2.2.2) t).bind (fun u => cutL (A.map fun a => toL a.2.2.2) u) = (cutP (toL b.2.2.2) t).bind (fun u => cutL (B.map fun a => toL a.2.2.2) u)
      rw [cutP_key (hA a List.mem_cons_self).1 (hB b List.mem_cons_self) (hA a List.mem_cons_self).2 h.1]
      congr 1
      funext u
      exact ih B u (fun x hx => hA x (List.mem_cons_of_mem _ hx)) (fun x hx => hB x (List.mem_cons_of_mem _ hx)) h.2
end Eff170
