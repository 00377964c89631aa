/-! A value within a text, and what is put in its place. -/
section Ctx155
def jpre (b : Bool) (l : List Mb) : List Int32 := l.flatMap fun m => bM b m ++ [44]
def jpost (b : Bool) (l : List Mb) : List Int32 := l.flatMap fun m => 44 :: bM b m
theorem jn_post (b : Bool) : ∀ (l : List Mb) (m : Mb), jn ((m :: l).map (bM b)) = bM b m ++ jpost b l := by
  intro l
  induction l with
  | nil => intro m; rw [jn_cons, if_pos rfl]; rfl
  | cons m' l ih =>
    intro m
    rw [jn_cons, if_neg (by simp), ih m']
    rfl
theorem jn_pre (b : Bool) {B : List Mb} (hB : B ≠ []) : ∀ (A : List Mb), jn ((A ++ B).map (bM b)) = jpre b A ++ jn (B.map (bM b)) := by
  intro A
  induction A with
  | nil => rfl
  | cons m A ih =>
    rw [List.cons_append, jn_cons, if_neg (by simp [hB]), ih]
    unfold jpre
    rw [List.flatMap_cons]
    simp
theorem jn_mid (b : Bool) (A B : List Mb) (m : Mb) : jn ((A ++ m :: B).map (bM b)) = jpre b A ++ (bM b m ++ jpost b B) := by
  rw [jn_pre b (by simp), jn_post]
theorem jpre_app (b : Bool) (A B : List Mb) : jpre b (A ++ B) = jpre b A ++ jpre b B := by
  unfold jpre; rw [List.flatMap_append]
theorem jpost_jn (b : Bool) {l : List Mb} (h : l ≠ []) : jpost b l = 44 :: jn (l.map (bM b)) := by
  cases l with
  | nil => exact absurd rfl h
  | cons m l => rw [jn_post]; rfl
theorem jpre_jn (b : Bool) {l : List Mb} (h : l ≠ []) : jpre b l = jn (l.map (bM b)) ++ [44] := by
  induction l with
  | nil => exact absurd rfl h
  | cons m l ih =>
    rw [jn_cons]
    by_cases hn : l = []
    · subst hn
      rw [if_pos rfl]
      simp [jpre]
    · rw [if_neg hn]
      have := ih hn
      unfold jpre at this ⊢
      rw [List.flatMap_cons, this]
      simp
theorem ip_pre (b : Bool) (q : Nat) (l : List Mb) (j : Nat) : ip b q l j = q + (jpre b (l.take j)).length := by
  unfold ip jpre
  rw [List.length_flatMap]
  simp
theorem bV_5 (v : Int) (s : List Int32) (l : List Mb) : bV (5, v, s, ofL l) = 91 :: (jn (l.map (bM false)) ++ [93]) := by
  unfold bV bval
  simp only
  rw [bF_ofL]
  rfl
theorem bV_6 (v : Int) (s : List Int32) (l : List Mb) : bV (6, v, s, ofL l) = 123 :: (jn (l.map (bM true)) ++ [125]) := by
  unfold bV bval
  simp only
  rw [bF_ofL]
  rfl
theorem wV_5 {v : Int} {s : List Int32} {l : List Mb} (hs : okS s) (hl : okL l) : wV (5, v, s, ofL l) :=
  ⟨show (5 : Nat) ≤ 6 by decide, fun e => absurd e (show ¬ (5 : Nat) = 3 by decide), hs, fun e => absurd (Or.inl rfl) e, fun e => absurd e (show ¬ (5 : Nat) = 6 by decide), (wF_iff _).mpr (by rw [toL_ofL]; exact hl)⟩
theorem wV_6 {v : Int} {s : List Int32} {l : List Mb} (hs : okS s) (hl : okL l) (hn : nod l) : wV (6, v, s, ofL l) :=
  ⟨show (6 : Nat) ≤ 6 by decide, fun e => absurd e (show ¬ (6 : Nat) = 3 by decide), hs, fun e => absurd (Or.inr rfl) e, fun _ => by show ((toL (ofL l)).map fun m => m.1).Nodup; rw [toL_ofL]; exact hn, (wF_iff _).mpr (by rw [toL_ofL]; exact hl)⟩
theorem wV.nod {v : Int} {s : List Int32} {l : List Mb} (h : wV (6, v, s, ofL l)) : nod l := by
  have := h.2.2.2.2.1 rfl
  rw [toL_ofL] at this
  exact this
/-- what is written before and behind a value -/
def wctx (B R : List Int32) (K : Vl → Vl) : Prop := (∀ u, wV u → wV (K u)) ∧ ∀ u, bV (K u) = B ++ (bV u ++ R)
/-- the value t at the place p of the text -/
def ctx (us : List Int32) (p : Nat) (t : Vl) (K : Vl → Vl) : Prop := wctx (us.take p) (us.drop (p + (bV t).length)) K
theorem ctx_root (t : Vl) : ctx (bV t) 0 t (fun u => u) := ⟨fun _ h => h, fun u => by simp⟩
theorem ctx.sub {us r X Z : List Int32} {p : Nat} {t t' : Vl} {K F : Vl → Vl} (h : ctx us p t K) (hd : us.drop p = bV t ++ r) (ht : bV t = X ++ (bV t' ++ Z)) (hw : ∀ u, wV u → wV (F u)) (hF : ∀ u, bV (F u) = X ++ (bV u ++ Z)) : ctx us (p + X.length) t' (fun u => K (F u)) := by
  refine ⟨fun u hu => h.1 _ (hw u hu), fun u => ?_⟩
  have e1 : us.take (p + X.length) = us.take p ++ X := by
    rw [List.take_add, hd, ht, List.append_assoc, List.take_left]
  have e2 : us.drop (p + X.length + (bV t').length) = Z ++ r := by
    rw [Nat.add_assoc, ← List.drop_drop, hd, ht, List.append_assoc, List.append_assoc, ← List.append_assoc, ← List.length_append, List.drop_left]
  have e3 : us.drop (p + (bV t).length) = r := by rw [← List.drop_drop, hd, List.drop_left]
  rw [h.2, hF, e1, e2, e3]
  simp
theorem ctx.ins {us r X Z I J : List Int32} {p : Nat} {t : Vl} {K F : Vl → Vl} (h : ctx us p t K) (hd : us.drop p = bV t ++ r) (ht : bV t = X ++ Z) (hw : ∀ u, wV u → wV (F u)) (hF : ∀ u, bV (F u) = X ++ (I ++ (bV u ++ (J ++ Z)))) : wctx (us.take (p + X.length) ++ I) (J ++ us.drop (p + X.length)) (fun u => K (F u)) := by
  refine ⟨fun u hu => h.1 _ (hw u hu), fun u => ?_⟩
  have e1 : us.take (p + X.length) = us.take p ++ X := by
    rw [List.take_add, hd, ht, List.append_assoc, List.take_left]
  have e2 : us.drop (p + X.length) = Z ++ r := by
    rw [← List.drop_drop, hd, ht, List.append_assoc, List.drop_left]
  have e3 : us.drop (p + (bV t).length) = r := by rw [← List.drop_drop, hd, List.drop_left]
  rw [h.2, hF, e1, e2, e3]
  simp
/-- an element -/
theorem ctx.elem {us : List Int32} {q j : Nat} {v : Int} {s : List Int32} {l : List Mb} {K : Vl → Vl} (h : ctx us q (5, v, s, ofL l) K) (hv : vat us q (5, v, s, ofL l)) (hj : j < l.length) : ctx us (ip false (q + 1) l j) (l[j]).2 (fun u => K (5, v, s, ofL (l.set j ((l[j]).1, u)))) := by
  obtain ⟨h1, h2, h3, r, h4, h5⟩ := hv
  have el : l = l.take j ++ l[j] :: l.drop (j + 1) := by rw [← List.drop_eq_getElem_cons hj, List.take_append_drop]
  have es : ∀ u, l.set j ((l[j]).1, u) = l.take j ++ ((l[j]).1, u) :: l.drop (j + 1) := fun u => by rw [List.set_eq_take_append_cons_drop, if_pos hj]
  have e := ctx.sub (X := 91 :: jpre false (l.take j)) (Z := jpost false (l.drop (j + 1)) ++ [93]) (t' := (l[j]).2) (F := fun u => (5, v, s, ofL (l.set j ((l[j]).1, u)))) h h4 ?_ (fun u hu => wV_5 h3.2.2.1 ?_) (fun u => ?_)
  · rw [ip_pre, show q + 1 + (jpre false (l.take j)).length = q + (91 :: jpre false (l.take j)).length by simp only [List.length_cons]; omega]
    exact e
  · rw [bV_5]
    conv => lhs; rw [el]
    rw [jn_mid]
    simp [bM]
  · intro m hm
    rcases List.mem_or_eq_of_mem_set hm with c | c
    · exact h3.kids m c
    · rw [c]; exact ⟨(h3.kids _ (List.getElem_mem hj)).1, hu⟩
  · rw [bV_5, es, jn_mid]
    simp [bM]
/-- the value of a name -/
theorem ctx.memb {us : List Int32} {q j : Nat} {v : Int} {s : List Int32} {l : List Mb} {K : Vl → Vl} (h : ctx us q (6, v, s, ofL l) K) (hv : vat us q (6, v, s, ofL l)) (hj : j < l.length) : ctx us (ip true (q + 1) l j + (pstr (l[j]).1).length + 1) (l[j]).2 (fun u => K (6, v, s, ofL (l.set j ((l[j]).1, u)))) := by
  obtain ⟨h1, h2, h3, r, h4, h5⟩ := hv
  have el : l = l.take j ++ l[j] :: l.drop (j + 1) := by rw [← List.drop_eq_getElem_cons hj, List.take_append_drop]
  have es : ∀ u, l.set j ((l[j]).1, u) = l.take j ++ ((l[j]).1, u) :: l.drop (j + 1) := fun u => by rw [List.set_eq_take_append_cons_drop, if_pos hj]
  have e := ctx.sub (X := 123 :: (jpre true (l.take j) ++ (pstr (l[j]).1 ++ [58]))) (Z := jpost true (l.drop (j + 1)) ++ [125]) (t' := (l[j]).2) (F := fun u => (6, v, s, ofL (l.set j ((l[j]).1, u)))) h h4 ?_ (fun u hu => wV_6 h3.2.2.1 ?_ ?_) (fun u => ?_)
  · rw [ip_pre, show q + 1 + (jpre true (l.take j)).length + (pstr (l[j]).1).length + 1 = q + (123 :: (jpre true (l.take j) ++ (pstr (l[j]).1 ++ [58]))).length by simp only [List.length_cons, List.length_append, List.length_nil]; omega]
    exact e
  · rw [bV_6]
    conv => lhs; rw [el]
    rw [jn_mid]
    simp [bM]
  · intro m hm
    rcases List.mem_or_eq_of_mem_set hm with c | c
    · exact h3.kids m c
    · rw [c]; exact ⟨(h3.kids _ (List.getElem_mem hj)).1, hu⟩
  · have := h3.nod
    unfold nod at this ⊢
    have e2 : (l.map fun m => m.1).set j (l[j]).1 = l.map fun m => m.1 := by
      have := List.set_getElem_self (as := l.map fun m => m.1) (i := j) (by rw [List.length_map]; exact hj)
      rw [List.getElem_map] at this
      exact this
    rw [List.map_set]
    show ((l.map fun m => m.1).set j (l[j]).1).Nodup
    rw [e2]
    exact this
  · rw [bV_6, es, jn_mid]
    simp [bM]
theorem bM_null (m : Mb) (h : m.2 = vNull) : bM false m = [110, 117, 108, 108] := by
  unfold bM
  rw [h]
  rfl
def nulM : Mb := ([], vNull)
def nulB (k : Nat) : List Int32 := jpre false (List.replicate k nulM)
theorem nulB_s (k : Nat) : nulB (k + 1) = [110, 117, 108, 108, 44] ++ nulB k := by
  unfold nulB jpre
  rw [List.replicate_succ, List.flatMap_cons, bM_null nulM rfl]
  rfl
theorem nulB_len (k : Nat) : (nulB k).length = 5 * k := by
  induction k with
  | zero => rfl
  | succ k ih => rw [nulB_s, List.length_append, ih]; simp only [List.length_cons, List.length_nil]; omega
theorem okL_nul (k : Nat) : okL (List.replicate k nulM) := fun m hm => by
  rw [List.eq_of_mem_replicate hm]
  exact ⟨(fun c hc => by cases hc), vNull_ok⟩
/-- elements come before the element hi, or behind all -/
theorem ctx.grow {us : List Int32} {q hi k : Nat} {v : Int} {s : List Int32} {l : List Mb} {K : Vl → Vl} (h : ctx us q (5, v, s, ofL l) K) (hv : vat us q (5, v, s, ofL l)) (hh : hi ≤ l.length) : (hi < l.length → wctx (us.take (ip false (q + 1) l hi) ++ nulB k) (44 :: us.drop (ip false (q + 1) l hi)) (fun u => K (5, v, s, ofL (l.take hi ++ (List.replicate k nulM ++ ([], u) :: l.drop hi))))) ∧ (hi = l.length → wctx (us.take (q + (bV (5, v, s, ofL l)).length - 1) ++ ((if l = [] then [] else [44]) ++ nulB k)) (us.drop (q + (bV (5, v, s, ofL l)).length - 1)) (fun u => K (5, v, s, ofL (l.take hi ++ (List.replicate k nulM ++ ([], u) :: l.drop hi))))) := by
  obtain ⟨h1, h2, h3, r, h4, h5⟩ := hv
  have hw : ∀ u, wV u → wV (5, v, s, ofL (l.take hi ++ (List.replicate k nulM ++ ([], u) :: l.drop hi))) := fun u hu => wV_5 h3.2.2.1 fun m hm => by
    rcases List.mem_append.mp hm with c | c
    · exact h3.kids m (List.mem_of_mem_take c)
    · rcases List.mem_append.mp c with c | c
      · exact okL_nul k m c
      · rcases List.mem_cons.mp c with c | c
        · rw [c]; exact ⟨(fun c hc => by cases hc), hu⟩
        · exact h3.kids m (List.mem_of_mem_drop c)
  have eF : ∀ u, bV (5, v, s, ofL (l.take hi ++ (List.replicate k nulM ++ ([], u) :: l.drop hi))) = 91 :: (jpre false (l.take hi) ++ (nulB k ++ (bV u ++ (jpost false (l.drop hi) ++ [93])))) := fun u => by
    rw [bV_5, ← List.append_assoc, jn_mid, jpre_app]
    unfold nulB
    simp [bM]
  refine ⟨fun c => ?_, fun c => ?_⟩
  · have hne : l.drop hi ≠ [] := by rw [Ne, List.drop_eq_nil_iff]; omega
    have e := ctx.ins (X := 91 :: jpre false (l.take hi)) (Z := jn ((l.drop hi).map (bM false)) ++ [93]) (I := nulB k) (J := [44]) (F := fun u => (5, v, s, ofL (l.take hi ++ (List.replicate k nulM ++ ([], u) :: l.drop hi)))) h h4 ?_ hw (fun u => ?_)
    · rw [ip_pre, show q + 1 + (jpre false (l.take hi)).length = q + (91 :: jpre false (l.take hi)).length by simp only [List.length_cons]; omega]
      exact e
    · rw [bV_5]
      conv => lhs; rw [← List.take_append_drop hi l]
      rw [jn_pre false hne]
      simp
    · rw [eF, jpost_jn false hne]
      simp
  · have hd : l.drop hi = [] := List.drop_eq_nil_of_le (by omega)
    have ht : l.take hi = l := List.take_of_length_le (by omega)
    have e := ctx.ins (X := 91 :: jn (l.map (bM false))) (Z := [93]) (I := (if l = [] then [] else [44]) ++ nulB k) (J := []) (F := fun u => (5, v, s, ofL (l.take hi ++ (List.replicate k nulM ++ ([], u) :: l.drop hi)))) h h4 (by rw [bV_5]; rfl) hw (fun u => ?_)
    · rw [show q + (bV (5, v, s, ofL l)).length - 1 = q + (91 :: jn (l.map (bM false))).length by rw [bV_5]; simp only [List.length_cons, List.length_append, List.length_nil]; omega]
      exact e
    · rw [eF, hd, ht]
      by_cases hn : l = []
      · subst hn
        simp [jpre, jpost, jn]
      · rw [jpre_jn false hn, if_neg hn]
        simp [jpost]
/-- a new name, behind all -/
theorem ctx.newName {us : List Int32} {q : Nat} {v : Int} {s nm : List Int32} {l : List Mb} {K : Vl → Vl} (h : ctx us q (6, v, s, ofL l) K) (hv : vat us q (6, v, s, ofL l)) (hn : okS nm) (hnot : ∀ m ∈ l, m.1 ≠ nm) : wctx (us.take (q + (bV (6, v, s, ofL l)).length - 1) ++ ((if l = [] then [] else [44]) ++ (pstr nm ++ [58]))) (us.drop (q + (bV (6, v, s, ofL l)).length - 1)) (fun u => K (6, v, s, ofL (l ++ [(nm, u)]))) := by
  obtain ⟨h1, h2, h3, r, h4, h5⟩ := hv
  have e := ctx.ins (X := 123 :: jn (l.map (bM true))) (Z := [125]) (I := (if l = [] then [] else [44]) ++ (pstr nm ++ [58])) (J := []) (F := fun u => (6, v, s, ofL (l ++ [(nm, u)]))) h h4 (by rw [bV_6]; rfl) (fun u hu => wV_6 h3.2.2.1 ?_ ?_) (fun u => ?_)
  · rw [show q + (bV (6, v, s, ofL l)).length - 1 = q + (123 :: jn (l.map (bM true))).length by rw [bV_6]; simp only [List.length_cons, List.length_append, List.length_nil]; omega]
    exact e
  · intro m hm
    rcases List.mem_append.mp hm with c | c
    · exact h3.kids m c
    · rw [List.mem_singleton.mp c]; exact ⟨hn, hu⟩
  · have := h3.nod
    unfold nod at this ⊢
    rw [List.map_append, List.nodup_append]
    refine ⟨this, by simp, ?_⟩
    intro a ha b hb e
    obtain ⟨m, hm, rfl⟩ := List.mem_map.mp ha
    have : b = nm := by simpa using hb
    exact hnot m hm (e.trans this)
  · rw [bV_6, jn_mid]
    by_cases hn : l = []
    · subst hn
      simp [jpre, jpost, jn, bM]
    · rw [jpre_jn true hn, if_neg hn]
      simp [jpost, bM]
/-- what null becomes -/
theorem wctx.obj {B R nm : List Int32} {K : Vl → Vl} (h : wctx B R K) (hn : okS nm) : wctx (B ++ (123 :: (pstr nm ++ [58]))) (125 :: R) (fun u => K (6, 0, [], ofL [(nm, u)])) := by
  refine ⟨fun u hu => h.1 _ (wV_6 (fun c hc => by cases hc) (fun m hm => by rw [List.mem_singleton.mp hm]; exact ⟨hn, hu⟩) ?_), fun u => ?_⟩
  · unfold nod; simp
  · rw [h.2, bV_6]
    simp [jn, bM]
theorem wctx.arr {B R : List Int32} {K : Vl → Vl} (h : wctx B R K) (k : Nat) : wctx (B ++ (91 :: nulB k)) (93 :: R) (fun u => K (5, 0, [], ofL (List.replicate k nulM ++ [([], u)]))) := by
  refine ⟨fun u hu => h.1 _ (wV_5 (fun c hc => by cases hc) (fun m hm => ?_)), fun u => ?_⟩
  · rcases List.mem_append.mp hm with c | c
    · exact okL_nul k m c
    · rw [List.mem_singleton.mp c]; exact ⟨(fun c hc => by cases hc), hu⟩
  · rw [h.2, bV_5, jn_mid]
    unfold nulB
    simp [jpost, bM]
end Ctx155
