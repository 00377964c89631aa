/-! Values compared: what it means, and that the class does it. -/
section Same150
/-- lists compared, the values of their members one by one -/
def arrK (R : Vl → Vl → Int32) : List Mb → List Mb → Int32
  | [], [] => 0
  | m :: l, m' :: l' => if R m.2 m'.2 = 0 then arrK R l l' else R m.2 m'.2
  | [], _ :: _ => -1
  | _ :: _, [] => 1
def nms (l : List Mb) : List (List Int32) := l.map fun m => m.1
/-- names compared, one by one -/
def namK : List (List Int32) → List (List Int32) → Int32
  | [], [] => 0
  | s :: l, s' :: l' => if cmpS s s' = 0 then namK l l' else cmpS s s'
  | [], _ :: _ => -1
  | _ :: _, [] => 1
/-- values in their ORDER -/
def cmpK : Nat → Vl → Vl → Int32
  | 0, _, _ => 0
  | n + 1, t, u => if t.1 = u.1 then (if t.1 = 3 then l_cmp (Int64.ofInt t.2.1) (Int64.ofInt u.2.1) else if t.1 = 4 then cmpS t.2.2.1 u.2.2.1 else if t.1 = 5 then arrK (cmpK n) (toL t.2.2.2) (toL u.2.2.2) else if t.1 = 6 then (if namK (nms (srt (toL t.2.2.2))) (nms (srt (toL u.2.2.2))) = 0 then arrK (cmpK n) (srt (toL t.2.2.2)) (srt (toL u.2.2.2)) else namK (nms (srt (toL t.2.2.2))) (nms (srt (toL u.2.2.2)))) else 0) else if u.1 ≤ t.1 then 1 else -1
theorem l_cmp0 {v w : Int} (hv : -9007199254740991 ≤ v ∧ v ≤ 9007199254740991) (hw : -9007199254740991 ≤ w ∧ w ≤ 9007199254740991) : l_cmp (Int64.ofInt v) (Int64.ofInt w) = 0 ↔ v = w := by
  have e : lg_cmp (Int64.ofInt v) (Int64.ofInt w) = 0 ↔ v = w := by
    rw [lg_eq]
    refine ⟨fun h => ?_, fun h => by rw [h]⟩
    have := congrArg Int64.toInt h
    rw [l_of (by omega) (by omega), l_of (by omega) (by omega)] at this
    exact this
  unfold l_cmp
  by_cases h : lg_cmp (Int64.ofInt v) (Int64.ofInt w) = 0
  · rw [h, if_pos (by decide), if_pos rfl]
    exact ⟨fun _ => e.mp h, fun _ => rfl⟩
  · rw [if_neg h]
    refine ⟨fun h' => ?_, fun h' => absurd (e.mpr h') h⟩
    by_cases c : 0 ≤ lg_cmp (Int64.ofInt v) (Int64.ofInt w)
    · rw [if_pos c] at h'; exact absurd h' (by decide)
    · rw [if_neg c] at h'; exact absurd h' (by decide)
theorem i_cmp0 {a b : Nat} (ha : a < 2147483648) (hb : b < 2147483648) : i_cmp (Int32.ofNat a) (Int32.ofNat b) = 0 ↔ a = b := by
  rw [i_cmp_of ha hb]
  by_cases h : a = b
  · rw [if_pos h]; exact ⟨fun _ => h, fun _ => rfl⟩
  · rw [if_neg h]
    refine ⟨fun h' => ?_, fun h' => absurd h' h⟩
    by_cases c : b ≤ a
    · rw [if_pos c] at h'; exact absurd h' (by decide)
    · rw [if_neg c] at h'; exact absurd h' (by decide)
/-- how long a box is -/
theorem jn_room (b : Bool) : ∀ (l : List Mb) (x : Mb), x ∈ l → (if b then 5 else 2) * l.length + (bV x.2).length ≤ (jn (l.map (bM b))).length + 2 := by
  have hb : ∀ m : Mb, (if b then 3 else 0) + (bV m.2).length ≤ (bM b m).length ∧ 1 ≤ (bV m.2).length := by
    intro m
    have h1 : 1 ≤ (bV m.2).length := List.length_pos_iff.mpr (bV_ne _)
    refine ⟨?_, h1⟩
    unfold bM pstr
    cases b with
    | true => simp only [if_true, List.length_append, List.length_cons, List.length_nil]; omega
    | false => simp
  have h0 : ∀ l : List Mb, (if b then 5 else 2) * l.length ≤ (jn (l.map (bM b))).length + 1 := by
    intro l
    induction l with
    | nil => simp [jn]
    | cons m l ih =>
      rw [jn_cons, List.length_append]
      have := hb m
      by_cases hn : l = []
      · subst hn
        rw [if_pos rfl]
        cases b <;> simp only [if_true, List.length_cons, List.length_nil] at * <;> simp at * <;> omega
      · rw [if_neg hn]
        cases b <;> simp only [if_true, List.length_cons] at * <;> simp at * <;> omega
  intro l
  induction l with
  | nil => intro x hx; cases hx
  | cons m l ih =>
    intro x hx
    rw [jn_cons, List.length_append]
    have h1 := hb m
    have h2 := hb x
    have h3 := h0 l
    rcases List.mem_cons.mp hx with e | e
    · subst e
      by_cases hn : l = []
      · subst hn
        rw [if_pos rfl]
        cases b <;> simp only [if_true, List.length_cons, List.length_nil] at * <;> simp at * <;> omega
      · rw [if_neg hn]
        cases b <;> simp only [if_true, List.length_cons] at * <;> simp at * <;> omega
    · have h4 := ih x e
      have hn : l ≠ [] := fun c => by rw [c] at e; cases e
      rw [if_neg hn]
      cases b <;> simp only [if_true, List.length_cons] at * <;> simp at * <;> omega
theorem bV_box {k : Nat} {v : Int} {s : List Int32} {l : List Mb} (hk : k = 5 ∨ k = 6) : (bV (k, v, s, ofL l)).length = (jn (l.map (bM (k == 6)))).length + 2 := by
  unfold bV bval
  simp only
  rw [bF_ofL]
  rcases hk with rfl | rfl <;> simp
theorem bV_kid {k : Nat} {v : Int} {s : List Int32} {l : List Mb} (hk : k = 5 ∨ k = 6) {x : Mb} (hx : x ∈ l) : (if k = 6 then 5 else 2) * l.length + (bV x.2).length ≤ (bV (k, v, s, ofL l)).length := by
  rw [bV_box hk]
  have := jn_room (k == 6) l x hx
  rcases hk with rfl | rfl <;> simpa using this
theorem bV_room {v : Int} {s : List Int32} {l : List Mb} : 5 * l.length ≤ (bV (6, v, s, ofL l)).length := by
  cases l with
  | nil => simp
  | cons m l =>
    have := bV_kid (k := 6) (v := v) (s := s) (Or.inr rfl) (List.mem_cons_self (a := m) (l := l))
    rw [if_pos rfl] at this
    omega
theorem dV_kid {k : Nat} {v : Int} {s : List Int32} {l : List Mb} (hk : k = 5 ∨ k = 6) {x : Mb} (hx : x ∈ l) : dV x.2 + 1 ≤ dV (k, v, s, ofL l) := by
  unfold dV
  rw [if_pos (show (k, v, s, ofL l).1 = 5 ∨ (k, v, s, ofL l).1 = 6 from hk)]
  have := dF_mem (f := ofL l) (m := x) (by rw [toL_ofL]; exact hx)
  show _ ≤ 1 + dF (ofL l)
  unfold dV at this
  omega
/-- how the class compares: what stands before -/
def stCp (S : SS) (t0 t1 : Nat) (us vs : List Int32) (top : Nat) : Prop := tT S t0 = us ∧ tT S t1 = vs ∧ (S 47).length = 2 ∧ rd S 47 1 = Int32.ofNat top ∧ (S 48).length = 2048
def frCp (S S' : SS) (top : Nat) : Prop := (∀ a, a ≠ 47 → a ≠ 48 → S' a = S a) ∧ (S' 47).length = 2 ∧ rd S' 47 1 = Int32.ofNat top ∧ (S' 48).length = 2048 ∧ (S' 48).take top = (S 48).take top
def nCp (t : Nat) : Prop := t ≠ 48 ∧ t ≠ 47
theorem stCp.fr {S S' : SS} {t0 t1 top : Nat} {us vs : List Int32} (h0 : nCp t0) (h1 : nCp t1) (h : stCp S t0 t1 us vs top) (hf : frCp S S' top) : stCp S' t0 t1 us vs top := by
  obtain ⟨a1, a2, a3, a4, a5⟩ := h
  obtain ⟨b1, b2, b3, b4, b5⟩ := hf
  unfold tT at a1 a2
  exact ⟨by unfold tT; rw [b1 t0 h0.2 h0.1]; exact a1, by unfold tT; rw [b1 t1 h1.2 h1.1]; exact a2, b2, b3, b4⟩
theorem frCp.refl {S : SS} {t0 t1 top : Nat} {us vs : List Int32} (h : stCp S t0 t1 us vs top) : frCp S S top := ⟨fun _ _ _ => rfl, h.2.2.1, h.2.2.2.1, h.2.2.2.2, rfl⟩
theorem frCp.trans {S S' S'' : SS} {top : Nat} (h : frCp S S' top) (h' : frCp S' S'' top) : frCp S S'' top :=
  ⟨fun a n1 n2 => (h'.1 a n1 n2).trans (h.1 a n1 n2), h'.2.1, h'.2.2.1, h'.2.2.2.1, h'.2.2.2.2.trans h.2.2.2.2⟩
/-- arrays -/
theorem oarr_l {t0 t1 d top : Nat} {us vs r r' : List Int32} {z z' : Int32} {R : Vl → Vl → Int32} {rec : SS → Nat → Int32 → Nat → Int32 → Int32 → Option (SS × Int32)} (h0 : nCp t0) (h1 : nCp t1) (hu : us.length ≤ 4096) (hv : vs.length ≤ 4096) (hA : asc us) (hA' : asc vs) (hz : z = 93 ∨ z = 125) (hz' : z' = 93 ∨ z' = 125) : ∀ (la lb : List Mb) (n c p q : Nat) (S : SS), okL la → okL lb → (la ≠ [] → us.drop p = jn (la.map (bM false)) ++ z :: r) → (lb ≠ [] → vs.drop q = jn (lb.map (bM false)) ++ z' :: r') → la.length < n → c + la.length < 4096 → stCp S t0 t1 us vs top → (∀ m ∈ la, ∀ m' ∈ lb, ∀ (S : SS) (p q : Nat), stCp S t0 t1 us vs top → vat us p m.2 → vat vs q m'.2 → ∃ S' e, rec S t0 (Int32.ofNat p) t1 (Int32.ofNat q) (Int32.ofNat (d + 1)) = some (S', e) ∧ e = R m.2 m'.2 ∧ frCp S S' top) → ∃ S' e, o_arr_l18 t0 t1 rec n S (Int32.ofNat d) (if la = [] then -1 else Int32.ofNat p) (if lb = [] then -1 else Int32.ofNat q) (Int32.ofNat c) = some (S', e) ∧ e = arrK R la lb ∧ frCp S S' top := by
  intro la
  induction la with
  | nil =>
    intro lb n c p q S _ _ _ hq hn hc hS _
    obtain ⟨n, rfl⟩ : ∃ j, n = j + 1 := ⟨n - 1, by omega⟩
    have e0 : ¬ (4096 : Int32) ≤ Int32.ofNat c := by
      rw [show (4096 : Int32) = Int32.ofNat 4096 from rfl, i_le' (by omega) (by omega)]
      simp only [List.length_nil] at hc
      omega
    cases lb with
    | nil =>
      refine ⟨S, i_cmp 0 0, ?_, (show i_cmp 0 0 = 0 by decide), frCp.refl hS⟩
      unfold o_arr_l18
      rw [if_neg e0, if_pos rfl, if_pos rfl, if_pos rfl, if_pos rfl]
    | cons m' lb =>
      refine ⟨S, i_cmp 0 1, ?_, (show i_cmp 0 1 = -1 by decide), frCp.refl hS⟩
      have hd := hq (by simp)
      rw [jn_cons, List.append_assoc] at hd
      have := drop_len hd (bM_ne false m')
      unfold o_arr_l18
      rw [if_neg e0, if_pos rfl, if_pos rfl, if_neg (by simp : ¬ m' :: lb = []), if_neg (i_ne1 (by omega))]
  | cons m la ih =>
    intro lb n c p q S ha hb dp dq hn hc hS hrec
    obtain ⟨n, rfl⟩ : ∃ j, n = j + 1 := ⟨n - 1, by omega⟩
    simp only [List.length_cons] at hn hc
    have e0 : ¬ (4096 : Int32) ≤ Int32.ofNat c := by
      rw [show (4096 : Int32) = Int32.ofNat 4096 from rfl, i_le' (by omega) (by omega)]
      omega
    have dp' := dp (by simp)
    obtain ⟨n1, n2, n3, n4⟩ := nx hu hA (ha m List.mem_cons_self) hz dp'
    have hm := (mem_at hu hA (ha m List.mem_cons_self) hz dp').1 rfl
    cases lb with
    | nil =>
      refine ⟨S, i_cmp 1 0, ?_, (show i_cmp 1 0 = 1 by decide), frCp.refl hS⟩
      unfold o_arr_l18
      rw [if_neg e0, if_neg (by simp : ¬ m :: la = []), if_neg (i_ne1 (by omega)), if_pos rfl, if_pos rfl]
    | cons m' lb =>
      have dq' := dq (by simp)
      obtain ⟨k1, k2, k3, k4⟩ := nx hv hA' (hb m' List.mem_cons_self) hz' dq'
      have hm' := (mem_at hv hA' (hb m' List.mem_cons_self) hz' dq').1 rfl
      obtain ⟨S1, e, r1, r2, r3⟩ := hrec m List.mem_cons_self m' List.mem_cons_self S p q hS hm hm'
      have hS1 := hS.fr h0 h1 r3
      have step : o_arr_l18 t0 t1 rec (n + 1) S (Int32.ofNat d) (if m :: la = [] then -1 else Int32.ofNat p) (if m' :: lb = [] then -1 else Int32.ofNat q) (Int32.ofNat c) = if e = 0 then o_arr_l18 t0 t1 rec n S1 (Int32.ofNat d) (if la = [] then -1 else Int32.ofNat (p + (bM false m).length + 1)) (if lb = [] then -1 else Int32.ofNat (q + (bM false m').length + 1)) (Int32.ofNat (c + 1)) else some (S1, e) := by
        rw [if_neg (by simp : ¬ m :: la = []), if_neg (by simp : ¬ m' :: lb = [])]
        show (if (4096 : Int32) ≤ Int32.ofNat c then _ else if Int32.ofNat p = (-1 : Int32) then _ else if Int32.ofNat q = (-1 : Int32) then _ else _) = _
        rw [if_neg e0, if_neg (i_ne1 (by omega)), if_neg (i_ne1 (by omega)), i_a1, r1, o_bind]
        by_cases he : e = 0
        · rw [if_pos he, if_pos he, hS1.1, n3, o_bind, hS1.2.1, k3, o_bind, i_a1]
        · rw [if_neg he, if_neg he]
      rw [step]
      by_cases he : e = 0
      · rw [if_pos he]
        obtain ⟨S2, e2, j1, j2, j3⟩ := ih lb n (c + 1) (p + (bM false m).length + 1) (q + (bM false m').length + 1) S1 (fun x hx => ha x (List.mem_cons_of_mem _ hx)) (fun x hx => hb x (List.mem_cons_of_mem _ hx)) n4 k4 (by omega) (by omega) hS1 (fun x hx x' hx' => hrec x (List.mem_cons_of_mem _ hx) x' (List.mem_cons_of_mem _ hx'))
        refine ⟨S2, e2, j1, ?_, r3.trans j3⟩
        show e2 = if R m.2 m'.2 = 0 then arrK R la lb else R m.2 m'.2
        rw [← r2, if_pos he]
        exact j2
      · rw [if_neg he]
        refine ⟨S1, e, rfl, ?_, r3⟩
        show e = if R m.2 m'.2 = 0 then arrK R la lb else R m.2 m'.2
        rw [← r2, if_neg he]
end Same150
