/-! All paths, printed by the class's Lister. -/
section List143
/-- all paths of members, the first of them number k, behind the steps pre -/
def plF : Fo → Bool → List Vl → Nat → List (List Vl)
  | .leaf, _, _, _ => []
  | .inner kd l _ f r, b, pre, k => ((pre ++ [if b then stN l.1 else stI k]) :: (if kd = 5 ∨ kd = 6 then plF f (kd == 6) (pre ++ [if b then stN l.1 else stI k]) 0 else [])) ++ plF r b pre (k + 1)
def plV (pre : List Vl) (t : Vl) : List (List Vl) := pre :: (if t.1 = 5 ∨ t.1 = 6 then plF t.2.2.2 (t.1 == 6) pre 0 else [])
theorem plF_c (m : Mb) (l : List Mb) (b : Bool) (pre : List Vl) (k : Nat) : plF (ofL (m :: l)) b pre k = plV (pre ++ [if b then stN m.1 else stI k]) m.2 ++ plF (ofL l) b pre (k + 1) := rfl
/-- paths as text, each behind a comma; the first without -/
def ct (P : List (List Vl)) : List Int32 := P.flatMap fun p => 44 :: bV (pathT p)
theorem jn_ct (p : List Vl) (P : List (List Vl)) : jn ((p :: P).map fun p => bV (pathT p)) = bV (pathT p) ++ ct P := by
  induction P generalizing p with
  | nil => simp [jn, ct]
  | cons q P ih =>
    show bV (pathT p) ++ 44 :: jn ((q :: P).map fun p => bV (pathT p)) = _
    rw [ih q]
    show _ = bV (pathT p) ++ ((44 :: bV (pathT q)) ++ ct P)
    rfl
theorem ct_app (P Q : List (List Vl)) : ct (P ++ Q) = ct P ++ ct Q := List.flatMap_append
/-- the Lister's rows hold these steps -/
def rows (S : SS) (us : List Int32) (pre : List Vl) : Prop := (S 76).length = 60 ∧ (S 77).length = 60 ∧ ∀ i (h : i < pre.length), stC S us i pre[i]
def fr76 (S S' : SS) : Prop := ∀ a, a ≠ 76 → a ≠ 77 → S' a = S a
/-- what was written: all, or too much -/
def wrt (B G X : List Int32) : Prop := ((B ++ G).length ≤ 4096 → X = G) ∧ (4096 < (B ++ G).length → 4096 < (B ++ X).length)
theorem iget_set {l : List Int32} {i j : Nat} {v : Int32} (hi : i < l.length) (hl : l.length ≤ 9000) (hj : j < 2147483648) : iget (l.set i v) (Int32.ofNat j) = if i = j then some v else iget l (Int32.ofNat j) := by
  unfold iget
  rw [if_neg (i_nn hj), if_neg (i_nn hj), i_cl hj]
  by_cases e : i = j
  · rw [if_pos e, ← e, List.getElem?_set_self hi]
  · rw [if_neg e, List.getElem?_set_ne e]
theorem rows_pre {S : SS} {us : List Int32} {pre : List Vl} {x : Vl} (h : rows S us (pre ++ [x])) : rows S us pre := ⟨h.1, h.2.1, fun i hi => by
  have := h.2.2 i (by rw [List.length_append]; omega)
  rw [List.getElem_append_left hi] at this
  exact this⟩
theorem rows_push {S : SS} {us : List Int32} {pre : List Vl} {v k : Int32} {x : Vl} (h : rows S us pre) (hd : pre.length < 60) (hx : (∃ j, x = stI j ∧ j < 4096 ∧ v = -1 ∧ k = Int32.ofNat j) ∨ ∃ s q r, x = stN s ∧ okS s ∧ v = Int32.ofNat q ∧ us.drop q = pstr s ++ 58 :: r) : ∃ z1 z2, iset (S 76) (Int32.ofNat pre.length) v = some z1 ∧ iset (up S 76 z1 77) (Int32.ofNat pre.length) k = some z2 ∧ rows (up (up S 76 z1) 77 z2) us (pre ++ [x]) := by
  obtain ⟨h1, h2, h3⟩ := h
  have e1 : iset (S 76) (Int32.ofNat pre.length) v = some ((S 76).set pre.length v) := by
    unfold iset; rw [if_neg (i_nn (by omega)), i_cl (by omega), if_pos (by omega)]
  have e2 : iset (up S 76 ((S 76).set pre.length v) 77) (Int32.ofNat pre.length) k = some ((S 77).set pre.length k) := by
    rw [up_ne (by decide)]
    unfold iset; rw [if_neg (i_nn (by omega)), i_cl (by omega), if_pos (by omega)]
  refine ⟨_, _, e1, e2, ?_, ?_, fun i hi => ?_⟩
  · rw [up_ne (by decide), up_same, List.length_set]; exact h1
  · rw [up_same, List.length_set]; exact h2
  · have g76 : ∀ j, j < 60 → iget ((up (up S 76 ((S 76).set pre.length v)) 77 ((S 77).set pre.length k)) 76) (Int32.ofNat j) = if pre.length = j then some v else iget (S 76) (Int32.ofNat j) := fun j hj => by
      rw [up_ne (by decide), up_same, iget_set (by omega) (by omega) (by omega)]
    have g77 : ∀ j, j < 60 → iget ((up (up S 76 ((S 76).set pre.length v)) 77 ((S 77).set pre.length k)) 77) (Int32.ofNat j) = if pre.length = j then some k else iget (S 77) (Int32.ofNat j) := fun j hj => by
      rw [up_same, iget_set (by omega) (by omega) (by omega)]
    rw [List.length_append] at hi
    simp only [List.length_cons, List.length_nil] at hi
    unfold stC
    rw [g76 i (by omega), g77 i (by omega)]
    by_cases e : i < pre.length
    · rw [if_neg (by omega), if_neg (by omega), List.getElem_append_left e]
      exact h3 i e
    · have : i = pre.length := by omega
      subst this
      rw [if_pos rfl, if_pos rfl, List.getElem_append_right (Nat.le_refl _)]
      simp only [Nat.sub_self, List.getElem_cons_zero]
      rcases hx with ⟨j, q1, q2, q3, q4⟩ | ⟨s, q, r, q1, q2, q3, q4⟩
      · exact Or.inl ⟨j, q1, q2, by rw [q3], by rw [q4]⟩
      · exact Or.inr ⟨s, q, r, q1, q2, by rw [q3], q4⟩
/-- how the Lister lists from a value -/
def LF (us : List Int32) (ta o : Nat) (t : Vl) : Prop := ∀ (n p : Nat) (pre : List Vl) (S0 : SS) (B : List Int32), dV t + 1 ≤ n → pre.length + dV t ≤ 60 → vat us p t → tT S0 ta = us → (rd S0 75 3).toNatClampNeg = o → (rd S0 75 2).toNatClampNeg = ta → rows S0 us pre → ∃ S' X, l_from n (up S0 o (pv B)) (Int32.ofNat p) (Int32.ofNat pre.length) = some (up S' o (pv (B ++ X))) ∧ rows S' us pre ∧ fr76 S0 S' ∧ wrt B (jn ((plV pre t).map fun p => bV (pathT p))) X
theorem wrt_comb {B G1 X1 G2 X2 : List Int32} (h1 : wrt (B ++ [44]) G1 X1) (h2 : wrt (B ++ (44 :: X1)) G2 X2) : wrt B ((44 :: G1) ++ G2) ((44 :: X1) ++ X2) := by
  unfold wrt at *
  simp only [List.length_append, List.length_cons, List.length_nil] at h1 h2 ⊢
  refine ⟨fun h => ?_, fun h => ?_⟩
  · have e1 := h1.1 (by omega)
    subst e1
    rw [h2.1 (by omega)]
  · by_cases e : B.length + 1 + G1.length ≤ 4096
    · have e1 := h1.1 (by omega)
      subst e1
      have := h2.2 (by omega)
      omega
    · have := h1.2 (by omega)
      omega
theorem ct_plV (pre : List Vl) (t : Vl) : ct (plV pre t) = 44 :: jn ((plV pre t).map fun p => bV (pathT p)) := by
  unfold plV
  rw [jn_ct]
  rfl
theorem loop_e {rec : SS → Int32 → Int32 → Option SS} {n : Nat} {S : SS} {l2 l3 l5 : Int32} (hn : 0 < n) : l_fromB_l45 rec n S l2 l3 (-1) l5 = some S := by
  obtain ⟨n, rfl⟩ : ∃ j, n = j + 1 := ⟨n - 1, by omega⟩
  show (if (4096 : Int32) ≤ l5 then some S else _) = _
  by_cases e : (4096 : Int32) ≤ l5
  · rw [if_pos e]
  · rw [if_neg e, if_pos rfl]
theorem loop_l {us : List Int32} {ta o : Nat} {r : List Int32} {z : Int32} {kd : Nat} (hl : us.length ≤ 4096) (hA : asc us) (hz : z = 93 ∨ z = 125) (hkd : kd = 5 ∨ kd = 6) (hta : ta ≠ 76 ∧ ta ≠ 77) (ho : o ≠ ta ∧ o ≠ 75 ∧ o ≠ 76 ∧ o ≠ 77) (m : Nat) : ∀ (l : List Mb) (n k q : Nat) (pre : List Vl) (S0 : SS) (B : List Int32), okL l → l ≠ [] → (∀ x ∈ l, LF us ta o x.2 ∧ dV x.2 + 1 ≤ m ∧ pre.length + 1 + dV x.2 ≤ 60) → us.drop q = jn (l.map (bM (kd == 6))) ++ z :: r → l.length < n → k ≤ q → pre.length < 60 → tT S0 ta = us → (rd S0 75 3).toNatClampNeg = o → (rd S0 75 2).toNatClampNeg = ta → rows S0 us pre → ∃ S' X, l_fromB_l45 (l_from m) n (up S0 o (pv B)) (Int32.ofNat pre.length) (Int32.ofNat kd) (Int32.ofNat q) (Int32.ofNat k) = some (up S' o (pv (B ++ X))) ∧ rows S' us pre ∧ fr76 S0 S' ∧ wrt B (ct (plF (ofL l) (kd == 6) pre k)) X := by
  intro l
  induction l with
  | nil => intro n k q pre S0 B _ h; exact absurd rfl h
  | cons x l ih =>
    intro n k q pre S0 B hw _ hx hd hn hk hp hus h3 h2 hr
    obtain ⟨n1, -, n2, n3⟩ := nx hl hA (hw x List.mem_cons_self) hz hd
    obtain ⟨lf, lm, lp⟩ := hx x List.mem_cons_self
    obtain ⟨n, rfl⟩ : ∃ j, n = j + 1 := ⟨n - 1, by omega⟩
    have e4 : ¬ (4096 : Int32) ≤ Int32.ofNat k := by rw [show (4096 : Int32) = Int32.ofNat 4096 from rfl, i_le' (by omega) (by omega)]; omega
    have r3 : ∀ (T : SS) B, (rd T 75 3).toNatClampNeg = o → (rd (up T o (pv B)) 75 3).toNatClampNeg = o := fun T B h => by rw [rd_up (fun e => ho.2.1 e.symm)]; exact h
    have r2 : ∀ (T : SS) B, (rd T 75 2).toNatClampNeg = ta → (rd (up T o (pv B)) 75 2).toNatClampNeg = ta := fun T B h => by rw [rd_up (fun e => ho.2.1 e.symm)]; exact h
    have tv : tV (up S0 o (pv B)) o = if B.length ≤ 4096 then 0 else 1 := (pv_T S0 o B).2
    rw [plF_c, ct_app]
    obtain ⟨S1, hS1⟩ : ∃ S1, S1 = (up S0 o (pv B)) := ⟨_, rfl⟩
    by_cases hB : B.length ≤ 4096
    · have hkk : k < 4096 := by omega
      obtain ⟨m5, m6⟩ := mem_at hl hA (hw x List.mem_cons_self) hz hd
      -- what comes behind the step
      have tail : ∀ (T0 : SS) (qv : Nat) (stp' : Vl), (if (kd == 6) = true then stN x.1 else stI k) = stp' → fr76 S0 T0 → rows T0 us (pre ++ [stp']) → vat us qv x.2 → ∃ S' X, ((l_from m (up T0 o (pv (B ++ [44]))) (Int32.ofNat qv) (Int32.ofNat pre.length + 1)).bind fun r30 => ((t_next (tT r30 ((rd r30 75 2).toNatClampNeg)) (Int32.ofNat q)).bind fun r32 => l_fromB_l45 (l_from m) n r30 (Int32.ofNat pre.length) (Int32.ofNat kd) r32 (Int32.ofNat k + 1))) = some (up S' o (pv (B ++ X))) ∧ rows S' us pre ∧ fr76 S0 S' ∧ wrt B (ct (plV (pre ++ [stp']) x.2) ++ ct (plF (ofL l) (kd == 6) pre (k + 1))) X := by
        intro T0 qv st' est hf hrw hv
        have t76 : ∀ {A C : SS}, fr76 A C → tT A ta = us → tT C ta = us := fun {A C} hf h => by unfold tT at *; rw [hf ta hta.1 hta.2]; exact h
        have r7 : ∀ {A C : SS} (j : Nat), fr76 A C → rd C 75 j = rd A 75 j := fun {A C} j hf => by unfold rd; rw [hf 75 (by decide) (by decide)]
        have hlen : (pre ++ [st']).length = pre.length + 1 := by rw [List.length_append]; rfl
        obtain ⟨S1, X1, g1, g2, g3, g4⟩ := lf m qv (pre ++ [st']) T0 (B ++ [44]) lm (by omega) hv (t76 hf hus) (by rw [r7 3 hf]; exact h3) (by rw [r7 2 hf]; exact h2) hrw
        rw [hlen, ← i_a1] at g1
        have f1 : fr76 S0 S1 := fun a c1 c2 => (g3 a c1 c2).trans (hf a c1 c2)
        have hB1 : (B ++ [44]) ++ X1 = B ++ (44 :: X1) := by rw [List.append_assoc]; rfl
        rw [g1, hB1, o_bind, r2 S1 _ (by rw [r7 2 f1]; exact h2)]
        have : tT (up S1 o (pv (B ++ (44 :: X1)))) ta = us := by
          have := t76 f1 hus
          unfold tT at *
          rw [up_ne (fun e => ho.1 e.symm)]; exact this
        rw [this, n2, o_bind, i_a1, ct_plV]
        by_cases el : l = []
        · subst el
          rw [if_pos rfl, loop_e (by simp only [List.length_cons, List.length_nil] at hn; omega)]
          refine ⟨S1, 44 :: X1, rfl, rows_pre g2, f1, ?_⟩
          have := wrt_comb (G2 := []) (X2 := []) g4 ⟨fun _ => rfl, fun h => h⟩
          rw [List.append_nil (44 :: X1)] at this
          exact this
        · rw [if_neg el]
          obtain ⟨S2, X2, k1, k2, k3, k4⟩ := ih n (k + 1) (q + (bM (kd == 6) x).length + 1) pre S1 (B ++ (44 :: X1)) (fun y hy => hw y (List.mem_cons_of_mem _ hy)) el (fun y hy => hx y (List.mem_cons_of_mem _ hy)) (n3 el) (by simp only [List.length_cons] at hn; omega) (by omega) hp (t76 f1 hus) (by rw [r7 3 f1]; exact h3) (by rw [r7 2 f1]; exact h2) (rows_pre g2)
          refine ⟨S2, (44 :: X1) ++ X2, ?_, k2, fun a c1 c2 => (k3 a c1 c2).trans (f1 a c1 c2), wrt_comb g4 k4⟩
          rw [k1, List.append_assoc]
      have push : ∀ (v : Int32) (st' : Vl), ((∃ j, st' = stI j ∧ j < 4096 ∧ v = -1 ∧ Int32.ofNat k = Int32.ofNat j) ∨ ∃ s q r, st' = stN s ∧ okS s ∧ v = Int32.ofNat q ∧ us.drop q = pstr s ++ 58 :: r) → ∃ z1 z2, iset ((up S0 o (pv B)) 76) (Int32.ofNat pre.length) v = some z1 ∧ iset ((up (up S0 o (pv B)) 76 z1) 77) (Int32.ofNat pre.length) (Int32.ofNat k) = some z2 ∧ sput (up (up (up S0 o (pv B)) 76 z1) 77 z2) ((rd (up (up (up S0 o (pv B)) 76 z1) 77 z2) 75 3).toNatClampNeg) 44 = up (up (up S0 76 z1) 77 z2) o (pv (B ++ [44])) ∧ rows (up (up S0 76 z1) 77 z2) us (pre ++ [st']) ∧ fr76 S0 (up (up S0 76 z1) 77 z2) := by
        intro v st' hh
        obtain ⟨z1, z2, y1, y2, y3⟩ := rows_push hr hp hh
        have ec : up (up (up S0 o (pv B)) 76 z1) 77 z2 = up (up (up S0 76 z1) 77 z2) o (pv B) := by
          rw [up_comm S0 ho.2.2.1, up_comm (up S0 76 z1) ho.2.2.2]
        refine ⟨z1, z2, ?_, ?_, ?_, y3, fun a c1 c2 => by rw [up_ne c2, up_ne c1]⟩
        · rw [up_ne (fun e => ho.2.2.1 e.symm)]; exact y1
        · rw [up_comm S0 ho.2.2.1, up_ne (fun e => ho.2.2.2 e.symm)]; exact y2
        · rw [ec, r3 _ _ (by rw [rd_up (by decide), rd_up (by decide)]; exact h3), sput_pv]
          rfl
      rcases hkd with rfl | rfl
      · obtain ⟨z1, z2, y1, y2, y3, y4, y5⟩ := push (-1) (stI k) (Or.inl ⟨k, rfl, hkk, rfl, rfl⟩)
        obtain ⟨S', X, w1, w2, w3, w4⟩ := tail _ q (stI k) rfl y5 y4 (m5 rfl)
        refine ⟨S', X, ?_, w2, w3, w4⟩
        rw [← w1]
        show (if (4096 : Int32) ≤ Int32.ofNat k then _ else _) = _
        rw [if_neg e4, if_neg (i_ne1 (by omega)), r3 S0 B h3, tv, if_pos hB, if_pos (by decide), if_neg (show ¬ Int32.ofNat 5 = (6 : Int32) by decide), y1, o_bind, y2, o_bind, y3]
      · have hdq : us.drop q = pstr x.1 ++ 58 :: (bV x.2 ++ ((if l = [] then [] else 44 :: jn (l.map (bM true))) ++ z :: r)) := by
          rw [hd]
          show jn ((x :: l).map (bM true)) ++ z :: r = _
          rw [jn_cons]
          show ((pstr x.1 ++ [58]) ++ bV x.2 ++ _) ++ z :: r = _
          simp only [List.append_assoc, List.cons_append, List.nil_append]
        obtain ⟨z1, z2, y1, y2, y3, y4, y5⟩ := push (Int32.ofNat q) (stN x.1) (Or.inr ⟨x.1, q, _, rfl, (hw x List.mem_cons_self).1, rfl, hdq⟩)
        obtain ⟨v1, v2⟩ := m6 rfl
        obtain ⟨S', X, w1, w2, w3, w4⟩ := tail _ _ (stN x.1) rfl y5 y4 v2
        refine ⟨S', X, ?_, w2, w3, w4⟩
        rw [← w1]
        show (if (4096 : Int32) ≤ Int32.ofNat k then _ else _) = _
        have hT : tT (up (up (up S0 76 z1) 77 z2) o (pv (B ++ [44]))) ta = us := by
          unfold tT at *
          rw [up_ne (fun e => ho.1 e.symm), up_ne hta.2, up_ne hta.1]; exact hus
        rw [if_neg e4, if_neg (i_ne1 (by omega)), r3 S0 B h3, tv, if_pos hB, if_pos (by decide), if_pos (show Int32.ofNat 6 = (6 : Int32) by decide), y1, o_bind, y2, o_bind, y3, r2 _ _ (by rw [rd_up (by decide), rd_up (by decide)]; exact h2), hT, v1, o_bind]
    · refine ⟨S0, [], ?_, hr, fun _ _ _ => rfl, fun h => ?_, fun _ => by rw [List.append_nil]; omega⟩
      · show (if (4096 : Int32) ≤ Int32.ofNat k then _ else _) = _
        rw [if_neg e4, if_neg (i_ne1 (by omega)), r3 S0 B h3, tv, if_neg hB, if_neg (by decide), List.append_nil]
      · rw [List.length_append] at h; omega
theorem lf_all {us : List Int32} {ta o : Nat} (hl : us.length ≤ 4096) (hA : asc us) (hta : ta ≠ 76 ∧ ta ≠ 77) (ho : o ≠ ta ∧ o ≠ 75 ∧ o ≠ 76 ∧ o ≠ 77) (t : Vl) : LF us ta o t := by
  induction t using Vl.ind with
  | h k v s l ihl =>
    intro n p pre S0 B hn hp hv hus h3 h2 hr
    obtain ⟨m, rfl⟩ : ∃ m, n = m + 1 := ⟨n - 1, by omega⟩
    have hpl : p < 2147483648 := by have := hv.lt; omega
    have p1 := path_val hus hl hA ho h3 h2 (by omega) hr.2.2 B
    have hk7 : k ≤ 6 := hv.2.2.1.1
    have h2' : ∀ B, (rd (up S0 o (pv B)) 75 2).toNatClampNeg = ta := fun B => by rw [rd_up (fun e => ho.2.1 e.symm)]; exact h2
    have hT : ∀ B, tT (up S0 o (pv B)) ta = us := fun B => by
      unfold tT at *
      rw [up_ne (fun e => ho.1 e.symm)]; exact hus
    have hkd := hv.kind
    show ∃ S' X, l_fromB (up S0 o (pv B)) (l_from m) (Int32.ofNat p) (Int32.ofNat pre.length) = _ ∧ _
    unfold l_fromB
    rw [p1, o_bind, h2', hT, hkd, o_bind]
    by_cases hk : k = 5 ∨ k = 6
    · have hdv : dV (k, v, s, ofL l) = 1 + dF (ofL l) := if_pos hk
      have hf := hv.first hk
      have hpl' : plV pre (k, v, s, ofL l) = pre :: plF (ofL l) (k == 6) pre 0 := by
        show pre :: (if k = 5 ∨ k = 6 then _ else _) = _
        rw [if_pos hk]
      have h60 : Int32.ofNat pre.length < 60 := by
        rw [show (60 : Int32) = Int32.ofNat 60 from rfl, i_lt' (by omega) (by omega)]; omega
      have main : ∃ S' X, l_fromB_l45 (l_from m) 10000 (up S0 o (pv (B ++ bV (pathT pre)))) (Int32.ofNat pre.length) (Int32.ofNat k) (if l = [] then -1 else Int32.ofNat (p + 1)) 0 = some (up S' o (pv (B ++ X))) ∧ rows S' us pre ∧ fr76 S0 S' ∧ wrt B (jn ((plV pre (k, v, s, ofL l)).map fun p => bV (pathT p))) X := by
        rw [hpl', jn_ct]
        by_cases el : l = []
        · rw [if_pos el, loop_e (by omega)]
          refine ⟨S0, _, rfl, hr, fun _ _ _ => rfl, ?_⟩
          subst el
          have : ct (plF (ofL []) (k == 6) pre 0) = [] := rfl
          rw [this, List.append_nil]
          exact ⟨fun _ => rfl, fun h => h⟩
        · rw [if_neg el]
          have hz : (if k = 5 then (93 : Int32) else 125) = 93 ∨ (if k = 5 then (93 : Int32) else 125) = 125 := by rcases hk with rfl | rfl <;> simp
          have hw := hv.2.2.1.kids
          have hll := (hv.items hk).2
          obtain ⟨r, h4, h5⟩ := hv.2.2.2
          obtain ⟨S', X, e1, e2, e3, e4⟩ := loop_l hl hA hz hk hta ho m l 10000 0 (p + 1) pre S0 (B ++ bV (pathT pre)) hw el (fun x hx => ⟨ihl x hx, by have := dF_mem (f := ofL l) (m := x) (by rw [toL_ofL]; exact hx); omega, by have := dF_mem (f := ofL l) (m := x) (by rw [toL_ofL]; exact hx); omega⟩) (box_in hk h4) (by omega) (by omega) (by omega) hus h3 h2 hr
          refine ⟨S', bV (pathT pre) ++ X, ?_, e2, e3, ?_⟩
          · rw [← List.append_assoc]; exact e1
          · unfold wrt at *
            simp only [List.length_append] at e4 ⊢
            refine ⟨fun h => by rw [e4.1 (by omega)], fun h => by have := e4.2 (by omega); omega⟩
      have c5 : Int32.ofNat k = (5 : Int32) ↔ k = 5 := i_inj (b := 5) (by omega) (by decide)
      have c6 : Int32.ofNat k = (6 : Int32) ↔ k = 6 := i_inj (b := 6) (by omega) (by decide)
      by_cases e5 : k = 5
      · rw [if_pos (c5.mpr e5), if_pos h60, hf, o_bind]
        exact main
      · rw [if_neg (fun e => e5 (c5.mp e)), if_pos (c6.mpr (by omega)), if_pos h60, hf, o_bind]
        exact main
    · have c5 : ¬ Int32.ofNat k = (5 : Int32) := fun e => hk (Or.inl ((i_inj (b := 5) (by omega) (by decide)).mp e))
      have c6 : ¬ Int32.ofNat k = (6 : Int32) := fun e => hk (Or.inr ((i_inj (b := 6) (by omega) (by decide)).mp e))
      rw [if_neg c5, if_neg c6]
      refine ⟨S0, _, rfl, hr, fun _ _ _ => rfl, ?_⟩
      have : plV pre (k, v, s, ofL l) = [pre] := by
        show pre :: (if k = 5 ∨ k = 6 then _ else _) = _
        rw [if_neg hk]
      rw [this]
      exact ⟨fun _ => rfl, fun h => h⟩
end List143
