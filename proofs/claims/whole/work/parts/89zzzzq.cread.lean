/-! The class reads: numbers, arrays, objects, values. -/
section CRead183
theorem l_digs : ∀ d, d < 10 → (Int32.ofNat (48 + d)).toInt64 - 48 = Int64.ofNat d := by decide +kernel
theorem l_natI {a : Nat} (h : a ≤ 4611686018427387904) : (Int64.ofNat a).toInt = a := by rw [l_nat, l_of (by omega) (by omega)]
theorem l_max53 : (9007199254740991 : Int64).toInt = 9007199254740991 := by decide
theorem cdig_l {S : SS} {dr : Nat} {B ts : List Int32} {b : Int32} (H : CK S dr ts) : ∀ (n k a : Nat), ts.length < n + k → 0 < n → k ≤ 5000 → a ≤ 90071992547409919 → c_digits_l38 n (ck S dr k B b) (Int64.ofNat a) 1 = some (ck S dr (k + (digs ts k).length) B b, Int64.ofNat ((digs ts k).foldl sat a)) := by
  intro n
  induction n with
  | zero => intro k a _ h; omega
  | succ n ih =>
    intro k a h1 _ h5 ha
    have hl := H.2.1
    unfold c_digits_l38
    rw [if_neg (show ¬ (1 : Int32) = 0 by decide), ck_t H, (ck_rd H).2.1]
    by_cases c : ts.length ≤ k
    · have e0 : digs ts k = [] := by unfold digs; rw [List.drop_of_length_le c]; rfl
      rw [if_pos ((i_le' (by omega) (by omega)).mpr c), e0]
      rfl
    rw [if_neg (by rw [i_le' (by omega) (by omega)]; exact c)]
    by_cases d : sg_digit (atP' ts k) = 0
    · have d' : sg_digit (tat ts (Int32.ofNat k)) = 0 := d
      rw [if_pos d', digs_nil hl (by omega) d]
      rfl
    have d' : ¬ sg_digit (tat ts (Int32.ofNat k)) = 0 := d
    obtain ⟨l1, e1⟩ := digs_cons hl (by omega) d
    obtain ⟨w, w1, w2, w3, -⟩ := dig_d d
    have w2' : tat ts (Int32.ofNat k) = Int32.ofNat (48 + w) := w2
    rw [if_neg d', e1, List.length_cons, List.foldl_cons, i_a1, ck_w2 H.2.2.1, show k + ((digs ts (k + 1)).length + 1) = k + 1 + (digs ts (k + 1)).length by omega]
    by_cases g : 9007199254740991 < a
    · have s : sat a (atP' ts k) = a := by unfold sat; rw [if_neg (by omega)]
      rw [if_pos (by rw [lg_gt, l_max53, l_natI (by omega)]; omega), s, ih (k + 1) a (by omega) (by omega) (by omega) ha]
    · have s : sat a (atP' ts k) = a * 10 + w := by unfold sat; rw [if_pos (by omega), w3]
      have z : Int64.ofNat a * 10 + (tat ts (Int32.ofNat k)).toInt64 - 48 = Int64.ofNat (a * 10 + w) := by
        rw [w2', Int64.sub_eq_add_neg, Int64.add_assoc, ← Int64.sub_eq_add_neg, l_digs w w1, Int64.ofNat_add, Int64.ofNat_mul]
        rfl
      rw [if_neg (by rw [lg_gt, l_max53, l_natI (by omega)]; omega), s, z, ih (k + 1) (a * 10 + w) (by omega) (by omega) (by omega) (by omega)]
theorem ck_part {S : SS} {dr k f w : Nat} {B ts : List Int32} {b : Int32} (H : CK S dr ts) (hf : f ≤ 5000) (hw : w ≤ 5000) : spart (ck S dr k B b) dr 42 (Int32.ofNat f) (Int32.ofNat w) = some (ck S dr k (B ++ (ts.take w).drop f) b) := by
  have hX : tT (up S 68 [rd S 68 0, Int32.ofNat dr, Int32.ofNat k, b]) 42 = ts := by
    unfold tT
    rw [up_ne (by decide)]
    exact H.1
  have hw' : ¬ Int32.ofNat w < -10000 := by
    rw [i_lt, i_of (by omega), show (-10000 : Int32).toInt = -10000 from by decide]
    omega
  have hf' : ¬ (100000 : Int32) < Int32.ofNat f := by
    rw [show (100000 : Int32) = Int32.ofNat 100000 from rfl, i_lt' (by omega) (by omega)]
    omega
  unfold ck
  rw [spart_pv H.2.2.2.1 hw' hf', hX]
  unfold tcut
  rw [i_cl (by omega), i_cl (by omega)]
def cnumB (S : SS) (st : Int32) : Option SS := (if (sg_digit (tat (tT S 42) (rd S 68 2))) = 0 then ((c_break S (rd S 68 2)).bind fun r21 => some r21) else ((c_digits S).bind fun r23 => (if (lg_cmp r23.2 9007199254740991) ≤ 0 then (if (lg_cmp r23.2 0) = 0 then some (sput r23.1 ((rd r23.1 68 1).toNatClampNeg) 48) else ((spart r23.1 ((rd r23.1 68 1).toNatClampNeg) 42 st (rd r23.1 68 2)).bind fun r28 => some r28)) else ((c_break r23.1 st).bind fun r30 => some r30))))
theorem cnumB_eq (S : SS) : c_number S = if (tat (tT S 42) (rd S 68 2)) = (45 : Int32) then cnumB (wr S 68 2 ((rd S 68 2) + 1)) (rd S 68 2) else cnumB S (rd S 68 2) := rfl
theorem cnumB_v {S : SS} {dr k st : Nat} {B ts : List Int32} (H : CK S dr ts) (hk : k ≤ ts.length + 1) (hst : st ≤ k) : (sg_digit (atP' ts k) = 0 → badC S dr ts (cnumB (ck S dr k B (-1)) (Int32.ofNat st))) ∧ (sg_digit (atP' ts k) ≠ 0 → (atP' ts k = 48 → cnumB (ck S dr k B (-1)) (Int32.ofNat st) = some (ck S dr (k + 1) (B ++ [48]) (-1))) ∧ (atP' ts k ≠ 48 → ((digs ts k).foldl sat 0 ≤ 9007199254740991 → cnumB (ck S dr k B (-1)) (Int32.ofNat st) = some (ck S dr (k + (digs ts k).length) (B ++ (ts.take (k + (digs ts k).length)).drop st) (-1))) ∧ (¬ (digs ts k).foldl sat 0 ≤ 9007199254740991 → badC S dr ts (cnumB (ck S dr k B (-1)) (Int32.ofNat st))))) := by
  have hl := H.2.1
  refine ⟨fun h => ?_, fun h => ?_⟩
  · have h' : sg_digit (tat ts (Int32.ofNat k)) = 0 := h
    unfold cnumB
    rw [ck_t H, (ck_rd H).2.1, if_pos h', cbreak H, o_bind, if_pos rfl]
    exact ⟨_, _, _, rfl, i_ne1 (by omega), by omega⟩
  have h' : ¬ sg_digit (tat ts (Int32.ofNat k)) = 0 := h
  obtain ⟨l1, e1⟩ := digs_cons hl (by omega) h
  obtain ⟨w, w1, w2, w3, -⟩ := dig_d h
  have w2' : tat ts (Int32.ofNat k) = Int32.ofNat (48 + w) := w2
  have z := (dig_v w w1).2
  have z0 : (0 : Int64).toInt = 0 := by decide
  have u : cnumB (ck S dr k B (-1)) (Int32.ofNat st) = ((c_digits (ck S dr k B (-1))).bind fun r23 => (if (lg_cmp r23.2 9007199254740991) ≤ 0 then (if (lg_cmp r23.2 0) = 0 then some (sput r23.1 ((rd r23.1 68 1).toNatClampNeg) 48) else ((spart r23.1 ((rd r23.1 68 1).toNatClampNeg) 42 (Int32.ofNat st) (rd r23.1 68 2)).bind fun r28 => some r28)) else ((c_break r23.1 (Int32.ofNat st)).bind fun r30 => some r30))) := by
    unfold cnumB
    rw [ck_t H, (ck_rd H).2.1, if_neg h']
  have dg : c_digits (ck S dr k B (-1)) = if w = 0 then c_digits_l38 10000 (ck S dr (k + 1) B (-1)) (Int64.ofNat 0) 0 else c_digits_l38 10000 (ck S dr (k + 1) B (-1)) (Int64.ofNat w) 1 := by
    unfold c_digits
    rw [ck_t H, (ck_rd H).2.1, w2', z, i_a1, ck_w2 H.2.2.1]
    by_cases c : w = 0
    · rw [if_pos c, if_pos (by rw [lg_le, z0, l_natI (by omega)]; omega), c]
    · rw [if_neg c, if_neg (by rw [lg_le, z0, l_natI (by omega)]; omega)]
  rw [u]
  have key : ∀ e W : Nat, W ≤ 90071992547409919 → e ≤ 5000 → k ≤ e → c_digits (ck S dr k B (-1)) = some (ck S dr e B (-1), Int64.ofNat W) → (W = 0 → ((c_digits (ck S dr k B (-1))).bind fun r23 => (if (lg_cmp r23.2 9007199254740991) ≤ 0 then (if (lg_cmp r23.2 0) = 0 then some (sput r23.1 ((rd r23.1 68 1).toNatClampNeg) 48) else ((spart r23.1 ((rd r23.1 68 1).toNatClampNeg) 42 (Int32.ofNat st) (rd r23.1 68 2)).bind fun r28 => some r28)) else ((c_break r23.1 (Int32.ofNat st)).bind fun r30 => some r30))) = some (ck S dr e (B ++ [48]) (-1))) ∧ (W ≠ 0 → W ≤ 9007199254740991 → ((c_digits (ck S dr k B (-1))).bind fun r23 => (if (lg_cmp r23.2 9007199254740991) ≤ 0 then (if (lg_cmp r23.2 0) = 0 then some (sput r23.1 ((rd r23.1 68 1).toNatClampNeg) 48) else ((spart r23.1 ((rd r23.1 68 1).toNatClampNeg) 42 (Int32.ofNat st) (rd r23.1 68 2)).bind fun r28 => some r28)) else ((c_break r23.1 (Int32.ofNat st)).bind fun r30 => some r30))) = some (ck S dr e (B ++ (ts.take e).drop st) (-1))) ∧ (¬ W ≤ 9007199254740991 → ((c_digits (ck S dr k B (-1))).bind fun r23 => (if (lg_cmp r23.2 9007199254740991) ≤ 0 then (if (lg_cmp r23.2 0) = 0 then some (sput r23.1 ((rd r23.1 68 1).toNatClampNeg) 48) else ((spart r23.1 ((rd r23.1 68 1).toNatClampNeg) 42 (Int32.ofNat st) (rd r23.1 68 2)).bind fun r28 => some r28)) else ((c_break r23.1 (Int32.ofNat st)).bind fun r30 => some r30))) = some (ck S dr e B (Int32.ofNat st))) := by
    intro e W hW he hke hd
    rw [hd, o_bind]
    simp only
    refine ⟨fun c => ?_, fun c c2 => ?_, fun c => ?_⟩
    · rw [if_pos (by rw [lg_le, l_max53, l_natI (by omega)]; omega), if_pos (by rw [lg_eq, c]; rfl), (ck_rd H).1, ck_p]
      rfl
    · rw [if_pos (by rw [lg_le, l_max53, l_natI (by omega)]; omega), if_neg (by
        rw [lg_eq]
        intro x
        have := congrArg Int64.toInt x
        rw [l_natI (by omega), z0] at this
        omega), (ck_rd H).1, (ck_rd H).2.1, ck_part H (by omega) (by omega), o_bind]
    · rw [if_neg (by rw [lg_le, l_max53, l_natI (by omega)]; omega), cbreak H, o_bind, if_pos rfl]
  refine ⟨fun c => ?_, fun c => ?_⟩
  · have w0 : w = 0 := by
      rw [w2, show (48 : Int32) = Int32.ofNat 48 from rfl, i_inj (by omega) (by omega)] at c
      omega
    refine (key (k + 1) 0 (by omega) (by omega) (by omega) ?_).1 rfl
    rw [dg, if_pos w0]
    rfl
  · have w0 : w ≠ 0 := fun x => c (by rw [w2, x]; rfl)
    have sb : ∀ (ds : List Int32) (a : Nat), (∀ b ∈ ds, sg_digit b ≠ 0) → a ≤ 90071992547409919 → ds.foldl sat a ≤ 90071992547409919 := by
      intro ds
      induction ds with
      | nil => intro a _ h; exact h
      | cons b ds ih =>
        intro a hd ha
        rw [List.foldl_cons]
        refine ih _ (fun x hx => hd x (List.mem_cons_of_mem _ hx)) ?_
        obtain ⟨d, d1, d2, d3, -⟩ := dig_d (hd b List.mem_cons_self)
        unfold sat
        split
        · rw [d3]; omega
        · exact ha
    have sw : sat 0 (atP' ts k) = w := by unfold sat; rw [if_pos (by omega), w3]; omega
    have eW : (digs ts k).foldl sat 0 = (digs ts (k + 1)).foldl sat w := by rw [e1, List.foldl_cons, sw]
    have eL : k + (digs ts k).length = k + 1 + (digs ts (k + 1)).length := by rw [e1, List.length_cons]; omega
    have hle := digs_len ts (k + 1) (by omega)
    have hW : (digs ts (k + 1)).foldl sat w ≤ 90071992547409919 := sb _ _ (digs_dig ts (k + 1)) (by omega)
    have hd : c_digits (ck S dr k B (-1)) = some (ck S dr (k + 1 + (digs ts (k + 1)).length) B (-1), Int64.ofNat ((digs ts (k + 1)).foldl sat w)) := by
      rw [dg, if_neg w0, cdig_l H 10000 (k + 1) w (by omega) (by omega) (by omega) (by omega)]
    obtain ⟨-, k2, k3⟩ := key _ _ hW (by omega) (by omega) hd
    rw [eW, eL]
    refine ⟨fun x => k2 ?_ x, fun x => ⟨_, _, _, k3 x, i_ne1 (by omega), by omega⟩⟩
    rw [← eW] at x ⊢
    have := (digs_num hl (by omega) h c x).2
    omega
theorem cnum_v {S : SS} {dr k : Nat} {B ts : List Int32} (H : CK S dr ts) (hk : k ≤ ts.length) : (∀ v e, pNum ts k = some (v, e) → c_number (ck S dr k B (-1)) = some (ck S dr e (B ++ pnum v) (-1))) ∧ (pNum ts k = none → badC S dr ts (c_number (ck S dr k B (-1)))) := by
  have hl := H.2.1
  obtain ⟨k', hk'⟩ : ∃ k', k' = if atP' ts k = 45 then k + 1 else k := ⟨_, rfl⟩
  have e : c_number (ck S dr k B (-1)) = cnumB (ck S dr k' B (-1)) (Int32.ofNat k) := by
    rw [cnumB_eq, ck_t H, (ck_rd H).2.1]
    by_cases c : atP' ts k = 45
    · have c' : tat ts (Int32.ofNat k) = 45 := c
      rw [if_pos c', i_a1, ck_w2 H.2.2.1, hk', if_pos c]
    · have c' : ¬ tat ts (Int32.ofNat k) = 45 := c
      rw [if_neg c', hk', if_neg c]
  have kk : k ≤ k' ∧ k' ≤ k + 1 := by rw [hk']; split <;> omega
  unfold pNum
  rw [← hk', e]
  obtain ⟨a1, a2⟩ := cnumB_v (st := k) (B := B) H (show k' ≤ ts.length + 1 by omega) kk.1
  by_cases h1 : sg_digit (atP' ts k') = 0
  · rw [if_pos h1]
    exact ⟨fun v e h => (by cases h), fun _ => a1 h1⟩
  rw [if_neg h1]
  obtain ⟨a3, a4⟩ := a2 h1
  by_cases h2 : atP' ts k' = 48
  · rw [if_pos h2]
    exact ⟨fun v e h => by cases h; exact a3 h2, fun h => by cases h⟩
  rw [if_neg h2]
  obtain ⟨a5, a6⟩ := a4 h2
  by_cases h3 : (digs ts k').foldl sat 0 ≤ 9007199254740991
  rotate_left
  · rw [if_neg h3]
    exact ⟨fun v e h => (by cases h), fun _ => a6 h3⟩
  rw [if_pos h3]
  refine ⟨fun v e h => ?_, fun h => by cases h⟩
  obtain ⟨d1, d2⟩ := digs_num hl (by omega) h1 h2 h3
  have dp := digs_pre ts k'
  cases h
  rw [a5 h3]
  congr 2
  rw [List.drop_take]
  by_cases c : atP' ts k = 45
  · rw [if_pos c]
    rw [if_pos c] at hk'
    obtain ⟨lk, -, l3⟩ := at_lt hl (by omega) c (by decide)
    unfold pnum
    rw [if_pos (by omega), Int.natAbs_neg, Int.natAbs_natCast, d1, l3, show k' + (digs ts k').length - k = (digs ts k').length + 1 by omega, List.take_succ_cons, ← hk', dp]
    rfl
  · rw [if_neg c]
    rw [if_neg c] at hk'
    unfold pnum
    rw [if_neg (by omega), Int.natAbs_natCast, d1, show k' + (digs ts k').length - k = (digs ts k').length by omega, ← hk', dp]
    rfl
/-- members that stand before the one that is read -/
def pj (L : List Mb) : List Int32 := L.flatMap fun m => bM true m ++ [44]
theorem pj_app (L : List Mb) (m : Mb) : pj (L ++ [m]) = pj L ++ (bM true m ++ [44]) := by
  unfold pj
  rw [List.flatMap_append]
  simp
theorem asc_bM {m : Mb} (h : okS m.1 ∧ wV m.2) : asc (bM true m) := by
  unfold bM
  simp only [if_true]
  exact ((pstr_pass h.1).2.app (asc.cons (by decide) asc.nil)).app (bV_pass _ h.2).2
theorem asc_pj {L : List Mb} (h : okL L) : asc (pj L) := by
  intro u hu
  obtain ⟨m, m1, m2⟩ := List.mem_flatMap.mp hu
  exact ((asc_bM (h m m1)).app (asc.cons (by decide) asc.nil)) u m2
theorem cwas_l {S : SS} {dr k nm : Nat} {U ts s : List Int32} {b : Int32} (H : CK S dr ts) (hl : U.length ≤ 4096) (hA : asc U) (hs : okS s) (hnm : U.drop nm = pstr s ++ []) : ∀ (L : List Mb) (n q c : Nat), okL L → U.drop q = pj L ++ pstr s → q + (pj L).length = nm → c < q → L.length < n → c_wasThere_l7 (ck S dr k U b) n (Int32.ofNat nm) (Int32.ofNat q) (Int32.ofNat c) = some (if s ∈ L.map (fun m => m.1) then 1 else 0) := by
  have eT : tT (ck S dr k U b) ((rd (ck S dr k U b) 68 1).toNatClampNeg) = U := by rw [(ck_rd H).1, ck_T, List.take_of_length_le hl]
  have hps : 0 < (pstr s).length := by unfold pstr; simp
  have lnm : nm < U.length := by
    have := congrArg List.length hnm
    rw [List.length_drop, List.append_nil] at this
    omega
  intro L
  induction L with
  | nil =>
    intro n q c _ hd hq hc hn
    obtain ⟨n, rfl⟩ : ∃ n', n = n' + 1 := ⟨n - 1, by simp at hn; omega⟩
    have hq : q = nm := by simpa [pj] using hq
    unfold c_wasThere_l7
    rw [if_neg (by rw [i_le' (by omega) (by omega)]; omega), if_pos ((i_le' (by omega) (by omega)).mpr (by omega))]
    rfl
  | cons m L ih =>
    intro n q c hok hd hq hc hn
    obtain ⟨n, rfl⟩ : ∃ n', n = n' + 1 := ⟨n - 1, by omega⟩
    have hm := hok m List.mem_cons_self
    have ep : pj (m :: L) = bM true m ++ 44 :: pj L := by
      unfold pj
      rw [List.flatMap_cons, List.append_assoc]
      rfl
    rw [ep] at hd hq
    rw [List.length_append, List.length_cons] at hq
    have hd1 : U.drop q = pstr m.1 ++ (58 :: (bV m.2 ++ (44 :: (pj L ++ pstr s)))) := by
      rw [hd]
      unfold bM
      simp only [if_true, List.append_assoc, List.cons_append, List.nil_append]
    unfold c_wasThere_l7
    rw [if_neg (by rw [i_le' (by omega) (by omega)]; omega), if_neg (by rw [i_le' (by omega) (by omega)]; omega), eT, same_str hl hl hm.1 hs hd1 hnm, o_bind]
    by_cases c1 : m.1 = s
    · rw [if_pos c1, if_neg (by decide), if_pos (by rw [List.map_cons, c1]; exact List.mem_cons_self)]
    · have ie : t_itemEnd U (Int32.ofNat q) = some (Int32.ofNat (q + (bM true m).length)) := by
        unfold t_itemEnd
        rw [ns_at hl hA (cc := 0) (c := false) ⟨fun _ => rfl, fun _ => rfl⟩ hd (by omega), o_bind, List.append_assoc, bM_pass hm.1 hm.2, List.cons_append, sc_stop (Or.inl rfl)]
        rfl
      rw [if_neg c1, if_pos rfl, ie, o_bind, i_a1, i_a1]
      have hd2 : U.drop (q + (bM true m).length + 1) = pj L ++ pstr s := by
        have : U.drop q = (bM true m ++ [44]) ++ (pj L ++ pstr s) := by rw [hd]; simp
        have := drop_more this
        rw [List.length_append] at this
        exact this
      rw [ih n _ (c + 1) hok.tail hd2 (by omega) (by omega) (by simp at hn; omega)]
      congr 1
      by_cases c2 : s ∈ L.map (fun m => m.1)
      · rw [if_pos c2, if_pos (by rw [List.map_cons]; exact List.mem_cons_of_mem _ c2)]
      · rw [if_neg c2, if_neg (by
          rw [List.map_cons]
          intro x
          rcases List.mem_cons.mp x with y | y
          · exact c1 y.symm
          · exact c2 y)]
theorem pj_ge (L : List Mb) : L.length ≤ (pj L).length := by
  induction L with
  | nil => simp [pj]
  | cons m L ih =>
    have : pj (m :: L) = (bM true m ++ [44]) ++ pj L := by unfold pj; rw [List.flatMap_cons]
    rw [this, List.length_append, List.length_append, List.length_cons]
    simp only [List.length_cons, List.length_nil]
    omega
theorem cwas_v {S : SS} {dr k : Nat} {B0 ts s : List Int32} {L : List Mb} {b : Int32} (H : CK S dr ts) (h0 : asc B0) (hL : okL L) (hs : okS s) (hl : (B0 ++ 123 :: pj L ++ pstr s).length ≤ 4096) : c_wasThere (ck S dr k (B0 ++ 123 :: pj L ++ pstr s) b) (Int32.ofNat B0.length) (Int32.ofNat (B0 ++ 123 :: pj L).length) = some (if s ∈ L.map (fun m => m.1) then 1 else 0) := by
  have hA : asc (B0 ++ 123 :: pj L ++ pstr s) := (h0.app (asc.cons (by decide) (asc_pj hL))).app (pstr_pass hs).2
  have h1 : (B0 ++ 123 :: pj L ++ pstr s).drop (B0 ++ 123 :: pj L).length = pstr s ++ [] := by rw [List.drop_left, List.append_nil]
  have h2 : (B0 ++ 123 :: pj L ++ pstr s).drop (B0.length + 1) = pj L ++ pstr s := by
    rw [show B0 ++ 123 :: pj L ++ pstr s = (B0 ++ [123]) ++ (pj L ++ pstr s) by simp, show B0.length + 1 = (B0 ++ [123]).length by simp, List.drop_left]
  have := pj_ge L
  have l1 : (B0 ++ 123 :: pj L).length = B0.length + 1 + (pj L).length := by simp; omega
  rw [List.length_append, l1] at hl
  unfold c_wasThere
  rw [i_a1]
  exact cwas_l H (by rw [List.length_append, l1]; exact hl) hA hs h1 L 10000 (B0.length + 1) 0 hL h2 l1.symm (by omega) (by omega)
theorem bad_tail {S : SS} {dr k : Nat} {B ts : List Int32} {b : Int32} (H : CK S dr ts) (hb : b ≠ -1) (hk : k ≤ ts.length + 8) : badC S dr ts ((c_blanks (ck S dr k B b)).bind fun r9 => ((c_take r9 58).bind fun r11 => ((c_blanks r11).bind fun r13 => some r13))) := by
  have hl := H.2.1
  have m1 := skp_mx ts k
  rw [cblanks H (by omega), o_bind]
  obtain ⟨k', B', b', e1, e2, e3⟩ := bad_take (s := 58) (B := B) H hb (show skp ts k ≤ ts.length + 8 by omega) (by decide)
  have m2 := skp_mx ts k'
  rw [e1, o_bind, cblanks H (by omega), o_bind]
  exact ⟨_, _, _, rfl, e2, by omega⟩
theorem cname_v {S : SS} {dr k : Nat} {B0 ts : List Int32} {L : List Mb} (H : CK S dr ts) (h0 : asc B0) (hL : okL L) (hk : k ≤ ts.length) (hB : (B0 ++ 123 :: pj L).length ≤ k) : (atP' ts k ≠ 34 → badC S dr ts (c_name (ck S dr k (B0 ++ 123 :: pj L) (-1)) (Int32.ofNat B0.length))) ∧ (atP' ts k = 34 → (pStr ts 5000 (k + 1) = none → badC S dr ts (c_name (ck S dr k (B0 ++ 123 :: pj L) (-1)) (Int32.ofNat B0.length))) ∧ ∀ s e, pStr ts 5000 (k + 1) = some (s, e) → (s ∈ L.map (fun m => m.1) ∨ atP' ts (skp ts e) ≠ 58 → badC S dr ts (c_name (ck S dr k (B0 ++ 123 :: pj L) (-1)) (Int32.ofNat B0.length))) ∧ (¬ s ∈ L.map (fun m => m.1) → atP' ts (skp ts e) = 58 → c_name (ck S dr k (B0 ++ 123 :: pj L) (-1)) (Int32.ofNat B0.length) = some (ck S dr (skp ts (skp ts e + 1)) (B0 ++ 123 :: pj L ++ (pstr s ++ [58])) (-1)))) := by
  have hl := H.2.1
  have eT : tT (ck S dr k (B0 ++ 123 :: pj L) (-1)) ((rd (ck S dr k (B0 ++ 123 :: pj L) (-1)) 68 1).toNatClampNeg) = B0 ++ 123 :: pj L := by rw [(ck_rd H).1, ck_T, List.take_of_length_le (by omega)]
  refine ⟨fun h => ?_, fun h => ⟨fun h1 => ?_, fun s e h1 => ?_⟩⟩
  · have h' : ¬ tat ts (Int32.ofNat k) = 34 := h
    unfold c_name
    rw [ck_t H, (ck_rd H).2.1, if_neg h', cbreak H, o_bind, if_pos rfl]
    exact ⟨_, _, _, rfl, i_ne1 (by omega), by omega⟩
  · have h' : tat ts (Int32.ofNat k) = 34 := h
    obtain ⟨k', B', b', e1, e2, e3⟩ := (cstring_v (B := B0 ++ 123 :: pj L) H h (by omega)).2 h1
    unfold c_name
    rw [ck_t H, (ck_rd H).2.1, if_pos h', e1, o_bind, cfine_n H e2, o_bind, if_pos rfl]
    exact bad_tail H e2 e3
  · have h' : tat ts (Int32.ofNat k) = 34 := h
    have e1 := (cstring_v (B := B0 ++ 123 :: pj L) H h (by omega)).1 s e h1
    obtain ⟨c1, c2, c3⟩ := pStr_ok hl 5000 (k + 1) s e (by omega) h1
    obtain ⟨u1, u2⟩ := skp_le ts e
    have u2 := u2 c3
    have hlen : (B0 ++ 123 :: pj L ++ pstr s).length ≤ 4096 := by
      rw [List.length_append]
      unfold pstr
      simp only [List.length_cons, List.length_append, List.length_nil]
      simp only [List.length_cons, List.length_append] at hB
      omega
    have u : c_name (ck S dr k (B0 ++ 123 :: pj L) (-1)) (Int32.ofNat B0.length) = if s ∈ L.map (fun m => m.1) then ((c_blanks (ck S dr e (B0 ++ 123 :: pj L ++ pstr s) (Int32.ofNat k))).bind fun r9 => ((c_take r9 58).bind fun r11 => ((c_blanks r11).bind fun r13 => some r13))) else ((c_blanks (ck S dr e (B0 ++ 123 :: pj L ++ pstr s) (-1))).bind fun r9 => ((c_take r9 58).bind fun r11 => ((c_blanks r11).bind fun r13 => some r13))) := by
      unfold c_name
      rw [ck_t H, (ck_rd H).2.1, if_pos h', e1, o_bind, cfine_y H, o_bind, if_neg (show ¬ (1 : Int32) = 0 by decide), eT, cwas_v H h0 hL c1 hlen, o_bind, cbreak H, o_bind, if_pos rfl]
      by_cases c : s ∈ L.map (fun m => m.1)
      · rw [if_pos c, if_pos c, if_neg (show ¬ (1 : Int32) = 0 by decide)]
      · rw [if_neg c, if_neg c, if_pos rfl]
    rw [u]
    refine ⟨fun c => ?_, fun c d => ?_⟩
    · by_cases c' : s ∈ L.map (fun m => m.1)
      · rw [if_pos c']
        exact bad_tail H (i_ne1 (by omega)) (by omega)
      · rw [if_neg c', cblanks H (by omega), o_bind]
        obtain ⟨k', B', b', e1, e2, e3⟩ := bad_no (B := B0 ++ 123 :: pj L ++ pstr s) H (show skp ts e ≤ ts.length + 8 by omega) (c.resolve_left c')
        have m2 := skp_mx ts k'
        rw [e1, o_bind, cblanks H (by omega), o_bind]
        exact ⟨_, _, _, rfl, e2, by omega⟩
    · obtain ⟨l58, -, -⟩ := at_lt hl (by omega) d (by decide)
      rw [if_neg c, cblanks H (by omega), o_bind, ctake_y H d, o_bind, cblanks H (by omega), o_bind, List.append_assoc]
      rfl
end CRead183
