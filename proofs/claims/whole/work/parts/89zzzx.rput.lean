/-! The reference puts a value at the end of a path. -/
section RPut165
theorem rpO.ref {S S1 : SS} {C : List Int32} {o : Option Vl} {dp : Nat} (h78 : (S 78).length = 22) (h : rpO S S1 C o dp) : ∃ S2, ((b_refuse S1 1).bind fun r => some r) = some S2 ∧ rpO S S2 C none dp := by
  obtain ⟨f, C', h1, h2, h3⟩ := h
  by_cases h0 : rd S1 78 12 = 0
  · refine ⟨wr S1 78 12 1, by unfold b_refuse; rw [h0, if_pos rfl, o_bind], ⟨fun a a1 a2 a3 => by rw [wr_ne a1, f.1 a a1 a2 a3], fun k k1 k2 k3 => by rw [rd_wr_j (fun e => k1 e.symm), f.2.1 k k1 k2 k3], by rw [wr_len, f.2.2]⟩, C', ?_, fun T hT => (by cases hT), fun _ => ?_⟩
    · unfold OutV rd at h1 ⊢
      rw [wr_ne (by decide), wr_ne (by decide)]
      exact h1
    · rw [rd_wr (by rw [f.2.2, h78]; decide)]
      decide
  · refine ⟨S1, by unfold b_refuse; rw [if_neg h0, o_bind], f, C', h1, fun T hT => (by cases hT), fun _ => ?_⟩
    cases o with
    | none => exact h3 rfl
    | some T => exact absurd (h2 T rfl).1 h0
theorem l66_val {aa pb vb N dp : Nat} {pt vt t : Vl} {C : List Int32} {p0 : Int32} {rec : SS → Nat → Int32 → Int32 → Int32 → Option SS} (hk6 : t.1 ≤ 6) (hdp : t.1 ≠ 0 → dV t + dp ≤ 60) (hrec : ∀ ls', recO rec aa pb vb N dp pt vt ls') : ∀ (ls : List Mb) (n i : Nat) (S : SS) (w : Option (Nat × Nat)), prP S aa pb vb pt vt → atP S pb i N ls → rd S 78 12 = 0 → OutV S C → ls.length < n → (w.isSome → t.1 = 5 ∨ t.1 = 0) → (t.1 = 5 → spR S aa t w p0) → (t.1 = 6 → ∃ p, p0 = Int32.ofNat p ∧ p < 9000 ∧ cat (S aa) p t) → ∃ S', b_putB_l66 aa rec n S p0 (Int32.ofNat dp) (Int32.ofNat t.1) (Int32.ofNat i) (if w.isSome then 1 else 0) = some S' ∧ rpO S S' C (putS (ls.map fun m => m.2) t w vt) dp := by
  intro ls
  induction ls with
  | nil =>
    intro n i S w hP hA hr ho hn hw h5 h6
    obtain ⟨n, rfl⟩ : ∃ j, n = j + 1 := ⟨n - 1, by omega⟩
    obtain ⟨p1, p2, -, -⟩ := hP.p
    obtain ⟨a1, a2, a3, a4, r, a5⟩ := hA
    have z : (blks false []).flatten.length = 0 := rfl
    have hiN : i = N := by omega
    obtain ⟨S', y1, y2⟩ := last_val (dp := dp) hP ho hr hw h5 hk6
    refine ⟨S', ?_, y2⟩
    unfold b_putB_l66
    rw [if_neg p1, p2, a2, o_bind, if_pos ((i_le' (by omega) (by omega)).mpr (by omega)), if_pos (by rw [hiN]), y1]
  | cons m ls ih =>
    intro n i S w hP hA hr ho hn hw h5 h6
    obtain ⟨n, rfl⟩ : ∃ j, n = j + 1 := ⟨n - 1, by omega⟩
    obtain ⟨p1, p2, -, -⟩ := hP.p
    obtain ⟨-, -, cp, cv, h39, h40, h78, b1, b2, b3⟩ := id hP
    obtain ⟨c1, c2, c3, c4⟩ := hA.cons cp.1
    obtain ⟨a1, a2, a3, -⟩ := id hA
    have k6 := c2.2.1.1
    have hn' : ls.length < n := by simp only [List.length_cons] at hn; omega
    obtain ⟨Sr, y1, y2⟩ := rref (v := 1) (dp := dp) h78 ho (by decide) hr
    have ne : ¬ Int32.ofNat i = Int32.ofNat N := by rw [i_inj (by omega) (by omega)]; omega
    rw [List.map_cons]
    unfold b_putB_l66
    rw [if_neg p1, p2, a2, o_bind, if_neg (by rw [i_le' (by omega) (by omega)]; omega), c2.kind, o_bind]
    by_cases e6 : m.2.1 = 6
    · obtain ⟨g1, g2⟩ := part_val c2 e6 h39 h40
      rw [if_pos (by rw [e6]; rfl)]
      have eS : putS (m.2 :: ls.map fun m => m.2) t w vt = if @decide (okBd m.2) (Classical.propDecidable _) = true then (if t.1 = 5 then putS (ls.map fun m => m.2) t (some (nwA m.2 (winA t w) (winE t w), nwB m.2 (winA t w) (winE t w))) vt else if t.1 = 0 then putS (ls.map fun m => m.2) vNull (some (0, 0)) vt else none) else none := by
        show (if m.2.1 = 6 then _ else _) = _
        rw [if_pos e6]
      by_cases ok : okBd m.2
      · rw [g1 ok, o_bind, if_neg (by decide)]
        rw [if_pos (@decide_eq_true _ (Classical.propDecidable _) ok)] at eS
        by_cases t5 : t.1 = 5
        · obtain ⟨S1, q1, q2, q3⟩ := rnarrow_val (ab := pb) (i := i) h78 (by omega) h39 h40 (h5 t5) c2 e6 ⟨Or.inr t5, ok.1, ok.2⟩
          rw [if_pos t5] at q1
          have f1 := fr3_N q2
          have hP1 := hP.fr f1
          obtain ⟨p1', p2', -, -⟩ := hP1.p
          have hO1 : OutV S1 C := by
            unfold OutV rd at ho ⊢
            rw [q2.1 91 (by decide), q2.1 90 (by decide)]
            exact ho
          obtain ⟨S', j1, j2, j3⟩ := ih n (i + (cV m.2).length) S1 _ hP1 (c4.fr b2 f1) (by rw [q2.2.1 12 (by decide) (by decide)]; exact hr) hO1 hn' (fun _ => Or.inl t5) (fun _ => q3) (fun c => by omega)
          rw [if_pos t5] at eS
          rw [eS]
          refine ⟨S', ?_, f1.trans j2, j3⟩
          rw [if_pos (by rw [t5]; rfl)]
          unfold b_putB_l118
          rw [if_pos (by rw [t5]; rfl), if_neg p1, p2, q1, o_bind, if_neg p1', p2', q2.1 pb (by omega), c3, o_bind]
          exact j1
        · rw [if_neg (kne5 hk6 t5)]
          rw [if_neg t5] at eS
          by_cases t0 : t.1 = 0
          · rw [if_pos t0, ← putS_null t0] at eS
            obtain ⟨S', j1, j2⟩ := ih n (i + (cV m.2).length) S (some (0, 0)) hP c4 hr ho hn' (fun _ => Or.inr t0) (fun c => absurd c t5) (fun c => by omega)
            rw [eS]
            refine ⟨S', ?_, j2⟩
            rw [if_pos (by rw [t0]; rfl)]
            unfold b_putB_l118
            rw [if_neg (kne5 hk6 t5), if_neg p1, p2, c3, o_bind]
            exact j1
          · rw [if_neg t0] at eS
            rw [eS, if_neg (kne0 hk6 t0), y1]
            exact ⟨Sr, rfl, y2⟩
      · rw [if_neg (fun c => ok (@of_decide_eq_true _ (Classical.propDecidable _) c))] at eS
        rw [eS, g2 ok, o_bind, if_pos rfl, y1]
        exact ⟨Sr, rfl, y2⟩
    rw [if_neg (kne6 k6 e6), if_neg ne]
    by_cases e4 : m.2.1 = 4
    · rw [if_pos (by rw [e4]; rfl)]
      by_cases t6 : t.1 = 6
      · have hwn : w = none := by
          cases w with
          | none => rfl
          | some ab => rcases hw rfl with c | c <;> omega
        subst hwn
        obtain ⟨p, ep, hp9, hc⟩ := h6 t6
        obtain ⟨kt, v0, s0, ft⟩ := t
        obtain ⟨l, rfl⟩ : ∃ l, ft = ofL l := ⟨toL ft, (ofL_toL ft).symm⟩
        have t6 : kt = 6 := t6
        subst t6
        obtain ⟨S', j1, j2⟩ := pname_6 hP ho hr hA e4 hc hp9 (hdp (show ¬ (6 : Nat) = 0 by decide)) (hrec ls)
        have eS : putS (m.2 :: ls.map fun m => m.2) (6, v0, s0, ofL l) none vt = (putS (ls.map fun m => m.2) ((byN (6, v0, s0, ofL l) m.2.2.2.1).getD vNull) none vt).map (fun u => (6, v0, s0, ofL (setM l m.2.2.2.1 u))) := by
          show (if m.2.1 = 6 then _ else if m.2.1 = 4 then (if (none : Option (Nat × Nat)).isSome = true then none else if (6 : Nat) = 6 then _ else _) else _) = _
          rw [if_neg (by omega), if_pos e4, if_neg (by decide), if_pos rfl]
          simp only [toL_ofL]
        rw [eS]
        refine ⟨S', ?_, j2⟩
        rw [if_pos (show Int32.ofNat ((6, v0, s0, ofL l) : Vl).1 = 6 from rfl), ep]
        show ((b_putName S aa rec (Int32.ofNat p) 6 (Int32.ofNat i) (Int32.ofNat dp)).bind fun r68 => (if (0 : Int32) = 0 then some r68 else _)) = _
        rw [j1, o_bind, if_pos rfl]
      · rw [if_neg (kne6 hk6 t6)]
        by_cases t0 : t.1 = 0
        · rw [if_pos (by rw [t0]; rfl), putS_null t0, putS_4 e4, show Int32.ofNat t.1 = 0 by rw [t0]; rfl]
          obtain ⟨S', j1, j2⟩ := pname_0 (p0 := p0) hP ho hr hA e4 (hrec ls)
          rw [j1, o_bind]
          cases w with
          | none =>
            rw [if_pos (show (if (none : Option (Nat × Nat)).isSome = true then (1 : Int32) else 0) = 0 from rfl), if_neg (by decide)]
            exact ⟨S', rfl, j2⟩
          | some ab =>
            obtain ⟨S2, z1, z2⟩ := j2.ref h78
            rw [if_neg (show ¬ (if (some ab : Option (Nat × Nat)).isSome = true then (1 : Int32) else 0) = 0 from fun e => absurd e (show ¬ (1 : Int32) = 0 by decide)), z1, if_pos (show (some ab : Option (Nat × Nat)).isSome = true from rfl)]
            exact ⟨S2, rfl, z2⟩
        · rw [if_neg (kne0 hk6 t0), if_neg (by rw [e4]; decide), y1]
          have eS : putS (m.2 :: ls.map fun m => m.2) t w vt = none := by
            show (if m.2.1 = 6 then _ else if m.2.1 = 4 then (if w.isSome = true then none else if t.1 = 6 then _ else if t.1 = 0 then _ else none) else _) = _
            rw [if_neg e6, if_pos e4, if_neg t6, if_neg t0]
            split <;> rfl
          rw [eS]
          exact ⟨Sr, rfl, y2⟩
    rw [if_neg (kne4 k6 e4)]
    by_cases e3 : m.2.1 = 3
    · rw [if_pos (by rw [e3]; rfl)]
      by_cases t5 : t.1 = 5
      · obtain ⟨p, ep, hp9, -⟩ := id (h5 t5)
        obtain ⟨kt, v0, s0, ft⟩ := t
        obtain ⟨l, rfl⟩ : ∃ l, ft = ofL l := ⟨toL ft, (ofL_toL ft).symm⟩
        have t5 : kt = 5 := t5
        subst t5
        obtain ⟨S', j1, j2⟩ := pplace_5 (p := p) hP ho hr hA e3 (by rw [← ep]; exact h5 rfl) hp9 (hdp (show ¬ (5 : Nat) = 0 by decide)) (hrec ls)
        refine ⟨S', ?_, j2⟩
        rw [if_pos (show Int32.ofNat ((5, v0, s0, ofL l) : Vl).1 = 5 from rfl), ep]
        show ((b_putPlace S aa rec (Int32.ofNat p) 5 (Int32.ofNat i) (Int32.ofNat dp)).bind fun r33 => some r33) = _
        rw [j1, o_bind]
      · rw [if_neg (kne5 hk6 t5)]
        by_cases t0 : t.1 = 0
        · rw [if_pos (by rw [t0]; rfl), putS_null t0, putS_3 e3, show Int32.ofNat t.1 = 0 by rw [t0]; rfl]
          obtain ⟨S', j1, j2⟩ := pplace_0 (p0 := p0) hP ho hr hA e3 (hrec ls)
          rw [j1, o_bind]
          exact ⟨S', rfl, j2⟩
        · rw [if_neg (kne0 hk6 t0), y1]
          have eS : putS (m.2 :: ls.map fun m => m.2) t w vt = none := by
            show (if m.2.1 = 6 then _ else if m.2.1 = 4 then _ else if m.2.1 = 3 then (if t.1 = 5 then _ else if t.1 = 0 then _ else none) else _) = _
            rw [if_neg e6, if_neg e4, if_pos e3, if_neg t5, if_neg t0]
          rw [eS]
          exact ⟨Sr, rfl, y2⟩
    · rw [if_neg (kne3 k6 e3), y1, putS_x e3 e4 e6]
      exact ⟨Sr, rfl, y2⟩
/-- the window of a whole array -/
theorem spR_all {S : SS} {aa p : Nat} {t : Vl} (h78 : (S 78).length = 22) (haa : aa ≠ 78) (hp9 : p < 9000) (hc : cat (S aa) p t) (t5 : t.1 = 5) : spR (wr (wr S 78 17 (Int32.ofNat p + 2)) 78 18 (Int32.ofNat (p + (cV t).length))) aa t none (Int32.ofNat p) := by
  obtain ⟨kt, v0, s0, ft⟩ := t
  obtain ⟨l, rfl⟩ : ∃ l, ft = ofL l := ⟨toL ft, (ofL_toL ft).symm⟩
  have t5 : kt = 5 := t5
  subst t5
  obtain ⟨r1, r2⟩ := rd_win S (Int32.ofNat p + 2) (Int32.ofNat (p + (cV (5, v0, s0, ofL l)).length)) h78
  have e2 : Int32.ofNat p + 2 = Int32.ofNat (p + 2) := (Int32.ofNat_add p 2).symm
  have ep0 : pos (5, v0, s0, ofL l) p 0 = p + 2 := by
    obtain ⟨y1, -, -⟩ := pos_in hc (Nat.zero_le l.length)
    rw [y1]
    show p + 2 + 0 = _
    omega
  have epn : pos (5, v0, s0, ofL l) p l.length = p + (cV (5, v0, s0, ofL l)).length := by
    obtain ⟨y1, y2, -⟩ := pos_in hc (Nat.le_refl l.length)
    rw [y1, y2, List.take_of_length_le (Nat.le_refl _)]
    omega
  have hsz : size (5, v0, s0, ofL l) = l.length := by unfold size; rw [if_neg (show ¬ (5 : Nat) = 4 by decide)]; exact congrArg List.length (toL_ofL l)
  have eE : winE (5, v0, s0, ofL l) none = l.length := by
    show 0 + size (5, v0, s0, ofL l) = _
    omega
  refine ⟨p, rfl, hp9, by rw [wr_ne haa, wr_ne haa]; exact hc, (fun _ _ e => by cases e), fun _ => ⟨by rw [r1, e2], r2⟩, fun _ => ⟨?_, ?_⟩⟩
  · rw [r1, e2, show winA (5, v0, s0, ofL l) none = 0 from rfl, ep0]
  · rw [r2, eE, epn]
/-- put, by the reference -/
theorem put_val {aa pb vb N : Nat} {pt vt : Vl} : ∀ (n dp : Nat), dp + n = 70 → dp ≤ 65 → ∀ (ls : List Mb) (S : SS) (C : List Int32) (p0 : Int32) (t : Vl) (i : Nat), prP S aa pb vb pt vt → atP S pb i N ls → OutV S C → rd S 78 12 = 0 → tgt S aa p0 t → (t.1 ≠ 0 → dV t + dp ≤ 60) → ∃ S', b_put n S aa p0 (Int32.ofNat i) (Int32.ofNat dp) = some S' ∧ rpO S S' C (putS (ls.map fun m => m.2) t none vt) dp := by
  intro n
  induction n with
  | zero => intro dp h1 h2; omega
  | succ n ih =>
    intro dp hdn hd65 ls S C p0 t i hP hA ho hr ht hdV
    obtain ⟨-, -, cp, cv, h39, h40, h78, b1, b2, b3⟩ := id hP
    have hll : ls.length < 10000 := by
      obtain ⟨a1, a2, a3, a4, -⟩ := hA
      have hbl := blks_len false ls
      have hfl := flat2 _ (blks_h (b := false) a1)
      simp only [Bool.false_eq_true, if_false] at hbl
      omega
    have hrec : dp ≤ 64 → ∀ ls', recO (b_put n) aa pb vb N dp pt vt ls' := fun h64 ls' S C p0 t' i hP hA ho hr ht hd => ih (dp + 1) (by omega) (by omega) ls' S C p0 t' i hP hA ho hr ht hd
    have c64 : dp ≤ 64 → Int32.ofNat dp ≤ 64 := fun h => by rw [show (64 : Int32) = Int32.ofNat 64 from rfl, i_le' (by omega) (by omega)]; exact h
    have n64 : ¬ dp ≤ 64 → ¬ Int32.ofNat dp ≤ 64 := fun h => by rw [show (64 : Int32) = Int32.ofNat 64 from rfl, i_le' (by omega) (by omega)]; exact h
    -- too deep
    have deep : ¬ dp ≤ 64 → t.1 = 0 → ∃ S', ((b_rest (wr S 90 2 1) 0 (Int32.ofNat i)).bind fun r99 => some r99) = some S' ∧ rpO S S' C (putS (ls.map fun m => m.2) t none vt) dp := by
      intro hdeep t0
      have l90 : (S 90).length = 3 := ho.2.1
      have f1 : fr3 S (wr S 90 2 1) := ⟨fun a _ a2 _ => wr_ne a2, fun k _ _ _ => rd_wr_ne (by decide), by rw [wr_ne (by decide)]⟩
      obtain ⟨S', j1, j2⟩ := rest_l ls 10000 i (wr S 90 2 1) 0 0 (hP.fr f1) (hA.fr b2 f1) hll (by rw [rd_wr_ne (by decide)]; exact hr) (Or.inl rfl) (Or.inl rfl)
      have big : ∀ X : SS, X 91 = S 91 → X 90 = wr S 90 2 1 90 → OutV X (C ++ List.replicate 9001 0) := by
        intro X h1 h2
        refine ⟨by rw [h1]; exact ho.1, by rw [h2, wr_len]; exact l90, fun c => ?_, fun _ => ?_⟩
        · rw [List.length_append, List.length_replicate] at c; omega
        · have : rd X 90 2 = rd (wr S 90 2 1) 90 2 := by unfold rd; rw [h2]
          rw [this, rd_wr (by rw [l90]; decide)]
      rw [putS_null t0]
      have e0 : b_rest (wr S 90 2 1) 0 (Int32.ofNat i) = some S' := j1
      refine ⟨S', by rw [e0, o_bind], ?_⟩
      rcases j2 with ⟨y1, -, T, y2, y3⟩ | ⟨⟨v, y1, y2⟩, y3⟩
      · subst y1
        have y2 : putS (ls.map fun m => m.2) vNull none vt = some T := y2
        refine ⟨f1, List.replicate 9001 0, big _ (wr_ne (by decide)) rfl, fun T' hT' => ?_, fun hn => by rw [y2] at hn; cases hn⟩
        rw [y2] at hT'
        cases hT'
        refine ⟨by rw [rd_wr_ne (by decide)]; exact hr, y3, Or.inr ⟨by rw [List.length_replicate]; omega, by omega⟩⟩
      · subst y1
        refine ⟨⟨fun a a1 a2 _ => by rw [wr_ne a1, wr_ne a2], fun k k1 _ _ => by rw [rd_wr_j (fun e => k1 e.symm), rd_wr_ne (by decide)], by rw [wr_len, wr_ne (by decide)]⟩, List.replicate 9001 0, big _ (by rw [wr_ne (by decide), wr_ne (by decide)]) (by rw [wr_ne (by decide)]), fun T hT => ?_, fun _ => ?_⟩
        · rcases y3 with c | c
          · exact absurd c (by decide)
          · have c : putS (ls.map fun m => m.2) vNull none vt = none := c
            rw [c] at hT
            cases hT
        · rw [rd_wr (by rw [wr_ne (by decide), h78]; decide)]
          exact y2
    show ∃ S', b_putB S aa (b_put n) p0 (Int32.ofNat i) (Int32.ofNat dp) = some S' ∧ _
    unfold b_putB
    rcases ht with ⟨e1, e2⟩ | ⟨p, ep, hp9, hc⟩
    · subst e1
      subst e2
      rw [if_pos rfl]
      by_cases h64 : dp ≤ 64
      · rw [if_pos (c64 h64)]
        exact l66_val (t := vNull) (show (0 : Nat) ≤ 6 by decide) (fun c => absurd rfl c) (hrec h64) ls 10000 i S none hP hA hr ho hll (fun c => by cases c) (fun c => absurd c (show ¬ (0 : Nat) = 5 by decide)) (fun c => absurd c (show ¬ (0 : Nat) = 6 by decide))
      · rw [if_neg (n64 h64)]
        exact deep h64 rfl
    · subst ep
      rw [if_neg (i_ne1 (by omega)), hc.kind, o_bind]
      have k6 := hc.2.1.1
      by_cases h64 : dp ≤ 64
      · rw [if_pos (c64 h64)]
        by_cases t5 : t.1 = 5
        · rw [if_pos (by rw [t5]; rfl), wr_ne (show aa ≠ 78 by omega), (hc.next).1, o_bind]
          obtain ⟨S2, hS2⟩ : ∃ S2, S2 = wr (wr S 78 17 (Int32.ofNat p + 2)) 78 18 (Int32.ofNat (p + (cV t).length)) := ⟨_, rfl⟩
          have hsp := spR_all h78 (show aa ≠ 78 by omega) hp9 hc t5
          have fN := frN_wr S (Int32.ofNat p + 2) (Int32.ofNat (p + (cV t).length))
          rw [← hS2] at hsp fN
          rw [← hS2]
          have f1 := fr3_N fN
          have hO1 : OutV S2 C := by
            unfold OutV rd at ho ⊢
            rw [fN.1 91 (by decide), fN.1 90 (by decide)]
            exact ho
          obtain ⟨S', j1, j2, j3⟩ := l66_val k6 hdV (hrec h64) ls 10000 i S2 none (hP.fr f1) (hA.fr b2 f1) (by rw [fN.2.1 12 (by decide) (by decide)]; exact hr) hO1 hll (fun c => by cases c) (fun _ => hsp) (fun c => by omega)
          exact ⟨S', j1, f1.trans j2, j3⟩
        · rw [if_neg (kne5 k6 t5)]
          exact l66_val k6 hdV (hrec h64) ls 10000 i S none hP hA hr ho hll (fun c => by cases c) (fun c => absurd c t5) (fun _ => ⟨p, rfl, hp9, hc⟩)
      · have t0 : t.1 = 0 := by
          apply Classical.byContradiction
          intro c
          have := hdV c
          omega
        rw [if_neg (n64 h64), t0]
        exact deep h64 t0
end RPut165
