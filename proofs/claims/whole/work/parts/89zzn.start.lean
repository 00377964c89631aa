/-! What holds between calls holds at the start. -/
section Start129
def vNull : Vl := (0, 0, [], .leaf)
theorem vNull_ok : wV vNull := ⟨by decide, fun e => absurd e (by decide), (fun c hc => by cases hc), fun _ => rfl, fun e => absurd e (by decide), trivial⟩
theorem S_obj {h : mH} {a t : Nat} {vs : List Value} (hc : h[a]? = some (t, vs)) (h1 : a ∉ shT) (h2 : a ∉ shP) (h3 : a ≠ 101) : S_of h a = vs.map vI := by
  unfold S_of
  rw [if_neg h1, if_neg h2, if_neg h3, hc]
  rfl
theorem S_txt {h : mH} {a : Nat} (h1 : a ∈ shT) : S_of h a = if a = 42 ∨ a = 44 ∨ a = 49 then [0] else [0, 110, 117, 108, 108] := by
  unfold S_of
  rw [if_pos h1]
theorem S_pap {h : mH} {a : Nat} (h1 : a ∉ shT) (h2 : a ∈ shP) : S_of h a = [0] := by
  unfold S_of
  rw [if_neg h1, if_pos h2]
theorem arr_chk : (mp_ar.all fun q => q.2.1 != 1001 || (shP.contains (q.1 - 1) || (!shT.contains q.1 && (!shP.contains q.1 && q.1 != 101)))) = true := by decide +kernel
/-- a new object and a new reference -/
def I0 (S : SS) : Prop := InvL S ∧ InvB S ∧ InvT S [] ∧ InvP S [] ∧ InvG S (fun _ => vNull) 49 [51, 53, 55, 57, 59, 61, 63, 65]
theorem inv_first {xs : List Int32} {h : mH} (hm : m_s2 xs h) : I0 (S_of h) := by
  obtain ⟨m1, m2, m3, m4, m5⟩ := id hm
  have lo : ∀ k, k < 41 → h[k]? = (mp_h0 xs)[k]? := by
    intro k hk
    rw [← m2, List.getElem?_take_of_lt hk]
  have ob : ∀ (i : Nat) (hi : i < mp_ce.length), h[(mp_ce[i]).1]? = some (mp_ce[i]).2 := fun i hi => m4 _ (List.getElem_mem hi)
  have ar : ∀ (i : Nat) (hi : i < mp_ar.length) (a n : Nat) (l : List Int32), a ∉ shT → a ∉ shP → a ≠ 101 → (mp_ar[i]).1 = a → (mp_ar[i]).2.2.1 = n → (mp_ar[i]).2.2.2 = l.map Value.int → (S_of h a).length = n ∧ ∃ j, S_of h a = l ++ j := by
    intro i hi a n l h1 h2 h3 e1 e2 e3
    obtain ⟨vs, v1, v2, v3, v4⟩ := m5 _ (List.getElem_mem hi)
    rw [e1] at v1
    rw [e2] at v2
    rw [e3, List.length_map] at v3
    rw [S_obj v1 h1 h2 h3]
    refine ⟨by rw [List.length_map]; exact v2, (vs.drop l.length).map vI, ?_⟩
    have : vs = l.map Value.int ++ vs.drop l.length := by rw [← v3, List.take_append_drop]
    conv => lhs; rw [this]
    rw [List.map_append, List.map_map]
    congr 1
    exact List.map_id'' (fun _ => rfl) l
  have o41 : S_of h 41 = [42, 44, 46, 68, 47, 67, 69, 72, 75, 49, -1, 0] := (S_obj (ob 0 (by decide)) (by decide) (by decide) (by decide)).trans (by decide)
  have o46 : S_of h 46 = [51, 53, 55, 57, 59, 61, 63, 65] := (S_obj (ob 3 (by decide)) (by decide) (by decide) (by decide)).trans (by decide)
  have o47 : S_of h 47 = [48, 0] := (S_obj (ob 4 (by decide)) (by decide) (by decide) (by decide)).trans (by decide)
  have o78 : S_of h 78 = [0, 0, 0, -1, 0, 79, 80, 81, 90, 92, 94, 96, 0, 97, 98, 99, 100, 0, 0, 0, 0, 0] := (S_obj (ob 21 (by decide)) (by decide) (by decide) (by decide)).trans (by decide)
  have c39 : S_of h 39 = mp_aS := (S_obj (t := 1001) (vs := mp_aS.map Value.int) (by rw [lo 39 (by decide)]; exact ini_A0.1) (by decide) (by decide) (by decide)).trans (by decide)
  have c40 : S_of h 40 = mp_aE := (S_obj (t := 1001) (vs := mp_aE.map Value.int) (by rw [lo 40 (by decide)]; exact ini_A0.2) (by decide) (by decide) (by decide)).trans (by decide)
  have rr : ∀ (r i : Nat) (hi : i < mp_ar.length), r < 8 → (mp_ar[i]).1 = 82 + r → (mp_ar[i]).2.2.1 = 9000 → (mp_ar[i]).2.2.2 = [(0 : Int32), 2].map Value.int → (S_of h (82 + r)).length = 9000 ∧ ∃ j, S_of h (82 + r) = [0, 2] ++ j := by
    intro r i hi hr e1 e2 e3
    have hd : ∀ r, r < 8 → 82 + r ∉ shT ∧ 82 + r ∉ shP ∧ 82 + r ≠ 101 := by decide
    obtain ⟨d1, d2, d3⟩ := hd r hr
    exact ar i hi (82 + r) 9000 [0, 2] d1 d2 d3 e1 e2 e3
  refine ⟨⟨?_, ?_, ?_, ?_, ?_, ?_, ?_, ?_, ?_, ?_, ?_, ?_, c39, c40⟩, ⟨?_, ?_⟩, ?_, ?_, ?_⟩
  · unfold rd; rw [o47]; rfl
  · exact (ar 2 (by decide) 48 2048 [] (by decide) (by decide) (by decide) rfl rfl rfl).1
  · exact (ar 12 (by decide) 71 100 [] (by decide) (by decide) (by decide) rfl rfl rfl).1
  · exact (ar 13 (by decide) 74 100 [] (by decide) (by decide) (by decide) rfl rfl rfl).1
  · exact (ar 14 (by decide) 76 60 [] (by decide) (by decide) (by decide) rfl rfl rfl).1
  · exact (ar 15 (by decide) 77 60 [] (by decide) (by decide) (by decide) rfl rfl rfl).1
  · exact (ar 17 (by decide) 80 9000 [] (by decide) (by decide) (by decide) rfl rfl rfl).1
  · exact (ar 26 (by decide) 91 9000 [] (by decide) (by decide) (by decide) rfl rfl rfl).1
  · exact (ar 29 (by decide) 97 4200 [] (by decide) (by decide) (by decide) rfl rfl rfl).1
  · exact (ar 30 (by decide) 98 9000 [] (by decide) (by decide) (by decide) rfl rfl rfl).1
  · exact (ar 31 (by decide) 99 64 [] (by decide) (by decide) (by decide) rfl rfl rfl).1
  · exact (ar 32 (by decide) 100 64 [] (by decide) (by decide) (by decide) rfl rfl rfl).1
  · exact fun c => c.elim
  · exact fun e => e.elim
  · refine ⟨S_txt (by decide), by decide, (fun u hu => by cases hu), (ar 16 (by decide) 79 4096 [] (by decide) (by decide) (by decide) rfl rfl rfl).1, (ar 16 (by decide) 79 4096 [] (by decide) (by decide) (by decide) rfl rfl rfl).2, ?_⟩
    unfold rd; rw [o78]; rfl
  · exact ⟨S_txt (by decide), S_pap (by decide) (by decide), by decide, asc.nil⟩
  · refine ⟨o46.trans rfl, rfl, List.Perm.refl _, by unfold rd; rw [o41]; rfl, fun r hr => ?_⟩
    have ea : ∀ r, r < 8 → ([51, 53, 55, 57, 59, 61, 63, 65] : List Nat).getD r 0 ∈ shT ∧ ¬ (([51, 53, 55, 57, 59, 61, 63, 65] : List Nat).getD r 0 = 42 ∨ ([51, 53, 55, 57, 59, 61, 63, 65] : List Nat).getD r 0 = 44 ∨ ([51, 53, 55, 57, 59, 61, 63, 65] : List Nat).getD r 0 = 49) := by decide
    have h8 : (S_of h (82 + r)).length = 9000 ∧ ∃ j, S_of h (82 + r) = [0, 2] ++ j := by
      have : r = 0 ∨ r = 1 ∨ r = 2 ∨ r = 3 ∨ r = 4 ∨ r = 5 ∨ r = 6 ∨ r = 7 := by omega
      rcases this with rfl | rfl | rfl | rfl | rfl | rfl | rfl | rfl
      · exact rr 0 18 (by decide) (by decide) rfl rfl rfl
      · exact rr 1 19 (by decide) (by decide) rfl rfl rfl
      · exact rr 2 20 (by decide) (by decide) rfl rfl rfl
      · exact rr 3 21 (by decide) (by decide) rfl rfl rfl
      · exact rr 4 22 (by decide) (by decide) rfl rfl rfl
      · exact rr 5 23 (by decide) (by decide) rfl rfl rfl
      · exact rr 6 24 (by decide) (by decide) rfl rfl rfl
      · exact rr 7 25 (by decide) (by decide) rfl rfl rfl
    show InvR (S_of h) _ r vNull
    refine ⟨?_, by decide, vNull_ok, by decide, h8.1, h8.2⟩
    rw [S_txt (ea r hr).1, if_neg (ea r hr).2]
    rfl
theorem I0.inv {S : SS} (h : I0 S) : Inv S := ⟨h.1, h.2.1, ⟨[], h.2.2.1⟩, ⟨[], h.2.2.2.1⟩, fun _ => vNull, 49, [51, 53, 55, 57, 59, 61, 63, 65], h.2.2.2.2⟩
theorem inv_start {xs : List Int32} {h : mH} (hm : m_s2 xs h) : Inv (S_of h) := (inv_first hm).inv
end Start129
