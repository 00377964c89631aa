/-! An answer handed on; not by computing, so that no loop is unrolled. -/
theorem o_bind {α β : Type} (a : α) (f : α → Option β) : (some a).bind f = f a := Eq.trans (Option.bind_some a f) (Eq.refl _)
section Row104
variable {d : Nat} {M : mM} {pc : Nat} {ml : mL} {rest : List Value} {h : mH} {q : Nat × Nat} {P : Outcome → mS → Prop} {S : SS}
theorem sW.getQ {c c' kk' idx len : Nat} {bs : List Int32} (hc : M.2.2.2.2.2[pc]? = some (some (.getfield idx, len, 17, 0, kk'))) (hs : cs h S) (hm : (c, c', bs) ∈ shS) (kk : mW d M (pc + 3, ml, .ref c' :: rest, (h, q)) P) : mW d M (pc, ml, .ref c :: rest, (h, q)) P := mW.get hc (hs.gsx hm).1 rfl kk
theorem sW.baldQ {c c' a b k len : Nat} {j v : Int32} {bs : List Int32} (hc : M.2.2.2.2.2[pc]? = some (some (.baload, len, a, b, k))) (hs : cs h S) (hm : (c, c', bs) ∈ shS) (hj : iget bs j = some v) (kk : mW d M (pc + 1, ml, .int v :: rest, (h, q)) P) : mW d M (pc, ml, .int j :: .ref c' :: rest, (h, q)) P := mW.bald hc (hs.gsx hm).2.1 (iget_ix hj) kk
theorem sW.alnQ {c c' a b k len : Nat} {bs : List Int32} (hc : M.2.2.2.2.2[pc]? = some (some (.arraylength, len, a, b, k))) (hs : cs h S) (hm : (c, c', bs) ∈ shS) (kk : mW d M (pc + 1, ml, .int (Int32.ofNat bs.length) :: rest, (h, q)) P) : mW d M (pc, ml, .ref c' :: rest, (h, q)) P := by
  refine mW.aln hc (hs.gsx hm).2.1 (by decide) ?_
  rw [List.length_map]
  exact kk
end Row104
