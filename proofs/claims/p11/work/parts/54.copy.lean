section Copy
theorem m_pairs (at_ : Nat) : ∀ (xs : List Value) (i : Nat) (x : Cell) (k : Nat), (x.storePairs at_ (xs.zipIdx i)).slots[k]? = if at_ + i ≤ k ∧ k < at_ + i + xs.length ∧ k < x.slots.size then xs[k - (at_ + i)]? else x.slots[k]?
  | [], i, x, k => by
    show x.slots[k]? = _
    rw [if_neg (by simp only [List.length_nil]; omega)]
  | v :: xs, i, x, k => by
    rw [List.zipIdx_cons]
    show ((x.setSlot (at_ + i) v).storePairs at_ (xs.zipIdx (i + 1))).slots[k]? = _
    rw [m_pairs at_ xs (i + 1)]
    have hsz : (x.setSlot (at_ + i) v).slots.size = x.slots.size := by simp [Cell.setSlot]
    rw [hsz]
    by_cases hk : k = at_ + i
    · subst hk
      rw [if_neg (by omega)]
      by_cases hl : at_ + i < x.slots.size
      · rw [if_pos (by simp only [List.length_cons]; omega)]
        simp [Cell.setSlot, hl]
      · rw [if_neg (by omega), Array.getElem?_eq_none (by rw [hsz]; omega), Array.getElem?_eq_none (by omega)]
    · by_cases h : at_ + (i + 1) ≤ k ∧ k < at_ + (i + 1) + xs.length ∧ k < x.slots.size
      · rw [if_pos h, if_pos (by simp only [List.length_cons]; omega)]
        have e : k - (at_ + i) = (k - (at_ + (i + 1))) + 1 := by omega
        rw [e, List.getElem?_cons_succ]
      · rw [if_neg h, if_neg (by simp only [List.length_cons]; omega), slot_ne _ _ (Ne.symm hk)]
theorem m_copied {cs cd : Cell} {vs ws : List Value} {φ : mF} {sp dp n : Nat} (hs : cs.slots = (vs.map (mf φ)).toArray) (hd : cd.slots = (ws.map (mf φ)).toArray) (h1 : sp + n ≤ vs.length) (h2 : dp + n ≤ ws.length) :
    (cd.storeRun dp (cs.stretch sp n)).slots = ((ws.take dp ++ (vs.drop sp).take n ++ ws.drop (dp + n)).map (mf φ)).toArray := by
  have e0 : cs.stretch sp n = ((vs.drop sp).take n).map (mf φ) := by
    unfold Cell.stretch
    apply List.ext_getElem?
    intro k
    by_cases hk : k < n
    · have hlt : sp + k < vs.length := by omega
      simp [List.getElem?_take, hk, hs, hlt]
    · simp [List.getElem?_take, hk]
  apply Array.ext_getElem?
  intro k
  have hsz : cd.slots.size = ws.length := by rw [hd]; simp
  have hlen : (((vs.drop sp).take n).map (mf φ)).length = n := by simp; omega
  rw [Cell.storeRun, e0, m_pairs, hlen, hsz, hd]
  simp only [Nat.add_zero, List.getElem?_toArray, List.getElem?_map]
  by_cases h : dp ≤ k ∧ k < dp + n ∧ k < ws.length
  · rw [if_pos h, List.append_assoc, List.getElem?_append_right (by simp; omega), List.getElem?_append_left (by simp; omega)]
    simp
    congr 2
    omega
  · rw [if_neg h]
    by_cases hk : k < dp
    · rw [List.append_assoc, List.getElem?_append_left (by simp; omega), List.getElem?_take, if_pos hk]
    · rw [List.getElem?_append_right (by simp; omega), List.getElem?_drop]
      congr 2
      simp
      omega
section CopyW
variable {p : Program} {l : Launch} {e : Env} {R : Room} {s : State} {m : MethodId} {args : Array Value} {below : List Frame} {meth : Method} {c : Code} {Q : State → Prop}
variable {mcl : List vw_C} {D : va_G} {aty : Nat → FieldType} {tX nE B : Nat} {ext : mF} {H0 : Heap} {nL K0 N0 : Nat}
variable {pc : Nat} {ml : mL} {st : List Value} {S : mS} {g' : mG} {cc : ByteArray}
theorem m_nn {z : Int32} (hz : ¬ z < 0) : z.toInt = (z.toNatClampNeg : Int) := by
  have hz0 : (0 : Int) ≤ z.toInt := by
    have := Int32.not_lt.mp hz
    simpa using Int32.le_iff_toInt_le.mp this
  show z.toInt = ((z.toInt.toNat : Nat) : Int)
  omega
theorem m_cpyW (hx : p.tables.exec = Jvm.exec) (hb : c.code = cc) {own : String} {idx : Nat} (hown : s.vm.findClass own = some m.cls) (hlink : (Cond.methodLink own idx arraycopyName).before args s = true) (hnat : (Cond.native arraycopyName).before args s = true) (hstat : (Cond.static arraycopyName).before args s = true) (hini : (Cond.initialized "java/lang/System").before args s = true)
    (hat : aty 1000 = .byte) (hRf : 1 ≤ R.frames) (hRl : 100 ≤ R.locals) (hml : nL = c.maxLocals) (hd : decode cc pc = .ok (.invokestatic idx, 3)) (hm : m_cpy pc ml st S nE = some g') (hcat : (g'.2.2.1.map fun v => v.category).sum ≤ 8)
    (kk : m_KK p l e R s m args below meth c Q mcl D aty tX nE B ext H0 nL K0 N0 g') : m_KK p l e R s m args below meth c Q mcl D aty tX nE B ext H0 nL K0 N0 (pc, ml, st, S) := by
  unfold m_cpy at hm
  split at hm
  next n dp b sp a rest =>
    split at hm
    next t vs t2 ws ha hb2 =>
      split at hm
      next hq =>
        obtain ⟨rfl, rfl, hnE, h1, h2, h3, h4, h5⟩ := hq
        cases hm
        intro ls H locs cells slots hL hH hl hcc hss T hT X
        obtain ⟨x, x1, -, x3⟩ := hH.2.2.2.2 a _ ha
        obtain ⟨y, y1, y2, y3⟩ := hH.2.2.2.2 b _ hb2
        have hk : 1000 ≤ 1000 := Nat.le_refl _
        obtain ⟨⟨kx, cx, kx1, kx2, -⟩, sx, fx⟩ := x3.2.2.2 hk
        obtain ⟨⟨ky, cy, ky1, ky2, ky3⟩, sy, fy⟩ := y3.2.2.2 hk
        rw [show aty ((1000, vs) : mC).1 = .byte from hat] at kx2
        rw [show aty ((1000, ws) : mC).1 = .byte from hat] at ky2
        have zx : x.slots.size = vs.length := by rw [sx]; simp
        have zy : y.slots.size = ws.length := by rw [sy]; simp
        obtain ⟨vm', X', step⟩ := X.arraycopy hx hown hlink hnat hstat hini (src := m_ad nE B ext a) (dst := m_ad nE B ext b) (cs := x) (cd := y) (srcPos := sp) (destPos := dp) (n := n) (by rw [hT]; exact x1) (by rw [hT]; exact y1)
          (fun z hz => by have := x3.2.1; rw [hz] at this; cases this) (fun z hz => by have := y3.2.1; rw [hz] at this; cases this) x3.1 y3.1 kx1 ky1 kx2 ky2 (by simp [refKind]) h1 h2 h3
          (by rw [m_nn h1, m_nn h3, zx]; omega) (by rw [m_nn h2, m_nn h3, zy]; omega)
          (fun vm₁ _ i hi => by
            have hlt : sp.toNatClampNeg + i < vs.length := by omega
            have e : x.slots.getD (sp.toNatClampNeg + i) .null = mf (m_phi nE B ext) (vs[sp.toNatClampNeg + i]'hlt) := by
              rw [Array.getD_eq_getD_getElem?, sx, m_arrG (List.getElem?_eq_getElem hlt)]
              rfl
            have hf := fx rfl _ (List.getElem_mem hlt)
            rw [e]
            generalize vs[sp.toNatClampNeg + i]'hlt = v at hf ⊢
            cases v <;> simp [fits] at hf
            exact ⟨by simpa [fits, mf] using hf, trivial⟩)
          (g := F0 m pc ls (.int n :: .int dp :: .ref (m_ad nE B ext b) :: .int sp :: .ref (m_ad nE B ext a) :: rest.map (mf (m_phi nE B ext)))) rfl (by show ls.size = _; rw [hL.2.1, hml]) (rest := rest.map (mf (m_phi nE B ext))) rfl (by rw [hb]; exact hd) hRf (by
            show 2 * 0 + _ + _ ≤ _
            rw [mf_cats]
            have : nativeFrameWords "java/lang/System" "arraycopy" 5 = 7 := by decide
            have : (rest.map fun v => v.category).sum ≤ 8 := hcat
            omega)
        have hlt : m_ad nE B ext b < H.size := (Array.getElem?_eq_some_iff.mp y1).1
        have hsl := m_copied (sp := sp.toNatClampNeg) (dp := dp.toNatClampNeg) (n := n.toNatClampNeg) sx sy h4 h5
        have hfacts := Cell.storePairs_facts y dp.toNatClampNeg ((x.stretch sp.toNatClampNeg n.toNatClampNeg).zipIdx)
        obtain ⟨t, a1, b1⟩ := kk ls (H.setIfInBounds (m_ad nE B ext b) (copied x y sp dp n)) _ cells slots hL (hH.set hnE (c' := (1000, ws.take dp.toNatClampNeg ++ (vs.drop sp.toNatClampNeg).take n.toNatClampNeg ++ ws.drop (dp.toNatClampNeg + n.toNatClampNeg))) (x' := copied x y sp dp n) (by simp [Array.getElem?_setIfInBounds, hlt]) (by simp) (fun q hq => by simp [Array.getElem?_setIfInBounds, Ne.symm hq]) (by rw [show (copied x y sp dp n).vm = y.vm from hfacts.2.1]; exact y2 hnE)
          ⟨by rw [show (copied x y sp dp n).vm = y.vm from hfacts.2.1]; exact y3.1, by rw [show (copied x y sp dp n).vm = y.vm from hfacts.2.1]; exact y3.2.1, fun z => absurd z (show ¬ (1000 < 1000) by decide), fun _ => ⟨⟨ky, cy, by rw [show (copied x y sp dp n).cls = y.cls from hfacts.1]; exact ky1, by rw [ky2]; exact congrArg _ hat.symm, fun z => by cases z⟩, hsl, fun _ w hw => by
            rcases List.mem_append.mp hw with hw | hw
            · rcases List.mem_append.mp hw with hw | hw
              · exact fy rfl w (List.mem_of_mem_take hw)
              · exact fx rfl w (List.mem_of_mem_drop (List.mem_of_mem_take hw))
            · exact fy rfl w (List.mem_of_mem_drop hw)⟩⟩)
          (fun q hq => by
            rcases List.mem_append.mp hq with h | h
            · exact hl q h
            · obtain ⟨z, -, hz⟩ := List.mem_map.mp h
              rw [← hz]
              show B ≤ m_ad nE B ext b
              rw [m_phi_new hnE]
              omega) hcc hss _ (by rw [← hT]; rfl) X'
        exact ⟨t, step t a1, b1⟩
      next => cases hm
    next => cases hm
  next => cases hm
end CopyW
end Copy
