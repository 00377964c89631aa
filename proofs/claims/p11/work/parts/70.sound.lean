/-! What the small machine does, the JVM does. -/
section Sound
/-- a word that holds now and later -/
def m_T (s0 : State) (w : Cond) : Prop := ∀ (s : State) (args : Array Value), s0.WarmedH s.vm → w.before args s = true
def m_TF (s0 : State) (own : String) (idx : Nat) (ref name desc : String) : Prop := ∀ (s : State) (args : Array Value), s0.WarmedH s.vm → m_fl s args own idx ref name desc
def m_TM (s0 : State) (own : String) (idx : Nat) (y : MethodName) : Prop := ∀ (s : State) (args : Array Value), s0.WarmedH s.vm → m_ml s args own idx y
/-- a state of the run that began at s0: the tables are warmed, the old heap is as it was -/
def m_St (s0 s : State) : Prop := s0.WarmedH s.vm ∧ (∀ q : Nat, q < s0.heap.size → s.heap[q]? = s0.heap[q]?) ∧ ∀ (q : Nat) (cell : Cell), s0.heap.size ≤ q → s.heap[q]? = some cell → cell.vm.isStatics = false
/-- an instruction's length -/
def m_len (i : ClassFile.Instr) (d : Nat) : Nat := match i with
  | .bipush _ => 2
  | .ldc _ => 2
  | .iload _ => 2
  | .lload _ => 2
  | .aload _ => 2
  | .istore _ => 2
  | .lstore _ => 2
  | .astore _ => 2
  | .newarray _ => 2
  | .sipush _ => 3
  | .ldc2_w _ => 3
  | .iinc _ _ => 3
  | .goto _ => 3
  | .ifCond _ _ => 3
  | .if_icmp _ _ => 3
  | .getfield _ => 3
  | .putfield _ => 3
  | .getstatic _ => 3
  | .invokevirtual _ => 3
  | .invokespecial _ => 3
  | .invokestatic _ => 3
  | .new _ => 3
  | .anewarray _ => 3
  | .multianewarray _ _ => 4
  | .tableswitch _ _ _ _ => d
  | .lookupswitch _ _ => d
  | _ => 1
/-- what a simple instruction links -/
def m_lk1 (mcl : List vw_C) (aty : Nat → FieldType) (tX : Nat) (φ : mF) (s0 : State) (own nm : String) (pc : Nat) (i : ClassFile.Instr) (a b k : Nat) : Prop := match i with
  | .ldc idx => ∃ tx, ∀ s : State, s0.WarmedH s.vm → vk_R own idx tx (φ.1 a) s
  | .ldc2_w idx => m_T s0 (.constantLong own idx (Int64.ofNat a))
  | .goto off => (pc : Int) + off = (a : Int)
  | .ifCond _ off => (pc : Int) + off = (a : Int)
  | .if_icmp _ off => (pc : Int) + off = (a : Int)
  | .tableswitch d lo hi offs => 0 ≤ (pc : Int) + d ∧ (∀ o ∈ offs.toList, 0 ≤ (pc : Int) + o) ∧ (offs.size : Int) = hi - lo + 1
  | .lookupswitch d ps => (ps.toList.zip (ps.toList.drop 1)).all (fun (a, next) => a.1 < next.1) = true ∧ 0 ≤ (pc : Int) + d ∧ ∀ o ∈ ps.toList, 0 ≤ (pc : Int) + o.2
  | .getfield idx => ∃ C T N, mcl[a]? = some (C, T, N) ∧ b < N ∧ a < 1000 ∧ m_TF s0 own idx (T b).1 (T b).2.1 (T b).2.2.1
  | .putfield idx => ∃ C T N ty, mcl[a]? = some (C, T, N) ∧ b < N ∧ a < 1000 ∧ m_TF s0 own idx (T b).1 (T b).2.1 (T b).2.2.1 ∧ parseFieldDescriptor (T b).2.2.1 = some ty ∧ m_kty k ty ∧ ((T b).2.2.2 = true → nm = "<init>" ∧ (T b).1 = own) ∧ (∀ s : State, s0.WarmedH s.vm → m_LY C T N s) ∧ ∃ n, m_T s0 (.instantiable C n)
  | .getstatic idx => ∃ C n d, m_T s0 (.fieldLink own idx C n d) ∧ va_Z C n d (if k = 0 then .int (Int32.ofNat a) else if k = 1 then .ref (φ.1 a) else mf φ (.retAddr 0)) (fun q => s0.heap.size ≤ q) s0 s0.heap
  | .aaload => 1000 ≤ a ∧ (aty a).isReference = true
  | .aastore => a = 1003 ∧ b = tX ∧ tX < 1000 ∧ (aty 1003).isReference = true ∧ ∃ C T N, mcl[tX]? = some (C, T, N)
  | .newarray t => (t = .byte → m_T s0 (.arrayClass .byte)) ∧ (t = .int → m_T s0 (.arrayClass .int)) ∧ (t = .long → m_T s0 (.arrayClass .long))
  | .anewarray idx => a = 1003 ∧ ∃ C T N, aty 1003 = .object C ∧ mcl[tX]? = some (C, T, N) ∧ m_T s0 (.classLink own idx C) ∧ m_T s0 (.arrayOver (.object C))
  | .multianewarray idx n => n = 2 ∧ m_T s0 (.classLink own idx "[[I") ∧ m_T s0 (.arrayClass .int) ∧ m_T s0 (.arrayOver (.array .int))
  | _ => True
variable {p : Program} {l : Launch} {e : Env} {R : Room} {s0 s : State} {m : MethodId} {args : Array Value} {below : List Frame} {meth : Method} {c : Code} {Q : State → Prop}
variable {mcl : List vw_C} {D : va_G} {aty : Nat → FieldType} {tX nE : Nat} {ext : mF} {nL K0 N0 : Nat}
theorem m_oneW (hx : p.tables.exec = Jvm.exec) {cc : ByteArray} (hb : c.code = cc) {own : String} (hown : s.vm.findClass own = some m.cls) (hst : m_St s0 s) (hC : m_CL mcl s) (hK : m_KN mcl D s) (hat : aty 1000 = .byte ∧ aty 1001 = .int ∧ aty 1002 = .long) (hat4 : aty 1004 = .array .int)
    (hK0 : K0 ≤ R.cells) (hN0 : N0 ≤ R.slots) {pc : Nat} {ml : mL} {st : List Value} {S : mS} {g' : mG} {i : ClassFile.Instr} {len a b k : Nat} (hd : decode cc pc = .ok (i, m_len i len)) (hlk : m_lk1 mcl aty tX (m_phi nE s0.heap.size ext) s0 own meth.name pc i a b k)
    (hm : m_one nE i a b k pc ml st S = some g') (kk : m_KK p l e R s m args below meth c Q mcl D aty tX nE s0.heap.size ext s0.heap nL K0 N0 g') : m_KK p l e R s m args below meth c Q mcl D aty tX nE s0.heap.size ext s0.heap nL K0 N0 (pc, ml, st, S) := by
  have hW := hst.1
  cases i with
  | iconst n => cases hm; exact fun ls H locs cells slots hL hH hl hc hs => lv_iconst hx hb hd rfl (kk ls H locs cells slots hL hH hl hc hs)
  | bipush n => cases hm; exact fun ls H locs cells slots hL hH hl hc hs => lv_bipush hx hb hd rfl (kk ls H locs cells slots hL hH hl hc hs)
  | sipush n => cases hm; exact fun ls H locs cells slots hL hH hl hc hs => lv_sipush hx hb hd rfl (kk ls H locs cells slots hL hH hl hc hs)
  | lconst n => cases hm; exact fun ls H locs cells slots hL hH hl hc hs => lv_lconst hx hb hd rfl (kk ls H locs cells slots hL hH hl hc hs)
  | ldc idx =>
    cases hm
    obtain ⟨tx, hz⟩ := hlk
    exact fun ls H locs cells slots hL hH hl hc hs => va_ldcS hx hb hown (hz s hW) hd (kk ls H locs cells slots hL hH hl hc hs)
  | ldc2_w idx => cases hm; exact fun ls H locs cells slots hL hH hl hc hs => lv_ldc2 hx hb hown (hlk s args hW) hd (kk ls H locs cells slots hL hH hl hc hs)
  | iload j => exact m_ldIW (fun x ls rest H locs cells slots h k => lv_iload hx hb hd h k) hm kk
  | iload_n j => exact m_ldIW (fun x ls rest H locs cells slots h k => lv_iload_n hx hb hd rfl h k) hm kk
  | lload j => exact m_ldLW (fun x ls rest H locs cells slots h k => lv_lload hx hb hd h k) hm kk
  | lload_n j => exact m_ldLW (fun x ls rest H locs cells slots h k => lv_lload_n hx hb hd rfl h k) hm kk
  | aload j => exact m_ldAW (fun x ls rest H locs cells slots h k => lv_aload hx hb hd h k) hm kk
  | aload_n j => exact m_ldAW (fun x ls rest H locs cells slots h k => lv_aload_n hx hb hd rfl h k) hm kk
  | istore j => exact m_stIW (fun x lv ls rest H locs cells slots h1 h2 k => lv_istore hx hb hd h1 h2 rfl k) hm kk
  | istore_n j => exact m_stIW (fun x lv ls rest H locs cells slots h1 h2 k => lv_istore_n hx hb hd rfl h1 h2 rfl k) hm kk
  | lstore j => exact m_stLW (fun x lv ls rest H locs cells slots h1 h2 k => lv_lstore hx hb hd h1 h2 rfl k) hm kk
  | lstore_n j => exact m_stLW (fun x lv ls rest H locs cells slots h1 h2 k => lv_lstore_n hx hb hd rfl h1 h2 rfl k) hm kk
  | astore j => exact m_stAW (fun x lv ls rest H locs cells slots h1 h2 k => lv_astore hx hb hd h1 h2 rfl k) hm kk
  | astore_n j => exact m_stAW (fun x lv ls rest H locs cells slots h1 h2 k => lv_astore_n hx hb hd rfl h1 h2 rfl k) hm kk
  | iinc j n => exact m_incW hx hb hd hm kk
  | iadd => exact m_i2W (fun x y ls rest H locs cells slots k => lv_iadd hx hb hd k) hm kk
  | isub => exact m_i2W (fun x y ls rest H locs cells slots k => lv_isub hx hb hd k) hm kk
  | imul => exact m_i2W (fun x y ls rest H locs cells slots k => lv_imul hx hb hd k) hm kk
  | iand => exact m_i2W (fun x y ls rest H locs cells slots k => lv_iand hx hb hd k) hm kk
  | ior => exact m_i2W (fun x y ls rest H locs cells slots k => lv_ior hx hb hd k) hm kk
  | ishr => exact m_i2W (fun x y ls rest H locs cells slots k => lv_ishr hx hb hd k) hm kk
  | ishl => exact m_i2W (fun x y ls rest H locs cells slots k => lv_ishl hx hb hd k) hm kk
  | iushr => exact m_i2W (fun x y ls rest H locs cells slots k => lv_iushr hx hb hd rfl k) hm kk
  | idiv => exact m_div2W (fun x y ls rest H locs cells slots hy k => lv_idiv hx hb hd hy k) hm kk
  | irem => exact m_div2W (fun x y ls rest H locs cells slots hy k => lv_irem hx hb hd hy k) hm kk
  | ineg => exact m_cIW (fun _ => rfl) (fun x ls rest H locs cells slots k => lv_ineg hx hb hd k) hm kk
  | ladd => exact m_l2W (fun x y ls rest H locs cells slots k => lv_ladd hx hb hd k) hm kk
  | lsub => exact m_l2W (fun x y ls rest H locs cells slots k => lv_lsub hx hb hd k) hm kk
  | lmul => exact m_l2W (fun x y ls rest H locs cells slots k => lv_lmul hx hb hd k) hm kk
  | land => exact m_l2W (fun x y ls rest H locs cells slots k => lv_land hx hb hd k) hm kk
  | lor => exact m_l2W (fun x y ls rest H locs cells slots k => lv_lor hx hb hd k) hm kk
  | ldiv => exact m_divL2W (fun x y ls rest H locs cells slots hy k => lv_ldiv hx hb hd hy k) hm kk
  | lrem => exact m_divL2W (fun x y ls rest H locs cells slots hy k => lv_lrem hx hb hd hy k) hm kk
  | lneg => exact m_cLW (fun _ => rfl) (fun x ls rest H locs cells slots k => lv_lneg hx hb hd k) hm kk
  | lshl => exact m_lshW (fun x y ls rest H locs cells slots k => lv_lshl hx hb hd rfl k) hm kk
  | lshr => exact m_lshW (fun x y ls rest H locs cells slots k => lv_lshr hx hb hd rfl k) hm kk
  | lcmp =>
    change m_lcmp pc ml st S = some g' at hm
    unfold m_lcmp at hm
    split at hm
    next y x r => cases hm; exact fun ls H locs cells slots hL hH hl hc hs => W.lcmp hx hb hd (kk ls H locs cells slots hL hH hl hc hs)
    next => cases hm
  | i2l => exact m_cIW (fun _ => rfl) (fun x ls rest H locs cells slots k => lv_i2l hx hb hd rfl k) hm kk
  | l2i => exact m_cLW (fun _ => rfl) (fun x ls rest H locs cells slots k => lv_l2i hx hb hd rfl k) hm kk
  | i2b => exact m_cIW (fun _ => rfl) (fun x ls rest H locs cells slots k => lv_i2b hx hb hd rfl k) hm kk
  | i2c => exact m_cIW (fun _ => rfl) (fun x ls rest H locs cells slots k => lv_i2c hx hb hd rfl k) hm kk
  | dup =>
    change m_dup pc ml st S = some g' at hm
    unfold m_dup at hm
    split at hm
    next x r => cases hm; exact fun ls H locs cells slots hL hH hl hc hs => lv_dup hx hb hd rfl (kk ls H locs cells slots hL hH hl hc hs)
    next x r => cases hm; exact fun ls H locs cells slots hL hH hl hc hs => lv_dup hx hb hd rfl (kk ls H locs cells slots hL hH hl hc hs)
    next => cases hm
  | pop =>
    change m_pop pc ml st S = some g' at hm
    unfold m_pop at hm
    split at hm
    next x r => cases hm; exact fun ls H locs cells slots hL hH hl hc hs => lv_pop hx hb hd rfl (kk ls H locs cells slots hL hH hl hc hs)
    next x r => cases hm; exact fun ls H locs cells slots hL hH hl hc hs => lv_pop hx hb hd rfl (kk ls H locs cells slots hL hH hl hc hs)
    next => cases hm
  | goto off => cases hm; exact fun ls H locs cells slots hL hH hl hc hs => lv_goto hx hb hd hlk (kk ls H locs cells slots hL hH hl hc hs)
  | ifCond q off => exact m_ifW hx hb hd hlk hm kk
  | if_icmp q off => exact m_icmpW hx hb hd hlk hm kk
  | tableswitch d lo hi offs =>
    change m_sw ml st S (m_tsw pc d lo hi offs) = some g' at hm
    unfold m_sw at hm
    split at hm
    next x r =>
      cases hm
      obtain ⟨h1, h2, h3⟩ := hlk
      intro ls H locs cells slots hL hH hl hc hs
      have q := kk ls H locs cells slots hL hH hl hc hs
      by_cases hin : x.toInt < lo ∨ hi < x.toInt
      · refine lv_tableOut hx hb hd hin (tgt := ((pc : Int) + d).toNat) (by omega) ?_
        have e0 : m_tsw pc d lo hi offs x = ((pc : Int) + d).toNat := by unfold m_tsw; rw [if_pos hin]
        rw [← e0]
        exact q
      · have hlt : (x.toInt - lo).toNat < offs.size := by omega
        have ho : offs[(x.toInt - lo).toNat]? = some offs[(x.toInt - lo).toNat] := Array.getElem?_eq_getElem hlt
        have h4 := h2 _ (Array.getElem_mem_toList hlt)
        refine lv_tableIn hx hb hd (fun z => hin (Or.inl z)) (fun z => hin (Or.inr z)) ho (tgt := ((pc : Int) + offs[(x.toInt - lo).toNat]).toNat) (by omega) ?_
        have e0 : m_tsw pc d lo hi offs x = ((pc : Int) + offs[(x.toInt - lo).toNat]).toNat := by unfold m_tsw; rw [if_neg hin, ho]; rfl
        rw [← e0]
        exact q
    next => cases hm
  | lookupswitch d ps =>
    change m_sw ml st S (m_lsw pc d ps) = some g' at hm
    unfold m_sw at hm
    split at hm
    next x r =>
      cases hm
      obtain ⟨h1, h2, h3⟩ := hlk
      intro ls H locs cells slots hL hH hl hc hs
      have q := kk ls H locs cells slots hL hH hl hc hs
      have hz : ∀ (l : List (Int × Int)), (∀ o ∈ l, 0 ≤ (pc : Int) + o.2) → 0 ≤ (pc : Int) + Op.lookupswitch.offset l d x.toInt := by
        intro l
        induction l with
        | nil => intro _; exact h2
        | cons o l ih =>
          intro ho
          obtain ⟨o1, o2⟩ := o
          rw [Op.lookupswitch.offset_cons]
          split
          · exact ho _ List.mem_cons_self
          · exact ih fun y hy => ho y (List.mem_cons_of_mem _ hy)
      exact lv_lookup hx hb hd h1 rfl (tgt := m_lsw pc d ps x) (by unfold m_lsw; have := hz ps.toList h3; omega) q
    next => cases hm
  | getfield idx =>
    obtain ⟨C, T, N, h1, h2, h3, h4⟩ := hlk
    exact m_getW hx hb hown hC hK h1 h2 h3 (h4 s args hW) hd hm kk
  | putfield idx =>
    obtain ⟨C, T, N, ty, h1, h2, h3, h4, h5, h6, h7, h8, n0, h9⟩ := hlk
    exact m_putW hx hb hown (h8 s hW) (h9 s args hW) hK h1 h2 h3 (h4 s args hW) h5 h6 h7 hd hm kk
  | getstatic idx =>
    obtain ⟨C, n, d, h1, h2⟩ := hlk
    cases hm
    intro ls H locs cells slots hL hH hl hc hs
    obtain ⟨cf, kf, fi, f, a₁, cell, z1, z2, z3, z4, z5, z6, z7, z8⟩ := va_Z.moved hW.alike h2
    have hlt : a₁ < s0.heap.size := (Array.getElem?_eq_some_iff.mp z5).1
    have q := kk ls H locs cells slots hL hH hl hc hs
    refine W.gets hx hb hown (h1 s args hW) z1 z2 z3 z4 (by rw [hH.2.2.2.1 a₁ hlt]; exact z5) (fun z => by rw [z] at z6; cases z6) z7 rfl hd ?_
    have e0 : (if k = 0 then Value.int (Int32.ofNat a) else if k = 1 then .ref ((m_phi nE s0.heap.size ext).1 a) else mf (m_phi nE s0.heap.size ext) (.retAddr 0)) = mf (m_phi nE s0.heap.size ext) (if k = 0 then .int (Int32.ofNat a) else if k = 1 then .ref a else .retAddr 0) := by
      split
      · rfl
      · split <;> rfl
    rw [e0]
    exact q
  | iaload =>
    have h1 := hat.2.1
    exact m_aldW (k := 1001) (by decide) (fun a cell j v ls rest H locs cells slots q1 q2 q3 q4 q5 k => W.iald hx hb q1 (by rw [h1] at q2; exact q2) q3 q4 q5 rfl rfl hd k) hm kk
  | baload =>
    have h1 := hat.1
    exact m_aldW (k := 1000) (by decide) (fun a cell j v ls rest H locs cells slots q1 q2 q3 q4 q5 k => W.bald hx hb q1 (by rw [h1] at q2; exact q2) q3 q4 q5 rfl rfl hd k) hm kk
  | laload =>
    have h1 := hat.2.2
    exact m_aldW (k := 1002) (by decide) (fun a cell j v ls rest H locs cells slots q1 q2 q3 q4 q5 k => W.lald hx hb q1 (by rw [h1] at q2; exact q2) q3 q4 q5 rfl rfl hd k) hm kk
  | aaload => exact m_aldW (k := a) hlk.1 (fun a cell j v ls rest H locs cells slots q1 q2 q3 q4 q5 k => W.aald hx hb q1 q2 hlk.2 q3 q4 q5 rfl rfl hd k) hm kk
  | iastore =>
    have h1 := hat.2.1
    exact m_astW (k := 1001) (by decide) (fun z => by cases z) (fun a cell j x ls rest H locs cells slots q1 q2 q3 q4 k => W.iast hx hb q1 (by rw [h1] at q2; exact q2) q3 q4 rfl rfl hd k) hm kk
  | bastore =>
    have h1 := hat.1
    exact m_astW (k := 1000) (by decide) (fun _ x => m_fitb x) (fun a cell j x ls rest H locs cells slots q1 q2 q3 q4 k => W.bast hx hb q1 (by rw [h1] at q2; exact q2) q3 q4 rfl rfl hd k) hm kk
  | lastore => exact m_lstW hx hb hat.2.2 hd hm kk
  | aastore =>
    obtain ⟨h1, h2, h3, h4, C, T, N, h5⟩ := hlk
    obtain ⟨-, -, kC, hkC⟩ := hK _ _ _ _ h5
    exact m_rstW hx hb h1 h2 h3 h4 ⟨kC, hkC⟩ hd hm kk
  | arraylength => exact m_alnW hx hb hd hm kk
  | newarray t =>
    obtain ⟨b1, b2, b3⟩ := hlk
    cases t with
    | byte => exact m_nwaW (at_ := .byte) (k := 1000) hx hb (Or.inl rfl) hat.1.symm (by rw [hat.1]; rfl) rfl (fun _ => by decide) (by rw [hat.1]; decide) (by rw [hat.1]; exact b1 rfl s args hW) hK0 hN0 hd hm kk
    | int => exact m_nwaW (at_ := .int) (k := 1001) hx hb (Or.inr (Or.inl rfl)) hat.2.1.symm (by rw [hat.2.1]; rfl) rfl (fun z => by cases z) (by rw [hat.2.1]; decide) (by rw [hat.2.1]; exact b2 rfl s args hW) hK0 hN0 hd hm kk
    | long => exact m_nwaW (at_ := .long) (k := 1002) hx hb (Or.inr (Or.inr rfl)) hat.2.2.symm (by rw [hat.2.2]; rfl) rfl (fun z => by cases z) (by rw [hat.2.2]; decide) (by rw [hat.2.2]; exact b3 rfl s args hW) hK0 hN0 hd hm kk
    | _ => cases hm
  | anewarray idx =>
    obtain ⟨h1, C, T, N, h2, h3, h4, h5⟩ := hlk
    obtain ⟨-, hfc, -⟩ := hK _ _ _ _ h3
    exact m_anwW hx hb hown h1 h2 hfc (h4 s args hW) (h5 s args hW) hK0 hN0 hd hm kk
  | multianewarray idx n =>
    obtain ⟨rfl, h1, h2, h3⟩ := hlk
    exact m_mulW hx hb hown (h1 s args hW) (h2 s args hW) (h3 s args hW) ⟨hat.2.1, hat4⟩ hK0 hN0 hd hm kk
  | _ => cases hm
/-- what an outcome of the small machine is in the JVM -/
def m_oc (φ : mF) (o : Outcome) : Outcome := match o with
  | .returned v => .returned (v.map (mf φ))
  | .threw x => .threw (φ.1 x)
/-- a frame's end: the outcome, the heap, what was written and made -/
def m_P (mcl : List vw_C) (D : va_G) (aty : Nat → FieldType) (tX nE : Nat) (ext : mF) (s0 : State) (o : Outcome) (S' : mS) (K0 N0 : Nat) : Outcome → Heap → List Loc → Nat → Nat → Prop := fun oc H L k n =>
  oc = m_oc (m_phi nE s0.heap.size ext) o ∧ m_HR mcl D aty tX nE s0.heap.size ext s0.heap s0 S'.1 H ∧ (∀ q ∈ L, s0.heap.size ≤ q.base) ∧ k + S'.2.1 ≤ K0 ∧ n + S'.2.2 ≤ N0
def m_nMH (y : MethodName) : Prop := y.cls ≠ "java/lang/invoke/MethodHandle" ∧ y.cls ≠ "java/lang/invoke/VarHandle"
/-- what an instruction links -/
def m_lk (mcl : List vw_C) (aty : Nat → FieldType) (tX : Nat) (φ : mF) (FL : Nat → List Value) (PG : List mM) (s0 : State) (M : mM) (pc : Nat) (i : ClassFile.Instr) (a b k : Nat) : Prop := match i with
  | .invokevirtual idx => ∃ M', PG[a]? = some M' ∧ (∃ T N k', k = k' + 1 ∧ k' < 1000 ∧ mcl[k']? = some (M'.1.cls, T, N)) ∧ m_TM s0 M.1.cls idx M'.1 ∧ m_T s0 (.instanceMethod M'.1) ∧ m_T s0 (.selects M'.1.cls M'.1 M'.1) ∧ m_nMH M'.1 ∧ (parseMethodDescriptor M'.1.desc).map (fun q => q.parameters.length + 1) = some b
  | .invokestatic idx => if a = 999998 then m_T s0 (.methodLink M.1.cls idx arraycopyName) ∧ m_T s0 (.native arraycopyName) ∧ m_T s0 (.static arraycopyName) ∧ m_T s0 (.initialized "java/lang/System")
    else ∃ M', PG[a]? = some M' ∧ m_TM s0 M.1.cls idx M'.1 ∧ m_T s0 (.static M'.1) ∧ m_T s0 (.initialized M'.1.cls) ∧ m_nMH M'.1 ∧ (parseMethodDescriptor M'.1.desc).map (fun q => q.parameters.length) = some b
  | .invokespecial idx => if a = 999999 then m_T s0 (.methodLink M.1.cls idx Lib.objectInit) ∧ m_T s0 (.instanceMethod Lib.objectInit) ∧ m_T s0 (.code Lib.objectInit ⟨#[0xb1]⟩ 1 none)
    else ∃ M', PG[a]? = some M' ∧ (∃ k', k = k' + 1) ∧ m_TM s0 M.1.cls idx M'.1 ∧ m_T s0 (.instanceMethod M'.1) ∧ M'.1.name = "<init>" ∧ m_T s0 (.code M'.1 M'.2.1 M'.2.2.1 none) ∧ m_nMH M'.1 ∧ (parseMethodDescriptor M'.1.desc).map (fun q => q.parameters.length + 1) = some b
  | .new idx => if k = 0 then ∃ C T N, mcl[a]? = some (C, T, N) ∧ a < 1000 ∧ m_T s0 (.classLink M.1.cls idx C) ∧ m_T s0 (.instantiable C b) ∧ m_T s0 (.initialized C) ∧ (∀ s : State, s0.WarmedH s.vm → m_LY C T N s) ∧ (FL a).length ≤ N ∧ ∀ (j : Nat) (v : Value), (FL a)[j]? = some v → mf φ v = v ∧ ∃ ty, parseFieldDescriptor (T j).2.2.1 = some ty ∧ defaultValue ty = v
    else ∃ C T N names ic, mcl[a]? = some (C, T, N) ∧ a < 1000 ∧ b = 6 ∧ M.2.2.2.2.1 = [] ∧ m_T s0 (.classLink M.1.cls idx C) ∧ m_T s0 (.instantiable C 6) ∧ m_T s0 (.initialized C) ∧ Bundle.fit C = true ∧ (∀ n ∈ names, Bundle.fit n = true) ∧ names.length ≤ 2 ∧
      (∀ (s : State) (args : Array Value), m_St s0 s → ∀ w ∈ Bundle.ownAtoms0 M.1.cls ic C names, w.before args s = true) ∧ decode M.2.1 (pc + 3) = .ok (.dup, 1) ∧ decode M.2.1 (pc + 4) = .ok (.invokespecial ic, 3) ∧ decode M.2.1 (pc + 7) = .ok (.athrow, 1)
  | i => m_lk1 mcl aty tX φ s0 M.1.cls M.1.name pc i a b k
/-- a method as the tables have it -/
def m_mt (mcl : List vw_C) (D : va_G) (s0 : State) (M : mM) : Prop := ((M.2.2.2.2.1 = [] ∧ m_T s0 (.code M.1 M.2.1 M.2.2.1 M.2.2.2.1)) ∨ m_T s0 (.codeWith M.1 M.2.1 M.2.2.1 M.2.2.2.1 (M.2.2.2.2.1.map (fun q => (q.1, q.2.1, q.2.2.1, q.2.2.2 / 1000))))) ∧ M.2.2.1 ≤ 21 ∧ plainFor M.1 = true ∧
  ∀ q ∈ M.2.2.2.2.1, q.2.2.2 / 1000 ≠ 0 ∧ (∃ C T N, mcl[q.2.2.2 % 1000]? = some (C, T, N) ∧ m_T s0 (.classLink M.1.cls (q.2.2.2 / 1000) C)) ∧ ∀ t, t < 4 → q.2.2.2 % 1000 ≠ t → s0.vm.assignable (D.1 t) (D.1 (q.2.2.2 % 1000)) = false
theorem m_HR.ns {h : mH} {H : Heap} {B : Nat} {H0 : Heap} {U : State} (hR : m_HR mcl D aty tX nE B ext H0 U h H) (q : Nat) (cell : Cell) (hq : B ≤ q) (hc : H[q]? = some cell) : cell.vm.isStatics = false := by
  have hlt : q < H.size := (Array.getElem?_eq_some_iff.mp hc).1
  obtain ⟨h1, h2, h3, h4, h5⟩ := hR
  have hk : q - B + nE < h.length := by omega
  obtain ⟨x, x1, x2, x3⟩ := h5 (q - B + nE) h[q - B + nE] (List.getElem?_eq_getElem hk)
  rw [m_phi_new (by omega), show B + (q - B + nE - nE) = q by omega] at x1
  cases hc.symm.trans x1
  exact x3.2.1
theorem m_take {st : List Value} {b : Nat} (h : b ≤ st.length) (φ : mF) : st.map (mf φ) = (((st.take b).reverse.map (mf φ)).reverse) ++ (st.drop b).map (mf φ) := by
  rw [List.map_reverse, List.reverse_reverse, ← List.map_append, List.take_append_drop]
set_option maxHeartbeats 4000000 in
theorem m_sound (hx : p.tables.exec = Jvm.exec) (htr : e.platform.stackTraces = false) (hat : aty 1000 = .byte ∧ aty 1001 = .int ∧ aty 1002 = .long) (hat4 : aty 1004 = .array .int) {FL : Nat → List Value} {PG : List mM}
    (hCL : ∀ (s : State), s0.WarmedH s.vm → m_CL mcl s) (hKK : m_KN mcl D s0) (h4 : ∀ t, t < 4 → ∃ C T N, mcl[t]? = some (C, T, N)) (hMT : ∀ M ∈ PG, m_mt mcl D s0 M)
    (hLK : ∀ M ∈ PG, ∀ (pc : Nat) (i : ClassFile.Instr) (len a b k : Nat), M.2.2.2.2.2[pc]? = some (some (i, len, a, b, k)) → decode M.2.1 pc = .ok (i, m_len i len) ∧ m_lk mcl aty tX (m_phi nE s0.heap.size ext) FL PG s0 M pc i a b k) :
    ∀ (n d : Nat) (M : mM) (pc : Nat) (ml : mL) (st : List Value) (S : mS) (o : Outcome) (S' : mS), M ∈ PG → m_run nE FL PG n d M (pc, ml, st, S) = some (o, S') → ∀ (R : Room) (s : State) (m : MethodId) (args : Array Value) (below : List Frame) (meth : Method) (c : Code) (K0 N0 : Nat),
      m_St s0 s → m_cd s M m meth c → d + 8 ≤ R.frames → 40 * d + 200 ≤ R.locals → K0 ≤ R.cells → N0 ≤ R.slots →
      m_KK p l e R s m args below meth c (m_Q below s (m_P mcl D aty tX nE ext s0 o S' K0 N0)) mcl D aty tX nE s0.heap.size ext s0.heap M.2.2.1 K0 N0 (pc, ml, st, S) := by
  intro n
  induction n with
  | zero => intro d M pc ml st S o S' hM h; cases h
  | succ n ih =>
    intro d M pc ml st S o S' hM h R s m args below meth c K0 N0 hst hcd hRf hRl hK0 hN0
    rw [m_run_succ] at h
    unfold m_turn at h
    simp only at h
    have hb : c.code = M.2.1 := hcd.2.2.2.1
    have hown : s.vm.findClass M.1.cls = some m.cls := findClass_of_methodNamed hcd.1
    have hlocks : meth.locks = false := hcd.2.2.2.2.2.2.1
    have hret : meth.sig.returnType = M.2.2.2.1 := hcd.2.2.2.2.2.1
    have hml : c.maxLocals = M.2.2.1 := hcd.2.2.2.2.1
    have hK := hKK.moved hst.1.alike
    have hC := hCL s hst.1
    have hal := hst.1.alike
    have hnm : meth.name = M.1.name := (name_of_methodNamed hcd.1 hcd.2.1).1
    cases hcode : M.2.2.2.2.2[pc]? with
    | none => rw [hcode] at h; cases h
    | some q =>
      cases q with
      | none => rw [hcode] at h; cases h
      | some q =>
        obtain ⟨i, len, a, b, k⟩ := q
        rw [hcode] at h
        simp only at h
        obtain ⟨hd, hlk⟩ := hLK M hM pc i len a b k hcode
        -- the callee's walk
        have callee : ∀ (M' : mM), M' ∈ PG → ∀ (vs : List Value) (S1 : mS) (o1 : Outcome) (d' : Nat), d = d' + 1 → (m_sl vs).length ≤ M'.2.2.1 → m_run nE FL PG n d' M' (0, m_ent vs M'.2.2.1, [], S) = some (o1, S1) →
            ∀ (mk : MethodId) (methk : Method) (ck : Code) (g : JFrame) (H : Heap), m_HR mcl D aty tX nE s0.heap.size ext s0.heap s S.1 H → ∀ T₁ : State, T₁.heap = H → s.WarmedH T₁.vm → m_cd (T₁.calling g mk (vs.map (mf (m_phi nE s0.heap.size ext))).toArray) M' mk methk ck →
            W p l e { frames := R.frames - 1, cells := S.2.1, slots := S.2.2, locals := R.locals - (8 + (M'.2.2.1 + 11)) } (T₁.calling g mk (vs.map (mf (m_phi nE s0.heap.size ext))).toArray) mk (vs.map (mf (m_phi nE s0.heap.size ext))).toArray (.java g :: below) methk ck H [] 0 0
              (m_Q (.java g :: below) (T₁.calling g mk (vs.map (mf (m_phi nE s0.heap.size ext))).toArray) (m_P mcl D aty tX nE ext s0 o1 S1 S.2.1 S.2.2)) (entryFrame mk (vs.map (mf (m_phi nE s0.heap.size ext))).toArray ck.maxLocals) := by
          intro M' hM' vs S1 o1 d' hdd hsl hr mk methk ck g H hH T₁ hT₁ hW₁ hcd'
          have hmt := hMT M' hM'
          have hmax := hmt.2.1
          have hW' : s0.WarmedH T₁.vm := State.WarmedH.trans hst.1 hW₁
          have hst' : m_St s0 (T₁.calling g mk (vs.map (mf (m_phi nE s0.heap.size ext))).toArray) := by
            refine ⟨hW', fun q hq => ?_, fun q cell hq hc => ?_⟩
            · show T₁.heap[q]? = _
              rw [hT₁]
              exact hH.2.2.2.1 q hq
            · have hc : T₁.heap[q]? = some cell := hc
              rw [hT₁] at hc
              exact hH.ns q cell hq hc
          rw [show ck.maxLocals = M'.2.2.1 from hcd'.2.2.2.2.1, lg_entry_eq]
          exact ih d' M' 0 (m_ent vs M'.2.2.1) [] S o1 S1 hM' hr _ _ mk _ _ methk ck S.2.1 S.2.2 hst' hcd' (by show d' + 8 ≤ R.frames - 1; omega) (by show 40 * d' + 200 ≤ R.locals - (8 + (M'.2.2.1 + 11)); omega) (Nat.le_refl _) (Nat.le_refl _) _ H [] 0 0 (m_LR.ent _ vs hsl) (hH.moved hW₁.alike) (fun q hq => by cases hq) (by simp) (by simp)
        -- back from it
        have back : ∀ (rest : List Value) (S1 : mS) (o1 : Outcome) (ls : Array Slot) (H : Heap) (locs : List Loc) (cells slots : Nat), m_LR (m_phi nE s0.heap.size ext) M.2.2.1 ml ls → (∀ q ∈ locs, s0.heap.size ≤ q.base) → cells + S.2.1 ≤ K0 → slots + S.2.2 ≤ N0 → m_back (m_run nE FL PG n) d M pc ml rest (some (o1, S1)) = some (o, S') →
            (∀ (v : Option Value) (H' : Heap) (L : List Loc) (kc ks : Nat), m_P mcl D aty tX nE ext s0 o1 S1 S.2.1 S.2.2 (.returned v) H' L kc ks → W p l e R s m args below meth c H' (locs ++ L) (cells + kc) (slots + ks) (m_Q below s (m_P mcl D aty tX nE ext s0 o S' K0 N0)) (F0 m (pc + 3) ls (v.toList ++ rest.map (mf (m_phi nE s0.heap.size ext))))) ∧
            (∀ (x : Addr) (H' : Heap) (L : List Loc) (kc ks : Nat), m_P mcl D aty tX nE ext s0 o1 S1 S.2.1 S.2.2 (.threw x) H' L kc ks → ∀ T' : State, T'.heap = H' → Stand p l e R s m args below meth c T' (locs ++ L) (cells + kc) (slots + ks) → ∃ t, Steps p.tables e below ((T'.setTop (F0 m pc ls (rest.map (mf (m_phi nE s0.heap.size ext))))).pushFrame (.throwing x)) t ∧ m_Q below s (m_P mcl D aty tX nE ext s0 o S' K0 N0) t) := by
          intro rest S1 o1 ls H locs cells slots hL hl hcc hss hbk
          have hloc : ∀ L : List Loc, (∀ q ∈ L, s0.heap.size ≤ q.base) → ∀ q ∈ locs ++ L, s0.heap.size ≤ q.base := by
            intro L hL q hq
            rcases List.mem_append.mp hq with h1 | h1
            · exact hl q h1
            · exact hL q h1
          refine ⟨fun v H' L kc ks hP => ?_, fun x H' L kc ks hP T' hT' X' => ?_⟩
          · obtain ⟨e1, hH', hL', b1, b2⟩ := hP
            cases o1 with
            | threw x => cases e1
            | returned v1 =>
              cases e1
              unfold m_back at hbk
              simp only at hbk
              have q := ih d M (pc + 3) ml (v1.toList ++ rest) S1 o S' hM hbk R s m args below meth c K0 N0 hst hcd hRf hRl hK0 hN0 ls H' (locs ++ L) (cells + kc) (slots + ks) hL (hH'.moved hal) (hloc L hL') (by show cells + kc + S1.2.1 ≤ K0; omega) (by show slots + ks + S1.2.2 ≤ N0; omega)
              have e2 : (v1.toList ++ rest).map (mf (m_phi nE s0.heap.size ext)) = (v1.map (mf (m_phi nE s0.heap.size ext))).toList ++ rest.map (mf (m_phi nE s0.heap.size ext)) := by cases v1 <;> rfl
              rw [← e2]
              exact q
          · obtain ⟨e1, hH', hL', b1, b2⟩ := hP
            cases o1 with
            | returned v1 => cases e1
            | threw x1 =>
              cases e1
              unfold m_back at hbk
              simp only at hbk
              cases hx1 : S1.1[x1]? with
              | none => rw [hx1] at hbk; cases hbk
              | some cx =>
                obtain ⟨t, fx⟩ := cx
                rw [hx1] at hbk
                simp only at hbk
                have hex := hcd.2.2.2.2.2.2.2.2
                split at hbk
                · next hemp =>
                  cases hbk
                  have h0 : M.2.2.2.2.1 = [] := List.isEmpty_iff.mp hemp
                  rw [h0] at hex
                  have h1 : c.exceptionTable.toList = [] := List.map_eq_nil_iff.mp hex
                  exact m_out X' hT' _ rfl rfl rfl hlocks (by rw [h1]; intro x hx; cases hx) ⟨rfl, hH', hloc L hL', by omega, by omega⟩
                · split at hbk
                  · next ht4 =>
                    split at hbk
                    · next hp hhp =>
                      obtain ⟨y, y1, y2, y3⟩ := hH'.2.2.2.2 x1 _ hx1
                      obtain ⟨w1, -, -⟩ := y3.2.2.1 (show t < 1000 by omega)
                      have hplat : e.platform.magicAccessors = ({} : Platform).magicAccessors := by rw [X'.admits.platform]
                      have hkt : ∃ k, s.vm.classes[D.1 t]? = some k := by
                        obtain ⟨C, TT, N, hq⟩ := h4 t ht4
                        obtain ⟨-, -, kC, hkC⟩ := hK _ _ _ _ hq
                        exact ⟨kC, hkC⟩
                      obtain ⟨vm', hWv, go⟩ := m_goFind (e := e) (s := s) (f := F0 m pc ls (rest.map (mf (m_phi nE s0.heap.size ext)))) (a := m_ad nE s0.heap.size ext x1) (pc := pc) (t := t) (hp := hp) (dC := D.1) (cell := y) rfl (fun z hz => by have := y3.2.1; rw [hz] at this; cases this) w1 hkt c.exceptionTable.toList M.2.2.2.2.1 hex
                        (fun q hq => by
                          obtain ⟨z1, ⟨C, TT, N, z2, z3⟩, z4⟩ := (hMT M hM).2.2.2 q hq
                          obtain ⟨-, hfc, kC, hkC⟩ := hK _ _ _ _ z2
                          obtain ⟨c', hc', hcl⟩ := Cond.classLink_spec hown (z3 s args hst.1) e.platform hplat
                          cases hfc.symm.trans hc'
                          exact ⟨z1, hcl, ⟨kC, hkC⟩, fun z => by rw [hal.assignable]; exact z4 t ht4 z⟩) T'.vm X'.warmed hhp
                      have X2 := X'.noted hWv
                      obtain ⟨t2, st2, hQ2⟩ := ih d M hp ml [.ref x1] S1 o S' hM hbk R s m args below meth c K0 N0 hst hcd hRf hRl hK0 hN0 ls H' (locs ++ L) (cells + kc) (slots + ks) hL (hH'.moved hal) (hloc L hL') (by show cells + kc + S1.2.1 ≤ K0; omega) (by show slots + ks + S1.2.2 ≤ N0; omega) (T'.setVm vm') hT' X2
                      refine ⟨t2, m_caught (g := F0 m pc ls (rest.map (mf (m_phi nE s0.heap.size ext)))) X'.here (fun Q E d acts hQ => ?_) st2, hQ2⟩
                      rw [W.findHandler_eq (meth := meth) (code := c) (by rw [Stand.throwing_vm]; exact X'.method') hcd.2.2.1]
                      exact go Q E d acts _ (by rw [Stand.throwing_vm]) (by rw [Stand.throwing_heap, hT']; exact y1) hQ
                    · cases hbk
                  · cases hbk
        -- a call's parts
        have parts : ∀ M', PG[a]? = some M' → m_call PG (m_run nE FL PG n) d M a b k pc ml st S = some (o, S') →
            ∃ (vs rest : List Value) (S1 : mS) (o1 : Outcome) (d' : Nat), d = d' + 1 ∧ st.map (mf (m_phi nE s0.heap.size ext)) = (vs.map (mf (m_phi nE s0.heap.size ext))).reverse ++ rest.map (mf (m_phi nE s0.heap.size ext)) ∧ vs.length = b ∧ (rest.map fun v => v.category).sum ≤ 8 ∧ (m_sl vs).length ≤ M'.2.2.1 ∧ m_rcv k vs S.1 = true ∧
              m_run nE FL PG n d' M' (0, m_ent vs M'.2.2.1, [], S) = some (o1, S1) ∧ m_back (m_run nE FL PG n) d M pc ml rest (some (o1, S1)) = some (o, S') := by
          intro M' hM' hcall
          unfold m_call at hcall
          split at hcall
          · cases hcall
          · next d' =>
            rw [hM'] at hcall
            simp only at hcall
            split at hcall
            · next hq =>
              obtain ⟨q1, q2, q3, q4⟩ := hq
              cases hr : m_run nE FL PG n d' M' (0, m_ent (st.take b).reverse M'.2.2.1, [], S) with
              | none => rw [hr] at hcall; cases hcall
              | some r =>
                obtain ⟨o1, S1⟩ := r
                rw [hr] at hcall
                exact ⟨_, st.drop b, S1, o1, d', rfl, m_take q1 _, by simp; omega, q2, q3, q4, hr, hcall⟩
            · cases hcall
        have mt : ∀ M' ∈ PG, ∃ mk methk ck, m_cd s M' mk methk ck := by
          intro M' hM'
          rcases (hMT M' hM').1 with ⟨g1, g2⟩ | g2
          · exact m_cd.code (g2 s args hst.1) g1
          · exact m_cd.with (g2 s args hst.1)
        have room : ∀ (M' : mM), M' ∈ PG → ∀ (cells slots : Nat), cells + S.2.1 ≤ K0 → slots + S.2.2 ≤ N0 → R.frames - 1 + 1 ≤ R.frames ∧ 8 + (M'.2.2.1 + 11) + (R.locals - (8 + (M'.2.2.1 + 11))) ≤ R.locals ∧ cells + S.2.1 ≤ R.cells ∧ slots + S.2.2 ≤ R.slots := by
          intro M' hM' cells slots h1 h2
          have := (hMT M' hM').2.1
          omega
        split at h
        · next idx =>
          obtain ⟨M', hM', ⟨TT, N, k', hk', hk1, hcl⟩, hTM, hin, hsel, hnmh, hpar⟩ := hlk
          have hMin : M' ∈ PG := List.mem_of_getElem? hM'
          obtain ⟨vs, rest, S1, o1, d', hdd, est, hlen, hcat, hsl, hrcv, hr, hbk⟩ := parts M' hM' h
          obtain ⟨mk, methk, ck, hcdk⟩ := mt M' hMin
          subst hk'
          unfold m_rcv at hrcv
          simp only at hrcv
          split at hrcv
          · next r vs' =>
            split at hrcv
            · next t fs hrt =>
              have ht : t = k' := by simpa using hrcv
              subst ht
              intro ls H locs cells slots hL hH hl hcc hss
              obtain ⟨hret', hthr'⟩ := back rest S1 o1 ls H locs cells slots hL hl hcc hss hbk
              obtain ⟨r1, r2, r3, r4⟩ := room M' hMin cells slots hcc hss
              obtain ⟨y, y1, -, y3⟩ := hH.2.2.2.2 r _ hrt
              obtain ⟨w1, -, -⟩ := y3.2.2.1 hk1
              obtain ⟨-, hfc, -⟩ := hK _ _ _ _ hcl
              have hn : (vs'.map (mf (m_phi nE s0.heap.size ext))).length = methk.sig.parameters.length := by
                rw [hcdk.2.2.2.2.2.2.2.1] at hpar
                simp at hpar hlen ⊢
                omega
              have e5 : st.map (mf (m_phi nE s0.heap.size ext)) = (vs'.map (mf (m_phi nE s0.heap.size ext))).reverse ++ .ref (m_ad nE s0.heap.size ext r) :: rest.map (mf (m_phi nE s0.heap.size ext)) := by
                rw [est]
                simp [mf, m_phi]
              show W p l e R s m args below meth c H locs cells slots _ (F0 m pc ls (st.map (mf (m_phi nE s0.heap.size ext))))
              rw [e5]
              exact m_callV hx hb hown (hTM s args hst.1) hcdk (hin s args hst.1) (hsel s args hst.1) hnmh (hMT M' hMin).2.2.1 y1 y3.2.1 (by rw [w1]; exact hfc) hn hd (by rw [hL.2.1, hml]) (by rw [mf_cats]; exact hcat) r1 r2 r3 r4
                (fun T₁ hT₁ hW₁ hcd' => callee M' hMin (.ref r :: vs') S1 o1 d' hdd hsl hr mk methk ck _ H hH T₁ hT₁ hW₁ hcd') hret' hthr'
            · cases hrcv
          · cases hrcv
        · next idx =>
          unfold m_lk at hlk
          simp only at hlk
          split at h
          · next ha =>
            rw [if_pos ha] at hlk
            split at h
            · next d' r rest =>
              split at h
              · next hcat =>
                intro ls H locs cells slots hL hH hl hcc hss
                have q := ih (d' + 1) M (pc + 3) ml rest S o S' hM h R s m args below meth c K0 N0 hst hcd hRf hRl hK0 hN0 ls H locs cells slots hL hH hl hcc hss
                exact W.objInit hx hb hown (hlk.1 s args hst.1) (hlk.2.1 s args hst.1) (hlk.2.2 s args hst.1) rfl (by show ls.size = _; rw [hL.2.1, hml]) rfl hd (by omega) (by show 2 * 0 + _ + 12 ≤ _; rw [mf_cats]; omega) q
              · cases h
            · cases h
          · next ha =>
            rw [if_neg ha] at hlk
            obtain ⟨M', hM', ⟨k', hk'⟩, hTM, hin, hini, hcod, hnmh, hpar⟩ := hlk
            have hMin : M' ∈ PG := List.mem_of_getElem? hM'
            obtain ⟨vs, rest, S1, o1, d', hdd, est, hlen, hcat, hsl, hrcv, hr, hbk⟩ := parts M' hM' h
            obtain ⟨mk, methk, ck, hcdk⟩ := mt M' hMin
            subst hk'
            unfold m_rcv at hrcv
            simp only at hrcv
            split at hrcv
            · next r vs' =>
              intro ls H locs cells slots hL hH hl hcc hss
              obtain ⟨hret', hthr'⟩ := back rest S1 o1 ls H locs cells slots hL hl hcc hss hbk
              obtain ⟨r1, r2, r3, r4⟩ := room M' hMin cells slots hcc hss
              have hn : (vs'.map (mf (m_phi nE s0.heap.size ext))).length = methk.sig.parameters.length := by
                rw [hcdk.2.2.2.2.2.2.2.1] at hpar
                simp at hpar hlen ⊢
                omega
              have e5 : st.map (mf (m_phi nE s0.heap.size ext)) = (vs'.map (mf (m_phi nE s0.heap.size ext))).reverse ++ .ref (m_ad nE s0.heap.size ext r) :: rest.map (mf (m_phi nE s0.heap.size ext)) := by
                rw [est]
                simp [mf, m_phi]
              show W p l e R s m args below meth c H locs cells slots _ (F0 m pc ls (st.map (mf (m_phi nE s0.heap.size ext))))
              rw [e5]
              exact m_callI hx hb hown (hTM s args hst.1) hcdk (hin s args hst.1) hini (hcod s args hst.1) hnmh (hMT M' hMin).2.2.1 hn hd (by rw [hL.2.1, hml]) (by rw [mf_cats]; exact hcat) r1 r2 r3 r4
                (fun T₁ hT₁ hW₁ hcd' => callee M' hMin (.ref r :: vs') S1 o1 d' hdd hsl hr mk methk ck _ H hH T₁ hT₁ hW₁ hcd') hret' hthr'
            · cases hrcv
        · next idx =>
          unfold m_lk at hlk
          simp only at hlk
          split at h
          · next ha =>
            rw [if_pos ha] at hlk
            split at h
            · next d' g' hg' =>
              split at h
              · next hcat =>
                exact m_cpyW hx hb hown (hlk.1 s args hst.1) (hlk.2.1 s args hst.1) (hlk.2.2.1 s args hst.1) (hlk.2.2.2 s args hst.1) hat.1 (by omega) (by omega) hml.symm hd hg' hcat (ih (d' + 1) M g'.1 g'.2.1 g'.2.2.1 g'.2.2.2 o S' hM h R s m args below meth c K0 N0 hst hcd hRf hRl hK0 hN0)
              · cases h
            · cases h
          · next ha =>
            rw [if_neg ha] at hlk
            obtain ⟨M', hM', hTM, hsta, hini, hnmh, hpar⟩ := hlk
            have hMin : M' ∈ PG := List.mem_of_getElem? hM'
            obtain ⟨vs, rest, S1, o1, d', hdd, est, hlen, hcat, hsl, hrcv, hr, hbk⟩ := parts M' hM' h
            obtain ⟨mk, methk, ck, hcdk⟩ := mt M' hMin
            intro ls H locs cells slots hL hH hl hcc hss
            obtain ⟨hret', hthr'⟩ := back rest S1 o1 ls H locs cells slots hL hl hcc hss hbk
            obtain ⟨r1, r2, r3, r4⟩ := room M' hMin cells slots hcc hss
            have hn : (vs.map (mf (m_phi nE s0.heap.size ext))).length = methk.sig.parameters.length := by
              rw [hcdk.2.2.2.2.2.2.2.1] at hpar
              simp at hpar hlen ⊢
              omega
            show W p l e R s m args below meth c H locs cells slots _ (F0 m pc ls (st.map (mf (m_phi nE s0.heap.size ext))))
            rw [est]
            exact m_callS hx hb hown (hTM s args hst.1) hcdk (hsta s args hst.1) (hini s args hst.1) hnmh (hMT M' hMin).2.2.1 hn hd (by rw [hL.2.1, hml]) (by rw [mf_cats]; exact hcat) r1 r2 r3 r4
              (fun T₁ hT₁ hW₁ hcd' => callee M' hMin vs S1 o1 d' hdd hsl hr mk methk ck _ H hH T₁ hT₁ hW₁ hcd') hret' hthr'
        · split at h
          · next x ty hrt =>
            cases h
            intro ls H locs cells slots hL hH hl hcc hss
            have hnr : (some (narrow ty (Value.int x))).map (mf (m_phi nE s0.heap.size ext)) = some (narrow ty (.int x)) := by
              cases ty <;> rfl
            exact m_iret hx hb (hret.trans hrt) hlocks hd ⟨by show _ = Outcome.returned _; rw [hnr], hH.moved hal.symm, hl, hcc, hss⟩
          · cases h
        · split at h
          · next x hrt =>
            cases h
            intro ls H locs cells slots hL hH hl hcc hss
            exact m_lret hx hb (hret.trans hrt) hlocks hd ⟨rfl, hH.moved hal.symm, hl, hcc, hss⟩
          · cases h
        · split at h
          · next hrt =>
            cases h
            intro ls H locs cells slots hL hH hl hcc hss
            exact m_vret hx hb (hret.trans hrt) hlocks hd ⟨rfl, hH.moved hal.symm, hl, hcc, hss⟩
          · cases h
        · next idx =>
          unfold m_lk at hlk
          simp only at hlk
          split at h
          · next hk0 =>
            rw [if_pos hk0] at hlk
            obtain ⟨C, TT, N, h1, h2, h3, h5, h6, hY, h7, h8⟩ := hlk
            split at h
            · next g' hg' => exact m_newW hx hb hown (hY s hst.1) hK h1 h2 (h3 s args hst.1) (h5 s args hst.1) (h6 s args hst.1) h7 h8 hK0 hN0 hd hg' (ih d M g'.1 g'.2.1 g'.2.2.1 g'.2.2.2 o S' hM h R s m args below meth c K0 N0 hst hcd hRf hRl hK0 hN0)
            · cases h
          · next hk0 =>
            rw [if_neg hk0] at hlk
            obtain ⟨C, TT, N, names, ic, h1, h2, h3, h5, h6, h7, h8, h9, h10, h11, h12, h13, h14, h15⟩ := hlk
            split at h
            · next r S2 hhs hmk =>
              split at h
              · next hcat =>
                cases h
                unfold m_mk at hmk
                split at hmk
                · next hq =>
                  cases hmk
                  subst h3
                  intro ls H locs cells slots hL hH hl hcc hss
                  have hcc' : cells + S.2.1 ≤ K0 := hcc
                  have hss' : slots + S.2.2 ≤ N0 := hss
                  obtain ⟨-, hfc, -⟩ := hK _ _ _ _ h1
                  intro T0 hT0 X0
                  have hge : s.heap.size ≤ H.size := by
                    rw [← hT0]
                    exact X0.same.2.1
                  refine (show W p l e R s m args below meth c H locs cells slots _ _ from ?_) T0 hT0 X0
                  refine W.newc hx hb hown (h6 s args hst.1) (h7 s args hst.1) (h8 s args hst.1) rfl hd (by omega) (by omega) (fun cC kC c1 c2 c3 c4 => ?_)
                  refine lv_dup hx hb h13 rfl ?_
                  intro T hT X
                  have hnx := hH.next
                  have hex := hcd.2.2.2.2.2.2.2.2
                  rw [h5] at hex
                  have htb : c.exceptionTable.toList = [] := List.map_eq_nil_iff.mp hex
                  have hh : T.heap[H.size]? = some (freshCell cC kC) := by rw [hT]; simp [freshCell]
                  obtain ⟨U, ce, u1, u2, u3, u4, u5, u6, u7, u8⟩ := m_ctorThrow X hx htr hown h9 h10 (h12 s args hst) (fun x hx1 cell hc1 => hst.2.2 x.base cell (hl x hx1) hc1) c1 c2 hh hge (g := F0 m (pc + 3 + 1) ls (.ref H.size :: .ref H.size :: st.map (mf (m_phi nE s0.heap.size ext)))) rfl (by show ls.size = _; rw [hL.2.1, hml]) rfl rfl rfl (by rw [hb]; exact h14) (by rw [hb]; exact h15) (by rw [htb]; intro x hx; cases hx) (by omega) (by
                    show 2 * 0 + (1 + ((st.map (mf (m_phi nE s0.heap.size ext))).map fun v => v.category).sum) + _ ≤ _
                    rw [mf_cats]
                    have := hcat.2
                    omega) hlocks
                  refine ⟨U, u1, .threw H.size, locs, cells + 1, slots + 6, u2, u3, u4, u5, ?_, ?_, hl, ?_, ?_⟩
                  · show _ = Outcome.threw (m_ad nE s0.heap.size ext S.1.length)
                    rw [show m_ad nE s0.heap.size ext S.1.length = H.size from hnx]
                  · rw [u6, hT]
                    refine (hH.moved hal.symm).push (c' := (a, [])) (x' := ce) ?_ ?_ ?_ u8 ?_
                    · simp
                    · simp
                    · intro q hq
                      simp [Array.getElem?_setIfInBounds, Array.getElem?_push, Nat.ne_of_gt hq, Nat.ne_of_lt hq]
                    · have e0 : D.1 a = cC := Option.some.inj (hfc.symm.trans c1)
                      exact ⟨(by rw [u8]; exact fun z => by cases z), (by rw [u8]; rfl), fun _ => ⟨by rw [u7, ← e0], ⟨_, h1, Nat.zero_le _⟩, fun j v hj => by cases hj⟩, fun z => absurd h2 (Nat.not_lt.mpr z)⟩
                  · show cells + 1 + (S.2.1 - 1) ≤ K0
                    omega
                  · show slots + 6 + (S.2.2 - 6) ≤ N0
                    omega
                · cases hmk
              · cases h
            · cases h
        · next hn1 hn2 hn3 hn4 hn5 hn6 hn7 =>
          split at h
          · next g' hg' =>
            refine m_oneW hx hb hown hst hC hK hat hat4 hK0 hN0 hd ?_ hg' (ih d M g'.1 g'.2.1 g'.2.2.1 g'.2.2.2 o S' hM h R s m args below meth c K0 N0 hst hcd hRf hRl hK0 hN0)
            rw [hnm]
            cases i <;> first | exact hlk | exact absurd rfl (hn1 _) | exact absurd rfl (hn2 _) | exact absurd rfl (hn3 _) | exact absurd rfl (hn7 _)
          · cases h
end Sound
