/-! Values as rows of numbers that stand in the same ORDER. -/
section Key167
def thenC (c d : Int32) : Int32 := if c = 0 then d else c
theorem cmpS_c (x y : Int32) (a b : List Int32) : cmpS (x :: a) (y :: b) = if x = y then cmpS a b else if y ≤ x then 1 else -1 := rfl
def keyS (s : List Int32) : List Int32 := s.map (fun c => c + 1) ++ [0]
def keyN (l : List (List Int32)) : List Int32 := l.flatMap (fun s => 1 :: keyS s) ++ [0]
def keyA (R : Vl → List Int32) (l : List Mb) : List Int32 := l.flatMap (fun m => 1 :: R m.2) ++ [0]
def keyV (v : Int) : List Int32 := [Int32.ofNat ((v + 9007199254740992).toNat / 1073741824), Int32.ofNat ((v + 9007199254740992).toNat % 1073741824)]
def key : Nat → Vl → List Int32
  | 0, _ => []
  | n + 1, t => Int32.ofNat t.1 :: (if t.1 = 3 then keyV t.2.1 else if t.1 = 4 then keyS t.2.2.1 else if t.1 = 5 then keyA (key n) (toL t.2.2.2) else if t.1 = 6 then keyN (nms (srt (toL t.2.2.2))) ++ keyA (key n) (srt (toL t.2.2.2)) else [])
theorem c_add {c : Int32} (h : 0 ≤ c ∧ c ≤ 127) : (c + 1).toInt = c.toInt + 1 ∧ 0 ≤ c.toInt ∧ c.toInt ≤ 127 := by
  obtain ⟨h1, h2⟩ := h
  rw [i_le] at h1 h2
  have z0 : (0 : Int32).toInt = 0 := rfl
  have z1 : (1 : Int32).toInt = 1 := rfl
  have z2 : (127 : Int32).toInt = 127 := rfl
  rw [i_add (by omega) (by omega)]
  omega
theorem okS.tl {c : Int32} {s : List Int32} (h : okS (c :: s)) : (0 ≤ c ∧ c ≤ 127) ∧ okS s := ⟨h c List.mem_cons_self, fun x hx => h x (List.mem_cons_of_mem _ hx)⟩
theorem keyS_cmp : ∀ (s s' r r' : List Int32), okS s → okS s' → cmpS (keyS s ++ r) (keyS s' ++ r') = thenC (cmpS s s') (cmpS r r') := by
  intro s
  have z0 : (0 : Int32).toInt = 0 := rfl
  induction s with
  | nil =>
    intro s' r r' _ hs'
    cases s' with
    | nil =>
      show cmpS (0 :: r) (0 :: r') = _
      rw [cmpS_c, if_pos rfl]
      rfl
    | cons c s' =>
      obtain ⟨h1, h2, h3⟩ := c_add hs'.tl.1
      show cmpS (0 :: r) ((c + 1) :: (keyS s' ++ r')) = _
      rw [cmpS_c, if_neg (fun e => by have := congrArg Int32.toInt e; omega), if_neg (by rw [i_le]; omega)]
      rfl
  | cons c s ih =>
    intro s' r r' hs hs'
    obtain ⟨h1, h2, h3⟩ := c_add hs.tl.1
    cases s' with
    | nil =>
      show cmpS ((c + 1) :: (keyS s ++ r)) (0 :: r') = _
      rw [cmpS_c, if_neg (fun e => by have := congrArg Int32.toInt e; omega), if_pos (by rw [i_le]; omega)]
      rfl
    | cons c' s' =>
      obtain ⟨g1, g2, g3⟩ := c_add hs'.tl.1
      show cmpS ((c + 1) :: (keyS s ++ r)) ((c' + 1) :: (keyS s' ++ r')) = thenC (cmpS (c :: s) (c' :: s')) _
      rw [cmpS_c, cmpS_c, ih s' r r' hs.tl.2 hs'.tl.2]
      by_cases e : c = c'
      · rw [if_pos e, if_pos (by rw [e])]
      · have e' : ¬ c + 1 = c' + 1 := fun x => e (Int32.toInt_inj.mp (by have := congrArg Int32.toInt x; omega))
        rw [if_neg e, if_neg e']
        by_cases g : c' ≤ c
        · rw [if_pos g, if_pos (by rw [i_le] at g ⊢; omega)]
          rfl
        · rw [if_neg g, if_neg (by rw [i_le] at g ⊢; omega)]
          rfl
theorem keyN_cmp : ∀ (l l' : List (List Int32)) (r r' : List Int32), (∀ s ∈ l, okS s) → (∀ s ∈ l', okS s) → cmpS (keyN l ++ r) (keyN l' ++ r') = thenC (namK l l') (cmpS r r') := by
  intro l
  induction l with
  | nil =>
    intro l' r r' _ _
    cases l' with
    | nil =>
      show cmpS (0 :: r) (0 :: r') = _
      rw [cmpS_c, if_pos rfl]
      rfl
    | cons s l' =>
      show cmpS (0 :: r) (1 :: _) = _
      rw [cmpS_c, if_neg (by decide), if_neg (by decide)]
      rfl
  | cons s l ih =>
    intro l' r r' h h'
    cases l' with
    | nil =>
      show cmpS (1 :: _) (0 :: r') = _
      rw [cmpS_c, if_neg (by decide), if_pos (by decide)]
      rfl
    | cons s' l' =>
      have e : ∀ (x : List Int32) (y : List (List Int32)) (z : List Int32), keyN (x :: y) ++ z = 1 :: (keyS x ++ (keyN y ++ z)) := fun x y z => by
        unfold keyN
        rw [List.flatMap_cons]
        simp
      rw [e, e, cmpS_c, if_pos rfl, keyS_cmp _ _ _ _ (h s List.mem_cons_self) (h' s' List.mem_cons_self), ih l' r r' (fun x hx => h x (List.mem_cons_of_mem _ hx)) (fun x hx => h' x (List.mem_cons_of_mem _ hx))]
      show _ = thenC (if cmpS s s' = 0 then namK l l' else cmpS s s') _
      unfold thenC
      by_cases c : cmpS s s' = 0
      · rw [if_pos c, if_pos c]
      · rw [if_neg c, if_neg c, if_neg c]
theorem keyA_cmp {R : Vl → List Int32} {Rc : Vl → Vl → Int32} : ∀ (l l' : List Mb) (r r' : List Int32), (∀ m ∈ l, ∀ m' ∈ l', ∀ r r', cmpS (R m.2 ++ r) (R m'.2 ++ r') = thenC (Rc m.2 m'.2) (cmpS r r')) → cmpS (keyA R l ++ r) (keyA R l' ++ r') = thenC (arrK Rc l l') (cmpS r r') := by
  intro l
  induction l with
  | nil =>
    intro l' r r' _
    cases l' with
    | nil =>
      show cmpS (0 :: r) (0 :: r') = _
      rw [cmpS_c, if_pos rfl]
      rfl
    | cons m l' =>
      show cmpS (0 :: r) (1 :: _) = _
      rw [cmpS_c, if_neg (by decide), if_neg (by decide)]
      rfl
  | cons m l ih =>
    intro l' r r' h
    cases l' with
    | nil =>
      show cmpS (1 :: _) (0 :: r') = _
      rw [cmpS_c, if_neg (by decide), if_pos (by decide)]
      rfl
    | cons m' l' =>
      have e : ∀ (x : Mb) (y : List Mb) (z : List Int32), keyA R (x :: y) ++ z = 1 :: (R x.2 ++ (keyA R y ++ z)) := fun x y z => by
        unfold keyA
        rw [List.flatMap_cons]
        simp
      rw [e, e, cmpS_c, if_pos rfl, h m List.mem_cons_self m' List.mem_cons_self, ih l' r r' (fun x hx y hy => h x (List.mem_cons_of_mem _ hx) y (List.mem_cons_of_mem _ hy))]
      show _ = thenC (if Rc m.2 m'.2 = 0 then arrK Rc l l' else Rc m.2 m'.2) _
      unfold thenC
      by_cases c : Rc m.2 m'.2 = 0
      · rw [if_pos c, if_pos c]
      · rw [if_neg c, if_neg c, if_neg c]
theorem keyV_cmp {v w : Int} (hv : -9007199254740991 ≤ v ∧ v ≤ 9007199254740991) (hw : -9007199254740991 ≤ w ∧ w ≤ 9007199254740991) (r r' : List Int32) : cmpS (keyV v ++ r) (keyV w ++ r') = thenC (l_cmp (Int64.ofInt v) (Int64.ofInt w)) (cmpS r r') := by
  have l1 := l_of (z := v) (by omega) (by omega)
  have l2 := l_of (z := w) (by omega) (by omega)
  obtain ⟨a, ha⟩ : ∃ a, a = (v + 9007199254740992).toNat := ⟨_, rfl⟩
  obtain ⟨b, hb⟩ : ∃ b, b = (w + 9007199254740992).toNat := ⟨_, rfl⟩
  have ba : a / 1073741824 < 2147483648 := by omega
  have bb : b / 1073741824 < 2147483648 := by omega
  have ma : a % 1073741824 < 2147483648 := by omega
  have mb : b % 1073741824 < 2147483648 := by omega
  unfold keyV
  rw [← ha, ← hb]
  show cmpS (Int32.ofNat (a / 1073741824) :: Int32.ofNat (a % 1073741824) :: r) (Int32.ofNat (b / 1073741824) :: Int32.ofNat (b % 1073741824) :: r') = _
  rw [cmpS_c, cmpS_c]
  by_cases e : v = w
  · have hab : a = b := by rw [ha, hb, e]
    rw [if_pos (by rw [hab]), if_pos (by rw [hab]), (l_cmp0 hv hw).mpr e]
    rfl
  · have hab : a ≠ b := by omega
    have hlc : l_cmp (Int64.ofInt v) (Int64.ofInt w) = if w ≤ v then 1 else -1 := by
      unfold l_cmp
      by_cases g : w ≤ v
      · rw [if_pos ((lg_ge _ _).mpr (by rw [l1, l2]; exact g)), if_neg (fun c => e (by rw [lg_eq] at c; have := congrArg Int64.toInt c; rw [l1, l2] at this; exact this)), if_pos g]
      · rw [if_neg (by rw [lg_ge, l1, l2]; exact g), if_neg g]
    rw [hlc]
    have hth : ∀ d, thenC (if w ≤ v then 1 else -1) d = if w ≤ v then 1 else -1 := fun d => by
      unfold thenC
      by_cases g : w ≤ v
      · rw [if_pos g, if_neg (by decide)]
      · rw [if_neg g, if_neg (by decide)]
    rw [hth]
    by_cases e1 : a / 1073741824 = b / 1073741824
    · rw [if_pos (by rw [e1]), if_neg (by rw [i_inj ma mb]; omega)]
      by_cases g : w ≤ v
      · rw [if_pos g, if_pos ((i_le' mb ma).mpr (by omega))]
      · rw [if_neg g, if_neg (by rw [i_le' mb ma]; omega)]
    · rw [if_neg (by rw [i_inj ba bb]; exact e1)]
      by_cases g : w ≤ v
      · rw [if_pos g, if_pos ((i_le' bb ba).mpr (by omega))]
      · rw [if_neg g, if_neg (by rw [i_le' bb ba]; omega)]
theorem nms_ok {l : List Mb} (h : okL l) : ∀ s ∈ nms (srt l), okS s := fun s hs => by
  unfold nms at hs
  obtain ⟨m, hm, rfl⟩ := List.mem_map.mp hs
  exact (h m ((srt_perm l).mem_iff.mp hm)).1
theorem key_cmp : ∀ (n : Nat) (t u : Vl) (r r' : List Int32), wV t → wV u → cmpS (key n t ++ r) (key n u ++ r') = thenC (cmpK n t u) (cmpS r r') := by
  intro n
  induction n with
  | zero => intro t u r r' _ _; rfl
  | succ n ih =>
    intro t u r r' ht hu
    obtain ⟨k, v, s, f⟩ := t
    obtain ⟨k', v', s', f'⟩ := u
    obtain ⟨l, rfl⟩ : ∃ l, f = ofL l := ⟨toL f, (ofL_toL f).symm⟩
    obtain ⟨l', rfl⟩ : ∃ l, f' = ofL l := ⟨toL f', (ofL_toL f').symm⟩
    have k6 : k ≤ 6 := ht.1
    have k6' : k' ≤ 6 := hu.1
    have eK : ∀ (k : Nat) (v : Int) (s : List Int32) (l : List Mb), key (n + 1) (k, v, s, ofL l) = Int32.ofNat k :: (if k = 3 then keyV v else if k = 4 then keyS s else if k = 5 then keyA (key n) l else if k = 6 then keyN (nms (srt l)) ++ keyA (key n) (srt l) else []) := fun k v s l => by
      show Int32.ofNat k :: (if k = 3 then keyV v else if k = 4 then keyS s else if k = 5 then keyA (key n) (toL (ofL l)) else if k = 6 then keyN (nms (srt (toL (ofL l)))) ++ keyA (key n) (srt (toL (ofL l))) else []) = _
      rw [toL_ofL]
    rw [eK, eK, List.cons_append, List.cons_append, cmpS_c]
    by_cases hk : k = k'
    · subst hk
      have es : cmpK (n + 1) (k, v, s, ofL l) (k, v', s', ofL l') = (if k = 3 then l_cmp (Int64.ofInt v) (Int64.ofInt v') else if k = 4 then cmpS s s' else if k = 5 then arrK (cmpK n) l l' else if k = 6 then (if namK (nms (srt l)) (nms (srt l')) = 0 then arrK (cmpK n) (srt l) (srt l') else namK (nms (srt l)) (nms (srt l'))) else 0) := by
        show (if k = k then _ else _) = _
        rw [if_pos rfl]
        simp only [toL_ofL]
      rw [if_pos rfl, es]
      by_cases e3 : k = 3
      · rw [if_pos e3, if_pos e3, if_pos e3]
        exact keyV_cmp (ht.2.1 e3) (hu.2.1 e3) r r'
      rw [if_neg e3, if_neg e3, if_neg e3]
      by_cases e4 : k = 4
      · rw [if_pos e4, if_pos e4, if_pos e4]
        exact keyS_cmp s s' r r' ht.2.2.1 hu.2.2.1
      rw [if_neg e4, if_neg e4, if_neg e4]
      by_cases e5 : k = 5
      · rw [if_pos e5, if_pos e5, if_pos e5]
        exact keyA_cmp l l' r r' (fun m hm m' hm' r r' => ih m.2 m'.2 r r' (ht.kids m hm).2 (hu.kids m' hm').2)
      rw [if_neg e5, if_neg e5, if_neg e5]
      by_cases e6 : k = 6
      · rw [if_pos e6, if_pos e6, if_pos e6, List.append_assoc, List.append_assoc, keyN_cmp _ _ _ _ (nms_ok ht.kids) (nms_ok hu.kids), keyA_cmp (Rc := cmpK n) (srt l) (srt l') r r' (fun m hm m' hm' r r' => ih m.2 m'.2 r r' (ht.kids m ((srt_perm l).mem_iff.mp hm)).2 (hu.kids m' ((srt_perm l').mem_iff.mp hm')).2)]
        unfold thenC
        by_cases c : namK (nms (srt l)) (nms (srt l')) = 0
        · rw [if_pos c, if_pos c]
        · rw [if_neg c, if_neg c, if_neg c]
      rw [if_neg e6, if_neg e6, if_neg e6]
      rfl
    · rw [if_neg (by rw [i_inj (by omega) (by omega)]; exact hk)]
      have es : cmpK (n + 1) (k, v, s, ofL l) (k', v', s', ofL l') = if k' ≤ k then 1 else -1 := by
        show (if k = k' then _ else if k' ≤ k then 1 else -1) = _
        rw [if_neg hk]
      rw [es]
      by_cases g : k' ≤ k
      · rw [if_pos g, if_pos ((i_le' (by omega) (by omega)).mpr g)]
        rfl
      · rw [if_neg g, if_neg (by rw [i_le' (by omega) (by omega)]; exact g)]
        rfl
/-- values compared by their rows -/
theorem cmpK_key {n : Nat} {t u : Vl} (ht : wV t) (hu : wV u) : cmpK n t u = cmpS (key n t) (key n u) := by
  have := key_cmp n t u [] [] ht hu
  rw [List.append_nil, List.append_nil] at this
  rw [this]
  show _ = thenC (cmpK n t u) 0
  unfold thenC
  by_cases c : cmpK n t u = 0
  · rw [if_pos c, c]
  · rw [if_neg c]
end Key167
