/-! The class reads: signs, strings, words. -/
section CRead182
/-- the class's Reader at place k, with B written, its fault b -/
def ck (S : SS) (dr k : Nat) (B : List Int32) (b : Int32) : SS := up (up S 68 [rd S 68 0, Int32.ofNat dr, Int32.ofNat k, b]) dr (pv B)
def CK (S : SS) (dr : Nat) (ts : List Int32) : Prop := tT S 42 = ts ∧ ts.length ≤ 4096 ∧ dr ≠ 68 ∧ dr ≠ 42 ∧ dr < 1000
theorem ck_68 {S : SS} {dr k : Nat} {B : List Int32} {b : Int32} (h : dr ≠ 68) : ck S dr k B b 68 = [rd S 68 0, Int32.ofNat dr, Int32.ofNat k, b] := by
  unfold ck
  rw [up_ne (fun e => h e.symm), up_same]
theorem ck_rd {S : SS} {dr k : Nat} {B ts : List Int32} {b : Int32} (H : CK S dr ts) : (rd (ck S dr k B b) 68 1).toNatClampNeg = dr ∧ rd (ck S dr k B b) 68 2 = Int32.ofNat k ∧ rd (ck S dr k B b) 68 3 = b := by
  unfold rd
  rw [ck_68 H.2.2.1]
  exact ⟨i_ad H.2.2.2.2, rfl, rfl⟩
theorem ck_t {S : SS} {dr k : Nat} {B ts : List Int32} {b : Int32} (H : CK S dr ts) : tT (ck S dr k B b) 42 = ts := by
  unfold tT ck
  rw [up_ne (fun e => H.2.2.2.1 e.symm), up_ne (by decide)]
  exact H.1
theorem ck_w2 {S : SS} {dr k k' : Nat} {B : List Int32} {b : Int32} (h : dr ≠ 68) : wr (ck S dr k B b) 68 2 (Int32.ofNat k') = ck S dr k' B b := by
  unfold wr
  rw [ck_68 h]
  unfold ck
  rw [up_comm (up S 68 _) h, up_up]
  rfl
theorem ck_w3 {S : SS} {dr k : Nat} {B : List Int32} {b b' : Int32} (h : dr ≠ 68) : wr (ck S dr k B b) 68 3 b' = ck S dr k B b' := by
  unfold wr
  rw [ck_68 h]
  unfold ck
  rw [up_comm (up S 68 _) h, up_up]
  rfl
theorem ck_p {S : SS} {dr k : Nat} {B : List Int32} {b v : Int32} : sput (ck S dr k B b) dr v = ck S dr k (B ++ [v &&& 255]) b := by
  unfold ck
  exact sput_pv _ _ _ _
theorem ck_T {S : SS} {dr k : Nat} {B : List Int32} {b : Int32} : tT (ck S dr k B b) dr = B.take 4096 := by
  unfold ck
  exact (pv_T _ _ _).1
theorem cbreak {S : SS} {dr k : Nat} {B ts : List Int32} {b : Int32} (H : CK S dr ts) (p : Int32) : c_break (ck S dr k B b) p = some (ck S dr k B (if b = -1 then p else b)) := by
  unfold c_break
  rw [(ck_rd H).2.2]
  by_cases c : b = -1
  · rw [if_pos c, if_pos c, ck_w3 H.2.2.1]
  · rw [if_neg c, if_neg c]
theorem cfine_y {S : SS} {dr k : Nat} {B ts : List Int32} (H : CK S dr ts) : c_fine (ck S dr k B (-1)) = some 1 := by
  unfold c_fine
  rw [(ck_rd H).2.2, if_pos rfl]
theorem cfine_n {S : SS} {dr k : Nat} {B ts : List Int32} {b : Int32} (H : CK S dr ts) (hb : b ≠ -1) : c_fine (ck S dr k B b) = some 0 := by
  unfold c_fine
  rw [(ck_rd H).2.2, if_neg hb]
theorem skp_no {ts : List Int32} (hl : ts.length ≤ 4096) {k : Nat} (hk : k < 100000) (h : sg_blank (atP' ts k) = 0) : skp ts k = k := by
  unfold skp
  by_cases c : k < ts.length
  · have := tat_in hl c
    unfold atP' at h
    rw [this] at h
    rw [List.drop_eq_getElem_cons c, List.takeWhile_cons_of_neg (by simpa using h)]
    rfl
  · rw [List.drop_of_length_le (by omega)]
    rfl
theorem skp_yes {ts : List Int32} (hl : ts.length ≤ 4096) {k : Nat} (hk : k < 100000) (h : sg_blank (atP' ts k) ≠ 0) : skp ts k = skp ts (k + 1) ∧ k < ts.length := by
  obtain ⟨l1, l2, l3⟩ := at_lt hl hk rfl (fun c => h (by rw [c]; decide))
  refine ⟨?_, l1⟩
  unfold skp
  rw [l3, List.takeWhile_cons_of_pos (by simpa using h), List.length_cons]
  omega
theorem skp_mx (ts : List Int32) (k : Nat) : skp ts k ≤ max k ts.length := by
  obtain ⟨h1, h2⟩ := skp_le ts k
  by_cases c : k ≤ ts.length
  · have := h2 c
    omega
  · unfold skp
    rw [List.drop_of_length_le (by omega)]
    show k + 0 ≤ _
    omega
theorem cblanks_l {S : SS} {dr : Nat} {B ts : List Int32} {b : Int32} (H : CK S dr ts) : ∀ (n k : Nat), ts.length < n + k → 0 < n → k ≤ 5000 → c_blanks_l0 n (ck S dr k B b) = some (ck S dr (skp ts k) B b) := by
  intro n
  induction n with
  | zero => intro k _ h _; omega
  | succ n ih =>
    intro k h1 _ h5
    have hl := H.2.1
    unfold c_blanks_l0
    rw [ck_t H, (ck_rd H).2.1]
    by_cases c : ts.length ≤ k
    · rw [if_pos ((i_le' (by omega) (by omega)).mpr c)]
      have : skp ts k = k := skp_no hl (by omega) (by unfold atP'; rw [tat_out hl c (by omega)]; decide)
      rw [this]
    · rw [if_neg (by rw [i_le' (by omega) (by omega)]; exact c)]
      by_cases d : sg_blank (atP' ts k) = 0
      · rw [if_pos d, skp_no hl (by omega) d]
      · rw [if_neg d, i_a1, ck_w2 H.2.2.1, ih (k + 1) (by omega) (by omega) (by omega), (skp_yes hl (by omega) d).1]
theorem cblanks {S : SS} {dr k : Nat} {B ts : List Int32} {b : Int32} (H : CK S dr ts) (hk : k ≤ 5000) : c_blanks (ck S dr k B b) = some (ck S dr (skp ts k) B b) := by
  have hl := H.2.1
  exact cblanks_l H 10000 k (by omega) (by omega) hk
theorem ctake_y {S : SS} {dr k : Nat} {B ts : List Int32} {b s : Int32} (H : CK S dr ts) (h : atP' ts k = s) : c_take (ck S dr k B b) s = some (ck S dr (k + 1) (B ++ [s &&& 255]) b) := by
  have h' : tat ts (Int32.ofNat k) = s := h
  unfold c_take
  rw [ck_t H, (ck_rd H).2.1, if_pos h', i_a1, ck_w2 H.2.2.1, (ck_rd H).1, ck_p]
theorem ctake_n {S : SS} {dr k : Nat} {B ts : List Int32} {b s : Int32} (H : CK S dr ts) (h : atP' ts k ≠ s) : c_take (ck S dr k B b) s = some (ck S dr k B (if b = -1 then Int32.ofNat k else b)) := by
  have h' : ¬ tat ts (Int32.ofNat k) = s := h
  unfold c_take
  rw [ck_t H, (ck_rd H).2.1, if_neg h', cbreak H, o_bind]
/-- the text is broken -/
def badC (S : SS) (dr : Nat) (ts : List Int32) (r : Option SS) : Prop := ∃ k B b, r = some (ck S dr k B b) ∧ b ≠ -1 ∧ k ≤ ts.length + 8
theorem bad_take {S : SS} {dr k : Nat} {B ts : List Int32} {b s : Int32} (H : CK S dr ts) (hb : b ≠ -1) (hk : k ≤ ts.length + 8) (hs : s ≠ -1) : badC S dr ts (c_take (ck S dr k B b) s) := by
  have hl := H.2.1
  by_cases h : atP' ts k = s
  · obtain ⟨l1, -, -⟩ := at_lt hl (by omega) h hs
    exact ⟨_, _, _, ctake_y H h, hb, by omega⟩
  · exact ⟨_, _, _, ctake_n H h, by rw [if_neg hb]; exact hb, hk⟩
/-- a sign that is not there -/
theorem bad_no {S : SS} {dr k : Nat} {B ts : List Int32} {s : Int32} (H : CK S dr ts) (hk : k ≤ ts.length + 8) (h : atP' ts k ≠ s) : badC S dr ts (c_take (ck S dr k B (-1)) s) := by
  have hl := H.2.1
  exact ⟨_, _, _, ctake_n H h, by rw [if_pos rfl]; exact i_ne1 (by omega), hk⟩
theorem a255 : ∀ n, n < 128 → Int32.ofNat n &&& 255 = Int32.ofNat n := by decide +kernel
theorem asc.byt {l : List Int32} (h : asc l) : byt l := fun u hu => by
  obtain ⟨n, hn, e⟩ := ch_of (h u hu)
  rw [e]
  exact a255 n hn
theorem ck_ps {S : SS} {dr k : Nat} {b : Int32} : ∀ (l B : List Int32), byt l → l.foldl (fun S v => sput S dr v) (ck S dr k B b) = ck S dr k (B ++ l) b := by
  intro l
  induction l with
  | nil => intro B _; rw [List.append_nil]; rfl
  | cons v l ih =>
    intro B hb
    rw [List.foldl_cons, ck_p, hb v List.mem_cons_self, ih _ (fun u hu => hb u (List.mem_cons_of_mem _ hu)), List.append_assoc]
    rfl
theorem cputc {S : SS} {dr k : Nat} {B : List Int32} {b c : Int32} (hc : 0 ≤ c ∧ c ≤ 127) : c_putChar (ck S dr k B b) dr c = some (ck S dr k (B ++ esc c) b) := by
  rw [← ck_ps (esc c) B (esc_pass hc).2.byt]
  unfold c_putChar esc
  by_cases h1 : sg_letter c = -1
  · rw [if_pos h1, if_pos h1]
    by_cases h2 : c < 32
    · rw [if_pos h2, if_pos h2]; rfl
    · rw [if_neg h2, if_neg h2]
      by_cases h3 : 127 ≤ c
      · rw [if_pos h3, if_pos h3]; rfl
      · rw [if_neg h3, if_neg h3]; rfl
  · rw [if_neg h1, if_neg h1]; rfl
theorem esc_bad {S : SS} {dr k : Nat} {B ts : List Int32} {b l1 l2 l3 l4 : Int32} {n : Nat} (H : CK S dr ts) (hb : b ≠ -1) : c_escape_l62 (n + 1) (ck S dr k B b) l1 l2 l3 l4 = some (ck S dr k B b, l3) := by
  unfold c_escape_l62
  have hB : c_break (ck S dr k B b) l1 = some (ck S dr k B b) := by rw [cbreak H, if_neg hb]
  rw [cfine_n H hb, o_bind, if_pos rfl, hB, o_bind]
  repeat' split
  all_goals rfl
theorem esc_end {S : SS} {dr k : Nat} {B ts : List Int32} {l1 l2 l3 l4 : Int32} {n : Nat} (H : CK S dr ts) (h : 4 ≤ l4 ∨ l2 ≠ 117) : c_escape_l62 (n + 1) (ck S dr k B (-1)) l1 l2 l3 l4 = some (ck S dr k B (if l3 ≤ 127 then -1 else l1), l3) := by
  unfold c_escape_l62
  have hB : c_break (ck S dr k B (-1)) l1 = some (ck S dr k B l1) := by rw [cbreak H, if_pos rfl]
  by_cases h1 : 4 ≤ l4
  · rw [if_pos h1]
    by_cases h2 : l3 ≤ 127
    · rw [if_pos h2, if_pos h2]
    · rw [if_neg h2, if_neg h2, hB, o_bind]
  · rw [if_neg h1, if_neg (h.resolve_left h1)]
    by_cases h2 : l3 ≤ 127
    · rw [if_pos h2, if_pos h2]
    · rw [if_neg h2, if_neg h2, hB, o_bind]
theorem esc_hex {S : SS} {dr k j : Nat} {B ts : List Int32} {l1 l3 : Int32} {n : Nat} (H : CK S dr ts) (hj : j < 4) : (sg_hexv (atP' ts k) ≠ -1 → c_escape_l62 (n + 1) (ck S dr k B (-1)) l1 117 l3 (Int32.ofNat j) = c_escape_l62 n (ck S dr (k + 1) B (-1)) l1 117 (l3 * 16 + sg_hexv (atP' ts k)) (Int32.ofNat (j + 1))) ∧ (sg_hexv (atP' ts k) = -1 → 0 < n → k ≤ 100000 → ∃ b c, c_escape_l62 (n + 1) (ck S dr k B (-1)) l1 117 l3 (Int32.ofNat j) = some (ck S dr (k + 1) B b, c) ∧ b ≠ -1) := by
  have h4 : ¬ (4 : Int32) ≤ Int32.ofNat j := by
    rw [show (4 : Int32) = Int32.ofNat 4 from rfl, i_le' (by omega) (by omega)]
    omega
  have e : c_escape_l62 (n + 1) (ck S dr k B (-1)) l1 117 l3 (Int32.ofNat j) = if sg_hexv (atP' ts k) = -1 then c_escape_l62 n (ck S dr (k + 1) B (Int32.ofNat k)) l1 117 (l3 * 16 + sg_hexv (atP' ts k)) (Int32.ofNat (j + 1)) else c_escape_l62 n (ck S dr (k + 1) B (-1)) l1 117 (l3 * 16 + sg_hexv (atP' ts k)) (Int32.ofNat (j + 1)) := by
    rw [c_escape_l62, if_neg h4, if_pos rfl, cfine_y H, o_bind, if_neg (show ¬ (1 : Int32) = 0 by decide), ck_t H, (ck_rd H).2.1, cbreak H, o_bind, if_pos rfl, (ck_rd H).2.1, i_a1, i_a1, ck_w2 H.2.2.1, ck_w2 H.2.2.1]
  constructor
  · intro h
    rw [e, if_neg h]
  · intro h hn hk
    rw [e, if_pos h]
    obtain ⟨n', rfl⟩ : ∃ n', n = n' + 1 := ⟨n - 1, by omega⟩
    exact ⟨_, _, esc_bad H (i_ne1 (by omega)), i_ne1 (by omega)⟩
theorem cesc {S : SS} {dr k : Nat} {B ts : List Int32} (H : CK S dr ts) (hk : k < ts.length) : (∀ c e, pEsc ts k = some (c, e) → c_escape (ck S dr k B (-1)) = some (ck S dr e B (-1), c)) ∧ (pEsc ts k = none → ∃ k' b c, c_escape (ck S dr k B (-1)) = some (ck S dr k' B b, c) ∧ b ≠ -1 ∧ k' ≤ ts.length + 8) := by
  have hl := H.2.1
  have e2 : Int32.ofNat k + 2 = Int32.ofNat (k + 2) := (Int32.ofNat_add k 2).symm
  by_cases hu : atP' ts (k + 1) = 117
  · have hu' : tat ts (Int32.ofNat (k + 1)) = 117 := hu
    have e : c_escape (ck S dr k B (-1)) = c_escape_l62 10000 (ck S dr (k + 2) B (-1)) (Int32.ofNat k) 117 0 (Int32.ofNat 0) := by
      unfold c_escape
      rw [ck_t H, (ck_rd H).2.1, i_a1, hu', if_pos rfl, e2, ck_w2 H.2.2.1]
      rfl
    have z0 : ∀ x : Int32, 0 * 16 + x = x := fun x => by rw [Int32.zero_mul, Int32.zero_add]
    unfold pEsc
    rw [if_pos hu, e]
    by_cases g2 : sg_hexv (atP' ts (k + 2)) = -1
    · rw [if_pos (Or.inl g2)]
      obtain ⟨b, c, q1, q2⟩ := (esc_hex (S := S) (B := B) (l1 := Int32.ofNat k) (l3 := 0) (n := 9999) H (show 0 < 4 by decide)).2 g2 (by decide) (by omega)
      exact ⟨fun c e h => (by cases h), fun _ => ⟨_, b, c, q1, q2, by omega⟩⟩
    rw [(esc_hex (S := S) (B := B) (l1 := Int32.ofNat k) (l3 := 0) (n := 9999) H (show 0 < 4 by decide)).1 g2, z0]
    by_cases g3 : sg_hexv (atP' ts (k + 3)) = -1
    · rw [if_pos (Or.inr (Or.inl g3))]
      obtain ⟨b, c, q1, q2⟩ := (esc_hex (S := S) (B := B) (l1 := Int32.ofNat k) (l3 := sg_hexv (atP' ts (k + 2))) (n := 9998) H (show 1 < 4 by decide)).2 g3 (by decide) (by omega)
      exact ⟨fun c e h => (by cases h), fun _ => ⟨_, b, c, q1, q2, by omega⟩⟩
    rw [(esc_hex (S := S) (k := k + 2 + 1) (B := B) (l1 := Int32.ofNat k) (l3 := sg_hexv (atP' ts (k + 2))) (n := 9998) H (show 1 < 4 by decide)).1 g3]
    by_cases g4 : sg_hexv (atP' ts (k + 4)) = -1
    · rw [if_pos (Or.inr (Or.inr (Or.inl g4)))]
      obtain ⟨b, c, q1, q2⟩ := (esc_hex (S := S) (k := k + 4) (B := B) (l1 := Int32.ofNat k) (l3 := sg_hexv (atP' ts (k + 2)) * 16 + sg_hexv (atP' ts (k + 3))) (n := 9997) H (show 2 < 4 by decide)).2 g4 (by decide) (by omega)
      exact ⟨fun c e h => (by cases h), fun _ => ⟨_, b, c, q1, q2, by omega⟩⟩
    rw [(esc_hex (S := S) (k := k + 2 + 1 + 1) (B := B) (l1 := Int32.ofNat k) (l3 := sg_hexv (atP' ts (k + 2)) * 16 + sg_hexv (atP' ts (k + 2 + 1))) (n := 9997) H (show 2 < 4 by decide)).1 g4]
    by_cases g5 : sg_hexv (atP' ts (k + 5)) = -1
    · rw [if_pos (Or.inr (Or.inr (Or.inr g5)))]
      obtain ⟨b, c, q1, q2⟩ := (esc_hex (S := S) (k := k + 5) (B := B) (l1 := Int32.ofNat k) (l3 := (sg_hexv (atP' ts (k + 2)) * 16 + sg_hexv (atP' ts (k + 3))) * 16 + sg_hexv (atP' ts (k + 4))) (n := 9996) H (show 3 < 4 by decide)).2 g5 (by decide) (by omega)
      exact ⟨fun c e h => (by cases h), fun _ => ⟨_, b, c, q1, q2, by omega⟩⟩
    rw [(esc_hex (S := S) (k := k + 2 + 1 + 1 + 1) (B := B) (l1 := Int32.ofNat k) (l3 := (sg_hexv (atP' ts (k + 2)) * 16 + sg_hexv (atP' ts (k + 2 + 1))) * 16 + sg_hexv (atP' ts (k + 2 + 1 + 1))) (n := 9996) H (show 3 < 4 by decide)).1 g5]
    rw [if_neg (fun c => c.elim g2 (fun c => c.elim g3 (fun c => c.elim g4 g5))), esc_end (n := 9995) H (Or.inl (by decide))]
    by_cases h7 : ((sg_hexv (atP' ts (k + 2)) * 16 + sg_hexv (atP' ts (k + 3))) * 16 + sg_hexv (atP' ts (k + 4))) * 16 + sg_hexv (atP' ts (k + 5)) ≤ 127
    · rw [if_pos h7, if_pos h7]
      exact ⟨fun c e h => by cases h; rfl, fun h => by cases h⟩
    · rw [if_neg h7, if_neg h7]
      exact ⟨fun c e h => (by cases h), fun _ => ⟨_, _, _, rfl, i_ne1 (by omega), by omega⟩⟩
  · have hu' : ¬ tat ts (Int32.ofNat (k + 1)) = 117 := hu
    unfold pEsc c_escape
    rw [ck_t H, (ck_rd H).2.1, i_a1, if_neg hu', if_neg hu, cbreak H, o_bind, if_pos rfl, (ck_rd H).2.1, e2, ck_w2 H.2.2.1, ck_w2 H.2.2.1, esc_bad (n := 9999) H (i_ne1 (by omega)), esc_end (n := 9999) H (Or.inr hu')]
    by_cases hm : sg_meaning (atP' ts (k + 1)) = -1
    · have hm' : sg_meaning (tat ts (Int32.ofNat (k + 1))) = -1 := hm
      rw [if_pos hm, if_pos hm']
      exact ⟨fun c e h => (by cases h), fun _ => ⟨_, _, _, rfl, i_ne1 (by omega), by omega⟩⟩
    · have hm' : ¬ sg_meaning (tat ts (Int32.ofNat (k + 1))) = -1 := hm
      rw [if_neg hm, if_neg hm']
      have := (mean_k _ hm).1.2
      have h7 : sg_meaning (tat ts (Int32.ofNat (k + 1))) ≤ 127 := this
      rw [if_pos h7]
      exact ⟨fun c e h => by cases h; rfl, fun h => by cases h⟩
theorem cstr_bad {S : SS} {dr k : Nat} {B ts : List Int32} {b l : Int32} {n : Nat} (H : CK S dr ts) (hb : b ≠ -1) (hk : k ≤ ts.length + 8) : badC S dr ts (c_string_l8 (n + 1) (ck S dr k B b) l) := by
  obtain ⟨k', B', b', e, e2⟩ := bad_take (s := 34) (B := B) H hb hk (by decide)
  refine ⟨k', B', b', ?_, e2⟩
  unfold c_string_l8
  by_cases h : 4096 ≤ l
  · rw [if_pos h, e, o_bind]
  · rw [if_neg h, cfine_n H hb, o_bind, if_pos rfl, e, o_bind]
theorem cstr_l {S : SS} {dr : Nat} {ts : List Int32} (H : CK S dr ts) : ∀ (m k : Nat) (B : List Int32) (l1 n : Nat), m + l1 = 5000 → l1 < k → k ≤ ts.length → n + l1 = 10000 → (∀ s e, pStr ts m k = some (s, e) → c_string_l8 n (ck S dr k B (-1)) (Int32.ofNat l1) = some (ck S dr e (B ++ (s.flatMap esc ++ [34])) (-1))) ∧ (pStr ts m k = none → badC S dr ts (c_string_l8 n (ck S dr k B (-1)) (Int32.ofNat l1))) := by
  have hl := H.2.1
  intro m
  induction m with
  | zero => intro k B l1 n h1 h2 h3 _; omega
  | succ m ih =>
    intro k B l1 n h1 h2 h3 h4
    obtain ⟨n, rfl⟩ : ∃ n', n = n' + 1 := ⟨n - 1, by omega⟩
    have g : ¬ (4096 : Int32) ≤ Int32.ofNat l1 := by
      rw [show (4096 : Int32) = Int32.ofNat 4096 from rfl, i_le' (by omega) (by omega)]
      omega
    have u : c_string_l8 (n + 1) (ck S dr k B (-1)) (Int32.ofNat l1) = if atP' ts k = 34 then ((c_take (ck S dr k B (-1)) 34).bind fun r13 => some r13) else if atP' ts k = 92 then ((c_escape (ck S dr k B (-1))).bind fun r17 => ((c_fine r17.1).bind fun r19 => (if r19 = 0 then c_string_l8 n r17.1 (Int32.ofNat l1 + 1) else ((c_putChar r17.1 ((rd r17.1 68 1).toNatClampNeg) r17.2).bind fun r22 => c_string_l8 n r22 (Int32.ofNat l1 + 1))))) else ((c_plain (ck S dr k B (-1))).bind fun r24 => ((c_fine r24.1).bind fun r26 => (if r26 = 0 then c_string_l8 n r24.1 (Int32.ofNat l1 + 1) else ((c_putChar r24.1 ((rd r24.1 68 1).toNatClampNeg) r24.2).bind fun r29 => c_string_l8 n r29 (Int32.ofNat l1 + 1))))) := by
      rw [c_string_l8, if_neg g, cfine_y H, o_bind, if_neg (show ¬ (1 : Int32) = 0 by decide), ck_t H, (ck_rd H).2.1]
    by_cases h34 : atP' ts k = 34
    · have e2 : pStr ts (m + 1) k = some ([], k + 1) := by unfold pStr; rw [if_pos h34]
      rw [e2, u, if_pos h34, ctake_y H h34, o_bind]
      exact ⟨fun s e h => by cases h; rfl, fun h => by cases h⟩
    have e2 : pStr ts (m + 1) k = (pChr ts k).bind fun c => (pStr ts m c.2).map fun s => (c.1 :: s.1, s.2) := by
      rw [pStr, if_neg h34]
    rw [e2]
    cases hc : pChr ts k with
    | some ce =>
      obtain ⟨c, e1⟩ := ce
      obtain ⟨a1, a2, a3, a4⟩ := pChr_ok hl (by omega) h34 hc
      have step : c_string_l8 (n + 1) (ck S dr k B (-1)) (Int32.ofNat l1) = c_string_l8 n (ck S dr e1 (B ++ esc c) (-1)) (Int32.ofNat (l1 + 1)) := by
        rw [u, if_neg h34, i_a1]
        unfold pChr at hc
        by_cases h92 : atP' ts k = 92
        · rw [if_pos h92] at hc ⊢
          obtain ⟨lk, -, -⟩ := at_lt hl (by omega) h92 (by decide)
          rw [(cesc H lk).1 c e1 hc, o_bind]
          simp only
          rw [cfine_y H, o_bind, if_neg (show ¬ (1 : Int32) = 0 by decide), (ck_rd H).1, cputc a1, o_bind]
        · rw [if_neg h92] at hc ⊢
          by_cases h32 : atP' ts k < 32
          · rw [if_pos h32] at hc; cases hc
          rw [if_neg h32] at hc
          by_cases h126 : atP' ts k ≤ 126
          rotate_left
          · rw [if_neg h126] at hc; cases hc
          rw [if_pos h126] at hc
          cases hc
          have p1 : c_plain (ck S dr k B (-1)) = some (ck S dr (k + 1) B (-1), atP' ts k) := by
            have h32' : ¬ tat ts (Int32.ofNat k) < 32 := h32
            have h126' : tat ts (Int32.ofNat k) ≤ 126 := h126
            unfold c_plain
            rw [ck_t H, (ck_rd H).2.1, if_neg h32', if_pos h126', i_a1, ck_w2 H.2.2.1]
          rw [p1, o_bind]
          simp only
          rw [cfine_y H, o_bind, if_neg (show ¬ (1 : Int32) = 0 by decide), (ck_rd H).1, cputc a1, o_bind]
      rw [step, o_bind]
      obtain ⟨i1, i2⟩ := ih e1 (B ++ esc c) (l1 + 1) n (by omega) (by omega) a4 (by omega)
      refine ⟨fun s e h => ?_, fun h => ?_⟩
      · obtain ⟨⟨s', e'⟩, q1, q2⟩ := map_some h
        cases q2
        rw [i1 s' e' q1, List.flatMap_cons]
        simp only [List.append_assoc]
      · refine i2 ?_
        cases hp : pStr ts m e1 with
        | none => rfl
        | some x => simp only at h; rw [hp] at h; cases h
    | none =>
      refine ⟨fun s e h => (by cases h), fun _ => ?_⟩
      obtain ⟨n', rfl⟩ : ∃ n', n = n' + 1 := ⟨n - 1, by omega⟩
      rw [u, if_neg h34]
      unfold pChr at hc
      by_cases h92 : atP' ts k = 92
      · rw [if_pos h92] at hc ⊢
        obtain ⟨lk, -, -⟩ := at_lt hl (by omega) h92 (by decide)
        obtain ⟨k', b, c, q1, q2, q3⟩ := (cesc (B := B) H lk).2 hc
        rw [q1, o_bind]
        simp only
        rw [cfine_n H q2, o_bind, if_pos rfl]
        exact cstr_bad H q2 q3
      · rw [if_neg h92] at hc ⊢
        have p1 : c_plain (ck S dr k B (-1)) = some (ck S dr (k + 1) B (Int32.ofNat k), atP' ts k) := by
          unfold c_plain
          rw [ck_t H, (ck_rd H).2.1, cbreak H, o_bind, if_pos rfl, (ck_rd H).2.1, i_a1, ck_w2 H.2.2.1]
          by_cases h32 : atP' ts k < 32
          · have h32' : tat ts (Int32.ofNat k) < 32 := h32
            rw [if_pos h32']
          · have h32' : ¬ tat ts (Int32.ofNat k) < 32 := h32
            rw [if_neg h32] at hc
            by_cases h126 : atP' ts k ≤ 126
            · rw [if_pos h126] at hc; cases hc
            · have h126' : ¬ tat ts (Int32.ofNat k) ≤ 126 := h126
              rw [if_neg h32', if_neg h126']
        rw [p1, o_bind]
        simp only
        rw [cfine_n H (i_ne1 (by omega)), o_bind, if_pos rfl]
        exact cstr_bad H (i_ne1 (by omega)) (by omega)
theorem cstring_v {S : SS} {dr k : Nat} {B ts : List Int32} (H : CK S dr ts) (h34 : atP' ts k = 34) (hk : k ≤ 5000) : (∀ s e, pStr ts 5000 (k + 1) = some (s, e) → c_string (ck S dr k B (-1)) = some (ck S dr e (B ++ pstr s) (-1))) ∧ (pStr ts 5000 (k + 1) = none → badC S dr ts (c_string (ck S dr k B (-1)))) := by
  have hl := H.2.1
  obtain ⟨lk, -, -⟩ := at_lt hl (by omega) h34 (by decide)
  unfold c_string
  rw [ctake_y H h34, o_bind]
  obtain ⟨i1, i2⟩ := cstr_l H 5000 (k + 1) (B ++ [34 &&& 255]) 0 10000 rfl (by omega) (by omega) rfl
  refine ⟨fun s e h => ?_, fun h => i2 h⟩
  have := i1 s e h
  rw [List.append_assoc] at this
  exact this
theorem lit_bad {S : SS} {dr : Nat} {ts bs : List Int32} (H : CK S dr ts) (hbs : bs.length ≤ 100) (h1 : ∀ u ∈ bs, u ≠ -1) : ∀ (n i k : Nat) (B : List Int32) (b : Int32), bs.length < n + i → i ≤ bs.length → b ≠ -1 → k ≤ ts.length + 8 → badC S dr ts (c_literal_l2 bs n (ck S dr k B b) (Int32.ofNat i)) := by
  intro n
  induction n with
  | zero => intro i k B b h2 h3; omega
  | succ n ih =>
    intro i k B b h2 h3 hb hk
    unfold c_literal_l2
    by_cases e : i = bs.length
    · rw [if_pos ((i_le' (by omega) (by omega)).mpr (by omega))]
      exact ⟨_, _, _, rfl, hb, hk⟩
    · have hi : i < bs.length := by omega
      have es : sch bs (Int32.ofNat i) = some bs[i] := by
        unfold sch
        rw [if_neg (i_nn (by omega)), i_cl (by omega), List.getElem?_eq_getElem hi]
      obtain ⟨k', B', b', e1, e2, e3⟩ := bad_take (B := B) H hb hk (h1 bs[i] (List.getElem_mem hi))
      rw [if_neg (by rw [i_le' (by omega) (by omega)]; omega), es, o_bind, e1, o_bind, i_a1]
      exact ih (i + 1) k' B' b' (by omega) (by omega) e2 e3
theorem lit_l {S : SS} {dr : Nat} {ts bs : List Int32} (H : CK S dr ts) (hbs : bs.length ≤ 100) (h1 : ∀ u ∈ bs, u ≠ -1) (hb : byt bs) : ∀ (n i k : Nat) (B : List Int32), bs.length < n + i → i ≤ bs.length → k ≤ ts.length → ((ts.drop k).take (bs.drop i).length = bs.drop i → c_literal_l2 bs n (ck S dr k B (-1)) (Int32.ofNat i) = some (ck S dr (k + (bs.drop i).length) (B ++ bs.drop i) (-1))) ∧ ((ts.drop k).take (bs.drop i).length ≠ bs.drop i → badC S dr ts (c_literal_l2 bs n (ck S dr k B (-1)) (Int32.ofNat i))) := by
  have hl := H.2.1
  intro n
  induction n with
  | zero => intro i k B h2 h3; omega
  | succ n ih =>
    intro i k B h2 h3 hk
    unfold c_literal_l2
    by_cases e : i = bs.length
    · rw [if_pos ((i_le' (by omega) (by omega)).mpr (by omega)), List.drop_of_length_le (by omega), List.append_nil]
      exact ⟨fun _ => rfl, fun c => absurd rfl c⟩
    · have hi : i < bs.length := by omega
      have es : sch bs (Int32.ofNat i) = some bs[i] := by
        unfold sch
        rw [if_neg (i_nn (by omega)), i_cl (by omega), List.getElem?_eq_getElem hi]
      have n1 := h1 bs[i] (List.getElem_mem hi)
      rw [if_neg (by rw [i_le' (by omega) (by omega)]; omega), es, o_bind, i_a1, List.drop_eq_getElem_cons hi]
      by_cases c : atP' ts k = bs[i]
      · obtain ⟨lk, l2, l3⟩ := at_lt hl (by omega) c n1
        rw [ctake_y H c, o_bind, hb _ (List.getElem_mem hi)]
        obtain ⟨i1, i2⟩ := ih (i + 1) (k + 1) (B ++ [bs[i]]) (by omega) (by omega) (by omega)
        rw [l3, List.length_cons, List.take_succ_cons]
        refine ⟨fun q => ?_, fun q => i2 fun r => q (by rw [r])⟩
        have q := (List.cons.inj q).2
        rw [i1 q, List.append_assoc, show k + 1 + (bs.drop (i + 1)).length = k + ((bs.drop (i + 1)).length + 1) by omega]
        rfl
      · obtain ⟨k', B', b', e1, e2, e3⟩ := bad_no (B := B) H (show k ≤ ts.length + 8 by omega) c
        rw [e1, o_bind]
        refine ⟨fun q => ?_, fun _ => lit_bad H hbs h1 n (i + 1) k' B' b' (by omega) (by omega) e2 e3⟩
        exfalso
        apply c
        rw [List.length_cons] at q
        by_cases d : k < ts.length
        · rw [List.drop_eq_getElem_cons d, List.take_succ_cons] at q
          unfold atP'
          rw [tat_in hl d]
          exact (List.cons.inj q).1
        · rw [show ts.drop k = [] from List.drop_of_length_le (by omega)] at q
          cases q
theorem clit_v {S : SS} {dr k : Nat} {B ts bs : List Int32} (H : CK S dr ts) (hk : k ≤ ts.length) (hbs : bs.length ≤ 100) (h1 : ∀ u ∈ bs, u ≠ -1) (hb : byt bs) : (∀ e, pLit ts bs k = some e → c_literal (ck S dr k B (-1)) bs = some (ck S dr e (B ++ bs) (-1))) ∧ (pLit ts bs k = none → badC S dr ts (c_literal (ck S dr k B (-1)) bs)) := by
  obtain ⟨i1, i2⟩ := lit_l H hbs h1 hb 10000 0 k B (by omega) (by omega) hk
  unfold pLit
  by_cases c : (ts.drop k).take bs.length = bs
  · rw [if_pos c]
    exact ⟨fun e h => by cases h; exact i1 c, fun h => by cases h⟩
  · rw [if_neg c]
    exact ⟨fun e h => (by cases h), fun _ => i2 c⟩
end CRead182
