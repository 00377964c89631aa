section
/-! The class reads: signs, strings, words. -/
section CRead182
/-- the class's Reader at place k, with B written, its fault b -/
def ck (S : SS) (dr k : Nat) (B : List Int32) (b : Int32) : SS := up (up S 68 [rd S 68 0, Int32.ofNat dr, Int32.ofNat k, b]) dr (pv B)
def CK (S : SS) (dr : Nat) (ts : List Int32) : Prop := tT S 42 = ts ∧ ts.length ≤ 4096 ∧ dr ≠ 68 ∧ dr ≠ 42 ∧ dr < 1000
theorem ck_68 {S : SS} {dr k : Nat} {B : List Int32} {b : Int32} (h : dr ≠ 68) : ck S dr k B b 68 = [rd S 68 0, Int32.ofNat dr, Int32.ofNat k, b] := by
  unfold ck
  rw [up_ne (fun e => h e.symm), up_same]
theorem ck_rd {S : SS} {dr k : Nat} {B ts : List Int32} {b : Int32} (H : CK S dr ts) : (rd (ck S dr k B b) 68 1).toNatClampNeg = dr ∧ rd (ck S dr k B b) 68 2 = Int32.ofNat k ∧ rd (ck S dr k B b) 68 3 = b := by
  unfold rd
  rw [ck_68 H.2.2.1]
  exact ⟨i_ad H.2.2.2.2, rfl, rfl⟩
theorem ck_t {S : SS} {dr k : Nat} {B ts : List Int32} {b : Int32} (H : CK S dr ts) : tT (ck S dr k B b) 42 = ts := by
  unfold tT ck
  rw [up_ne (fun e => H.2.2.2.1 e.symm), up_ne (by decide)]
  exact H.1
theorem ck_w2 {S : SS} {dr k k' : Nat} {B : List Int32} {b : Int32} (h : dr ≠ 68) : wr (ck S dr k B b) 68 2 (Int32.ofNat k') = ck S dr k' B b := by
  unfold wr
  rw [ck_68 h]
  unfold ck
  rw [up_comm (up S 68 _) h, up_up]
  rfl
theorem ck_w3 {S : SS} {dr k : Nat} {B : List Int32} {b b' : Int32} (h : dr ≠ 68) : wr (ck S dr k B b) 68 3 b' = ck S dr k B b' := by
  unfold wr
  rw [ck_68 h]
  unfold ck
  rw [up_comm (up S 68 _) h, up_up]
  rfl
theorem ck_p {S : SS} {dr k : Nat} {B : List Int32} {b v : Int32} : sput (ck S dr k B b) dr v = ck S dr k (B ++ [v &&& 255]) b := by
  unfold ck
  exact sput_pv _ _ _ _
theorem ck_T {S : SS} {dr k : Nat} {B : List Int32} {b : Int32} : tT (ck S dr k B b) dr = B.take 4096 := by
  unfold ck
  exact (pv_T _ _ _).1
theorem cbreak {S : SS} {dr k : Nat} {B ts : List Int32} {b : Int32} (H : CK S dr ts) (p : Int32) : c_break (ck S dr k B b) p = some (ck S dr k B (if b = -1 then p else b)) := by
  unfold c_break
  rw [(ck_rd H).2.2]
  by_cases c : b = -1
  · rw [if_pos c, if_pos c, ck_w3 H.2.2.1]
  · rw [if_neg c, if_neg c]
theorem cfine_y {S : SS} {dr k : Nat} {B ts : List Int32} (H : CK S dr ts) : c_fine (ck S dr k B (-1)) = some 1 := by
  unfold c_fine
  rw [(ck_rd H).2.2, if_pos rfl]
theorem cfine_n {S : SS} {dr k : Nat} {B ts : List Int32} {b : Int32} (H : CK S dr ts) (hb : b ≠ -1) : c_fine (ck S dr k B b) = some 0 := by
  unfold c_fine
  rw [(ck_rd H).2.2, if_neg hb]
theorem skp_no {ts : List Int32} (hl : ts.length ≤ 4096) {k : Nat} (hk : k < 100000) (h : sg_blank (atP' ts k) = 0) : skp ts k = k := by
  unfold skp
  by_cases c : k < ts.length
  · have := tat_in hl c
    unfold atP' at h
    rw [this] at h
    rw [List.drop_eq_getElem_cons c, List.takeWhile_cons_of_neg (by simpa using h)]
    rfl
  · rw [List.drop_of_length_le (by omega)]
    rfl
theorem skp_yes {ts : List Int32} (hl : ts.length ≤ 4096) {k : Nat} (hk : k < 100000) (h : sg_blank (atP' ts k) ≠ 0) : skp ts k = skp ts (k + 1) ∧ k < ts.length := by
  obtain ⟨l1, l2, l3⟩ := at_lt hl hk rfl (fun c => h (by rw [c]; decide))
  refine ⟨?_, l1⟩
  unfold skp
  rw [l3, List.takeWhile_cons_of_pos (by simpa using h), List.length_cons]
  omega
theorem skp_mx (ts : List Int32) (k : Nat) : skp ts k ≤ max k ts.length := by
  obtain ⟨h1, h2⟩ := skp_le ts k
  by_cases c : k ≤ ts.length
  · have := h2 c
    omega
  · unfold skp
    rw [List.drop_of_length_le (by omega)]
    show k + 0 ≤ _
    omega
theorem cblanks_l {S : SS} {dr : Nat} {B ts : List Int32} {b : Int32} (H : CK S dr ts) : ∀ (n k : Nat), ts.length < n + k → 0 < n → k ≤ 5000 → c_blanks_l0 n (ck S dr k B b) = some (ck S dr (skp ts k) B b) := by
  intro n
  induction n with
  | zero => intro k _ h _; omega
  | succ n ih =>
    intro k h1 _ h5
    have hl := H.2.1
    unfold c_blanks_l0
    rw [ck_t H, (ck_rd H).2.1]
    by_cases c : ts.length ≤ k
    · rw [if_pos ((i_le' (by omega) (by omega)).mpr c)]
      have : skp ts k = k := skp_no hl (by omega) (by unfold atP'; rw [tat_out hl c (by omega)]; decide)
      rw [this]
    · rw [if_neg (by rw [i_le' (by omega) (by omega)]; exact c)]
      by_cases d : sg_blank (atP' ts k) = 0
      · rw [if_pos d, skp_no hl (by omega) d]
      · rw [if_neg d, i_a1, ck_w2 H.2.2.1, ih (k + 1) (by omega) (by omega) (by omega), (skp_yes hl (by omega) d).1]
theorem cblanks {S : SS} {dr k : Nat} {B ts : List Int32} {b : Int32} (H : CK S dr ts) (hk : k ≤ 5000) : c_blanks (ck S dr k B b) = some (ck S dr (skp ts k) B b) := by
  have hl := H.2.1
  exact cblanks_l H 10000 k (by omega) (by omega) hk
theorem ctake_y {S : SS} {dr k : Nat} {B ts : List Int32} {b s : Int32} (H : CK S dr ts) (h : atP' ts k = s) : c_take (ck S dr k B b) s = some (ck S dr (k + 1) (B ++ [s &&& 255]) b) := by
  have h' : tat ts (Int32.ofNat k) = s := h
  unfold c_take
  rw [ck_t H, (ck_rd H).2.1, if_pos h', i_a1, ck_w2 H.2.2.1, (ck_rd H).1, ck_p]
theorem ctake_n {S : SS} {dr k : Nat} {B ts : List Int32} {b s : Int32} (H : CK S dr ts) (h : atP' ts k ≠ s) : c_take (ck S dr k B b) s = some (ck S dr k B (if b = -1 then Int32.ofNat k else b)) := by
  have h' : ¬ tat ts (Int32.ofNat k) = s := h
  unfold c_take
  rw [ck_t H, (ck_rd H).2.1, if_neg h', cbreak H, o_bind]
/-- the text is broken -/
def badC (S : SS) (dr : Nat) (ts : List Int32) (r : Option SS) : Prop := ∃ k B b, r = some (ck S dr k B b) ∧ b ≠ -1 ∧ k ≤ ts.length + 8
theorem bad_take {S : SS} {dr k : Nat} {B ts : List Int32} {b s : Int32} (H : CK S dr ts) (hb : b ≠ -1) (hk : k ≤ ts.length + 8) (hs : s ≠ -1) : badC S dr ts (c_take (ck S dr k B b) s) := by
  have hl := H.2.1
  by_cases h : atP' ts k = s
  · obtain ⟨l1, -, -⟩ := at_lt hl (by omega) h hs
    exact ⟨_, _, _, ctake_y H h, hb, by omega⟩
  · exact ⟨_, _, _, ctake_n H h, by rw [if_neg hb]; exact hb, hk⟩
/-- a sign that is not there -/
theorem bad_no {S : SS} {dr k : Nat} {B ts : List Int32} {s : Int32} (H : CK S dr ts) (hk : k ≤ ts.length + 8) (h : atP' ts k ≠ s) : badC S dr ts (c_take (ck S dr k B (-1)) s) := by
  have hl := H.2.1
  exact ⟨_, _, _, ctake_n H h, by rw [if_pos rfl]; exact i_ne1 (by omega), hk⟩
theorem a255 : ∀ n, n < 128 → Int32.ofNat n &&& 255 = Int32.ofNat n := by decide +kernel
theorem asc.byt {l : List Int32} (h : asc l) : byt l := fun u hu => by
  obtain ⟨n, hn, e⟩ := ch_of (h u hu)
  rw [e]
  exact a255 n hn
theorem ck_ps {S : SS} {dr k : Nat} {b : Int32} : ∀ (l B : List Int32), byt l → l.foldl (fun S v => sput S dr v) (ck S dr k B b) = ck S dr k (B ++ l) b := by
  intro l
  induction l with
  | nil => intro B _; rw [List.append_nil]; rfl
  | cons v l ih =>
    intro B hb
    rw [List.foldl_cons, ck_p, hb v List.mem_cons_self, ih _ (fun u hu => hb u (List.mem_cons_of_mem _ hu)), List.append_assoc]
    rfl
theorem cputc {S : SS} {dr k : Nat} {B : List Int32} {b c : Int32} (hc : 0 ≤ c ∧ c ≤ 127) : c_putChar (ck S dr k B b) dr c = some (ck S dr k (B ++ esc c) b) := by
  rw [← ck_ps (esc c) B (esc_pass hc).2.byt]
  unfold c_putChar esc
  by_cases h1 : sg_letter c = -1
  · rw [if_pos h1, if_pos h1]
    by_cases h2 : c < 32
    · rw [if_pos h2, if_pos h2]; rfl
    · rw [if_neg h2, if_neg h2]
      by_cases h3 : 127 ≤ c
      · rw [if_pos h3, if_pos h3]; rfl
      · rw [if_neg h3, if_neg h3]; rfl
  · rw [if_neg h1, if_neg h1]; rfl
theorem esc_bad {S : SS} {dr k : Nat} {B ts : List Int32} {b l1 l2 l3 l4 : Int32} {n : Nat} (H : CK S dr ts) (hb : b ≠ -1) : c_escape_l62 (n + 1) (ck S dr k B b) l1 l2 l3 l4 = some (ck S dr k B b, l3) := by
  unfold c_escape_l62
  have hB : c_break (ck S dr k B b) l1 = some (ck S dr k B b) := by rw [cbreak H, if_neg hb]
  rw [cfine_n H hb, o_bind, if_pos rfl, hB, o_bind]
  repeat' split
  all_goals rfl
theorem esc_end {S : SS} {dr k : Nat} {B ts : List Int32} {l1 l2 l3 l4 : Int32} {n : Nat} (H : CK S dr ts) (h : 4 ≤ l4 ∨ l2 ≠ 117) : c_escape_l62 (n + 1) (ck S dr k B (-1)) l1 l2 l3 l4 = some (ck S dr k B (if l3 ≤ 127 then -1 else l1), l3) := by
  unfold c_escape_l62
  have hB : c_break (ck S dr k B (-1)) l1 = some (ck S dr k B l1) := by rw [cbreak H, if_pos rfl]
  by_cases h1 : 4 ≤ l4
  · rw [if_pos h1]
    by_cases h2 : l3 ≤ 127
    · rw [if_pos h2, if_pos h2]
    · rw [if_neg h2, if_neg h2, hB, o_bind]
  · rw [if_neg h1, if_neg (h.resolve_left h1)]
    by_cases h2 : l3 ≤ 127
    · rw [if_pos h2, if_pos h2]
    · rw [if_neg h2, if_neg h2, hB, o_bind]
theorem esc_hex {S : SS} {dr k j : Nat} {B ts : List Int32} {l1 l3 : Int32} {n : Nat} (H : CK S dr ts) (hj : j < 4) : (sg_hexv (atP' ts k) ≠ -1 → c_escape_l62 (n + 1) (ck S dr k B (-1)) l1 117 l3 (Int32.ofNat j) = c_escape_l62 n (ck S dr (k + 1) B (-1)) l1 117 (l3 * 16 + sg_hexv (atP' ts k)) (Int32.ofNat (j + 1))) ∧ (sg_hexv (atP' ts k) = -1 → 0 < n → k ≤ 100000 → ∃ b c, c_escape_l62 (n + 1) (ck S dr k B (-1)) l1 117 l3 (Int32.ofNat j) = some (ck S dr (k + 1) B b, c) ∧ b ≠ -1) := by
  have h4 : ¬ (4 : Int32) ≤ Int32.ofNat j := by
    rw [show (4 : Int32) = Int32.ofNat 4 from rfl, i_le' (by omega) (by omega)]
    omega
  have e : c_escape_l62 (n + 1) (ck S dr k B (-1)) l1 117 l3 (Int32.ofNat j) = if sg_hexv (atP' ts k) = -1 then c_escape_l62 n (ck S dr (k + 1) B (Int32.ofNat k)) l1 117 (l3 * 16 + sg_hexv (atP' ts k)) (Int32.ofNat (j + 1)) else c_escape_l62 n (ck S dr (k + 1) B (-1)) l1 117 (l3 * 16 + sg_hexv (atP' ts k)) (Int32.ofNat (j + 1)) := by
    rw [c_escape_l62, if_neg h4, if_pos rfl, cfine_y H, o_bind, if_neg (show ¬ (1 : Int32) = 0 by decide), ck_t H, (ck_rd H).2.1, cbreak H, o_bind, if_pos rfl, (ck_rd H).2.1, i_a1, i_a1, ck_w2 H.2.2.1, ck_w2 H.2.2.1]
  constructor
  · intro h
    rw [e, if_neg h]
  · intro h hn hk
    rw [e, if_pos h]
    obtain ⟨n', rfl⟩ : ∃ n', n = n' + 1 := ⟨n - 1, by omega⟩
    exact ⟨_, _, esc_bad H (i_ne1 (by omega)), i_ne1 (by omega)⟩
theorem cesc {S : SS} {dr k : Nat} {B ts : List Int32} (H : CK S dr ts) (hk : k < ts.length) : (∀ c e, pEsc ts k = some (c, e) → c_escape (ck S dr k B (-1)) = some (ck S dr e B (-1), c)) ∧ (pEsc ts k = none → ∃ k' b c, c_escape (ck S dr k B (-1)) = some (ck S dr k' B b, c) ∧ b ≠ -1 ∧ k' ≤ ts.length + 8) := by
  have hl := H.2.1
  have e2 : Int32.ofNat k + 2 = Int32.ofNat (k + 2) := (Int32.ofNat_add k 2).symm
  by_cases hu : atP' ts (k + 1) = 117
  · have hu' : tat ts (Int32.ofNat (k + 1)) = 117 := hu
    have e : c_escape (ck S dr k B (-1)) = c_escape_l62 10000 (ck S dr (k + 2) B (-1)) (Int32.ofNat k) 117 0 (Int32.ofNat 0) := by
      unfold c_escape
      rw [ck_t H, (ck_rd H).2.1, i_a1, hu', if_pos rfl, e2, ck_w2 H.2.2.1]
      rfl
    have z0 : ∀ x : Int32, 0 * 16 + x = x := fun x => by rw [Int32.zero_mul, Int32.zero_add]
    unfold pEsc
    rw [if_pos hu, e]
    by_cases g2 : sg_hexv (atP' ts (k + 2)) = -1
    · rw [if_pos (Or.inl g2)]
      obtain ⟨b, c, q1, q2⟩ := (esc_hex (S := S) (B := B) (l1 := Int32.ofNat k) (l3 := 0) (n := 9999) H (show 0 < 4 by decide)).2 g2 (by decide) (by omega)
      exact ⟨fun c e h => (by cases h), fun _ => ⟨_, b, c, q1, q2, by omega⟩⟩
    rw [(esc_hex (S := S) (B := B) (l1 := Int32.ofNat k) (l3 := 0) (n := 9999) H (show 0 < 4 by decide)).1 g2, z0]
    by_cases g3 : sg_hexv (atP' ts (k + 3)) = -1
    · rw [if_pos (Or.inr (Or.inl g3))]
      obtain ⟨b, c, q1, q2⟩ := (esc_hex (S := S) (B := B) (l1 := Int32.ofNat k) (l3 := sg_hexv (atP' ts (k + 2))) (n := 9998) H (show 1 < 4 by decide)).2 g3 (by decide) (by omega)
      exact ⟨fun c e h => (by cases h), fun _ => ⟨_, b, c, q1, q2, by omega⟩⟩
    rw [(esc_hex (S := S) (k := k + 2 + 1) (B := B) (l1 := Int32.ofNat k) (l3 := sg_hexv (atP' ts (k + 2))) (n := 9998) H (show 1 < 4 by decide)).1 g3]
    by_cases g4 : sg_hexv (atP' ts (k + 4)) = -1
    · rw [if_pos (Or.inr (Or.inr (Or.inl g4)))]
      obtain ⟨b, c, q1, q2⟩ := (esc_hex (S := S) (k := k + 4) (B := B) (l1 := Int32.ofNat k) (l3 := sg_hexv (atP' ts (k + 2)) * 16 + sg_hexv (atP' ts (k + 3))) (n := 9997) H (show 2 < 4 by decide)).2 g4 (by decide) (by omega)
      exact ⟨fun c e h => (by cases h), fun _ => ⟨_, b, c, q1, q2, by omega⟩⟩
    rw [(esc_hex (S := S) (k := k + 2 + 1 + 1) (B := B) (l1 := Int32.ofNat k) (l3 := sg_hexv (atP' ts (k + 2)) * 16 + sg_hexv (atP' ts (k + 2 + 1))) (n := 9997) H (show 2 < 4 by decide)).1 g4]
    by_cases g5 : sg_hexv (atP' ts (k + 5)) = -1
    · rw [if_pos (Or.inr (Or.inr (Or.inr g5)))]
      obtain ⟨b, c, q1, q2⟩ := (esc_hex (S := S) (k := k + 5) (B := B) (l1 := Int32.ofNat k) (l3 := (sg_hexv (atP' ts (k + 2)) * 16 + sg_hexv (atP' ts (k + 3))) * 16 + sg_hexv (atP' ts (k + 4))) (n := 9996) H (show 3 < 4 by decide)).2 g5 (by decide) (by omega)
      exact ⟨fun c e h => (by cases h), fun _ => ⟨_, b, c, q1, q2, by omega⟩⟩
    rw [(esc_hex (S := S) (k := k + 2 + 1 + 1 + 1) (B := B) (l1 := Int32.ofNat k) (l3 := (sg_hexv (atP' ts (k + 2)) * 16 + sg_hexv (atP' ts (k + 2 + 1))) * 16 + sg_hexv (atP' ts (k + 2 + 1 + 1))) (n := 9996) H (show 3 < 4 by decide)).1 g5]
    rw [if_neg (fun c => c.elim g2 (fun c => c.elim g3 (fun c => c.elim g4 g5))), esc_end (n := 9995) H (Or.inl (by decide))]
    by_cases h7 : ((sg_hexv (atP' ts (k + 2)) * 16 + sg_hexv (atP' ts (k + 3))) * 16 + sg_hexv (atP' ts (k + 4))) * 16 + sg_hexv (atP' ts (k + 5)) ≤ 127
    · rw [if_pos h7, if_pos h7]
      exact ⟨fun c e h => by cases h; rfl, fun h => by cases h⟩
    · rw [if_neg h7, if_neg h7]
      exact ⟨fun c e h => (by cases h), fun _ => ⟨_, _, _, rfl, i_ne1 (by omega), by omega⟩⟩
  · have hu' : ¬ tat ts (Int32.ofNat (k + 1)) = 117 := hu
    unfold pEsc c_escape
    rw [ck_t H, (ck_rd H).2.1, i_a1, if_neg hu', if_neg hu, cbreak H, o_bind, if_pos rfl, (ck_rd H).2.1, e2, ck_w2 H.2.2.1, ck_w2 H.2.2.1, esc_bad (n := 9999) H (i_ne1 (by omega)), esc_end (n := 9999) H (Or.inr hu')]
    by_cases hm : sg_meaning (atP' ts (k + 1)) = -1
    · have hm' : sg_meaning (tat ts (Int32.ofNat (k + 1))) = -1 := hm
      rw [if_pos hm, if_pos hm']
      exact ⟨fun c e h => (by cases h), fun _ => ⟨_, _, _, rfl, i_ne1 (by omega), by omega⟩⟩
    · have hm' : ¬ sg_meaning (tat ts (Int32.ofNat (k + 1))) = -1 := hm
      rw [if_neg hm, if_neg hm']
      have := (mean_k _ hm).1.2
      have h7 : sg_meaning (tat ts (Int32.ofNat (k + 1))) ≤ 127 := this
      rw [if_pos h7]
      exact ⟨fun c e h => by cases h; rfl, fun h => by cases h⟩
theorem cstr_bad {S : SS} {dr k : Nat} {B ts : List Int32} {b l : Int32} {n : Nat} (H : CK S dr ts) (hb : b ≠ -1) (hk : k ≤ ts.length + 8) : badC S dr ts (c_string_l8 (n + 1) (ck S dr k B b) l) := by
  obtain ⟨k', B', b', e, e2⟩ := bad_take (s := 34) (B := B) H hb hk (by decide)
  refine ⟨k', B', b', ?_, e2⟩
  unfold c_string_l8
  by_cases h : 4096 ≤ l
  · rw [if_pos h, e, o_bind]
  · rw [if_neg h, cfine_n H hb, o_bind, if_pos rfl, e, o_bind]
theorem cstr_l {S : SS} {dr : Nat} {ts : List Int32} (H : CK S dr ts) : ∀ (m k : Nat) (B : List Int32) (l1 n : Nat), m + l1 = 5000 → l1 < k → k ≤ ts.length → n + l1 = 10000 → (∀ s e, pStr ts m k = some (s, e) → c_string_l8 n (ck S dr k B (-1)) (Int32.ofNat l1) = some (ck S dr e (B ++ (s.flatMap esc ++ [34])) (-1))) ∧ (pStr ts m k = none → badC S dr ts (c_string_l8 n (ck S dr k B (-1)) (Int32.ofNat l1))) := by
  have hl := H.2.1
  intro m
  induction m with
  | zero => intro k B l1 n h1 h2 h3 _; omega
  | succ m ih =>
    intro k B l1 n h1 h2 h3 h4
    obtain ⟨n, rfl⟩ : ∃ n', n = n' + 1 := ⟨n - 1, by omega⟩
    have g : ¬ (4096 : Int32) ≤ Int32.ofNat l1 := by
      rw [show (4096 : Int32) = Int32.ofNat 4096 from rfl, i_le' (by omega) (by omega)]
      omega
    have u : c_string_l8 (n + 1) (ck S dr k B (-1)) (Int32.ofNat l1) = if atP' ts k = 34 then ((c_take (ck S dr k B (-1)) 34).bind fun r13 => some r13) else if atP' ts k = 92 then ((c_escape (ck S dr k B (-1))).bind fun r17 => ((c_fine r17.1).bind fun r19 => (if r19 = 0 then c_string_l8 n r17.1 (Int32.ofNat l1 + 1) else ((c_putChar r17.1 ((rd r17.1 68 1).toNatClampNeg) r17.2).bind fun r22 => c_string_l8 n r22 (Int32.ofNat l1 + 1))))) else ((c_plain (ck S dr k B (-1))).bind fun r24 => ((c_fine r24.1).bind fun r26 => (if r26 = 0 then c_string_l8 n r24.1 (Int32.ofNat l1 + 1) else ((c_putChar r24.1 ((rd r24.1 68 1).toNatClampNeg) r24.2).bind fun r29 => c_string_l8 n r29 (Int32.ofNat l1 + 1))))) := by
      rw [c_string_l8, if_neg g, cfine_y H, o_bind, if_neg (show ¬ (1 : Int32) = 0 by decide), ck_t H, (ck_rd H).2.1]
    by_cases h34 : atP' ts k = 34
    · have e2 : pStr ts (m + 1) k = some ([], k + 1) := by unfold pStr; rw [if_pos h34]
      rw [e2, u, if_pos h34, ctake_y H h34, o_bind]
      exact ⟨fun s e h => by cases h; rfl, fun h => by cases h⟩
    have e2 : pStr ts (m + 1) k = (pChr ts k).bind fun c => (pStr ts m c.2).map fun s => (c.1 :: s.1, s.2) := by
      rw [pStr, if_neg h34]
    rw [e2]
    cases hc : pChr ts k with
    | some ce =>
      obtain ⟨c, e1⟩ := ce
      obtain ⟨a1, a2, a3, a4⟩ := pChr_ok hl (by omega) h34 hc
      have step : c_string_l8 (n + 1) (ck S dr k B (-1)) (Int32.ofNat l1) = c_string_l8 n (ck S dr e1 (B ++ esc c) (-1)) (Int32.ofNat (l1 + 1)) := by
        rw [u, if_neg h34, i_a1]
        unfold pChr at hc
        by_cases h92 : atP' ts k = 92
        · rw [if_pos h92] at hc ⊢
          obtain ⟨lk, -, -⟩ := at_lt hl (by omega) h92 (by decide)
          rw [(cesc H lk).1 c e1 hc, o_bind]
          simp only
          rw [cfine_y H, o_bind, if_neg (show ¬ (1 : Int32) = 0 by decide), (ck_rd H).1, cputc a1, o_bind]
        · rw [if_neg h92] at hc ⊢
          by_cases h32 : atP' ts k < 32
          · rw [if_pos h32] at hc; cases hc
          rw [if_neg h32] at hc
          by_cases h126 : atP' ts k ≤ 126
          rotate_left
          · rw [if_neg h126] at hc; cases hc
          rw [if_pos h126] at hc
          cases hc
          have p1 : c_plain (ck S dr k B (-1)) = some (ck S dr (k + 1) B (-1), atP' ts k) := by
            have h32' : ¬ tat ts (Int32.ofNat k) < 32 := h32
            have h126' : tat ts (Int32.ofNat k) ≤ 126 := h126
            unfold c_plain
            rw [ck_t H, (ck_rd H).2.1, if_neg h32', if_pos h126', i_a1, ck_w2 H.2.2.1]
          rw [p1, o_bind]
          simp only
          rw [cfine_y H, o_bind, if_neg (show ¬ (1 : Int32) = 0 by decide), (ck_rd H).1, cputc a1, o_bind]
      rw [step, o_bind]
      obtain ⟨i1, i2⟩ := ih e1 (B ++ esc c) (l1 + 1) n (by omega) (by omega) a4 (by omega)
      refine ⟨fun s e h => ?_, fun h => ?_⟩
      · obtain ⟨⟨s', e'⟩, q1, q2⟩ := map_some h
        cases q2
        rw [i1 s' e' q1, List.flatMap_cons]
        simp only [List.append_assoc]
      · refine i2 ?_
        cases hp : pStr ts m e1 with
        | none => rfl
        | some x => simp only at h; rw [hp] at h; cases h
    | none =>
      refine ⟨fun s e h => (by cases h), fun _ => ?_⟩
      obtain ⟨n', rfl⟩ : ∃ n', n = n' + 1 := ⟨n - 1, by omega⟩
      rw [u, if_neg h34]
      unfold pChr at hc
      by_cases h92 : atP' ts k = 92
      · rw [if_pos h92] at hc ⊢
        obtain ⟨lk, -, -⟩ := at_lt hl (by omega) h92 (by decide)
        obtain ⟨k', b, c, q1, q2, q3⟩ := (cesc (B := B) H lk).2 hc
        rw [q1, o_bind]
        simp only
        rw [cfine_n H q2, o_bind, if_pos rfl]
        exact cstr_bad H q2 q3
      · rw [if_neg h92] at hc ⊢
        have p1 : c_plain (ck S dr k B (-1)) = some (ck S dr (k + 1) B (Int32.ofNat k), atP' ts k) := by
          unfold c_plain
          rw [ck_t H, (ck_rd H).2.1, cbreak H, o_bind, if_pos rfl, (ck_rd H).2.1, i_a1, ck_w2 H.2.2.1]
          by_cases h32 : atP' ts k < 32
          · have h32' : tat ts (Int32.ofNat k) < 32 := h32
            rw [if_pos h32']
          · have h32' : ¬ tat ts (Int32.ofNat k) < 32 := h32
            rw [if_neg h32] at hc
            by_cases h126 : atP' ts k ≤ 126
            · rw [if_pos h126] at hc; cases hc
            · have h126' : ¬ tat ts (Int32.ofNat k) ≤ 126 := h126
              rw [if_neg h32', if_neg h126']
        rw [p1, o_bind]
        simp only
        rw [cfine_n H (i_ne1 (by omega)), o_bind, if_pos rfl]
        exact cstr_bad H (i_ne1 (by omega)) (by omega)
theorem cstring_v {S : SS} {dr k : Nat} {B ts : List Int32} (H : CK S dr ts) (h34 : atP' ts k = 34) (hk : k ≤ 5000) : (∀ s e, pStr ts 5000 (k + 1) = some (s, e) → c_string (ck S dr k B (-1)) = some (ck S dr e (B ++ pstr s) (-1))) ∧ (pStr ts 5000 (k + 1) = none → badC S dr ts (c_string (ck S dr k B (-1)))) := by
  have hl := H.2.1
  obtain ⟨lk, -, -⟩ := at_lt hl (by omega) h34 (by decide)
  unfold c_string
  rw [ctake_y H h34, o_bind]
  obtain ⟨i1, i2⟩ := cstr_l H 5000 (k + 1) (B ++ [34 &&& 255]) 0 10000 rfl (by omega) (by omega) rfl
  refine ⟨fun s e h => ?_, fun h => i2 h⟩
  have := i1 s e h
  rw [List.append_assoc] at this
  exact this
theorem lit_bad {S : SS} {dr : Nat} {ts bs : List Int32} (H : CK S dr ts) (hbs : bs.length ≤ 100) (h1 : ∀ u ∈ bs, u ≠ -1) : ∀ (n i k : Nat) (B : List Int32) (b : Int32), bs.length < n + i → i ≤ bs.length → b ≠ -1 → k ≤ ts.length + 8 → badC S dr ts (c_literal_l2 bs n (ck S dr k B b) (Int32.ofNat i)) := by
  intro n
  induction n with
  | zero => intro i k B b h2 h3; omega
  | succ n ih =>
    intro i k B b h2 h3 hb hk
    unfold c_literal_l2
    by_cases e : i = bs.length
    · rw [if_pos ((i_le' (by omega) (by omega)).mpr (by omega))]
      exact ⟨_, _, _, rfl, hb, hk⟩
    · have hi : i < bs.length := by omega
      have es : sch bs (Int32.ofNat i) = some bs[i] := by
        unfold sch
        rw [if_neg (i_nn (by omega)), i_cl (by omega), List.getElem?_eq_getElem hi]
      obtain ⟨k', B', b', e1, e2, e3⟩ := bad_take (B := B) H hb hk (h1 bs[i] (List.getElem_mem hi))
      rw [if_neg (by rw [i_le' (by omega) (by omega)]; omega), es, o_bind, e1, o_bind, i_a1]
      exact ih (i + 1) k' B' b' (by omega) (by omega) e2 e3
theorem lit_l {S : SS} {dr : Nat} {ts bs : List Int32} (H : CK S dr ts) (hbs : bs.length ≤ 100) (h1 : ∀ u ∈ bs, u ≠ -1) (hb : byt bs) : ∀ (n i k : Nat) (B : List Int32), bs.length < n + i → i ≤ bs.length → k ≤ ts.length → ((ts.drop k).take (bs.drop i).length = bs.drop i → c_literal_l2 bs n (ck S dr k B (-1)) (Int32.ofNat i) = some (ck S dr (k + (bs.drop i).length) (B ++ bs.drop i) (-1))) ∧ ((ts.drop k).take (bs.drop i).length ≠ bs.drop i → badC S dr ts (c_literal_l2 bs n (ck S dr k B (-1)) (Int32.ofNat i))) := by
  have hl := H.2.1
  intro n
  induction n with
  | zero => intro i k B h2 h3; omega
  | succ n ih =>
    intro i k B h2 h3 hk
    unfold c_literal_l2
    by_cases e : i = bs.length
    · rw [if_pos ((i_le' (by omega) (by omega)).mpr (by omega)), List.drop_of_length_le (by omega), List.append_nil]
      exact ⟨fun _ => rfl, fun c => absurd rfl c⟩
    · have hi : i < bs.length := by omega
      have es : sch bs (Int32.ofNat i) = some bs[i] := by
        unfold sch
        rw [if_neg (i_nn (by omega)), i_cl (by omega), List.getElem?_eq_getElem hi]
      have n1 := h1 bs[i] (List.getElem_mem hi)
      rw [if_neg (by rw [i_le' (by omega) (by omega)]; omega), es, o_bind, i_a1, List.drop_eq_getElem_cons hi]
      by_cases c : atP' ts k = bs[i]
      · obtain ⟨lk, l2, l3⟩ := at_lt hl (by omega) c n1
        rw [ctake_y H c, o_bind, hb _ (List.getElem_mem hi)]
        obtain ⟨i1, i2⟩ := ih (i + 1) (k + 1) (B ++ [bs[i]]) (by omega) (by omega) (by omega)
        rw [l3, List.length_cons, List.take_succ_cons]
        refine ⟨fun q => ?_, fun q => i2 fun r => q (by rw [r])⟩
        have q := (List.cons.inj q).2
        rw [i1 q, List.append_assoc, show k + 1 + (bs.drop (i + 1)).length = k + ((bs.drop (i + 1)).length + 1) by omega]
        rfl
      · obtain ⟨k', B', b', e1, e2, e3⟩ := bad_no (B := B) H (show k ≤ ts.length + 8 by omega) c
        rw [e1, o_bind]
        refine ⟨fun q => ?_, fun _ => lit_bad H hbs h1 n (i + 1) k' B' b' (by omega) (by omega) e2 e3⟩
        exfalso
        apply c
        rw [List.length_cons] at q
        by_cases d : k < ts.length
        · rw [List.drop_eq_getElem_cons d, List.take_succ_cons] at q
          unfold atP'
          rw [tat_in hl d]
          exact (List.cons.inj q).1
        · rw [show ts.drop k = [] from List.drop_of_length_le (by omega)] at q
          cases q
theorem clit_v {S : SS} {dr k : Nat} {B ts bs : List Int32} (H : CK S dr ts) (hk : k ≤ ts.length) (hbs : bs.length ≤ 100) (h1 : ∀ u ∈ bs, u ≠ -1) (hb : byt bs) : (∀ e, pLit ts bs k = some e → c_literal (ck S dr k B (-1)) bs = some (ck S dr e (B ++ bs) (-1))) ∧ (pLit ts bs k = none → badC S dr ts (c_literal (ck S dr k B (-1)) bs)) := by
  obtain ⟨i1, i2⟩ := lit_l H hbs h1 hb 10000 0 k B (by omega) (by omega) hk
  unfold pLit
  by_cases c : (ts.drop k).take bs.length = bs
  · rw [if_pos c]
    exact ⟨fun e h => by cases h; exact i1 c, fun h => by cases h⟩
  · rw [if_neg c]
    exact ⟨fun e h => (by cases h), fun _ => i2 c⟩
end CRead182
end

section
/-! The class reads: numbers, arrays, objects, values. -/
section CRead183
theorem l_digs : ∀ d, d < 10 → (Int32.ofNat (48 + d)).toInt64 - 48 = Int64.ofNat d := by decide +kernel
theorem l_natI {a : Nat} (h : a ≤ 4611686018427387904) : (Int64.ofNat a).toInt = a := by rw [l_nat, l_of (by omega) (by omega)]
theorem l_max53 : (9007199254740991 : Int64).toInt = 9007199254740991 := by decide
theorem cdig_l {S : SS} {dr : Nat} {B ts : List Int32} {b : Int32} (H : CK S dr ts) : ∀ (n k a : Nat), ts.length < n + k → 0 < n → k ≤ 5000 → a ≤ 90071992547409919 → c_digits_l38 n (ck S dr k B b) (Int64.ofNat a) 1 = some (ck S dr (k + (digs ts k).length) B b, Int64.ofNat ((digs ts k).foldl sat a)) := by
  intro n
  induction n with
  | zero => intro k a _ h; omega
  | succ n ih =>
    intro k a h1 _ h5 ha
    have hl := H.2.1
    unfold c_digits_l38
    rw [if_neg (show ¬ (1 : Int32) = 0 by decide), ck_t H, (ck_rd H).2.1]
    by_cases c : ts.length ≤ k
    · have e0 : digs ts k = [] := by unfold digs; rw [List.drop_of_length_le c]; rfl
      rw [if_pos ((i_le' (by omega) (by omega)).mpr c), e0]
      rfl
    rw [if_neg (by rw [i_le' (by omega) (by omega)]; exact c)]
    by_cases d : sg_digit (atP' ts k) = 0
    · have d' : sg_digit (tat ts (Int32.ofNat k)) = 0 := d
      rw [if_pos d', digs_nil hl (by omega) d]
      rfl
    have d' : ¬ sg_digit (tat ts (Int32.ofNat k)) = 0 := d
    obtain ⟨l1, e1⟩ := digs_cons hl (by omega) d
    obtain ⟨w, w1, w2, w3, -⟩ := dig_d d
    have w2' : tat ts (Int32.ofNat k) = Int32.ofNat (48 + w) := w2
    rw [if_neg d', e1, List.length_cons, List.foldl_cons, i_a1, ck_w2 H.2.2.1, show k + ((digs ts (k + 1)).length + 1) = k + 1 + (digs ts (k + 1)).length by omega]
    by_cases g : 9007199254740991 < a
    · have s : sat a (atP' ts k) = a := by unfold sat; rw [if_neg (by omega)]
      rw [if_pos (by rw [lg_gt, l_max53, l_natI (by omega)]; omega), s, ih (k + 1) a (by omega) (by omega) (by omega) ha]
    · have s : sat a (atP' ts k) = a * 10 + w := by unfold sat; rw [if_pos (by omega), w3]
      have z : Int64.ofNat a * 10 + (tat ts (Int32.ofNat k)).toInt64 - 48 = Int64.ofNat (a * 10 + w) := by
        rw [w2', Int64.sub_eq_add_neg, Int64.add_assoc, ← Int64.sub_eq_add_neg, l_digs w w1, Int64.ofNat_add, Int64.ofNat_mul]
        rfl
      rw [if_neg (by rw [lg_gt, l_max53, l_natI (by omega)]; omega), s, z, ih (k + 1) (a * 10 + w) (by omega) (by omega) (by omega) (by omega)]
theorem ck_part {S : SS} {dr k f w : Nat} {B ts : List Int32} {b : Int32} (H : CK S dr ts) (hf : f ≤ 5000) (hw : w ≤ 5000) : spart (ck S dr k B b) dr 42 (Int32.ofNat f) (Int32.ofNat w) = some (ck S dr k (B ++ (ts.take w).drop f) b) := by
  have hX : tT (up S 68 [rd S 68 0, Int32.ofNat dr, Int32.ofNat k, b]) 42 = ts := by
    unfold tT
    rw [up_ne (by decide)]
    exact H.1
  have hw' : ¬ Int32.ofNat w < -10000 := by
    rw [i_lt, i_of (by omega), show (-10000 : Int32).toInt = -10000 from by decide]
    omega
  have hf' : ¬ (100000 : Int32) < Int32.ofNat f := by
    rw [show (100000 : Int32) = Int32.ofNat 100000 from rfl, i_lt' (by omega) (by omega)]
    omega
  unfold ck
  rw [spart_pv H.2.2.2.1 hw' hf', hX]
  unfold tcut
  rw [i_cl (by omega), i_cl (by omega)]
def cnumB (S : SS) (st : Int32) : Option SS := (if (sg_digit (tat (tT S 42) (rd S 68 2))) = 0 then ((c_break S (rd S 68 2)).bind fun r21 => some r21) else ((c_digits S).bind fun r23 => (if (lg_cmp r23.2 9007199254740991) ≤ 0 then (if (lg_cmp r23.2 0) = 0 then some (sput r23.1 ((rd r23.1 68 1).toNatClampNeg) 48) else ((spart r23.1 ((rd r23.1 68 1).toNatClampNeg) 42 st (rd r23.1 68 2)).bind fun r28 => some r28)) else ((c_break r23.1 st).bind fun r30 => some r30))))
theorem cnumB_eq (S : SS) : c_number S = if (tat (tT S 42) (rd S 68 2)) = (45 : Int32) then cnumB (wr S 68 2 ((rd S 68 2) + 1)) (rd S 68 2) else cnumB S (rd S 68 2) := rfl
theorem cnumB_v {S : SS} {dr k st : Nat} {B ts : List Int32} (H : CK S dr ts) (hk : k ≤ ts.length + 1) (hst : st ≤ k) : (sg_digit (atP' ts k) = 0 → badC S dr ts (cnumB (ck S dr k B (-1)) (Int32.ofNat st))) ∧ (sg_digit (atP' ts k) ≠ 0 → (atP' ts k = 48 → cnumB (ck S dr k B (-1)) (Int32.ofNat st) = some (ck S dr (k + 1) (B ++ [48]) (-1))) ∧ (atP' ts k ≠ 48 → ((digs ts k).foldl sat 0 ≤ 9007199254740991 → cnumB (ck S dr k B (-1)) (Int32.ofNat st) = some (ck S dr (k + (digs ts k).length) (B ++ (ts.take (k + (digs ts k).length)).drop st) (-1))) ∧ (¬ (digs ts k).foldl sat 0 ≤ 9007199254740991 → badC S dr ts (cnumB (ck S dr k B (-1)) (Int32.ofNat st))))) := by
  have hl := H.2.1
  refine ⟨fun h => ?_, fun h => ?_⟩
  · have h' : sg_digit (tat ts (Int32.ofNat k)) = 0 := h
    unfold cnumB
    rw [ck_t H, (ck_rd H).2.1, if_pos h', cbreak H, o_bind, if_pos rfl]
    exact ⟨_, _, _, rfl, i_ne1 (by omega), by omega⟩
  have h' : ¬ sg_digit (tat ts (Int32.ofNat k)) = 0 := h
  obtain ⟨l1, e1⟩ := digs_cons hl (by omega) h
  obtain ⟨w, w1, w2, w3, -⟩ := dig_d h
  have w2' : tat ts (Int32.ofNat k) = Int32.ofNat (48 + w) := w2
  have z := (dig_v w w1).2
  have z0 : (0 : Int64).toInt = 0 := by decide
  have u : cnumB (ck S dr k B (-1)) (Int32.ofNat st) = ((c_digits (ck S dr k B (-1))).bind fun r23 => (if (lg_cmp r23.2 9007199254740991) ≤ 0 then (if (lg_cmp r23.2 0) = 0 then some (sput r23.1 ((rd r23.1 68 1).toNatClampNeg) 48) else ((spart r23.1 ((rd r23.1 68 1).toNatClampNeg) 42 (Int32.ofNat st) (rd r23.1 68 2)).bind fun r28 => some r28)) else ((c_break r23.1 (Int32.ofNat st)).bind fun r30 => some r30))) := by
    unfold cnumB
    rw [ck_t H, (ck_rd H).2.1, if_neg h']
  have dg : c_digits (ck S dr k B (-1)) = if w = 0 then c_digits_l38 10000 (ck S dr (k + 1) B (-1)) (Int64.ofNat 0) 0 else c_digits_l38 10000 (ck S dr (k + 1) B (-1)) (Int64.ofNat w) 1 := by
    unfold c_digits
    rw [ck_t H, (ck_rd H).2.1, w2', z, i_a1, ck_w2 H.2.2.1]
    by_cases c : w = 0
    · rw [if_pos c, if_pos (by rw [lg_le, z0, l_natI (by omega)]; omega), c]
    · rw [if_neg c, if_neg (by rw [lg_le, z0, l_natI (by omega)]; omega)]
  rw [u]
  have key : ∀ e W : Nat, W ≤ 90071992547409919 → e ≤ 5000 → k ≤ e → c_digits (ck S dr k B (-1)) = some (ck S dr e B (-1), Int64.ofNat W) → (W = 0 → ((c_digits (ck S dr k B (-1))).bind fun r23 => (if (lg_cmp r23.2 9007199254740991) ≤ 0 then (if (lg_cmp r23.2 0) = 0 then some (sput r23.1 ((rd r23.1 68 1).toNatClampNeg) 48) else ((spart r23.1 ((rd r23.1 68 1).toNatClampNeg) 42 (Int32.ofNat st) (rd r23.1 68 2)).bind fun r28 => some r28)) else ((c_break r23.1 (Int32.ofNat st)).bind fun r30 => some r30))) = some (ck S dr e (B ++ [48]) (-1))) ∧ (W ≠ 0 → W ≤ 9007199254740991 → ((c_digits (ck S dr k B (-1))).bind fun r23 => (if (lg_cmp r23.2 9007199254740991) ≤ 0 then (if (lg_cmp r23.2 0) = 0 then some (sput r23.1 ((rd r23.1 68 1).toNatClampNeg) 48) else ((spart r23.1 ((rd r23.1 68 1).toNatClampNeg) 42 (Int32.ofNat st) (rd r23.1 68 2)).bind fun r28 => some r28)) else ((c_break r23.1 (Int32.ofNat st)).bind fun r30 => some r30))) = some (ck S dr e (B ++ (ts.take e).drop st) (-1))) ∧ (¬ W ≤ 9007199254740991 → ((c_digits (ck S dr k B (-1))).bind fun r23 => (if (lg_cmp r23.2 9007199254740991) ≤ 0 then (if (lg_cmp r23.2 0) = 0 then some (sput r23.1 ((rd r23.1 68 1).toNatClampNeg) 48) else ((spart r23.1 ((rd r23.1 68 1).toNatClampNeg) 42 (Int32.ofNat st) (rd r23.1 68 2)).bind fun r28 => some r28)) else ((c_break r23.1 (Int32.ofNat st)).bind fun r30 => some r30))) = some (ck S dr e B (Int32.ofNat st))) := by
    intro e W hW he hke hd
    rw [hd, o_bind]
    simp only
    refine ⟨fun c => ?_, fun c c2 => ?_, fun c => ?_⟩
    · rw [if_pos (by rw [lg_le, l_max53, l_natI (by omega)]; omega), if_pos (by rw [lg_eq, c]; rfl), (ck_rd H).1, ck_p]
      rfl
    · rw [if_pos (by rw [lg_le, l_max53, l_natI (by omega)]; omega), if_neg (by
        rw [lg_eq]
        intro x
        have := congrArg Int64.toInt x
        rw [l_natI (by omega), z0] at this
        omega), (ck_rd H).1, (ck_rd H).2.1, ck_part H (by omega) (by omega), o_bind]
    · rw [if_neg (by rw [lg_le, l_max53, l_natI (by omega)]; omega), cbreak H, o_bind, if_pos rfl]
  refine ⟨fun c => ?_, fun c => ?_⟩
  · have w0 : w = 0 := by
      rw [w2, show (48 : Int32) = Int32.ofNat 48 from rfl, i_inj (by omega) (by omega)] at c
      omega
    refine (key (k + 1) 0 (by omega) (by omega) (by omega) ?_).1 rfl
    rw [dg, if_pos w0]
    rfl
  · have w0 : w ≠ 0 := fun x => c (by rw [w2, x]; rfl)
    have sb : ∀ (ds : List Int32) (a : Nat), (∀ b ∈ ds, sg_digit b ≠ 0) → a ≤ 90071992547409919 → ds.foldl sat a ≤ 90071992547409919 := by
      intro ds
      induction ds with
      | nil => intro a _ h; exact h
      | cons b ds ih =>
        intro a hd ha
        rw [List.foldl_cons]
        refine ih _ (fun x hx => hd x (List.mem_cons_of_mem _ hx)) ?_
        obtain ⟨d, d1, d2, d3, -⟩ := dig_d (hd b List.mem_cons_self)
        unfold sat
        split
        · rw [d3]; omega
        · exact ha
    have sw : sat 0 (atP' ts k) = w := by unfold sat; rw [if_pos (by omega), w3]; omega
    have eW : (digs ts k).foldl sat 0 = (digs ts (k + 1)).foldl sat w := by rw [e1, List.foldl_cons, sw]
    have eL : k + (digs ts k).length = k + 1 + (digs ts (k + 1)).length := by rw [e1, List.length_cons]; omega
    have hle := digs_len ts (k + 1) (by omega)
    have hW : (digs ts (k + 1)).foldl sat w ≤ 90071992547409919 := sb _ _ (digs_dig ts (k + 1)) (by omega)
    have hd : c_digits (ck S dr k B (-1)) = some (ck S dr (k + 1 + (digs ts (k + 1)).length) B (-1), Int64.ofNat ((digs ts (k + 1)).foldl sat w)) := by
      rw [dg, if_neg w0, cdig_l H 10000 (k + 1) w (by omega) (by omega) (by omega) (by omega)]
    obtain ⟨-, k2, k3⟩ := key _ _ hW (by omega) (by omega) hd
    rw [eW, eL]
    refine ⟨fun x => k2 ?_ x, fun x => ⟨_, _, _, k3 x, i_ne1 (by omega), by omega⟩⟩
    rw [← eW] at x ⊢
    have := (digs_num hl (by omega) h c x).2
    omega
theorem cnum_v {S : SS} {dr k : Nat} {B ts : List Int32} (H : CK S dr ts) (hk : k ≤ ts.length) : (∀ v e, pNum ts k = some (v, e) → c_number (ck S dr k B (-1)) = some (ck S dr e (B ++ pnum v) (-1))) ∧ (pNum ts k = none → badC S dr ts (c_number (ck S dr k B (-1)))) := by
  have hl := H.2.1
  obtain ⟨k', hk'⟩ : ∃ k', k' = if atP' ts k = 45 then k + 1 else k := ⟨_, rfl⟩
  have e : c_number (ck S dr k B (-1)) = cnumB (ck S dr k' B (-1)) (Int32.ofNat k) := by
    rw [cnumB_eq, ck_t H, (ck_rd H).2.1]
    by_cases c : atP' ts k = 45
    · have c' : tat ts (Int32.ofNat k) = 45 := c
      rw [if_pos c', i_a1, ck_w2 H.2.2.1, hk', if_pos c]
    · have c' : ¬ tat ts (Int32.ofNat k) = 45 := c
      rw [if_neg c', hk', if_neg c]
  have kk : k ≤ k' ∧ k' ≤ k + 1 := by rw [hk']; split <;> omega
  unfold pNum
  rw [← hk', e]
  obtain ⟨a1, a2⟩ := cnumB_v (st := k) (B := B) H (show k' ≤ ts.length + 1 by omega) kk.1
  by_cases h1 : sg_digit (atP' ts k') = 0
  · rw [if_pos h1]
    exact ⟨fun v e h => (by cases h), fun _ => a1 h1⟩
  rw [if_neg h1]
  obtain ⟨a3, a4⟩ := a2 h1
  by_cases h2 : atP' ts k' = 48
  · rw [if_pos h2]
    exact ⟨fun v e h => by cases h; exact a3 h2, fun h => by cases h⟩
  rw [if_neg h2]
  obtain ⟨a5, a6⟩ := a4 h2
  by_cases h3 : (digs ts k').foldl sat 0 ≤ 9007199254740991
  rotate_left
  · rw [if_neg h3]
    exact ⟨fun v e h => (by cases h), fun _ => a6 h3⟩
  rw [if_pos h3]
  refine ⟨fun v e h => ?_, fun h => by cases h⟩
  obtain ⟨d1, d2⟩ := digs_num hl (by omega) h1 h2 h3
  have dp := digs_pre ts k'
  cases h
  rw [a5 h3]
  congr 2
  rw [List.drop_take]
  by_cases c : atP' ts k = 45
  · rw [if_pos c]
    rw [if_pos c] at hk'
    obtain ⟨lk, -, l3⟩ := at_lt hl (by omega) c (by decide)
    unfold pnum
    rw [if_pos (by omega), Int.natAbs_neg, Int.natAbs_natCast, d1, l3, show k' + (digs ts k').length - k = (digs ts k').length + 1 by omega, List.take_succ_cons, ← hk', dp]
    rfl
  · rw [if_neg c]
    rw [if_neg c] at hk'
    unfold pnum
    rw [if_neg (by omega), Int.natAbs_natCast, d1, show k' + (digs ts k').length - k = (digs ts k').length by omega, ← hk', dp]
    rfl
/-- members that stand before the one that is read -/
def pj (L : List Mb) : List Int32 := L.flatMap fun m => bM true m ++ [44]
theorem pj_app (L : List Mb) (m : Mb) : pj (L ++ [m]) = pj L ++ (bM true m ++ [44]) := by
  unfold pj
  rw [List.flatMap_append]
  simp
theorem asc_bM {m : Mb} (h : okS m.1 ∧ wV m.2) : asc (bM true m) := by
  unfold bM
  simp only [if_true]
  exact ((pstr_pass h.1).2.app (asc.cons (by decide) asc.nil)).app (bV_pass _ h.2).2
theorem asc_pj {L : List Mb} (h : okL L) : asc (pj L) := by
  intro u hu
  obtain ⟨m, m1, m2⟩ := List.mem_flatMap.mp hu
  exact ((asc_bM (h m m1)).app (asc.cons (by decide) asc.nil)) u m2
theorem cwas_l {S : SS} {dr k nm : Nat} {U ts s : List Int32} {b : Int32} (H : CK S dr ts) (hl : U.length ≤ 4096) (hA : asc U) (hs : okS s) (hnm : U.drop nm = pstr s ++ []) : ∀ (L : List Mb) (n q c : Nat), okL L → U.drop q = pj L ++ pstr s → q + (pj L).length = nm → c < q → L.length < n → c_wasThere_l7 (ck S dr k U b) n (Int32.ofNat nm) (Int32.ofNat q) (Int32.ofNat c) = some (if s ∈ L.map (fun m => m.1) then 1 else 0) := by
  have eT : tT (ck S dr k U b) ((rd (ck S dr k U b) 68 1).toNatClampNeg) = U := by rw [(ck_rd H).1, ck_T, List.take_of_length_le hl]
  have hps : 0 < (pstr s).length := by unfold pstr; simp
  have lnm : nm < U.length := by
    have := congrArg List.length hnm
    rw [List.length_drop, List.append_nil] at this
    omega
  intro L
  induction L with
  | nil =>
    intro n q c _ hd hq hc hn
    obtain ⟨n, rfl⟩ : ∃ n', n = n' + 1 := ⟨n - 1, by simp at hn; omega⟩
    have hq : q = nm := by simpa [pj] using hq
    unfold c_wasThere_l7
    rw [if_neg (by rw [i_le' (by omega) (by omega)]; omega), if_pos ((i_le' (by omega) (by omega)).mpr (by omega))]
    rfl
  | cons m L ih =>
    intro n q c hok hd hq hc hn
    obtain ⟨n, rfl⟩ : ∃ n', n = n' + 1 := ⟨n - 1, by omega⟩
    have hm := hok m List.mem_cons_self
    have ep : pj (m :: L) = bM true m ++ 44 :: pj L := by
      unfold pj
      rw [List.flatMap_cons, List.append_assoc]
      rfl
    rw [ep] at hd hq
    rw [List.length_append, List.length_cons] at hq
    have hd1 : U.drop q = pstr m.1 ++ (58 :: (bV m.2 ++ (44 :: (pj L ++ pstr s)))) := by
      rw [hd]
      unfold bM
      simp only [if_true, List.append_assoc, List.cons_append, List.nil_append]
    unfold c_wasThere_l7
    rw [if_neg (by rw [i_le' (by omega) (by omega)]; omega), if_neg (by rw [i_le' (by omega) (by omega)]; omega), eT, same_str hl hl hm.1 hs hd1 hnm, o_bind]
    by_cases c1 : m.1 = s
    · rw [if_pos c1, if_neg (by decide), if_pos (by rw [List.map_cons, c1]; exact List.mem_cons_self)]
    · have ie : t_itemEnd U (Int32.ofNat q) = some (Int32.ofNat (q + (bM true m).length)) := by
        unfold t_itemEnd
        rw [ns_at hl hA (cc := 0) (c := false) ⟨fun _ => rfl, fun _ => rfl⟩ hd (by omega), o_bind, List.append_assoc, bM_pass hm.1 hm.2, List.cons_append, sc_stop (Or.inl rfl)]
        rfl
      rw [if_neg c1, if_pos rfl, ie, o_bind, i_a1, i_a1]
      have hd2 : U.drop (q + (bM true m).length + 1) = pj L ++ pstr s := by
        have : U.drop q = (bM true m ++ [44]) ++ (pj L ++ pstr s) := by rw [hd]; simp
        have := drop_more this
        rw [List.length_append] at this
        exact this
      rw [ih n _ (c + 1) hok.tail hd2 (by omega) (by omega) (by simp at hn; omega)]
      congr 1
      by_cases c2 : s ∈ L.map (fun m => m.1)
      · rw [if_pos c2, if_pos (by rw [List.map_cons]; exact List.mem_cons_of_mem _ c2)]
      · rw [if_neg c2, if_neg (by
          rw [List.map_cons]
          intro x
          rcases List.mem_cons.mp x with y | y
          · exact c1 y.symm
          · exact c2 y)]
theorem pj_ge (L : List Mb) : L.length ≤ (pj L).length := by
  induction L with
  | nil => simp [pj]
  | cons m L ih =>
    have : pj (m :: L) = (bM true m ++ [44]) ++ pj L := by unfold pj; rw [List.flatMap_cons]
    rw [this, List.length_append, List.length_append, List.length_cons]
    simp only [List.length_cons, List.length_nil]
    omega
theorem cwas_v {S : SS} {dr k : Nat} {B0 ts s : List Int32} {L : List Mb} {b : Int32} (H : CK S dr ts) (h0 : asc B0) (hL : okL L) (hs : okS s) (hl : (B0 ++ 123 :: pj L ++ pstr s).length ≤ 4096) : c_wasThere (ck S dr k (B0 ++ 123 :: pj L ++ pstr s) b) (Int32.ofNat B0.length) (Int32.ofNat (B0 ++ 123 :: pj L).length) = some (if s ∈ L.map (fun m => m.1) then 1 else 0) := by
  have hA : asc (B0 ++ 123 :: pj L ++ pstr s) := (h0.app (asc.cons (by decide) (asc_pj hL))).app (pstr_pass hs).2
  have h1 : (B0 ++ 123 :: pj L ++ pstr s).drop (B0 ++ 123 :: pj L).length = pstr s ++ [] := by rw [List.drop_left, List.append_nil]
  have h2 : (B0 ++ 123 :: pj L ++ pstr s).drop (B0.length + 1) = pj L ++ pstr s := by
    rw [show B0 ++ 123 :: pj L ++ pstr s = (B0 ++ [123]) ++ (pj L ++ pstr s) by simp, show B0.length + 1 = (B0 ++ [123]).length by simp, List.drop_left]
  have := pj_ge L
  have l1 : (B0 ++ 123 :: pj L).length = B0.length + 1 + (pj L).length := by simp; omega
  rw [List.length_append, l1] at hl
  unfold c_wasThere
  rw [i_a1]
  exact cwas_l H (by rw [List.length_append, l1]; exact hl) hA hs h1 L 10000 (B0.length + 1) 0 hL h2 l1.symm (by omega) (by omega)
theorem bad_tail {S : SS} {dr k : Nat} {B ts : List Int32} {b : Int32} (H : CK S dr ts) (hb : b ≠ -1) (hk : k ≤ ts.length + 8) : badC S dr ts ((c_blanks (ck S dr k B b)).bind fun r9 => ((c_take r9 58).bind fun r11 => ((c_blanks r11).bind fun r13 => some r13))) := by
  have hl := H.2.1
  have m1 := skp_mx ts k
  rw [cblanks H (by omega), o_bind]
  obtain ⟨k', B', b', e1, e2, e3⟩ := bad_take (s := 58) (B := B) H hb (show skp ts k ≤ ts.length + 8 by omega) (by decide)
  have m2 := skp_mx ts k'
  rw [e1, o_bind, cblanks H (by omega), o_bind]
  exact ⟨_, _, _, rfl, e2, by omega⟩
theorem cname_v {S : SS} {dr k : Nat} {B0 ts : List Int32} {L : List Mb} (H : CK S dr ts) (h0 : asc B0) (hL : okL L) (hk : k ≤ ts.length) (hB : (B0 ++ 123 :: pj L).length ≤ k) : (atP' ts k ≠ 34 → badC S dr ts (c_name (ck S dr k (B0 ++ 123 :: pj L) (-1)) (Int32.ofNat B0.length))) ∧ (atP' ts k = 34 → (pStr ts 5000 (k + 1) = none → badC S dr ts (c_name (ck S dr k (B0 ++ 123 :: pj L) (-1)) (Int32.ofNat B0.length))) ∧ ∀ s e, pStr ts 5000 (k + 1) = some (s, e) → (s ∈ L.map (fun m => m.1) ∨ atP' ts (skp ts e) ≠ 58 → badC S dr ts (c_name (ck S dr k (B0 ++ 123 :: pj L) (-1)) (Int32.ofNat B0.length))) ∧ (¬ s ∈ L.map (fun m => m.1) → atP' ts (skp ts e) = 58 → c_name (ck S dr k (B0 ++ 123 :: pj L) (-1)) (Int32.ofNat B0.length) = some (ck S dr (skp ts (skp ts e + 1)) (B0 ++ 123 :: pj L ++ (pstr s ++ [58])) (-1)))) := by
  have hl := H.2.1
  have eT : tT (ck S dr k (B0 ++ 123 :: pj L) (-1)) ((rd (ck S dr k (B0 ++ 123 :: pj L) (-1)) 68 1).toNatClampNeg) = B0 ++ 123 :: pj L := by rw [(ck_rd H).1, ck_T, List.take_of_length_le (by omega)]
  refine ⟨fun h => ?_, fun h => ⟨fun h1 => ?_, fun s e h1 => ?_⟩⟩
  · have h' : ¬ tat ts (Int32.ofNat k) = 34 := h
    unfold c_name
    rw [ck_t H, (ck_rd H).2.1, if_neg h', cbreak H, o_bind, if_pos rfl]
    exact ⟨_, _, _, rfl, i_ne1 (by omega), by omega⟩
  · have h' : tat ts (Int32.ofNat k) = 34 := h
    obtain ⟨k', B', b', e1, e2, e3⟩ := (cstring_v (B := B0 ++ 123 :: pj L) H h (by omega)).2 h1
    unfold c_name
    rw [ck_t H, (ck_rd H).2.1, if_pos h', e1, o_bind, cfine_n H e2, o_bind, if_pos rfl]
    exact bad_tail H e2 e3
  · have h' : tat ts (Int32.ofNat k) = 34 := h
    have e1 := (cstring_v (B := B0 ++ 123 :: pj L) H h (by omega)).1 s e h1
    obtain ⟨c1, c2, c3⟩ := pStr_ok hl 5000 (k + 1) s e (by omega) h1
    obtain ⟨u1, u2⟩ := skp_le ts e
    have u2 := u2 c3
    have hlen : (B0 ++ 123 :: pj L ++ pstr s).length ≤ 4096 := by
      rw [List.length_append]
      unfold pstr
      simp only [List.length_cons, List.length_append, List.length_nil]
      simp only [List.length_cons, List.length_append] at hB
      omega
    have u : c_name (ck S dr k (B0 ++ 123 :: pj L) (-1)) (Int32.ofNat B0.length) = if s ∈ L.map (fun m => m.1) then ((c_blanks (ck S dr e (B0 ++ 123 :: pj L ++ pstr s) (Int32.ofNat k))).bind fun r9 => ((c_take r9 58).bind fun r11 => ((c_blanks r11).bind fun r13 => some r13))) else ((c_blanks (ck S dr e (B0 ++ 123 :: pj L ++ pstr s) (-1))).bind fun r9 => ((c_take r9 58).bind fun r11 => ((c_blanks r11).bind fun r13 => some r13))) := by
      unfold c_name
      rw [ck_t H, (ck_rd H).2.1, if_pos h', e1, o_bind, cfine_y H, o_bind, if_neg (show ¬ (1 : Int32) = 0 by decide), eT, cwas_v H h0 hL c1 hlen, o_bind, cbreak H, o_bind, if_pos rfl]
      by_cases c : s ∈ L.map (fun m => m.1)
      · rw [if_pos c, if_pos c, if_neg (show ¬ (1 : Int32) = 0 by decide)]
      · rw [if_neg c, if_neg c, if_pos rfl]
    rw [u]
    refine ⟨fun c => ?_, fun c d => ?_⟩
    · by_cases c' : s ∈ L.map (fun m => m.1)
      · rw [if_pos c']
        exact bad_tail H (i_ne1 (by omega)) (by omega)
      · rw [if_neg c', cblanks H (by omega), o_bind]
        obtain ⟨k', B', b', e1, e2, e3⟩ := bad_no (B := B0 ++ 123 :: pj L ++ pstr s) H (show skp ts e ≤ ts.length + 8 by omega) (c.resolve_left c')
        have m2 := skp_mx ts k'
        rw [e1, o_bind, cblanks H (by omega), o_bind]
        exact ⟨_, _, _, rfl, e2, by omega⟩
    · obtain ⟨l58, -, -⟩ := at_lt hl (by omega) d (by decide)
      rw [if_neg c, cblanks H (by omega), o_bind, ctake_y H d, o_bind, cblanks H (by omega), o_bind, List.append_assoc]
      rfl
end CRead183
end

section
/-! The class reads: arrays, objects, values, the whole text. -/
section CRead184
/-- what a reader of values does -/
def RC (S : SS) (dr : Nat) (ts : List Int32) (rec : SS → Int32 → Option SS) (d : Int32) (pr : Nat → Option (Vl × Nat)) : Prop := ∀ k B, k ≤ ts.length → asc B → B.length ≤ k → (∀ t e, pr k = some (t, e) → rec (ck S dr k B (-1)) d = some (ck S dr e (B ++ bV t) (-1))) ∧ (pr k = none → badC S dr ts (rec (ck S dr k B (-1)) d))
theorem cit_end {rec : SS → Int32 → Option SS} {n : Nat} {T : SS} {l1 l2 l3 l4 l6 : Int32} : c_items_l73 rec (n + 1) T l1 l2 l3 l4 0 l6 = ((c_take T l4).bind fun r => some r) := by
  unfold c_items_l73
  by_cases h : 4096 ≤ l6
  · rw [if_pos h]
  · rw [if_neg h, if_pos rfl]
/-- a value, and what is behind it -/
def cit (rec : SS → Int32 → Option SS) (n : Nat) (T : SS) (l1 l2 l3 l4 l6 : Int32) : Option SS := ((rec T (l2 + 1)).bind fun r40 => ((c_blanks r40).bind fun r42 => ((c_fine r42).bind fun r44 => (if r44 = 0 then c_items_l73 rec n r42 l1 l2 l3 l4 0 (l6 + 1) else (if (tat (tT r42 42) (rd r42 68 2)) = (44 : Int32) then ((c_take r42 44).bind fun r49 => ((c_blanks r49).bind fun r51 => c_items_l73 rec n r51 l1 l2 l3 l4 1 (l6 + 1))) else c_items_l73 rec n r42 l1 l2 l3 l4 0 (l6 + 1))))))
theorem g4096 {j : Nat} (h : j < 4096) : ¬ (4096 : Int32) ≤ Int32.ofNat j := by
  rw [show (4096 : Int32) = Int32.ofNat 4096 from rfl, i_le' (by omega) (by omega)]
  omega
theorem cit_a {S : SS} {dr k j : Nat} {B ts : List Int32} {rec : SS → Int32 → Option SS} {n : Nat} {l2 l3 l4 : Int32} (H : CK S dr ts) (hj : j < 4096) : c_items_l73 rec (n + 1) (ck S dr k B (-1)) 91 l2 l3 l4 1 (Int32.ofNat j) = cit rec n (ck S dr k B (-1)) 91 l2 l3 l4 (Int32.ofNat j) := by
  rw [c_items_l73, if_neg (g4096 hj), if_neg (show ¬ (1 : Int32) = 0 by decide), if_neg (show ¬ (91 : Int32) = 123 by decide), cfine_y H, o_bind, if_neg (show ¬ (1 : Int32) = 0 by decide)]
  rfl
theorem cit_o {S : SS} {dr k j k' : Nat} {B B' ts : List Int32} {rec : SS → Int32 → Option SS} {n : Nat} {l2 l3 l4 : Int32} (H : CK S dr ts) (hj : j < 4096) (hN : c_name (ck S dr k B (-1)) l3 = some (ck S dr k' B' (-1))) : c_items_l73 rec (n + 1) (ck S dr k B (-1)) 123 l2 l3 l4 1 (Int32.ofNat j) = cit rec n (ck S dr k' B' (-1)) 123 l2 l3 l4 (Int32.ofNat j) := by
  rw [c_items_l73, if_neg (g4096 hj), if_neg (show ¬ (1 : Int32) = 0 by decide), if_pos rfl, hN, o_bind, cfine_y H, o_bind, if_neg (show ¬ (1 : Int32) = 0 by decide)]
  rfl
theorem cit_ob {S : SS} {dr k j : Nat} {B ts : List Int32} {rec : SS → Int32 → Option SS} {n : Nat} {l2 l3 l4 : Int32} (H : CK S dr ts) (hj : j < 4096) (h4 : l4 ≠ -1) (hN : badC S dr ts (c_name (ck S dr k B (-1)) l3)) : badC S dr ts (c_items_l73 rec (n + 2) (ck S dr k B (-1)) 123 l2 l3 l4 1 (Int32.ofNat j)) := by
  obtain ⟨k', B', b', e1, e2, e3⟩ := hN
  obtain ⟨k2, B2, b2, f1, f2, f3⟩ := bad_take (B := B') H e2 e3 h4
  rw [show n + 2 = n + 1 + 1 from rfl, c_items_l73, if_neg (g4096 hj), if_neg (show ¬ (1 : Int32) = 0 by decide), if_pos rfl, e1, o_bind, cfine_n H e2, o_bind, if_pos rfl, cit_end, f1, o_bind]
  exact ⟨_, _, _, rfl, f2, f3⟩
theorem cit_y {S : SS} {dr k e : Nat} {B B' ts : List Int32} {rec : SS → Int32 → Option SS} {n : Nat} {l1 l2 l3 l4 l6 : Int32} (H : CK S dr ts) (he : e ≤ ts.length) (hr : rec (ck S dr k B (-1)) (l2 + 1) = some (ck S dr e B' (-1))) : cit rec n (ck S dr k B (-1)) l1 l2 l3 l4 l6 = if atP' ts (skp ts e) = 44 then c_items_l73 rec n (ck S dr (skp ts (skp ts e + 1)) (B' ++ [44]) (-1)) l1 l2 l3 l4 1 (l6 + 1) else c_items_l73 rec n (ck S dr (skp ts e) B' (-1)) l1 l2 l3 l4 0 (l6 + 1) := by
  have hl := H.2.1
  have m1 := (skp_le ts e).2 he
  unfold cit
  rw [hr, o_bind, cblanks H (by omega), o_bind, cfine_y H, o_bind, if_neg (show ¬ (1 : Int32) = 0 by decide), ck_t H, (ck_rd H).2.1]
  by_cases c : atP' ts (skp ts e) = 44
  · have c' : tat ts (Int32.ofNat (skp ts e)) = 44 := c
    rw [if_pos c, if_pos c', ctake_y H c, o_bind, cblanks H (by omega), o_bind]
    rfl
  · have c' : ¬ tat ts (Int32.ofNat (skp ts e)) = 44 := c
    rw [if_neg c, if_neg c']
theorem cit_n {S : SS} {dr k : Nat} {B ts : List Int32} {rec : SS → Int32 → Option SS} {n : Nat} {l1 l2 l3 l4 l6 : Int32} (H : CK S dr ts) (h4 : l4 ≠ -1) (hr : badC S dr ts (rec (ck S dr k B (-1)) (l2 + 1))) : badC S dr ts (cit rec (n + 1) (ck S dr k B (-1)) l1 l2 l3 l4 l6) := by
  have hl := H.2.1
  obtain ⟨k', B', b', e1, e2, e3⟩ := hr
  have m1 := skp_mx ts k'
  obtain ⟨k2, B2, b2, f1, f2, f3⟩ := bad_take (B := B') H e2 (show skp ts k' ≤ ts.length + 8 by omega) h4
  unfold cit
  rw [e1, o_bind, cblanks H (by omega), o_bind, cfine_n H e2, o_bind, if_pos rfl, cit_end, f1, o_bind]
  exact ⟨_, _, _, rfl, f2, f3⟩
/-- the closing sign -/
theorem cit_close {S : SS} {dr k : Nat} {B ts : List Int32} {rec : SS → Int32 → Option SS} {n : Nat} {l1 l2 l3 z l6 : Int32} (H : CK S dr ts) (hk : k ≤ ts.length) (hz : z &&& 255 = z) : (atP' ts k = z → c_items_l73 rec (n + 1) (ck S dr k B (-1)) l1 l2 l3 z 0 l6 = some (ck S dr (k + 1) (B ++ [z]) (-1))) ∧ (atP' ts k ≠ z → badC S dr ts (c_items_l73 rec (n + 1) (ck S dr k B (-1)) l1 l2 l3 z 0 l6)) := by
  rw [cit_end]
  refine ⟨fun h => ?_, fun h => ?_⟩
  · rw [ctake_y H h, o_bind, hz]
  · obtain ⟨k', B', b', e1, e2, e3⟩ := bad_no (B := B) H (show k ≤ ts.length + 8 by omega) h
    rw [e1, o_bind]
    exact ⟨_, _, _, rfl, e2, e3⟩
theorem carr_l {S : SS} {dr nv d : Nat} {ts : List Int32} {rec : SS → Int32 → Option SS} {l3 : Int32} (H : CK S dr ts) (hrec : RC S dr ts rec (Int32.ofNat d + 1) (pVal ts nv)) : ∀ (m k : Nat) (B : List Int32) (j n : Nat), m + j = 5000 → j < k → k ≤ ts.length → asc B → B.length ≤ k → n + j = 10000 → (∀ l e, pEl ts (pVal ts nv) m k = some (l, e) → c_items_l73 rec n (ck S dr k B (-1)) 91 (Int32.ofNat d) l3 93 1 (Int32.ofNat j) = some (ck S dr e (B ++ (jn (l.map (bM false)) ++ [93])) (-1))) ∧ (pEl ts (pVal ts nv) m k = none → badC S dr ts (c_items_l73 rec n (ck S dr k B (-1)) 91 (Int32.ofNat d) l3 93 1 (Int32.ofNat j))) := by
  have hl := H.2.1
  intro m
  induction m with
  | zero => intro k B j n h1 h2 h3 _ _ _; omega
  | succ m ih =>
    intro k B j n h1 h2 h3 hA hB h4
    obtain ⟨n, rfl⟩ : ∃ n', n = n' + 2 := ⟨n - 2, by omega⟩
    rw [pEl, cit_a H (by omega)]
    obtain ⟨r1, r2⟩ := hrec k B h3 hA hB
    cases hv : pVal ts nv k with
    | none =>
      refine ⟨fun l e h => (by cases h), fun _ => cit_n H (by decide) (r2 hv)⟩
    | some x =>
      obtain ⟨t, e1⟩ := x
      obtain ⟨a1, a2, a3⟩ := pVal_ok hl nv k t e1 h3 hv
      rw [cit_y H a3 (r1 t e1 hv), o_bind]
      obtain ⟨s1, s2⟩ := skp_le ts e1
      have s2 := s2 a3
      have hA' : asc (B ++ bV t) := hA.app (bV_pass t a1).2
      simp only
      by_cases c : atP' ts (skp ts e1) = 44
      · rw [if_pos c, if_pos c, i_a1]
        obtain ⟨l1, -, -⟩ := at_lt hl (by omega) c (by decide)
        obtain ⟨s3, s4⟩ := skp_le ts (skp ts e1 + 1)
        have s4 := s4 (by omega)
        obtain ⟨i1, i2⟩ := ih (skp ts (skp ts e1 + 1)) (B ++ bV t ++ [44]) (j + 1) (n + 1) (by omega) (by omega) s4 (hA'.app (asc.cons (by decide) asc.nil)) (by simp only [List.length_append, List.length_cons, List.length_nil]; omega) (by omega)
        refine ⟨fun l e h => ?_, fun h => i2 ?_⟩
        · obtain ⟨⟨l', e'⟩, q1, q2⟩ := map_some h
          cases q2
          obtain ⟨b1, -⟩ := pEl_ok hl (pVal_ok hl nv) _ _ l' e' s4 q1
          rw [i1 l' e' q1, jn_more false _ b1]
          simp only [List.append_assoc, List.cons_append, List.nil_append]
          rfl
        · cases hp : pEl ts (pVal ts nv) m (skp ts (skp ts e1 + 1)) with
          | none => rfl
          | some x => rw [hp] at h; cases h
      · rw [if_neg c, if_neg c]
        obtain ⟨q1, q2⟩ := cit_close (rec := rec) (n := n) (B := B ++ bV t) (l1 := 91) (l2 := Int32.ofNat d) (l3 := l3) (l6 := Int32.ofNat j + 1) (z := 93) H s2 (by decide)
        by_cases c2 : atP' ts (skp ts e1) = 93
        · rw [if_pos c2, q1 c2]
          refine ⟨fun l e h => ?_, fun h => by cases h⟩
          cases h
          rw [jn_one]
          simp only [List.append_assoc]
          rfl
        · rw [if_neg c2]
          exact ⟨fun l e h => (by cases h), fun _ => q2 c2⟩
theorem cobj_l {S : SS} {dr nv d : Nat} {ts B0 : List Int32} {rec : SS → Int32 → Option SS} (H : CK S dr ts) (hrec : RC S dr ts rec (Int32.ofNat d + 1) (pVal ts nv)) (h0 : asc B0) : ∀ (m k : Nat) (L : List Mb) (j n : Nat), m + j = 5000 → j < k → k ≤ ts.length → okL L → (B0 ++ 123 :: pj L).length ≤ k → n + j = 10000 → (∀ l e, pMe ts (pVal ts nv) m (L.map fun m => m.1) k = some (l, e) → c_items_l73 rec n (ck S dr k (B0 ++ 123 :: pj L) (-1)) 123 (Int32.ofNat d) (Int32.ofNat B0.length) 125 1 (Int32.ofNat j) = some (ck S dr e (B0 ++ 123 :: (pj L ++ (jn (l.map (bM true)) ++ [125]))) (-1))) ∧ (pMe ts (pVal ts nv) m (L.map fun m => m.1) k = none → badC S dr ts (c_items_l73 rec n (ck S dr k (B0 ++ 123 :: pj L) (-1)) 123 (Int32.ofNat d) (Int32.ofNat B0.length) 125 1 (Int32.ofNat j))) := by
  have hl := H.2.1
  intro m
  induction m with
  | zero => intro k L j n h1 h2 h3 _ _ _; omega
  | succ m ih =>
    intro k L j n h1 h2 h3 hL hB h4
    obtain ⟨n, rfl⟩ : ∃ n', n = n' + 2 := ⟨n - 2, by omega⟩
    rw [pMe]
    obtain ⟨n1, n2⟩ := cname_v (S := S) (dr := dr) H h0 hL h3 hB
    by_cases h34 : atP' ts k = 34
    rotate_left
    · rw [if_neg h34]
      exact ⟨fun l e h => (by cases h), fun _ => cit_ob H (by omega) (by decide) (n1 h34)⟩
    rw [if_pos h34]
    obtain ⟨n3, n4⟩ := n2 h34
    obtain ⟨l34, -, -⟩ := at_lt hl (by omega) h34 (by decide)
    cases hs : pStr ts 5000 (k + 1) with
    | none => exact ⟨fun l e h => (by cases h), fun _ => cit_ob H (by omega) (by decide) (n3 hs)⟩
    | some sx =>
      obtain ⟨s, e0⟩ := sx
      obtain ⟨n5, n6⟩ := n4 s e0 hs
      obtain ⟨c1, c2, c3⟩ := pStr_ok hl 5000 (k + 1) s e0 (by omega) hs
      rw [o_bind]
      simp only
      by_cases hn : s ∈ L.map fun m => m.1
      · rw [if_pos hn]
        exact ⟨fun l e h => (by cases h), fun _ => cit_ob H (by omega) (by decide) (n5 (Or.inl hn))⟩
      rw [if_neg hn]
      obtain ⟨u1, u2⟩ := skp_le ts e0
      have u2 := u2 c3
      by_cases h58 : atP' ts (skp ts e0) = 58
      rotate_left
      · rw [if_neg h58]
        exact ⟨fun l e h => (by cases h), fun _ => cit_ob H (by omega) (by decide) (n5 (Or.inr h58))⟩
      rw [if_pos h58]
      obtain ⟨l58, -, -⟩ := at_lt hl (by omega) h58 (by decide)
      obtain ⟨u3, u4⟩ := skp_le ts (skp ts e0 + 1)
      have u4 := u4 (by omega)
      rw [cit_o H (by omega) (n6 hn h58)]
      have hA1 : asc (B0 ++ 123 :: pj L ++ (pstr s ++ [58])) := (h0.app (asc.cons (by decide) (asc_pj hL))).app ((pstr_pass c1).2.app (asc.cons (by decide) asc.nil))
      have hB1 : (B0 ++ 123 :: pj L ++ (pstr s ++ [58])).length ≤ skp ts (skp ts e0 + 1) := by
        unfold pstr
        simp only [List.length_cons, List.length_append, List.length_nil] at hB ⊢
        omega
      obtain ⟨r1, r2⟩ := hrec _ _ u4 hA1 hB1
      cases hv : pVal ts nv (skp ts (skp ts e0 + 1)) with
      | none => exact ⟨fun l e h => (by cases h), fun _ => cit_n H (by decide) (r2 hv)⟩
      | some x =>
        obtain ⟨t, e1⟩ := x
        obtain ⟨a1, a2, a3⟩ := pVal_ok hl nv _ t e1 u4 hv
        rw [cit_y H a3 (r1 t e1 hv), o_bind]
        obtain ⟨s1, s2⟩ := skp_le ts e1
        have s2 := s2 a3
        have eM : B0 ++ 123 :: pj L ++ (pstr s ++ [58]) ++ bV t = B0 ++ 123 :: (pj L ++ bM true (s, t)) := by
          unfold bM
          simp only [if_true, List.append_assoc, List.cons_append]
        have lM := bM_len s t
        simp only
        rw [eM]
        by_cases c : atP' ts (skp ts e1) = 44
        · rw [if_pos c, if_pos c, i_a1]
          obtain ⟨l1, -, -⟩ := at_lt hl (by omega) c (by decide)
          obtain ⟨s3, s4⟩ := skp_le ts (skp ts e1 + 1)
          have s4 := s4 (by omega)
          have eP : B0 ++ 123 :: (pj L ++ bM true (s, t)) ++ [44] = B0 ++ 123 :: pj (L ++ [(s, t)]) := by
            rw [pj_app]
            simp only [List.append_assoc, List.cons_append]
          have eN : (L.map fun m => m.1) ++ [s] = (L ++ [(s, t)]).map fun m => m.1 := by
            rw [List.map_append]
            rfl
          rw [eP, eN]
          obtain ⟨i1, i2⟩ := ih (skp ts (skp ts e1 + 1)) (L ++ [(s, t)]) (j + 1) (n + 1) (by omega) (by omega) s4 (fun x hx => by
            rcases List.mem_append.mp hx with y | y
            · exact hL x y
            · rw [List.mem_singleton.mp y]; exact ⟨c1, a1⟩) (by
            rw [← eP]
            simp only [List.length_append, List.length_cons, List.length_nil, lM] at hB ⊢
            omega) (by omega)
          refine ⟨fun l e h => ?_, fun h => i2 ?_⟩
          · obtain ⟨⟨l', e'⟩, q1, q2⟩ := map_some h
            cases q2
            obtain ⟨b1, -⟩ := pMe_ok hl (pVal_ok hl nv) _ _ _ l' e' s4 q1
            rw [i1 l' e' q1, jn_more true _ b1, pj_app]
            simp only [List.append_assoc, List.cons_append, List.nil_append]
          · cases hp : pMe ts (pVal ts nv) m ((L ++ [(s, t)]).map fun m => m.1) (skp ts (skp ts e1 + 1)) with
            | none => rfl
            | some x => rw [hp] at h; cases h
        · rw [if_neg c, if_neg c]
          obtain ⟨q1, q2⟩ := cit_close (rec := rec) (n := n) (B := B0 ++ 123 :: (pj L ++ bM true (s, t))) (l1 := 123) (l2 := Int32.ofNat d) (l3 := Int32.ofNat B0.length) (l6 := Int32.ofNat j + 1) (z := 125) H s2 (by decide)
          by_cases c2 : atP' ts (skp ts e1) = 125
          · rw [if_pos c2, q1 c2]
            refine ⟨fun l e h => ?_, fun h => by cases h⟩
            cases h
            rw [jn_one]
            simp only [List.append_assoc, List.cons_append]
          · rw [if_neg c2]
            exact ⟨fun l e h => (by cases h), fun _ => q2 c2⟩
theorem bind_id {α : Type} (o : Option α) : (o.bind fun r => some r) = o := by cases o <;> rfl
theorem citems_5 {S : SS} {dr nv d k : Nat} {B ts : List Int32} {rec : SS → Int32 → Option SS} (H : CK S dr ts) (hd : nv + d = 40) (hrec : nv ≠ 0 → RC S dr ts rec (Int32.ofNat d + 1) (pVal ts nv)) (h : atP' ts k = 91) (hA : asc B) (hB : B.length ≤ k) (hk : k ≤ ts.length) : (∀ t e, pVal ts (nv + 1) k = some (t, e) → c_items (ck S dr k B (-1)) rec 91 (Int32.ofNat d) = some (ck S dr e (B ++ bV t) (-1))) ∧ (pVal ts (nv + 1) k = none → badC S dr ts (c_items (ck S dr k B (-1)) rec 91 (Int32.ofNat d))) := by
  have hl := H.2.1
  obtain ⟨lk, -, -⟩ := at_lt hl (by omega) h (by decide)
  rw [pVal, if_pos h]
  unfold c_items
  have g40 : Int32.ofNat d < 40 ↔ d < 40 := by rw [show (40 : Int32) = Int32.ofNat 40 from rfl, i_lt' (by omega) (by omega)]
  by_cases hn : nv = 0
  · rw [if_pos hn, if_neg (by rw [g40]; omega), (ck_rd H).2.1, cbreak H, o_bind, if_pos rfl]
    exact ⟨fun t e h => (by cases h), fun _ => ⟨_, _, _, rfl, i_ne1 (by omega), by omega⟩⟩
  obtain ⟨s1, s2⟩ := skp_le ts (k + 1)
  have s2 := s2 (by omega)
  rw [if_neg hn, if_pos (g40.mpr (by omega)), if_pos rfl, ctake_y H h, o_bind, cblanks H (by omega), o_bind, ck_t H, (ck_rd H).2.1]
  rw [show (91 : Int32) &&& 255 = 91 from by decide]
  by_cases c : atP' ts (skp ts (k + 1)) = 93
  · have c' : tat ts (Int32.ofNat (skp ts (k + 1))) = 93 := c
    rw [if_pos c, if_pos c']
    obtain ⟨q1, q2⟩ := cit_close (rec := rec) (n := 9999) (B := B ++ [91]) (l1 := 91) (l2 := Int32.ofNat d) (l3 := Int32.ofNat (tT (ck S dr k B (-1)) ((rd (ck S dr k B (-1)) 68 1).toNatClampNeg)).length) (l6 := 0) (z := 93) H s2 (by decide)
    rw [q1 c]
    refine ⟨fun t e h => ?_, fun h => by cases h⟩
    cases h
    rw [bV_5, List.append_assoc]
    rfl
  · have c' : ¬ tat ts (Int32.ofNat (skp ts (k + 1))) = 93 := c
    rw [if_neg c, if_neg c']
    obtain ⟨i1, i2⟩ := carr_l (l3 := Int32.ofNat (tT (ck S dr k B (-1)) ((rd (ck S dr k B (-1)) 68 1).toNatClampNeg)).length) H (hrec hn) 5000 (skp ts (k + 1)) (B ++ [91]) 0 10000 rfl (by omega) s2 (hA.app (asc.cons (by decide) asc.nil)) (by simp only [List.length_append, List.length_cons, List.length_nil]; omega) rfl
    refine ⟨fun t e h => ?_, fun h => i2 ?_⟩
    · obtain ⟨⟨l, e'⟩, q1, q2⟩ := map_some h
      cases q2
      have := i1 l e' q1
      rw [bV_5]
      rw [List.append_assoc] at this
      exact this
    · cases hp : pEl ts (pVal ts nv) 5000 (skp ts (k + 1)) with
      | none => rfl
      | some x => rw [hp] at h; cases h
theorem citems_6 {S : SS} {dr nv d k : Nat} {B ts : List Int32} {rec : SS → Int32 → Option SS} (H : CK S dr ts) (hd : nv + d = 40) (hrec : nv ≠ 0 → RC S dr ts rec (Int32.ofNat d + 1) (pVal ts nv)) (h : atP' ts k = 123) (hA : asc B) (hB : B.length ≤ k) (hk : k ≤ ts.length) : (∀ t e, pVal ts (nv + 1) k = some (t, e) → c_items (ck S dr k B (-1)) rec 123 (Int32.ofNat d) = some (ck S dr e (B ++ bV t) (-1))) ∧ (pVal ts (nv + 1) k = none → badC S dr ts (c_items (ck S dr k B (-1)) rec 123 (Int32.ofNat d))) := by
  have hl := H.2.1
  obtain ⟨lk, -, -⟩ := at_lt hl (by omega) h (by decide)
  rw [pVal, if_neg (by rw [h]; decide), if_pos h]
  unfold c_items
  have eT : tT (ck S dr k B (-1)) ((rd (ck S dr k B (-1)) 68 1).toNatClampNeg) = B := by rw [(ck_rd H).1, ck_T, List.take_of_length_le (by omega)]
  have g40 : Int32.ofNat d < 40 ↔ d < 40 := by rw [show (40 : Int32) = Int32.ofNat 40 from rfl, i_lt' (by omega) (by omega)]
  by_cases hn : nv = 0
  · rw [if_pos hn, if_neg (by rw [g40]; omega), (ck_rd H).2.1, cbreak H, o_bind, if_pos rfl]
    exact ⟨fun t e h => (by cases h), fun _ => ⟨_, _, _, rfl, i_ne1 (by omega), by omega⟩⟩
  obtain ⟨s1, s2⟩ := skp_le ts (k + 1)
  have s2 := s2 (by omega)
  rw [if_neg hn, if_pos (g40.mpr (by omega)), if_neg (show ¬ (123 : Int32) = 91 by decide), eT, ctake_y H h, o_bind, cblanks H (by omega), o_bind, ck_t H, (ck_rd H).2.1]
  rw [show (123 : Int32) &&& 255 = 123 from by decide]
  by_cases c : atP' ts (skp ts (k + 1)) = 125
  · have c' : tat ts (Int32.ofNat (skp ts (k + 1))) = 125 := c
    rw [if_pos c, if_pos c']
    obtain ⟨q1, q2⟩ := cit_close (rec := rec) (n := 9999) (B := B ++ [123]) (l1 := 123) (l2 := Int32.ofNat d) (l3 := Int32.ofNat B.length) (l6 := 0) (z := 125) H s2 (by decide)
    rw [q1 c]
    refine ⟨fun t e h => ?_, fun h => by cases h⟩
    cases h
    rw [bV_6, List.append_assoc]
    rfl
  · have c' : ¬ tat ts (Int32.ofNat (skp ts (k + 1))) = 125 := c
    rw [if_neg c, if_neg c']
    obtain ⟨i1, i2⟩ := cobj_l (B0 := B) H (hrec hn) hA 5000 (skp ts (k + 1)) [] 0 10000 rfl (by omega) s2 (fun m hm => by cases hm) (by show (B ++ [123]).length ≤ _; simp only [List.length_append, List.length_cons, List.length_nil]; omega) rfl
    refine ⟨fun t e h => ?_, fun h => i2 ?_⟩
    · obtain ⟨⟨l, e'⟩, q1, q2⟩ := map_some h
      cases q2
      rw [bV_6]
      exact i1 l e' q1
    · cases hp : pMe ts (pVal ts nv) 5000 [] (skp ts (k + 1)) with
      | none => exact hp
      | some x => rw [hp] at h; cases h
theorem cval_B {S : SS} {dr nv d : Nat} {ts : List Int32} {rec : SS → Int32 → Option SS} (H : CK S dr ts) (hd : nv + d = 40) (hrec : nv ≠ 0 → RC S dr ts rec (Int32.ofNat d + 1) (pVal ts nv)) : RC S dr ts (fun T p => c_valueB T rec p) (Int32.ofNat d) (pVal ts (nv + 1)) := by
  have hl := H.2.1
  intro k B hk hA hB
  show (∀ t e, _ → c_valueB (ck S dr k B (-1)) rec (Int32.ofNat d) = _) ∧ (_ → badC S dr ts (c_valueB (ck S dr k B (-1)) rec (Int32.ofNat d)))
  have fold : ∀ x, tat ts (Int32.ofNat k) = x ↔ atP' ts k = x := fun x => Iff.rfl
  unfold c_valueB
  simp only [bind_id]
  rw [ck_t H, (ck_rd H).2.1]
  by_cases h91 : atP' ts k = 91
  · rw [if_pos ((fold _).mpr h91), (fold _).mpr h91]
    exact citems_5 H hd hrec h91 hA hB hk
  rw [if_neg (fun c => h91 ((fold _).mp c))]
  by_cases h123 : atP' ts k = 123
  · rw [if_pos ((fold _).mpr h123), (fold _).mpr h123]
    exact citems_6 H hd hrec h123 hA hB hk
  rw [if_neg (fun c => h123 ((fold _).mp c))]
  rw [pVal, if_neg h91, if_neg h123]
  by_cases h34 : atP' ts k = 34
  · rw [if_pos ((fold _).mpr h34), if_pos h34]
    obtain ⟨q1, q2⟩ := cstring_v (B := B) H h34 (by omega)
    refine ⟨fun t e h => ?_, fun h => q2 ?_⟩
    · obtain ⟨⟨s, e'⟩, x1, x2⟩ := map_some h
      cases x2
      exact q1 s e' x1
    · cases hp : pStr ts 5000 (k + 1) with
      | none => rfl
      | some x => rw [hp] at h; cases h
  rw [if_neg (fun c => h34 ((fold _).mp c)), if_neg h34]
  have lit : ∀ (bs : List Int32) (t0 : Vl), bs.length ≤ 100 → (∀ u ∈ bs, u ≠ -1) → byt bs → bV t0 = bs → (∀ t e, ((pLit ts bs k).map fun e => (t0, e)) = some (t, e) → c_literal (ck S dr k B (-1)) bs = some (ck S dr e (B ++ bV t) (-1))) ∧ (((pLit ts bs k).map fun e => (t0, e)) = none → badC S dr ts (c_literal (ck S dr k B (-1)) bs)) := by
    intro bs t0 y1 y2 y3 y4
    obtain ⟨q1, q2⟩ := clit_v (B := B) H hk y1 y2 y3
    refine ⟨fun t e h => ?_, fun h => q2 ?_⟩
    · obtain ⟨e', x1, x2⟩ := map_some h
      cases x2
      rw [y4]
      exact q1 e x1
    · cases hp : pLit ts bs k with
      | none => rfl
      | some x => rw [hp] at h; cases h
  by_cases h110 : atP' ts k = 110
  · rw [if_pos ((fold _).mpr h110), if_pos h110]
    exact lit k3 vNull (by decide) (by decide) (by unfold byt; decide) rfl
  rw [if_neg (fun c => h110 ((fold _).mp c)), if_neg h110]
  by_cases h102 : atP' ts k = 102
  · rw [if_pos ((fold _).mpr h102), if_pos h102]
    exact lit k5 (1, 0, [], .leaf) (by decide) (by decide) (by unfold byt; decide) rfl
  rw [if_neg (fun c => h102 ((fold _).mp c)), if_neg h102]
  by_cases h116 : atP' ts k = 116
  · rw [if_pos ((fold _).mpr h116), if_pos h116]
    exact lit k7 (2, 0, [], .leaf) (by decide) (by decide) (by unfold byt; decide) rfl
  rw [if_neg (fun c => h116 ((fold _).mp c)), if_neg h116]
  obtain ⟨q1, q2⟩ := cnum_v (B := B) H hk
  refine ⟨fun t e h => ?_, fun h => q2 ?_⟩
  · obtain ⟨⟨s, e'⟩, x1, x2⟩ := map_some h
    cases x2
    exact q1 s e' x1
  · cases hp : pNum ts k with
    | none => rfl
    | some x => rw [hp] at h; cases h
theorem cval_v {S : SS} {dr : Nat} {ts : List Int32} (H : CK S dr ts) : ∀ (nv d m : Nat), nv + d = 40 → nv ≤ m → RC S dr ts (c_value (m + 1)) (Int32.ofNat d) (pVal ts (nv + 1)) := by
  intro nv
  induction nv with
  | zero =>
    intro d m hd _
    exact cval_B (rec := c_value m) H hd (fun c => absurd rfl c)
  | succ nv ih =>
    intro d m hd hm
    obtain ⟨m, rfl⟩ : ∃ m', m = m' + 1 := ⟨m - 1, by omega⟩
    refine cval_B (rec := c_value (m + 1)) H hd (fun _ => ?_)
    rw [i_a1]
    exact ih (d + 1) m (by omega) (by omega)
/-- what is read from a whole text -/
def pAll (ts : List Int32) : Option Vl := (pVal ts 41 (skp ts 0)).bind fun x => if ts.length ≤ skp ts x.2 then some x.1 else none
theorem ck_start {S : SS} {dr : Nat} (h68 : (S 68).length = 4) (h : dr ≠ 68) (hd : dr < 1000) : wr (wr (up (wr S 68 1 (Int32.ofNat dr)) ((rd (wr S 68 1 (Int32.ofNat dr)) 68 1).toNatClampNeg) [0]) 68 2 0) 68 3 (-1) = ck S dr 0 [] (-1) := by
  have e1 : (rd (wr S 68 1 (Int32.ofNat dr)) 68 1).toNatClampNeg = dr := by rw [rd_wr (by rw [h68]; decide), i_ad hd]
  obtain ⟨a, b, c, d, e⟩ : ∃ a b c d, S 68 = [a, b, c, d] := by
    match hS : S 68, h68 with
    | [a, b, c, d], _ => exact ⟨a, b, c, d, rfl⟩
  rw [e1]
  funext x
  unfold ck wr
  by_cases x1 : x = 68
  · rw [x1, up_same, up_same, up_ne (fun c => h c.symm), up_same, up_ne (fun c => h c.symm), up_same, e]
    unfold rd
    rw [e]
    rfl
  · by_cases x2 : x = dr
    · rw [x2, up_ne h, up_ne h, up_same, up_same]
      rfl
    · rw [up_ne x1, up_ne x1, up_ne x2, up_ne x1, up_ne x2, up_ne x1]
theorem cparse_v {S : SS} {dr : Nat} {ts : List Int32} (H : CK S dr ts) (h68 : (S 68).length = 4) : (∀ t, pAll ts = some t → wV t ∧ ∃ k, c_parse S dr = some (ck S dr k (bV t) (-1), -1)) ∧ (pAll ts = none → ∃ k B b, c_parse S dr = some (ck S dr k B b, b) ∧ b ≠ -1) := by
  have hl := H.2.1
  obtain ⟨s1, s2⟩ := skp_le ts 0
  have s2 := s2 (by omega)
  obtain ⟨r1, r2⟩ := cval_v H 40 0 99 rfl (by decide) (skp ts 0) [] s2 asc.nil (by simp)
  unfold c_parse pAll
  rw [ck_start h68 H.2.2.1 H.2.2.2.2, cblanks H (by omega), o_bind]
  cases hv : pVal ts 41 (skp ts 0) with
  | none =>
    refine ⟨fun t h => (by cases h), fun _ => ?_⟩
    obtain ⟨k, B, b, e1, e2, e3⟩ := r2 hv
    have e1 : c_value 100 (ck S dr (skp ts 0) [] (-1)) 0 = some (ck S dr k B b) := e1
    have m1 := skp_mx ts k
    rw [e1, o_bind, cblanks H (by omega), o_bind, ck_t H, (ck_rd H).2.1, (ck_rd H).2.2, cbreak H, o_bind, if_neg e2, (ck_rd H).2.2]
    refine ⟨skp ts k, B, b, ?_, e2⟩
    split <;> rfl
  | some x =>
    obtain ⟨t, e⟩ := x
    obtain ⟨a1, a2, a3⟩ := pVal_ok hl 41 _ t e s2 hv
    have e1 : c_value 100 (ck S dr (skp ts 0) [] (-1)) 0 = some (ck S dr e (bV t) (-1)) := r1 t e hv
    have m1 := (skp_le ts e).2 a3
    rw [e1, o_bind, o_bind, cblanks H (by omega), o_bind, ck_t H, (ck_rd H).2.1, (ck_rd H).2.2, cbreak H, o_bind, if_pos rfl, (ck_rd H).2.2]
    simp only
    by_cases c : ts.length ≤ skp ts e
    · rw [if_pos c, if_pos ((i_le' (by omega) (by omega)).mpr c)]
      refine ⟨fun t' h => ?_, fun h => by cases h⟩
      cases h
      exact ⟨a1, _, rfl⟩
    · rw [if_neg c, if_neg (by rw [i_le' (by omega) (by omega)]; exact c)]
      exact ⟨fun t h => (by cases h), fun _ => ⟨_, _, _, rfl, i_ne1 (by omega)⟩⟩
end CRead184
end

section
/-! The reference reads: signs, words, strings, numbers. -/
section ERead185
/-- the reference's Reader at place k, with C written -/
def frE (S T : SS) : Prop := ∀ a, a ≠ 96 → a ≠ 90 → a ≠ 91 → T a = S a
def EK (S : SS) (ts : List Int32) : Prop := (∃ j, S 79 = ts ++ j) ∧ (S 79).length = 4096 ∧ ts.length ≤ 4096 ∧ byt ts
def ek (S T : SS) (ts : List Int32) (k : Nat) (C : List Int32) : Prop := frE S T ∧ T 96 = [79, Int32.ofNat ts.length, Int32.ofNat k, -1, 90] ∧ OutV T C
def badE (S T : SS) : Prop := frE S T ∧ rd T 96 3 ≠ -1 ∧ (T 91).length = 9000
def gdE (S : SS) (ts : List Int32) (r : Option (SS × Int32)) (e : Nat) (C : List Int32) : Prop := ∃ T, r = some (T, 1) ∧ ek S T ts e C
def bdE (S : SS) (r : Option (SS × Int32)) : Prop := ∃ T, r = some (T, 0) ∧ badE S T
theorem OutV.same {S T : SS} {C : List Int32} (h : OutV S C) (h0 : T 90 = S 90) (h1 : T 91 = S 91) : OutV T C := by
  unfold OutV rd
  rw [h0, h1]
  exact h
theorem ek.rr {S T : SS} {ts : List Int32} {k : Nat} {C : List Int32} (h : ek S T ts k C) : rd T 96 0 = 79 ∧ rd T 96 1 = Int32.ofNat ts.length ∧ rd T 96 2 = Int32.ofNat k ∧ rd T 96 4 = 90 := by
  unfold rd
  rw [h.2.1]
  exact ⟨rfl, rfl, rfl, rfl⟩
theorem ek.w2 {S T : SS} {ts : List Int32} {k : Nat} {C : List Int32} (h : ek S T ts k C) (k' : Nat) : ek S (wr T 96 2 (Int32.ofNat k')) ts k' C := by
  refine ⟨fun a h1 h2 h3 => by rw [wr_ne h1]; exact h.1 a h1 h2 h3, ?_, h.2.2.same (wr_ne (by decide)) (wr_ne (by decide))⟩
  unfold wr
  rw [up_same, h.2.1]
  rfl
theorem ek.out {S T T' : SS} {ts : List Int32} {k : Nat} {C C' : List Int32} (h : ek S T ts k C) (ho : OutV T' C') (hf : frO T T') : ek S T' ts k C' :=
  ⟨fun a h1 h2 h3 => by rw [hf a h2 h3]; exact h.1 a h1 h2 h3, by rw [hf 96 (by decide) (by decide)]; exact h.2.1, ho⟩
theorem ek.bad {S T : SS} {ts : List Int32} {k : Nat} {C : List Int32} (h : ek S T ts k C) {p : Int32} (hp : p ≠ -1) : bdE S ((e_fail T p).bind fun r => some (r.1, r.2 &&& 1)) := by
  refine ⟨wr T 96 3 p, ?_, fun a h1 h2 h3 => by rw [wr_ne h1]; exact h.1 a h1 h2 h3, ?_, by rw [wr_ne (by decide)]; exact h.2.2.1⟩
  · unfold e_fail
    rw [o_bind]
    show some (wr T 96 3 p, (0 : Int32) &&& 1) = _
    rw [show (0 : Int32) &&& 1 = 0 from by decide]
  · rw [rd_wr (by rw [h.2.1]; show 3 < 5; decide)]
    exact hp
theorem eat {S T : SS} {ts : List Int32} {k k' : Nat} {C : List Int32} (E : EK S ts) (h : ek S T ts k C) (hk : k' < 100000) : e_at T (Int32.ofNat k') = some (atP' ts k') := by
  obtain ⟨⟨j, e1⟩, e2, e3, e4⟩ := E
  obtain ⟨r0, r1, r2, r4⟩ := h.rr
  unfold e_at atP'
  rw [r1, r0]
  by_cases c : ts.length ≤ k'
  · rw [if_pos ((i_le' (by omega) (by omega)).mpr c), tat_out e3 c (by omega)]
  · rw [if_neg (by rw [i_le' (by omega) (by omega)]; exact c), if_neg (show ¬ (79 : Int32) = 0 by decide), show (79 : Int32).toNatClampNeg = 79 from by decide, h.1 79 (by decide) (by decide) (by decide), iget_in (by omega) (by omega), o_bind, tat_in e3 (by omega)]
    congr 1
    have : (S 79)[k']? = ts[k']? := by rw [e1, List.getElem?_append_left (by omega)]
    rw [List.getElem?_eq_getElem (by omega), List.getElem?_eq_getElem (by omega)] at this
    exact Option.some.inj this
theorem blank_iff (b : Int32) : sg_blank b ≠ 0 ↔ b = 32 ∨ b = 9 ∨ b = 10 ∨ b = 13 := by
  unfold sg_blank
  by_cases h1 : b = 9
  · rw [if_pos h1]; exact ⟨fun _ => Or.inr (Or.inl h1), fun _ => by decide⟩
  rw [if_neg h1]
  by_cases h2 : b = 10
  · rw [if_pos h2]; exact ⟨fun _ => Or.inr (Or.inr (Or.inl h2)), fun _ => by decide⟩
  rw [if_neg h2]
  by_cases h3 : b = 13
  · rw [if_pos h3]; exact ⟨fun _ => Or.inr (Or.inr (Or.inr h3)), fun _ => by decide⟩
  rw [if_neg h3]
  by_cases h4 : b = 32
  · rw [if_pos h4]; exact ⟨fun _ => Or.inl h4, fun _ => by decide⟩
  rw [if_neg h4]
  exact ⟨fun c => absurd rfl c, fun c => by rcases c with c | c | c | c <;> contradiction⟩
theorem eblanks_l {S : SS} {ts : List Int32} {C : List Int32} (E : EK S ts) : ∀ (n k : Nat) (T : SS), ts.length < n + k → 0 < n → k ≤ 5000 → ek S T ts k C → ∃ T', e_blanks_l0 n T = some T' ∧ ek S T' ts (skp ts k) C := by
  have hl := E.2.2.1
  intro n
  induction n with
  | zero => intro k T _ h; omega
  | succ n ih =>
    intro k T h1 _ h5 hT
    unfold e_blanks_l0
    rw [hT.rr.2.2.1, eat E hT (by omega), o_bind, i_a1]
    by_cases c : sg_blank (atP' ts k) = 0
    · have n0 : ¬ (atP' ts k = 32 ∨ atP' ts k = 9 ∨ atP' ts k = 10 ∨ atP' ts k = 13) := fun x => (blank_iff _).mpr x c
      rw [if_neg (fun x => n0 (Or.inl x)), if_neg (fun x => n0 (Or.inr (Or.inl x))), if_neg (fun x => n0 (Or.inr (Or.inr (Or.inl x)))), if_neg (fun x => n0 (Or.inr (Or.inr (Or.inr x)))), skp_no hl (by omega) c]
      exact ⟨T, rfl, hT⟩
    · obtain ⟨s1, s2⟩ := skp_yes hl (by omega) c
      obtain ⟨T', q1, q2⟩ := ih (k + 1) _ (by omega) (by omega) (by omega) (hT.w2 (k + 1))
      rw [s1]
      refine ⟨T', ?_, q2⟩
      rw [q1]
      rcases (blank_iff _).mp c with x | x | x | x
      · rw [if_pos x]
      · rw [x]; rfl
      · rw [x]; rfl
      · rw [x]; rfl
theorem eblanks {S T : SS} {ts : List Int32} {k : Nat} {C : List Int32} (E : EK S ts) (h : ek S T ts k C) (hk : k ≤ 5000) : ∃ T', e_blanks T = some T' ∧ ek S T' ts (skp ts k) C := by
  have hl := E.2.2.1
  exact eblanks_l E 10000 k T (by omega) (by omega) hk h
theorem eword_l {S : SS} {ts bs : List Int32} {C : List Int32} {kd : Int32} (E : EK S ts) (hbs : bs.length ≤ 100) (h1 : ∀ u ∈ bs, u ≠ -1) : ∀ (n i k : Nat) (T : SS), bs.length < n + i → i ≤ bs.length → k ≤ ts.length → ek S T ts k C → ((ts.drop k).take (bs.drop i).length = bs.drop i → gdE S ts (e_word_l2 bs n T kd (Int32.ofNat i)) (k + (bs.drop i).length) (C ++ [kd, 2])) ∧ ((ts.drop k).take (bs.drop i).length ≠ bs.drop i → bdE S (e_word_l2 bs n T kd (Int32.ofNat i))) := by
  have hl := E.2.2.1
  intro n
  induction n with
  | zero => intro i k T h2 h3; omega
  | succ n ih =>
    intro i k T h2 h3 hk hT
    unfold e_word_l2
    by_cases e : i = bs.length
    · obtain ⟨T', q1, q2, q3⟩ := osimple hT.2.2 kd
      rw [if_pos ((i_le' (by omega) (by omega)).mpr (by omega)), List.drop_of_length_le (by omega), hT.rr.2.2.2, if_neg (show ¬ (90 : Int32) = 0 by decide), q1, o_bind]
      exact ⟨fun _ => ⟨T', rfl, hT.out q2 q3⟩, fun c => absurd rfl c⟩
    · have hi : i < bs.length := by omega
      have es : sch bs (Int32.ofNat i) = some bs[i] := by
        unfold sch
        rw [if_neg (i_nn (by omega)), i_cl (by omega), List.getElem?_eq_getElem hi]
      have n1 := h1 bs[i] (List.getElem_mem hi)
      rw [if_neg (by rw [i_le' (by omega) (by omega)]; omega), hT.rr.2.2.1, eat E hT (by omega), o_bind, es, o_bind, i_a1, i_a1, List.drop_eq_getElem_cons hi]
      by_cases c : atP' ts k = bs[i]
      · obtain ⟨lk, l2, l3⟩ := at_lt hl (by omega) c n1
        obtain ⟨i1, i2⟩ := ih (i + 1) (k + 1) _ (by omega) (by omega) (by omega) (hT.w2 (k + 1))
        rw [if_pos c, l3, List.length_cons, List.take_succ_cons]
        refine ⟨fun q => ?_, fun q => i2 fun r => q (by rw [r])⟩
        have q := (List.cons.inj q).2
        have := i1 q
        rw [show k + 1 + (bs.drop (i + 1)).length = k + ((bs.drop (i + 1)).length + 1) by omega] at this
        exact this
      · rw [if_neg c]
        refine ⟨fun q => ?_, fun _ => hT.bad (i_ne1 (by omega))⟩
        exfalso
        apply c
        rw [List.length_cons] at q
        by_cases d : k < ts.length
        · rw [List.drop_eq_getElem_cons d, List.take_succ_cons] at q
          unfold atP'
          rw [tat_in hl d]
          exact (List.cons.inj q).1
        · rw [show ts.drop k = [] from List.drop_of_length_le (by omega)] at q
          cases q
theorem eword_v {S T : SS} {ts bs : List Int32} {k : Nat} {C : List Int32} {kd : Int32} (E : EK S ts) (hT : ek S T ts k C) (hk : k ≤ ts.length) (hbs : bs.length ≤ 100) (h1 : ∀ u ∈ bs, u ≠ -1) : (∀ e, pLit ts bs k = some e → gdE S ts (e_word T bs kd) e (C ++ [kd, 2])) ∧ (pLit ts bs k = none → bdE S (e_word T bs kd)) := by
  obtain ⟨i1, i2⟩ := eword_l (C := C) (kd := kd) E hbs h1 10000 0 k T (by omega) (by omega) hk hT
  unfold pLit
  by_cases c : (ts.drop k).take bs.length = bs
  · rw [if_pos c]
    exact ⟨fun e h => by cases h; exact i1 c, fun h => by cases h⟩
  · rw [if_neg c]
    exact ⟨fun e h => (by cases h), fun _ => i2 c⟩
theorem ehex (S : SS) (p : Int32) : e_hex S p = some (sg_hexv p) := by
  unfold e_hex sg_hexv
  repeat' split
  all_goals rfl
theorem b256 {u : Int32} (h : u &&& 255 = u) : ∃ n, n < 256 ∧ u = Int32.ofNat n := by
  have h1 : (u &&& 255).toBitVec.toNat ≤ 255 := by
    rw [Int32.toBitVec_and, BitVec.toNat_and]
    exact Nat.and_le_right
  rw [h] at h1
  have e : u.toInt = (u.toBitVec.toNat : Int) := by
    show u.toBitVec.toInt = _
    rw [BitVec.toInt_eq_toNat_of_lt]
    omega
  exact ⟨u.toBitVec.toNat, by omega, i_ofnn e (by omega)⟩
theorem j_l7_S (S S0 : SS) (bs : List Int32) : ∀ (n : Nat) (l3 l4 l5 : Int32), j_idx_l7 S bs n l3 l4 l5 = j_idx_l7 S0 bs n l3 l4 l5 := by
  intro n
  induction n with
  | zero => intro l3 l4 l5; rfl
  | succ n ih =>
    intro l3 l4 l5
    unfold j_idx_l7
    simp only [ih]
def S00 : SS := fun _ => []
theorem j_iS (S : SS) (bs : List Int32) (p : Int32) : j_indexOf S bs p = j_indexOf S00 bs p := by
  unfold j_indexOf j_idx3 j_idx2 j_idx
  rw [j_l7_S S S00]
  rfl
theorem idx_ck : ∀ n, n < 256 → (match j_indexOf S00 k25 (Int32.ofNat n) with
    | some i => if sg_meaning (Int32.ofNat n) = -1 then decide (i < 0) else decide (0 ≤ i) && decide (e_meant S00 i = some (sg_meaning (Int32.ofNat n)))
    | none => false) = true := by decide +kernel
theorem idx_v (S : SS) {n : Nat} (hn : n < 256) : ∃ i, j_indexOf S k25 (Int32.ofNat n) = some i ∧ (sg_meaning (Int32.ofNat n) = -1 → ¬ 0 ≤ i) ∧ (sg_meaning (Int32.ofNat n) ≠ -1 → 0 ≤ i ∧ ∀ S, e_meant S i = some (sg_meaning (Int32.ofNat n))) := by
  have := idx_ck n hn
  rw [j_iS]
  cases hj : j_indexOf S00 k25 (Int32.ofNat n) with
  | none => rw [hj] at this; cases this
  | some i =>
    rw [hj] at this
    refine ⟨i, rfl, fun c => ?_, fun c => ?_⟩
    · simp only [if_pos c, decide_eq_true_eq] at this
      intro d
      rw [i_lt] at this
      rw [i_le] at d
      omega
    · simp only [if_neg c, Bool.and_eq_true, decide_eq_true_eq] at this
      exact ⟨this.1, fun _ => this.2⟩
theorem atB {S : SS} {ts : List Int32} (E : EK S ts) {k : Nat} (hk : k < 100000) : atP' ts k = -1 ∨ ∃ n, n < 256 ∧ atP' ts k = Int32.ofNat n := by
  by_cases c : atP' ts k = -1
  · exact Or.inl c
  · obtain ⟨l1, l2, -⟩ := at_lt E.2.2.1 hk rfl c
    rw [← l2]
    exact Or.inr (b256 (E.2.2.2 _ (List.getElem_mem l1)))
theorem ehex_step {S T : SS} {ts : List Int32} {k j n : Nat} {C : List Int32} {l1 l3 : Int32} (E : EK S ts) (hT : ek S T ts k C) (hk : k ≤ 5000) (hj : j < 4) : (sg_hexv (atP' ts (k + 1)) ≠ -1 → ∃ T', e_escape_l35 (n + 1) T l1 l3 (Int32.ofNat j) = e_escape_l35 n T' l1 (l3 * 16 + sg_hexv (atP' ts (k + 1))) (Int32.ofNat (j + 1)) ∧ ek S T' ts (k + 1) C) ∧ (sg_hexv (atP' ts (k + 1)) = -1 → bdE S (e_escape_l35 (n + 1) T l1 l3 (Int32.ofNat j))) := by
  have h4 : ¬ (4 : Int32) ≤ Int32.ofNat j := by
    rw [show (4 : Int32) = Int32.ofNat 4 from rfl, i_le' (by omega) (by omega)]
    omega
  have hT' := hT.w2 (k + 1)
  rw [e_escape_l35, if_neg h4, hT.rr.2.2.1, i_a1, hT'.rr.2.2.1, eat E hT' (by omega), o_bind, ehex, o_bind, i_a1]
  refine ⟨fun h => ?_, fun h => ?_⟩
  · have := (hexv_rng _).resolve_left h
    rw [if_pos (by rw [i_le]; exact this.1), Int32.mul_comm 16 l3]
    exact ⟨_, rfl, hT'⟩
  · rw [h, if_neg (by decide)]
    exact hT'.bad (i_ne1 (by omega))
theorem eesc {S T : SS} {ts : List Int32} {k : Nat} {C : List Int32} (E : EK S ts) (hT : ek S T ts k C) (hk : k < ts.length) : (∀ c e, pEsc ts k = some (c, e) → gdE S ts (e_escape T) e (C ++ [c])) ∧ (pEsc ts k = none → bdE S (e_escape T)) := by
  have hl := E.2.2.1
  have hT1 := hT.w2 (k + 1)
  unfold pEsc e_escape
  rw [hT.rr.2.2.1, i_a1, hT1.rr.2.2.1, eat E hT1 (by omega), o_bind]
  by_cases hu : atP' ts (k + 1) = 117
  · rw [if_pos hu, if_pos hu]
    have z0 : ∀ x : Int32, 0 * 16 + x = x := fun x => by rw [Int32.zero_mul, Int32.zero_add]
    obtain ⟨s1, t1⟩ := ehex_step (j := 0) (n := 9999) (l1 := Int32.ofNat k) (l3 := 0) E hT1 (by omega) (by decide)
    by_cases g2 : sg_hexv (atP' ts (k + 2)) = -1
    · rw [if_pos (Or.inl g2)]
      exact ⟨fun c e h => (by cases h), fun _ => t1 g2⟩
    obtain ⟨T2, q2, hT2⟩ := s1 g2
    rw [z0] at q2
    have q2 : e_escape_l35 10000 (wr T 96 2 (Int32.ofNat (k + 1))) (Int32.ofNat k) 0 0 = _ := q2
    rw [q2]
    obtain ⟨s1, t1⟩ := ehex_step (j := 1) (n := 9998) (l1 := Int32.ofNat k) (l3 := sg_hexv (atP' ts (k + 1 + 1))) E hT2 (by omega) (by decide)
    by_cases g3 : sg_hexv (atP' ts (k + 3)) = -1
    · rw [if_pos (Or.inr (Or.inl g3))]
      exact ⟨fun c e h => (by cases h), fun _ => t1 g3⟩
    obtain ⟨T3, q3, hT3⟩ := s1 g3
    rw [q3]
    obtain ⟨s1, t1⟩ := ehex_step (j := 2) (n := 9997) (l1 := Int32.ofNat k) (l3 := sg_hexv (atP' ts (k + 1 + 1)) * 16 + sg_hexv (atP' ts (k + 1 + 1 + 1))) E hT3 (by omega) (by decide)
    by_cases g4 : sg_hexv (atP' ts (k + 4)) = -1
    · rw [if_pos (Or.inr (Or.inr (Or.inl g4)))]
      exact ⟨fun c e h => (by cases h), fun _ => t1 g4⟩
    obtain ⟨T4, q4, hT4⟩ := s1 g4
    rw [q4]
    obtain ⟨s1, t1⟩ := ehex_step (j := 3) (n := 9996) (l1 := Int32.ofNat k) (l3 := (sg_hexv (atP' ts (k + 1 + 1)) * 16 + sg_hexv (atP' ts (k + 1 + 1 + 1))) * 16 + sg_hexv (atP' ts (k + 1 + 1 + 1 + 1))) E hT4 (by omega) (by decide)
    by_cases g5 : sg_hexv (atP' ts (k + 5)) = -1
    · rw [if_pos (Or.inr (Or.inr (Or.inr g5)))]
      exact ⟨fun c e h => (by cases h), fun _ => t1 g5⟩
    obtain ⟨T5, q5, hT5⟩ := s1 g5
    rw [q5, if_neg (fun c => c.elim g2 (fun c => c.elim g3 (fun c => c.elim g4 g5)))]
    have v : ∀ l3 : Int32, e_escape_l35 (9995 + 1) T5 (Int32.ofNat k) l3 (Int32.ofNat 4) = if l3 ≤ 127 then ((q_put T5 l3).bind fun r8 => some (wr r8 96 2 ((rd r8 96 2) + 1), 1)) else ((e_fail T5 (Int32.ofNat k)).bind fun r11 => some (r11.1, r11.2 &&& 1)) := by
      intro l3
      rw [e_escape_l35, if_pos (show (4 : Int32) ≤ Int32.ofNat 4 by decide), hT5.rr.2.2.2, if_neg (show ¬ (90 : Int32) = 0 by decide)]
    have v' := v (((sg_hexv (atP' ts (k + 1 + 1)) * 16 + sg_hexv (atP' ts (k + 1 + 1 + 1))) * 16 + sg_hexv (atP' ts (k + 1 + 1 + 1 + 1))) * 16 + sg_hexv (atP' ts (k + 1 + 1 + 1 + 1 + 1)))
    have v' : e_escape_l35 9996 T5 (Int32.ofNat k) (((sg_hexv (atP' ts (k + 1 + 1)) * 16 + sg_hexv (atP' ts (k + 1 + 1 + 1))) * 16 + sg_hexv (atP' ts (k + 1 + 1 + 1 + 1))) * 16 + sg_hexv (atP' ts (k + 1 + 1 + 1 + 1 + 1))) (Int32.ofNat (3 + 1)) = _ := v'
    rw [v']
    by_cases h7 : ((sg_hexv (atP' ts (k + 2)) * 16 + sg_hexv (atP' ts (k + 3))) * 16 + sg_hexv (atP' ts (k + 4))) * 16 + sg_hexv (atP' ts (k + 5)) ≤ 127
    · rw [if_pos h7]
      have h7' : ((sg_hexv (atP' ts (k + 1 + 1)) * 16 + sg_hexv (atP' ts (k + 1 + 1 + 1))) * 16 + sg_hexv (atP' ts (k + 1 + 1 + 1 + 1))) * 16 + sg_hexv (atP' ts (k + 1 + 1 + 1 + 1 + 1)) ≤ 127 := h7
      rw [if_pos h7']
      obtain ⟨T6, p1, p2, p3⟩ := oput hT5.2.2 (((sg_hexv (atP' ts (k + 1 + 1)) * 16 + sg_hexv (atP' ts (k + 1 + 1 + 1))) * 16 + sg_hexv (atP' ts (k + 1 + 1 + 1 + 1))) * 16 + sg_hexv (atP' ts (k + 1 + 1 + 1 + 1 + 1)))
      have hT6 := hT5.out p2 p3
      rw [p1, o_bind, hT6.rr.2.2.1, i_a1]
      refine ⟨fun c e h => ?_, fun h => by cases h⟩
      cases h
      exact ⟨_, rfl, hT6.w2 (k + 6)⟩
    · rw [if_neg h7]
      have h7' : ¬ ((sg_hexv (atP' ts (k + 1 + 1)) * 16 + sg_hexv (atP' ts (k + 1 + 1 + 1))) * 16 + sg_hexv (atP' ts (k + 1 + 1 + 1 + 1))) * 16 + sg_hexv (atP' ts (k + 1 + 1 + 1 + 1 + 1)) ≤ 127 := h7
      rw [if_neg h7']
      exact ⟨fun c e h => (by cases h), fun _ => hT5.bad (i_ne1 (by omega))⟩
  · rw [if_neg hu, if_neg hu, if_neg (show ¬ (0 : Int32) ≤ -1 by decide)]
    rcases atB E (show k + 1 < 100000 by omega) with c | ⟨n, hn, c⟩
    · rw [c, if_neg (show ¬ (0 : Int32) ≤ -1 by decide), if_pos (by decide)]
      exact ⟨fun c e h => (by cases h), fun _ => hT1.bad (i_ne1 (by omega))⟩
    · obtain ⟨i, x1, x2, x3⟩ := idx_v (wr T 96 2 (Int32.ofNat (k + 1))) hn
      have p0 : (0 : Int32) ≤ Int32.ofNat n := by
        rw [show (0 : Int32) = Int32.ofNat 0 from rfl, i_le' (by omega) (by omega)]
        omega
      rw [c, if_pos p0, x1, o_bind]
      by_cases hm : sg_meaning (Int32.ofNat n) = -1
      · rw [if_pos hm, if_neg (x2 hm)]
        exact ⟨fun c e h => (by cases h), fun _ => hT1.bad (i_ne1 (by omega))⟩
      · obtain ⟨x4, x5⟩ := x3 hm
        obtain ⟨T6, p1, p2, p3⟩ := oput hT1.2.2 (sg_meaning (Int32.ofNat n))
        have hT6 := hT1.out p2 p3
        rw [if_neg hm, if_pos x4, hT1.rr.2.2.2, if_neg (show ¬ (90 : Int32) = 0 by decide), x5, o_bind, p1, o_bind, hT6.rr.2.2.1, i_a1]
        refine ⟨fun c e h => ?_, fun h => by cases h⟩
        cases h
        exact ⟨_, rfl, hT6.w2 (k + 2)⟩
theorem estr_l {S : SS} {ts : List Int32} {C0 : List Int32} {row : Int32} (E : EK S ts) (hrow : C0.length ≤ 9000 → row = Int32.ofNat C0.length) : ∀ (m k : Nat) (body : List Int32) (j n : Nat) (T : SS), m + j = 5000 → j < k → k ≤ ts.length → n + j = 10000 → ek S T ts k (C0 ++ 4 :: 0 :: body) → (∀ s e, pStr ts m k = some (s, e) → gdE S ts (e_string_l19 n T row) e (C0 ++ cstr (body ++ s))) ∧ (pStr ts m k = none → bdE S (e_string_l19 n T row)) := by
  have hl := E.2.2.1
  intro m
  induction m with
  | zero => intro k body j n T h1 h2 h3 _ _; omega
  | succ m ih =>
    intro k body j n T h1 h2 h3 h4 hT
    obtain ⟨n, rfl⟩ : ∃ n', n = n' + 1 := ⟨n - 1, by omega⟩
    have hT1 := hT.w2 (k + 1)
    rw [e_string_l19, hT.rr.2.2.1, eat E hT (by omega), o_bind, i_a1, hT1.rr.2.2.2, if_neg (show ¬ (90 : Int32) = 0 by decide), hT.rr.2.2.2, if_neg (show ¬ (90 : Int32) = 0 by decide)]
    by_cases h34 : atP' ts k = 34
    · have e2 : pStr ts (m + 1) k = some ([], k + 1) := by unfold pStr; rw [if_pos h34]
      obtain ⟨T2, p1, p2, p3⟩ := oclose (k := 4) hT1.2.2 hrow
      rw [e2, if_pos h34, p1, o_bind]
      refine ⟨fun s e h => ?_, fun h => by cases h⟩
      cases h
      rw [List.append_nil]
      exact ⟨T2, rfl, hT1.out p2 p3⟩
    have e2 : pStr ts (m + 1) k = (pChr ts k).bind fun c => (pStr ts m c.2).map fun s => (c.1 :: s.1, s.2) := by
      rw [pStr, if_neg h34]
    rw [e2, if_neg h34]
    unfold pChr
    have go : ∀ (c : Int32) (e1 : Nat) (T1 : SS), k < e1 → e1 ≤ ts.length → ek S T1 ts e1 (C0 ++ 4 :: 0 :: body ++ [c]) → (∀ s e, ((pStr ts m e1).map fun s => (c :: s.1, s.2)) = some (s, e) → gdE S ts (e_string_l19 n T1 row) e (C0 ++ cstr (body ++ s))) ∧ (((pStr ts m e1).map fun s => (c :: s.1, s.2)) = none → bdE S (e_string_l19 n T1 row)) := by
      intro c e1 T1 x1 x2 x3
      obtain ⟨i1, i2⟩ := ih e1 (body ++ [c]) (j + 1) n T1 (by omega) (by omega) x2 (by omega) (by
        have : C0 ++ 4 :: 0 :: body ++ [c] = C0 ++ 4 :: 0 :: (body ++ [c]) := by simp
        rw [← this]
        exact x3)
      refine ⟨fun s e h => ?_, fun h => i2 ?_⟩
      · obtain ⟨⟨s', e'⟩, q1, q2⟩ := map_some h
        cases q2
        have := i1 s' e' q1
        rw [List.append_assoc] at this
        exact this
      · cases hp : pStr ts m e1 with
        | none => rfl
        | some x => rw [hp] at h; cases h
    by_cases h92 : atP' ts k = 92
    · obtain ⟨lk, -, -⟩ := at_lt hl (by omega) h92 (by decide)
      obtain ⟨x1, x2⟩ := eesc E hT lk
      rw [if_pos h92, h92, if_neg (show ¬ (92 : Int32) < 32 by decide), if_pos (show (92 : Int32) ≤ 126 by decide), if_pos rfl]
      cases hc : pEsc ts k with
      | none =>
        obtain ⟨T', y1, y2⟩ := x2 hc
        rw [y1, o_bind]
        rw [if_pos rfl]
        exact ⟨fun s e h => (by cases h), fun _ => ⟨T', rfl, y2⟩⟩
      | some ce =>
        obtain ⟨c, e1⟩ := ce
        obtain ⟨a1, a2, a3, a4⟩ := pEsc_ok hl (by omega) hc
        obtain ⟨T', y1, y2⟩ := x1 c e1 hc
        rw [y1, o_bind, o_bind]
        simp only
        rw [if_neg (show ¬ (1 : Int32) = 0 by decide)]
        exact go c e1 T' a3 a4 y2
    · rw [if_neg h92]
      by_cases h32 : atP' ts k < 32
      · rw [if_pos h32, if_pos h32]
        exact ⟨fun s e h => (by cases h), fun _ => hT.bad (i_ne1 (by omega))⟩
      rw [if_neg h32, if_neg h32]
      by_cases h126 : atP' ts k ≤ 126
      · obtain ⟨lk, -, -⟩ := at_lt hl (show k < 100000 by omega) rfl (fun c => h32 (by rw [c]; decide))
        obtain ⟨T2, p1, p2, p3⟩ := oput hT.2.2 (atP' ts k)
        have hT2 := hT.out p2 p3
        rw [if_pos h126, if_pos h126, if_neg h92, p1, o_bind, o_bind, hT2.rr.2.2.1, i_a1]
        exact go _ _ _ (by omega) (by omega) (hT2.w2 (k + 1))
      · rw [if_neg h126, if_neg h126]
        exact ⟨fun s e h => (by cases h), fun _ => hT.bad (i_ne1 (by omega))⟩
theorem estring_v {S T : SS} {ts : List Int32} {k : Nat} {C : List Int32} (E : EK S ts) (hT : ek S T ts k C) (hk : k < ts.length) : (∀ s e, pStr ts 5000 (k + 1) = some (s, e) → gdE S ts (e_string T) e (C ++ cstr s)) ∧ (pStr ts 5000 (k + 1) = none → bdE S (e_string T)) := by
  obtain ⟨T1, row, p1, p2, p3, p4⟩ := oopen hT.2.2 4
  have hT1 := hT.out p2 p3
  unfold e_string
  rw [hT.rr.2.2.2, if_neg (show ¬ (90 : Int32) = 0 by decide), p1, o_bind]
  simp only
  rw [hT1.rr.2.2.1, i_a1]
  exact estr_l (C0 := C) E p4 5000 (k + 1) [] 0 10000 _ rfl (by omega) (by omega) rfl (hT1.w2 (k + 1))
theorem edigit {S T : SS} {ts : List Int32} {k : Nat} {C : List Int32} (E : EK S ts) (hT : ek S T ts k C) (hk : k < 100000) : e_digit T = some (sg_digit (atP' ts k)) := by
  unfold e_digit sg_digit
  rw [hT.rr.2.2.1, eat E hT hk, o_bind]
  repeat' split
  all_goals rfl
theorem enum_l {S : SS} {ts : List Int32} {C : List Int32} {l1 l2 : Int32} (E : EK S ts) (hl1 : l1 ≠ -1) : ∀ (n k a : Nat) (T : SS), ts.length < n + k → 0 < n → k ≤ 5000 → a ≤ 90071992547409919 → ek S T ts k C → ((digs ts k).foldl sat a ≤ 9007199254740991 → gdE S ts (e_number_l82 n T l1 l2 (Int64.ofNat a)) (k + (digs ts k).length) (C ++ cnum (if l2 = 0 then (((digs ts k).foldl sat a : Nat) : Int) else -(((digs ts k).foldl sat a : Nat) : Int)))) ∧ (¬ (digs ts k).foldl sat a ≤ 9007199254740991 → bdE S (e_number_l82 n T l1 l2 (Int64.ofNat a))) := by
  have hl := E.2.2.1
  intro n
  induction n with
  | zero => intro k a T _ h; omega
  | succ n ih =>
    intro k a T h1 _ h5 ha hT
    rw [e_number_l82, edigit E hT (by omega), o_bind]
    by_cases d : sg_digit (atP' ts k) = 0
    · rw [if_pos d, digs_nil hl (by omega) d, hT.rr.2.2.2, if_neg (show ¬ (90 : Int32) = 0 by decide)]
      simp only [List.foldl_nil, List.length_nil, Nat.add_zero]
      refine ⟨fun c => ?_, fun c => ?_⟩
      · rw [if_pos (by rw [lg_le, l_max53, l_natI (by omega)]; omega)]
        by_cases g : l2 = 0
        · obtain ⟨T1, p1, p2, p3⟩ := onum hT.2.2 (a : Int) (by omega)
          rw [if_pos g, if_pos g, l_nat, p1, o_bind]
          exact ⟨T1, rfl, hT.out p2 p3⟩
        · obtain ⟨T1, p1, p2, p3⟩ := onum hT.2.2 (-(a : Int)) (by omega)
          rw [if_neg g, if_neg g, l_nat, ← Int64.ofInt_neg, p1, o_bind]
          exact ⟨T1, rfl, hT.out p2 p3⟩
      · rw [if_neg (by rw [lg_le, l_max53, l_natI (by omega)]; omega)]
        exact hT.bad hl1
    obtain ⟨l1', e1⟩ := digs_cons hl (by omega) d
    obtain ⟨w, w1, w2, w3, -⟩ := dig_d d
    rw [if_neg d, e1, List.length_cons, List.foldl_cons, hT.rr.2.2.1, i_a1, eat E hT (by omega), o_bind, show k + ((digs ts (k + 1)).length + 1) = k + 1 + (digs ts (k + 1)).length by omega]
    by_cases g : 9007199254740991 < a
    · have s : sat a (atP' ts k) = a := by unfold sat; rw [if_neg (by omega)]
      rw [if_pos (by rw [lg_gt, l_max53, l_natI (by omega)]; omega), s]
      exact ih (k + 1) a _ (by omega) (by omega) (by omega) ha (hT.w2 (k + 1))
    · have s : sat a (atP' ts k) = a * 10 + w := by unfold sat; rw [if_pos (by omega), w3]
      have z : 10 * Int64.ofNat a + (atP' ts k).toInt64 - 48 = Int64.ofNat (a * 10 + w) := by
        rw [w2, Int64.sub_eq_add_neg, Int64.add_assoc, ← Int64.sub_eq_add_neg, l_digs w w1, Int64.ofNat_add, Int64.ofNat_mul, Int64.mul_comm]
        rfl
      rw [if_neg (by rw [lg_gt, l_max53, l_natI (by omega)]; omega), s, z]
      exact ih (k + 1) (a * 10 + w) _ (by omega) (by omega) (by omega) (by omega) (hT.w2 (k + 1))
theorem pNum_m {ts : List Int32} {k : Nat} (h : atP' ts k = 45) : pNum ts k = if sg_digit (atP' ts (k + 1)) = 0 then none else if atP' ts (k + 1) = 48 then some (0, k + 1 + 1) else if (digs ts (k + 1)).foldl sat 0 ≤ 9007199254740991 then some (-(((digs ts (k + 1)).foldl sat 0 : Nat) : Int), k + 1 + (digs ts (k + 1)).length) else none := by
  unfold pNum
  simp only [if_pos h]
theorem pNum_p {ts : List Int32} {k : Nat} (h : ¬ atP' ts k = 45) : pNum ts k = if sg_digit (atP' ts k) = 0 then none else if atP' ts k = 48 then some (0, k + 1) else if (digs ts k).foldl sat 0 ≤ 9007199254740991 then some ((((digs ts k).foldl sat 0 : Nat) : Int), k + (digs ts k).length) else none := by
  unfold pNum
  simp only [if_neg h]
theorem enum_v {S T : SS} {ts : List Int32} {k : Nat} {C : List Int32} (E : EK S ts) (hT : ek S T ts k C) (hk : k ≤ ts.length) : (∀ v e, pNum ts k = some (v, e) → gdE S ts (e_number T) e (C ++ cnum v)) ∧ (pNum ts k = none → bdE S (e_number T)) := by
  have hl := E.2.2.1
  have hT1 := hT.w2 (k + 1)
  have z0 : lg_cmp 0 9007199254740991 ≤ 0 := by decide
  unfold e_number
  rw [hT.rr.2.2.1, eat E hT (by omega), o_bind, i_a1]
  by_cases c45 : atP' ts k = 45
  · obtain ⟨lk, -, -⟩ := at_lt hl (by omega) c45 (by decide)
    rw [pNum_m c45, if_pos c45, edigit E hT1 (by omega), o_bind, hT1.rr.2.2.1]
    by_cases h1 : sg_digit (atP' ts (k + 1)) = 0
    · rw [if_pos h1, if_pos h1]
      exact ⟨fun v e h => (by cases h), fun _ => hT1.bad (i_ne1 (by omega))⟩
    rw [if_neg h1, if_neg h1, eat E hT1 (by omega), o_bind, i_a1]
    by_cases h2 : atP' ts (k + 1) = 48
    · have hT2 := hT1.w2 (k + 1 + 1)
      obtain ⟨T3, p1, p2, p3⟩ := onum hT2.2.2 0 (by omega)
      have p1 : q_num (wr (wr T 96 2 (Int32.ofNat (k + 1))) 96 2 (Int32.ofNat (k + 1 + 1))) (-0) = some T3 := p1
      rw [if_pos h2, if_pos h2, if_pos z0, hT2.rr.2.2.2, if_neg (show ¬ (90 : Int32) = 0 by decide), p1, o_bind]
      refine ⟨fun v e h => ?_, fun h => by cases h⟩
      cases h
      exact ⟨T3, rfl, hT2.out p2 p3⟩
    rw [if_neg h2, if_neg h2]
    obtain ⟨i1, i2⟩ := enum_l (l1 := Int32.ofNat k) (l2 := 1) E (i_ne1 (by omega)) 10000 (k + 1) 0 _ (by omega) (by omega) (by omega) (by omega) hT1
    by_cases h3 : (digs ts (k + 1)).foldl sat 0 ≤ 9007199254740991
    · rw [if_pos h3]
      refine ⟨fun v e h => ?_, fun h => by cases h⟩
      cases h
      exact i1 h3
    · rw [if_neg h3]
      exact ⟨fun v e h => (by cases h), fun _ => i2 h3⟩
  · rw [pNum_p c45, if_neg c45, edigit E hT (by omega), o_bind]
    by_cases h1 : sg_digit (atP' ts k) = 0
    · rw [if_pos h1, if_pos h1]
      exact ⟨fun v e h => (by cases h), fun _ => hT.bad (i_ne1 (by omega))⟩
    rw [if_neg h1, if_neg h1]
    by_cases h2 : atP' ts k = 48
    · obtain ⟨T3, p1, p2, p3⟩ := onum hT1.2.2 0 (by omega)
      have p1 : q_num (wr T 96 2 (Int32.ofNat (k + 1))) 0 = some T3 := p1
      rw [if_pos h2, if_pos h2, if_pos z0, hT1.rr.2.2.2, if_neg (show ¬ (90 : Int32) = 0 by decide), p1, o_bind]
      refine ⟨fun v e h => ?_, fun h => by cases h⟩
      cases h
      exact ⟨T3, rfl, hT1.out p2 p3⟩
    rw [if_neg h2, if_neg h2]
    obtain ⟨i1, i2⟩ := enum_l (l1 := Int32.ofNat k) (l2 := 0) E (i_ne1 (by omega)) 10000 k 0 _ (by omega) (by omega) (by omega) (by omega) hT
    by_cases h3 : (digs ts k).foldl sat 0 ≤ 9007199254740991
    · rw [if_pos h3]
      refine ⟨fun v e h => ?_, fun h => by cases h⟩
      cases h
      exact i1 h3
    · rw [if_neg h3]
      exact ⟨fun v e h => (by cases h), fun _ => i2 h3⟩
end ERead185
end
