/-! A place's number, printed by the class. -/
section Place141
theorem i_div {a b : Nat} (ha : a < 2147483648) (hb : b < 2147483648) : Int32.ofNat a / Int32.ofNat b = Int32.ofNat (a / b) := by
  have hle : a / b ≤ a := Nat.div_le_self a b
  apply Int32.toInt_inj.mp
  have e : ((a : Int)).tdiv (b : Int) = ((a / b : Nat) : Int) := (Int.ofNat_tdiv a b).symm
  have hx : a / b < 2147483648 := by omega
  rw [Int32.toInt_div, i_of (by omega), i_of (by omega), i_of hx, e]
  generalize a / b = x at hx
  rw [Int.bmod_def]
  omega
theorem dig_255 : ∀ d, d < 10 → (Int32.ofNat (48 + d)) &&& 255 = Int32.ofNat (48 + d) := by decide +kernel
theorem i_mod10 {w : Nat} (h : w < 100000) : 48 + (Int32.ofNat w - Int32.ofNat w / 10 * 10) = Int32.ofNat (48 + w % 10) := by
  rw [show (10 : Int32) = Int32.ofNat 10 from rfl, i_div (by omega) (by omega), ← Int32.ofNat_mul]
  have e : Int32.ofNat w - Int32.ofNat (w / 10 * 10) = Int32.ofNat (w % 10) := by
    apply Int32.toInt_inj.mp
    have a1 : (Int32.ofNat w).toInt = w := i_of (by omega)
    have a2 : (Int32.ofNat (w / 10 * 10)).toInt = ((w / 10 * 10 : Nat) : Int) := i_of (by omega)
    rw [i_sub (by rw [a1, a2]; omega) (by rw [a1, a2]; omega), a1, a2, i_of (by omega)]
    omega
  rw [e, show (48 : Int32) = Int32.ofNat 48 from rfl, ← Int32.ofNat_add]
/-- so many digits -/
def dg : Nat → Nat → List Int32
  | 0, v => [Int32.ofNat (48 + v % 10)]
  | k + 1, v => Int32.ofNat (48 + (v / 10 ^ (k + 1)) % 10) :: dg k v
theorem dg_s : ∀ (k v : Nat), dg (k + 1) v = dg k (v / 10) ++ [Int32.ofNat (48 + v % 10)] := by
  intro k
  induction k with
  | zero => intro v; simp [dg]
  | succ k ih =>
    intro v
    show Int32.ofNat (48 + (v / 10 ^ (k + 2)) % 10) :: dg (k + 1) v = (Int32.ofNat (48 + (v / 10 / 10 ^ (k + 1)) % 10) :: dg k (v / 10)) ++ _
    rw [ih v, Nat.div_div_eq_div_mul, show 10 * 10 ^ (k + 1) = 10 ^ (k + 2) by rw [Nat.pow_succ 10 (k + 1)]; omega]
    rfl
theorem dg_F : ∀ (k n v : Nat), k < n → v < 10 ^ (k + 1) → (k = 0 ∨ 10 ^ k ≤ v) → dg k v = digF n v := by
  intro k
  induction k with
  | zero =>
    intro n v hn hv _
    cases n with
    | zero => omega
    | succ n =>
      unfold dg digF
      rw [if_pos (by simpa using hv), Nat.mod_eq_of_lt (by simpa using hv)]
  | succ k ih =>
    intro n v hn hv hk
    have hk : 10 ^ (k + 1) ≤ v := hk.resolve_left (by omega)
    have h1 : 1 ≤ 10 ^ k := Nat.one_le_pow _ _ (by decide)
    have e1 : 10 ^ (k + 1) = 10 ^ k * 10 := Nat.pow_succ ..
    have e2 : 10 ^ (k + 1 + 1) = 10 ^ (k + 1) * 10 := Nat.pow_succ ..
    cases n with
    | zero => omega
    | succ n =>
      rw [dg_s]
      unfold digF
      rw [if_neg (by omega), ih n (v / 10) (by omega) (by omega) (Or.inr (by omega))]
theorem lplace31 {o : Nat} {k4 : SS → Int32 → Int32 → Int32 → Option SS} {v : Nat} (hv : v < 100000) : ∀ (k n : Nat) (S : SS) (B : List Int32), k ≤ 4 → k + 1 < n → l_place_l31 o k4 n (up S o (pv B)) (Int32.ofNat v) (Int32.ofNat (10 ^ k)) = some (up S o (pv (B ++ dg k v))) := by
  intro k
  have pw : ∀ k, k ≤ 4 → 1 ≤ 10 ^ k ∧ 10 ^ k ≤ 10000 := fun k hk => ⟨Nat.one_le_pow _ _ (by decide), Nat.le_trans (Nat.pow_le_pow_right (by decide) hk) (by decide)⟩
  have st : ∀ (k n : Nat) (S : SS) (B : List Int32), k ≤ 4 → l_place_l31 o k4 (n + 1) (up S o (pv B)) (Int32.ofNat v) (Int32.ofNat (10 ^ k)) = l_place_l31 o k4 n (up S o (pv (B ++ [Int32.ofNat (48 + (v / 10 ^ k) % 10)]))) (Int32.ofNat v) (Int32.ofNat (10 ^ k / 10)) := by
    intro k n S B hk
    obtain ⟨p1, p2⟩ := pw k hk
    have hle : v / 10 ^ k ≤ v := Nat.div_le_self _ _
    show (if Int32.ofNat (10 ^ k) ≤ 0 then _ else _) = _
    rw [if_neg (by rw [show (0 : Int32) = Int32.ofNat 0 from rfl, i_le' (by omega) (by omega)]; omega), if_neg (by rw [show (0 : Int32) = Int32.ofNat 0 from rfl, i_inj (by omega) (by omega)]; omega), i_div (by omega) (by omega), i_mod10 (by omega), sput_pv, dig_255 _ (Nat.mod_lt _ (by decide)), show (10 : Int32) = Int32.ofNat 10 from rfl, i_div (by omega) (by omega)]
  induction k with
  | zero =>
    intro n S B _ hn
    obtain ⟨n, rfl⟩ : ∃ m, n = m + 1 + 1 := ⟨n - 2, by omega⟩
    rw [st 0 (n + 1) S B (by decide)]
    show (if Int32.ofNat (10 ^ 0 / 10) ≤ 0 then some _ else _) = _
    rw [if_pos (by decide)]
    simp [dg]
  | succ k ih =>
    intro n S B hk hn
    obtain ⟨n, rfl⟩ : ∃ m, n = m + 1 := ⟨n - 1, by omega⟩
    rw [st (k + 1) n S B hk, show 10 ^ (k + 1) / 10 = 10 ^ k by rw [Nat.pow_succ]; omega, ih n S _ (by omega) (by omega), List.append_assoc]
    rfl
theorem lplace4 {o : Nat} {v : Nat} (hv : v < 10000) : ∀ (j n k : Nat) (S : SS) (B : List Int32), k + j = 3 → j < n → (k = 0 ∨ 10 ^ k ≤ v) → l_place_l4 o n (up S o (pv B)) (Int32.ofNat v) (Int32.ofNat (10 ^ k)) (Int32.ofNat (k + 1)) = some (up S o (pv (B ++ digF 20 v))) := by
  intro j
  have pw : ∀ k, k ≤ 4 → 1 ≤ 10 ^ k ∧ 10 ^ k ≤ 10000 := fun k hk => ⟨Nat.one_le_pow _ _ (by decide), Nat.le_trans (Nat.pow_le_pow_right (by decide) hk) (by decide)⟩
  induction j with
  | zero =>
    intro n k S B hk hn h
    obtain ⟨n, rfl⟩ : ∃ m, n = m + 1 := ⟨n - 1, by omega⟩
    have : k = 3 := by omega
    subst this
    have hd : v / 10 ^ 3 < 10 := by omega
    show (if (10 : Int32) ≤ Int32.ofNat (3 + 1) then _ else _) = _
    rw [if_neg (by decide), if_neg (by decide), i_div (by omega) (by decide), if_pos (by rw [show (10 : Int32) = Int32.ofNat 10 from rfl, i_lt' (by omega) (by omega)]; exact hd), lplace31 (by omega) 3 10000 S B (by decide) (by decide), dg_F 3 20 v (by decide) (by omega) h]
  | succ j ih =>
    intro n k S B hk hn h
    obtain ⟨n, rfl⟩ : ∃ m, n = m + 1 := ⟨n - 1, by omega⟩
    obtain ⟨p1, p2⟩ := pw k (by omega)
    have hle : v / 10 ^ k ≤ v := Nat.div_le_self _ _
    show (if (10 : Int32) ≤ Int32.ofNat (k + 1) then _ else _) = _
    rw [if_neg (by rw [show (10 : Int32) = Int32.ofNat 10 from rfl, i_le' (by omega) (by omega)]; omega), if_neg (by rw [show (0 : Int32) = Int32.ofNat 0 from rfl, i_inj (by omega) (by omega)]; omega), i_div (by omega) (by omega)]
    have hp : 10 ^ (k + 1) = 10 ^ k * 10 := Nat.pow_succ ..
    by_cases hd : v / 10 ^ k < 10
    · have hv2 : v < 10 ^ (k + 1) := by rw [hp]; have := (Nat.div_lt_iff_lt_mul (by omega)).mp hd; omega
      rw [if_pos (by rw [show (10 : Int32) = Int32.ofNat 10 from rfl, i_lt' (by omega) (by omega)]; exact hd), lplace31 (by omega) k 10000 S B (by omega) (by omega), dg_F k 20 v (by omega) hv2 h]
    · have hv2 : 10 ^ (k + 1) ≤ v := by rw [hp]; have := (Nat.le_div_iff_mul_le (by omega)).mp (show 10 ≤ v / 10 ^ k by omega); omega
      rw [if_neg (by rw [show (10 : Int32) = Int32.ofNat 10 from rfl, i_lt' (by omega) (by omega)]; exact hd), show (10 : Int32) = Int32.ofNat 10 from rfl, ← Int32.ofNat_mul, i_a1, ← hp]
      exact ih n (k + 1) S B (by omega) (by omega) (Or.inr hv2)
/-- a place printed -/
theorem lplace_val {o v : Nat} (hv : v < 10000) (S : SS) (B : List Int32) : l_place (up S o (pv B)) o (Int32.ofNat v) = some (up S o (pv (B ++ digF 20 v))) :=
  lplace4 hv 3 10000 0 S B rfl (by decide) (Or.inl rfl)
end Place141
