/-! PRINTED BY wip/whole/gen.py: each method's instructions are decoded so, and linked so. -/
section Split
variable {cl : List vw_C} {kd np kt : List Nat} {sx : mSX} {sz : mSZ} {lt : mLT} {M : mM}
theorem m_ckL_split : ∀ (l : List (Option mI)) (pc n : Nat), m_ckL cl kd np kt sx sz lt M pc (l.take n) = true → m_ckL cl kd np kt sx sz lt M (pc + n) (l.drop n) = true → m_ckL cl kd np kt sx sz lt M pc l = true
  | [], pc, n, _, _ => rfl
  | q :: r, pc, 0, _, h => h
  | none :: r, pc, n + 1, h1, h2 => by
    refine m_ckL_split r (pc + 1) n h1 ?_
    rw [show pc + 1 + n = pc + (n + 1) by omega]
    exact h2
  | some q :: r, pc, n + 1, h1, h2 => by
    rw [List.take_succ_cons] at h1
    simp only [m_ckL, Bool.and_eq_true] at h1 ⊢
    refine ⟨h1.1, m_ckL_split r (pc + 1) n h1.2 ?_⟩
    rw [show pc + 1 + n = pc + (n + 1) by omega]
    exact h2
theorem m_ckL_two (l : List (Option mI)) (a n : Nat) (h1 : m_ckL cl kd np kt sx sz lt M a ((l.drop a).take n) = true) (h2 : m_ckL cl kd np kt sx sz lt M (a + n) (l.drop (a + n)) = true) : m_ckL cl kd np kt sx sz lt M a (l.drop a) = true := by
  refine m_ckL_split _ _ _ h1 ?_
  rw [List.drop_drop]
  exact h2
end Split
theorem ck246_0 : m_ckL mp_cl mp_kd mp_np mp_kt mp_sx mp_sz lt18 mm246 0 ((mm246.2.2.2.2.2.drop 0).take 60) = true := by decide +kernel
theorem ck246_60 : m_ckL mp_cl mp_kd mp_np mp_kt mp_sx mp_sz lt18 mm246 60 ((mm246.2.2.2.2.2.drop 60).take 60) = true := by decide +kernel
theorem ck246_120 : m_ckL mp_cl mp_kd mp_np mp_kt mp_sx mp_sz lt18 mm246 120 ((mm246.2.2.2.2.2.drop 120).take 60) = true := by decide +kernel
theorem ck246_180 : m_ckL mp_cl mp_kd mp_np mp_kt mp_sx mp_sz lt18 mm246 180 ((mm246.2.2.2.2.2.drop 180).take 60) = true := by decide +kernel
theorem ck246_240 : m_ckL mp_cl mp_kd mp_np mp_kt mp_sx mp_sz lt18 mm246 240 ((mm246.2.2.2.2.2.drop 240).take 60) = true := by decide +kernel
theorem ck246_300 : m_ckL mp_cl mp_kd mp_np mp_kt mp_sx mp_sz lt18 mm246 300 ((mm246.2.2.2.2.2.drop 300).take 60) = true := by decide +kernel
theorem ck246_360 : m_ckL mp_cl mp_kd mp_np mp_kt mp_sx mp_sz lt18 mm246 360 ((mm246.2.2.2.2.2.drop 360).take 60) = true := by decide +kernel
theorem ck246_420 : m_ckL mp_cl mp_kd mp_np mp_kt mp_sx mp_sz lt18 mm246 420 ((mm246.2.2.2.2.2.drop 420).take 60) = true := by decide +kernel
theorem ck246_480 : m_ckL mp_cl mp_kd mp_np mp_kt mp_sx mp_sz lt18 mm246 480 ((mm246.2.2.2.2.2.drop 480).take 60) = true := by decide +kernel
theorem ck246_540 : m_ckL mp_cl mp_kd mp_np mp_kt mp_sx mp_sz lt18 mm246 540 (mm246.2.2.2.2.2.drop 540) = true := by decide +kernel
theorem ck246 : m_ckL mp_cl mp_kd mp_np mp_kt mp_sx mp_sz lt18 mm246 0 mm246.2.2.2.2.2 = true := (m_ckL_two mm246.2.2.2.2.2 0 60 ck246_0 (m_ckL_two mm246.2.2.2.2.2 60 60 ck246_60 (m_ckL_two mm246.2.2.2.2.2 120 60 ck246_120 (m_ckL_two mm246.2.2.2.2.2 180 60 ck246_180 (m_ckL_two mm246.2.2.2.2.2 240 60 ck246_240 (m_ckL_two mm246.2.2.2.2.2 300 60 ck246_300 (m_ckL_two mm246.2.2.2.2.2 360 60 ck246_360 (m_ckL_two mm246.2.2.2.2.2 420 60 ck246_420 (m_ckL_two mm246.2.2.2.2.2 480 60 ck246_480 ck246_540)))))))))
theorem ck254_0 : m_ckL mp_cl mp_kd mp_np mp_kt mp_sx mp_sz lt13 mm254 0 ((mm254.2.2.2.2.2.drop 0).take 60) = true := by decide +kernel
theorem ck254_60 : m_ckL mp_cl mp_kd mp_np mp_kt mp_sx mp_sz lt13 mm254 60 ((mm254.2.2.2.2.2.drop 60).take 60) = true := by decide +kernel
theorem ck254_120 : m_ckL mp_cl mp_kd mp_np mp_kt mp_sx mp_sz lt13 mm254 120 ((mm254.2.2.2.2.2.drop 120).take 60) = true := by decide +kernel
theorem ck254_180 : m_ckL mp_cl mp_kd mp_np mp_kt mp_sx mp_sz lt13 mm254 180 ((mm254.2.2.2.2.2.drop 180).take 60) = true := by decide +kernel
theorem ck254_240 : m_ckL mp_cl mp_kd mp_np mp_kt mp_sx mp_sz lt13 mm254 240 ((mm254.2.2.2.2.2.drop 240).take 60) = true := by decide +kernel
theorem ck254_300 : m_ckL mp_cl mp_kd mp_np mp_kt mp_sx mp_sz lt13 mm254 300 ((mm254.2.2.2.2.2.drop 300).take 60) = true := by decide +kernel
theorem ck254_360 : m_ckL mp_cl mp_kd mp_np mp_kt mp_sx mp_sz lt13 mm254 360 ((mm254.2.2.2.2.2.drop 360).take 60) = true := by decide +kernel
theorem ck254_420 : m_ckL mp_cl mp_kd mp_np mp_kt mp_sx mp_sz lt13 mm254 420 ((mm254.2.2.2.2.2.drop 420).take 60) = true := by decide +kernel
theorem ck254_480 : m_ckL mp_cl mp_kd mp_np mp_kt mp_sx mp_sz lt13 mm254 480 ((mm254.2.2.2.2.2.drop 480).take 60) = true := by decide +kernel
theorem ck254_540 : m_ckL mp_cl mp_kd mp_np mp_kt mp_sx mp_sz lt13 mm254 540 ((mm254.2.2.2.2.2.drop 540).take 60) = true := by decide +kernel
theorem ck254_600 : m_ckL mp_cl mp_kd mp_np mp_kt mp_sx mp_sz lt13 mm254 600 (mm254.2.2.2.2.2.drop 600) = true := by decide +kernel
theorem ck254 : m_ckL mp_cl mp_kd mp_np mp_kt mp_sx mp_sz lt13 mm254 0 mm254.2.2.2.2.2 = true := (m_ckL_two mm254.2.2.2.2.2 0 60 ck254_0 (m_ckL_two mm254.2.2.2.2.2 60 60 ck254_60 (m_ckL_two mm254.2.2.2.2.2 120 60 ck254_120 (m_ckL_two mm254.2.2.2.2.2 180 60 ck254_180 (m_ckL_two mm254.2.2.2.2.2 240 60 ck254_240 (m_ckL_two mm254.2.2.2.2.2 300 60 ck254_300 (m_ckL_two mm254.2.2.2.2.2 360 60 ck254_360 (m_ckL_two mm254.2.2.2.2.2 420 60 ck254_420 (m_ckL_two mm254.2.2.2.2.2 480 60 ck254_480 (m_ckL_two mm254.2.2.2.2.2 540 60 ck254_540 ck254_600))))))))))
