/-! ===== loans, winter milk, sites ===== -/
theorem z_999 (x : Int64) : x + 1000 - 1 = x + 999 := by
  rw [Int64.sub_eq_add_neg, Int64.add_assoc]
  rfl
theorem z_miJ' (x y : Int64) : q_miJ x y = if x < y then x else y := by
  unfold q_miJ
  by_cases h : y < x
  · rw [if_pos h, if_neg]
    rw [Int64.lt_iff_toInt_lt] at h ⊢
    omega
  · rw [if_neg h]
    by_cases h2 : x < y
    · rw [if_pos h2]
    · rw [if_neg h2]
      rw [Int64.lt_iff_toInt_lt] at h h2
      exact Int64.toInt_inj.mp (by omega)
theorem z_miJ0 (x y : Int64) : q_miJ x y = if y < x then y else x := rfl
theorem z_ldv0 {x y : Int64} (h : y ≠ 0) : q_ldv x y = some (x / y) := if_neg h
theorem zs_week {M M2 : q_Mem} (hi : z_Inv M) (hL2 : z_Lay M2) (e9 : q_I M2 109 = q_I M 109) {i : Nat} (hj : i < z_m (q_I M 109) 10) (a : Int64) : ∃ r, f_X1_behindAWeek M 22 (nI i) a = some r ∧ f_X12_weekOn M2 108 (nI i) a = some r := by
  have hL := hi.1
  obtain ⟨R, h3, hm, hcn⟩ := zt_10 hi
  have e2 : (4746 : Int32) + (3 : Int32) * nI i + (1 : Int32) = (4746 : Int32) + (3 : Int32) * nI i + (1 : Int32) := rfl
  simp only [f_X1_behindAWeek, f_X12_weekOn, zr_10 hi hj, zob_108 hL2, zo_108 hL2, zg_10 hL2 (show i < 6 by omega), e9, Option.bind_some, z_ldv0 (show (1000 : Int64) ≠ 0 by decide), z_999, f_X12_weekOn_b50, z_miJ']
  generalize q_I M 109 (4746 + 3 * i + 2) = u
  generalize (a * (q_I M 109 (4746 + 3 * i + 1)).toInt64 + 999) / 1000 = x
  by_cases c1 : 1000000000000 < a + x
  · simp only [c1, if_true]
    by_cases c2 : u.toInt64 < (1000000000000 : Int64)
    · have c3 : ¬ (1000000000000 : Int64) < u.toInt64 := by rw [Int64.lt_iff_toInt_lt] at c2 ⊢; omega
      simp only [c2, c3, if_true, if_false]
      exact ⟨_, rfl, rfl⟩
    · by_cases c3 : (1000000000000 : Int64) < u.toInt64
      · simp only [c2, c3, if_true, if_false]
        exact ⟨_, rfl, rfl⟩
      · have e : u.toInt64 = 1000000000000 := Int64.toInt_inj.mp (by rw [Int64.lt_iff_toInt_lt] at c2 c3; omega)
        simp only [c2, c3, if_true, if_false, e]
        exact ⟨_, rfl, rfl⟩
  · simp only [c1, if_false]
    by_cases c2 : u.toInt64 < a + x
    · have c3 : ¬ a + x < u.toInt64 := by rw [Int64.lt_iff_toInt_lt] at c2 ⊢; omega
      simp only [c2, c3, if_true, if_false]
      exact ⟨_, rfl, rfl⟩
    · by_cases c3 : a + x < u.toInt64
      · simp only [c2, c3, if_true, if_false, Int64.sub_self]
        exact ⟨_, rfl, rfl⟩
      · have e : u.toInt64 = a + x := Int64.toInt_inj.mp (by rw [Int64.lt_iff_toInt_lt] at c2 c3; omega)
        have n5 : ¬ a + x < a + x := by rw [Int64.lt_iff_toInt_lt]; omega
        simp only [e, n5, if_false, Int64.sub_self]
        exact ⟨_, rfl, rfl⟩
theorem zq_owed {M M2 : q_Mem} (hi : z_Inv M) (hL2 : z_Lay M2) (e9 : q_I M2 109 = q_I M 109) {i n : Nat} (hj : i < z_m (q_I M 109) 10) (hn : n ≤ 1000) : ∀ (d j fu : Nat) (a : Int64), j + d = n → d < fu → ∃ r, f_X11_owed_b46 M 0 (nI i) (nI n) fu a (nI j) = some r ∧ f_X12_owed_b42 M2 108 (nI i) (nI n) fu a (nI j) = some r := by
  have hL := hi.1
  intro d
  induction d with
  | zero =>
    intro j fu a hd hf
    obtain ⟨g, rfl⟩ : ∃ g, fu = g + 1 := ⟨fu - 1, by omega⟩
    obtain rfl : j = n := by omega
    have hx : (nI j < nI j) = False := eq_false (nI_nlt (Nat.le_refl _) (by omega))
    simp only [f_X11_owed_b46.eq_2, f_X12_owed_b42.eq_2, hx, if_false]
    exact ⟨_, rfl, rfl⟩
  | succ d ih =>
    intro j fu a hd hf
    obtain ⟨g, rfl⟩ : ∃ g, fu = g + 1 := ⟨fu - 1, by omega⟩
    have hx : (nI j < nI n) = True := eq_true (nI_lt (by omega) (by omega))
    obtain ⟨r, h1, h2⟩ := zs_week hi hL2 e9 hj a
    simp only [f_X11_owed_b46.eq_2, f_X12_owed_b42.eq_2, hx, if_true, zo_0 hL, zo_1 hL, Option.bind_some, h1, h2, ← nI_succ]
    exact ih _ _ _ (by omega) (by omega)
theorem zq_ends {M M2 : q_Mem} (hi : z_Inv M) (hL2 : z_Lay M2) (e9 : q_I M2 109 = q_I M 109) {i : Nat} (hj : i < z_m (q_I M 109) 10) : ∀ (d j fu : Nat) (a : Int64), j + d = 1001 → d < fu → ∃ r, f_X11_ends_b34 M 0 (nI i) fu a (nI j) = some r ∧ f_X12_ends_b30 M2 108 (nI i) fu a (nI j) = some r := by
  have hL := hi.1
  intro d
  induction d with
  | zero =>
    intro j fu a hd hf
    obtain ⟨g, rfl⟩ : ∃ g, fu = g + 1 := ⟨fu - 1, by omega⟩
    obtain rfl : j = 1001 := by omega
    have hx : ((1000 : Int32) < nI 1001) = True := eq_true (by decide)
    simp only [f_X11_ends_b34.eq_2, f_X12_ends_b30.eq_2, hx, if_true]
    exact ⟨_, rfl, rfl⟩
  | succ d ih =>
    intro j fu a hd hf
    obtain ⟨g, rfl⟩ : ∃ g, fu = g + 1 := ⟨fu - 1, by omega⟩
    have hx : ((1000 : Int32) < nI j) = False := eq_false (show ¬ nI 1000 < nI j from nI_nlt (by omega) (by omega))
    obtain ⟨r, h1, h2⟩ := zs_week hi hL2 e9 hj a
    simp only [f_X11_ends_b34.eq_2, f_X12_ends_b30.eq_2, hx, if_false, zo_0 hL, zo_1 hL, Option.bind_some, h1, h2, ← nI_succ]
    by_cases c : r = 0
    · simp only [c, if_true]
      exact ⟨_, rfl, rfl⟩
    · simp only [c, if_false]
      exact ih _ _ _ (by omega) (by omega)
theorem Z_owed_ok : Z_owed := by
  intro M p1 p2 hi
  have hL := hi.1
  obtain ⟨R, h3, hm, hcn⟩ := zt_10 hi
  have hh := z_has (x := p1) R h3 hm
  have hs : f_X12_is M 108 (9 : Int32) p1 = some (q_b (0 ≤ p1.toInt ∧ p1.toInt < (z_m (q_I M 109) 10 : Int))) := z_m_is (t := 0) (j := 9) hL (by decide) hcn (by omega)
  by_cases g0 : 0 ≤ p1.toInt ∧ p1.toInt < (z_m (q_I M 109) 10 : Int)
  · by_cases g1 : (0 : Int32).toInt ≤ p2.toInt ∧ p2.toInt ≤ (1000 : Int32).toInt
    · obtain ⟨i, hj, rfl⟩ := z_of g0 (by omega)
      obtain ⟨n, hn, rfl⟩ := z_of (v := p2) (n := 1001) ⟨g1.1, by have := g1.2; have e : (1000 : Int32).toInt = 1000 := rfl; omega⟩ (by decide)
      obtain ⟨r, h1, h2⟩ := zq_owed (n := n) hi hL rfl hj (by omega) n 0 q_fuel (q_I M 109 (4746 + 3 * i)).toInt64 (by omega) (by unfold q_fuel; omega)
      have h1' : f_X11_owed_b46 M 0 (nI i) (nI n) q_fuel (q_I M 109 (4746 + 3 * i)).toInt64 0 = some r := h1
      have h2' : f_X12_owed_b42 M 108 (nI i) (nI n) q_fuel (q_I M 109 (4746 + 3 * i)).toInt64 0 = some r := h2
      refine ⟨r, ?_, ?_, hi⟩
      · simp only [f_X11_owed, zob_0 hL, zo_0 hL, zo_1 hL, hh, z_c_within, Option.bind_some, z_b0, g0, g1, and_self, if_true, zr_10 hi hj, h1']
      · simp only [f_X12_owed, zob_108 hL, zo_108 hL, hs, z_m_in, Option.bind_some, z_b0, g0, g1, and_self, if_true, zg_10 hL (show i < 6 by omega), h2']
    · refine ⟨-2, ?_, ?_, hi⟩
      · simp only [f_X11_owed, zob_0 hL, zo_0 hL, zo_1 hL, hh, z_c_within, Option.bind_some, z_b0, g0, g1, and_self, if_true, if_false]
      · simp only [f_X12_owed, zob_108 hL, hs, z_m_in, Option.bind_some, z_b0, g0, g1, and_self, if_true, if_false]
  · refine ⟨-2, ?_, ?_, hi⟩
    · simp only [f_X11_owed, zob_0 hL, zo_0 hL, zo_1 hL, hh, Option.bind_some, z_b0, g0, if_false]
    · simp only [f_X12_owed, zob_108 hL, hs, Option.bind_some, z_b0, g0, if_false]
theorem Z_ends_ok : Z_ends := by
  intro M p1 hi
  have hL := hi.1
  obtain ⟨R, h3, hm, hcn⟩ := zt_10 hi
  have hh := z_has (x := p1) R h3 hm
  have hs : f_X12_is M 108 (9 : Int32) p1 = some (q_b (0 ≤ p1.toInt ∧ p1.toInt < (z_m (q_I M 109) 10 : Int))) := z_m_is (t := 0) (j := 9) hL (by decide) hcn (by omega)
  by_cases g0 : 0 ≤ p1.toInt ∧ p1.toInt < (z_m (q_I M 109) 10 : Int)
  · obtain ⟨i, hj, rfl⟩ := z_of g0 (by omega)
    obtain ⟨r, h1, h2⟩ := zq_ends hi hL rfl hj 1000 1 q_fuel (q_I M 109 (4746 + 3 * i)).toInt64 (by omega) (by unfold q_fuel; omega)
    have h1' : f_X11_ends_b34 M 0 (nI i) q_fuel (q_I M 109 (4746 + 3 * i)).toInt64 1 = some r := h1
    have h2' : f_X12_ends_b30 M 108 (nI i) q_fuel (q_I M 109 (4746 + 3 * i)).toInt64 1 = some r := h2
    refine ⟨r, ?_, ?_, hi⟩
    · simp only [f_X11_ends, zob_0 hL, zo_0 hL, zo_1 hL, hh, Option.bind_some, z_b0, g0, and_self, if_true, zr_10 hi hj, h1']
    · simp only [f_X12_ends, zob_108 hL, zo_108 hL, hs, Option.bind_some, z_b0, g0, and_self, if_true, zg_10 hL (show i < 6 by omega), h2']
  · refine ⟨-2, ?_, ?_, hi⟩
    · simp only [f_X11_ends, zob_0 hL, zo_0 hL, zo_1 hL, hh, Option.bind_some, z_b0, g0, if_false]
    · simp only [f_X12_ends, zob_108 hL, hs, Option.bind_some, z_b0, g0, if_false]
theorem zq_foretold {M M2 : q_Mem} (hi : z_Inv M) (hL2 : z_Lay M2) (e9 : q_I M2 109 = q_I M 109) (f wk : Int32) : ∀ (d i fu : Nat) (a : Int32), i + d = z_m (q_I M 109) 8 → d < fu → ∃ r, f_X11_foretold_b38 M 0 f wk 18 fu a (nI i) = some r ∧ f_X12_foretold_b24 M2 108 f wk fu a (nI i) = some r := by
  have hL := hi.1
  obtain ⟨R, h3, hm, hcn⟩ := zt_8 hi
  intro d
  induction d with
  | zero =>
    intro i fu a hd hf
    obtain ⟨g, rfl⟩ : ∃ g, fu = g + 1 := ⟨fu - 1, by omega⟩
    obtain rfl : i = z_m (q_I M 109) 8 := by omega
    have hn : (nI (z_m (q_I M 109) 8) < nI (z_m (q_I M 109) 8)) = False := eq_false (nI_nlt (Nat.le_refl _) (by omega))
    simp only [f_X11_foretold_b38.eq_2, f_X12_foretold_b24.eq_2, zo_0 hL, zo_1 hL, za_25 hL, z_m_in, z_b0, zo_18 hL, h3, zo_108 hL2, zl_ hL2, e9, hcn, Option.bind_some, hn, if_false]
    exact ⟨_, rfl, rfl⟩
  | succ d ih =>
    intro i fu a hd hf
    obtain ⟨g, rfl⟩ : ∃ g, fu = g + 1 := ⟨fu - 1, by omega⟩
    have hj : i < z_m (q_I M 109) 8 := by omega
    have hn : (nI i < nI (z_m (q_I M 109) 8)) = True := eq_true (nI_lt hj (by omega))
    simp only [f_X11_foretold_b38.eq_2, f_X12_foretold_b24.eq_2, zo_0 hL, zo_1 hL, za_25 hL, z_m_in, z_b0, zo_18 hL, h3, zo_108 hL2, zl_ hL2, e9, hcn, Option.bind_some, hn, zr_8 hi hj, zg_8 hL2 (show i < 40 by omega), if_true, ← nI_succ, f_X12_foretold_b106, Int32.add_zero]
    have h0 : (0 : Int32).toInt = 0 := rfl
    have h51 : (51 : Int32).toInt = 51 := rfl
    have h52 : (nI 52).toInt = 52 := rfl
    by_cases c0 : q_I M 109 (4608 + 3 * i) = f
    · simp only [c0, if_true]
      by_cases c1 : (0 : Int32).toInt ≤ (wk - q_I M 109 (4608 + 3 * i + 1)).toInt ∧ (wk - q_I M 109 (4608 + 3 * i + 1)).toInt ≤ (51 : Int32).toInt
      · obtain ⟨k, hk, ek⟩ := z_of (v := wk - q_I M 109 (4608 + 3 * i + 1)) (n := 52) ⟨c1.1, by omega⟩ (by decide)
        have n1 : (nI k < 0) = False := eq_false (show ¬ nI k < nI 0 from nI_nlt (Nat.zero_le _) (by omega))
        have n2 : (nI k < nI 52) = True := eq_true (nI_lt hk (by decide))
        have r2 : q_lI M2 109 ((4556 : Int32) + nI k) = some (q_I M 25 k) := by rw [show (4556 : Int32) = nI 4556 from rfl, nI_add, z_st_lit hL2 (by omega), e9]; exact congrArg some ((hi.2.2.2.2.1.2.2.1 k hk).1).symm
        simp only [ek] at c1
        simp only [ek, c1, n1, n2, and_self, if_true, if_false, (za_25 hL).2.1 k hk, r2, Option.bind_some]
        exact ih _ _ _ (by omega) (by omega)
      · by_cases n1 : (wk - q_I M 109 (4608 + 3 * i + 1)) < 0
        · simp only [c1, n1, if_true, if_false]
          exact ih _ _ _ (by omega) (by omega)
        · have n2 : ((wk - q_I M 109 (4608 + 3 * i + 1)) < nI 52) = False := eq_false (fun z => by rw [q_lt_iff] at z n1; omega)
          simp only [c1, n1, n2, if_false]
          exact ih _ _ _ (by omega) (by omega)
    · simp only [c0, if_false]
      exact ih _ _ _ (by omega) (by omega)
theorem Z_foretold_ok : Z_foretold := by
  intro M p1 p2 hi
  have hL := hi.1
  obtain ⟨R, h3, hm, hcn⟩ := zt_0 hi
  obtain ⟨R8, h38, hm8, hcn8⟩ := zt_8 hi
  have hh := z_has (x := p1) R h3 hm
  have hs : f_X12_is M 108 (0 : Int32) p1 = some (q_b (0 ≤ p1.toInt ∧ p1.toInt < (z_m (q_I M 109) 0 : Int))) := z_m_is (t := 0) (j := 0) hL (by decide) hcn (by omega)
  by_cases g0 : 0 ≤ p1.toInt ∧ p1.toInt < (z_m (q_I M 109) 0 : Int)
  · by_cases g1 : (0 : Int32).toInt ≤ p2.toInt ∧ p2.toInt ≤ (27 : Int32).toInt
    · obtain ⟨r, h1, h2⟩ := zq_foretold hi hL rfl p1 p2 (z_m (q_I M 109) 8) 0 q_fuel 0 (by omega) (by unfold q_fuel; omega)
      have h1' : f_X11_foretold_b38 M 0 p1 p2 18 q_fuel 0 0 = some r := h1
      have h2' : f_X12_foretold_b24 M 108 p1 p2 q_fuel 0 0 = some r := h2
      refine ⟨r, ?_, ?_, hi⟩
      · simp only [f_X11_foretold, zob_0 hL, zo_0 hL, zo_1 hL, hh, z_c_isWeek, Option.bind_some, z_b0, g0, g1, and_self, if_true, h1']
      · simp only [f_X12_foretold, zob_108 hL, hs, z_m_isWeek, Option.bind_some, z_b0, g0, g1, and_self, if_true, h2']
    · refine ⟨-2, ?_, ?_, hi⟩
      · simp only [f_X11_foretold, zob_0 hL, zo_0 hL, zo_1 hL, hh, z_c_isWeek, Option.bind_some, z_b0, g0, g1, and_self, if_true, if_false]
      · simp only [f_X12_foretold, zob_108 hL, hs, z_m_isWeek, Option.bind_some, z_b0, g0, g1, and_self, if_true, if_false]
  · refine ⟨-2, ?_, ?_, hi⟩
    · simp only [f_X11_foretold, zob_0 hL, zo_0 hL, zo_1 hL, hh, Option.bind_some, z_b0, g0, if_false]
    · simp only [f_X12_foretold, zob_108 hL, hs, Option.bind_some, z_b0, g0, if_false]
theorem z_ab (x : Int32) : q_ab x = if x < 0 then -x else x := by
  unfold q_ab
  by_cases h : (0 : Int32) ≤ x
  · rw [if_pos h, if_neg]
    rw [q_lt_iff]
    rw [q_le_iff] at h
    omega
  · rw [if_neg h, if_pos, Int32.zero_sub]
    rw [q_lt_iff]
    rw [q_le_iff] at h
    omega
theorem z_m_size {M : q_Mem} (x : Int32) : f_X12_size M x = some (q_ab x) := by
  unfold f_X12_size
  rw [z_ab]
  split <;> rfl
def z_D (st : Nat → Int32) (f s : Nat) : Int32 := q_ab (st (20 + 4 * f) - st (4728 + 3 * s)) + q_ab (st (20 + 4 * f + 1) - st (4728 + 3 * s + 1))
theorem zs_dist {M M2 : q_Mem} (hi : z_Inv M) (hL2 : z_Lay M2) (e9 : q_I M2 109 = q_I M 109) {f s : Nat} (hf : f < z_m (q_I M 109) 0) (hs : s < z_m (q_I M 109) 9) : f_X11_milesBetween M 2 (nI f) 20 (nI s) = some (z_D (q_I M 109) f s) ∧ f_X12_toSite M2 108 (nI f) (nI s) = some (z_D (q_I M 109) f s) := by
  have hL := hi.1
  obtain ⟨R, h3, hm, hcn⟩ := zt_0 hi
  obtain ⟨R9, h39, hm9, hcn9⟩ := zt_9 hi
  constructor
  · simp only [f_X11_milesBetween, zr_0 hi hf, zr_9 hi hs, Option.bind_some]
    rfl
  · simp only [f_X12_toSite, f_X12_farmMiles, f_X12_miles, z_m_size, zob_108 hL2, zo_108 hL2, zg_0 hL2 (show f < 20 by omega), zg_9 hL2 (show s < 6 by omega), e9, Option.bind_some]
    rfl

theorem zq_nearest {M M2 : q_Mem} (hi : z_Inv M) (hL2 : z_Lay M2) (e9 : q_I M2 109 = q_I M 109) {f : Nat} (hf0 : f < z_m (q_I M 109) 0) (set : Int32) : ∀ (d i fu : Nat) (a : Int32) (b : Int32), i + d = z_m (q_I M 109) 9 → d < fu → (a = -1 ∨ ∃ s, s < z_m (q_I M 109) 9 ∧ a = nI s ∧ b = z_D (q_I M 109) f s) → ∃ r, f_X10_nearestOf_b8 M 107 (nI f) set fu a b (nI i) = some r ∧ f_X12_nearestOf_b5 M2 108 (nI f) set fu a (nI i) = some r := by
  have hL := hi.1
  obtain ⟨R, h3, hm, hcn⟩ := zt_9 hi
  intro d
  induction d with
  | zero =>
    intro i fu a b hd hf hp
    obtain ⟨g, rfl⟩ : ∃ g, fu = g + 1 := ⟨fu - 1, by omega⟩
    obtain rfl : i = z_m (q_I M 109) 9 := by omega
    have hn : (nI (z_m (q_I M 109) 9) < nI (z_m (q_I M 109) 9)) = False := eq_false (nI_nlt (Nat.le_refl _) (by omega))
    simp only [f_X10_nearestOf_b8.eq_2, f_X12_nearestOf_b5.eq_2, zo_107 hL, zo_1 hL, f_X11_holds, zo_20 hL, h3, zo_108 hL2, zl_ hL2, e9, hcn, Option.bind_some, hn, if_false]
    exact ⟨_, rfl, rfl⟩
  | succ d ih =>
    intro i fu a b hd hf hp
    obtain ⟨g, rfl⟩ : ∃ g, fu = g + 1 := ⟨fu - 1, by omega⟩
    have hj : i < z_m (q_I M 109) 9 := by omega
    have hn : (nI i < nI (z_m (q_I M 109) 9)) = True := eq_true (nI_lt hj (by omega))
    simp only [f_X10_nearestOf_b8.eq_2, f_X12_nearestOf_b5.eq_2, zo_107 hL, zo_1 hL, f_X11_holds, zo_20 hL, h3, zo_108 hL2, zl_ hL2, e9, hcn, Option.bind_some, hn, zr_9 hi hj, zg_9 hL2 (show i < 6 by omega), if_true, ← nI_succ, f_X10_nearestOf_b72, f_X12_nearestOf_b48, zs_dist hi hL2 e9 hf0 hj]
    by_cases c0 : ((set >>> (nI i &&& 31)) &&& (1 : Int32)) = (1 : Int32)
    · simp only [c0, if_true, Option.bind_some, show ((1 : Int32) = 0) = False from by decide, if_false]
      by_cases c1 : a = -1
      · simp only [c1, if_true]
        exact ih _ _ _ _ (by omega) (by omega) (Or.inr ⟨i, hj, rfl, rfl⟩)
      · obtain ⟨s, hs, ea, eb⟩ := hp.resolve_left c1
        subst ea
        simp only [c1, if_false, zs_dist hi hL2 e9 hf0 hs, eb, Option.bind_some]
        by_cases c2 : z_D (q_I M 109) f i < z_D (q_I M 109) f s
        · simp only [c2, if_true]
          exact ih _ _ _ _ (by omega) (by omega) (Or.inr ⟨i, hj, rfl, rfl⟩)
        · simp only [c2, if_false]
          exact ih _ _ _ _ (by omega) (by omega) (Or.inr ⟨s, hs, rfl, rfl⟩)
    · simp only [c0, if_false, Option.bind_some, if_true]
      exact ih _ _ _ _ (by omega) (by omega) hp
theorem z_sh31 : ∀ m, m < 32 → (nI m &&& 31).toBitVec.smod 32#32 = BitVec.ofNat 32 m := by decide +kernel
theorem z_shr {x : Int32} {m : Nat} (hm : m < 32) : (x >>> (nI m &&& 31)).toInt = x.toInt / 2 ^ m := by
  have e : (x >>> (nI m &&& 31)).toInt = (x.toBitVec.sshiftRight' ((nI m &&& 31).toBitVec.smod 32#32)).toInt := rfl
  rw [e, z_sh31 m hm, BitVec.toInt_sshiftRight', Int.shiftRight_eq_div_pow, BitVec.toNat_ofNat, Nat.mod_eq_of_lt (by omega)]
  rfl
theorem z_shr0 {x : Int32} {m : Nat} (hm : m < 32) : (x >>> (nI m &&& 31) = 0) ↔ (0 ≤ x.toInt ∧ x.toInt < 2 ^ m) := by
  rw [q_eq_iff, z_shr hm]
  have h0 : (0 : Int32).toInt = 0 := rfl
  have h := Nat.pow_pos (n := m) (show 0 < 2 by decide)
  have e4 : ((2 : Int) ^ m) = ((2 ^ m : Nat) : Int) := by norm_cast
  rw [h0, e4]
  generalize 2 ^ m = p at h
  have hp : (0 : Int) < (p : Int) := by omega
  rw [Int.ediv_eq_iff_of_pos hp, Int.zero_mul, Int.zero_add]
theorem z_full1 : ∀ m, m < 7 → (1 : Int32) <<< (nI m &&& 31) - 1 = nI (2 ^ m - 1) := by decide +kernel
theorem Z_nearest_ok : Z_nearest := by
  intro M p1 p2 hi
  have hL := hi.1
  obtain ⟨R, h3, hm, hcn⟩ := zt_0 hi
  obtain ⟨R9, h39, hm9, hcn9⟩ := zt_9 hi
  have hh := z_has (x := p1) R h3 hm
  have hs : f_X12_is M 108 (0 : Int32) p1 = some (q_b (0 ≤ p1.toInt ∧ p1.toInt < (z_m (q_I M 109) 0 : Int))) := z_m_is (t := 0) (j := 0) hL (by decide) hcn (by omega)
  by_cases g0 : 0 ≤ p1.toInt ∧ p1.toInt < (z_m (q_I M 109) 0 : Int)
  · have h0 : (0 : Int32).toInt = 0 := rfl
    have h1 : (1 : Int32).toInt = 1 := rfl
    have hmm := hm9
    generalize hmg : z_m (q_I M 109) 9 = m at *
    have e1 := z_full1 m (by omega)
    have hpow : 2 ^ m < 2147483648 := Nat.lt_of_le_of_lt (Nat.pow_le_pow_right (by decide) (show m ≤ 6 by omega)) (by decide)
    have hpos : 0 < 2 ^ m := Nat.pow_pos (by decide)
    have e2 : (nI (2 ^ m - 1)).toInt = (2 ^ m : Nat) - 1 := by rw [nI_toInt (by omega)]; omega
    have e3 := z_shr0 (x := p2) (m := m) (by omega)
    have e4 : ((2 : Int) ^ m) = ((2 ^ m : Nat) : Int) := by norm_cast
    rw [e4] at e3
    by_cases g1 : (1 : Int32).toInt ≤ p2.toInt ∧ p2.toInt ≤ (nI (2 ^ m - 1)).toInt
    · have n1 : ¬ p2 = 0 := fun z => by rw [z, h0, h1] at g1; omega
      have n2 : ¬ p2 < 0 := fun z => by rw [q_lt_iff] at z; omega
      have n3 : p2 >>> (nI m &&& 31) = 0 := e3.mpr ⟨by omega, by omega⟩
      obtain ⟨i, hj, rfl⟩ := z_of g0 (by omega)
      obtain ⟨r, r1, r2⟩ := zq_nearest hi hL rfl hj p2 m 0 q_fuel (-1) 0 (by omega) (by unfold q_fuel; omega) (Or.inl rfl)
      have r1' : f_X10_nearestOf_b8 M 107 (nI i) p2 q_fuel (-1) 0 0 = some r := r1
      have r2' : f_X12_nearestOf_b5 M 108 (nI i) p2 q_fuel (-1) 0 = some r := r2
      refine ⟨r, ?_, ?_, hi⟩
      · simp only [f_X11_nearest, f_X11_isSet, f_X10_nearestOf, zob_0 hL, zob_107 hL, zo_0 hL, zo_1 hL, zo_20 hL, h39, hh, Option.bind_some, z_b0, g0, and_self, if_true, n1, n2, n3, if_false, show ((1 : Int32) = 0) = False from by decide, r1']
      · simp only [f_X12_nearest, f_X12_nearestOf, zob_108 hL, zo_108 hL, zl_ hL, hcn9, hs, z_m_in, e1, Option.bind_some, z_b0, g0, g1, and_self, if_true, r2']
    · refine ⟨-2, ?_, ?_, hi⟩
      · by_cases n1 : p2 = 0
        · simp only [f_X11_nearest, zob_0 hL, zo_0 hL, zo_1 hL, hh, Option.bind_some, z_b0, g0, and_self, if_true, n1]
        · by_cases n2 : p2 < 0
          · simp only [f_X11_nearest, f_X11_isSet, zob_0 hL, zo_0 hL, zo_1 hL, hh, Option.bind_some, z_b0, g0, and_self, if_true, n1, n2, if_false]
          · have n3 : ¬ p2 >>> (nI m &&& 31) = 0 := fun z => by
              have := e3.mp z
              refine g1 ⟨?_, by omega⟩
              rw [q_eq_iff, h0] at n1
              omega
            simp only [f_X11_nearest, f_X11_isSet, zob_0 hL, zo_0 hL, zo_1 hL, zo_20 hL, h39, hh, Option.bind_some, z_b0, g0, and_self, if_true, n1, n2, n3, if_false]
      · simp only [f_X12_nearest, zob_108 hL, zo_108 hL, zl_ hL, hcn9, hs, z_m_in, e1, Option.bind_some, z_b0, g0, g1, and_self, if_true, if_false]
  · refine ⟨-2, ?_, ?_, hi⟩
    · simp only [f_X11_nearest, zob_0 hL, zo_0 hL, zo_1 hL, hh, Option.bind_some, z_b0, g0, if_false, if_true]
    · simp only [f_X12_nearest, zob_108 hL, hs, Option.bind_some, z_b0, g0, if_false, if_true]
