/-! ===== churns and fat: canRate, fat, lead, about ===== -/
theorem zq_fat {M M2 : q_Mem} (hi : z_Inv M) (hL2 : z_Lay M2) (e9 : q_I M2 109 = q_I M 109) (hr : ∀ k, k < z_m (q_I M 109) 2 → q_I M 79 k = q_I M2 112 k) (f wk : Int32) : ∀ (d i fu : Nat) (a : Int64), i + d = z_m (q_I M 109) 1 → d < fu → ∃ r, f_X6_fatOfWeek_b14 M 78 f wk 4 fu a (nI i) = some r ∧ f_X12_fat_b38 M2 108 f wk fu a (nI i) = some (r, M2) := by
  have hL := hi.1
  obtain ⟨R, h3, hm, hcn⟩ := zt_1 hi
  intro d
  induction d with
  | zero =>
    intro i fu a hd hf
    obtain ⟨g, rfl⟩ : ∃ g, fu = g + 1 := ⟨fu - 1, by omega⟩
    obtain rfl : i = z_m (q_I M 109) 1 := by omega
    have hn : (nI (z_m (q_I M 109) 1) < nI (z_m (q_I M 109) 1)) = False := eq_false (nI_nlt (Nat.le_refl _) (by omega))
    simp only [f_X6_fatOfWeek_b14.eq_2, f_X12_fat_b38.eq_2, zo_4 hL, h3, zo_108 hL2, zl_ hL2, e9, hcn, Option.bind_some, hn, if_false]
    exact ⟨_, rfl, rfl⟩
  | succ d ih =>
    intro i fu a hd hf
    obtain ⟨g, rfl⟩ : ∃ g, fu = g + 1 := ⟨fu - 1, by omega⟩
    have hj : i < z_m (q_I M 109) 1 := by omega
    have hn : (nI i < nI (z_m (q_I M 109) 1)) = True := eq_true (nI_lt hj (by omega))
    obtain ⟨x, x1, x2⟩ := zs_fatOfCan ⟨hi, hL2, e9, hr⟩ hj
    simp only [f_X6_fatOfWeek_b14.eq_2, f_X12_fat_b38.eq_2, zo_4 hL, h3, zo_108 hL2, zl_ hL2, e9, hcn, Option.bind_some, hn, zr_1 hi hj, zg_1 hL2 (show i < 300 by omega), if_true, ← nI_succ, f_X12_fat_b97, x1, x2, Int64.add_zero, z_dv0 (show (7 : Int32) ≠ 0 by decide)]
    rcases Classical.propComplete (q_I M 109 (100 + 4 * i) = f) with c0 | c0
    all_goals rcases Classical.propComplete (q_I M 109 (100 + 4 * i + 1) / 7 = wk) with c1 | c1
    all_goals (simp only [c0, c1, if_true, if_false]; exact ih _ _ _ (by omega) (by omega))
theorem zq_churnFat {M M2 : q_Mem} (hi : z_Inv M) (hL2 : z_Lay M2) (e9 : q_I M2 109 = q_I M 109) (hr : ∀ k, k < z_m (q_I M 109) 2 → q_I M 79 k = q_I M2 112 k) (c f : Int32) : ∀ (d i fu : Nat) (a : Int64), i + d = z_m (q_I M 109) 1 → d < fu → ∃ r, f_X4_fatOf_b5 M 80 c f fu a (nI i) = some r ∧ f_X12_churnFat_b5 M2 108 c f fu a (nI i) = some r := by
  have hL := hi.1
  obtain ⟨R, h3, hm, hcn⟩ := zt_1 hi
  intro d
  induction d with
  | zero =>
    intro i fu a hd hf
    obtain ⟨g, rfl⟩ : ∃ g, fu = g + 1 := ⟨fu - 1, by omega⟩
    obtain rfl : i = z_m (q_I M 109) 1 := by omega
    have hn : (nI (z_m (q_I M 109) 1) < nI (z_m (q_I M 109) 1)) = False := eq_false (nI_nlt (Nat.le_refl _) (by omega))
    simp only [f_X4_fatOf_b5.eq_2, f_X12_churnFat_b5.eq_2, zo_80 hL, zo_1 hL, zo_4 hL, h3, zo_108 hL2, zl_ hL2, e9, hcn, Option.bind_some, hn, if_false]
    exact ⟨_, rfl, rfl⟩
  | succ d ih =>
    intro i fu a hd hf
    obtain ⟨g, rfl⟩ : ∃ g, fu = g + 1 := ⟨fu - 1, by omega⟩
    have hj : i < z_m (q_I M 109) 1 := by omega
    have hn : (nI i < nI (z_m (q_I M 109) 1)) = True := eq_true (nI_lt hj (by omega))
    obtain ⟨x, x1, x2⟩ := zs_fatOfCan ⟨hi, hL2, e9, hr⟩ hj
    simp only [f_X4_fatOf_b5.eq_2, f_X12_churnFat_b5.eq_2, zo_80 hL, zo_1 hL, zo_4 hL, h3, zo_108 hL2, zl_ hL2, e9, hcn, Option.bind_some, hn, zr_1 hi hj, zg_1 hL2 (show i < 300 by omega), if_true, ← nI_succ, f_X4_fatOf_b62, f_X12_churnFat_b65, f_X12_churnFat_b56, x1, x2, Int64.add_zero]
    rcases Classical.propComplete (q_I M 109 (100 + 4 * i + 3) = c) with c0 | c0
    all_goals rcases Classical.propComplete (f = (-1 : Int32)) with c1 | c1
    all_goals rcases Classical.propComplete (q_I M 109 (100 + 4 * i) = f) with c2 | c2
    all_goals (simp only [c0, c1, c2, if_true, if_false]; exact ih _ _ _ (by omega) (by omega))
theorem zq_loss {M M2 : q_Mem} (hi : z_Inv M) (hL2 : z_Lay M2) (e9 : q_I M2 109 = q_I M 109) {c : Nat} (hc : c < z_m (q_I M 109) 3) : ∀ (d i fu : Nat) (a : Int32), i + d = z_m (q_I M 109) 1 → d < fu → ∃ r, f_X4_lossOf_b18 M 80 (nI c) (q_I M 109 (2700 + 3 * c)) fu a (nI i) = some r ∧ f_X12_lossOf_b4 M2 108 (nI c) fu a (nI i) = some r := by
  have hL := hi.1
  obtain ⟨R, h3, hm, hcn⟩ := zt_1 hi
  obtain ⟨R3, h33, hm3, hcn3⟩ := zt_3 hi
  intro d
  induction d with
  | zero =>
    intro i fu a hd hf
    obtain ⟨g, rfl⟩ : ∃ g, fu = g + 1 := ⟨fu - 1, by omega⟩
    obtain rfl : i = z_m (q_I M 109) 1 := by omega
    have hn : (nI (z_m (q_I M 109) 1) < nI (z_m (q_I M 109) 1)) = False := eq_false (nI_nlt (Nat.le_refl _) (by omega))
    simp only [f_X4_lossOf_b18.eq_2, f_X12_lossOf_b4.eq_2, zo_80 hL, zo_1 hL, f_X4_lossOf_b76, f_X12_lossOf_b78, zr_3 hi hc, zg_3 hL2 (show c < 40 by omega), z_m_size, zo_4 hL, h3, zo_108 hL2, zl_ hL2, e9, hcn, Option.bind_some, hn, if_false]
    exact ⟨_, rfl, rfl⟩
  | succ d ih =>
    intro i fu a hd hf
    obtain ⟨g, rfl⟩ : ∃ g, fu = g + 1 := ⟨fu - 1, by omega⟩
    have hj : i < z_m (q_I M 109) 1 := by omega
    have hn : (nI i < nI (z_m (q_I M 109) 1)) = True := eq_true (nI_lt hj (by omega))
    simp only [f_X4_lossOf_b18.eq_2, f_X12_lossOf_b4.eq_2, zo_80 hL, zo_1 hL, f_X4_lossOf_b76, f_X12_lossOf_b78, zr_3 hi hc, zg_3 hL2 (show c < 40 by omega), z_m_size, zo_4 hL, h3, zo_108 hL2, zl_ hL2, e9, hcn, Option.bind_some, hn, zr_1 hi hj, zg_1 hL2 (show i < 300 by omega), if_true, ← nI_succ, z_mx0]
    rcases Classical.propComplete (q_I M 109 (100 + 4 * i + 3) = nI c) with c0 | c0
    all_goals rcases Classical.propComplete (a < q_I M 109 (2700 + 3 * c) - q_I M 109 (100 + 4 * i + 1)) with c1 | c1
    all_goals (simp only [c0, c1, if_true, if_false]; exact ih _ _ _ (by omega) (by omega))
theorem z_fu {n : Nat} (h : n ≤ 300) : n < q_fuel := by
  unfold q_fuel
  omega
theorem zs_churnFat {M M2 : q_Mem} (h : z_RT M M2) (c f : Int32) : ∃ r, f_X4_fatOf M 80 c f = some r ∧ f_X12_churnFat M2 108 c f = some r := by
  obtain ⟨R1, h31, hm1, hcn1⟩ := zt_1 h.1
  obtain ⟨r, r1, r2⟩ := zq_churnFat h.1 h.2.1 h.2.2.1 h.2.2.2 c f (z_m (q_I M 109) 1) 0 q_fuel 0 (by omega) (z_fu hm1)
  refine ⟨r, ?_, ?_⟩
  · unfold f_X4_fatOf
    rw [zob_80 h.1.1]; exact r1
  · unfold f_X12_churnFat
    rw [zob_108 h.2.1]; exact r2
theorem zs_loss {M M2 : q_Mem} (hi : z_Inv M) (hL2 : z_Lay M2) (e9 : q_I M2 109 = q_I M 109) {c : Nat} (hc : c < z_m (q_I M 109) 3) : ∃ r, f_X4_lossOf M 80 (nI c) = some r ∧ f_X12_lossOf M2 108 (nI c) = some r := by
  have hL := hi.1
  obtain ⟨R1, h31, hm1, hcn1⟩ := zt_1 hi
  obtain ⟨r, r1, r2⟩ := zq_loss hi hL2 e9 hc (z_m (q_I M 109) 1) 0 q_fuel 0 (by omega) (z_fu hm1)
  have r1' : f_X4_lossOf_b18 M 80 (nI c) (q_I M 109 (2700 + 3 * c)) q_fuel 0 0 = some r := r1
  refine ⟨r, ?_, ?_⟩
  · simp only [f_X4_lossOf, zob_80 hL, zo_80 hL, zo_1 hL, zr_3 hi hc, Option.bind_some, r1']
  · unfold f_X12_lossOf
    rw [zob_108 hL2]; exact r2
theorem zs_butter {M M2 : q_Mem} (h : z_RT M M2) {c : Nat} (hc : c < z_m (q_I M 109) 3) : ∃ x, f_X4_butterOf M 80 (nI c) = some (x / 1000) ∧ f_X12_butter M2 108 (nI c) = some (x / 1000) := by
  have hi := h.1
  have hL := hi.1
  obtain ⟨r, r1, r2⟩ := zs_churnFat h (nI c) (-1)
  obtain ⟨l, l1, l2⟩ := zs_loss h.1 h.2.1 h.2.2.1 hc
  refine ⟨r * (1000 - l).toInt64, ?_, ?_⟩
  · simp only [f_X4_butterOf, zob_80 hL, r1, l1, Option.bind_some, z_ldv0 (show (1000 : Int64) ≠ 0 by decide)]
  · simp only [f_X12_butter, zob_108 h.2.1, r2, l2, Option.bind_some, z_ldv0 (show (1000 : Int64) ≠ 0 by decide)]
theorem z_div1000 (x : Int64) : -9223372036854776 ≤ (x / 1000).toInt ∧ (x / 1000).toInt ≤ 9223372036854776 := by
  rw [Int64.toInt_div_of_ne_right _ _ (show (1000 : Int64) ≠ -1 by decide)]
  have h1 := Int64.le_toInt x
  have h2 := Int64.toInt_lt x
  have e : (1000 : Int64).toInt = 1000 := rfl
  rw [e, Int.tdiv_eq_ediv, show Int.sign 1000 = 1 from rfl]
  split <;> omega
theorem zs_agrees {M M2 : q_Mem} (h : z_RT M M2) {c : Nat} (hc : c < z_m (q_I M 109) 3) : ∃ r, f_X4_agrees M 80 (nI c) = some r ∧ f_X12_agrees M2 108 (nI c) = some r := by
  have hi := h.1
  have hL := hi.1
  have e9 := h.2.2.1
  obtain ⟨R3, h33, hm3, hcn3⟩ := zt_3 hi
  obtain ⟨x, x1, x2⟩ := zs_butter h hc
  have hb := z_div1000 x
  have ov : z_bt (q_I M 109 (2700 + 3 * c + 2)) (-1) 300000000 := (hi.2.2.2.2.1.2.2.2 3 (by decide) c hc).2.2
  simp only [f_X4_agrees, f_X12_agrees, f_X12_agrees_b46, f_X11_asNumber, zob_80 hL, zo_80 hL, zo_1 hL, zr_3 hi hc, zob_108 h.2.1, zo_108 h.2.1, zg_3 h.2.1 (show c < 40 by omega), e9, x1, x2, Option.bind_some, z_ldv0 (show (1000 : Int64) ≠ 0 by decide)]
  generalize q_I M 109 (2700 + 3 * c + 2) = u at *
  generalize x / 1000 = y at *
  by_cases c0 : u = -1
  · simp only [c0, if_true]
    exact ⟨_, rfl, rfl⟩
  · simp only [c0, if_false, if_true, show ((1 : Int32) = 0) = False from by decide]
    have hu : u.toInt64.toInt = u.toInt := Int32.toInt_toInt64 u
    have o1 := ov.1
    have o2 := ov.2
    have hs : (u.toInt64 - y).toInt = u.toInt - y.toInt := by
      rw [Int64.toInt_sub, hu]
      exact Int.bmod_eq_of_le (by omega) (by omega)
    have hs2 : (y - u.toInt64).toInt = y.toInt - u.toInt := by
      rw [Int64.toInt_sub, hu]
      exact Int.bmod_eq_of_le (by omega) (by omega)
    have key : q_abJ (u.toInt64 - y) = if u.toInt64 < y then y - u.toInt64 else u.toInt64 - y := by
      unfold q_abJ
      have z0 : (0 : Int64).toInt = 0 := rfl
      by_cases k1 : (0 : Int64) < u.toInt64 - y
      · rw [if_pos k1, if_neg]
        rw [Int64.lt_iff_toInt_lt] at k1 ⊢
        omega
      · rw [if_neg k1, Int64.neg_sub]
        by_cases k2 : u.toInt64 < y
        · rw [if_pos k2]
        · rw [if_neg k2]
          rw [Int64.lt_iff_toInt_lt] at k1 k2
          exact Int64.toInt_inj.mp (by omega)
    rw [key]
    by_cases c1 : u.toInt64 < y
    · simp only [c1, if_true]
      split <;> exact ⟨_, rfl, rfl⟩
    · simp only [c1, if_false]
      split <;> exact ⟨_, rfl, rfl⟩
theorem zs_cans {M M2 : q_Mem} (hi : z_Inv M) (hL2 : z_Lay M2) (e9 : q_I M2 109 = q_I M 109) (c : Int32) : ∃ r, f_X4_howManyCans M 80 c = some r ∧ f_X12_cansOf M2 108 c = some r := by
  obtain ⟨R1, h31, hm1, hcn1⟩ := zt_1 hi
  obtain ⟨r, r1, r2⟩ := zq_cans hi hL2 e9 c (z_m (q_I M 109) 1) 0 q_fuel 0 (by omega) (z_fu hm1)
  refine ⟨r, ?_, ?_⟩
  · unfold f_X4_howManyCans
    rw [zob_80 hi.1]; exact r1
  · unfold f_X12_cansOf
    rw [zob_108 hL2]; exact r2
theorem zs_boxes {M M2 : q_Mem} (hi : z_Inv M) (hL2 : z_Lay M2) (e9 : q_I M2 109 = q_I M 109) (c : Int32) : ∃ r, f_X4_howManyBoxes M 80 c = some r ∧ f_X12_boxesOf M2 108 c = some r := by
  obtain ⟨r, r1, r2⟩ := zq_boxes hi hL2 e9 c (z_m (q_I M 109) 4) 0 q_fuel 0 (by omega) (z_le_count hi)
  refine ⟨r, ?_, ?_⟩
  · unfold f_X4_howManyBoxes
    rw [zob_80 hi.1]; exact r1
  · unfold f_X12_boxesOf
    rw [zob_108 hL2]; exact r2
theorem zs_pence {M M2 : q_Mem} (hi : z_Inv M) (hL2 : z_Lay M2) (e9 : q_I M2 109 = q_I M 109) (c dd : Int32) : ∃ r, f_X4_penceOf M 80 c dd = some r ∧ f_X12_penceOf M2 108 c dd = some r := by
  have hL := hi.1
  obtain ⟨r, r1, r2⟩ := zq_penceOf hi hL2 e9 c dd (z_m (q_I M 109) 4) 0 q_fuel 0 (by omega) (z_le_count hi)
  have r1' : f_X4_penceOf_b14 M c dd 10 q_fuel 0 0 = some r := r1
  refine ⟨r, ?_, ?_⟩
  · simp only [f_X4_penceOf, zob_80 hL, zo_80 hL, zo_1 hL, Option.bind_some, r1']
  · unfold f_X12_penceOf
    rw [zob_108 hL2]; exact r2
theorem z_RT_of {M M1 M2 : q_Mem} (hi : z_Inv M) (s1 : z_sm M M1) (s2 : z_sm M1 M2) (hr : ∀ k, k < z_m (q_I M1 109) 2 → q_I M1 79 k = q_I M2 112 k) : z_RT M1 M2 ∧ z_Inv M2 := ⟨⟨hi.sm s1, s2.1.lay (s1.1.lay hi.1), z_inv9 s2, hr⟩, (hi.sm s1).sm s2⟩
theorem Z_canRate_ok : Z_canRate := by
  intro M p1 p2 hi
  have hL := hi.1
  obtain ⟨R, h3, hm, hcn⟩ := zt_1 hi
  have hh := z_has (x := p1) R h3 hm
  have hs : ∀ M1, z_Lay M1 → q_I M1 109 = q_I M 109 → f_X12_is M1 108 (1 : Int32) p1 = some (q_b (0 ≤ p1.toInt ∧ p1.toInt < (z_m (q_I M 109) 1 : Int))) := fun M1 a b => z_m_is (t := 0) (j := 1) a (by decide) (by rw [b]; exact hcn) (by omega)
  by_cases g0 : 0 ≤ p1.toInt ∧ p1.toInt < (z_m (q_I M 109) 1 : Int)
  · by_cases g1 : (0 : Int32).toInt ≤ p2.toInt ∧ p2.toInt ≤ (195 : Int32).toInt
    · obtain ⟨i, hj, rfl⟩ := z_of g0 (by omega)
      obtain ⟨M1, M2, l1, s1, l2, s2, hr, _⟩ := zs_rates hi p2
      obtain ⟨rt, hi2⟩ := z_RT_of hi s1 s2 hr
      have hL1 := rt.1.1
      obtain ⟨r, r1, r2⟩ := zs_rateOfCan rt (c := i) (by rw [z_inv9 s1]; exact hj)
      refine ⟨r, M1, M2, ?_, ?_, hi2⟩
      · simp only [f_X11_canRate, zob_0 hL, zo_0 hL, zo_1 hL, hh, z_c_isDay, Option.bind_some, z_b0, g0, g1, and_self, if_true, l1, zo_0 hL1, r1]
      · simp only [f_X12_canRate, zob_108 hL1, hs M1 hL1 (z_inv9 s1), z_m_isDay, Option.bind_some, z_b0, g0, g1, and_self, if_true, l2, r2]
    · refine ⟨-2, M, M, ?_, ?_, hi⟩
      · simp only [f_X11_canRate, zob_0 hL, zo_0 hL, zo_1 hL, hh, z_c_isDay, Option.bind_some, z_b0, g0, g1, and_self, if_true, if_false]
      · simp only [f_X12_canRate, zob_108 hL, hs M hL rfl, z_m_isDay, Option.bind_some, z_b0, g0, g1, and_self, if_true, if_false]
  · refine ⟨-2, M, M, ?_, ?_, hi⟩
    · simp only [f_X11_canRate, zob_0 hL, zo_0 hL, zo_1 hL, hh, Option.bind_some, z_b0, g0, if_false]
    · simp only [f_X12_canRate, zob_108 hL, hs M hL rfl, Option.bind_some, z_b0, g0, if_false]
theorem Z_fat_ok : Z_fat := by
  intro M p1 p2 p3 hi
  have hL := hi.1
  obtain ⟨R, h3, hm, hcn⟩ := zt_0 hi
  have hh := z_has (x := p1) R h3 hm
  have hs : ∀ M1, z_Lay M1 → q_I M1 109 = q_I M 109 → f_X12_is M1 108 (0 : Int32) p1 = some (q_b (0 ≤ p1.toInt ∧ p1.toInt < (z_m (q_I M 109) 0 : Int))) := fun M1 a b => z_m_is (t := 0) (j := 0) a (by decide) (by rw [b]; exact hcn) (by omega)
  by_cases g0 : 0 ≤ p1.toInt ∧ p1.toInt < (z_m (q_I M 109) 0 : Int)
  · by_cases g1 : (0 : Int32).toInt ≤ p2.toInt ∧ p2.toInt ≤ (27 : Int32).toInt
    · by_cases g2 : (0 : Int32).toInt ≤ p3.toInt ∧ p3.toInt ≤ (195 : Int32).toInt
      · obtain ⟨M1, M2, l1, s1, l2, s2, hr, _⟩ := zs_rates hi p3
        obtain ⟨rt, hi2⟩ := z_RT_of hi s1 s2 hr
        have hL1 := rt.1.1
        obtain ⟨R1, h31, hm1, hcn1⟩ := zt_1 rt.1
        obtain ⟨r, r1, r2⟩ := zq_fat rt.1 rt.2.1 rt.2.2.1 rt.2.2.2 p1 p2 (z_m (q_I M1 109) 1) 0 q_fuel 0 (by omega) (z_fu hm1)
        have r1' : f_X6_fatOfWeek_b14 M1 78 p1 p2 4 q_fuel 0 0 = some r := r1
        have r2' : f_X12_fat_b38 M2 108 p1 p2 q_fuel 0 0 = some (r, M2) := r2
        refine ⟨r, M1, M2, ?_, ?_, hi2⟩
        · simp only [f_X11_fat, f_X6_fatOfWeek, zob_0 hL, zo_0 hL, zo_1 hL, hh, z_c_isDay, z_c_isWeek, Option.bind_some, z_b0, g0, g1, g2, and_self, if_true, l1, zo_0 hL1, zob_78 hL1, zo_78 hL1, zo_1 hL1, r1']
        · simp only [f_X12_fat, zob_108 hL1, hs M1 hL1 (z_inv9 s1), z_m_isDay, z_m_isWeek, Option.bind_some, z_b0, g0, g1, g2, and_self, if_true, l2, r2']
      · refine ⟨-2, M, M, ?_, ?_, hi⟩
        · simp only [f_X11_fat, zob_0 hL, zo_0 hL, zo_1 hL, hh, z_c_isDay, z_c_isWeek, Option.bind_some, z_b0, g0, g1, g2, and_self, if_true, if_false]
        · simp only [f_X12_fat, zob_108 hL, hs M hL rfl, z_m_isDay, z_m_isWeek, Option.bind_some, z_b0, g0, g1, g2, and_self, if_true, if_false]
    · refine ⟨-2, M, M, ?_, ?_, hi⟩
      · simp only [f_X11_fat, zob_0 hL, zo_0 hL, zo_1 hL, hh, z_c_isWeek, Option.bind_some, z_b0, g0, g1, and_self, if_true, if_false]
      · simp only [f_X12_fat, zob_108 hL, hs M hL rfl, z_m_isWeek, Option.bind_some, z_b0, g0, g1, and_self, if_true, if_false]
  · refine ⟨-2, M, M, ?_, ?_, hi⟩
    · simp only [f_X11_fat, zob_0 hL, zo_0 hL, zo_1 hL, hh, Option.bind_some, z_b0, g0, if_false]
    · simp only [f_X12_fat, zob_108 hL, hs M hL rfl, Option.bind_some, z_b0, g0, if_false]
theorem Z_lead_ok : Z_lead := by
  intro M p1 p2 p3 hi
  have hL := hi.1
  obtain ⟨R, h3, hm, hcn⟩ := zt_0 hi
  obtain ⟨R3, h33, hm3, hcn3⟩ := zt_3 hi
  have hh := z_has (x := p1) R3 h33 hm3
  have hh0 := z_has (x := p2) R h3 hm
  have hs : ∀ M1, z_Lay M1 → q_I M1 109 = q_I M 109 → f_X12_is M1 108 (3 : Int32) p1 = some (q_b (0 ≤ p1.toInt ∧ p1.toInt < (z_m (q_I M 109) 3 : Int))) := fun M1 a b => z_m_is (t := 0) (j := 3) a (by decide) (by rw [b]; exact hcn3) (by omega)
  have hs0 : ∀ M1, z_Lay M1 → q_I M1 109 = q_I M 109 → f_X12_is M1 108 (0 : Int32) p2 = some (q_b (0 ≤ p2.toInt ∧ p2.toInt < (z_m (q_I M 109) 0 : Int))) := fun M1 a b => z_m_is (t := 0) (j := 0) a (by decide) (by rw [b]; exact hcn) (by omega)
  by_cases g0 : 0 ≤ p1.toInt ∧ p1.toInt < (z_m (q_I M 109) 3 : Int)
  · by_cases g1 : 0 ≤ p2.toInt ∧ p2.toInt < (z_m (q_I M 109) 0 : Int)
    · by_cases g2 : (0 : Int32).toInt ≤ p3.toInt ∧ p3.toInt ≤ (195 : Int32).toInt
      · obtain ⟨M1, M2, l1, s1, l2, s2, hr, _⟩ := zs_rates hi p3
        obtain ⟨rt, hi2⟩ := z_RT_of hi s1 s2 hr
        have hL1 := rt.1.1
        obtain ⟨r, r1, r2⟩ := zs_churnFat rt p1 p2
        refine ⟨r, M1, M2, ?_, ?_, hi2⟩
        · simp only [f_X11_lead, zob_0 hL, zo_0 hL, zo_1 hL, hh, hh0, z_c_isDay, Option.bind_some, z_b0, g0, g1, g2, and_self, if_true, l1, zo_0 hL1, r1]
        · simp only [f_X12_lead, zob_108 hL1, hs M1 hL1 (z_inv9 s1), hs0 M1 hL1 (z_inv9 s1), z_m_isDay, Option.bind_some, z_b0, g0, g1, g2, and_self, if_true, l2, r2]
      · refine ⟨-2, M, M, ?_, ?_, hi⟩
        · simp only [f_X11_lead, zob_0 hL, zo_0 hL, zo_1 hL, hh, hh0, z_c_isDay, Option.bind_some, z_b0, g0, g1, g2, and_self, if_true, if_false]
        · simp only [f_X12_lead, zob_108 hL, hs M hL rfl, hs0 M hL rfl, z_m_isDay, Option.bind_some, z_b0, g0, g1, g2, and_self, if_true, if_false]
    · refine ⟨-2, M, M, ?_, ?_, hi⟩
      · simp only [f_X11_lead, zob_0 hL, zo_0 hL, zo_1 hL, hh, hh0, Option.bind_some, z_b0, g0, g1, and_self, if_true, if_false]
      · simp only [f_X12_lead, zob_108 hL, hs M hL rfl, hs0 M hL rfl, Option.bind_some, z_b0, g0, g1, and_self, if_true, if_false]
  · refine ⟨-2, M, M, ?_, ?_, hi⟩
    · simp only [f_X11_lead, zob_0 hL, zo_0 hL, zo_1 hL, hh, Option.bind_some, z_b0, g0, if_false]
    · simp only [f_X12_lead, zob_108 hL, hs M hL rfl, Option.bind_some, z_b0, g0, if_false]
theorem Z_about_ok : Z_about := by
  intro M p1 p2 p3 hi
  have hL := hi.1
  have h0 : (0 : Int32).toInt = 0 := rfl
  have h6 : (6 : Int32).toInt = 6 := rfl
  obtain ⟨R3, h33, hm3, hcn3⟩ := zt_3 hi
  have hh := z_has (x := p1) R3 h33 hm3
  have hs : ∀ M1, z_Lay M1 → q_I M1 109 = q_I M 109 → f_X12_is M1 108 (3 : Int32) p1 = some (q_b (0 ≤ p1.toInt ∧ p1.toInt < (z_m (q_I M 109) 3 : Int))) := fun M1 a b => z_m_is (t := 0) (j := 3) a (by decide) (by rw [b]; exact hcn3) (by omega)
  by_cases g0 : 0 ≤ p1.toInt ∧ p1.toInt < (z_m (q_I M 109) 3 : Int)
  · by_cases g1 : (0 : Int32).toInt ≤ p2.toInt ∧ p2.toInt ≤ (195 : Int32).toInt
    · obtain ⟨c, hj, rfl⟩ := z_of g0 (by omega)
      obtain ⟨M1, M2, l1, s1, l2, s2, hr, _⟩ := zs_rates hi p2
      obtain ⟨rt, hi2⟩ := z_RT_of hi s1 s2 hr
      have hL1 := rt.1.1
      have hj1 : c < z_m (q_I M1 109) 3 := by rw [z_inv9 s1]; exact hj
      by_cases g2 : (0 : Int32).toInt ≤ p3.toInt ∧ p3.toInt ≤ (6 : Int32).toInt
      · obtain ⟨k, hk, rfl⟩ := z_of (v := p3) (n := 7) ⟨g2.1, by omega⟩ (by decide)
        match k, hk with
        | 0, _ =>
          obtain ⟨r, r1, r2⟩ := zs_cans rt.1 rt.2.1 rt.2.2.1 (nI c)
          refine ⟨r.toInt64, M1, M2, ?_, ?_, hi2⟩
          · simp only [f_X11_about, zob_0 hL, zo_0 hL, zo_1 hL, hh, z_c_isDay, Option.bind_some, z_b0, g0, g1, and_self, if_true, l1, zo_0 hL1, show ((nI 0 < 0) = False) from by decide, if_false, show ((nI 0 = (0 : Int32)) = True) from by decide, r1]
          · simp only [f_X12_about, zob_108 hL1, hs M1 hL1 (z_inv9 s1), z_m_isDay, z_m_in, Option.bind_some, z_b0, g0, g1, g2, and_self, if_true, l2, show ((nI 0 < 0) = False) from by decide, if_false, show ((nI 0 = (0 : Int32)) = True) from by decide, r2]
        | 1, _ =>
          obtain ⟨r, r1, r2⟩ := zs_loss rt.1 rt.2.1 rt.2.2.1 hj1
          refine ⟨r.toInt64, M1, M2, ?_, ?_, hi2⟩
          · simp only [f_X11_about, zob_0 hL, zo_0 hL, zo_1 hL, hh, z_c_isDay, Option.bind_some, z_b0, g0, g1, and_self, if_true, l1, zo_0 hL1, show ((nI 1 < 0) = False) from by decide, if_false, show ((nI 1 = (0 : Int32)) = False) from by decide, show ((nI 1 = (1 : Int32)) = True) from by decide, r1]
          · simp only [f_X12_about, zob_108 hL1, hs M1 hL1 (z_inv9 s1), z_m_isDay, z_m_in, Option.bind_some, z_b0, g0, g1, g2, and_self, if_true, l2, show ((nI 1 < 0) = False) from by decide, if_false, show ((nI 1 = (0 : Int32)) = False) from by decide, show ((nI 1 = (1 : Int32)) = True) from by decide, r2]
        | 2, _ =>
          obtain ⟨r, r1, r2⟩ := zs_churnFat rt (nI c) (-1)
          refine ⟨r, M1, M2, ?_, ?_, hi2⟩
          · simp only [f_X11_about, zob_0 hL, zo_0 hL, zo_1 hL, hh, z_c_isDay, Option.bind_some, z_b0, g0, g1, and_self, if_true, l1, zo_0 hL1, show ((nI 2 < 0) = False) from by decide, if_false, show ((nI 2 = (0 : Int32)) = False) from by decide, show ((nI 2 = (1 : Int32)) = False) from by decide, show ((nI 2 = (2 : Int32)) = True) from by decide, r1]
          · simp only [f_X12_about, zob_108 hL1, hs M1 hL1 (z_inv9 s1), z_m_isDay, z_m_in, Option.bind_some, z_b0, g0, g1, g2, and_self, if_true, l2, show ((nI 2 < 0) = False) from by decide, if_false, show ((nI 2 = (0 : Int32)) = False) from by decide, show ((nI 2 = (1 : Int32)) = False) from by decide, show ((nI 2 = (2 : Int32)) = True) from by decide, r2]
        | 3, _ =>
          obtain ⟨r, r1, r2⟩ := zs_butter rt hj1
          refine ⟨r / 1000, M1, M2, ?_, ?_, hi2⟩
          · simp only [f_X11_about, zob_0 hL, zo_0 hL, zo_1 hL, hh, z_c_isDay, Option.bind_some, z_b0, g0, g1, and_self, if_true, l1, zo_0 hL1, show ((nI 3 < 0) = False) from by decide, if_false, show ((nI 3 = (0 : Int32)) = False) from by decide, show ((nI 3 = (1 : Int32)) = False) from by decide, show ((nI 3 = (2 : Int32)) = False) from by decide, show ((nI 3 = (3 : Int32)) = True) from by decide, r1]
          · simp only [f_X12_about, zob_108 hL1, hs M1 hL1 (z_inv9 s1), z_m_isDay, z_m_in, Option.bind_some, z_b0, g0, g1, g2, and_self, if_true, l2, show ((nI 3 < 0) = False) from by decide, if_false, show ((nI 3 = (0 : Int32)) = False) from by decide, show ((nI 3 = (1 : Int32)) = False) from by decide, show ((nI 3 = (2 : Int32)) = False) from by decide, show ((nI 3 = (3 : Int32)) = True) from by decide, r2]
        | 4, _ =>
          obtain ⟨r, r1, r2⟩ := zs_agrees rt hj1
          refine ⟨r.toInt64, M1, M2, ?_, ?_, hi2⟩
          · simp only [f_X11_about, zob_0 hL, zo_0 hL, zo_1 hL, hh, z_c_isDay, Option.bind_some, z_b0, g0, g1, and_self, if_true, l1, zo_0 hL1, show ((nI 4 < 0) = False) from by decide, if_false, show ((nI 4 = (0 : Int32)) = False) from by decide, show ((nI 4 = (1 : Int32)) = False) from by decide, show ((nI 4 = (2 : Int32)) = False) from by decide, show ((nI 4 = (3 : Int32)) = False) from by decide, show ((nI 4 = (4 : Int32)) = True) from by decide, r1]
          · simp only [f_X12_about, zob_108 hL1, hs M1 hL1 (z_inv9 s1), z_m_isDay, z_m_in, Option.bind_some, z_b0, g0, g1, g2, and_self, if_true, l2, show ((nI 4 < 0) = False) from by decide, if_false, show ((nI 4 = (0 : Int32)) = False) from by decide, show ((nI 4 = (1 : Int32)) = False) from by decide, show ((nI 4 = (2 : Int32)) = False) from by decide, show ((nI 4 = (3 : Int32)) = False) from by decide, show ((nI 4 = (4 : Int32)) = True) from by decide, r2]
        | 5, _ =>
          obtain ⟨r, r1, r2⟩ := zs_boxes rt.1 rt.2.1 rt.2.2.1 (nI c)
          refine ⟨r.toInt64, M1, M2, ?_, ?_, hi2⟩
          · simp only [f_X11_about, zob_0 hL, zo_0 hL, zo_1 hL, hh, z_c_isDay, Option.bind_some, z_b0, g0, g1, and_self, if_true, l1, zo_0 hL1, show ((nI 5 < 0) = False) from by decide, if_false, show ((nI 5 = (0 : Int32)) = False) from by decide, show ((nI 5 = (1 : Int32)) = False) from by decide, show ((nI 5 = (2 : Int32)) = False) from by decide, show ((nI 5 = (3 : Int32)) = False) from by decide, show ((nI 5 = (4 : Int32)) = False) from by decide, show ((nI 5 = (5 : Int32)) = True) from by decide, r1]
          · simp only [f_X12_about, zob_108 hL1, hs M1 hL1 (z_inv9 s1), z_m_isDay, z_m_in, Option.bind_some, z_b0, g0, g1, g2, and_self, if_true, l2, show ((nI 5 < 0) = False) from by decide, if_false, show ((nI 5 = (0 : Int32)) = False) from by decide, show ((nI 5 = (1 : Int32)) = False) from by decide, show ((nI 5 = (2 : Int32)) = False) from by decide, show ((nI 5 = (3 : Int32)) = False) from by decide, show ((nI 5 = (4 : Int32)) = False) from by decide, show ((nI 5 = (5 : Int32)) = True) from by decide, r2]
        | 6, _ =>
          obtain ⟨r, r1, r2⟩ := zs_pence rt.1 rt.2.1 rt.2.2.1 (nI c) p2
          refine ⟨r, M1, M2, ?_, ?_, hi2⟩
          · simp only [f_X11_about, zob_0 hL, zo_0 hL, zo_1 hL, hh, z_c_isDay, Option.bind_some, z_b0, g0, g1, and_self, if_true, l1, zo_0 hL1, show ((nI 6 < 0) = False) from by decide, if_false, show ((nI 6 = (0 : Int32)) = False) from by decide, show ((nI 6 = (1 : Int32)) = False) from by decide, show ((nI 6 = (2 : Int32)) = False) from by decide, show ((nI 6 = (3 : Int32)) = False) from by decide, show ((nI 6 = (4 : Int32)) = False) from by decide, show ((nI 6 = (5 : Int32)) = False) from by decide, show ((nI 6 = (6 : Int32)) = True) from by decide, r1]
          · simp only [f_X12_about, zob_108 hL1, hs M1 hL1 (z_inv9 s1), z_m_isDay, z_m_in, Option.bind_some, z_b0, g0, g1, g2, and_self, if_true, l2, show ((nI 6 < 0) = False) from by decide, if_false, show ((nI 6 = (0 : Int32)) = False) from by decide, show ((nI 6 = (1 : Int32)) = False) from by decide, show ((nI 6 = (2 : Int32)) = False) from by decide, show ((nI 6 = (3 : Int32)) = False) from by decide, show ((nI 6 = (4 : Int32)) = False) from by decide, show ((nI 6 = (5 : Int32)) = False) from by decide, r2]
      · refine ⟨-2, M1, M1, ?_, ?_, rt.1⟩
        · by_cases n1 : p3 < 0
          · simp only [f_X11_about, zob_0 hL, zo_0 hL, zo_1 hL, hh, z_c_isDay, Option.bind_some, z_b0, g0, g1, and_self, if_true, l1, n1]
          · have ne : ∀ k : Int32, k.toInt ≤ 6 → 0 ≤ k.toInt → (p3 = k) = False := fun k a b => eq_false (fun z => g2 (by subst z; omega))
            simp only [f_X11_about, zob_0 hL, zo_0 hL, zo_1 hL, hh, z_c_isDay, Option.bind_some, z_b0, g0, g1, and_self, if_true, l1, n1, if_false, ne 0 (by decide) (by decide), ne 1 (by decide) (by decide), ne 2 (by decide) (by decide), ne 3 (by decide) (by decide), ne 4 (by decide) (by decide), ne 5 (by decide) (by decide), ne 6 (by decide) (by decide)]
        · simp only [f_X12_about, zob_108 hL1, hs M1 hL1 (z_inv9 s1), z_m_isDay, z_m_in, Option.bind_some, z_b0, g0, g1, g2, and_self, if_true, if_false]
    · refine ⟨-2, M, M, ?_, ?_, hi⟩
      · simp only [f_X11_about, zob_0 hL, zo_0 hL, zo_1 hL, hh, z_c_isDay, Option.bind_some, z_b0, g0, g1, and_self, if_true, if_false]
      · simp only [f_X12_about, zob_108 hL, hs M hL rfl, z_m_isDay, Option.bind_some, z_b0, g0, g1, and_self, if_true, if_false]
  · refine ⟨-2, M, M, ?_, ?_, hi⟩
    · simp only [f_X11_about, zob_0 hL, zo_0 hL, zo_1 hL, hh, Option.bind_some, z_b0, g0, if_false]
    · simp only [f_X12_about, zob_108 hL, hs M hL rfl, Option.bind_some, z_b0, g0, if_false]
theorem Z_rate_ok : Z_rate := by
  intro M p1 p2 hi
  have hL := hi.1
  obtain ⟨R, h3, hm, hcn⟩ := zt_2 hi
  have hh := z_has (x := p1) R h3 hm
  have hs : f_X12_is M 108 (2 : Int32) p1 = some (q_b (0 ≤ p1.toInt ∧ p1.toInt < (z_m (q_I M 109) 2 : Int))) := z_m_is (t := 0) (j := 2) hL (by decide) hcn (by omega)
  by_cases g0 : 0 ≤ p1.toInt ∧ p1.toInt < (z_m (q_I M 109) 2 : Int)
  · by_cases g1 : (0 : Int32).toInt ≤ p2.toInt ∧ p2.toInt ≤ (195 : Int32).toInt
    · obtain ⟨i, hj, rfl⟩ := z_of g0 (by omega)
      obtain ⟨r, r1, r2⟩ := zs_rate hi hL rfl hj p2
      refine ⟨r, ?_, ?_, hi⟩
      · simp only [f_X11_rate, zob_0 hL, zo_0 hL, zo_1 hL, hh, z_c_isDay, Option.bind_some, z_b0, g0, g1, and_self, if_true, r1]
      · simp only [f_X12_rate, zob_108 hL, hs, z_m_isDay, Option.bind_some, z_b0, g0, g1, and_self, if_true, r2]
    · refine ⟨-2, ?_, ?_, hi⟩
      · simp only [f_X11_rate, zob_0 hL, zo_0 hL, zo_1 hL, hh, z_c_isDay, Option.bind_some, z_b0, g0, g1, and_self, if_true, if_false]
      · simp only [f_X12_rate, zob_108 hL, hs, z_m_isDay, Option.bind_some, z_b0, g0, g1, and_self, if_true, if_false]
  · refine ⟨-2, ?_, ?_, hi⟩
    · simp only [f_X11_rate, zob_0 hL, zo_0 hL, zo_1 hL, hh, Option.bind_some, z_b0, g0, if_false]
    · simp only [f_X12_rate, zob_108 hL, hs, Option.bind_some, z_b0, g0, if_false]
