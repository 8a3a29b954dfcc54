/-! ===== sums over the rows ===== -/
theorem z_mx0 {x y : Int32} : q_mx x y = if x < y then y else x := rfl
theorem z_mi0 {x y : Int32} : q_mi x y = if y < x then y else x := rfl
theorem z_neg1 {v : Int32} {b : Int} (h : z_bt v 0 b) : v ≠ -1 := fun z => by
  have h1 := h.1
  rw [z] at h1
  exact absurd h1 (by decide)
theorem z_nI_eq {i j : Nat} (hi : i < 2147483648) (hj : j < 2147483648) (h : nI i = nI j) : i = j := (nI_eq hi hj).mp h
theorem z_box12 {M : q_Mem} (hi : z_Inv M) {i : Nat} (hj : i < z_m (q_I M 109) 4) : (q_I M 109 (2820 + 5 * i + 1) = (-1 : Int32)) = (q_I M 109 (2820 + 5 * i + 2) = (-1 : Int32)) := by
  have ov := hi.2.2.2.2.1.2.2.2 4 (by decide) i hj
  have x5 : (q_I M 109 (2820 + 5 * i + 1) = -1 ∧ q_I M 109 (2820 + 5 * i + 2) = -1) ∨ (z_bt (q_I M 109 (2820 + 5 * i + 1)) 0 1000000 ∧ z_bt (q_I M 109 (2820 + 5 * i + 2)) 0 195) := ov.2.1
  rcases x5 with x | x
  · rw [x.1, x.2]
  · exact propext ⟨fun z => absurd z (z_neg1 x.1), fun z => absurd z (z_neg1 x.2)⟩
theorem zq_penceOf {M M2 : q_Mem} (hi : z_Inv M) (hL2 : z_Lay M2) (e9 : q_I M2 109 = q_I M 109) (c dd : Int32) : ∀ (d i fu : Nat) (a : Int64), i + d = z_m (q_I M 109) 4 → d < fu → ∃ r, f_X4_penceOf_b14 M c dd 10 fu a (nI i) = some r ∧ f_X12_penceOf_b5 M2 108 c dd fu a (nI i) = some r := by
  have hL := hi.1
  obtain ⟨R, h3, hm, hcn⟩ := zt_4 hi
  intro d
  induction d with
  | zero =>
    intro i fu a hd hf
    obtain ⟨g, rfl⟩ : ∃ g, fu = g + 1 := ⟨fu - 1, by omega⟩
    obtain rfl : i = z_m (q_I M 109) 4 := by omega
    have hn : (nI (z_m (q_I M 109) 4) < nI (z_m (q_I M 109) 4)) = False := eq_false (nI_nlt (Nat.le_refl _) (by omega))
    simp only [f_X4_penceOf_b14.eq_2, f_X12_penceOf_b5.eq_2, zo_10 hL, h3, zo_108 hL2, zl_ hL2, e9, hcn, Option.bind_some, hn, if_false]
    exact ⟨_, rfl, rfl⟩
  | succ d ih =>
    intro i fu a hd hf
    obtain ⟨g, rfl⟩ : ∃ g, fu = g + 1 := ⟨fu - 1, by omega⟩
    have hj : i < z_m (q_I M 109) 4 := by omega
    have hn : (nI i < nI (z_m (q_I M 109) 4)) = True := eq_true (nI_lt hj (by omega))
    simp only [f_X4_penceOf_b14.eq_2, f_X12_penceOf_b5.eq_2, zo_10 hL, h3, zo_108 hL2, zl_ hL2, e9, hcn, Option.bind_some, hn, zr_4 hi hj, zg_4 hL2 (show i < 100 by omega), if_true, ← nI_succ, f_X12_penceOf_b77, z_box12 hi hj, Int64.add_zero]
    by_cases c0 : q_I M 109 (2820 + 5 * i) = c
    all_goals by_cases c1 : q_I M 109 (2820 + 5 * i + 2) = (-1 : Int32)
    all_goals by_cases c2 : dd < q_I M 109 (2820 + 5 * i + 2)
    all_goals (simp only [c0, c1, c2, if_true, if_false]; exact ih _ _ _ (by omega) (by omega))
theorem zq_cans {M M2 : q_Mem} (hi : z_Inv M) (hL2 : z_Lay M2) (e9 : q_I M2 109 = q_I M 109) (c : Int32) : ∀ (d i fu : Nat) (a : Int32), i + d = z_m (q_I M 109) 1 → d < fu → ∃ r, f_X4_howManyCans_b4 M 80 c fu a (nI i) = some r ∧ f_X12_cansOf_b4 M2 108 c fu a (nI i) = some r := by
  have hL := hi.1
  obtain ⟨R, h3, hm, hcn⟩ := zt_1 hi
  intro d
  induction d with
  | zero =>
    intro i fu a hd hf
    obtain ⟨g, rfl⟩ : ∃ g, fu = g + 1 := ⟨fu - 1, by omega⟩
    obtain rfl : i = z_m (q_I M 109) 1 := by omega
    have hn : (nI (z_m (q_I M 109) 1) < nI (z_m (q_I M 109) 1)) = False := eq_false (nI_nlt (Nat.le_refl _) (by omega))
    simp only [f_X4_howManyCans_b4.eq_2, f_X12_cansOf_b4.eq_2, zo_80 hL, zo_1 hL, zo_4 hL, h3, zo_108 hL2, zl_ hL2, e9, hcn, Option.bind_some, hn, if_false]
    exact ⟨_, rfl, rfl⟩
  | succ d ih =>
    intro i fu a hd hf
    obtain ⟨g, rfl⟩ : ∃ g, fu = g + 1 := ⟨fu - 1, by omega⟩
    have hj : i < z_m (q_I M 109) 1 := by omega
    have hn : (nI i < nI (z_m (q_I M 109) 1)) = True := eq_true (nI_lt hj (by omega))
    simp only [f_X4_howManyCans_b4.eq_2, f_X12_cansOf_b4.eq_2, zo_80 hL, zo_1 hL, zo_4 hL, h3, zo_108 hL2, zl_ hL2, e9, hcn, Option.bind_some, hn, zr_1 hi hj, zg_1 hL2 (show i < 300 by omega), if_true, ← nI_succ, Int32.add_zero]
    by_cases c0 : q_I M 109 (100 + 4 * i + 3) = c
    all_goals (simp only [c0, if_true, if_false]; exact ih _ _ _ (by omega) (by omega))
theorem zq_boxes {M M2 : q_Mem} (hi : z_Inv M) (hL2 : z_Lay M2) (e9 : q_I M2 109 = q_I M 109) (c : Int32) : ∀ (d i fu : Nat) (a : Int32), i + d = z_m (q_I M 109) 4 → d < fu → ∃ r, f_X4_howManyBoxes_b4 M 80 c fu a (nI i) = some r ∧ f_X12_boxesOf_b4 M2 108 c fu a (nI i) = some r := by
  have hL := hi.1
  obtain ⟨R, h3, hm, hcn⟩ := zt_4 hi
  intro d
  induction d with
  | zero =>
    intro i fu a hd hf
    obtain ⟨g, rfl⟩ : ∃ g, fu = g + 1 := ⟨fu - 1, by omega⟩
    obtain rfl : i = z_m (q_I M 109) 4 := by omega
    have hn : (nI (z_m (q_I M 109) 4) < nI (z_m (q_I M 109) 4)) = False := eq_false (nI_nlt (Nat.le_refl _) (by omega))
    simp only [f_X4_howManyBoxes_b4.eq_2, f_X12_boxesOf_b4.eq_2, zo_80 hL, zo_1 hL, zo_10 hL, h3, zo_108 hL2, zl_ hL2, e9, hcn, Option.bind_some, hn, if_false]
    exact ⟨_, rfl, rfl⟩
  | succ d ih =>
    intro i fu a hd hf
    obtain ⟨g, rfl⟩ : ∃ g, fu = g + 1 := ⟨fu - 1, by omega⟩
    have hj : i < z_m (q_I M 109) 4 := by omega
    have hn : (nI i < nI (z_m (q_I M 109) 4)) = True := eq_true (nI_lt hj (by omega))
    simp only [f_X4_howManyBoxes_b4.eq_2, f_X12_boxesOf_b4.eq_2, zo_80 hL, zo_1 hL, zo_10 hL, h3, zo_108 hL2, zl_ hL2, e9, hcn, Option.bind_some, hn, zr_4 hi hj, zg_4 hL2 (show i < 100 by omega), if_true, ← nI_succ, Int32.add_zero]
    by_cases c0 : q_I M 109 (2820 + 5 * i) = c
    all_goals (simp only [c0, if_true, if_false]; exact ih _ _ _ (by omega) (by omega))
theorem z_dv0 {x y : Int32} (h : y ≠ 0) : q_dv x y = some (x / y) := if_neg h
theorem zq_lean80 {M M2 : q_Mem} (a b : Int32) : ∃ r, f_X4_leanOfGraders_b80 M a b = some r ∧ f_X12_lean_b82 M2 a b = some r := by
  unfold f_X4_leanOfGraders_b80 f_X12_lean_b82
  by_cases h : b = 0
  · rw [if_pos h]; exact ⟨_, rfl, rfl⟩
  · rw [if_neg h, z_dv0 h]; exact ⟨_, rfl, rfl⟩
theorem zq_lean {M M2 : q_Mem} (hi : z_Inv M) (hL2 : z_Lay M2) (e9 : q_I M2 109 = q_I M 109)  : ∀ (d i fu : Nat) (a : Int32) (b : Int32), i + d = z_m (q_I M 109) 4 → d < fu → ∃ r, f_X4_leanOfGraders_b6 M 80 fu a b (nI i) = some r ∧ f_X12_lean_b6 M2 108 fu a b (nI i) = some r := by
  have hL := hi.1
  obtain ⟨R, h3, hm, hcn⟩ := zt_4 hi
  intro d
  induction d with
  | zero =>
    intro i fu a b hd hf
    obtain ⟨g, rfl⟩ : ∃ g, fu = g + 1 := ⟨fu - 1, by omega⟩
    obtain rfl : i = z_m (q_I M 109) 4 := by omega
    have hn : (nI (z_m (q_I M 109) 4) < nI (z_m (q_I M 109) 4)) = False := eq_false (nI_nlt (Nat.le_refl _) (by omega))
    simp only [f_X4_leanOfGraders_b6.eq_2, f_X12_lean_b6.eq_2, zo_80 hL, zo_1 hL, zo_10 hL, h3, zo_108 hL2, zl_ hL2, e9, hcn, Option.bind_some, hn, if_false]
    exact zq_lean80 a b
  | succ d ih =>
    intro i fu a b hd hf
    obtain ⟨g, rfl⟩ : ∃ g, fu = g + 1 := ⟨fu - 1, by omega⟩
    have hj : i < z_m (q_I M 109) 4 := by omega
    have hn : (nI i < nI (z_m (q_I M 109) 4)) = True := eq_true (nI_lt hj (by omega))
    simp only [f_X4_leanOfGraders_b6.eq_2, f_X12_lean_b6.eq_2, zo_80 hL, zo_1 hL, zo_10 hL, h3, zo_108 hL2, zl_ hL2, e9, hcn, Option.bind_some, hn, zr_4 hi hj, zg_4 hL2 (show i < 100 by omega), if_true, ← nI_succ]
    by_cases c0 : q_I M 109 (2820 + 5 * i + 3) = (-1 : Int32)
    all_goals by_cases c1 : q_I M 109 (2820 + 5 * i + 4) = (-1 : Int32)
    all_goals (simp only [c0, c1, if_true, if_false]; exact ih _ _ _ _ (by omega) (by omega))
theorem z_le_count {M : q_Mem} (hi : z_Inv M) : z_m (q_I M 109) 4 < q_fuel := by
  obtain ⟨_, _, hm, _⟩ := zt_4 hi
  unfold q_fuel
  omega
theorem zs_lean {M M2 : q_Mem} (hi : z_Inv M) (hL2 : z_Lay M2) (e9 : q_I M2 109 = q_I M 109) : ∃ r, f_X4_leanOfGraders M 80 = some r ∧ f_X12_lean M2 108 = some r := by
  obtain ⟨r, h1, h2⟩ := zq_lean hi hL2 e9 (z_m (q_I M 109) 4) 0 q_fuel 0 0 (by omega) (z_le_count hi)
  refine ⟨r, ?_, ?_⟩
  · unfold f_X4_leanOfGraders
    rw [zob_80 hi.1]
    exact h1
  · unfold f_X12_lean
    rw [zob_108 hL2]
    exact h2
theorem Z_lean_ok : Z_lean := by
  intro M hi
  have hL := hi.1
  obtain ⟨r, h1, h2⟩ := zs_lean hi hL rfl
  refine ⟨r, ?_, h2, hi⟩
  simp only [f_X11_lean, zob_0 hL, zo_0 hL, Option.bind_some, h1]
theorem zq_lot180 {M M2 : q_Mem} (p a b s n : Int32) (hp : p = 0 ∨ p = 1 ∨ p = 2 ∨ p = 3) : ∃ r, f_X4_lotOf_b180 M p a b s n = some r ∧ f_X12_lot_b196 M2 p a b s n = some r := by
  unfold f_X4_lotOf_b180 f_X12_lot_b196
  by_cases c3 : p = 3
  · rw [if_pos c3, if_pos c3]; exact ⟨_, rfl, rfl⟩
  · rw [if_neg c3, if_neg c3]
    by_cases h : n = 0
    · rw [if_pos h, if_pos h]; exact ⟨_, rfl, rfl⟩
    · rw [if_neg h, if_neg h, z_dv0 h]
      by_cases c2 : p = 2
      · subst c2
        exact ⟨_, rfl, rfl⟩
      · rw [if_neg c2]
        by_cases c0 : p = 0
        · rw [if_pos c0, if_pos c0]; exact ⟨_, rfl, rfl⟩
        · rw [if_neg c0, if_neg c0]
          by_cases c1 : p = 1
          · rw [if_pos c1]; exact ⟨_, rfl, rfl⟩
          · exfalso; rcases hp with hp | hp | hp | hp
            · exact c0 hp
            · exact c1 hp
            · exact c2 hp
            · exact c3 hp
theorem zq_lot {M M2 : q_Mem} (hi : z_Inv M) (hL2 : z_Lay M2) (e9 : q_I M2 109 = q_I M 109) (c p l : Int32) (hpp : p = 0 ∨ p = 1 ∨ p = 2 ∨ p = 3) : ∀ (d i fu : Nat) (a : Int32) (b : Int32) (s : Int32) (n : Int32), i + d = z_m (q_I M 109) 4 → d < fu → ∃ r, f_X4_lotOf_b20 M 80 c p l fu a b s n (nI i) = some r ∧ f_X12_lot_b42 M2 108 c p l fu a b s n (nI i) = some r := by
  have hL := hi.1
  obtain ⟨R, h3, hm, hcn⟩ := zt_4 hi
  intro d
  induction d with
  | zero =>
    intro i fu a b s n hd hf
    obtain ⟨g, rfl⟩ : ∃ g, fu = g + 1 := ⟨fu - 1, by omega⟩
    obtain rfl : i = z_m (q_I M 109) 4 := by omega
    have hn : (nI (z_m (q_I M 109) 4) < nI (z_m (q_I M 109) 4)) = False := eq_false (nI_nlt (Nat.le_refl _) (by omega))
    simp only [f_X4_lotOf_b20.eq_2, f_X12_lot_b42.eq_2, zo_80 hL, zo_1 hL, zo_10 hL, h3, zo_108 hL2, zl_ hL2, e9, hcn, Option.bind_some, hn, if_false]
    exact zq_lot180 p a b s n hpp
  | succ d ih =>
    intro i fu a b s n hd hf
    obtain ⟨g, rfl⟩ : ∃ g, fu = g + 1 := ⟨fu - 1, by omega⟩
    have hj : i < z_m (q_I M 109) 4 := by omega
    have hn : (nI i < nI (z_m (q_I M 109) 4)) = True := eq_true (nI_lt hj (by omega))
    simp only [f_X4_lotOf_b20.eq_2, f_X12_lot_b42.eq_2, zo_80 hL, zo_1 hL, zo_10 hL, h3, zo_108 hL2, zl_ hL2, e9, hcn, Option.bind_some, hn, zr_4 hi hj, zg_4 hL2 (show i < 100 by omega), if_true, ← nI_succ, f_X4_lotOf_b82, f_X12_lot_b100, f_X4_lotOf_b124, f_X4_lotOf_b143, f_X4_lotOf_b162, f_X12_lot_b136, f_X12_lot_b157, f_X12_lot_b178, z_mx0, z_mi0]
    by_cases c0 : q_I M 109 (2820 + 5 * i) = c
    all_goals by_cases c1 : q_I M 109 (2820 + 5 * i + 3) = (-1 : Int32)
    all_goals by_cases c2 : q_I M 109 (2820 + 5 * i + 4) = (-1 : Int32)
    all_goals by_cases c3 : n = 0
    all_goals (simp only [c0, c1, c2, c3, if_true, if_false, show ((1 : Int32) = 0) = False from by decide, show ((0 : Int32) = 0) = True from by decide]; first | exact ih _ _ _ _ _ _ (by omega) (by omega) | (by_cases c4 : q_I M 109 (2820 + 5 * i + 3) < a <;> by_cases c5 : b < q_I M 109 (2820 + 5 * i + 3) <;> simp only [c4, c5, if_true, if_false] <;> exact ih _ _ _ _ _ _ (by omega) (by omega)) | (by_cases c4 : q_I M 109 (2820 + 5 * i + 4) + l < a <;> by_cases c5 : b < q_I M 109 (2820 + 5 * i + 4) + l <;> simp only [c4, c5, if_true, if_false] <;> exact ih _ _ _ _ _ _ (by omega) (by omega)))
theorem Z_lot_ok : Z_lot := by
  intro M p1 p2 hi
  have hL := hi.1
  obtain ⟨R3, h33, hm3, hcn3⟩ := zt_3 hi
  have hh3 := z_has (x := p1) R3 h33 hm3
  have hs3 : f_X12_is M 108 (3 : Int32) p1 = some (q_b (0 ≤ p1.toInt ∧ p1.toInt < (z_m (q_I M 109) 3 : Int))) := z_m_is (t := 0) (j := 3) hL (by decide) hcn3 (by omega)
  by_cases g0 : 0 ≤ p1.toInt ∧ p1.toInt < (z_m (q_I M 109) 3 : Int)
  · by_cases g1 : (0 : Int32).toInt ≤ p2.toInt ∧ p2.toInt ≤ (3 : Int32).toInt
    · obtain ⟨y, hy, ey⟩ := z_of (v := p2) (n := 4) ⟨g1.1, by have := g1.2; have e : (3 : Int32).toInt = 3 := rfl; omega⟩ (by decide)
      have hp : p2 = 0 ∨ p2 = 1 ∨ p2 = 2 ∨ p2 = 3 := by
        have hy4 : y = 0 ∨ y = 1 ∨ y = 2 ∨ y = 3 := by omega
        rw [ey]
        rcases hy4 with rfl | rfl | rfl | rfl <;> decide
      obtain ⟨l, l1, l2⟩ := zs_lean hi hL rfl
      obtain ⟨r, h1, h2⟩ := zq_lot hi hL rfl p1 p2 l hp (z_m (q_I M 109) 4) 0 q_fuel 0 0 0 0 (by omega) (z_le_count hi)
      have h1' : f_X4_lotOf_b20 M 80 p1 p2 l q_fuel 0 0 0 0 0 = some r := h1
      have h2' : f_X12_lot_b42 M 108 p1 p2 l q_fuel 0 0 0 0 0 = some r := h2
      refine ⟨r, ?_, ?_, hi⟩
      · simp only [f_X11_lot, f_X4_lotOf, zob_0 hL, zob_80 hL, zo_0 hL, zo_1 hL, hh3, z_c_within, Option.bind_some, z_b0, g0, g1, and_self, if_true, l1, h1']
      · simp only [f_X12_lot, zob_108 hL, hs3, z_m_in, Option.bind_some, z_b0, g0, g1, and_self, if_true, l2, h2']
    · refine ⟨-1000, ?_, ?_, hi⟩
      · simp only [f_X11_lot, zob_0 hL, zo_0 hL, zo_1 hL, hh3, z_c_within, Option.bind_some, z_b0, g0, g1, and_self, if_true, if_false]
      · simp only [f_X12_lot, zob_108 hL, hs3, z_m_in, Option.bind_some, z_b0, g0, g1, and_self, if_true, if_false]
  · refine ⟨-1000, ?_, ?_, hi⟩
    · simp only [f_X11_lot, zob_0 hL, zo_0 hL, zo_1 hL, hh3, Option.bind_some, z_b0, g0, if_false]
    · simp only [f_X12_lot, zob_108 hL, hs3, Option.bind_some, z_b0, g0, if_false]
