/-! ===== sites for least cost: open ===== -/
theorem z_J_sJ2 {M : q_Mem} {a k : Nat} {v : Int64} : q_J (q_sJ M a k v) a k = v := if_pos ⟨rfl, rfl⟩
theorem zq_near2 {M M2 : q_Mem} (hi : z_Inv M) (hL2 : z_Lay M2) (e9 : q_I M2 109 = q_I M 109) {f : Nat} (hf0 : f < z_m (q_I M 109) 0) (set : Int32) : ∀ (d i fu : Nat) (a : Int32) (b : Int32), i + d = z_m (q_I M 109) 9 → d < fu → ((a = -1 ∧ ∃ k, i ≤ k ∧ k < z_m (q_I M 109) 9 ∧ ((set >>> (nI k &&& 31)) &&& (1 : Int32)) = (1 : Int32)) ∨ ∃ s, s < z_m (q_I M 109) 9 ∧ a = nI s ∧ b = z_D (q_I M 109) f s) → ∃ s, s < z_m (q_I M 109) 9 ∧ f_X10_nearestOf_b8 M 107 (nI f) set fu a b (nI i) = some (nI s) ∧ f_X12_nearestOf_b5 M2 108 (nI f) set fu a (nI i) = some (nI s) := by
  have hL := hi.1
  obtain ⟨R, h3, hm, hcn⟩ := zt_9 hi
  intro d
  induction d with
  | zero =>
    intro i fu a b hd hf hp
    obtain ⟨g, rfl⟩ : ∃ g, fu = g + 1 := ⟨fu - 1, by omega⟩
    obtain rfl : i = z_m (q_I M 109) 9 := by omega
    have hn : (nI (z_m (q_I M 109) 9) < nI (z_m (q_I M 109) 9)) = False := eq_false (nI_nlt (Nat.le_refl _) (by omega))
    simp only [f_X10_nearestOf_b8.eq_2, f_X12_nearestOf_b5.eq_2, zo_107 hL, zo_1 hL, f_X11_holds, zo_20 hL, h3, zo_108 hL2, zl_ hL2, e9, hcn, Option.bind_some, hn, if_false]
    rcases hp with ⟨_, k, k1, k2, _⟩ | ⟨s, hs, ea, _⟩
    · omega
    · exact ⟨s, hs, congrArg some ea, congrArg some ea⟩
  | succ d ih =>
    intro i fu a b hd hf hp
    obtain ⟨g, rfl⟩ : ∃ g, fu = g + 1 := ⟨fu - 1, by omega⟩
    have hj : i < z_m (q_I M 109) 9 := by omega
    have hn : (nI i < nI (z_m (q_I M 109) 9)) = True := eq_true (nI_lt hj (by omega))
    simp only [f_X10_nearestOf_b8.eq_2, f_X12_nearestOf_b5.eq_2, zo_107 hL, zo_1 hL, f_X11_holds, zo_20 hL, h3, zo_108 hL2, zl_ hL2, e9, hcn, Option.bind_some, hn, zr_9 hi hj, zg_9 hL2 (show i < 6 by omega), if_true, ← nI_succ, f_X10_nearestOf_b72, f_X12_nearestOf_b48, zs_dist hi hL2 e9 hf0 hj]
    by_cases c0 : ((set >>> (nI i &&& 31)) &&& (1 : Int32)) = (1 : Int32)
    · simp only [c0, if_true, Option.bind_some, show ((1 : Int32) = 0) = False from by decide, if_false]
      rcases hp with ⟨ea, _⟩ | ⟨s, hs, ea, eb⟩
      · subst ea
        simp only [if_true]
        exact ih _ _ _ _ (by omega) (by omega) (Or.inr ⟨i, hj, rfl, rfl⟩)
      · have c1 : (nI s = (-1 : Int32)) = False := by
          refine eq_false (fun z => ?_)
          have z2 := congrArg Int32.toInt z
          rw [nI_toInt (by omega)] at z2
          have e1 : (-1 : Int32).toInt = -1 := rfl
          omega
        subst ea
        simp only [c1, if_false, zs_dist hi hL2 e9 hf0 hs, eb, Option.bind_some]
        by_cases c2 : z_D (q_I M 109) f i < z_D (q_I M 109) f s
        · simp only [c2, if_true]
          exact ih _ _ _ _ (by omega) (by omega) (Or.inr ⟨i, hj, rfl, rfl⟩)
        · simp only [c2, if_false]
          exact ih _ _ _ _ (by omega) (by omega) (Or.inr ⟨s, hs, rfl, rfl⟩)
    · simp only [c0, if_false, Option.bind_some, if_true]
      refine ih _ _ _ _ (by omega) (by omega) (hp.imp (fun ⟨ea, k, k1, k2, k3⟩ => ⟨ea, k, ?_, k2, k3⟩) id)
      rcases Nat.lt_or_ge i k with z | z
      · omega
      · obtain rfl : k = i := by omega
        exact absurd k3 c0
theorem zs_near {M M2 : q_Mem} (hi : z_Inv M) (hL2 : z_Lay M2) (e9 : q_I M2 109 = q_I M 109) {f : Nat} (hf0 : f < z_m (q_I M 109) 0) (set : Int32) (hb : ∃ k, k < z_m (q_I M 109) 9 ∧ ((set >>> (nI k &&& 31)) &&& (1 : Int32)) = (1 : Int32)) : ∃ s, s < z_m (q_I M 109) 9 ∧ f_X10_nearestOf M 107 (nI f) set = some (nI s) ∧ f_X12_nearestOf M2 108 (nI f) set = some (nI s) := by
  have hL := hi.1
  obtain ⟨R, h3, hm, hcn⟩ := zt_9 hi
  obtain ⟨k, k1, k2⟩ := hb
  obtain ⟨s, hs, r1, r2⟩ := zq_near2 hi hL2 e9 hf0 set (z_m (q_I M 109) 9) 0 q_fuel (-1) 0 (by omega) (z_fu (by omega)) (Or.inl ⟨rfl, k, Nat.zero_le _, k1, k2⟩)
  refine ⟨s, hs, ?_, ?_⟩
  · unfold f_X10_nearestOf
    rw [zob_107 hL]; exact r1
  · unfold f_X12_nearestOf
    rw [zob_108 hL2]; exact r2
theorem zq_cost2 {M M2 : q_Mem} (hi : z_Inv M) (hL2 : z_Lay M2) (e9 : q_I M2 109 = q_I M 109) (set : Int32) (hb : ∃ k, k < z_m (q_I M 109) 9 ∧ ((set >>> (nI k &&& 31)) &&& (1 : Int32)) = (1 : Int32)) : ∀ (d i fu : Nat) (a : Int64), i + d = z_m (q_I M 109) 0 → d < fu → ∃ r, f_X10_costOf_b55 M 107 set fu a (nI i) = some r ∧ f_X12_costOf_b59 M2 108 set fu a (nI i) = some r := by
  have hL := hi.1
  obtain ⟨R, h3, hm, hcn⟩ := zt_0 hi
  have e15 : q_I M 1 15 = q_I M 109 12 := hi.2.2.2.2.1.2.1.2.2.2.1
  intro d
  induction d with
  | zero =>
    intro i fu a hd hf
    obtain ⟨g, rfl⟩ : ∃ g, fu = g + 1 := ⟨fu - 1, by omega⟩
    obtain rfl : i = z_m (q_I M 109) 0 := by omega
    have hn : (nI (z_m (q_I M 109) 0) < nI (z_m (q_I M 109) 0)) = False := eq_false (nI_nlt (Nat.le_refl _) (by omega))
    simp only [f_X10_costOf_b55.eq_2, f_X12_costOf_b59.eq_2, zo_107 hL, zo_1 hL, zo_2 hL, h3, zo_108 hL2, zl_ hL2, e9, hcn, Option.bind_some, hn, if_false]
    exact ⟨_, rfl, rfl⟩
  | succ d ih =>
    intro i fu a hd hf
    obtain ⟨g, rfl⟩ : ∃ g, fu = g + 1 := ⟨fu - 1, by omega⟩
    have hj : i < z_m (q_I M 109) 0 := by omega
    have hn : (nI i < nI (z_m (q_I M 109) 0)) = True := eq_true (nI_lt hj (by omega))
    obtain ⟨s, hs, r1, r2⟩ := zs_near hi hL2 e9 hj set hb
    simp only [f_X10_costOf_b55.eq_2, f_X12_costOf_b59.eq_2, f_X12_cows, zob_108 hL2, zo_107 hL, zo_1 hL, zo_2 hL, h3, zo_108 hL2, zl_ hL2, e9, hcn, Option.bind_some, hn, if_true, ← nI_succ, r1, r2, zs_dist hi hL2 e9 hj hs, zr_0 hi hj, zg_0 hL2 (show i < 20 by omega), e15]
    exact ih _ _ _ (by omega) (by omega)
theorem zq_cost1 {M M2 : q_Mem} (hi : z_Inv M) (hL2 : z_Lay M2) (e9 : q_I M2 109 = q_I M 109) (set : Int32) (hb : ∃ k, k < z_m (q_I M 109) 9 ∧ ((set >>> (nI k &&& 31)) &&& (1 : Int32)) = (1 : Int32)) : ∀ (d i fu : Nat) (a : Int64), i + d = z_m (q_I M 109) 9 → d < fu → ∃ r, f_X10_costOf_b5 M 107 set fu a (nI i) = some r ∧ f_X12_costOf_b5 M2 108 set fu a (nI i) = some r := by
  have hL := hi.1
  obtain ⟨R, h3, hm, hcn⟩ := zt_9 hi
  obtain ⟨R0, h30, hm0, hcn0⟩ := zt_0 hi
  intro d
  induction d with
  | zero =>
    intro i fu a hd hf
    obtain ⟨g, rfl⟩ : ∃ g, fu = g + 1 := ⟨fu - 1, by omega⟩
    obtain rfl : i = z_m (q_I M 109) 9 := by omega
    have hn : (nI (z_m (q_I M 109) 9) < nI (z_m (q_I M 109) 9)) = False := eq_false (nI_nlt (Nat.le_refl _) (by omega))
    simp only [f_X10_costOf_b5.eq_2, f_X12_costOf_b5.eq_2, zo_107 hL, zo_1 hL, zo_20 hL, h3, zo_108 hL2, zl_ hL2, e9, hcn, Option.bind_some, hn, if_false]
    exact zq_cost2 hi hL2 e9 set hb (z_m (q_I M 109) 0) 0 q_fuel a (by omega) (z_fu (by omega))
  | succ d ih =>
    intro i fu a hd hf
    obtain ⟨g, rfl⟩ : ∃ g, fu = g + 1 := ⟨fu - 1, by omega⟩
    have hj : i < z_m (q_I M 109) 9 := by omega
    have hn : (nI i < nI (z_m (q_I M 109) 9)) = True := eq_true (nI_lt hj (by omega))
    simp only [f_X10_costOf_b5.eq_2, f_X12_costOf_b5.eq_2, f_X11_holds, zo_107 hL, zo_1 hL, zo_20 hL, h3, zo_108 hL2, zl_ hL2, e9, hcn, Option.bind_some, hn, if_true, ← nI_succ, zr_9 hi hj, zg_9 hL2 (show i < 6 by omega)]
    by_cases c0 : ((set >>> (nI i &&& 31)) &&& (1 : Int32)) = (1 : Int32)
    · simp only [c0, if_true, Option.bind_some, show ((1 : Int32) = 0) = False from by decide, if_false]
      exact ih _ _ _ (by omega) (by omega)
    · simp only [c0, if_false, Option.bind_some, if_true, Int64.add_zero]
      exact ih _ _ _ (by omega) (by omega)
theorem z_bits : ∀ m, m < 7 → ∀ n, n < 2 ^ m → 0 < n → ∃ k, k < m ∧ ((nI n >>> (nI k &&& 31)) &&& (1 : Int32)) = (1 : Int32) := by decide +kernel
theorem z_full2 : ∀ m, m < 7 → (1 : Int32) <<< (nI m &&& 31) = nI (2 ^ m) := by decide +kernel
theorem zs_cost {M M2 : q_Mem} (hi : z_Inv M) (hL2 : z_Lay M2) (e9 : q_I M2 109 = q_I M 109) {n : Nat} (hn : n < 2 ^ z_m (q_I M 109) 9) (h0 : 0 < n) : ∃ r, f_X10_costOf M 107 (nI n) = some r ∧ f_X12_costOf M2 108 (nI n) = some r := by
  have hL := hi.1
  obtain ⟨R, h3, hm, hcn⟩ := zt_9 hi
  obtain ⟨r, r1, r2⟩ := zq_cost1 hi hL2 e9 (nI n) (z_bits _ (by omega) n hn h0) (z_m (q_I M 109) 9) 0 q_fuel 0 (by omega) (z_fu (by omega))
  refine ⟨r, ?_, ?_⟩
  · unfold f_X10_costOf
    rw [zob_107 hL]; exact r1
  · unfold f_X12_costOf
    rw [zob_108 hL2]; exact r2
def z_cst (M : q_Mem) (n : Nat) : Int64 := (f_X12_costOf M 108 (nI n)).getD 0
theorem zs_cst {M M2 : q_Mem} (hi : z_Inv M) (hL2 : z_Lay M2) (e9 : q_I M2 109 = q_I M 109) {n : Nat} (hn : n < 2 ^ z_m (q_I M 109) 9) (h0 : 0 < n) : f_X12_costOf M2 108 (nI n) = some (z_cst M n) := by
  obtain ⟨r, r1, r2⟩ := zs_cost hi hL2 e9 hn h0
  obtain ⟨r', r1', r2'⟩ := zs_cost hi hi.1 rfl hn h0
  unfold z_cst
  rw [r2', r2]
  rw [r1] at r1'
  exact r1'
theorem zs_cstC {M M' : q_Mem} (hi : z_Inv M) (hi' : z_Inv M') (e9 : q_I M' 109 = q_I M 109) {n : Nat} (hn : n < 2 ^ z_m (q_I M 109) 9) (h0 : 0 < n) : f_X10_costOf M' 107 (nI n) = some (z_cst M n) := by
  obtain ⟨r, r1, r2⟩ := zs_cost hi' hi.1 e9.symm (n := n) (by rw [e9]; exact hn) h0
  rw [r1]
  unfold z_cst
  rw [r2]; rfl
theorem zq_plan {M : q_Mem} (hi : z_Inv M) (p1 : Int32) : ∀ (d k fu b : Nat) (M' : q_Mem), k + d = 2 ^ z_m (q_I M 109) 9 → d < fu → 0 < b → b < k → z_sm M M' → q_I M' 107 1 = nI b → q_J M' 107 2 = z_cst M b →
    ∃ b' M'', f_X10_plan_b12 107 fu (nI k) M' = some M'' ∧ z_sm M M'' ∧ q_I M'' 107 1 = nI b' ∧ q_J M'' 107 2 = z_cst M b' ∧ 0 < b' ∧ b' < 2 ^ z_m (q_I M 109) 9 ∧ ∀ M2 fm, d < fm → z_Lay M2 → q_I M2 109 = q_I M 109 → f_X12_open_b31 M2 108 p1 fm (nI b) (nI k) = f_X12_open_b70 M2 108 p1 (nI b') := by
  obtain ⟨R, h3, hm, hcn⟩ := zt_9 hi
  have hpow : 2 ^ z_m (q_I M 109) 9 ≤ 64 := Nat.pow_le_pow_right (n := 2) (by decide) hm
  have ef := z_full2 _ (show z_m (q_I M 109) 9 < 7 by omega)
  intro d
  induction d with
  | zero =>
    intro k fu b M' hd hf hb0 hbk hsm h1 h2
    obtain ⟨g, rfl⟩ : ∃ g, fu = g + 1 := ⟨fu - 1, by omega⟩
    obtain rfl : k = 2 ^ z_m (q_I M 109) 9 := by omega
    have hi' := hi.sm hsm
    have hL' := hi'.1
    have hn : (nI (2 ^ z_m (q_I M 109) 9) < nI (2 ^ z_m (q_I M 109) 9)) = False := eq_false (nI_nlt (Nat.le_refl _) (by omega))
    have h3' : q_I M' 20 3 = nI (z_m (q_I M 109) 9) := by rw [hsm.2 20 (Or.inl (by decide))]; exact h3
    simp only [f_X10_plan_b12.eq_2, zo_107 hL', zo_1 hL', zo_20 hL', h3', Option.bind_some, ef, hn, if_false]
    refine ⟨b, M', rfl, hsm, h1, h2, hb0, hbk, fun M2 fm hfm hL2 e9 => ?_⟩
    obtain ⟨gm, rfl⟩ : ∃ g, fm = g + 1 := ⟨fm - 1, by omega⟩
    simp only [f_X12_open_b31.eq_2, zo_108 hL2, zl_ hL2, e9, hcn, Option.bind_some, ef, hn, if_false]
  | succ d ih =>
    intro k fu b M' hd hf hb0 hbk hsm h1 h2
    obtain ⟨g, rfl⟩ : ∃ g, fu = g + 1 := ⟨fu - 1, by omega⟩
    have hi' := hi.sm hsm
    have hL' := hi'.1
    have e9' : q_I M' 109 = q_I M 109 := hsm.2 109 (Or.inr (Or.inl rfl))
    have hn : (nI k < nI (2 ^ z_m (q_I M 109) 9)) = True := eq_true (nI_lt (by omega) (by omega))
    have h3' : q_I M' 20 3 = nI (z_m (q_I M 109) 9) := by rw [hsm.2 20 (Or.inl (by decide))]; exact h3
    have cK := zs_cstC hi hi' e9' (n := k) (by omega) (by omega)
    have nb : (nI b = 0) = False := eq_false (fun z => by
      have := (nI_eq (a := b) (b := 0) (by omega) (by decide)).mp z
      omega)
    have L1 : z_Lay (q_sI M' 107 1 (nI k)) := hL'
    simp only [f_X10_plan_b12.eq_2, f_X10_plan_b53, zo_107 hL', zo_1 hL', zo_20 hL', h3', Option.bind_some, ef, hn, if_true, cK, h1, nb, if_false, h2, zo_107 L1, ← nI_succ]
    by_cases c : z_cst M k < z_cst M b
    · simp only [c, if_true]
      obtain ⟨b', M'', r1, r2, r3, r4, r5, r6, r7⟩ := ih (k + 1) g k (q_sJ (q_sI M' 107 1 (nI k)) 107 2 (z_cst M k)) (by omega) (by omega) (by omega) (by omega) (hsm.tr ((z_sm.sI (by unfold z_core; omega)).tr z_sm.sJ)) (by rw [z_I_sJ, z_I_sI, if_pos ⟨rfl, rfl⟩]) z_J_sJ2
      refine ⟨b', M'', r1, r2, r3, r4, r5, r6, fun M2 fm hfm hL2 e9 => ?_⟩
      obtain ⟨gm, rfl⟩ : ∃ g, fm = g + 1 := ⟨fm - 1, by omega⟩
      simp only [f_X12_open_b31.eq_2, zo_108 hL2, zl_ hL2, e9, hcn, Option.bind_some, ef, hn, if_true, zs_cst hi hL2 e9 (n := k) (by omega) (by omega), zs_cst hi hL2 e9 (n := b) (by omega) (by omega), c, ← nI_succ]
      exact r7 M2 gm (by omega) hL2 e9
    · simp only [c, if_false]
      obtain ⟨b', M'', r1, r2, r3, r4, r5, r6, r7⟩ := ih (k + 1) g b M' (by omega) (by omega) hb0 (by omega) hsm h1 h2
      refine ⟨b', M'', r1, r2, r3, r4, r5, r6, fun M2 fm hfm hL2 e9 => ?_⟩
      obtain ⟨gm, rfl⟩ : ∃ g, fm = g + 1 := ⟨fm - 1, by omega⟩
      simp only [f_X12_open_b31.eq_2, zo_108 hL2, zl_ hL2, e9, hcn, Option.bind_some, ef, hn, if_true, zs_cst hi hL2 e9 (n := k) (by omega) (by omega), zs_cst hi hL2 e9 (n := b) (by omega) (by omega), c, if_false, ← nI_succ]
      exact r7 M2 gm (by omega) hL2 e9
theorem zs_plan {M : q_Mem} (hi : z_Inv M) (p1 : Int32) (h0 : 0 < z_m (q_I M 109) 9) : ∃ b' M'', f_X10_plan M 107 = some M'' ∧ z_sm M M'' ∧ q_I M'' 107 1 = nI b' ∧ q_J M'' 107 2 = z_cst M b' ∧ 0 < b' ∧ b' < 2 ^ z_m (q_I M 109) 9 ∧ ∀ M2, z_Lay M2 → q_I M2 109 = q_I M 109 → f_X12_open_b31 M2 108 p1 q_fuel (1 : Int32) (2 : Int32) = f_X12_open_b70 M2 108 p1 (nI b') := by
  have hL := hi.1
  obtain ⟨R, h3, hm, hcn⟩ := zt_9 hi
  have hpow : 2 ^ z_m (q_I M 109) 9 ≤ 64 := Nat.pow_le_pow_right (n := 2) (by decide) hm
  have hpow2 : 2 ^ 1 ≤ 2 ^ z_m (q_I M 109) 9 := Nat.pow_le_pow_right (n := 2) (by decide) (show 1 ≤ _ from h0)
  have ef := z_full2 _ (show z_m (q_I M 109) 9 < 7 by omega)
  have L1 : z_Lay (q_sI M 107 1 0) := hL
  have s3 : z_sm M (q_sJ (q_sI M 107 1 0) 107 2 0) := (z_sm.sI (by unfold z_core; omega)).tr z_sm.sJ
  have hi' := hi.sm s3
  have L3 := hi'.1
  have e9' : q_I (q_sJ (q_sI M 107 1 0) 107 2 0) 109 = q_I M 109 := s3.2 109 (Or.inr (Or.inl rfl))
  have h3' : q_I (q_sJ (q_sI M 107 1 0) 107 2 0) 20 3 = nI (z_m (q_I M 109) 9) := by rw [s3.2 20 (Or.inl (by decide))]; exact h3
  have h17 : q_I (q_sJ (q_sI M 107 1 0) 107 2 0) 107 1 = 0 := by rw [z_I_sJ, z_I_sI, if_pos ⟨rfl, rfl⟩]
  generalize hM3 : q_sJ (q_sI M 107 1 0) 107 2 0 = M3 at s3 hi' L3 e9' h3' h17
  have cK := zs_cstC hi hi' e9' (n := 1) (by omega) (by omega)
  have L4 : z_Lay (q_sI M3 107 1 1) := L3
  have hn : ((1 : Int32) < nI (2 ^ z_m (q_I M 109) 9)) = True := eq_true (nI_lt (a := 1) (by omega) (by omega))
  obtain ⟨b', M'', r1, r2, r3, r4, r5, r6, r7⟩ := zq_plan hi p1 (2 ^ z_m (q_I M 109) 9 - 2) 2 4194303 1 (q_sJ (q_sI M3 107 1 1) 107 2 (z_cst M 1)) (by omega) (by omega) (by omega) (by omega) (s3.tr ((z_sm.sI (by unfold z_core; omega)).tr z_sm.sJ)) (by rw [z_I_sJ, z_I_sI, if_pos ⟨rfl, rfl⟩]; rfl) z_J_sJ2
  refine ⟨b', M'', ?_, r2, r3, r4, r5, r6, fun M2 hL2 e9 => r7 M2 q_fuel (by unfold q_fuel; omega) hL2 e9⟩
  have r1' : f_X10_plan_b12 107 4194303 (2 : Int32) (q_sJ (q_sI M3 107 1 1) 107 2 (z_cst M 1)) = some M'' := r1
  have cK' : f_X10_costOf M3 107 (1 : Int32) = some (z_cst M 1) := cK
  have n2 : (1 : Int32) + 1 = 2 := rfl
  have st : f_X10_plan_b12 107 q_fuel (1 : Int32) M3 = some M'' := by
    rw [show q_fuel = 4194303 + 1 from rfl, f_X10_plan_b12.eq_2]
    simp only [f_X10_plan_b53, zo_107 L3, zo_1 L3, zo_20 L3, Option.bind_some, h3', ef, hn, if_true, cK', h17, zo_107 L4, n2, r1']
  simp only [f_X10_plan, zob_107 hL, zo_107 hL, zo_107 L1, Option.bind_some, hM3, st]
theorem Z_open_ok : Z_open := by
  intro M p1 hi
  have hL := hi.1
  obtain ⟨R, h3, hm, hcn⟩ := zt_9 hi
  by_cases g0 : (0 : Int32).toInt ≤ p1.toInt ∧ p1.toInt ≤ (1 : Int32).toInt
  · by_cases c : z_m (q_I M 109) 9 = 0
    · have e : nI (z_m (q_I M 109) 9) = 0 := by rw [c]; rfl
      refine ⟨-3, M, ?_, ?_, hi⟩
      · simp only [f_X11_open, zob_0 hL, zo_0 hL, zo_1 hL, zo_20 hL, h3, z_c_within, Option.bind_some, z_b0, g0, and_self, if_true, e]
      · simp only [f_X12_open, zob_108 hL, zo_108 hL, zl_ hL, hcn, z_m_in, Option.bind_some, z_b0, g0, and_self, if_true, e]
    · have e : (nI (z_m (q_I M 109) 9) = 0) = False := eq_false (fun z => c ((nI_eq (b := 0) (by omega) (by decide)).mp z))
      obtain ⟨b, M1, r1, r2, r3, r4, r5, r6, r7⟩ := zs_plan hi p1 (by omega)
      have hi1 := hi.sm r2
      have hL1 := hi1.1
      have e9 : q_I M1 109 = q_I M 109 := r2.2 109 (Or.inr (Or.inl rfl))
      have r7' := r7 M1 hL1 e9
      have cb := zs_cst hi hL1 e9 r6 r5
      by_cases g1 : p1 = 0
      · refine ⟨(nI b).toInt64, M1, ?_, ?_, hi1⟩
        · subst g1
          simp only [f_X11_open, zob_0 hL, zo_0 hL, zo_1 hL, zo_20 hL, h3, z_c_within, Option.bind_some, z_b0, g0, and_self, if_true, e, if_false, r1, zo_0 hL1, zo_107 hL1, r3]
        · simp only [f_X12_open, zob_108 hL1, zo_108 hL1, zl_ hL1, e9, hcn, z_m_in, Option.bind_some, z_b0, g0, and_self, if_true, e, if_false, r7', f_X12_open_b70]
          exact if_pos g1
      · refine ⟨z_cst M b, M1, ?_, ?_, hi1⟩
        · simp only [f_X11_open, zob_0 hL, zo_0 hL, zo_1 hL, zo_20 hL, h3, z_c_within, Option.bind_some, z_b0, g0, and_self, if_true, e, if_false, r1, g1, zo_0 hL1, zo_107 hL1, r4]
        · simp only [f_X12_open, zob_108 hL1, zo_108 hL1, zl_ hL1, e9, hcn, z_m_in, Option.bind_some, z_b0, g0, and_self, if_true, e, if_false, r7', f_X12_open_b70, g1, cb]
  · refine ⟨-2, M, ?_, ?_, hi⟩
    · simp only [f_X11_open, zob_0 hL, z_c_within, Option.bind_some, z_b0, g0, if_false]
    · simp only [f_X12_open, zob_108 hL, z_m_in, Option.bind_some, z_b0, g0, if_false]
