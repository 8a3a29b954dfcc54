/-! ===== tests: what was known, rates ===== -/
def z_kn (st : Nat → Int32) (d : Int32) (i : Nat) : Int32 := if d < st (1300 + 7 * i + 4) then 0 else 1
def z_nm (st : Nat → Int32) (d : Int32) (i : Nat) : Int32 := if st (1300 + 7 * i + 6) = -1 then st (1300 + 7 * i + 3) else if d < st (1300 + 7 * i + 6) then st (1300 + 7 * i + 3) else st (1300 + 7 * i + 5)
def z_ah (st : Nat → Int32) (i j : Nat) : Int32 := if st (1300 + 7 * i + 1) < st (1300 + 7 * j + 1) then 1 else if st (1300 + 7 * i + 1) = st (1300 + 7 * j + 1) then (if nI i < nI j then 1 else 0) else 0
def z_lt (st : Nat → Int32) (d : Int32) (i : Nat) : Int32 := q_mx 0 (q_mi 1000 (z_nm st d i - st (13 + (st (1300 + 7 * i + 2)).toNatClampNeg)))
theorem z_test_lt {M M2 : q_Mem} (hi : z_Inv M) (hL2 : z_Lay M2) (e9 : q_I M2 109 = q_I M 109) {i : Nat} (hj : i < z_m (q_I M 109) 2) : i < 200 := by
  obtain ⟨_, _, hm, _⟩ := zt_2 hi
  omega
theorem z_test56 {M M2 : q_Mem} (hi : z_Inv M) (hL2 : z_Lay M2) (e9 : q_I M2 109 = q_I M 109) {i : Nat} (hj : i < z_m (q_I M 109) 2) : (q_I M 109 (1300 + 7 * i + 5) = (-1 : Int32)) = (q_I M 109 (1300 + 7 * i + 6) = (-1 : Int32)) := by
  have ov := hi.2.2.2.2.1.2.2.2 2 (by decide) i hj
  have x5 : (q_I M 109 (1300 + 7 * i + 5) = -1 ∧ q_I M 109 (1300 + 7 * i + 6) = -1) ∨ (z_bt (q_I M 109 (1300 + 7 * i + 5)) 0 1000 ∧ z_bt (q_I M 109 (1300 + 7 * i + 6)) 0 195) := ov.2.2.2.2.2
  rcases x5 with x | x
  · rw [x.1, x.2]
  · exact propext ⟨fun z => absurd z (z_neg1 x.1), fun z => absurd z (z_neg1 x.2)⟩
theorem zs_known {M M2 : q_Mem} (hi : z_Inv M) (hL2 : z_Lay M2) (e9 : q_I M2 109 = q_I M 109) {i : Nat} (hj : i < z_m (q_I M 109) 2) (d : Int32) : f_X6_isKnown M 78 (nI i) d = some (z_kn (q_I M 109) d i) ∧ f_X12_isKnown M2 108 (nI i) d = some (z_kn (q_I M 109) d i) := by
  have hL := hi.1
  have h2 := z_test_lt hi hL2 e9 hj
  constructor
  · simp only [f_X6_isKnown, zob_78 hL, zo_78 hL, Option.bind_some, zr_2 hi hj, z_kn]
    split <;> rfl
  · simp only [f_X12_isKnown, zob_108 hL2, zo_108 hL2, Option.bind_some, zg_2 hL2 h2, e9, z_kn]
    split <;> rfl
theorem zs_number {M M2 : q_Mem} (hi : z_Inv M) (hL2 : z_Lay M2) (e9 : q_I M2 109 = q_I M 109) {i : Nat} (hj : i < z_m (q_I M 109) 2) (d : Int32) : f_X6_numberKnown M 78 (nI i) d = some (z_nm (q_I M 109) d i) ∧ f_X12_numberOf M2 108 (nI i) d = some (z_nm (q_I M 109) d i) := by
  have hL := hi.1
  have h2 := z_test_lt hi hL2 e9 hj
  constructor
  · simp only [f_X6_numberKnown, f_X6_numberKnown_b33, zob_78 hL, zo_78 hL, Option.bind_some, zr_2 hi hj, z_nm]
    split
    · rfl
    · split <;> rfl
  · simp only [f_X12_numberOf, f_X12_numberOf_b45, zob_108 hL2, zo_108 hL2, Option.bind_some, zg_2 hL2 h2, e9, z_nm, z_test56 hi hL2 e9 hj]
    split
    · rfl
    · split <;> rfl
theorem zs_ahead {M M2 : q_Mem} (hi : z_Inv M) (hL2 : z_Lay M2) (e9 : q_I M2 109 = q_I M 109) {i : Nat} (hj : i < z_m (q_I M 109) 2) {j : Nat} (hk : j < z_m (q_I M 109) 2) : f_X6_isAhead M 78 (nI i) (nI j) = some (z_ah (q_I M 109) i j) ∧ f_X12_isAhead M2 108 (nI i) (nI j) = some (z_ah (q_I M 109) i j) := by
  have hL := hi.1
  have h2 := z_test_lt hi hL2 e9 hj
  have h2' := z_test_lt hi hL2 e9 hk
  constructor
  · simp only [f_X6_isAhead, zob_78 hL, zo_78 hL, Option.bind_some, zr_2 hi hj, zr_2 hi hk, z_ah]
    split
    · rfl
    · split
      · split <;> rfl
      · rfl
  · simp only [f_X12_isAhead, zob_108 hL2, zo_108 hL2, Option.bind_some, zg_2 hL2 h2, zg_2 hL2 h2', e9, z_ah]
    split
    · rfl
    · split
      · split <;> rfl
      · rfl
theorem z_clip (x : Int32) : q_mx 0 (q_mi 1000 x) = if x < 0 then 0 else if 1000 < x then 1000 else x := by
  unfold q_mx q_mi
  have h0 : (0 : Int32).toInt = 0 := rfl
  have h1 : (1000 : Int32).toInt = 1000 := rfl
  by_cases c1 : x < 1000
  · rw [if_pos c1]
    rw [q_lt_iff] at c1
    have c3 : ¬ (1000 : Int32) < x := by rw [q_lt_iff]; omega
    rw [if_neg c3]
    by_cases c2 : x < 0
    · rw [if_pos c2, if_neg]
      rw [q_lt_iff] at c2 ⊢
      omega
    · rw [if_neg c2]
      by_cases c4 : (0 : Int32) < x
      · rw [if_pos c4]
      · rw [if_neg c4]
        rw [q_lt_iff] at c2 c4
        exact Int32.toInt_inj.mp (by omega)
  · rw [if_neg c1, if_pos (by decide)]
    rw [q_lt_iff] at c1
    have c2 : ¬ x < 0 := by rw [q_lt_iff]; omega
    rw [if_neg c2]
    by_cases c3 : (1000 : Int32) < x
    · rw [if_pos c3]
    · rw [if_neg c3]
      rw [q_lt_iff] at c3
      exact Int32.toInt_inj.mp (by omega)
theorem zs_hand {M M2 : q_Mem} (hi : z_Inv M) (hL2 : z_Lay M2) (e9 : q_I M2 109 = q_I M 109) {i : Nat} (hj : i < z_m (q_I M 109) 2) : ∃ h, h < 4 ∧ q_I M 109 (1300 + 7 * i + 2) = nI h ∧ f_X5_biasOf M 1 (nI h) = some (q_I M 109 (13 + h)) := by
  have hL := hi.1
  have ov := hi.2.2.2.2.1.2.2.2 2 (by decide) i hj
  have x2 : z_bt (q_I M 109 (1300 + 7 * i + 2)) 0 3 := ov.2.2.1
  obtain ⟨h, hh, eh⟩ := z_of (v := q_I M 109 (1300 + 7 * i + 2)) (n := 4) ⟨x2.1, by have := x2.2; omega⟩ (by decide)
  have n1 : (nI h < 0) = False := eq_false (show ¬ nI h < nI 0 from nI_nlt (Nat.zero_le _) (by omega))
  have n2 : (nI h < nI 4) = True := eq_true (nI_lt hh (by decide))
  have eb := (hi.2.2.2.2.1.2.1.1 h hh).1
  refine ⟨h, hh, eh, ?_⟩
  simp only [f_X5_biasOf, zob_1 hL, zo_1 hL, za_24 hL, (za_24 hL).2.1 h hh, n1, n2, if_true, if_false, Option.bind_some]
  exact congrArg some eb
theorem zs_leant {M M2 : q_Mem} (hi : z_Inv M) (hL2 : z_Lay M2) (e9 : q_I M2 109 = q_I M 109) {i : Nat} (hj : i < z_m (q_I M 109) 2) (d : Int32) : f_X12_leant M2 108 (nI i) d = some (z_lt (q_I M 109) d i) ∧ (∀ a2, f_X6_rateAsKnown_b32 M 78 d (nI i) = some (z_lt (q_I M 109) d i) ∨ a2 = 0 ∧ False) := by
  have hL := hi.1
  have h2 := z_test_lt hi hL2 e9 hj
  obtain ⟨h, hh, eh, eb⟩ := zs_hand hi hL2 e9 hj
  have ec : (nI h).toNatClampNeg = h := nI_clamp (by omega)
  constructor
  · have r2 : q_lI M2 109 ((13 : Int32) + nI h) = some (q_I M 109 (13 + h)) := by rw [show (13 : Int32) = nI 13 from rfl, nI_add, z_st_lit hL2 (by omega), e9]
    simp only [f_X12_leant, (zs_number hi hL2 e9 hj d).2, zob_108 hL2, zo_108 hL2, Option.bind_some, zg_2 hL2 h2, e9, eh, r2, z_lt, z_clip, ec]
    split
    · rfl
    · split <;> rfl
  · intro a2
    have n1 : (nI i = (-1 : Int32)) = False := eq_false (fun z => by have := congrArg Int32.toInt z; rw [nI_toInt (by omega)] at this; have e4 : (-1 : Int32).toInt = -1 := rfl; omega)
    left
    simp only [f_X6_rateAsKnown_b32, n1, if_false, (zs_number hi hL2 e9 hj d).1, zo_78 hL, zr_2 hi hj, eh, eb, Option.bind_some, z_lt, ec]
theorem z_nI_ne1 {i : Nat} (h : i < 2147483648) : (nI i = (-1 : Int32)) = False := eq_false (fun z => by have := congrArg Int32.toInt z; rw [nI_toInt h] at this; have e4 : (-1 : Int32).toInt = -1 := rfl; omega)
theorem zq_latest {M M2 : q_Mem} (hi : z_Inv M) (hL2 : z_Lay M2) (e9 : q_I M2 109 = q_I M 109) {t : Nat} (ht : t < z_m (q_I M 109) 2) (dd : Int32) : ∀ (d i fu : Nat) (a : Int32), i + d = z_m (q_I M 109) 2 → d < fu → (a = -1 ∨ ∃ s, s < z_m (q_I M 109) 2 ∧ a = nI s) → ∃ r, f_X6_latestAheadOf_b16 M 78 (nI t) dd (q_I M 109 (1300 + 7 * t)) fu a (nI i) = some r ∧ (r = -1 ∨ ∃ s, s < z_m (q_I M 109) 2 ∧ r = nI s) ∧ f_X12_rateOf_b34 M2 108 (nI t) dd fu a (nI i) = f_X12_rateOf_b147 M2 108 dd r := by
  have hL := hi.1
  obtain ⟨R, h3, hm, hcn⟩ := zt_2 hi
  intro d
  induction d with
  | zero =>
    intro i fu a hd hf hp
    obtain ⟨g, rfl⟩ : ∃ g, fu = g + 1 := ⟨fu - 1, by omega⟩
    obtain rfl : i = z_m (q_I M 109) 2 := by omega
    have hn : (nI (z_m (q_I M 109) 2) < nI (z_m (q_I M 109) 2)) = False := eq_false (nI_nlt (Nat.le_refl _) (by omega))
    simp only [f_X6_latestAheadOf_b16.eq_2, f_X12_rateOf_b34.eq_2, zo_78 hL, zg_2 hL2 (show t < 200 by omega), zo_6 hL, h3, zo_108 hL2, zl_ hL2, e9, hcn, Option.bind_some, hn, if_false]
    exact ⟨_, rfl, hp, rfl⟩
  | succ d ih =>
    intro i fu a hd hf hp
    obtain ⟨g, rfl⟩ : ∃ g, fu = g + 1 := ⟨fu - 1, by omega⟩
    have hj : i < z_m (q_I M 109) 2 := by omega
    have hn : (nI i < nI (z_m (q_I M 109) 2)) = True := eq_true (nI_lt hj (by omega))
    simp only [f_X6_latestAheadOf_b16.eq_2, f_X12_rateOf_b34.eq_2, zo_78 hL, zg_2 hL2 (show t < 200 by omega), zo_6 hL, h3, zo_108 hL2, zl_ hL2, e9, hcn, Option.bind_some, hn, zr_2 hi hj, zg_2 hL2 (show i < 200 by omega), if_true, ← nI_succ, f_X12_rateOf_b112, f_X12_rateOf_b134, (zs_known hi hL2 e9 hj dd).1, (zs_known hi hL2 e9 hj dd).2, (zs_number hi hL2 e9 hj dd).1, (zs_number hi hL2 e9 hj dd).2, (zs_ahead hi hL2 e9 hj ht).1, (zs_ahead hi hL2 e9 hj ht).2]
    by_cases c0 : q_I M 109 (1300 + 7 * i) = q_I M 109 (1300 + 7 * t)
    · simp only [c0, if_true]
      by_cases c1 : z_ah (q_I M 109) i t = 0
      · by_cases c2 : z_kn (q_I M 109) dd i = 0
        · simp only [c1, c2, if_true]
          exact ih _ _ _ (by omega) (by omega) hp
        · by_cases c3 : z_nm (q_I M 109) dd i = -7
          · simp only [c1, c2, c3, if_true, if_false]
            exact ih _ _ _ (by omega) (by omega) hp
          · simp only [c1, c2, c3, if_true, if_false]
            exact ih _ _ _ (by omega) (by omega) hp
      · by_cases c2 : z_kn (q_I M 109) dd i = 0
        · simp only [c1, c2, if_true, if_false]
          exact ih _ _ _ (by omega) (by omega) hp
        · by_cases c3 : z_nm (q_I M 109) dd i = -7
          · simp only [c1, c2, c3, if_true, if_false]
            exact ih _ _ _ (by omega) (by omega) hp
          · simp only [c1, c2, c3, if_false, show ((1 : Int32) = 0) = False from by decide]
            by_cases c4 : a = -1
            · simp only [c4, if_true]
              exact ih _ _ _ (by omega) (by omega) (Or.inr ⟨i, hj, rfl⟩)
            · obtain ⟨s, hs, ea⟩ := hp.resolve_left c4
              subst ea
              simp only [c4, if_false, (zs_ahead hi hL2 e9 hs hj).1, (zs_ahead hi hL2 e9 hs hj).2, Option.bind_some]
              by_cases c5 : z_ah (q_I M 109) s i = 0
              · simp only [c5, if_true]
                exact ih _ _ _ (by omega) (by omega) hp
              · simp only [c5, if_false]
                exact ih _ _ _ (by omega) (by omega) (Or.inr ⟨i, hj, rfl⟩)
    · simp only [c0, if_false, if_true]
      exact ih _ _ _ (by omega) (by omega) hp
theorem zs_rate {M M2 : q_Mem} (hi : z_Inv M) (hL2 : z_Lay M2) (e9 : q_I M2 109 = q_I M 109) {i : Nat} (hj : i < z_m (q_I M 109) 2) (d : Int32) : ∃ r, f_X6_rateAsKnown M 78 (nI i) d = some r ∧ f_X12_rateOf M2 108 (nI i) d = some r := by
  have hL := hi.1
  obtain ⟨R, h3, hm, hcn⟩ := zt_2 hi
  have hl := zs_leant hi hL2 e9 hj d
  simp only [f_X6_rateAsKnown, f_X12_rateOf, zob_78 hL, zob_108 hL2, (zs_known hi hL2 e9 hj d).1, (zs_known hi hL2 e9 hj d).2, (zs_number hi hL2 e9 hj d).1, (zs_number hi hL2 e9 hj d).2, Option.bind_some, hl.1, (hl.2 1).resolve_right (fun z => z.2)]
  by_cases c1 : z_kn (q_I M 109) d i = 0
  · simp only [c1, if_true]
    exact ⟨_, rfl, rfl⟩
  · simp only [c1, if_false]
    by_cases c2 : z_nm (q_I M 109) d i = -7
    · simp only [c2, if_true]
      obtain ⟨r, h1, h2, h4⟩ := zq_latest hi hL2 e9 hj d (z_m (q_I M 109) 2) 0 q_fuel (-1) (by omega) (by unfold q_fuel; omega) (Or.inl rfl)
      have h1' : f_X6_latestAheadOf M 78 (nI i) d = some r := by
        simp only [f_X6_latestAheadOf, zob_78 hL, zo_78 hL, zr_2 hi hj, Option.bind_some]
        exact h1
      have h4' : f_X12_rateOf_b34 M2 108 (nI i) d q_fuel (-1) 0 = f_X12_rateOf_b147 M2 108 d r := h4
      rw [h1', h4', Option.bind_some]
      rcases h2 with rfl | ⟨s, hs, rfl⟩
      · exact ⟨350, rfl, rfl⟩
      · have hls := zs_leant hi hL2 e9 hs d
        rw [(hls.2 1).resolve_right (fun z => z.2)]
        simp only [f_X12_rateOf_b147, z_nI_ne1 (show s < 2147483648 by omega), if_false, hls.1, Option.bind_some]
        exact ⟨_, rfl, rfl⟩
    · simp only [c2, if_false]
      exact ⟨_, rfl, rfl⟩
