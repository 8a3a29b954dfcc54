/-! ===== rates learned by both sides ===== -/
theorem z_inv9 {M M' : q_Mem} (s : z_sm M M') : q_I M' 109 = q_I M 109 := s.2 109 (Or.inr (Or.inl rfl))
theorem z_nc79 : ¬ z_core 79 := by unfold z_core; omega
theorem z_nc112 : ¬ z_core 112 := by unfold z_core; omega
theorem zq_learn {M : q_Mem} (hi : z_Inv M) (dd : Int32) : ∀ (d i fu : Nat) (M1 : q_Mem), i + d = z_m (q_I M 109) 2 → d < fu → z_sm M M1 → (∀ k, k < i → f_X12_rateOf M 108 (nI k) dd = some (q_I M1 79 k)) → ∃ M2, f_X6_learn_b2 78 dd fu (nI i) M1 = some M2 ∧ z_sm M M2 ∧ (∀ k, k < z_m (q_I M 109) 2 → f_X12_rateOf M 108 (nI k) dd = some (q_I M2 79 k)) := by
  obtain ⟨R, h3, hm, hcn⟩ := zt_2 hi
  intro d
  induction d with
  | zero =>
    intro i fu M1 hd hf hs hk
    obtain ⟨g, rfl⟩ : ∃ g, fu = g + 1 := ⟨fu - 1, by omega⟩
    obtain rfl : i = z_m (q_I M 109) 2 := by omega
    have hn : (nI (z_m (q_I M 109) 2) < nI (z_m (q_I M 109) 2)) = False := eq_false (nI_nlt (Nat.le_refl _) (by omega))
    have hL1 := hs.1.lay hi.1
    have h31 : q_I M1 6 3 = nI (z_m (q_I M 109) 2) := by rw [hs.2 6 (Or.inl (by omega))]; exact h3
    simp only [f_X6_learn_b2.eq_2, zo_78 hL1, zo_6 hL1, h31, Option.bind_some, hn, if_false]
    exact ⟨_, rfl, hs, hk⟩
  | succ d ih =>
    intro i fu M1 hd hf hs hk
    obtain ⟨g, rfl⟩ : ∃ g, fu = g + 1 := ⟨fu - 1, by omega⟩
    have hj : i < z_m (q_I M 109) 2 := by omega
    have hn : (nI i < nI (z_m (q_I M 109) 2)) = True := eq_true (nI_lt hj (by omega))
    have hn2 : (nI i < nI 200) = True := eq_true (nI_lt (by omega) (by decide))
    have hL1 := hs.1.lay hi.1
    have h31 : q_I M1 6 3 = nI (z_m (q_I M 109) 2) := by rw [hs.2 6 (Or.inl (by omega))]; exact h3
    have hi1 := hi.sm hs
    have e9 := z_inv9 hs
    obtain ⟨r, r1, r2⟩ := zs_rate hi1 hi.1 e9.symm (by rw [e9]; exact hj) dd
    simp only [f_X6_learn_b2.eq_2, zo_78 hL1, zo_6 hL1, h31, Option.bind_some, hn, hn2, if_true, za_79 hL1, r1, (za_79 hL1).2.2 i r (by omega), ← nI_succ]
    refine ih _ _ _ (by omega) (by omega) (hs.tr (z_sm.sI z_nc79)) (fun k hk2 => ?_)
    rw [z_I_sI]
    by_cases e : k = i
    · subst e
      rw [if_pos ⟨rfl, rfl⟩]; exact r2
    · rw [if_neg (fun z => e z.2)]; exact hk k (by omega)
theorem zs_learn {M : q_Mem} (hi : z_Inv M) (dd : Int32) : ∃ M1, f_X6_learn M 78 dd = some M1 ∧ z_sm M M1 ∧ (∀ k, k < z_m (q_I M 109) 2 → f_X12_rateOf M 108 (nI k) dd = some (q_I M1 79 k)) := by
  obtain ⟨R, h3, hm, hcn⟩ := zt_2 hi
  obtain ⟨M1, h1, h2, h4⟩ := zq_learn hi dd (z_m (q_I M 109) 2) 0 q_fuel M (by omega) (by unfold q_fuel; omega) z_sm.rf (fun k hk => absurd hk (by omega))
  refine ⟨M1, ?_, h2, h4⟩
  unfold f_X6_learn
  rw [zob_78 hi.1]
  exact h1
theorem zq_find {M : q_Mem} (hi : z_Inv M) (dd : Int32) : ∀ (d i fu : Nat) (M1 : q_Mem), i + d = z_m (q_I M 109) 2 → d < fu → z_sm M M1 → (∀ k, k < i → f_X6_rateAsKnown M 78 (nI k) dd = some (q_I M1 112 k)) → (∀ k, q_I M1 79 k = q_I M 79 k) → q_J M1 = q_J M → ∃ M2, f_X12_findRates_b2 108 dd fu (nI i) M1 = some M2 ∧ z_sm M M2 ∧ (∀ k, k < z_m (q_I M 109) 2 → f_X6_rateAsKnown M 78 (nI k) dd = some (q_I M2 112 k)) ∧ (∀ k, q_I M2 79 k = q_I M 79 k) ∧ q_J M2 = q_J M := by
  obtain ⟨R, h3, hm, hcn⟩ := zt_2 hi
  intro d
  induction d with
  | zero =>
    intro i fu M1 hd hf hs hk h79 hJ
    obtain ⟨g, rfl⟩ : ∃ g, fu = g + 1 := ⟨fu - 1, by omega⟩
    obtain rfl : i = z_m (q_I M 109) 2 := by omega
    have hn : (nI (z_m (q_I M 109) 2) < nI (z_m (q_I M 109) 2)) = False := eq_false (nI_nlt (Nat.le_refl _) (by omega))
    have hL1 := hs.1.lay hi.1
    have e9 := z_inv9 hs
    simp only [f_X12_findRates_b2.eq_2, zo_108 hL1, zl_ hL1, e9, hcn, Option.bind_some, hn, if_false]
    exact ⟨_, rfl, hs, hk, h79, hJ⟩
  | succ d ih =>
    intro i fu M1 hd hf hs hk h79 hJ
    obtain ⟨g, rfl⟩ : ∃ g, fu = g + 1 := ⟨fu - 1, by omega⟩
    have hj : i < z_m (q_I M 109) 2 := by omega
    have hn : (nI i < nI (z_m (q_I M 109) 2)) = True := eq_true (nI_lt hj (by omega))
    have hL1 := hs.1.lay hi.1
    have e9 := z_inv9 hs
    obtain ⟨r, r1, r2⟩ := zs_rate hi hL1 e9 hj dd
    simp only [f_X12_findRates_b2.eq_2, zo_108 hL1, zl_ hL1, e9, hcn, Option.bind_some, hn, if_true, r2, (za_112 hL1).2.2 i r (by omega), ← nI_succ]
    refine ih _ _ _ (by omega) (by omega) (hs.tr (z_sm.sI z_nc112)) (fun k hk2 => ?_) (fun k => ?_) hJ
    · rw [z_I_sI]
      by_cases e : k = i
      · subst e
        rw [if_pos ⟨rfl, rfl⟩]; exact r1
      · rw [if_neg (fun z => e z.2)]; exact hk k (by omega)
    · rw [z_I_sI, if_neg (by omega)]; exact h79 k
/-- both sides' rates stand alike -/
theorem zs_rates {M : q_Mem} (hi : z_Inv M) (dd : Int32) : ∃ M1 M2, f_X6_learn M 78 dd = some M1 ∧ z_sm M M1 ∧ f_X12_findRates M1 108 dd = some M2 ∧ z_sm M1 M2 ∧ (∀ k, k < z_m (q_I M1 109) 2 → q_I M1 79 k = q_I M2 112 k) ∧ (∀ k, q_I M2 79 k = q_I M1 79 k) ∧ q_J M2 = q_J M1 := by
  obtain ⟨R, h3, hm, hcn⟩ := zt_2 hi
  obtain ⟨M1, h1, h2, h4⟩ := zs_learn hi dd
  have hi1 := hi.sm h2
  obtain ⟨R1, h31, hm1, hcn1⟩ := zt_2 hi1
  obtain ⟨M2, g1, g2, g4, g5, g6⟩ := zq_find hi1 dd (z_m (q_I M1 109) 2) 0 q_fuel M1 (by omega) (by unfold q_fuel; omega) z_sm.rf (fun k hk => absurd hk (by omega)) (fun _ => rfl) rfl
  have e9 := z_inv9 h2
  refine ⟨M1, M2, h1, h2, ?_, g2, fun k hk => ?_, g5, g6⟩
  · unfold f_X12_findRates
    rw [zob_108 hi1.1]
    exact g1
  · obtain ⟨r, r1, r2⟩ := zs_rate hi1 hi.1 e9.symm hk dd
    have a1 := g4 k hk
    rw [e9] at hk
    have a2 := h4 k hk
    rw [r1] at a1
    rw [r2] at a2
    exact (Option.some.inj a2).symm.trans (Option.some.inj a1)
/-- the two memories of a query behind the rates -/
def z_RT (M M2 : q_Mem) : Prop := z_Inv M ∧ z_Lay M2 ∧ q_I M2 109 = q_I M 109 ∧ ∀ k, k < z_m (q_I M 109) 2 → q_I M 79 k = q_I M2 112 k
theorem zs_learned {M M2 : q_Mem} (h : z_RT M M2) {i : Nat} (hj : i < z_m (q_I M 109) 2) : f_X6_rateLearned M 78 (nI i) = some (q_I M2 112 i) := by
  obtain ⟨hi, hL2, e9, h4⟩ := h
  have hL := hi.1
  obtain ⟨R, h3, hm, hcn⟩ := zt_2 hi
  have n1 : (nI i < 0) = False := eq_false (show ¬ nI i < nI 0 from nI_nlt (Nat.zero_le _) (by omega))
  have hn2 : (nI i < nI 200) = True := eq_true (nI_lt (by omega) (by decide))
  simp only [f_X6_rateLearned, zob_78 hL, n1, if_false, zo_78 hL, za_79 hL, Option.bind_some, hn2, if_true, (za_79 hL).2.1 i (by omega), h4 i hj]
theorem z_cut {M : q_Mem} {v p : Int32} (hp : z_bt p 1 28) (hv : z_bt v 0 195) : f_X11_cut M v.toInt64 p.toInt64 = some (v / p).toInt64 ∧ q_dv v p = some (v / p) ∧ z_bt (v / p) 0 195 := by
  have hp0 : p ≠ 0 := fun z => by have := hp.1; rw [z] at this; exact absurd this (by decide)
  have hp1 : p.toInt64 ≠ 0 := fun z => by
    have h1 := congrArg Int64.toInt z
    rw [Int32.toInt_toInt64] at h1
    have h2 := hp.1
    have e0 : (0 : Int64).toInt = 0 := rfl
    omega
  have hpm : p ≠ -1 := fun z => by have := hp.1; rw [z] at this; exact absurd this (by decide)
  have hd : (v / p).toInt = v.toInt / p.toInt := by rw [Int32.toInt_div_of_ne_right _ _ hpm, Int.tdiv_eq_ediv_of_nonneg hv.1]
  refine ⟨?_, z_dv0 hp0, ?_⟩
  · unfold f_X11_cut
    rw [if_neg hp1, z_ldv0 hp1, Int32.toInt64_div_of_ne_right _ _ hpm]
    rfl
  · unfold z_bt
    rw [hd]
    have h1 := hp.1
    refine ⟨Int.ediv_nonneg hv.1 (by omega), Int.le_trans (Int.ediv_le_self _ hv.1) hv.2⟩
theorem z_i64lt {a b : Int32} : (a.toInt64 < b.toInt64) = (a < b) := propext (by rw [Int64.lt_iff_toInt_lt, Int32.toInt_toInt64, Int32.toInt_toInt64, Int32.lt_iff_toInt_lt])
theorem zq_rate171 {M M2 : q_Mem} (a b : Int32) : ∃ r, f_X6_rateOfCan_b171 M a b = some r ∧ f_X12_farmRate_b141 M2 a b = some r := by
  unfold f_X6_rateOfCan_b171 f_X12_farmRate_b141
  by_cases h : b = 0
  · rw [if_pos h]; exact ⟨_, rfl, rfl⟩
  · rw [if_neg h, z_dv0 h]; exact ⟨_, rfl, rfl⟩
theorem zq_farmRate {M M2 : q_Mem} (hi : z_Inv M) (hL2 : z_Lay M2) (e9 : q_I M2 109 = q_I M 109) (hr : ∀ k, k < z_m (q_I M 109) 2 → q_I M 79 k = q_I M2 112 k) (f cut : Int32) : ∀ (d i fu : Nat) (b : Int32) (s : Int32) (n : Int32), i + d = z_m (q_I M 109) 2 → d < fu → ∃ r, f_X6_rateOfCan_b52 M 78 f cut.toInt64 fu b.toInt64 s n (nI i) = some r ∧ f_X12_farmRate_b11 M2 108 f cut fu b s n (nI i) = some r := by
  have hL := hi.1
  obtain ⟨R, h3, hm, hcn⟩ := zt_2 hi
  have hper := hi.2.2.2.2.1.2.1.2.1
  intro d
  induction d with
  | zero =>
    intro i fu b s n hd hf
    obtain ⟨g, rfl⟩ : ∃ g, fu = g + 1 := ⟨fu - 1, by omega⟩
    obtain rfl : i = z_m (q_I M 109) 2 := by omega
    have hn : (nI (z_m (q_I M 109) 2) < nI (z_m (q_I M 109) 2)) = False := eq_false (nI_nlt (Nat.le_refl _) (by omega))
    simp only [f_X6_rateOfCan_b52.eq_2, f_X12_farmRate_b11.eq_2, zo_78 hL, zo_1 hL, zo_6 hL, h3, zo_108 hL2, zl_ hL2, e9, hcn, Option.bind_some, hn, if_false]
    exact zq_rate171 s n
  | succ d ih =>
    intro i fu b s n hd hf
    obtain ⟨g, rfl⟩ : ∃ g, fu = g + 1 := ⟨fu - 1, by omega⟩
    have hj : i < z_m (q_I M 109) 2 := by omega
    have hn : (nI i < nI (z_m (q_I M 109) 2)) = True := eq_true (nI_lt hj (by omega))
    have hv : z_bt (q_I M 109 (1300 + 7 * i + 1)) 0 195 := (hi.2.2.2.2.1.2.2.2 2 (by decide) i hj).2.1
    have hc := z_cut (M := M) hper.2 hv
    simp only [f_X6_rateOfCan_b52.eq_2, f_X12_farmRate_b11.eq_2, zo_78 hL, zo_1 hL, zo_6 hL, h3, zo_108 hL2, zl_ hL2, e9, hcn, Option.bind_some, hn, zr_2 hi hj, zg_2 hL2 (show i < 200 by omega), if_true, ← nI_succ, zs_learned ⟨hi, hL2, e9, hr⟩ hj, hper.1, hc.1, hc.2.1, (za_112 hL2).2.1 i (show i < 200 by omega), z_i64lt, f_X6_rateOfCan_b155, f_X12_farmRate_b115, f_X12_farmRate_b101]
    generalize q_I M 109 (1300 + 7 * i + 1) / q_I M 109 10 = v at *
    by_cases c0 : q_I M2 112 i = -1
    · by_cases c1 : q_I M 109 (1300 + 7 * i) = f
      · simp only [c0, c1, if_true]
        exact ih _ _ _ _ _ (by omega) (by omega)
      · simp only [c0, c1, if_true, if_false]
        exact ih _ _ _ _ _ (by omega) (by omega)
    · by_cases c1 : q_I M 109 (1300 + 7 * i) = f
      · simp only [c0, c1, if_true, if_false]
        by_cases c2 : cut < v
        · simp only [c2, if_true]
          exact ih _ _ _ _ _ (by omega) (by omega)
        · by_cases c3 : v < b
          · simp only [c2, c3, if_true, if_false]
            exact ih _ _ _ _ _ (by omega) (by omega)
          · by_cases c4 : b < v
            · simp only [c2, c3, c4, if_true, if_false]
              exact ih (i + 1) g v _ _ (by omega) (by omega)
            · have e : v = b := Int32.toInt_inj.mp (by rw [q_lt_iff] at c3 c4; omega)
              subst e
              simp only [c2, c4, if_false]
              exact ih (i + 1) g v _ _ (by omega) (by omega)
      · simp only [c0, c1, if_false]
        exact ih _ _ _ _ _ (by omega) (by omega)
theorem z_can0 {M : q_Mem} (hi : z_Inv M) {c : Nat} (hc : c < z_m (q_I M 109) 1) : ∃ f, f < z_m (q_I M 109) 0 ∧ q_I M 109 (100 + 4 * c) = nI f := (hi.2.2.2.2.1.2.2.2 1 (by decide) c hc).1
theorem zs_rateOfCan {M M2 : q_Mem} (h : z_RT M M2) {c : Nat} (hc : c < z_m (q_I M 109) 1) : ∃ r, f_X6_rateOfCan M 78 (nI c) = some r ∧ f_X12_rateOfCan M2 108 (nI c) = some r := by
  have hi := h.1
  have hL2 := h.2.1
  have e9 := h.2.2.1
  have hL := hi.1
  obtain ⟨R1, h31, hm1, hcn1⟩ := zt_1 hi
  obtain ⟨R, h3, hm, hcn⟩ := zt_2 hi
  have hper := hi.2.2.2.2.1.2.1.2.1
  have hv : z_bt (q_I M 109 (100 + 4 * c + 1)) 0 195 := (hi.2.2.2.2.1.2.2.2 1 (by decide) c hc).2.1
  have hct := z_cut (M := M) hper.2 hv
  obtain ⟨r, r1, r2⟩ := zq_farmRate hi hL2 e9 h.2.2.2 (q_I M 109 (100 + 4 * c)) (q_I M 109 (100 + 4 * c + 1) / q_I M 109 10) (z_m (q_I M 109) 2) 0 q_fuel (-1) 0 0 (by omega) (by unfold q_fuel; omega)
  have r1' : f_X6_rateOfCan_b52 M 78 (q_I M 109 (100 + 4 * c)) (q_I M 109 (100 + 4 * c + 1) / q_I M 109 10).toInt64 q_fuel (-1) 0 0 0 = some r := r1
  have r2' : f_X12_farmRate_b11 M2 108 (q_I M 109 (100 + 4 * c)) (q_I M 109 (100 + 4 * c + 1) / q_I M 109 10) q_fuel (-1) 0 0 0 = some r := r2
  refine ⟨r, ?_, ?_⟩
  · simp only [f_X6_rateOfCan, zob_78 hL, zo_78 hL, zo_1 hL, zr_1 hi hc, hper.1, hct.1, Option.bind_some, r1']
  · simp only [f_X12_rateOfCan, f_X12_farmRate, zob_108 hL2, zo_108 hL2, zg_1 hL2 (show c < 300 by omega), zl_ hL2, e9, hct.2.1, Option.bind_some, r2']
theorem zs_fatOfCan {M M2 : q_Mem} (h : z_RT M M2) {c : Nat} (hc : c < z_m (q_I M 109) 1) : ∃ r, f_X6_fatOfCan M 78 (nI c) = some r ∧ f_X12_fatOf M2 108 (nI c) = some r := by
  have hi := h.1
  have hL2 := h.2.1
  have e9 := h.2.2.1
  have hL := hi.1
  obtain ⟨R1, h31, hm1, hcn1⟩ := zt_1 hi
  obtain ⟨r, r1, r2⟩ := zs_rateOfCan h hc
  refine ⟨(q_I M 109 (100 + 4 * c + 2)).toInt64 * r.toInt64, ?_, ?_⟩
  · simp only [f_X6_fatOfCan, zob_78 hL, zo_78 hL, zo_1 hL, zr_1 hi hc, Option.bind_some, r1]
  · simp only [f_X12_fatOf, zob_108 hL2, zo_108 hL2, zg_1 hL2 (show c < 300 by omega), e9, Option.bind_some, r2]

