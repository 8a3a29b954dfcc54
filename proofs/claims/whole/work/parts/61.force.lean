/-! ===== motions: votes told, in force ===== -/
theorem zq_votes {M M2 : q_Mem} (hi : z_Inv M) (hL2 : z_Lay M2) (e9 : q_I M2 109 = q_I M 109) {i : Nat} (hj : i < z_m (q_I M 109) 6) (b : Int32) (hb : (b = 0) = ¬ (q_I M 109 (3686 + 84 * i + 62) = 1)) : ∀ (d k fu : Nat) (y n a : Int32), k + d = z_m (q_I M 109) 0 → d < fu → ∃ y' n' a',
    f_X0_votesOf_b25 M 87 (nI i) (1 : Int32) b fu y (nI k) = some y' ∧ f_X0_votesOf_b25 M 87 (nI i) (-1 : Int32) b fu n (nI k) = some n' ∧ f_X0_votesOf_b25 M 87 (nI i) (0 : Int32) b fu a (nI k) = some a' ∧
    f_X12_voted_b15 M2 108 (1 : Int32) ((3686 : Int32) + ((84 : Int32) * nI i)) fu y (nI k) = some y' ∧ f_X12_voted_b15 M2 108 (-1 : Int32) ((3686 : Int32) + ((84 : Int32) * nI i)) fu n (nI k) = some n' ∧ f_X12_voted_b15 M2 108 (2 : Int32) ((3686 : Int32) + ((84 : Int32) * nI i)) fu (y + n + a) (nI k) = some (y' + n' + a') := by
  have hL := hi.1
  obtain ⟨R, h3, hm, hcn⟩ := zt_0 hi
  obtain ⟨R6, h36, hm6, hcn6⟩ := zt_6 hi
  intro d
  induction d with
  | zero =>
    intro k fu y n a hd hf
    obtain ⟨g, rfl⟩ : ∃ g, fu = g + 1 := ⟨fu - 1, by omega⟩
    obtain rfl : k = z_m (q_I M 109) 0 := by omega
    have hn : (nI (z_m (q_I M 109) 0) < nI (z_m (q_I M 109) 0)) = False := eq_false (nI_nlt (Nat.le_refl _) (by omega))
    simp only [f_X0_votesOf_b25.eq_2, f_X12_voted_b15.eq_2, zo_87 hL, zo_1 hL, zo_2 hL, h3, zo_108 hL2, zl_ hL2, e9, hcn, Option.bind_some, hn, if_false]
    exact ⟨y, n, a, rfl, rfl, rfl, rfl, rfl, rfl⟩
  | succ d ih =>
    intro k fu y n a hd hf
    obtain ⟨g, rfl⟩ : ∃ g, fu = g + 1 := ⟨fu - 1, by omega⟩
    have hk : k < z_m (q_I M 109) 0 := by omega
    have hn : (nI k < nI (z_m (q_I M 109) 0)) = True := eq_true (nI_lt hk (by omega))
    have xv : q_I M 109 (3686 + 84 * i + (64 + k)) = -1 ∨ q_I M 109 (3686 + 84 * i + (64 + k)) = 0 ∨ q_I M 109 (3686 + 84 * i + (64 + k)) = 1 := by
      have x := (hi.2.2.2.2.1.2.2.2 6 (by decide) i hj).2.2.2.2.1 k (by omega)
      rw [Nat.add_assoc] at x
      obtain ⟨x1, x2⟩ := x
      have e1 : (-1 : Int32).toInt = -1 := rfl
      have e2 : (0 : Int32).toInt = 0 := rfl
      have e3 : (1 : Int32).toInt = 1 := rfl
      rcases (show (q_I M 109 (3686 + 84 * i + (64 + k))).toInt = -1 ∨ (q_I M 109 (3686 + 84 * i + (64 + k))).toInt = 0 ∨ (q_I M 109 (3686 + 84 * i + (64 + k))).toInt = 1 by omega) with z | z | z
      · exact Or.inl (Int32.toInt_inj.mp (z.trans e1.symm))
      · exact Or.inr (Or.inl (Int32.toInt_inj.mp (z.trans e2.symm)))
      · exact Or.inr (Or.inr (Int32.toInt_inj.mp (z.trans e3.symm)))
    have n1 : ((0 : Int32) = 1) = False := by decide
    have n2 : ((-1 : Int32) = 1) = False := by decide
    have n3 : ((-1 : Int32) = 0) = False := by decide
    have n4 : ((1 : Int32) = 0) = False := by decide
    have n5 : ((1 : Int32) = -1) = False := by decide
    have n6 : ((0 : Int32) = -1) = False := by decide
    have n7 : ((1 : Int32) = 2) = False := by decide
    have n8 : ((-1 : Int32) = 2) = False := by decide
    simp only [f_X0_votesOf_b25.eq_2, f_X12_voted_b15.eq_2, f_X12_voted_b84, f_X12_voted_b58, f_X12_cows, zob_108 hL2, zo_87 hL, zo_1 hL, zo_2 hL, h3, zo_108 hL2, zl_ hL2, e9, hcn, Option.bind_some, hn, if_true, ← nI_succ, zr_0 hi hk, zr_v hi hj (show k < 20 by omega), z_isMember hL2 (show k < 20 by omega), z_b0, zg_0 hL2 (show k < 20 by omega), zg_6 hL2 (show i < 10 by omega), zg_v hL2 (show i < 10 by omega) (show k < 20 by omega), n7, n8, if_false, hb, ite_not, Int32.add_zero]
    rcases Classical.propComplete (q_I M 109 (20 + 4 * k + 3) = 1) with c0 | c0
    · rcases Classical.propComplete (q_I M 109 (3686 + 84 * i + 62) = 1) with c1 | c1
      · rcases xv with xv | xv | xv
        · simp only [c0, c1, xv, n1, n2, n3, n4, n5, n6, if_true, if_false]
          obtain ⟨y', n', a', hh⟩ := ih (k + 1) g y (n + q_I M 109 (20 + 4 * k + 2)) a (by omega) (by omega)
          rw [show y + n + a + q_I M 109 (20 + 4 * k + 2) = y + (n + q_I M 109 (20 + 4 * k + 2)) + a by ac_rfl]
          exact ⟨y', n', a', hh⟩
        · simp only [c0, c1, xv, n1, n2, n3, n4, n5, n6, if_true, if_false]
          obtain ⟨y', n', a', hh⟩ := ih (k + 1) g y n (a + q_I M 109 (20 + 4 * k + 2)) (by omega) (by omega)
          rw [show y + n + a + q_I M 109 (20 + 4 * k + 2) = y + n + (a + q_I M 109 (20 + 4 * k + 2)) by ac_rfl]
          exact ⟨y', n', a', hh⟩
        · simp only [c0, c1, xv, n1, n2, n3, n4, n5, n6, if_true, if_false]
          obtain ⟨y', n', a', hh⟩ := ih (k + 1) g (y + q_I M 109 (20 + 4 * k + 2)) n a (by omega) (by omega)
          rw [show y + n + a + q_I M 109 (20 + 4 * k + 2) = (y + q_I M 109 (20 + 4 * k + 2)) + n + a by ac_rfl]
          exact ⟨y', n', a', hh⟩
      · rcases xv with xv | xv | xv
        · simp only [c0, c1, xv, n1, n2, n3, n4, n5, n6, if_true, if_false]
          obtain ⟨y', n', a', hh⟩ := ih (k + 1) g y (n + 1) a (by omega) (by omega)
          rw [show y + n + a + 1 = y + (n + 1) + a by ac_rfl]
          exact ⟨y', n', a', hh⟩
        · simp only [c0, c1, xv, n1, n2, n3, n4, n5, n6, if_true, if_false]
          obtain ⟨y', n', a', hh⟩ := ih (k + 1) g y n (a + 1) (by omega) (by omega)
          rw [show y + n + a + 1 = y + n + (a + 1) by ac_rfl]
          exact ⟨y', n', a', hh⟩
        · simp only [c0, c1, xv, n1, n2, n3, n4, n5, n6, if_true, if_false]
          obtain ⟨y', n', a', hh⟩ := ih (k + 1) g (y + 1) n a (by omega) (by omega)
          rw [show y + n + a + 1 = (y + 1) + n + a by ac_rfl]
          exact ⟨y', n', a', hh⟩
    · simp only [c0, if_false]
      exact ih (k + 1) g y n a (by omega) (by omega)
theorem zs_votes {M M2 : q_Mem} (hi : z_Inv M) (hL2 : z_Lay M2) (e9 : q_I M2 109 = q_I M 109) {i : Nat} (hj : i < z_m (q_I M 109) 6) : ∃ y n a, f_X0_votesOf M 87 (nI i) (1 : Int32) = some y ∧ f_X0_votesOf M 87 (nI i) (-1 : Int32) = some n ∧ f_X0_votesOf M 87 (nI i) (0 : Int32) = some a ∧ f_X12_voted M2 108 (nI i) (1 : Int32) = some y ∧ f_X12_voted M2 108 (nI i) (-1 : Int32) = some n ∧ f_X12_voted M2 108 (nI i) (2 : Int32) = some (y + n + a) := by
  have hL := hi.1
  obtain ⟨R, h3, hm, hcn⟩ := zt_0 hi
  by_cases c : q_I M 109 (3686 + 84 * i + 62) = 1
  · obtain ⟨y, n, a, v1, v2, v3, v4, v5, v6⟩ := zq_votes hi hL2 e9 hj 1 (by simp [c]) (z_m (q_I M 109) 0) 0 q_fuel 0 0 0 (by omega) (z_fu (by omega))
    refine ⟨y, n, a, ?_, ?_, ?_, ?_, ?_, ?_⟩
    all_goals simp only [f_X0_votesOf, f_X0_votesOf_b18, f_X12_voted, zob_87 hL, zo_87 hL, zr_6 hi hj, Option.bind_some, c, if_true, if_false, zob_108 hL2]
    · exact v1
    · exact v2
    · exact v3
    · exact v4
    · exact v5
    · exact v6
  · obtain ⟨y, n, a, v1, v2, v3, v4, v5, v6⟩ := zq_votes hi hL2 e9 hj 0 (by simp [c]) (z_m (q_I M 109) 0) 0 q_fuel 0 0 0 (by omega) (z_fu (by omega))
    refine ⟨y, n, a, ?_, ?_, ?_, ?_, ?_, ?_⟩
    all_goals simp only [f_X0_votesOf, f_X0_votesOf_b18, f_X12_voted, zob_87 hL, zo_87 hL, zr_6 hi hj, Option.bind_some, c, if_true, if_false, zob_108 hL2]
    · exact v1
    · exact v2
    · exact v3
    · exact v4
    · exact v5
    · exact v6
theorem zs_passed {M M2 : q_Mem} (hi : z_Inv M) (hL2 : z_Lay M2) (e9 : q_I M2 109 = q_I M 109) {i : Nat} (hj : i < z_m (q_I M 109) 6) : ∃ r, (r = 0 ∨ r = 1) ∧ f_X0_isPassed M 87 (nI i) = some r ∧ f_X12_isPassed M2 108 (nI i) = some r := by
  have hL := hi.1
  obtain ⟨y, n, a, v1, v2, v3, v4, v5, v6⟩ := zs_votes hi hL2 e9 hj
  simp only [f_X0_isPassed, f_X12_isPassed, zob_87 hL, zob_108 hL2, v1, v2, v3, v4, v5, v6, Option.bind_some]
  by_cases c0 : n < y
  · by_cases c1 : (2 : Int32) * (y + n) < y + n + a
    · simp only [c0, c1, if_true]; exact ⟨0, Or.inl rfl, rfl, rfl⟩
    · simp only [c0, c1, if_true, if_false]; exact ⟨1, Or.inr rfl, rfl, rfl⟩
  · simp only [c0, if_false]; exact ⟨0, Or.inl rfl, rfl, rfl⟩
theorem zs_tellOf {M M2 : q_Mem} (hi : z_Inv M) (hL2 : z_Lay M2) (e9 : q_I M2 109 = q_I M 109) {i : Nat} (hj : i < z_m (q_I M 109) 6) {v : Int32} (hv : (0 : Int32).toInt ≤ v.toInt ∧ v.toInt ≤ (4 : Int32).toInt) : ∃ r, f_X0_tellOf M 87 (nI i) v = some r ∧ f_X12_motionOf M2 108 (nI i) v = some r := by
  have hL := hi.1
  obtain ⟨R6, h36, hm6, hcn6⟩ := zt_6 hi
  obtain ⟨y, n, a, v1, v2, v3, v4, v5, v6⟩ := zs_votes hi hL2 e9 hj
  obtain ⟨p, hp, p1, p2⟩ := zs_passed hi hL2 e9 hj
  have e0 : (0 : Int32).toInt = 0 := rfl
  have e4 : (4 : Int32).toInt = 4 := rfl
  rw [e0, e4] at hv
  obtain ⟨k, hk, rfl⟩ : ∃ k, k < 5 ∧ v = nI k := z_of (n := 5) ⟨hv.1, by omega⟩ (by decide)
  match k, hk with
  | 0, _ =>
    simp only [f_X0_tellOf, f_X12_motionOf, zob_87 hL, zob_108 hL2, v1, v4, Option.bind_some, show ((nI 0) < 0) = False by decide, show ((nI 0) = 0) = True by decide, if_true, if_false]
    exact ⟨_, rfl, rfl⟩
  | 1, _ =>
    simp only [f_X0_tellOf, f_X12_motionOf, zob_87 hL, zob_108 hL2, v2, v5, Option.bind_some, show ((nI 1) < 0) = False by decide, show ((nI 1) = 0) = False by decide, show ((nI 1) = 1) = True by decide, if_true, if_false]
    exact ⟨_, rfl, rfl⟩
  | 2, _ =>
    simp only [f_X0_tellOf, f_X12_motionOf, zob_87 hL, zob_108 hL2, v1, v2, v3, v6, Option.bind_some, show ((nI 2) < 0) = False by decide, show ((nI 2) = 0) = False by decide, show ((nI 2) = 1) = False by decide, show ((nI 2) = 2) = True by decide, if_true, if_false]
    exact ⟨_, rfl, rfl⟩
  | 3, _ =>
    simp only [f_X0_tellOf, f_X12_motionOf, zob_87 hL, zob_108 hL2, p1, p2, z_c_asNumber hp, Option.bind_some, show ((nI 3) < 0) = False by decide, show ((nI 3) = 0) = False by decide, show ((nI 3) = 1) = False by decide, show ((nI 3) = 2) = False by decide, show ((nI 3) = 3) = True by decide, if_true, if_false]
    rcases hp with rfl | rfl
    · exact ⟨0, rfl, if_pos rfl⟩
    · exact ⟨1, rfl, if_neg (by decide)⟩
  | 4, _ =>
    simp only [f_X0_tellOf, f_X12_motionOf, zob_87 hL, zob_108 hL2, zo_87 hL, zo_108 hL2, zr_6 hi hj, zg_6 hL2 (show i < 10 by omega), e9, Option.bind_some, show ((nI 4) < 0) = False by decide, show ((nI 4) = 0) = False by decide, show ((nI 4) = 1) = False by decide, show ((nI 4) = 2) = False by decide, show ((nI 4) = 3) = False by decide, if_false]
    exact ⟨_, rfl, rfl⟩
theorem zq_force {M M2 : q_Mem} (hi : z_Inv M) (hL2 : z_Lay M2) (e9 : q_I M2 109 = q_I M 109) (dd : Int32) : ∀ (d k fu : Nat) (b c : Int32), k + d = z_m (q_I M 109) 6 → d < fu → ((b = -1 ∧ c = -1) ∨ ∃ j, j < z_m (q_I M 109) 6 ∧ b = nI j ∧ c = q_I M 109 (3686 + 84 * j + 61)) → ∃ r,
    f_X0_inForce_b4 M 87 dd fu b (nI k) = some r ∧ f_X12_forceOf_b7 M2 108 dd fu b c (nI k) = some r ∧ (r = -1 ∨ ∃ j, j < z_m (q_I M 109) 6 ∧ r = nI j) := by
  have hL := hi.1
  obtain ⟨R, h3, hm, hcn⟩ := zt_6 hi
  intro d
  induction d with
  | zero =>
    intro k fu b c hd hf hp
    obtain ⟨g, rfl⟩ : ∃ g, fu = g + 1 := ⟨fu - 1, by omega⟩
    obtain rfl : k = z_m (q_I M 109) 6 := by omega
    have hn : (nI (z_m (q_I M 109) 6) < nI (z_m (q_I M 109) 6)) = False := eq_false (nI_nlt (Nat.le_refl _) (by omega))
    simp only [f_X0_inForce_b4.eq_2, f_X12_forceOf_b7.eq_2, zo_87 hL, zo_14 hL, h3, zo_108 hL2, zl_ hL2, e9, hcn, Option.bind_some, hn, if_false]
    exact ⟨b, rfl, rfl, hp.imp (fun z => z.1) (fun ⟨j, z1, z2, _⟩ => ⟨j, z1, z2⟩)⟩
  | succ d ih =>
    intro k fu b c hd hf hp
    obtain ⟨g, rfl⟩ : ∃ g, fu = g + 1 := ⟨fu - 1, by omega⟩
    have hk : k < z_m (q_I M 109) 6 := by omega
    have hn : (nI k < nI (z_m (q_I M 109) 6)) = True := eq_true (nI_lt hk (by omega))
    have ov := hi.2.2.2.2.1.2.2.2 6 (by decide) k hk
    have x1 : z_bt (q_I M 109 (3686 + 84 * k + 61)) 0 195 := ov.2.1
    have x3 : q_I M 109 (3686 + 84 * k + 63) = 0 ∨ q_I M 109 (3686 + 84 * k + 63) = 1 := z_01 ov.2.2.2.1
    obtain ⟨p, hpp, p1, p2⟩ := zs_passed hi hL2 e9 hk
    have n10 : ((1 : Int32) = 0) = False := by decide
    have n01 : ((0 : Int32) = 1) = False := by decide
    simp only [f_X0_inForce_b4.eq_2, f_X12_forceOf_b7.eq_2, zo_87 hL, zo_14 hL, h3, zo_108 hL2, zl_ hL2, e9, hcn, Option.bind_some, hn, if_true, ← nI_succ, zr_6 hi hk, zg_6 hL2 (show k < 10 by omega), p1, p2]
    rcases Classical.propComplete (dd < q_I M 109 (3686 + 84 * k + 61)) with c0 | c0
    · simp only [c0, if_true]
      exact ih (k + 1) g b c (by omega) (by omega) hp
    · simp only [c0, if_false]
      rcases x3 with x3 | x3
      · simp only [x3, n01, if_false, if_true]
        rcases hpp with rfl | rfl
        · simp only [if_true, ite_self]
          exact ih (k + 1) g b c (by omega) (by omega) hp
        · simp only [n10, if_false]
          rcases hp with ⟨hb, hc⟩ | ⟨j, hj, hb, hc⟩
          · subst hb hc
            have hlt : (q_I M 109 (3686 + 84 * k + 61) < (-1 : Int32)) = False := by
              rw [q_lt_iff]
              have e1 : (-1 : Int32).toInt = -1 := rfl
              have := x1.1
              exact eq_false (by omega)
            simp only [hlt, if_true, if_false]
            exact ih (k + 1) g (nI k) _ (by omega) (by omega) (Or.inr ⟨k, hk, rfl, rfl⟩)
          · subst hb hc
            have hne : (nI j = (-1 : Int32)) = False := by
              refine eq_false (fun z => ?_)
              have z2 := congrArg Int32.toInt z
              rw [nI_toInt (by omega)] at z2
              have e1 : (-1 : Int32).toInt = -1 := rfl
              omega
            simp only [hne, if_false, zr_6 hi hj, Option.bind_some]
            rcases Classical.propComplete (q_I M 109 (3686 + 84 * k + 61) < q_I M 109 (3686 + 84 * j + 61)) with c1 | c1
            · simp only [c1, if_true]
              exact ih (k + 1) g _ _ (by omega) (by omega) (Or.inr ⟨j, hj, rfl, rfl⟩)
            · simp only [c1, if_false]
              exact ih (k + 1) g _ _ (by omega) (by omega) (Or.inr ⟨k, hk, rfl, rfl⟩)
      · simp only [x3, n10, if_false, if_true, ite_self]
        exact ih (k + 1) g b c (by omega) (by omega) hp
theorem zs_force {M M2 : q_Mem} (hi : z_Inv M) (hL2 : z_Lay M2) (e9 : q_I M2 109 = q_I M 109) (dd : Int32) : ∃ r, f_X0_inForce M 87 dd = some r ∧ f_X12_forceOf M2 108 dd = some r ∧ (r = -1 ∨ ∃ j, j < z_m (q_I M 109) 6 ∧ r = nI j) := by
  have hL := hi.1
  obtain ⟨R, h3, hm, hcn⟩ := zt_6 hi
  obtain ⟨r, r1, r2, r3⟩ := zq_force hi hL2 e9 dd (z_m (q_I M 109) 6) 0 q_fuel (-1) (-1) (by omega) (z_fu (by omega)) (Or.inl ⟨rfl, rfl⟩)
  refine ⟨r, ?_, ?_, r3⟩
  · unfold f_X0_inForce
    rw [zob_87 hL]; exact r1
  · unfold f_X12_forceOf
    rw [zob_108 hL2]; exact r2
theorem Z_force_ok : Z_force := by
  intro M p1 hi
  have hL := hi.1
  obtain ⟨r, r1, r2, _⟩ := zs_force hi hL rfl p1
  simp only [f_X11_force, f_X12_force, zob_0 hL, zo_0 hL, zob_108 hL, z_c_isDay, z_m_isDay, z_b0, r1, r2, Option.bind_some]
  split
  · exact ⟨_, rfl, rfl, hi⟩
  · exact ⟨_, rfl, rfl, hi⟩
theorem Z_motionAt_ok : Z_motionAt := by
  intro M p1 p2 hi
  have hL := hi.1
  obtain ⟨R, h3, hm, hcn⟩ := zt_6 hi
  have hh := z_has (x := p1) R h3 hm
  have hs : f_X12_is M 108 (5 : Int32) p1 = some (q_b (0 ≤ p1.toInt ∧ p1.toInt < (z_m (q_I M 109) 6 : Int))) := z_m_is (t := 0) (j := 5) hL (by decide) hcn (by omega)
  by_cases g0 : 0 ≤ p1.toInt ∧ p1.toInt < (z_m (q_I M 109) 6 : Int)
  · by_cases g1 : (0 : Int32).toInt ≤ p2.toInt ∧ p2.toInt ≤ (4 : Int32).toInt
    · obtain ⟨i, hj, rfl⟩ := z_of g0 (by omega)
      obtain ⟨r, r1, r2⟩ := zs_tellOf hi hL rfl hj g1
      refine ⟨r, ?_, ?_, hi⟩
      · simp only [f_X11_motionAt, zob_0 hL, zo_0 hL, zo_1 hL, hh, z_c_within, Option.bind_some, z_b0, g0, g1, and_self, if_true, r1]
      · simp only [f_X12_motionAt, zob_108 hL, zo_108 hL, hs, z_m_in, Option.bind_some, z_b0, g0, g1, and_self, if_true, r2]
    · refine ⟨-2, ?_, ?_, hi⟩
      · simp only [f_X11_motionAt, zob_0 hL, zo_0 hL, zo_1 hL, hh, z_c_within, Option.bind_some, z_b0, g0, g1, and_self, if_true, if_false]
      · simp only [f_X12_motionAt, zob_108 hL, zo_108 hL, hs, z_m_in, Option.bind_some, z_b0, g0, g1, and_self, if_true, if_false]
  · refine ⟨-2, ?_, ?_, hi⟩
    · simp only [f_X11_motionAt, zob_0 hL, zo_0 hL, zo_1 hL, hh, z_c_within, Option.bind_some, z_b0, g0, and_self, if_true, if_false]
    · simp only [f_X12_motionAt, zob_108 hL, zo_108 hL, hs, z_m_in, Option.bind_some, z_b0, g0, and_self, if_true, if_false]
