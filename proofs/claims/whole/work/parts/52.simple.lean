/-! ===== period, freight, bias, gives, drain, count ===== -/
theorem Z_period_ok : Z_period := by
  intro M v hi
  have hL := hi.1
  by_cases hg : (1 : Int32).toInt ≤ v.toInt ∧ v.toInt ≤ (28 : Int32).toInt
  · refine ⟨q_I M 1 13, q_sI M 1 13 v, q_sI (q_sI M 1 13 v) 109 10 v, ?_, ?_, ?_⟩
    · unfold f_X11_period
      rw [zob_0 hL, z_c_within, Option.bind_some, z_b0, if_pos hg, (zo_0 hL).2.2.2.2.2.1, Option.bind_some, (zo_1 hL).1, Option.bind_some, Option.bind_some, (zo_1 hL).2.2.1]
      rfl
    · have hL1 : z_Lay (q_sI M 1 13 v) := hL
      have e : (10 : Int32) = nI 10 := rfl
      unfold f_X12_period
      rw [zob_108 hL1, z_m_in, Option.bind_some, z_b0, if_pos hg, (zo_108 hL1).2.2.2.2.2.1, Option.bind_some, e, z_st_lit hL1 (by decide), Option.bind_some, Option.bind_some, z_st_put hL1 (by decide), Option.bind_some, z_I_sI, if_neg (by decide), hi.2.2.2.2.1.2.1.2.1.1]
    · refine hi.upd ⟨rfl, rfl, rfl⟩ (fun a ha => ?_) (fun t ht => ?_) (z_hs_lo hi.2.2.2.2.1 (fun a h1 h2 => ?_) (fun k hk => ?_) ⟨fun j hj => ?_, ?_, ?_, ?_⟩ (fun j hj => ?_))
      · rw [q_sI_ne (by omega), q_sI_ne (by omega)]
      · rw [q_sI_ne (by omega), q_sI_ne (by omega)]; exact hi.2.1 t ht
      · rw [q_sI_ne (by omega), q_sI_ne (by omega)]
      · rw [z_I_sI, if_neg (by omega), z_I_sI, if_neg (by omega)]
      · rw [z_I_sI, if_neg (by omega), z_I_sI, if_neg (by omega), z_I_sI, if_neg (by omega), z_I_sI, if_neg (by omega)]; exact hi.2.2.2.2.1.2.1.1 j hj
      · rw [z_I_sI, if_neg (by omega), z_I_sI, if_pos (by omega), z_I_sI, if_pos (by omega)]; exact ⟨rfl, hg⟩
      · rw [z_I_sI, if_neg (by omega), z_I_sI, if_neg (by omega), z_I_sI, if_neg (by omega), z_I_sI, if_neg (by omega)]; exact hi.2.2.2.2.1.2.1.2.2.1
      · rw [z_I_sI, if_neg (by omega), z_I_sI, if_neg (by omega), z_I_sI, if_neg (by omega), z_I_sI, if_neg (by omega)]; exact hi.2.2.2.2.1.2.1.2.2.2
      · rw [z_I_sI, if_neg (by omega), z_I_sI, if_neg (by omega), z_I_sI, if_neg (by omega), z_I_sI, if_neg (by omega)]; exact hi.2.2.2.2.1.2.2.1 j hj
  · refine ⟨-2, M, M, ?_, ?_, hi⟩
    · unfold f_X11_period
      rw [zob_0 hL, z_c_within, Option.bind_some, z_b0, if_neg hg]
    · unfold f_X12_period
      rw [zob_108 hL, z_m_in, Option.bind_some, z_b0, if_neg hg]
theorem Z_freight_ok : Z_freight := by
  intro M v hi
  have hL := hi.1
  by_cases hg : (0 : Int32).toInt ≤ v.toInt ∧ v.toInt ≤ (100 : Int32).toInt
  · refine ⟨q_I M 1 15, q_sI M 1 15 v, q_sI (q_sI M 1 15 v) 109 12 v, ?_, ?_, ?_⟩
    · unfold f_X11_freight
      rw [zob_0 hL, z_c_within, Option.bind_some, z_b0, if_pos hg, (zo_0 hL).2.2.2.2.2.1, Option.bind_some, (zo_1 hL).1, Option.bind_some, Option.bind_some, (zo_1 hL).2.2.1]
      rfl
    · have hL1 : z_Lay (q_sI M 1 15 v) := hL
      have e : (12 : Int32) = nI 12 := rfl
      unfold f_X12_freight
      rw [zob_108 hL1, z_m_in, Option.bind_some, z_b0, if_pos hg, (zo_108 hL1).2.2.2.2.2.1, Option.bind_some, e, z_st_lit hL1 (by decide), Option.bind_some, Option.bind_some, z_st_put hL1 (by decide), Option.bind_some, z_I_sI, if_neg (by decide), hi.2.2.2.2.1.2.1.2.2.2.1]
    · refine hi.upd ⟨rfl, rfl, rfl⟩ (fun a ha => ?_) (fun t ht => ?_) (z_hs_lo hi.2.2.2.2.1 (fun a h1 h2 => ?_) (fun k hk => ?_) ⟨fun j hj => ?_, ?_, ?_, ?_⟩ (fun j hj => ?_))
      · rw [q_sI_ne (by omega), q_sI_ne (by omega)]
      · rw [q_sI_ne (by omega), q_sI_ne (by omega)]; exact hi.2.1 t ht
      · rw [q_sI_ne (by omega), q_sI_ne (by omega)]
      · rw [z_I_sI, if_neg (by omega), z_I_sI, if_neg (by omega)]
      · rw [z_I_sI, if_neg (by omega), z_I_sI, if_neg (by omega), z_I_sI, if_neg (by omega), z_I_sI, if_neg (by omega)]; exact hi.2.2.2.2.1.2.1.1 j hj
      · rw [z_I_sI, if_neg (by omega), z_I_sI, if_neg (by omega), z_I_sI, if_neg (by omega), z_I_sI, if_neg (by omega)]; exact hi.2.2.2.2.1.2.1.2.1
      · rw [z_I_sI, if_neg (by omega), z_I_sI, if_neg (by omega), z_I_sI, if_neg (by omega), z_I_sI, if_neg (by omega)]; exact hi.2.2.2.2.1.2.1.2.2.1
      · rw [z_I_sI, if_neg (by omega), z_I_sI, if_pos (by omega), z_I_sI, if_pos (by omega)]; exact ⟨rfl, hg⟩
      · rw [z_I_sI, if_neg (by omega), z_I_sI, if_neg (by omega), z_I_sI, if_neg (by omega), z_I_sI, if_neg (by omega)]; exact hi.2.2.2.2.1.2.2.1 j hj
  · refine ⟨-2, M, M, ?_, ?_, hi⟩
    · unfold f_X11_freight
      rw [zob_0 hL, z_c_within, Option.bind_some, z_b0, if_neg hg]
    · unfold f_X12_freight
      rw [zob_108 hL, z_m_in, Option.bind_some, z_b0, if_neg hg]
theorem Z_bias_ok : Z_bias := by
  intro M p1 p2 hi
  have hL := hi.1
  by_cases g1 : (0 : Int32).toInt ≤ p1.toInt ∧ p1.toInt ≤ (3 : Int32).toInt
  · by_cases g2 : (-50 : Int32).toInt ≤ p2.toInt ∧ p2.toInt ≤ (50 : Int32).toInt
    · obtain ⟨j, hj, rfl⟩ := z_of (v := p1) (n := 4) ⟨g1.1, by have := g1.2; have e : (3 : Int32).toInt = 3 := rfl; omega⟩ (by decide)
      have hL1 : z_Lay (q_sI M 24 j p2) := hL
      have e : (13 : Int32) + nI j = nI (13 + j) := by rw [show (13 : Int32) = nI 13 from rfl, nI_add]
      have r1 : q_lI M 24 (nI j) = some (q_I M 24 j) := (za_24 hL).2.1 j hj
      have r2 : q_tI M 24 (nI j) p2 = some (q_sI M 24 j p2) := (za_24 hL).2.2 j p2 hj
      have r3 : q_lI (q_sI M 24 j p2) 109 (nI (13 + j)) = some (q_I M 109 (13 + j)) := by rw [z_st_lit hL1 (by omega), z_I_sI, if_neg (by omega)]
      have r4 : q_tI (q_sI M 24 j p2) 109 (nI (13 + j)) p2 = some (q_sI (q_sI M 24 j p2) 109 (13 + j) p2) := z_st_put hL1 (by omega)
      have eb := (hi.2.2.2.2.1.2.1.1 j hj).1
      refine ⟨q_I M 24 j, q_sI M 24 j p2, q_sI (q_sI M 24 j p2) 109 (13 + j) p2, ?_, ?_, ?_⟩
      · simp only [f_X11_bias, zob_0 hL, z_c_isHand, z_c_within, Option.bind_some, z_b0, g1, g2, and_self, if_true, zo_0 hL, zo_1 hL, r1, r2]
      · simp only [f_X12_bias, zob_108 hL1, z_m_in, Option.bind_some, z_b0, g1, g2, and_self, if_true, zo_108 hL1, e, r3, r4]
        rw [← eb]
      · refine hi.upd ⟨rfl, rfl, rfl⟩ (fun a ha => ?_) (fun t ht => ?_) (z_hs_lo hi.2.2.2.2.1 (fun a h1 h2 => ?_) (fun k hk => ?_) ⟨fun i hi2 => ?_, ?_, ?_, ?_⟩ (fun i hi2 => ?_))
        · rw [q_sI_ne (by omega), q_sI_ne (by omega)]
        · rw [q_sI_ne (by omega), q_sI_ne (by omega)]; exact hi.2.1 t ht
        · rw [q_sI_ne (by omega), q_sI_ne (by omega)]
        · rw [z_I_sI, if_neg (by omega), z_I_sI, if_neg (by omega)]
        · have := hi.2.2.2.2.1.2.1.1 i hi2
          rw [z_I_sI, if_neg (by omega), z_I_sI, z_I_sI, z_I_sI]
          by_cases q : i = j
          · subst q
            rw [if_pos (by omega), if_pos (by omega)]
            exact ⟨rfl, g2⟩
          · rw [if_neg (by omega), if_neg (by omega), if_neg (by omega)]
            exact this
        · rw [z_I_sI, if_neg (by omega), z_I_sI, if_neg (by omega), z_I_sI, if_neg (by omega), z_I_sI, if_neg (by omega)]; exact hi.2.2.2.2.1.2.1.2.1
        · rw [z_I_sI, if_neg (by omega), z_I_sI, if_neg (by omega), z_I_sI, if_neg (by omega), z_I_sI, if_neg (by omega)]; exact hi.2.2.2.2.1.2.1.2.2.1
        · rw [z_I_sI, if_neg (by omega), z_I_sI, if_neg (by omega), z_I_sI, if_neg (by omega), z_I_sI, if_neg (by omega)]; exact hi.2.2.2.2.1.2.1.2.2.2
        · rw [z_I_sI, if_neg (by omega), z_I_sI, if_neg (by omega), z_I_sI, if_neg (by omega), z_I_sI, if_neg (by omega)]; exact hi.2.2.2.2.1.2.2.1 i hi2
    · refine ⟨-1000, M, M, ?_, ?_, hi⟩
      · simp only [f_X11_bias, zob_0 hL, z_c_isHand, z_c_within, Option.bind_some, z_b0, g1, g2, and_self, if_true, if_false]
      · simp only [f_X12_bias, zob_108 hL, z_m_in, Option.bind_some, z_b0, g1, g2, and_self, if_true, if_false]
  · refine ⟨-1000, M, M, ?_, ?_, hi⟩
    · simp only [f_X11_bias, zob_0 hL, z_c_isHand, z_c_within, Option.bind_some, z_b0, g1, if_false]
    · simp only [f_X12_bias, zob_108 hL, z_m_in, Option.bind_some, z_b0, g1, if_false]
theorem Z_gives_ok : Z_gives := by
  intro M p1 p2 hi
  have hL := hi.1
  have h0 : (0 : Int32).toInt = 0 := rfl
  have h51 : (51 : Int32).toInt = 51 := rfl
  have h52 : (nI 52).toInt = 52 := rfl
  by_cases g1 : (0 : Int32).toInt ≤ p1.toInt ∧ p1.toInt ≤ (51 : Int32).toInt
  · have n1 : (p1 < 0) = False := eq_false (fun z => by rw [q_lt_iff] at z; omega)
    have n2 : (p1 < nI 52) = True := eq_true (by rw [q_lt_iff]; omega)
    by_cases g2 : (0 : Int32).toInt ≤ p2.toInt ∧ p2.toInt ≤ (500 : Int32).toInt
    · obtain ⟨j, hj, rfl⟩ := z_of (v := p1) (n := 52) ⟨g1.1, by omega⟩ (by decide)
      have hL1 : z_Lay (q_sI M 25 j p2) := hL
      have e : (4556 : Int32) + nI j = nI (4556 + j) := by rw [show (4556 : Int32) = nI 4556 from rfl, nI_add]
      have r1 : q_lI M 25 (nI j) = some (q_I M 25 j) := (za_25 hL).2.1 j hj
      have r2 : q_tI M 25 (nI j) p2 = some (q_sI M 25 j p2) := (za_25 hL).2.2 j p2 hj
      have r3 : q_lI (q_sI M 25 j p2) 109 (nI (4556 + j)) = some (q_I M 109 (4556 + j)) := by rw [z_st_lit hL1 (by omega), z_I_sI, if_neg (by omega)]
      have r4 : q_tI (q_sI M 25 j p2) 109 (nI (4556 + j)) p2 = some (q_sI (q_sI M 25 j p2) 109 (4556 + j) p2) := z_st_put hL1 (by omega)
      have eb := (hi.2.2.2.2.1.2.2.1 j hj).1
      refine ⟨q_I M 25 j, q_sI M 25 j p2, q_sI (q_sI M 25 j p2) 109 (4556 + j) p2, ?_, ?_, ?_⟩
      · simp only [f_X11_gives, zob_0 hL, z_c_within, Option.bind_some, z_b0, n1, n2, g2, and_self, if_true, if_false, zo_0 hL, zo_1 hL, za_25 hL, r1, r2]
      · simp only [f_X12_gives, zob_108 hL1, z_m_in, Option.bind_some, z_b0, g1, g2, and_self, if_true, zo_108 hL1, e, r3, r4]
        rw [← eb]
      · refine hi.upd ⟨rfl, rfl, rfl⟩ (fun a ha => ?_) (fun t ht => ?_) (z_hs_lo hi.2.2.2.2.1 (fun a h1 h2 => ?_) (fun k hk => ?_) ⟨fun i hi2 => ?_, ?_, ?_, ?_⟩ (fun i hi2 => ?_))
        · rw [q_sI_ne (by omega), q_sI_ne (by omega)]
        · rw [q_sI_ne (by omega), q_sI_ne (by omega)]; exact hi.2.1 t ht
        · rw [q_sI_ne (by omega), q_sI_ne (by omega)]
        · rw [z_I_sI, if_neg (by omega), z_I_sI, if_neg (by omega)]
        · rw [z_I_sI, if_neg (by omega), z_I_sI, if_neg (by omega), z_I_sI, if_neg (by omega), z_I_sI, if_neg (by omega)]; exact hi.2.2.2.2.1.2.1.1 i hi2
        · rw [z_I_sI, if_neg (by omega), z_I_sI, if_neg (by omega), z_I_sI, if_neg (by omega), z_I_sI, if_neg (by omega)]; exact hi.2.2.2.2.1.2.1.2.1
        · rw [z_I_sI, if_neg (by omega), z_I_sI, if_neg (by omega), z_I_sI, if_neg (by omega), z_I_sI, if_neg (by omega)]; exact hi.2.2.2.2.1.2.1.2.2.1
        · rw [z_I_sI, if_neg (by omega), z_I_sI, if_neg (by omega), z_I_sI, if_neg (by omega), z_I_sI, if_neg (by omega)]; exact hi.2.2.2.2.1.2.1.2.2.2
        · have := hi.2.2.2.2.1.2.2.1 i hi2
          rw [z_I_sI, if_neg (by omega), z_I_sI, z_I_sI, z_I_sI]
          by_cases q : i = j
          · subst q
            rw [if_pos (by omega), if_pos (by omega)]
            exact ⟨rfl, g2⟩
          · rw [if_neg (by omega), if_neg (by omega), if_neg (by omega)]
            exact this
    · refine ⟨-2, M, M, ?_, ?_, hi⟩
      · simp only [f_X11_gives, zob_0 hL, z_c_within, Option.bind_some, z_b0, n1, n2, g2, and_self, if_true, if_false, zo_0 hL, zo_1 hL, za_25 hL]
      · simp only [f_X12_gives, zob_108 hL, z_m_in, Option.bind_some, z_b0, g1, g2, and_self, if_true, if_false]
  · refine ⟨-2, M, M, ?_, ?_, hi⟩
    · by_cases n1 : p1 < 0
      · simp only [f_X11_gives, zob_0 hL, n1, if_true]
      · have n2 : (p1 < nI 52) = False := eq_false (fun z => by rw [q_lt_iff] at z n1; omega)
        simp only [f_X11_gives, zob_0 hL, n1, if_false, zo_0 hL, zo_1 hL, za_25 hL, Option.bind_some, n2]
    · simp only [f_X12_gives, zob_108 hL, z_m_in, Option.bind_some, z_b0, g1, if_false]
theorem Z_drain_ok : Z_drain := by
  intro M hi
  have hL := hi.1
  obtain ⟨R, h3, hm, hcn⟩ := zt_7 hi
  have hL1 : z_Lay (q_sI M 16 3 0) := hL
  have r1 : q_lI (q_sI M 16 3 0) 109 (6 : Int32) = some (nI (z_m (q_I M 109) 7)) := by rw [show (6 : Int32) = nI 6 from rfl, z_st_lit hL1 (by decide), z_I_sI, if_neg (by decide), hcn]
  have r2 : q_tI (q_sI M 16 3 0) 109 (6 : Int32) 0 = some (q_sI (q_sI M 16 3 0) 109 6 0) := by rw [show (6 : Int32) = nI 6 from rfl, z_st_put hL1 (by decide)]
  refine ⟨nI (z_m (q_I M 109) 7), q_sI M 16 3 0, q_sI (q_sI M 16 3 0) 109 6 0, ?_, ?_, ?_⟩
  · simp only [f_X11_drain, zob_0 hL, zo_0 hL, zo_1 hL, zo_16 hL, Option.bind_some, h3]
  · simp only [f_X12_drain, zob_108 hL1, zo_108 hL1, Option.bind_some, r1, r2]
  · have hm0 : z_m (q_I (q_sI (q_sI M 16 3 0) 109 6 0) 109) 7 = 0 := rfl
    refine hi.upd ⟨rfl, rfl, rfl⟩ (fun a ha => ?_) (fun t ht => ?_) (z_hs_tab (t := 7) (by decide) hi.2.2.2.2.1 (fun a h1 h2 h4 h5 => ?_) (fun k h1 h2 => ?_) (Nat.le_of_eq rfl) (Nat.le_of_eq rfl) ⟨?_, ?_, fun _ => rfl, fun i j h1 => ?_⟩ (fun i h1 => ?_))
    · rw [q_sI_ne (by omega), q_sI_ne (by omega)]
    · rw [q_sI_ne (by omega), z_I_sI, if_neg (by omega), z_I_sI, if_neg (by omega)]; exact hi.2.1 t ht
    · rw [q_sI_ne (by omega), q_sI_ne (by omega)]
    · have h1' : k ≠ 6 := h1
      rw [z_I_sI, if_neg (by omega), z_I_sI, if_neg (by omega)]
    · rw [hm0]; rfl
    · rw [hm0]; exact Nat.zero_le _
    · rw [hm0] at h1; omega
    · rw [hm0] at h1; omega
theorem z_cnt {M : q_Mem} (hi : z_Inv M) (c : Nat) (hc : c < 10) : q_lI M 109 (nI c) = some (q_I M 109 c) := z_st_lit hi.1 (by omega)
theorem Z_count_ok : Z_count := by
  intro M p1 hi
  have hL := hi.1
  have h0 : (0 : Int32).toInt = 0 := rfl
  have h9 : (9 : Int32).toInt = 9 := rfl
  by_cases g1 : (0 : Int32).toInt ≤ p1.toInt ∧ p1.toInt ≤ (9 : Int32).toInt
  · obtain ⟨j, hj, rfl⟩ := z_of (v := p1) (n := 10) ⟨g1.1, by omega⟩ (by decide)
    refine ⟨q_I M 109 j, ?_, ?_, hi⟩
    · match j, hj with
      | 0, _ =>
        obtain ⟨_, h3, _, hcn⟩ := zt_0 hi
        simp only [f_X11_count, zob_0 hL, zo_0 hL, zo_1 hL, zo_2 hL, Option.bind_some, h3, show ((nI 0 < 0) = False) from by decide, if_false, show ((nI 0 = (0 : Int32)) = True) from by decide, if_true, hcn]
      | 1, _ =>
        obtain ⟨_, h3, _, hcn⟩ := zt_1 hi
        simp only [f_X11_count, zob_0 hL, zo_0 hL, zo_1 hL, zo_4 hL, Option.bind_some, h3, show ((nI 1 < 0) = False) from by decide, if_false, show ((nI 1 = (0 : Int32)) = False) from by decide, show ((nI 1 = (1 : Int32)) = True) from by decide, if_true, hcn]
      | 2, _ =>
        obtain ⟨_, h3, _, hcn⟩ := zt_2 hi
        simp only [f_X11_count, zob_0 hL, zo_0 hL, zo_1 hL, zo_6 hL, Option.bind_some, h3, show ((nI 2 < 0) = False) from by decide, if_false, show ((nI 2 = (0 : Int32)) = False) from by decide, show ((nI 2 = (1 : Int32)) = False) from by decide, show ((nI 2 = (2 : Int32)) = True) from by decide, if_true, hcn]
      | 3, _ =>
        obtain ⟨_, h3, _, hcn⟩ := zt_3 hi
        simp only [f_X11_count, zob_0 hL, zo_0 hL, zo_1 hL, zo_8 hL, Option.bind_some, h3, show ((nI 3 < 0) = False) from by decide, if_false, show ((nI 3 = (0 : Int32)) = False) from by decide, show ((nI 3 = (1 : Int32)) = False) from by decide, show ((nI 3 = (2 : Int32)) = False) from by decide, show ((nI 3 = (3 : Int32)) = True) from by decide, if_true, hcn]
      | 4, _ =>
        obtain ⟨_, h3, _, hcn⟩ := zt_4 hi
        simp only [f_X11_count, zob_0 hL, zo_0 hL, zo_1 hL, zo_10 hL, Option.bind_some, h3, show ((nI 4 < 0) = False) from by decide, if_false, show ((nI 4 = (0 : Int32)) = False) from by decide, show ((nI 4 = (1 : Int32)) = False) from by decide, show ((nI 4 = (2 : Int32)) = False) from by decide, show ((nI 4 = (3 : Int32)) = False) from by decide, show ((nI 4 = (4 : Int32)) = True) from by decide, if_true, hcn]
      | 5, _ =>
        obtain ⟨_, h3, _, hcn⟩ := zt_6 hi
        simp only [f_X11_count, zob_0 hL, zo_0 hL, zo_1 hL, zo_14 hL, Option.bind_some, h3, show ((nI 5 < 0) = False) from by decide, if_false, show ((nI 5 = (0 : Int32)) = False) from by decide, show ((nI 5 = (1 : Int32)) = False) from by decide, show ((nI 5 = (2 : Int32)) = False) from by decide, show ((nI 5 = (3 : Int32)) = False) from by decide, show ((nI 5 = (4 : Int32)) = False) from by decide, show ((nI 5 = (5 : Int32)) = True) from by decide, if_true, hcn]
      | 6, _ =>
        obtain ⟨_, h3, _, hcn⟩ := zt_7 hi
        simp only [f_X11_count, zob_0 hL, zo_0 hL, zo_1 hL, zo_16 hL, Option.bind_some, h3, show ((nI 6 < 0) = False) from by decide, if_false, show ((nI 6 = (0 : Int32)) = False) from by decide, show ((nI 6 = (1 : Int32)) = False) from by decide, show ((nI 6 = (2 : Int32)) = False) from by decide, show ((nI 6 = (3 : Int32)) = False) from by decide, show ((nI 6 = (4 : Int32)) = False) from by decide, show ((nI 6 = (5 : Int32)) = False) from by decide, show ((nI 6 = (6 : Int32)) = True) from by decide, if_true, hcn]
      | 7, _ =>
        obtain ⟨_, h3, _, hcn⟩ := zt_8 hi
        simp only [f_X11_count, zob_0 hL, zo_0 hL, zo_1 hL, zo_18 hL, Option.bind_some, h3, show ((nI 7 < 0) = False) from by decide, if_false, show ((nI 7 = (0 : Int32)) = False) from by decide, show ((nI 7 = (1 : Int32)) = False) from by decide, show ((nI 7 = (2 : Int32)) = False) from by decide, show ((nI 7 = (3 : Int32)) = False) from by decide, show ((nI 7 = (4 : Int32)) = False) from by decide, show ((nI 7 = (5 : Int32)) = False) from by decide, show ((nI 7 = (6 : Int32)) = False) from by decide, show ((nI 7 = (7 : Int32)) = True) from by decide, if_true, hcn]
      | 8, _ =>
        obtain ⟨_, h3, _, hcn⟩ := zt_9 hi
        simp only [f_X11_count, zob_0 hL, zo_0 hL, zo_1 hL, zo_20 hL, Option.bind_some, h3, show ((nI 8 < 0) = False) from by decide, if_false, show ((nI 8 = (0 : Int32)) = False) from by decide, show ((nI 8 = (1 : Int32)) = False) from by decide, show ((nI 8 = (2 : Int32)) = False) from by decide, show ((nI 8 = (3 : Int32)) = False) from by decide, show ((nI 8 = (4 : Int32)) = False) from by decide, show ((nI 8 = (5 : Int32)) = False) from by decide, show ((nI 8 = (6 : Int32)) = False) from by decide, show ((nI 8 = (7 : Int32)) = False) from by decide, show ((nI 8 = (8 : Int32)) = True) from by decide, if_true, hcn]
      | 9, _ =>
        obtain ⟨_, h3, _, hcn⟩ := zt_10 hi
        simp only [f_X11_count, zob_0 hL, zo_0 hL, zo_1 hL, zo_22 hL, Option.bind_some, h3, show ((nI 9 < 0) = False) from by decide, if_false, show ((nI 9 = (0 : Int32)) = False) from by decide, show ((nI 9 = (1 : Int32)) = False) from by decide, show ((nI 9 = (2 : Int32)) = False) from by decide, show ((nI 9 = (3 : Int32)) = False) from by decide, show ((nI 9 = (4 : Int32)) = False) from by decide, show ((nI 9 = (5 : Int32)) = False) from by decide, show ((nI 9 = (6 : Int32)) = False) from by decide, show ((nI 9 = (7 : Int32)) = False) from by decide, show ((nI 9 = (8 : Int32)) = False) from by decide, show ((nI 9 = (9 : Int32)) = True) from by decide, if_true, hcn]
    · simp only [f_X12_count, zob_108 hL, zo_108 hL, z_m_in, Option.bind_some, z_b0, g1, and_self, if_true, z_cnt hi j hj]
  · refine ⟨-2, ?_, ?_, hi⟩
    · by_cases n1 : p1 < 0
      · simp only [f_X11_count, zob_0 hL, n1, if_true]
      · have ne : ∀ k : Int32, k.toInt ≤ 9 → 0 ≤ k.toInt → (p1 = k) = False := fun k a b => eq_false (fun z => g1 (by subst z; omega))
        simp only [f_X11_count, zob_0 hL, n1, if_false, ne 0 (by decide) (by decide), ne 1 (by decide) (by decide), ne 2 (by decide) (by decide), ne 3 (by decide) (by decide), ne 4 (by decide) (by decide), ne 5 (by decide) (by decide), ne 6 (by decide) (by decide), ne 7 (by decide) (by decide), ne 8 (by decide) (by decide), ne 9 (by decide) (by decide)]
    · simp only [f_X12_count, zob_108 hL, z_m_in, Option.bind_some, z_b0, g1, if_false]
