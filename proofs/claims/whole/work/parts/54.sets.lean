/-! ===== single cells change ===== -/
theorem Z_change_ok : Z_change := by
  intro M p1 p2 p3 hb hi
  have hL := hi.1
  obtain ⟨R, h3, hm, hcn⟩ := zt_0 hi
  have hh := z_has (x := p1) R h3 hm
  have hs : ∀ M1, z_Lay M1 → q_I M1 109 0 = q_I M 109 0 → f_X12_is M1 108 (0 : Int32) p1 = some (q_b (0 ≤ p1.toInt ∧ p1.toInt < (z_m (q_I M 109) 0 : Int))) := fun M1 h1 h2 => z_m_is (t := 0) (j := 0) h1 (by decide) (h2.trans hcn) (by omega)
  by_cases g0 : 0 ≤ p1.toInt ∧ p1.toInt < (z_m (q_I M 109) 0 : Int)
  · by_cases g1 : (0 : Int32).toInt ≤ p2.toInt ∧ p2.toInt ≤ (60 : Int32).toInt
    · obtain ⟨i, hj, rfl⟩ := z_of g0 (by omega)
      have e1 : f_X9_put M 2 (nI i) (2 : Int32) p2 = some (q_sI M 3 (4 * i + 2) p2) := z_put_in (j := 2) R h3 hm hj (by decide)
      have La : z_Lay (q_sI M 3 (4 * i + 2) p2) := hL
      have e2 : f_X9_put (q_sI M 3 (4 * i + 2) p2) 2 (nI i) (3 : Int32) p3 = some (q_sI (q_sI M 3 (4 * i + 2) p2) 3 (4 * i + 3) p3) := z_put_in (j := 3) (R.keep z_FR.sI rfl rfl) h3 hm hj (by decide)
      have Lb : z_Lay (q_sI (q_sI M 3 (4 * i + 2) p2) 3 (4 * i + 3) p3) := hL
      have Lc : z_Lay (q_sI (q_sI (q_sI M 3 (4 * i + 2) p2) 3 (4 * i + 3) p3) 109 (20 + 4 * i + 2) p2) := hL
      refine ⟨1, q_sI (q_sI M 3 (4 * i + 2) p2) 3 (4 * i + 3) p3, q_sI (q_sI (q_sI (q_sI M 3 (4 * i + 2) p2) 3 (4 * i + 3) p3) 109 (20 + 4 * i + 2) p2) 109 (20 + 4 * i + 3) p3, ?_, ?_, ?_⟩
      · simp only [f_X11_change, zob_0 hL, zo_0 hL, zo_1 hL, hh, z_c_within, Option.bind_some, z_b0, g0, g1, and_self, if_true, e1, zo_0 La, zo_1 La, z_c_asNumber hb, e2]
      · rcases hb with rfl | rfl
        · simp only [f_X12_change, zob_108 Lb, hs _ Lb rfl, z_m_in, Option.bind_some, z_b0, g0, g1, and_self, if_true, zo_108 Lb, zw_0 Lb (show i < 20 by omega), zo_108 Lc, zw_0 Lc (show i < 20 by omega)]
        · have n1 : ((1 : Int32) = 0) = False := by decide
          simp only [f_X12_change, zob_108 Lb, hs _ Lb rfl, z_m_in, Option.bind_some, z_b0, g0, g1, and_self, if_true, zo_108 Lb, zw_0 Lb (show i < 20 by omega), zo_108 Lc, zw_0 Lc (show i < 20 by omega), n1, if_false]
      · skip
        have n9 : ∀ k, q_I (q_sI (q_sI (q_sI (q_sI M 3 (4 * i + 2) p2) 3 (4 * i + 3) p3) 109 (20 + 4 * i + 2) p2) 109 (20 + 4 * i + 3) p3) 109 k = if k = 20 + 4 * i + 3 then p3 else if k = 20 + 4 * i + 2 then p2 else q_I M 109 k := fun k => by
          rw [z_I_sI, z_I_sI, z_I_sI, z_I_sI]
          repeat' split
          all_goals first | rfl | (exfalso; omega)
        have nc : ∀ k, q_I (q_sI (q_sI (q_sI (q_sI M 3 (4 * i + 2) p2) 3 (4 * i + 3) p3) 109 (20 + 4 * i + 2) p2) 109 (20 + 4 * i + 3) p3) 3 k = if k = 4 * i + 3 then p3 else if k = 4 * i + 2 then p2 else q_I M 3 k := fun k => by
          rw [z_I_sI, z_I_sI, z_I_sI, z_I_sI]
          repeat' split
          all_goals first | rfl | (exfalso; omega)
        refine z_Inv_sets (t := 0) (i := i) (fun j => if j = 3 then some p3 else if j = 2 then some p2 else none) (by decide) (by decide) (fun e => absurd e (by decide)) hi hj ⟨rfl, rfl, rfl⟩ (fun a h1 h2 => ?_) (fun j h1 => ?_) (fun k h1 => ?_) (fun j h1 => ?_) (fun k h1 => ?_) ?_
        · have h1 : a ≠ 3 := h1
          rw [q_sI_ne h2, q_sI_ne h2, q_sI_ne h1, q_sI_ne h1]
        · have h1 : j < 4 := h1
          refine (nc (4 * i + j)).trans ?_
          show _ = (if j = 3 then some p3 else if j = 2 then some p2 else none).getD (q_I M 3 (4 * i + j))
          repeat' split
          all_goals first | rfl | (exfalso; omega)
        · have h1 : k < 4 * i ∨ 4 * i + 4 ≤ k := h1
          refine (nc k).trans ?_
          rw [if_neg (by omega), if_neg (by omega)]
          try rfl
        · have h1 : j < 4 := h1
          refine (n9 (20 + 4 * i + j)).trans ?_
          show _ = (if j = 3 then some p3 else if j = 2 then some p2 else none).getD (q_I M 109 (20 + 4 * i + j))
          repeat' split
          all_goals first | rfl | (exfalso; omega)
        · have h1 : k < 20 + 4 * i ∨ 20 + 4 * i + 4 ≤ k := h1
          rw [n9, if_neg (by omega), if_neg (by omega)]
        · generalize q_I (q_sI (q_sI (q_sI (q_sI M 3 (4 * i + 2) p2) 3 (4 * i + 3) p3) 109 (20 + 4 * i + 2) p2) 109 (20 + 4 * i + 3) p3) 109 = st at *
          have ov := hi.2.2.2.2.1.2.2.2 0 (by decide) i hj
          obtain ⟨x0, x1, x2, x3⟩ := ov
          refine ⟨?_, ?_, ?_, ?_⟩
          · rw [n9, if_neg (by omega), if_neg (by omega)]; exact x0
          · rw [n9, if_neg (by omega), if_neg (by omega)]; exact x1
          · rw [n9, if_neg (by omega), if_pos (by omega)]; exact z_bt_of g1 rfl rfl
          · rw [n9, if_pos (by omega)]; exact z_bt01 hb
    · refine ⟨-2, M, M, ?_, ?_, hi⟩
      · simp only [f_X11_change, zob_0 hL, zo_0 hL, zo_1 hL, hh, z_c_within, Option.bind_some, z_b0, g0, g1, and_self, and_true, true_and, and_false, false_and, if_true, if_false]
      · simp only [f_X12_change, zob_108 hL, zo_108 hL, hs _ hL rfl, z_m_in, Option.bind_some, z_b0, g0, g1, and_self, and_true, true_and, and_false, false_and, if_true, if_false]
  · refine ⟨-2, M, M, ?_, ?_, hi⟩
    · simp only [f_X11_change, zob_0 hL, zo_0 hL, zo_1 hL, hh, z_c_within, Option.bind_some, z_b0, g0, and_self, and_true, true_and, and_false, false_and, if_true, if_false]
    · simp only [f_X12_change, zob_108 hL, zo_108 hL, hs _ hL rfl, z_m_in, Option.bind_some, z_b0, g0, and_self, and_true, true_and, and_false, false_and, if_true, if_false]
theorem Z_out_ok : Z_out := by
  intro M p1 p2 hi
  have hL := hi.1
  obtain ⟨R3, h33, hm3, hcn3⟩ := zt_3 hi
  have hh3 := z_has (x := p1) R3 h33 hm3
  have hs3 : ∀ M1, z_Lay M1 → q_I M1 109 3 = q_I M 109 3 → f_X12_is M1 108 (3 : Int32) p1 = some (q_b (0 ≤ p1.toInt ∧ p1.toInt < (z_m (q_I M 109) 3 : Int))) := fun M1 h1 h2 => z_m_is (t := 0) (j := 3) h1 (by decide) (h2.trans hcn3) (by omega)
  by_cases g0 : 0 ≤ p1.toInt ∧ p1.toInt < (z_m (q_I M 109) 3 : Int)
  · by_cases g1 : (0 : Int32).toInt ≤ p2.toInt ∧ p2.toInt ≤ (300000000 : Int32).toInt
    · obtain ⟨i, hj, rfl⟩ := z_of g0 (by omega)
      by_cases g2 : q_I M 109 (2700 + 3 * i + 2) = -1
      · have e1 : f_X9_put M 8 (nI i) (2 : Int32) p2 = some (q_sI M 9 (3 * i + 2) p2) := z_put_in (j := 2) R3 h33 hm3 hj (by decide)
        have La : z_Lay (q_sI M 9 (3 * i + 2) p2) := hL
        have r9 : ∀ k, q_I (q_sI M 9 (3 * i + 2) p2) 109 k = q_I M 109 k := fun k => by rw [z_I_sI, if_neg (by omega)]
        refine ⟨1, q_sI M 9 (3 * i + 2) p2, q_sI (q_sI M 9 (3 * i + 2) p2) 109 (2700 + 3 * i + 2) p2, ?_, ?_, ?_⟩
        · simp only [f_X11_out, zob_0 hL, zo_0 hL, zo_1 hL, hh3, z_c_within, Option.bind_some, z_b0, g0, g1, and_self, if_true, zr_3 hi hj, g2, e1]
        · simp only [f_X12_out, zob_108 La, hs3 _ La rfl, z_m_in, Option.bind_some, z_b0, g0, g1, and_self, if_true, zo_108 La, zg_3 La (show i < 40 by omega), r9, g2, zw_3 La (show i < 40 by omega)]
        · skip
          have n9 : ∀ k, q_I (q_sI (q_sI M 9 (3 * i + 2) p2) 109 (2700 + 3 * i + 2) p2) 109 k = if k = 2700 + 3 * i + 2 then p2 else q_I M 109 k := fun k => by
            rw [z_I_sI, z_I_sI]
            repeat' split
            all_goals first | rfl | (exfalso; omega)
          have nc : ∀ k, q_I (q_sI (q_sI M 9 (3 * i + 2) p2) 109 (2700 + 3 * i + 2) p2) 9 k = if k = 3 * i + 2 then p2 else q_I M 9 k := fun k => by
            rw [z_I_sI, z_I_sI]
            repeat' split
            all_goals first | rfl | (exfalso; omega)
          refine z_Inv_sets (t := 3) (i := i) (fun j => if j = 2 then some p2 else none) (by decide) (by decide) (fun e => absurd e (by decide)) hi hj ⟨rfl, rfl, rfl⟩ (fun a h1 h2 => ?_) (fun j h1 => ?_) (fun k h1 => ?_) (fun j h1 => ?_) (fun k h1 => ?_) ?_
          · have h1 : a ≠ 9 := h1
            rw [q_sI_ne h2, q_sI_ne h1]
          · have h1 : j < 3 := h1
            refine (nc (3 * i + j)).trans ?_
            show _ = (if j = 2 then some p2 else none).getD (q_I M 9 (3 * i + j))
            repeat' split
            all_goals first | rfl | (exfalso; omega)
          · have h1 : k < 3 * i ∨ 3 * i + 3 ≤ k := h1
            refine (nc k).trans ?_
            rw [if_neg (by omega)]
            try rfl
          · have h1 : j < 3 := h1
            refine (n9 (2700 + 3 * i + j)).trans ?_
            show _ = (if j = 2 then some p2 else none).getD (q_I M 109 (2700 + 3 * i + j))
            repeat' split
            all_goals first | rfl | (exfalso; omega)
          · have h1 : k < 2700 + 3 * i ∨ 2700 + 3 * i + 3 ≤ k := h1
            rw [n9, if_neg (by omega)]
          · generalize q_I (q_sI (q_sI M 9 (3 * i + 2) p2) 109 (2700 + 3 * i + 2) p2) 109 = st at *
            have ov := hi.2.2.2.2.1.2.2.2 3 (by decide) i hj
            obtain ⟨x0, x1, x2⟩ := ov
            refine ⟨?_, ?_, ?_⟩
            · rw [n9, if_neg (by omega)]; exact x0
            · rw [n9, if_neg (by omega)]; exact x1
            · rw [n9, if_pos (by omega)]; exact ⟨by have := g1.1; have e : (0 : Int32).toInt = 0 := rfl; omega, g1.2⟩
      · refine ⟨-3, M, M, ?_, ?_, hi⟩
        · simp only [f_X11_out, zob_0 hL, zo_0 hL, zo_1 hL, hh3, z_c_within, zr_3 hi hj, Option.bind_some, z_b0, g0, g1, g2, and_self, and_true, true_and, and_false, false_and, if_true, if_false]
        · simp only [f_X12_out, zob_108 hL, zo_108 hL, hs3 _ hL rfl, z_m_in, zg_3 hL (show i < 40 by omega), Option.bind_some, z_b0, g0, g1, g2, and_self, and_true, true_and, and_false, false_and, if_true, if_false]
    · refine ⟨-2, M, M, ?_, ?_, hi⟩
      · simp only [f_X11_out, zob_0 hL, zo_0 hL, zo_1 hL, hh3, z_c_within, Option.bind_some, z_b0, g0, g1, and_self, and_true, true_and, and_false, false_and, if_true, if_false]
      · simp only [f_X12_out, zob_108 hL, zo_108 hL, hs3 _ hL rfl, z_m_in, Option.bind_some, z_b0, g0, g1, and_self, and_true, true_and, and_false, false_and, if_true, if_false]
  · refine ⟨-2, M, M, ?_, ?_, hi⟩
    · simp only [f_X11_out, zob_0 hL, zo_0 hL, zo_1 hL, hh3, z_c_within, Option.bind_some, z_b0, g0, and_self, and_true, true_and, and_false, false_and, if_true, if_false]
    · simp only [f_X12_out, zob_108 hL, zo_108 hL, hs3 _ hL rfl, z_m_in, Option.bind_some, z_b0, g0, and_self, and_true, true_and, and_false, false_and, if_true, if_false]
theorem Z_right_ok : Z_right := by
  intro M p1 p2 p3 hi
  have hL := hi.1
  obtain ⟨R2, h32, hm2, hcn2⟩ := zt_2 hi
  have hh2 := z_has (x := p1) R2 h32 hm2
  have hs2 : ∀ M1, z_Lay M1 → q_I M1 109 2 = q_I M 109 2 → f_X12_is M1 108 (2 : Int32) p1 = some (q_b (0 ≤ p1.toInt ∧ p1.toInt < (z_m (q_I M 109) 2 : Int))) := fun M1 h1 h2 => z_m_is (t := 0) (j := 2) h1 (by decide) (h2.trans hcn2) (by omega)
  by_cases g0 : 0 ≤ p1.toInt ∧ p1.toInt < (z_m (q_I M 109) 2 : Int)
  · by_cases g1 : (0 : Int32).toInt ≤ p2.toInt ∧ p2.toInt ≤ (1000 : Int32).toInt
    · obtain ⟨i, hj, rfl⟩ := z_of g0 (by omega)
      have ov := hi.2.2.2.2.1.2.2.2 2 (by decide) i hj
      have x4 : z_bt (q_I M 109 (1300 + 7 * i + 4)) 0 195 := ov.2.2.2.2.1
      have x5 : (q_I M 109 (1300 + 7 * i + 5) = -1 ∧ q_I M 109 (1300 + 7 * i + 6) = -1) ∨ (z_bt (q_I M 109 (1300 + 7 * i + 5)) 0 1000 ∧ z_bt (q_I M 109 (1300 + 7 * i + 6)) 0 195) := ov.2.2.2.2.2
      by_cases g3 : (q_I M 109 (1300 + 7 * i + 4)).toInt ≤ p3.toInt ∧ p3.toInt ≤ (195 : Int32).toInt
      · by_cases g2 : q_I M 109 (1300 + 7 * i + 5) = -1
        · have g26 : q_I M 109 (1300 + 7 * i + 6) = -1 := by
            rcases x5 with x5 | x5
            · exact x5.2
            · exfalso
              have := x5.1.1
              rw [g2] at this
              exact absurd this (by decide)
          have e1 : f_X9_put M 6 (nI i) (5 : Int32) p2 = some (q_sI M 7 (7 * i + 5) p2) := z_put_in (j := 5) R2 h32 hm2 hj (by decide)
          have e2 : f_X9_put (q_sI M 7 (7 * i + 5) p2) 6 (nI i) (6 : Int32) p3 = some (q_sI (q_sI M 7 (7 * i + 5) p2) 7 (7 * i + 6) p3) := z_put_in (j := 6) (R2.keep z_FR.sI rfl rfl) h32 hm2 hj (by decide)
          have La : z_Lay (q_sI (q_sI M 7 (7 * i + 5) p2) 7 (7 * i + 6) p3) := hL
          have Lb : z_Lay (q_sI (q_sI (q_sI M 7 (7 * i + 5) p2) 7 (7 * i + 6) p3) 109 (1300 + 7 * i + 5) p2) := hL
          have r9 : ∀ k, q_I (q_sI (q_sI M 7 (7 * i + 5) p2) 7 (7 * i + 6) p3) 109 k = q_I M 109 k := fun k => by rw [z_I_sI, if_neg (by omega), z_I_sI, if_neg (by omega)]
          refine ⟨1, q_sI (q_sI M 7 (7 * i + 5) p2) 7 (7 * i + 6) p3, q_sI (q_sI (q_sI (q_sI M 7 (7 * i + 5) p2) 7 (7 * i + 6) p3) 109 (1300 + 7 * i + 5) p2) 109 (1300 + 7 * i + 6) p3, ?_, ?_, ?_⟩
          · simp only [f_X11_right, zob_0 hL, zo_0 hL, zo_1 hL, hh2, z_c_within, Option.bind_some, z_b0, g0, g1, g3, and_self, if_true, zr_2 hi hj, g26, e1, e2]
          · simp only [f_X12_right, zob_108 La, hs2 _ La rfl, z_m_in, Option.bind_some, z_b0, g0, g1, and_self, if_true, zo_108 La, zo_108 Lb, zg_2 La (show i < 200 by omega), r9, g3, g2, zw_2 La (show i < 200 by omega), zw_2 Lb (show i < 200 by omega)]
          · skip
            have n9 : ∀ k, q_I (q_sI (q_sI (q_sI (q_sI M 7 (7 * i + 5) p2) 7 (7 * i + 6) p3) 109 (1300 + 7 * i + 5) p2) 109 (1300 + 7 * i + 6) p3) 109 k = if k = 1300 + 7 * i + 6 then p3 else if k = 1300 + 7 * i + 5 then p2 else q_I M 109 k := fun k => by
              rw [z_I_sI, z_I_sI, z_I_sI, z_I_sI]
              repeat' split
              all_goals first | rfl | (exfalso; omega)
            have nc : ∀ k, q_I (q_sI (q_sI (q_sI (q_sI M 7 (7 * i + 5) p2) 7 (7 * i + 6) p3) 109 (1300 + 7 * i + 5) p2) 109 (1300 + 7 * i + 6) p3) 7 k = if k = 7 * i + 6 then p3 else if k = 7 * i + 5 then p2 else q_I M 7 k := fun k => by
              rw [z_I_sI, z_I_sI, z_I_sI, z_I_sI]
              repeat' split
              all_goals first | rfl | (exfalso; omega)
            refine z_Inv_sets (t := 2) (i := i) (fun j => if j = 6 then some p3 else if j = 5 then some p2 else none) (by decide) (by decide) (fun e => absurd e (by decide)) hi hj ⟨rfl, rfl, rfl⟩ (fun a h1 h2 => ?_) (fun j h1 => ?_) (fun k h1 => ?_) (fun j h1 => ?_) (fun k h1 => ?_) ?_
            · have h1 : a ≠ 7 := h1
              rw [q_sI_ne h2, q_sI_ne h2, q_sI_ne h1, q_sI_ne h1]
            · have h1 : j < 7 := h1
              refine (nc (7 * i + j)).trans ?_
              show _ = (if j = 6 then some p3 else if j = 5 then some p2 else none).getD (q_I M 7 (7 * i + j))
              repeat' split
              all_goals first | rfl | (exfalso; omega)
            · have h1 : k < 7 * i ∨ 7 * i + 7 ≤ k := h1
              refine (nc k).trans ?_
              rw [if_neg (by omega), if_neg (by omega)]
              try rfl
            · have h1 : j < 7 := h1
              refine (n9 (1300 + 7 * i + j)).trans ?_
              show _ = (if j = 6 then some p3 else if j = 5 then some p2 else none).getD (q_I M 109 (1300 + 7 * i + j))
              repeat' split
              all_goals first | rfl | (exfalso; omega)
            · have h1 : k < 1300 + 7 * i ∨ 1300 + 7 * i + 7 ≤ k := h1
              rw [n9, if_neg (by omega), if_neg (by omega)]
            · generalize q_I (q_sI (q_sI (q_sI (q_sI M 7 (7 * i + 5) p2) 7 (7 * i + 6) p3) 109 (1300 + 7 * i + 5) p2) 109 (1300 + 7 * i + 6) p3) 109 = st at *
              have ov := hi.2.2.2.2.1.2.2.2 2 (by decide) i hj
              obtain ⟨x0, x1, x2, x3, x4, x5⟩ := ov
              refine ⟨?_, ?_, ?_, ?_, ?_, Or.inr ⟨?_, ?_⟩⟩
              · rw [n9, if_neg (by omega), if_neg (by omega)]; exact x0
              · rw [n9, if_neg (by omega), if_neg (by omega)]; exact x1
              · rw [n9, if_neg (by omega), if_neg (by omega)]; exact x2
              · rw [n9, if_neg (by omega), if_neg (by omega)]; exact x3
              · rw [n9, if_neg (by omega), if_neg (by omega)]; exact x4
              · rw [n9, if_neg (by omega), if_pos (by omega)]; exact z_bt_of g1 rfl rfl
              · rw [n9, if_pos (by omega)]; exact ⟨Int.le_trans x4.1 g3.1, g3.2⟩
        · have g26 : ¬ q_I M 109 (1300 + 7 * i + 6) = -1 := by
            rcases x5 with x5 | x5
            · exact absurd x5.1 g2
            · intro z
              have := x5.2.1
              rw [z] at this
              exact absurd this (by decide)
          refine ⟨-3, M, M, ?_, ?_, hi⟩
          · simp only [f_X11_right, zob_0 hL, zo_0 hL, zo_1 hL, hh2, z_c_within, Option.bind_some, z_b0, g0, g1, g3, and_self, if_true, zr_2 hi hj, g26, if_false]
          · simp only [f_X12_right, zob_108 hL, hs2 _ hL rfl, z_m_in, Option.bind_some, z_b0, g0, g1, and_self, if_true, zo_108 hL, zg_2 hL (show i < 200 by omega), g3, g2, if_false]
      · refine ⟨-2, M, M, ?_, ?_, hi⟩
        · simp only [f_X11_right, zob_0 hL, zo_0 hL, zo_1 hL, hh2, z_c_within, zr_2 hi hj, Option.bind_some, z_b0, g0, g1, g3, and_self, and_true, true_and, and_false, false_and, if_true, if_false]
        · simp only [f_X12_right, zob_108 hL, zo_108 hL, hs2 _ hL rfl, z_m_in, zg_2 hL (show i < 200 by omega), Option.bind_some, z_b0, g0, g1, g3, and_self, and_true, true_and, and_false, false_and, if_true, if_false]
    · refine ⟨-2, M, M, ?_, ?_, hi⟩
      · simp only [f_X11_right, zob_0 hL, zo_0 hL, zo_1 hL, hh2, z_c_within, Option.bind_some, z_b0, g0, g1, and_self, and_true, true_and, and_false, false_and, if_true, if_false]
      · simp only [f_X12_right, zob_108 hL, zo_108 hL, hs2 _ hL rfl, z_m_in, Option.bind_some, z_b0, g0, g1, and_self, and_true, true_and, and_false, false_and, if_true, if_false]
  · refine ⟨-2, M, M, ?_, ?_, hi⟩
    · simp only [f_X11_right, zob_0 hL, zo_0 hL, zo_1 hL, hh2, z_c_within, Option.bind_some, z_b0, g0, and_self, and_true, true_and, and_false, false_and, if_true, if_false]
    · simp only [f_X12_right, zob_108 hL, zo_108 hL, hs2 _ hL rfl, z_m_in, Option.bind_some, z_b0, g0, and_self, and_true, true_and, and_false, false_and, if_true, if_false]
theorem Z_fill_ok : Z_fill := by
  intro M p1 p2 hi
  have hL := hi.1
  obtain ⟨R1, h31, hm1, hcn1⟩ := zt_1 hi
  obtain ⟨R3, h33, hm3, hcn3⟩ := zt_3 hi
  have hh1 := z_has (x := p2) R1 h31 hm1
  have hs1 : ∀ M1, z_Lay M1 → q_I M1 109 1 = q_I M 109 1 → f_X12_is M1 108 (1 : Int32) p2 = some (q_b (0 ≤ p2.toInt ∧ p2.toInt < (z_m (q_I M 109) 1 : Int))) := fun M1 h1 h2 => z_m_is (t := 0) (j := 1) h1 (by decide) (h2.trans hcn1) (by omega)
  have hh3 := z_has (x := p1) R3 h33 hm3
  have hs3 : ∀ M1, z_Lay M1 → q_I M1 109 3 = q_I M 109 3 → f_X12_is M1 108 (3 : Int32) p1 = some (q_b (0 ≤ p1.toInt ∧ p1.toInt < (z_m (q_I M 109) 3 : Int))) := fun M1 h1 h2 => z_m_is (t := 0) (j := 3) h1 (by decide) (h2.trans hcn3) (by omega)
  by_cases g0 : 0 ≤ p1.toInt ∧ p1.toInt < (z_m (q_I M 109) 3 : Int)
  · by_cases g1 : 0 ≤ p2.toInt ∧ p2.toInt < (z_m (q_I M 109) 1 : Int)
    · obtain ⟨c, hj3, rfl⟩ := z_of g0 (by omega)
      obtain ⟨i, hj, rfl⟩ := z_of g1 (by omega)
      by_cases g2 : q_I M 109 (100 + 4 * i + 3) = -1
      · by_cases g4 : (0 : Int32).toInt ≤ (q_I M 109 (2700 + 3 * c) - q_I M 109 (100 + 4 * i + 1)).toInt ∧ (q_I M 109 (2700 + 3 * c) - q_I M 109 (100 + 4 * i + 1)).toInt ≤ (9 : Int32).toInt
        · have e1 : f_X9_put M 4 (nI i) (3 : Int32) (nI c) = some (q_sI M 5 (4 * i + 3) (nI c)) := z_put_in (j := 3) R1 h31 hm1 hj (by decide)
          have La : z_Lay (q_sI M 5 (4 * i + 3) (nI c)) := hL
          have r9 : ∀ k, q_I (q_sI M 5 (4 * i + 3) (nI c)) 109 k = q_I M 109 k := fun k => by rw [z_I_sI, if_neg (by omega)]
          refine ⟨1, q_sI M 5 (4 * i + 3) (nI c), q_sI (q_sI M 5 (4 * i + 3) (nI c)) 109 (100 + 4 * i + 3) (nI c), ?_, ?_, ?_⟩
          · simp only [f_X11_fill, zob_0 hL, zo_0 hL, zo_1 hL, hh1, hh3, z_c_within, Option.bind_some, z_b0, g0, g1, and_self, if_true, zr_3 hi hj3, zr_1 hi hj, g2, g4, e1]
          · simp only [f_X12_fill, zob_108 La, hs1 _ La rfl, hs3 _ La rfl, z_m_in, Option.bind_some, z_b0, g0, g1, and_self, if_true, zo_108 La, zg_3 La (show c < 40 by omega), zg_1 La (show i < 300 by omega), r9, g2, g4, zw_1 La (show i < 300 by omega)]
          · skip
            have n9 : ∀ k, q_I (q_sI (q_sI M 5 (4 * i + 3) (nI c)) 109 (100 + 4 * i + 3) (nI c)) 109 k = if k = 100 + 4 * i + 3 then (nI c) else q_I M 109 k := fun k => by
              rw [z_I_sI, z_I_sI]
              repeat' split
              all_goals first | rfl | (exfalso; omega)
            have nc : ∀ k, q_I (q_sI (q_sI M 5 (4 * i + 3) (nI c)) 109 (100 + 4 * i + 3) (nI c)) 5 k = if k = 4 * i + 3 then (nI c) else q_I M 5 k := fun k => by
              rw [z_I_sI, z_I_sI]
              repeat' split
              all_goals first | rfl | (exfalso; omega)
            refine z_Inv_sets (t := 1) (i := i) (fun j => if j = 3 then some (nI c) else none) (by decide) (by decide) (fun e => absurd e (by decide)) hi hj ⟨rfl, rfl, rfl⟩ (fun a h1 h2 => ?_) (fun j h1 => ?_) (fun k h1 => ?_) (fun j h1 => ?_) (fun k h1 => ?_) ?_
            · have h1 : a ≠ 5 := h1
              rw [q_sI_ne h2, q_sI_ne h1]
            · have h1 : j < 4 := h1
              refine (nc (4 * i + j)).trans ?_
              show _ = (if j = 3 then some (nI c) else none).getD (q_I M 5 (4 * i + j))
              repeat' split
              all_goals first | rfl | (exfalso; omega)
            · have h1 : k < 4 * i ∨ 4 * i + 4 ≤ k := h1
              refine (nc k).trans ?_
              rw [if_neg (by omega)]
              try rfl
            · have h1 : j < 4 := h1
              refine (n9 (100 + 4 * i + j)).trans ?_
              show _ = (if j = 3 then some (nI c) else none).getD (q_I M 109 (100 + 4 * i + j))
              repeat' split
              all_goals first | rfl | (exfalso; omega)
            · have h1 : k < 100 + 4 * i ∨ 100 + 4 * i + 4 ≤ k := h1
              rw [n9, if_neg (by omega)]
            · generalize q_I (q_sI (q_sI M 5 (4 * i + 3) (nI c)) 109 (100 + 4 * i + 3) (nI c)) 109 = st at *
              have ov := hi.2.2.2.2.1.2.2.2 1 (by decide) i hj
              obtain ⟨x0, x1, x2, x3⟩ := ov
              refine ⟨?_, ?_, ?_, ?_⟩
              · rw [n9, if_neg (by omega)]; exact x0
              · rw [n9, if_neg (by omega)]; exact x1
              · rw [n9, if_neg (by omega)]; exact x2
              · rw [n9, if_pos (by omega)]; exact Or.inr ⟨c, hj3, rfl⟩
        · refine ⟨-3, M, M, ?_, ?_, hi⟩
          · simp only [f_X11_fill, zob_0 hL, zo_0 hL, zo_1 hL, hh1, hh3, z_c_within, zr_1 hi hj, zr_3 hi hj3, Option.bind_some, z_b0, g0, g1, g2, g4, and_self, and_true, true_and, and_false, false_and, if_true, if_false]
          · simp only [f_X12_fill, zob_108 hL, zo_108 hL, hs1 _ hL rfl, hs3 _ hL rfl, z_m_in, zg_1 hL (show i < 300 by omega), zg_3 hL (show c < 40 by omega), Option.bind_some, z_b0, g0, g1, g2, g4, and_self, and_true, true_and, and_false, false_and, if_true, if_false]
      · refine ⟨-3, M, M, ?_, ?_, hi⟩
        · simp only [f_X11_fill, zob_0 hL, zo_0 hL, zo_1 hL, hh1, hh3, z_c_within, zr_1 hi hj, zr_3 hi hj3, Option.bind_some, z_b0, g0, g1, g2, and_self, and_true, true_and, and_false, false_and, if_true, if_false]
        · simp only [f_X12_fill, zob_108 hL, zo_108 hL, hs1 _ hL rfl, hs3 _ hL rfl, z_m_in, zg_1 hL (show i < 300 by omega), zg_3 hL (show c < 40 by omega), Option.bind_some, z_b0, g0, g1, g2, and_self, and_true, true_and, and_false, false_and, if_true, if_false]
    · refine ⟨-2, M, M, ?_, ?_, hi⟩
      · simp only [f_X11_fill, zob_0 hL, zo_0 hL, zo_1 hL, hh1, hh3, z_c_within, Option.bind_some, z_b0, g0, g1, and_self, and_true, true_and, and_false, false_and, if_true, if_false]
      · simp only [f_X12_fill, zob_108 hL, zo_108 hL, hs1 _ hL rfl, hs3 _ hL rfl, z_m_in, Option.bind_some, z_b0, g0, g1, and_self, and_true, true_and, and_false, false_and, if_true, if_false]
  · refine ⟨-2, M, M, ?_, ?_, hi⟩
    · simp only [f_X11_fill, zob_0 hL, zo_0 hL, zo_1 hL, hh1, hh3, z_c_within, Option.bind_some, z_b0, g0, and_self, and_true, true_and, and_false, false_and, if_true, if_false]
    · simp only [f_X12_fill, zob_108 hL, zo_108 hL, hs1 _ hL rfl, hs3 _ hL rfl, z_m_in, Option.bind_some, z_b0, g0, and_self, and_true, true_and, and_false, false_and, if_true, if_false]
theorem Z_sell_ok : Z_sell := by
  intro M p1 p2 p3 hi
  have hL := hi.1
  obtain ⟨R4, h34, hm4, hcn4⟩ := zt_4 hi
  obtain ⟨R3, h33, hm3, hcn3⟩ := zt_3 hi
  have hh4 := z_has (x := p1) R4 h34 hm4
  have hs4 : ∀ M1, z_Lay M1 → q_I M1 109 4 = q_I M 109 4 → f_X12_is M1 108 (4 : Int32) p1 = some (q_b (0 ≤ p1.toInt ∧ p1.toInt < (z_m (q_I M 109) 4 : Int))) := fun M1 h1 h2 => z_m_is (t := 0) (j := 4) h1 (by decide) (h2.trans hcn4) (by omega)
  by_cases g0 : 0 ≤ p1.toInt ∧ p1.toInt < (z_m (q_I M 109) 4 : Int)
  · by_cases g1 : (0 : Int32).toInt ≤ p2.toInt ∧ p2.toInt ≤ (1000000 : Int32).toInt
    · obtain ⟨i, hj, rfl⟩ := z_of g0 (by omega)
      have ov := hi.2.2.2.2.1.2.2.2 4 (by decide) i hj
      obtain ⟨c, hj3, ec⟩ : ∃ c, c < z_m (q_I M 109) 3 ∧ q_I M 109 (2820 + 5 * i) = nI c := ov.1
      have x5 : (q_I M 109 (2820 + 5 * i + 1) = -1 ∧ q_I M 109 (2820 + 5 * i + 2) = -1) ∨ (z_bt (q_I M 109 (2820 + 5 * i + 1)) 0 1000000 ∧ z_bt (q_I M 109 (2820 + 5 * i + 2)) 0 195) := ov.2.1
      have x3 : z_bt (q_I M 109 (2700 + 3 * c)) 0 195 := (hi.2.2.2.2.1.2.2.2 3 (by decide) c hj3).1
      by_cases g3 : (q_I M 109 (2700 + 3 * c)).toInt ≤ p3.toInt ∧ p3.toInt ≤ (195 : Int32).toInt
      · by_cases g2 : q_I M 109 (2820 + 5 * i + 1) = -1
        · have g26 : q_I M 109 (2820 + 5 * i + 2) = -1 := by
            rcases x5 with x5 | x5
            · exact x5.2
            · exfalso
              have := x5.1.1
              rw [g2] at this
              exact absurd this (by decide)
          have e1 : f_X9_put M 10 (nI i) (1 : Int32) p2 = some (q_sI M 11 (5 * i + 1) p2) := z_put_in (j := 1) R4 h34 hm4 hj (by decide)
          have e2 : f_X9_put (q_sI M 11 (5 * i + 1) p2) 10 (nI i) (2 : Int32) p3 = some (q_sI (q_sI M 11 (5 * i + 1) p2) 11 (5 * i + 2) p3) := z_put_in (j := 2) (R4.keep z_FR.sI rfl rfl) h34 hm4 hj (by decide)
          have La : z_Lay (q_sI (q_sI M 11 (5 * i + 1) p2) 11 (5 * i + 2) p3) := hL
          have Lb : z_Lay (q_sI (q_sI (q_sI M 11 (5 * i + 1) p2) 11 (5 * i + 2) p3) 109 (2820 + 5 * i + 1) p2) := hL
          have r9 : ∀ k, q_I (q_sI (q_sI M 11 (5 * i + 1) p2) 11 (5 * i + 2) p3) 109 k = q_I M 109 k := fun k => by rw [z_I_sI, if_neg (by omega), z_I_sI, if_neg (by omega)]
          refine ⟨1, q_sI (q_sI M 11 (5 * i + 1) p2) 11 (5 * i + 2) p3, q_sI (q_sI (q_sI (q_sI M 11 (5 * i + 1) p2) 11 (5 * i + 2) p3) 109 (2820 + 5 * i + 1) p2) 109 (2820 + 5 * i + 2) p3, ?_, ?_, ?_⟩
          · simp only [f_X11_sell, zob_0 hL, zo_0 hL, zo_1 hL, hh4, z_c_within, Option.bind_some, z_b0, g0, g1, g3, and_self, if_true, zr_4 hi hj, ec, zr_3 hi hj3, g26, e1, e2]
          · simp only [f_X12_sell, zob_108 La, hs4 _ La rfl, z_m_in, Option.bind_some, z_b0, g0, g1, and_self, if_true, zo_108 La, zo_108 Lb, zg_4 La (show i < 100 by omega), zg_3 La (show c < 40 by omega), r9, ec, g3, g2, zw_4 La (show i < 100 by omega), zw_4 Lb (show i < 100 by omega)]
          · skip
            have n9 : ∀ k, q_I (q_sI (q_sI (q_sI (q_sI M 11 (5 * i + 1) p2) 11 (5 * i + 2) p3) 109 (2820 + 5 * i + 1) p2) 109 (2820 + 5 * i + 2) p3) 109 k = if k = 2820 + 5 * i + 2 then p3 else if k = 2820 + 5 * i + 1 then p2 else q_I M 109 k := fun k => by
              rw [z_I_sI, z_I_sI, z_I_sI, z_I_sI]
              repeat' split
              all_goals first | rfl | (exfalso; omega)
            have nc : ∀ k, q_I (q_sI (q_sI (q_sI (q_sI M 11 (5 * i + 1) p2) 11 (5 * i + 2) p3) 109 (2820 + 5 * i + 1) p2) 109 (2820 + 5 * i + 2) p3) 11 k = if k = 5 * i + 2 then p3 else if k = 5 * i + 1 then p2 else q_I M 11 k := fun k => by
              rw [z_I_sI, z_I_sI, z_I_sI, z_I_sI]
              repeat' split
              all_goals first | rfl | (exfalso; omega)
            refine z_Inv_sets (t := 4) (i := i) (fun j => if j = 2 then some p3 else if j = 1 then some p2 else none) (by decide) (by decide) (fun e => absurd e (by decide)) hi hj ⟨rfl, rfl, rfl⟩ (fun a h1 h2 => ?_) (fun j h1 => ?_) (fun k h1 => ?_) (fun j h1 => ?_) (fun k h1 => ?_) ?_
            · have h1 : a ≠ 11 := h1
              rw [q_sI_ne h2, q_sI_ne h2, q_sI_ne h1, q_sI_ne h1]
            · have h1 : j < 5 := h1
              refine (nc (5 * i + j)).trans ?_
              show _ = (if j = 2 then some p3 else if j = 1 then some p2 else none).getD (q_I M 11 (5 * i + j))
              repeat' split
              all_goals first | rfl | (exfalso; omega)
            · have h1 : k < 5 * i ∨ 5 * i + 5 ≤ k := h1
              refine (nc k).trans ?_
              rw [if_neg (by omega), if_neg (by omega)]
              try rfl
            · have h1 : j < 5 := h1
              refine (n9 (2820 + 5 * i + j)).trans ?_
              show _ = (if j = 2 then some p3 else if j = 1 then some p2 else none).getD (q_I M 109 (2820 + 5 * i + j))
              repeat' split
              all_goals first | rfl | (exfalso; omega)
            · have h1 : k < 2820 + 5 * i ∨ 2820 + 5 * i + 5 ≤ k := h1
              rw [n9, if_neg (by omega), if_neg (by omega)]
            · generalize q_I (q_sI (q_sI (q_sI (q_sI M 11 (5 * i + 1) p2) 11 (5 * i + 2) p3) 109 (2820 + 5 * i + 1) p2) 109 (2820 + 5 * i + 2) p3) 109 = st at *
              have ov := hi.2.2.2.2.1.2.2.2 4 (by decide) i hj
              obtain ⟨x0, x1, x2, x6⟩ := ov
              refine ⟨?_, Or.inr ⟨?_, ?_⟩, ?_, ?_⟩
              · rw [n9, if_neg (by omega), if_neg (by omega)]; exact x0
              · rw [n9, if_neg (by omega), if_pos (by omega)]; exact z_bt_of g1 rfl rfl
              · rw [n9, if_pos (by omega)]; exact ⟨Int.le_trans x3.1 g3.1, g3.2⟩
              · rw [n9, if_neg (by omega), if_neg (by omega)]; exact x2
              · rw [n9, if_neg (by omega), if_neg (by omega)]; exact x6
        · have g26 : ¬ q_I M 109 (2820 + 5 * i + 2) = -1 := by
            rcases x5 with x5 | x5
            · exact absurd x5.1 g2
            · intro z
              have := x5.2.1
              rw [z] at this
              exact absurd this (by decide)
          refine ⟨-3, M, M, ?_, ?_, hi⟩
          · simp only [f_X11_sell, zob_0 hL, zo_0 hL, zo_1 hL, hh4, z_c_within, Option.bind_some, z_b0, g0, g1, g3, and_self, if_true, zr_4 hi hj, ec, zr_3 hi hj3, g26, if_false]
          · simp only [f_X12_sell, zob_108 hL, hs4 _ hL rfl, z_m_in, Option.bind_some, z_b0, g0, g1, and_self, if_true, zo_108 hL, zg_4 hL (show i < 100 by omega), ec, zg_3 hL (show c < 40 by omega), g3, g2, if_false]
      · refine ⟨-2, M, M, ?_, ?_, hi⟩
        · simp only [f_X11_sell, zob_0 hL, zo_0 hL, zo_1 hL, hh4, z_c_within, zr_4 hi hj, ec, zr_3 hi hj3, Option.bind_some, z_b0, g0, g1, g3, and_self, and_true, true_and, and_false, false_and, if_true, if_false]
        · simp only [f_X12_sell, zob_108 hL, zo_108 hL, hs4 _ hL rfl, z_m_in, zg_4 hL (show i < 100 by omega), ec, zg_3 hL (show c < 40 by omega), Option.bind_some, z_b0, g0, g1, g3, and_self, and_true, true_and, and_false, false_and, if_true, if_false]
    · refine ⟨-2, M, M, ?_, ?_, hi⟩
      · simp only [f_X11_sell, zob_0 hL, zo_0 hL, zo_1 hL, hh4, z_c_within, Option.bind_some, z_b0, g0, g1, and_self, and_true, true_and, and_false, false_and, if_true, if_false]
      · simp only [f_X12_sell, zob_108 hL, zo_108 hL, hs4 _ hL rfl, z_m_in, Option.bind_some, z_b0, g0, g1, and_self, and_true, true_and, and_false, false_and, if_true, if_false]
  · refine ⟨-2, M, M, ?_, ?_, hi⟩
    · simp only [f_X11_sell, zob_0 hL, zo_0 hL, zo_1 hL, hh4, z_c_within, Option.bind_some, z_b0, g0, and_self, and_true, true_and, and_false, false_and, if_true, if_false]
    · simp only [f_X12_sell, zob_108 hL, zo_108 hL, hs4 _ hL rfl, z_m_in, Option.bind_some, z_b0, g0, and_self, and_true, true_and, and_false, false_and, if_true, if_false]
theorem Z_grade_ok : Z_grade := by
  intro M p1 p2 p3 hi
  have hL := hi.1
  obtain ⟨R4, h34, hm4, hcn4⟩ := zt_4 hi
  have hh4 := z_has (x := p1) R4 h34 hm4
  have hs4 : ∀ M1, z_Lay M1 → q_I M1 109 4 = q_I M 109 4 → f_X12_is M1 108 (4 : Int32) p1 = some (q_b (0 ≤ p1.toInt ∧ p1.toInt < (z_m (q_I M 109) 4 : Int))) := fun M1 h1 h2 => z_m_is (t := 0) (j := 4) h1 (by decide) (h2.trans hcn4) (by omega)
  by_cases g0 : 0 ≤ p1.toInt ∧ p1.toInt < (z_m (q_I M 109) 4 : Int)
  · by_cases g1 : (0 : Int32).toInt ≤ p2.toInt ∧ p2.toInt ≤ (1 : Int32).toInt
    · by_cases g2 : (0 : Int32).toInt ≤ p3.toInt ∧ p3.toInt ≤ (100 : Int32).toInt
      · obtain ⟨i, hj, rfl⟩ := z_of g0 (by omega)
        have ov := hi.2.2.2.2.1.2.2.2 4 (by decide) i hj
        obtain ⟨y, hy, rfl⟩ := z_of (v := p2) (n := 2) ⟨g1.1, by have := g1.2; have e : (1 : Int32).toInt = 1 := rfl; omega⟩ (by decide)
        have hy2 : y = 0 ∨ y = 1 := by omega
        have ey : (3 : Int32) + nI y = nI (3 + y) := by rw [show (3 : Int32) = nI 3 from rfl, nI_add]
        have rd : f_X9_at M 10 (nI i) (nI (3 + y)) = some (q_I M 109 (2820 + 5 * i + (3 + y))) := by
          have z := zr_4 hi hj
          rcases hy2 with rfl | rfl
          · exact z.2.2.2.1
          · exact z.2.2.2.2
        have e1 : f_X9_put M 10 (nI i) (nI (3 + y)) p3 = some (q_sI M 11 (5 * i + (3 + y)) p3) := z_put_in R4 h34 hm4 hj (by omega)
        have La : z_Lay (q_sI M 11 (5 * i + (3 + y)) p3) := hL
        have r9 : ∀ k, q_I (q_sI M 11 (5 * i + (3 + y)) p3) 109 k = q_I M 109 k := fun k => by rw [z_I_sI, if_neg (by omega)]
        have em : (2820 : Int32) + (5 : Int32) * nI i + (3 : Int32) + nI y = nI (2820 + 5 * i + (3 + y)) := by rw [show (3 : Int32) = nI 3 from rfl, z_ix_4, nI_add, Nat.add_assoc _ 3 y]
        have rm : q_lI (q_sI M 11 (5 * i + (3 + y)) p3) 109 (nI (2820 + 5 * i + (3 + y))) = some (q_I M 109 (2820 + 5 * i + (3 + y))) := by rw [z_st_lit La (by omega), r9]
        have wm : q_tI (q_sI M 11 (5 * i + (3 + y)) p3) 109 (nI (2820 + 5 * i + (3 + y))) p3 = some (q_sI (q_sI M 11 (5 * i + (3 + y)) p3) 109 (2820 + 5 * i + (3 + y)) p3) := z_st_put La (by omega)
        refine ⟨q_I M 109 (2820 + 5 * i + (3 + y)), q_sI M 11 (5 * i + (3 + y)) p3, q_sI (q_sI M 11 (5 * i + (3 + y)) p3) 109 (2820 + 5 * i + (3 + y)) p3, ?_, ?_, ?_⟩
        · simp only [f_X11_grade, zob_0 hL, zo_0 hL, zo_1 hL, hh4, z_c_within, Option.bind_some, z_b0, g0, g1, g2, and_self, if_true, ey, rd, e1]
        · simp only [f_X12_grade, zob_108 La, hs4 _ La rfl, z_m_in, Option.bind_some, z_b0, g0, g1, g2, and_self, if_true, zo_108 La, em, rm, wm]
        · skip
          have n9 : ∀ k, q_I (q_sI (q_sI M 11 (5 * i + (3 + y)) p3) 109 (2820 + 5 * i + (3 + y)) p3) 109 k = if k = 2820 + 5 * i + (3 + y) then p3 else q_I M 109 k := fun k => by
            rw [z_I_sI, z_I_sI]
            repeat' split
            all_goals first | rfl | (exfalso; omega)
          have nc : ∀ k, q_I (q_sI (q_sI M 11 (5 * i + (3 + y)) p3) 109 (2820 + 5 * i + (3 + y)) p3) 11 k = if k = 5 * i + (3 + y) then p3 else q_I M 11 k := fun k => by
            rw [z_I_sI, z_I_sI]
            repeat' split
            all_goals first | rfl | (exfalso; omega)
          refine z_Inv_sets (t := 4) (i := i) (fun j => if j = (3 + y) then some p3 else none) (by decide) (by decide) (fun e => absurd e (by decide)) hi hj ⟨rfl, rfl, rfl⟩ (fun a h1 h2 => ?_) (fun j h1 => ?_) (fun k h1 => ?_) (fun j h1 => ?_) (fun k h1 => ?_) ?_
          · have h1 : a ≠ 11 := h1
            rw [q_sI_ne h2, q_sI_ne h1]
          · have h1 : j < 5 := h1
            refine (nc (5 * i + j)).trans ?_
            show _ = (if j = (3 + y) then some p3 else none).getD (q_I M 11 (5 * i + j))
            repeat' split
            all_goals first | rfl | (exfalso; omega)
          · have h1 : k < 5 * i ∨ 5 * i + 5 ≤ k := h1
            refine (nc k).trans ?_
            rw [if_neg (by omega)]
            try rfl
          · have h1 : j < 5 := h1
            refine (n9 (2820 + 5 * i + j)).trans ?_
            show _ = (if j = (3 + y) then some p3 else none).getD (q_I M 109 (2820 + 5 * i + j))
            repeat' split
            all_goals first | rfl | (exfalso; omega)
          · have h1 : k < 2820 + 5 * i ∨ 2820 + 5 * i + 5 ≤ k := h1
            rw [n9, if_neg (by omega)]
          · generalize q_I (q_sI (q_sI M 11 (5 * i + (3 + y)) p3) 109 (2820 + 5 * i + (3 + y)) p3) 109 = st at *
            have ov := hi.2.2.2.2.1.2.2.2 4 (by decide) i hj
            obtain ⟨x0, x1, x2, x3⟩ := ov
            refine ⟨?_, x1.imp (fun z => ⟨?_, ?_⟩) (fun z => ⟨?_, ?_⟩), ?_, ?_⟩
            · rw [n9, if_neg (by omega)]; exact x0
            · rw [n9, if_neg (by omega)]; exact z.1
            · rw [n9, if_neg (by omega)]; exact z.2
            · rw [n9, if_neg (by omega)]; exact z.1
            · rw [n9, if_neg (by omega)]; exact z.2
            · rw [n9]; split
              · exact ⟨by have := g2.1; have e : (0 : Int32).toInt = 0 := rfl; omega, g2.2⟩
              · exact x2
            · rw [n9]; split
              · exact ⟨by have := g2.1; have e : (0 : Int32).toInt = 0 := rfl; omega, g2.2⟩
              · exact x3
      · refine ⟨-2, M, M, ?_, ?_, hi⟩
        · simp only [f_X11_grade, zob_0 hL, zo_0 hL, zo_1 hL, hh4, z_c_within, Option.bind_some, z_b0, g0, g1, g2, and_self, and_true, true_and, and_false, false_and, if_true, if_false]
        · simp only [f_X12_grade, zob_108 hL, zo_108 hL, hs4 _ hL rfl, z_m_in, Option.bind_some, z_b0, g0, g1, g2, and_self, and_true, true_and, and_false, false_and, if_true, if_false]
    · refine ⟨-2, M, M, ?_, ?_, hi⟩
      · simp only [f_X11_grade, zob_0 hL, zo_0 hL, zo_1 hL, hh4, z_c_within, Option.bind_some, z_b0, g0, g1, and_self, and_true, true_and, and_false, false_and, if_true, if_false]
      · simp only [f_X12_grade, zob_108 hL, zo_108 hL, hs4 _ hL rfl, z_m_in, Option.bind_some, z_b0, g0, g1, and_self, and_true, true_and, and_false, false_and, if_true, if_false]
  · refine ⟨-2, M, M, ?_, ?_, hi⟩
    · simp only [f_X11_grade, zob_0 hL, zo_0 hL, zo_1 hL, hh4, z_c_within, Option.bind_some, z_b0, g0, and_self, and_true, true_and, and_false, false_and, if_true, if_false]
    · simp only [f_X12_grade, zob_108 hL, zo_108 hL, hs4 _ hL rfl, z_m_in, Option.bind_some, z_b0, g0, and_self, and_true, true_and, and_false, false_and, if_true, if_false]
