/-! ===== votes ===== -/
theorem z_01 {v : Int32} (h : z_bt v 0 1) : v = 0 ∨ v = 1 := by
  obtain ⟨h1, h2⟩ := h
  have e0 : (0 : Int32).toInt = 0 := rfl
  have e1 : (1 : Int32).toInt = 1 := rfl
  rcases (show v.toInt = 0 ∨ v.toInt = 1 by omega) with z | z
  · exact Or.inl (Int32.toInt_inj.mp (z.trans e0.symm))
  · exact Or.inr (Int32.toInt_inj.mp (z.trans e1.symm))
theorem zr_v {M : q_Mem} (hi : z_Inv M) {i f : Nat} (h : i < z_m (q_I M 109) 6) (hf : f < 20) : f_X9_at M 14 (nI i) ((64 : Int32) + nI f) = some (q_I M 109 (3686 + 84 * i + (64 + f))) := by
  obtain ⟨R, h3, hm, _⟩ := zt_6 hi
  have e := z_at_in R h3 hm h (show 64 + f < 84 by omega)
  rw [show (64 : Int32) + nI f = nI (64 + f) from nI_add 64 f, e]
  have e2 := (hi.2.2.2.2.1.1 6 (by decide)).2.2.2 i (64 + f) h (show 64 + f < 84 by omega) ⟨fun z => absurd z (by decide), fun _ _ z => absurd z (by omega)⟩
  have e3 : z_pm 6 (64 + f) = 64 + f := by unfold z_pm; rw [if_pos rfl, if_neg (by omega), if_neg (by omega)]
  rw [e3] at e2
  exact congrArg some e2
theorem z_ix_v {i f : Nat} : (3686 : Int32) + (84 : Int32) * nI i + (64 : Int32) + nI f = nI (3686 + 84 * i + (64 + f)) := by
  rw [show (64 : Int32) = nI 64 from rfl, z_ix_6, nI_add, Nat.add_assoc]
theorem zg_v {M : q_Mem} (hL : z_Lay M) {i f : Nat} (h : i < 10) (hf : f < 20) : q_lI M 109 ((3686 : Int32) + (84 : Int32) * nI i + (64 : Int32) + nI f) = some (q_I M 109 (3686 + 84 * i + (64 + f))) := by
  rw [z_ix_v]; exact z_st_lit hL (by omega)
theorem zw_v {M : q_Mem} (hL : z_Lay M) {i f : Nat} (h : i < 10) (hf : f < 20) (v : Int32) : q_tI M 109 ((3686 : Int32) + (84 : Int32) * nI i + (64 : Int32) + nI f) v = some (q_sI M 109 (3686 + 84 * i + (64 + f)) v) := by
  rw [z_ix_v]; exact z_st_put hL (by omega)
theorem z_isMember {M : q_Mem} (hL : z_Lay M) {f : Nat} (h : f < 20) : f_X12_isMember M 108 (nI f) = some (q_b (q_I M 109 (20 + 4 * f + 3) = 1)) := by
  simp only [f_X12_isMember, zob_108 hL, zo_108 hL, zg_0 hL h, Option.bind_some]
  unfold q_b
  split <;> rfl
theorem Z_vote_ok : Z_vote := by
  intro M p1 p2 p3 hi
  have hL := hi.1
  obtain ⟨R0, h30, hm0, hcn0⟩ := zt_0 hi
  obtain ⟨R6, h36, hm6, hcn6⟩ := zt_6 hi
  have hh6 := z_has (x := p1) R6 h36 hm6
  have hs6 : ∀ M1, z_Lay M1 → q_I M1 109 5 = q_I M 109 5 → f_X12_is M1 108 (5 : Int32) p1 = some (q_b (0 ≤ p1.toInt ∧ p1.toInt < (z_m (q_I M 109) 6 : Int))) := fun M1 h1 h2 => z_m_is (t := 0) (j := 5) h1 (by decide) (h2.trans hcn6) (by omega)
  have hh0 := z_has (x := p2) R0 h30 hm0
  have hs0 : ∀ M1, z_Lay M1 → q_I M1 109 0 = q_I M 109 0 → f_X12_is M1 108 (0 : Int32) p2 = some (q_b (0 ≤ p2.toInt ∧ p2.toInt < (z_m (q_I M 109) 0 : Int))) := fun M1 h1 h2 => z_m_is (t := 0) (j := 0) h1 (by decide) (h2.trans hcn0) (by omega)
  by_cases g0 : 0 ≤ p1.toInt ∧ p1.toInt < (z_m (q_I M 109) 6 : Int)
  · by_cases g1 : 0 ≤ p2.toInt ∧ p2.toInt < (z_m (q_I M 109) 0 : Int)
    · by_cases g2 : (-1 : Int32).toInt ≤ p3.toInt ∧ p3.toInt ≤ (1 : Int32).toInt
      · obtain ⟨i, hj, rfl⟩ := z_of g0 (by omega)
        obtain ⟨f, hf, rfl⟩ := z_of g1 (by omega)
        by_cases g3 : q_I M 109 (20 + 4 * f + 3) = 1
        · by_cases g4 : q_I M 109 (3686 + 84 * i + 63) = 1
          · refine ⟨-20, M, M, ?_, ?_, hi⟩
            · simp only [f_X11_vote, zob_0 hL, zo_0 hL, zo_1 hL, hh6, hh0, z_c_within, Option.bind_some, z_b0, g0, g1, g2, and_self, if_true, zr_0 hi hf, zr_6 hi hj, g3, g4]
            · simp only [f_X12_vote, zob_108 hL, zo_108 hL, hs6 _ hL rfl, hs0 _ hL rfl, z_m_in, Option.bind_some, z_b0, g0, g1, g2, and_self, if_true, z_isMember hL (show f < 20 by omega), zg_6 hL (show i < 10 by omega), g3, g4]
          · have e1 : f_X9_put M 14 (nI i) ((64 : Int32) + nI f) p3 = some (q_sI M 15 (84 * i + (64 + f)) p3) := by
              rw [show (64 : Int32) + nI f = nI (64 + f) from nI_add 64 f]
              exact z_put_in (j := 64 + f) R6 h36 hm6 hj (by omega)
            have La : z_Lay (q_sI M 15 (84 * i + (64 + f)) p3) := hL
            have r9 : ∀ k, q_I (q_sI M 15 (84 * i + (64 + f)) p3) 109 k = q_I M 109 k := fun k => by rw [z_I_sI, if_neg (by omega)]
            refine ⟨q_I M 109 (3686 + 84 * i + (64 + f)), q_sI M 15 (84 * i + (64 + f)) p3, q_sI (q_sI M 15 (84 * i + (64 + f)) p3) 109 (3686 + 84 * i + (64 + f)) p3, ?_, ?_, ?_⟩
            · simp only [f_X11_vote, zob_0 hL, zo_0 hL, zo_1 hL, hh6, hh0, z_c_within, Option.bind_some, z_b0, g0, g1, g2, and_self, if_true, zr_0 hi hf, zr_6 hi hj, g3, g4, if_false, zr_v hi hj (show f < 20 by omega), e1]
            · simp only [f_X12_vote, zob_108 La, zo_108 La, hs6 _ La rfl, hs0 _ La rfl, z_m_in, Option.bind_some, z_b0, g0, g1, g2, and_self, if_true, z_isMember La (show f < 20 by omega), zg_6 La (show i < 10 by omega), r9, g3, g4, if_false, zg_v La (show i < 10 by omega) (show f < 20 by omega), zw_v La (show i < 10 by omega) (show f < 20 by omega)]
            · skip
              have n9 : ∀ k, q_I (q_sI (q_sI M 15 (84 * i + (64 + f)) p3) 109 (3686 + 84 * i + (64 + f)) p3) 109 k = if k = 3686 + 84 * i + (64 + f) then p3 else q_I M 109 k := fun k => by
                rw [z_I_sI, z_I_sI]
                repeat' split
                all_goals first | rfl | (exfalso; omega)
              have nc : ∀ k, q_I (q_sI (q_sI M 15 (84 * i + (64 + f)) p3) 109 (3686 + 84 * i + (64 + f)) p3) 15 k = if k = 84 * i + (64 + f) then p3 else q_I M 15 k := fun k => by
                rw [z_I_sI, z_I_sI]
                repeat' split
                all_goals first | rfl | (exfalso; omega)
              refine z_Inv_sets (t := 6) (i := i) (fun j => if j = (64 + f) then some p3 else none) (by decide) (by decide) (fun e => fun j a1 a2 => by rw [if_neg (by omega)]) hi hj ⟨rfl, rfl, rfl⟩ (fun a h1 h2 => ?_) (fun j h1 => ?_) (fun k h1 => ?_) (fun j h1 => ?_) (fun k h1 => ?_) ?_
              · have h1 : a ≠ 15 := h1
                rw [q_sI_ne h2, q_sI_ne h1]
              · have h1 : j < 84 := h1
                refine (nc (84 * i + j)).trans ?_
                show _ = (if j = (64 + f) then some p3 else none).getD (q_I M 15 (84 * i + j))
                repeat' split
                all_goals first | rfl | (exfalso; omega)
              · have h1 : k < 84 * i ∨ 84 * i + 84 ≤ k := h1
                refine (nc k).trans ?_
                rw [if_neg (by omega)]
                try rfl
              · have h1 : j < 84 := h1
                refine (n9 (3686 + 84 * i + z_pm 6 j)).trans ?_
                show _ = (if j = (64 + f) then some p3 else none).getD (q_I M 109 (3686 + 84 * i + z_pm 6 j))
                unfold z_pm
                repeat' split
                all_goals first | rfl | (exfalso; omega)
              · have h1 : k < 3686 + 84 * i ∨ 3686 + 84 * i + 84 ≤ k := h1
                rw [n9, if_neg (by omega)]
              · generalize q_I (q_sI (q_sI M 15 (84 * i + (64 + f)) p3) 109 (3686 + 84 * i + (64 + f)) p3) 109 = st at *
                have ov := hi.2.2.2.2.1.2.2.2 6 (by decide) i hj
                obtain ⟨x0, x1, x2, x3, x4⟩ := ov
                refine ⟨x0.cong (fun k k1 k2 => ?_), ?_, ?_, ?_, fun f2 hf2 => ?_, x4.2.cong ?_ (fun j hj2 => ?_)⟩
                · rw [n9, if_neg (by omega)]
                · rw [n9, if_neg (by omega)]; exact x1
                · rw [n9, if_neg (by omega)]; exact x2
                · rw [n9, if_neg (by omega)]; exact x3
                · rw [n9, Nat.add_assoc]
                  by_cases c : f2 = f
                  · rw [if_pos (by rw [c])]; exact z_bt_of g2 rfl rfl
                  · rw [if_neg (by omega), ← Nat.add_assoc]; exact x4.1 f2 hf2
                · rw [n9, if_neg (by omega)]
                · have hl : j < 60 := by
                    obtain ⟨n, hn, e0⟩ := x0.1
                    rw [e0, nI_clamp (by omega)] at hj2
                    omega
                  rw [n9, if_neg (by omega)]
        · refine ⟨-20, M, M, ?_, ?_, hi⟩
          · simp only [f_X11_vote, zob_0 hL, zo_0 hL, zo_1 hL, hh6, hh0, z_c_within, Option.bind_some, z_b0, g0, g1, g2, and_self, if_true, zr_0 hi hf, zr_6 hi hj, g3, if_false]
          · simp only [f_X12_vote, zob_108 hL, zo_108 hL, hs6 _ hL rfl, hs0 _ hL rfl, z_m_in, Option.bind_some, z_b0, g0, g1, g2, and_self, if_true, z_isMember hL (show f < 20 by omega), g3, if_false]
      · refine ⟨-10, M, M, ?_, ?_, hi⟩
        · simp only [f_X11_vote, zob_0 hL, zo_0 hL, zo_1 hL, hh6, hh0, z_c_within, Option.bind_some, z_b0, g0, g1, g2, and_self, and_true, true_and, and_false, false_and, if_true, if_false]
        · simp only [f_X12_vote, zob_108 hL, zo_108 hL, hs6 _ hL rfl, hs0 _ hL rfl, z_m_in, Option.bind_some, z_b0, g0, g1, g2, and_self, and_true, true_and, and_false, false_and, if_true, if_false]
    · refine ⟨-10, M, M, ?_, ?_, hi⟩
      · simp only [f_X11_vote, zob_0 hL, zo_0 hL, zo_1 hL, hh6, hh0, z_c_within, Option.bind_some, z_b0, g0, g1, and_self, and_true, true_and, and_false, false_and, if_true, if_false]
      · simp only [f_X12_vote, zob_108 hL, zo_108 hL, hs6 _ hL rfl, hs0 _ hL rfl, z_m_in, Option.bind_some, z_b0, g0, g1, and_self, and_true, true_and, and_false, false_and, if_true, if_false]
  · refine ⟨-10, M, M, ?_, ?_, hi⟩
    · simp only [f_X11_vote, zob_0 hL, zo_0 hL, zo_1 hL, hh6, hh0, z_c_within, Option.bind_some, z_b0, g0, and_self, and_true, true_and, and_false, false_and, if_true, if_false]
    · simp only [f_X12_vote, zob_108 hL, zo_108 hL, hs6 _ hL rfl, hs0 _ hL rfl, z_m_in, Option.bind_some, z_b0, g0, and_self, and_true, true_and, and_false, false_and, if_true, if_false]
theorem Z_tear_ok : Z_tear := by
  intro M p1 p2 hb hi
  have hL := hi.1
  obtain ⟨R6, h36, hm6, hcn6⟩ := zt_6 hi
  have hh6 := z_has (x := p1) R6 h36 hm6
  have hs6 : ∀ M1, z_Lay M1 → q_I M1 109 5 = q_I M 109 5 → f_X12_is M1 108 (5 : Int32) p1 = some (q_b (0 ≤ p1.toInt ∧ p1.toInt < (z_m (q_I M 109) 6 : Int))) := fun M1 h1 h2 => z_m_is (t := 0) (j := 5) h1 (by decide) (h2.trans hcn6) (by omega)
  by_cases g0 : 0 ≤ p1.toInt ∧ p1.toInt < (z_m (q_I M 109) 6 : Int)
  · obtain ⟨i, hj, rfl⟩ := z_of g0 (by omega)
    have ov0 := (hi.2.2.2.2.1.2.2.2 6 (by decide) i hj).2.2.2.1
    have x3 : q_I M 109 (3686 + 84 * i + 63) = 0 ∨ q_I M 109 (3686 + 84 * i + 63) = 1 := z_01 ov0
    have n10 : ((1 : Int32) = 0) = False := by decide
    have n01 : ((0 : Int32) = 1) = False := by decide
    by_cases g1 : q_I M 109 (3686 + 84 * i + 63) = p2
    · refine ⟨-3, M, M, ?_, ?_, hi⟩
      · simp only [f_X11_tear, zob_0 hL, zo_0 hL, zo_1 hL, hh6, Option.bind_some, z_b0, g0, and_self, if_true, zr_6 hi hj, z_c_asNumber hb, g1]
      · rw [g1] at x3
        rcases x3 with x3 | x3
        · subst x3
          simp only [f_X12_tear, f_X12_tear_b39, zob_108 hL, zo_108 hL, hs6 _ hL rfl, Option.bind_some, z_b0, g0, and_self, if_true, zg_6 hL (show i < 10 by omega), g1, n01, if_false]
        · subst x3
          simp only [f_X12_tear, f_X12_tear_b39, zob_108 hL, zo_108 hL, hs6 _ hL rfl, Option.bind_some, z_b0, g0, and_self, if_true, zg_6 hL (show i < 10 by omega), g1]
    · have e1 : f_X9_put M 14 (nI i) (2 : Int32) p2 = some (q_sI M 15 (84 * i + 2) p2) := z_put_in (j := 2) R6 h36 hm6 hj (by decide)
      have La : z_Lay (q_sI M 15 (84 * i + 2) p2) := hL
      have r9 : ∀ k, q_I (q_sI M 15 (84 * i + 2) p2) 109 k = q_I M 109 k := fun k => by rw [z_I_sI, if_neg (by omega)]
      refine ⟨1, q_sI M 15 (84 * i + 2) p2, q_sI (q_sI M 15 (84 * i + 2) p2) 109 (3686 + 84 * i + 63) p2, ?_, ?_, ?_⟩
      · simp only [f_X11_tear, zob_0 hL, zo_0 hL, zo_1 hL, hh6, Option.bind_some, z_b0, g0, and_self, if_true, zr_6 hi hj, z_c_asNumber hb, g1, if_false, e1]
      · rcases hb with rfl | rfl
        · have x31 := x3.resolve_left g1
          simp only [f_X12_tear, f_X12_tear_b39, zob_108 La, zo_108 La, hs6 _ La rfl, Option.bind_some, z_b0, g0, and_self, if_true, zg_6 La (show i < 10 by omega), r9, x31, n10, if_false, zw_6 La (show i < 10 by omega)]
        · have x31 := x3.resolve_right g1
          simp only [f_X12_tear, f_X12_tear_b39, zob_108 La, zo_108 La, hs6 _ La rfl, Option.bind_some, z_b0, g0, and_self, if_true, zg_6 La (show i < 10 by omega), r9, x31, n01, n10, if_false, zw_6 La (show i < 10 by omega)]
      · skip
        have n9 : ∀ k, q_I (q_sI (q_sI M 15 (84 * i + 2) p2) 109 (3686 + 84 * i + 63) p2) 109 k = if k = 3686 + 84 * i + 63 then p2 else q_I M 109 k := fun k => by
          rw [z_I_sI, z_I_sI]
          repeat' split
          all_goals first | rfl | (exfalso; omega)
        have nc : ∀ k, q_I (q_sI (q_sI M 15 (84 * i + 2) p2) 109 (3686 + 84 * i + 63) p2) 15 k = if k = 84 * i + 2 then p2 else q_I M 15 k := fun k => by
          rw [z_I_sI, z_I_sI]
          repeat' split
          all_goals first | rfl | (exfalso; omega)
        refine z_Inv_sets (t := 6) (i := i) (fun j => if j = 2 then some p2 else none) (by decide) (by decide) (fun e => fun j a1 a2 => by rw [if_neg (by omega)]) hi hj ⟨rfl, rfl, rfl⟩ (fun a h1 h2 => ?_) (fun j h1 => ?_) (fun k h1 => ?_) (fun j h1 => ?_) (fun k h1 => ?_) ?_
        · have h1 : a ≠ 15 := h1
          rw [q_sI_ne h2, q_sI_ne h1]
        · have h1 : j < 84 := h1
          refine (nc (84 * i + j)).trans ?_
          show _ = (if j = 2 then some p2 else none).getD (q_I M 15 (84 * i + j))
          repeat' split
          all_goals first | rfl | (exfalso; omega)
        · have h1 : k < 84 * i ∨ 84 * i + 84 ≤ k := h1
          refine (nc k).trans ?_
          rw [if_neg (by omega)]
          try rfl
        · have h1 : j < 84 := h1
          refine (n9 (3686 + 84 * i + z_pm 6 j)).trans ?_
          show _ = (if j = 2 then some p2 else none).getD (q_I M 109 (3686 + 84 * i + z_pm 6 j))
          unfold z_pm
          repeat' split
          all_goals first | rfl | (exfalso; omega)
        · have h1 : k < 3686 + 84 * i ∨ 3686 + 84 * i + 84 ≤ k := h1
          rw [n9, if_neg (by omega)]
        · generalize q_I (q_sI (q_sI M 15 (84 * i + 2) p2) 109 (3686 + 84 * i + 63) p2) 109 = st at *
          have ov := hi.2.2.2.2.1.2.2.2 6 (by decide) i hj
          obtain ⟨x0, x1, x2, x3, x4⟩ := ov
          refine ⟨x0.cong (fun k k1 k2 => ?_), ?_, ?_, ?_, fun f2 hf2 => ?_, x4.2.cong ?_ (fun j hj2 => ?_)⟩
          · rw [n9, if_neg (by omega)]
          · rw [n9, if_neg (by omega)]; exact x1
          · rw [n9, if_neg (by omega)]; exact x2
          · rw [n9, if_pos (by omega)]; exact z_bt01 hb
          · rw [n9, if_neg (by omega)]; exact x4.1 f2 hf2
          · rw [n9, if_neg (by omega)]
          · have hl : j < 60 := by
              obtain ⟨n, hn, e0⟩ := x0.1
              rw [e0, nI_clamp (by omega)] at hj2
              omega
            rw [n9, if_neg (by omega)]
  · refine ⟨-2, M, M, ?_, ?_, hi⟩
    · simp only [f_X11_tear, zob_0 hL, zo_0 hL, zo_1 hL, hh6, Option.bind_some, z_b0, g0, and_self, and_true, true_and, and_false, false_and, if_true, if_false]
    · simp only [f_X12_tear, zob_108 hL, zo_108 hL, hs6 _ hL rfl, Option.bind_some, z_b0, g0, and_self, and_true, true_and, and_false, false_and, if_true, if_false]
