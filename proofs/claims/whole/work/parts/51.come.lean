/-! ===== calved, site, test, box ===== -/
theorem Z_calved_ok : Z_calved := by
  intro M p1 p2 p3 hi
  have hL := hi.1
  obtain ⟨R, h3, hm, hcn⟩ := zt_8 hi
  obtain ⟨R0, h30, hm0, hcn0⟩ := zt_0 hi
  have hh0 := z_has (x := p1) R0 h30 hm0
  have hs0 : f_X12_is M 108 (0 : Int32) p1 = some (q_b (0 ≤ p1.toInt ∧ p1.toInt < (z_m (q_I M 109) 0 : Int))) := z_m_is (t := 0) (j := 0) hL (by decide) hcn0 (by omega)
  by_cases hg : (0 ≤ p1.toInt ∧ p1.toInt < (z_m (q_I M 109) 0 : Int)) ∧ ((-51 : Int32).toInt ≤ p2.toInt ∧ p2.toInt ≤ (27 : Int32).toInt) ∧ ((1 : Int32).toInt ≤ p3.toInt ∧ p3.toInt ≤ (60 : Int32).toInt)
  · obtain ⟨g0, g1, g2⟩ := hg
    by_cases hf : z_m (q_I M 109) 8 = 40
    · have cf := fun a b d => z_come_full (a := a) (b := b) (d := d) R (by rw [h3, hf])
      have mf : q_lI M 109 (7 : Int32) = some (40 : Int32) := by rw [show (7 : Int32) = nI 7 from rfl, z_st_lit hL (by decide), hcn, hf]; rfl
      refine ⟨-4, M, M, ?_, ?_, hi⟩
      · simp only [f_X11_calved, zob_0 hL, zo_0 hL, zo_1 hL, z_c_within, z_c_isDay, z_c_isPlace, Option.bind_some, z_b0, hh0, g0, g1, g2, and_self, if_true, cf, if_pos rfl]
      · simp only [f_X12_calved, zob_108 hL, zo_108 hL, z_m_in, z_m_isDay, Option.bind_some, z_b0, hs0, g0, g1, g2, and_self, if_true, mf]
    · have hlt : z_m (q_I M 109) 8 < 40 := by omega
      obtain ⟨M1, c1, c2, c3, c4⟩ := z_come_in (a := p1) (b := p2) (d := p3) R h3 hlt
      have hL1 : z_Lay M1 := c2.lay hL
      have s9 : ∀ k, q_I M1 109 k = q_I M 109 k := fun k => by rw [c4, if_neg (by omega), if_neg (by omega)]
      have hs10 : f_X12_is M1 108 (0 : Int32) p1 = some (q_b (0 ≤ p1.toInt ∧ p1.toInt < (z_m (q_I M 109) 0 : Int))) := z_m_is (t := 0) (j := 0) hL1 (by decide) ((s9 _).trans hcn0) (by omega)
      refine ⟨nI (z_m (q_I M 109) 8) + 1, M1, (q_sI (q_sI (q_sI (q_sI M1 109 (4608 + 3 * (z_m (q_I M 109) 8)) p1) 109 (4608 + 3 * (z_m (q_I M 109) 8) + 1) p2) 109 (4608 + 3 * (z_m (q_I M 109) 8) + 2) p3) 109 7 (nI ((z_m (q_I M 109) 8) + 1))), ?_, ?_, ?_⟩
      · have nf : (nI (z_m (q_I M 109) 8) = (-4 : Int32)) = False := eq_false (fun z => by have := congrArg Int32.toInt z; rw [nI_toInt (by omega)] at this; have e4 : (-4 : Int32).toInt = -4 := rfl; omega)
        have hc1 : q_gI 8 3 M1 18 = some (nI (z_m (q_I M 109) 8) + 1) := by rw [(zo_18 hL1).1, c4, if_pos ⟨rfl, rfl⟩, nI_succ]
        simp only [f_X11_calved, zob_0 hL, zo_0 hL, zo_1 hL, z_c_within, z_c_isDay, z_c_isPlace, Option.bind_some, z_b0, hh0, g0, g1, g2, and_self, if_true, c1, nf, if_false, zo_0 hL1, zo_1 hL1, hc1]
      · have e0 : (4608 : Int32) + (3 : Int32) * nI (z_m (q_I M 109) 8) = nI (4608 + 3 * (z_m (q_I M 109) 8)) := by rw [show (3 : Int32) = nI 3 from rfl, pk_mul, show (4608 : Int32) = nI 4608 from rfl, nI_add]
        have e1 : nI (4608 + 3 * (z_m (q_I M 109) 8)) + (1 : Int32) = nI (4608 + 3 * (z_m (q_I M 109) 8) + 1) := by rw [show (1 : Int32) = nI 1 from rfl, nI_add]
        have e2 : nI (4608 + 3 * (z_m (q_I M 109) 8)) + (2 : Int32) = nI (4608 + 3 * (z_m (q_I M 109) 8) + 2) := by rw [show (2 : Int32) = nI 2 from rfl, nI_add]
        have ne : (nI (z_m (q_I M 109) 8) = (40 : Int32)) = False := eq_false (fun z => hf ((z_full (n := 40) (by omega) (by decide)).mp z))
        have g : q_lI M1 109 (7 : Int32) = some (nI (z_m (q_I M 109) 8)) := by rw [show (7 : Int32) = nI 7 from rfl, z_st_lit hL1 (by decide), s9, hcn]
        have gr : ∀ M3 : q_Mem, z_Lay M3 → q_gR 11 0 M3 108 = some 109 := fun M3 h => (zo_108 h).2.2.2.2.2.1
        have pt : ∀ (M3 : q_Mem) (k : Nat) (v : Int32), z_Lay M3 → k < 4764 → q_tI M3 109 (nI k) v = some (q_sI M3 109 k v) := fun M3 k v h hk => z_st_put h hk
        have L1 : z_Lay (q_sI M1 109 (4608 + 3 * (z_m (q_I M 109) 8)) p1) := hL1
        have L2 : z_Lay (q_sI (q_sI M1 109 (4608 + 3 * (z_m (q_I M 109) 8)) p1) 109 (4608 + 3 * (z_m (q_I M 109) 8) + 1) p2) := hL1
        have L3 : z_Lay (q_sI (q_sI (q_sI M1 109 (4608 + 3 * (z_m (q_I M 109) 8)) p1) 109 (4608 + 3 * (z_m (q_I M 109) 8) + 1) p2) 109 (4608 + 3 * (z_m (q_I M 109) 8) + 2) p3) := hL1
        have k0 : 4608 + 3 * (z_m (q_I M 109) 8) < 4764 := by omega
        have k1 : 4608 + 3 * (z_m (q_I M 109) 8) + 1 < 4764 := by omega
        have k2 : 4608 + 3 * (z_m (q_I M 109) 8) + 2 < 4764 := by omega
        have hx : f_X12_more (q_sI (q_sI (q_sI M1 109 (4608 + 3 * (z_m (q_I M 109) 8)) p1) 109 (4608 + 3 * (z_m (q_I M 109) 8) + 1) p2) 109 (4608 + 3 * (z_m (q_I M 109) 8) + 2) p3) 108 (7 : Int32) = some (nI (z_m (q_I M 109) 8), (q_sI (q_sI (q_sI (q_sI M1 109 (4608 + 3 * (z_m (q_I M 109) 8)) p1) 109 (4608 + 3 * (z_m (q_I M 109) 8) + 1) p2) 109 (4608 + 3 * (z_m (q_I M 109) 8) + 2) p3) 109 7 (nI ((z_m (q_I M 109) 8) + 1)))) := z_more (j := 7) hL1 (by decide) (by rw [z_I_sI, if_neg (by omega), z_I_sI, if_neg (by omega), z_I_sI, if_neg (by omega), s9, hcn])
        simp only [f_X12_calved, zob_108 hL1, z_m_in, z_m_isDay, Option.bind_some, z_b0, hs10, g0, g1, g2, and_self, if_true, gr, hL1, L1, L2, L3, g, ne, if_false, e0, e1, e2, pt, k0, k1, k2, hx]
      · refine z_Inv_come (t := 8) (z_row p1 p2 p3) (by decide) (by decide) (by decide) hi hlt c2 c4 ⟨rfl, rfl, rfl⟩ (fun b hb => ?_) (fun k => ?_) (fun hr hmo => ?_)
        · rw [q_sI_ne hb, q_sI_ne hb, q_sI_ne hb, q_sI_ne hb]
        · rw [z_w3' _ _ _ _ _ _ _ (show 7 < 4608 + 3 * (z_m (q_I M 109) 8) by omega), s9]
          rfl
        · have v0 : _ = p1 := hr 0 (by decide)
          have v1 : _ = p2 := hr 1 (by decide)
          have v2 : _ = p3 := hr 2 (by decide)
          generalize q_I (q_sI (q_sI (q_sI (q_sI M1 109 (4608 + 3 * (z_m (q_I M 109) 8)) p1) 109 (4608 + 3 * (z_m (q_I M 109) 8) + 1) p2) 109 (4608 + 3 * (z_m (q_I M 109) 8) + 2) p3) 109 7 (nI ((z_m (q_I M 109) 8) + 1))) 109 = st at *
          have v0 : st (4608 + 3 * (z_m (q_I M 109) 8)) = p1 := v0
          have v1 : st (4608 + 3 * (z_m (q_I M 109) 8) + 1) = p2 := v1
          have v2 : st (4608 + 3 * (z_m (q_I M 109) 8) + 2) = p3 := v2
          refine ⟨?_, ?_, ?_⟩
          · rw [v0]; exact (z_id_of g0 (by omega)).mono (hmo 0 (by decide))
          · rw [v1]; exact z_bt_of g1 rfl rfl
          · rw [v2]; exact z_bt_of g2 rfl rfl
  · refine ⟨-2, M, M, ?_, ?_, hi⟩
    · by_cases g0 : 0 ≤ p1.toInt ∧ p1.toInt < (z_m (q_I M 109) 0 : Int)
      rotate_left
      · simp only [f_X11_calved, zob_0 hL, zo_0 hL, zo_1 hL, z_c_within, z_c_isDay, z_c_isPlace, Option.bind_some, z_b0, hh0, g0, and_self, and_true, true_and, and_false, false_and, if_true, if_false]
      · by_cases g1 : (-51 : Int32).toInt ≤ p2.toInt ∧ p2.toInt ≤ (27 : Int32).toInt
        rotate_left
        · simp only [f_X11_calved, zob_0 hL, zo_0 hL, zo_1 hL, z_c_within, z_c_isDay, z_c_isPlace, Option.bind_some, z_b0, hh0, g0, g1, and_self, and_true, true_and, and_false, false_and, if_true, if_false]
        · have g2 : ¬ ((1 : Int32).toInt ≤ p3.toInt ∧ p3.toInt ≤ (60 : Int32).toInt) := (fun z => hg ⟨g0, g1, z⟩)
          simp only [f_X11_calved, zob_0 hL, zo_0 hL, zo_1 hL, z_c_within, z_c_isDay, z_c_isPlace, Option.bind_some, z_b0, hh0, g0, g1, g2, and_self, and_true, true_and, and_false, false_and, if_true, if_false]
    · by_cases g0 : 0 ≤ p1.toInt ∧ p1.toInt < (z_m (q_I M 109) 0 : Int)
      rotate_left
      · simp only [f_X12_calved, zob_108 hL, zo_108 hL, z_m_in, z_m_isDay, Option.bind_some, z_b0, hs0, g0, and_self, and_true, true_and, and_false, false_and, if_true, if_false]
      · by_cases g1 : (-51 : Int32).toInt ≤ p2.toInt ∧ p2.toInt ≤ (27 : Int32).toInt
        rotate_left
        · simp only [f_X12_calved, zob_108 hL, zo_108 hL, z_m_in, z_m_isDay, Option.bind_some, z_b0, hs0, g0, g1, and_self, and_true, true_and, and_false, false_and, if_true, if_false]
        · have g2 : ¬ ((1 : Int32).toInt ≤ p3.toInt ∧ p3.toInt ≤ (60 : Int32).toInt) := (fun z => hg ⟨g0, g1, z⟩)
          simp only [f_X12_calved, zob_108 hL, zo_108 hL, z_m_in, z_m_isDay, Option.bind_some, z_b0, hs0, g0, g1, g2, and_self, and_true, true_and, and_false, false_and, if_true, if_false]
theorem Z_site_ok : Z_site := by
  intro M p1 p2 p3 hi
  have hL := hi.1
  obtain ⟨R, h3, hm, hcn⟩ := zt_9 hi
  by_cases hg : ((0 : Int32).toInt ≤ p1.toInt ∧ p1.toInt ≤ (200 : Int32).toInt) ∧ ((0 : Int32).toInt ≤ p2.toInt ∧ p2.toInt ≤ (200 : Int32).toInt) ∧ ((0 : Int32).toInt ≤ p3.toInt ∧ p3.toInt ≤ (1000000 : Int32).toInt)
  · obtain ⟨g0, g1, g2⟩ := hg
    by_cases hf : z_m (q_I M 109) 9 = 6
    · have cf := fun a b d => z_come_full (a := a) (b := b) (d := d) R (by rw [h3, hf])
      have mf : q_lI M 109 (8 : Int32) = some (6 : Int32) := by rw [show (8 : Int32) = nI 8 from rfl, z_st_lit hL (by decide), hcn, hf]; rfl
      refine ⟨-4, M, M, ?_, ?_, hi⟩
      · simp only [f_X11_site, zob_0 hL, zo_0 hL, zo_1 hL, z_c_within, z_c_isDay, z_c_isPlace, Option.bind_some, z_b0, g0, g1, g2, and_self, if_true, cf]
      · simp only [f_X12_site, zob_108 hL, zo_108 hL, z_m_in, z_m_isDay, Option.bind_some, z_b0, g0, g1, g2, and_self, if_true, mf]
    · have hlt : z_m (q_I M 109) 9 < 6 := by omega
      obtain ⟨M1, c1, c2, c3, c4⟩ := z_come_in (a := p1) (b := p2) (d := p3) R h3 hlt
      have hL1 : z_Lay M1 := c2.lay hL
      have s9 : ∀ k, q_I M1 109 k = q_I M 109 k := fun k => by rw [c4, if_neg (by omega), if_neg (by omega)]
      refine ⟨nI (z_m (q_I M 109) 9), M1, (q_sI (q_sI (q_sI (q_sI M1 109 (4728 + 3 * (z_m (q_I M 109) 9)) p1) 109 (4728 + 3 * (z_m (q_I M 109) 9) + 1) p2) 109 (4728 + 3 * (z_m (q_I M 109) 9) + 2) p3) 109 8 (nI ((z_m (q_I M 109) 9) + 1))), ?_, ?_, ?_⟩
      · simp only [f_X11_site, zob_0 hL, zo_0 hL, zo_1 hL, z_c_within, z_c_isDay, z_c_isPlace, Option.bind_some, z_b0, g0, g1, g2, and_self, if_true, c1]
      · have e0 : (4728 : Int32) + (3 : Int32) * nI (z_m (q_I M 109) 9) = nI (4728 + 3 * (z_m (q_I M 109) 9)) := by rw [show (3 : Int32) = nI 3 from rfl, pk_mul, show (4728 : Int32) = nI 4728 from rfl, nI_add]
        have e1 : nI (4728 + 3 * (z_m (q_I M 109) 9)) + (1 : Int32) = nI (4728 + 3 * (z_m (q_I M 109) 9) + 1) := by rw [show (1 : Int32) = nI 1 from rfl, nI_add]
        have e2 : nI (4728 + 3 * (z_m (q_I M 109) 9)) + (2 : Int32) = nI (4728 + 3 * (z_m (q_I M 109) 9) + 2) := by rw [show (2 : Int32) = nI 2 from rfl, nI_add]
        have ne : (nI (z_m (q_I M 109) 9) = (6 : Int32)) = False := eq_false (fun z => hf ((z_full (n := 6) (by omega) (by decide)).mp z))
        have g : q_lI M1 109 (8 : Int32) = some (nI (z_m (q_I M 109) 9)) := by rw [show (8 : Int32) = nI 8 from rfl, z_st_lit hL1 (by decide), s9, hcn]
        have gr : ∀ M3 : q_Mem, z_Lay M3 → q_gR 11 0 M3 108 = some 109 := fun M3 h => (zo_108 h).2.2.2.2.2.1
        have pt : ∀ (M3 : q_Mem) (k : Nat) (v : Int32), z_Lay M3 → k < 4764 → q_tI M3 109 (nI k) v = some (q_sI M3 109 k v) := fun M3 k v h hk => z_st_put h hk
        have L1 : z_Lay (q_sI M1 109 (4728 + 3 * (z_m (q_I M 109) 9)) p1) := hL1
        have L2 : z_Lay (q_sI (q_sI M1 109 (4728 + 3 * (z_m (q_I M 109) 9)) p1) 109 (4728 + 3 * (z_m (q_I M 109) 9) + 1) p2) := hL1
        have L3 : z_Lay (q_sI (q_sI (q_sI M1 109 (4728 + 3 * (z_m (q_I M 109) 9)) p1) 109 (4728 + 3 * (z_m (q_I M 109) 9) + 1) p2) 109 (4728 + 3 * (z_m (q_I M 109) 9) + 2) p3) := hL1
        have k0 : 4728 + 3 * (z_m (q_I M 109) 9) < 4764 := by omega
        have k1 : 4728 + 3 * (z_m (q_I M 109) 9) + 1 < 4764 := by omega
        have k2 : 4728 + 3 * (z_m (q_I M 109) 9) + 2 < 4764 := by omega
        have hx : f_X12_more (q_sI (q_sI (q_sI M1 109 (4728 + 3 * (z_m (q_I M 109) 9)) p1) 109 (4728 + 3 * (z_m (q_I M 109) 9) + 1) p2) 109 (4728 + 3 * (z_m (q_I M 109) 9) + 2) p3) 108 (8 : Int32) = some (nI (z_m (q_I M 109) 9), (q_sI (q_sI (q_sI (q_sI M1 109 (4728 + 3 * (z_m (q_I M 109) 9)) p1) 109 (4728 + 3 * (z_m (q_I M 109) 9) + 1) p2) 109 (4728 + 3 * (z_m (q_I M 109) 9) + 2) p3) 109 8 (nI ((z_m (q_I M 109) 9) + 1)))) := z_more (j := 8) hL1 (by decide) (by rw [z_I_sI, if_neg (by omega), z_I_sI, if_neg (by omega), z_I_sI, if_neg (by omega), s9, hcn])
        simp only [f_X12_site, zob_108 hL1, z_m_in, z_m_isDay, Option.bind_some, z_b0, g0, g1, g2, and_self, if_true, gr, hL1, L1, L2, L3, g, ne, if_false, e0, e1, e2, pt, k0, k1, k2, hx]
      · refine z_Inv_come (t := 9) (z_row p1 p2 p3) (by decide) (by decide) (by decide) hi hlt c2 c4 ⟨rfl, rfl, rfl⟩ (fun b hb => ?_) (fun k => ?_) (fun hr hmo => ?_)
        · rw [q_sI_ne hb, q_sI_ne hb, q_sI_ne hb, q_sI_ne hb]
        · rw [z_w3' _ _ _ _ _ _ _ (show 8 < 4728 + 3 * (z_m (q_I M 109) 9) by omega), s9]
          rfl
        · have v0 : _ = p1 := hr 0 (by decide)
          have v1 : _ = p2 := hr 1 (by decide)
          have v2 : _ = p3 := hr 2 (by decide)
          generalize q_I (q_sI (q_sI (q_sI (q_sI M1 109 (4728 + 3 * (z_m (q_I M 109) 9)) p1) 109 (4728 + 3 * (z_m (q_I M 109) 9) + 1) p2) 109 (4728 + 3 * (z_m (q_I M 109) 9) + 2) p3) 109 8 (nI ((z_m (q_I M 109) 9) + 1))) 109 = st at *
          have v0 : st (4728 + 3 * (z_m (q_I M 109) 9)) = p1 := v0
          have v1 : st (4728 + 3 * (z_m (q_I M 109) 9) + 1) = p2 := v1
          have v2 : st (4728 + 3 * (z_m (q_I M 109) 9) + 2) = p3 := v2
          refine ⟨?_, ?_, ?_⟩
          · rw [v0]; exact z_bt_of g0 rfl rfl
          · rw [v1]; exact z_bt_of g1 rfl rfl
          · rw [v2]; exact z_bt_of g2 rfl rfl
  · refine ⟨-2, M, M, ?_, ?_, hi⟩
    · by_cases g0 : (0 : Int32).toInt ≤ p1.toInt ∧ p1.toInt ≤ (200 : Int32).toInt
      rotate_left
      · simp only [f_X11_site, zob_0 hL, zo_0 hL, zo_1 hL, z_c_within, z_c_isDay, z_c_isPlace, Option.bind_some, z_b0, g0, and_self, and_true, true_and, and_false, false_and, if_true, if_false]
      · by_cases g1 : (0 : Int32).toInt ≤ p2.toInt ∧ p2.toInt ≤ (200 : Int32).toInt
        rotate_left
        · simp only [f_X11_site, zob_0 hL, zo_0 hL, zo_1 hL, z_c_within, z_c_isDay, z_c_isPlace, Option.bind_some, z_b0, g0, g1, and_self, and_true, true_and, and_false, false_and, if_true, if_false]
        · have g2 : ¬ ((0 : Int32).toInt ≤ p3.toInt ∧ p3.toInt ≤ (1000000 : Int32).toInt) := (fun z => hg ⟨g0, g1, z⟩)
          simp only [f_X11_site, zob_0 hL, zo_0 hL, zo_1 hL, z_c_within, z_c_isDay, z_c_isPlace, Option.bind_some, z_b0, g0, g1, g2, and_self, and_true, true_and, and_false, false_and, if_true, if_false]
    · by_cases g0 : (0 : Int32).toInt ≤ p1.toInt ∧ p1.toInt ≤ (200 : Int32).toInt
      rotate_left
      · simp only [f_X12_site, zob_108 hL, zo_108 hL, z_m_in, z_m_isDay, Option.bind_some, z_b0, g0, and_self, and_true, true_and, and_false, false_and, if_true, if_false]
      · by_cases g1 : (0 : Int32).toInt ≤ p2.toInt ∧ p2.toInt ≤ (200 : Int32).toInt
        rotate_left
        · simp only [f_X12_site, zob_108 hL, zo_108 hL, z_m_in, z_m_isDay, Option.bind_some, z_b0, g0, g1, and_self, and_true, true_and, and_false, false_and, if_true, if_false]
        · have g2 : ¬ ((0 : Int32).toInt ≤ p3.toInt ∧ p3.toInt ≤ (1000000 : Int32).toInt) := (fun z => hg ⟨g0, g1, z⟩)
          simp only [f_X12_site, zob_108 hL, zo_108 hL, z_m_in, z_m_isDay, Option.bind_some, z_b0, g0, g1, g2, and_self, and_true, true_and, and_false, false_and, if_true, if_false]
def z_Gt (M : q_Mem) (p1 p2 p3 p4 : Int32) : Prop := (0 ≤ p1.toInt ∧ p1.toInt < (z_m (q_I M 109) 0 : Int)) ∧ ((0 : Int32).toInt ≤ p2.toInt ∧ p2.toInt ≤ (195 : Int32).toInt) ∧ ((0 : Int32).toInt ≤ p3.toInt ∧ p3.toInt ≤ (3 : Int32).toInt) ∧ (p4 = -7 ∨ ((0 : Int32).toInt ≤ p4.toInt ∧ p4.toInt ≤ (1000 : Int32).toInt))
theorem z_test_c {M : q_Mem} (hi : z_Inv M) (p1 p2 p3 p4 p5 : Int32) : (z_Gt M p1 p2 p3 p4 → f_X11_test M 0 p1 p2 p3 p4 p5 = f_X11_test_b53 M 0 p1 p2 p3 p4 p5) ∧ (¬ z_Gt M p1 p2 p3 p4 → f_X11_test M 0 p1 p2 p3 p4 p5 = some (-2, M)) := by
  have hL := hi.1
  obtain ⟨R0, h30, hm0, hcn0⟩ := zt_0 hi
  have hh := z_has (x := p1) R0 h30 hm0
  have e : f_X11_test M 0 p1 p2 p3 p4 p5 = if (0 ≤ p1.toInt ∧ p1.toInt < (z_m (q_I M 109) 0 : Int)) then (if ((0 : Int32).toInt ≤ p2.toInt ∧ p2.toInt ≤ (195 : Int32).toInt) then (if ((0 : Int32).toInt ≤ p3.toInt ∧ p3.toInt ≤ (3 : Int32).toInt) then (if p4 = (-7 : Int32) then f_X11_test_b53 M 0 p1 p2 p3 p4 p5 else if ((0 : Int32).toInt ≤ p4.toInt ∧ p4.toInt ≤ (1000 : Int32).toInt) then f_X11_test_b53 M 0 p1 p2 p3 p4 p5 else some (-2, M)) else some (-2, M)) else some (-2, M)) else some (-2, M) := by
    simp only [f_X11_test, zob_0 hL, zo_0 hL, zo_1 hL, hh, z_c_isDay, z_c_isHand, z_c_within, Option.bind_some, z_b0]
  rw [e]
  unfold z_Gt
  constructor
  · rintro ⟨a, b, c, d⟩
    rw [if_pos a, if_pos b, if_pos c]
    rcases d with d | d
    · rw [if_pos d]
    · rw [if_pos d]; split <;> rfl
  · intro h
    split
    · split
      · split
        · rename_i a b c
          rw [if_neg (fun z => h ⟨a, b, c, Or.inl z⟩), if_neg (fun z => h ⟨a, b, c, Or.inr z⟩)]
        · rfl
      · rfl
    · rfl
theorem z_test_m {M M1 : q_Mem} (hi : z_Inv M) (hL : z_Lay M1) (hn : q_I M1 109 0 = q_I M 109 0) (p1 p2 p3 p4 p5 : Int32) : (z_Gt M p1 p2 p3 p4 → f_X12_test M1 108 p1 p2 p3 p4 p5 = f_X12_test_b44 M1 108 p1 p2 p3 p4 p5) ∧ (¬ z_Gt M p1 p2 p3 p4 → f_X12_test M1 108 p1 p2 p3 p4 p5 = some (-2, M1)) := by
  obtain ⟨R0, h30, hm0, hcn0⟩ := zt_0 hi
  have hh : f_X12_is M1 108 (0 : Int32) p1 = some (q_b (0 ≤ p1.toInt ∧ p1.toInt < (z_m (q_I M 109) 0 : Int))) := z_m_is (t := 0) (j := 0) hL (by decide) (hn.trans hcn0) (by omega)
  have e : f_X12_test M1 108 p1 p2 p3 p4 p5 = if (0 ≤ p1.toInt ∧ p1.toInt < (z_m (q_I M 109) 0 : Int)) then (if ((0 : Int32).toInt ≤ p2.toInt ∧ p2.toInt ≤ (195 : Int32).toInt) then (if ((0 : Int32).toInt ≤ p3.toInt ∧ p3.toInt ≤ (3 : Int32).toInt) then (if ((0 : Int32).toInt ≤ p4.toInt ∧ p4.toInt ≤ (1000 : Int32).toInt) then f_X12_test_b44 M1 108 p1 p2 p3 p4 p5 else if p4 = (-7 : Int32) then f_X12_test_b44 M1 108 p1 p2 p3 p4 p5 else some (-2, M1)) else some (-2, M1)) else some (-2, M1)) else some (-2, M1) := by
    simp only [f_X12_test, zob_108 hL, hh, z_m_isDay, z_m_in, Option.bind_some, z_b0]
  rw [e]
  unfold z_Gt
  constructor
  · rintro ⟨a, b, c, d⟩
    rw [if_pos a, if_pos b, if_pos c]
    rcases d with d | d
    · rw [if_pos d]; split <;> rfl
    · rw [if_pos d]
  · intro h
    split
    · split
      · split
        · rename_i a b c
          rw [if_neg (fun z => h ⟨a, b, c, Or.inr z⟩), if_neg (fun z => h ⟨a, b, c, Or.inl z⟩)]
        · rfl
      · rfl
    · rfl
theorem z_w7 (M : q_Mem) (o n : Nat) (x a b d e f : Int32) (hn : n < o) (k : Nat) : q_I (q_sI (q_sI (q_sI (q_sI (q_sI (q_sI (q_sI (q_sI M 109 o a) 109 (o + 1) b) 109 (o + 2) d) 109 (o + 3) e) 109 (o + 4) f) 109 (o + 5) (-1)) 109 (o + 6) (-1)) 109 n x) 109 k = if k = n then x else if o ≤ k ∧ k < o + 7 then (if k - o = 3 then e else if k - o = 4 then f else z_row a b d (k - o)) else q_I M 109 k := by
  rw [z_I_sI, z_I_sI, z_I_sI, z_I_sI, z_I_sI, z_I_sI, z_I_sI, z_I_sI]
  unfold z_row
  repeat' split
  all_goals first | rfl | (exfalso; omega)
theorem z_w5 (M : q_Mem) (o n : Nat) (x a : Int32) (hn : n < o) (k : Nat) : q_I (q_sI (q_sI (q_sI (q_sI (q_sI (q_sI M 109 o a) 109 (o + 1) (-1)) 109 (o + 2) (-1)) 109 (o + 3) (-1)) 109 (o + 4) (-1)) 109 n x) 109 k = if k = n then x else if o ≤ k ∧ k < o + 5 then z_row a (-1) (-1) (k - o) else q_I M 109 k := by
  rw [z_I_sI, z_I_sI, z_I_sI, z_I_sI, z_I_sI, z_I_sI]
  unfold z_row
  repeat' split
  all_goals first | rfl | (exfalso; omega)

theorem Z_test_ok : Z_test := by
  intro M p1 p2 p3 p4 p5 hi
  have hL := hi.1
  obtain ⟨R, h3, hm, hcn⟩ := zt_2 hi
  by_cases hg : z_Gt M p1 p2 p3 p4
  · by_cases g5 : p2.toInt ≤ p5.toInt ∧ p5.toInt ≤ (195 : Int32).toInt
    · by_cases hf : z_m (q_I M 109) 2 = 200
      · have cf := fun a b d => z_come_full (a := a) (b := b) (d := d) R (by rw [h3, hf])
        have pn : ∀ y v : Int32, f_X9_put M 6 (-4 : Int32) y v = some M := fun y v => z_put_neg R (by decide)
        have mf : q_lI M 109 (2 : Int32) = some (200 : Int32) := by rw [show (2 : Int32) = nI 2 from rfl, z_st_lit hL (by decide), hcn, hf]; rfl
        refine ⟨-4, M, M, ?_, ?_, hi⟩
        · rw [(z_test_c hi p1 p2 p3 p4 p5).1 hg]
          simp only [f_X11_test_b53, z_c_within, zo_0 hL, zo_1 hL, Option.bind_some, z_b0, g5, and_self, if_true, cf, pn]
        · rw [(z_test_m hi hL rfl p1 p2 p3 p4 p5).1 hg]
          simp only [f_X12_test_b44, z_m_in, zo_108 hL, Option.bind_some, z_b0, g5, and_self, if_true, mf]
      · have hlt : z_m (q_I M 109) 2 < 200 := by omega
        obtain ⟨M1, c1, c2, c3, c4⟩ := z_come_in (a := p1) (b := p2) (d := p3) R h3 hlt
        have hL1 : z_Lay M1 := c2.lay hL
        have R1 : z_R M1 6 7 7 200 := R.keep c2 (by rw [c4, if_neg (by omega), if_neg (by omega)]) (by rw [c4, if_neg (by omega), if_neg (by omega)])
        have t1 : q_I M1 6 3 = nI (z_m (q_I M 109) 2 + 1) := by rw [c4, if_pos ⟨rfl, rfl⟩]
        have e1 : f_X9_put M1 6 (nI (z_m (q_I M 109) 2)) (3 : Int32) p4 = some (q_sI M1 7 (7 * z_m (q_I M 109) 2 + 3) p4) := z_put_in (i := z_m (q_I M 109) 2) (j := 3) (v := p4) R1 t1 (by omega) (by omega) (by omega)
        have R2 : z_R (q_sI M1 7 (7 * z_m (q_I M 109) 2 + 3) p4) 6 7 7 200 := R1.keep z_FR.sI rfl rfl
        have e2 : f_X9_put (q_sI M1 7 (7 * z_m (q_I M 109) 2 + 3) p4) 6 (nI (z_m (q_I M 109) 2)) (4 : Int32) p5 = some (q_sI (q_sI M1 7 (7 * z_m (q_I M 109) 2 + 3) p4) 7 (7 * z_m (q_I M 109) 2 + 4) p5) := z_put_in (i := z_m (q_I M 109) 2) (j := 4) (v := p5) R2 t1 (by omega) (by omega) (by omega)
        have s9 : ∀ k, q_I (q_sI (q_sI M1 7 (7 * z_m (q_I M 109) 2 + 3) p4) 7 (7 * z_m (q_I M 109) 2 + 4) p5) 109 k = q_I M 109 k := fun k => by rw [z_I_sI, if_neg (by omega), z_I_sI, if_neg (by omega), c4, if_neg (by omega), if_neg (by omega)]
        have d4 : ∀ b k, q_I (q_sI (q_sI M1 7 (7 * z_m (q_I M 109) 2 + 3) p4) 7 (7 * z_m (q_I M 109) 2 + 4) p5) b k = if b = 2 + 2 * 2 ∧ k = 3 then nI (z_m (q_I M 109) 2 + 1) else if b = 3 + 2 * 2 ∧ z_tw 2 * z_m (q_I M 109) 2 ≤ k ∧ k < z_tw 2 * z_m (q_I M 109) 2 + z_tw 2 then (fun j => if j = 3 then p4 else if j = 4 then p5 else z_row p1 p2 p3 j) (k - z_tw 2 * z_m (q_I M 109) 2) else q_I M b k := by
          intro b k
          rw [z_I_sI, z_I_sI, c4]
          simp only [z_tw]
          repeat' split
          all_goals first | rfl | (exfalso; omega)
        have hF2 : z_FR M (q_sI (q_sI M1 7 (7 * z_m (q_I M 109) 2 + 3) p4) 7 (7 * z_m (q_I M 109) 2 + 4) p5) := c2.tr ⟨rfl, rfl, rfl⟩
        generalize q_sI (q_sI M1 7 (7 * z_m (q_I M 109) 2 + 3) p4) 7 (7 * z_m (q_I M 109) 2 + 4) p5 = M2 at *
        have hL2 : z_Lay M2 := hF2.lay hL
        refine ⟨nI (z_m (q_I M 109) 2), M2, (q_sI (q_sI (q_sI (q_sI (q_sI (q_sI (q_sI (q_sI M2 109 (1300 + 7 * (z_m (q_I M 109) 2)) p1) 109 (1300 + 7 * (z_m (q_I M 109) 2) + 1) p2) 109 (1300 + 7 * (z_m (q_I M 109) 2) + 2) p3) 109 (1300 + 7 * (z_m (q_I M 109) 2) + 3) p4) 109 (1300 + 7 * (z_m (q_I M 109) 2) + 4) p5) 109 (1300 + 7 * (z_m (q_I M 109) 2) + 5) (-1 : Int32)) 109 (1300 + 7 * (z_m (q_I M 109) 2) + 6) (-1 : Int32)) 109 2 (nI ((z_m (q_I M 109) 2) + 1))), ?_, ?_, ?_⟩
        · rw [(z_test_c hi p1 p2 p3 p4 p5).1 hg]
          simp only [f_X11_test_b53, z_c_within, zo_0 hL, zo_1 hL, zo_0 hL1, zo_1 hL1, Option.bind_some, z_b0, g5, and_self, if_true, c1, e1]
          have hL9 : z_Lay (q_sI M1 7 (7 * z_m (q_I M 109) 2 + 3) p4) := hL1
          simp only [zo_0 hL9, zo_1 hL9, Option.bind_some, e2]
        · rw [(z_test_m hi hL2 (s9 0) p1 p2 p3 p4 p5).1 hg]
          have e0 : (1300 : Int32) + (7 : Int32) * nI (z_m (q_I M 109) 2) = nI (1300 + 7 * (z_m (q_I M 109) 2)) := by rw [show (7 : Int32) = nI 7 from rfl, pk_mul, show (1300 : Int32) = nI 1300 from rfl, nI_add]
          have e1 : nI (1300 + 7 * (z_m (q_I M 109) 2)) + (1 : Int32) = nI (1300 + 7 * (z_m (q_I M 109) 2) + 1) := by rw [show (1 : Int32) = nI 1 from rfl, nI_add]
          have e2 : nI (1300 + 7 * (z_m (q_I M 109) 2)) + (2 : Int32) = nI (1300 + 7 * (z_m (q_I M 109) 2) + 2) := by rw [show (2 : Int32) = nI 2 from rfl, nI_add]
          have e3 : nI (1300 + 7 * (z_m (q_I M 109) 2)) + (3 : Int32) = nI (1300 + 7 * (z_m (q_I M 109) 2) + 3) := by rw [show (3 : Int32) = nI 3 from rfl, nI_add]
          have e4 : nI (1300 + 7 * (z_m (q_I M 109) 2)) + (4 : Int32) = nI (1300 + 7 * (z_m (q_I M 109) 2) + 4) := by rw [show (4 : Int32) = nI 4 from rfl, nI_add]
          have e5 : nI (1300 + 7 * (z_m (q_I M 109) 2)) + (5 : Int32) = nI (1300 + 7 * (z_m (q_I M 109) 2) + 5) := by rw [show (5 : Int32) = nI 5 from rfl, nI_add]
          have e6 : nI (1300 + 7 * (z_m (q_I M 109) 2)) + (6 : Int32) = nI (1300 + 7 * (z_m (q_I M 109) 2) + 6) := by rw [show (6 : Int32) = nI 6 from rfl, nI_add]
          have ne : (nI (z_m (q_I M 109) 2) = (200 : Int32)) = False := eq_false (fun z => hf ((z_full (n := 200) (by omega) (by decide)).mp z))
          have g : q_lI M2 109 (2 : Int32) = some (nI (z_m (q_I M 109) 2)) := by rw [show (2 : Int32) = nI 2 from rfl, z_st_lit hL2 (by decide), s9, hcn]
          have gr : ∀ M3 : q_Mem, z_Lay M3 → q_gR 11 0 M3 108 = some 109 := fun M3 h => (zo_108 h).2.2.2.2.2.1
          have pt : ∀ (M3 : q_Mem) (k : Nat) (v : Int32), z_Lay M3 → k < 4764 → q_tI M3 109 (nI k) v = some (q_sI M3 109 k v) := fun M3 k v h hk => z_st_put h hk
          have L1 : z_Lay (q_sI M2 109 (1300 + 7 * (z_m (q_I M 109) 2)) p1) := hL2
          have L2 : z_Lay (q_sI (q_sI M2 109 (1300 + 7 * (z_m (q_I M 109) 2)) p1) 109 (1300 + 7 * (z_m (q_I M 109) 2) + 1) p2) := hL2
          have L3 : z_Lay (q_sI (q_sI (q_sI M2 109 (1300 + 7 * (z_m (q_I M 109) 2)) p1) 109 (1300 + 7 * (z_m (q_I M 109) 2) + 1) p2) 109 (1300 + 7 * (z_m (q_I M 109) 2) + 2) p3) := hL2
          have L4 : z_Lay (q_sI (q_sI (q_sI (q_sI M2 109 (1300 + 7 * (z_m (q_I M 109) 2)) p1) 109 (1300 + 7 * (z_m (q_I M 109) 2) + 1) p2) 109 (1300 + 7 * (z_m (q_I M 109) 2) + 2) p3) 109 (1300 + 7 * (z_m (q_I M 109) 2) + 3) p4) := hL2
          have L5 : z_Lay (q_sI (q_sI (q_sI (q_sI (q_sI M2 109 (1300 + 7 * (z_m (q_I M 109) 2)) p1) 109 (1300 + 7 * (z_m (q_I M 109) 2) + 1) p2) 109 (1300 + 7 * (z_m (q_I M 109) 2) + 2) p3) 109 (1300 + 7 * (z_m (q_I M 109) 2) + 3) p4) 109 (1300 + 7 * (z_m (q_I M 109) 2) + 4) p5) := hL2
          have L6 : z_Lay (q_sI (q_sI (q_sI (q_sI (q_sI (q_sI M2 109 (1300 + 7 * (z_m (q_I M 109) 2)) p1) 109 (1300 + 7 * (z_m (q_I M 109) 2) + 1) p2) 109 (1300 + 7 * (z_m (q_I M 109) 2) + 2) p3) 109 (1300 + 7 * (z_m (q_I M 109) 2) + 3) p4) 109 (1300 + 7 * (z_m (q_I M 109) 2) + 4) p5) 109 (1300 + 7 * (z_m (q_I M 109) 2) + 5) (-1 : Int32)) := hL2
          have L7 : z_Lay (q_sI (q_sI (q_sI (q_sI (q_sI (q_sI (q_sI M2 109 (1300 + 7 * (z_m (q_I M 109) 2)) p1) 109 (1300 + 7 * (z_m (q_I M 109) 2) + 1) p2) 109 (1300 + 7 * (z_m (q_I M 109) 2) + 2) p3) 109 (1300 + 7 * (z_m (q_I M 109) 2) + 3) p4) 109 (1300 + 7 * (z_m (q_I M 109) 2) + 4) p5) 109 (1300 + 7 * (z_m (q_I M 109) 2) + 5) (-1 : Int32)) 109 (1300 + 7 * (z_m (q_I M 109) 2) + 6) (-1 : Int32)) := hL2
          have k0 : 1300 + 7 * (z_m (q_I M 109) 2) < 4764 := by omega
          have k1 : 1300 + 7 * (z_m (q_I M 109) 2) + 1 < 4764 := by omega
          have k2 : 1300 + 7 * (z_m (q_I M 109) 2) + 2 < 4764 := by omega
          have k3 : 1300 + 7 * (z_m (q_I M 109) 2) + 3 < 4764 := by omega
          have k4 : 1300 + 7 * (z_m (q_I M 109) 2) + 4 < 4764 := by omega
          have k5 : 1300 + 7 * (z_m (q_I M 109) 2) + 5 < 4764 := by omega
          have k6 : 1300 + 7 * (z_m (q_I M 109) 2) + 6 < 4764 := by omega
          have hx : f_X12_more (q_sI (q_sI (q_sI (q_sI (q_sI (q_sI (q_sI M2 109 (1300 + 7 * (z_m (q_I M 109) 2)) p1) 109 (1300 + 7 * (z_m (q_I M 109) 2) + 1) p2) 109 (1300 + 7 * (z_m (q_I M 109) 2) + 2) p3) 109 (1300 + 7 * (z_m (q_I M 109) 2) + 3) p4) 109 (1300 + 7 * (z_m (q_I M 109) 2) + 4) p5) 109 (1300 + 7 * (z_m (q_I M 109) 2) + 5) (-1 : Int32)) 109 (1300 + 7 * (z_m (q_I M 109) 2) + 6) (-1 : Int32)) 108 (2 : Int32) = some (nI (z_m (q_I M 109) 2), (q_sI (q_sI (q_sI (q_sI (q_sI (q_sI (q_sI (q_sI M2 109 (1300 + 7 * (z_m (q_I M 109) 2)) p1) 109 (1300 + 7 * (z_m (q_I M 109) 2) + 1) p2) 109 (1300 + 7 * (z_m (q_I M 109) 2) + 2) p3) 109 (1300 + 7 * (z_m (q_I M 109) 2) + 3) p4) 109 (1300 + 7 * (z_m (q_I M 109) 2) + 4) p5) 109 (1300 + 7 * (z_m (q_I M 109) 2) + 5) (-1 : Int32)) 109 (1300 + 7 * (z_m (q_I M 109) 2) + 6) (-1 : Int32)) 109 2 (nI ((z_m (q_I M 109) 2) + 1)))) := z_more (j := 2) hL2 (by decide) (by rw [z_I_sI, if_neg (by omega), z_I_sI, if_neg (by omega), z_I_sI, if_neg (by omega), z_I_sI, if_neg (by omega), z_I_sI, if_neg (by omega), z_I_sI, if_neg (by omega), z_I_sI, if_neg (by omega), s9, hcn])
          simp only [f_X12_test_b44, z_m_in, Option.bind_some, z_b0, g5, and_self, if_true, gr, hL2, L1, L2, L3, L4, L5, L6, L7, g, ne, if_false, e0, e1, e2, e3, e4, e5, e6, pt, k0, k1, k2, k3, k4, k5, k6, hx]
        · refine z_Inv_come (t := 2) (fun j => if j = 3 then p4 else if j = 4 then p5 else z_row p1 p2 p3 j) (by decide) (by decide) (by decide) hi hlt hF2 d4 ⟨rfl, rfl, rfl⟩ (fun b hb => ?_) (fun k => ?_) (fun hr hmo => ?_)
          · rw [q_sI_ne hb, q_sI_ne hb, q_sI_ne hb, q_sI_ne hb, q_sI_ne hb, q_sI_ne hb, q_sI_ne hb, q_sI_ne hb]
          · rw [z_w7 _ _ _ _ _ _ _ _ _ (show 2 < 1300 + 7 * (z_m (q_I M 109) 2) by omega), s9]
            rfl
          · have v0 : _ = p1 := hr 0 (by decide)
            have v1 : _ = p2 := hr 1 (by decide)
            have v2 : _ = p3 := hr 2 (by decide)
            have v3 : _ = p4 := hr 3 (by decide)
            have v4 : _ = p5 := hr 4 (by decide)
            have v5 : _ = (-1 : Int32) := hr 5 (by decide)
            have v6 : _ = (-1 : Int32) := hr 6 (by decide)
            generalize q_I (q_sI (q_sI (q_sI (q_sI (q_sI (q_sI (q_sI (q_sI M2 109 (1300 + 7 * (z_m (q_I M 109) 2)) p1) 109 (1300 + 7 * (z_m (q_I M 109) 2) + 1) p2) 109 (1300 + 7 * (z_m (q_I M 109) 2) + 2) p3) 109 (1300 + 7 * (z_m (q_I M 109) 2) + 3) p4) 109 (1300 + 7 * (z_m (q_I M 109) 2) + 4) p5) 109 (1300 + 7 * (z_m (q_I M 109) 2) + 5) (-1 : Int32)) 109 (1300 + 7 * (z_m (q_I M 109) 2) + 6) (-1 : Int32)) 109 2 (nI ((z_m (q_I M 109) 2) + 1))) 109 = st at *
            have v0 : st (1300 + 7 * (z_m (q_I M 109) 2)) = p1 := v0
            have v1 : st (1300 + 7 * (z_m (q_I M 109) 2) + 1) = p2 := v1
            have v2 : st (1300 + 7 * (z_m (q_I M 109) 2) + 2) = p3 := v2
            have v3 : st (1300 + 7 * (z_m (q_I M 109) 2) + 3) = p4 := v3
            have v4 : st (1300 + 7 * (z_m (q_I M 109) 2) + 4) = p5 := v4
            have v5 : st (1300 + 7 * (z_m (q_I M 109) 2) + 5) = (-1 : Int32) := v5
            have v6 : st (1300 + 7 * (z_m (q_I M 109) 2) + 6) = (-1 : Int32) := v6
            obtain ⟨q1, q2, q3, q4⟩ := hg
            obtain ⟨_, _, hm0, _⟩ := zt_0 hi
            refine ⟨?_, ?_, ?_, ?_, ?_, ?_⟩
            · rw [v0]; exact (z_id_of q1 (by omega)).mono (hmo 0 (by decide))
            · rw [v1]; exact z_bt_of q2 rfl rfl
            · rw [v2]; exact z_bt_of q3 rfl rfl
            · rw [v3]; exact q4.imp id (fun z => z_bt_of z rfl rfl)
            · rw [v4]; exact ⟨by have := q2.1; have e : (0 : Int32).toInt = 0 := rfl; omega, g5.2⟩
            · rw [v5, v6]; exact Or.inl ⟨rfl, rfl⟩
    · refine ⟨-2, M, M, ?_, ?_, hi⟩
      · rw [(z_test_c hi p1 p2 p3 p4 p5).1 hg]
        simp only [f_X11_test_b53, z_c_within, Option.bind_some, z_b0, g5, if_false]
      · rw [(z_test_m hi hL rfl p1 p2 p3 p4 p5).1 hg]
        simp only [f_X12_test_b44, z_m_in, Option.bind_some, z_b0, g5, if_false]
  · exact ⟨-2, M, M, (z_test_c hi p1 p2 p3 p4 p5).2 hg, (z_test_m hi hL rfl p1 p2 p3 p4 p5).2 hg, hi⟩
theorem z_box_it {M : q_Mem} {o n : Nat} (hL : z_Lay M) (ho : o + 5 ≤ 4764) : f_X12_box_b48 108 (nI o) (n + 5) 1 M = (f_X12_more (q_sI (q_sI (q_sI (q_sI M 109 (o + 1) (-1)) 109 (o + 2) (-1)) 109 (o + 3) (-1)) 109 (o + 4) (-1)) 108 (4 : Int32)).bind fun r => some (r.1, r.2) := by
  have gr : ∀ M3 : q_Mem, z_Lay M3 → q_gR 11 0 M3 108 = some 109 := fun M3 h => (zo_108 h).2.2.2.2.2.1
  have pt : ∀ (M3 : q_Mem) (k : Nat) (v : Int32), z_Lay M3 → k < 4764 → q_tI M3 109 (nI k) v = some (q_sI M3 109 k v) := fun M3 k v h hk => z_st_put h hk
  have L1 : z_Lay (q_sI M 109 (o + 1) (-1)) := hL
  have L2 : z_Lay (q_sI (q_sI M 109 (o + 1) (-1)) 109 (o + 2) (-1)) := hL
  have L3 : z_Lay (q_sI (q_sI (q_sI M 109 (o + 1) (-1)) 109 (o + 2) (-1)) 109 (o + 3) (-1)) := hL
  have e1 : nI o + (1 : Int32) = nI (o + 1) := by rw [show (1 : Int32) = nI 1 from rfl, nI_add]
  have e2 : nI o + (2 : Int32) = nI (o + 2) := by rw [show (2 : Int32) = nI 2 from rfl, nI_add]
  have e3 : nI o + (3 : Int32) = nI (o + 3) := by rw [show (3 : Int32) = nI 3 from rfl, nI_add]
  have e4 : nI o + (4 : Int32) = nI (o + 4) := by rw [show (4 : Int32) = nI 4 from rfl, nI_add]
  rw [f_X12_box_b48.eq_2, if_pos (by decide), gr _ hL, Option.bind_some, e1, pt _ _ _ hL (by omega), Option.bind_some, show (1 : Int32) + 1 = 2 from rfl]
  rw [f_X12_box_b48.eq_2, if_pos (by decide), gr _ L1, Option.bind_some, e2, pt _ _ _ L1 (by omega), Option.bind_some, show (2 : Int32) + 1 = 3 from rfl]
  rw [f_X12_box_b48.eq_2, if_pos (by decide), gr _ L2, Option.bind_some, e3, pt _ _ _ L2 (by omega), Option.bind_some, show (3 : Int32) + 1 = 4 from rfl]
  rw [f_X12_box_b48.eq_2, if_pos (by decide), gr _ L3, Option.bind_some, e4, pt _ _ _ L3 (by omega), Option.bind_some, show (4 : Int32) + 1 = 5 from rfl]
  rw [f_X12_box_b48.eq_2, if_neg (by decide)]
theorem Z_box_ok : Z_box := by
  intro M p1 hi
  have hL := hi.1
  obtain ⟨R, h3, hm, hcn⟩ := zt_4 hi
  obtain ⟨R3, h33, hm3, hcn3⟩ := zt_3 hi
  have hh := z_has (x := p1) R3 h33 hm3
  have hs : f_X12_is M 108 (3 : Int32) p1 = some (q_b (0 ≤ p1.toInt ∧ p1.toInt < (z_m (q_I M 109) 3 : Int))) := z_m_is (t := 0) (j := 3) hL (by decide) hcn3 (by omega)
  by_cases hg : 0 ≤ p1.toInt ∧ p1.toInt < (z_m (q_I M 109) 3 : Int)
  · by_cases hf : z_m (q_I M 109) 4 = 100
    · have cf := fun a b d => z_come_full (a := a) (b := b) (d := d) R (by rw [h3, hf])
      have mf : q_lI M 109 (4 : Int32) = some (100 : Int32) := by rw [show (4 : Int32) = nI 4 from rfl, z_st_lit hL (by decide), hcn, hf]; rfl
      refine ⟨-4, M, M, ?_, ?_, hi⟩
      · simp only [f_X11_box, zob_0 hL, zo_0 hL, zo_1 hL, hh, Option.bind_some, z_b0, hg, and_self, if_true, cf]
      · simp only [f_X12_box, zob_108 hL, zo_108 hL, hs, Option.bind_some, z_b0, hg, and_self, if_true, mf]
    · have hlt : z_m (q_I M 109) 4 < 100 := by omega
      obtain ⟨M1, c1, c2, c3, c4⟩ := z_come_in (a := p1) (b := -1) (d := -1) R h3 hlt
      have hL1 : z_Lay M1 := c2.lay hL
      have s9 : ∀ k, q_I M1 109 k = q_I M 109 k := fun k => by rw [c4, if_neg (by omega), if_neg (by omega)]
      have hs1 : f_X12_is M1 108 (3 : Int32) p1 = some (q_b (0 ≤ p1.toInt ∧ p1.toInt < (z_m (q_I M 109) 3 : Int))) := z_m_is (t := 0) (j := 3) hL1 (by decide) ((s9 _).trans hcn3) (by omega)
      refine ⟨nI (z_m (q_I M 109) 4), M1, (q_sI (q_sI (q_sI (q_sI (q_sI (q_sI M1 109 (2820 + 5 * (z_m (q_I M 109) 4)) p1) 109 (2820 + 5 * (z_m (q_I M 109) 4) + 1) (-1 : Int32)) 109 (2820 + 5 * (z_m (q_I M 109) 4) + 2) (-1 : Int32)) 109 (2820 + 5 * (z_m (q_I M 109) 4) + 3) (-1 : Int32)) 109 (2820 + 5 * (z_m (q_I M 109) 4) + 4) (-1 : Int32)) 109 4 (nI ((z_m (q_I M 109) 4) + 1))), ?_, ?_, ?_⟩
      · simp only [f_X11_box, zob_0 hL, zo_0 hL, zo_1 hL, hh, Option.bind_some, z_b0, hg, and_self, if_true, c1]
      · have e0 : (2820 : Int32) + (5 : Int32) * nI (z_m (q_I M 109) 4) = nI (2820 + 5 * (z_m (q_I M 109) 4)) := by rw [show (5 : Int32) = nI 5 from rfl, pk_mul, show (2820 : Int32) = nI 2820 from rfl, nI_add]
        have ne : (nI (z_m (q_I M 109) 4) = (100 : Int32)) = False := eq_false (fun z => hf ((z_full (n := 100) (by omega) (by decide)).mp z))
        have g : q_lI M1 109 (4 : Int32) = some (nI (z_m (q_I M 109) 4)) := by rw [show (4 : Int32) = nI 4 from rfl, z_st_lit hL1 (by decide), s9, hcn]
        have k0 : 2820 + 5 * (z_m (q_I M 109) 4) < 4764 := by omega
        have L1 : z_Lay (q_sI M1 109 (2820 + 5 * (z_m (q_I M 109) 4)) p1) := hL1
        have pt : q_tI M1 109 (nI (2820 + 5 * (z_m (q_I M 109) 4))) p1 = some (q_sI M1 109 (2820 + 5 * (z_m (q_I M 109) 4)) p1) := z_st_put hL1 k0
        have hit := z_box_it (n := 4194299) L1 (show 2820 + 5 * (z_m (q_I M 109) 4) + 5 ≤ 4764 by omega)
        have hx : f_X12_more (q_sI (q_sI (q_sI (q_sI (q_sI M1 109 (2820 + 5 * (z_m (q_I M 109) 4)) p1) 109 (2820 + 5 * (z_m (q_I M 109) 4) + 1) (-1 : Int32)) 109 (2820 + 5 * (z_m (q_I M 109) 4) + 2) (-1 : Int32)) 109 (2820 + 5 * (z_m (q_I M 109) 4) + 3) (-1 : Int32)) 109 (2820 + 5 * (z_m (q_I M 109) 4) + 4) (-1 : Int32)) 108 (4 : Int32) = some (nI (z_m (q_I M 109) 4), (q_sI (q_sI (q_sI (q_sI (q_sI (q_sI M1 109 (2820 + 5 * (z_m (q_I M 109) 4)) p1) 109 (2820 + 5 * (z_m (q_I M 109) 4) + 1) (-1 : Int32)) 109 (2820 + 5 * (z_m (q_I M 109) 4) + 2) (-1 : Int32)) 109 (2820 + 5 * (z_m (q_I M 109) 4) + 3) (-1 : Int32)) 109 (2820 + 5 * (z_m (q_I M 109) 4) + 4) (-1 : Int32)) 109 4 (nI ((z_m (q_I M 109) 4) + 1)))) := z_more (j := 4) hL1 (by decide) (by rw [z_I_sI, if_neg (by omega), z_I_sI, if_neg (by omega), z_I_sI, if_neg (by omega), z_I_sI, if_neg (by omega), z_I_sI, if_neg (by omega), s9, hcn])
        rw [hx, show 4194299 + 5 = q_fuel from rfl] at hit
        simp only [f_X12_box, zob_108 hL1, zo_108 hL1, hs1, Option.bind_some, z_b0, hg, and_self, if_true, g, ne, if_false, e0, pt, hit]
      · refine z_Inv_come (t := 4) (z_row p1 (-1) (-1)) (by decide) (by decide) (by decide) hi hlt c2 c4 ⟨rfl, rfl, rfl⟩ (fun b hb => ?_) (fun k => ?_) (fun hr hmo => ?_)
        · rw [q_sI_ne hb, q_sI_ne hb, q_sI_ne hb, q_sI_ne hb, q_sI_ne hb, q_sI_ne hb]
        · rw [z_w5 _ _ _ _ _ (show 4 < 2820 + 5 * (z_m (q_I M 109) 4) by omega), s9]
          rfl
        · have v0 : _ = p1 := hr 0 (by decide)
          have v1 : _ = (-1 : Int32) := hr 1 (by decide)
          have v2 : _ = (-1 : Int32) := hr 2 (by decide)
          have v3 : _ = (-1 : Int32) := hr 3 (by decide)
          have v4 : _ = (-1 : Int32) := hr 4 (by decide)
          generalize q_I (q_sI (q_sI (q_sI (q_sI (q_sI (q_sI M1 109 (2820 + 5 * (z_m (q_I M 109) 4)) p1) 109 (2820 + 5 * (z_m (q_I M 109) 4) + 1) (-1 : Int32)) 109 (2820 + 5 * (z_m (q_I M 109) 4) + 2) (-1 : Int32)) 109 (2820 + 5 * (z_m (q_I M 109) 4) + 3) (-1 : Int32)) 109 (2820 + 5 * (z_m (q_I M 109) 4) + 4) (-1 : Int32)) 109 4 (nI ((z_m (q_I M 109) 4) + 1))) 109 = st at *
          have v0 : st (2820 + 5 * (z_m (q_I M 109) 4)) = p1 := v0
          have v1 : st (2820 + 5 * (z_m (q_I M 109) 4) + 1) = (-1 : Int32) := v1
          have v2 : st (2820 + 5 * (z_m (q_I M 109) 4) + 2) = (-1 : Int32) := v2
          have v3 : st (2820 + 5 * (z_m (q_I M 109) 4) + 3) = (-1 : Int32) := v3
          have v4 : st (2820 + 5 * (z_m (q_I M 109) 4) + 4) = (-1 : Int32) := v4
          refine ⟨?_, ?_, ?_, ?_⟩
          · rw [v0]; exact (z_id_of hg (by omega)).mono (hmo 3 (by decide))
          · rw [v1, v2]; exact Or.inl ⟨rfl, rfl⟩
          · rw [v3]; exact ⟨by decide, by decide⟩
          · rw [v4]; exact ⟨by decide, by decide⟩
  · refine ⟨-2, M, M, ?_, ?_, hi⟩
    · simp only [f_X11_box, zob_0 hL, zo_0 hL, zo_1 hL, hh, Option.bind_some, z_b0, hg, if_false, if_true]
    · simp only [f_X12_box, zob_108 hL, hs, Option.bind_some, z_b0, hg, if_false, if_true]
