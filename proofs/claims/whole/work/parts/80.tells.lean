/-! ===== tells ===== -/
theorem zs_goes {Y : q_Mem} {S : Nat} {sem : z_Sem} (hL : z_Lay Y) (h4 : q_I Y 108 4 = nI S) (hS : S ≤ 125) (hR : z_Run (q_I Y 113) (q_I Y 114) (q_I Y 115) 0 S sem) : ∃ Y', f_X12_goes Y 108 = some (if (sem (q_J Y 119)).2 = true then (0 : Int32) else 1, Y') ∧ z_vk 0 Y Y' ∧ ((sem (q_J Y 119)).2 = false → q_J Y' 121 0 = (sem (q_J Y 119)).1) := by
  have L1 : z_Lay (q_sI Y 108 18 0) := z_L1 hL
  have e18 : q_I (q_sI Y 108 18 0) 108 18 = nI 0 := by rw [z_I_sI, if_pos ⟨rfl, rfl⟩]; rfl
  have e4 : q_I (q_sI Y 108 18 0) 108 4 = nI S := by rw [z_I_sI, if_neg (by omega)]; exact h4
  have hVM : z_VM (q_I Y 113) (q_I Y 114) (q_I Y 115) S 0 S 0 (q_sI Y 108 18 0) := ⟨L1, e4, Nat.le_refl _, by omega, fun j _ _ => ⟨by rw [q_sI_ne (by decide)], by rw [q_sI_ne (by decide)], by rw [q_sI_ne (by decide)]⟩, e18, by omega⟩
  obtain ⟨M', k, hk, st, vk, f18, x122, j121⟩ := hR.2 S 0 _ hVM
  have hM' := vk.1.lay L1
  have e4' : q_I M' 108 4 = nI S := by rw [vk.2.2.1 4 (by decide)]; exact e4
  have hn : (nI S < nI S) = False := eq_false (nI_nlt (Nat.le_refl _) (by omega))
  have eJ : q_J (q_sI Y 108 18 0) = q_J Y := rfl
  rw [eJ] at x122 j121
  have run : f_X12_goes_b7 108 q_fuel (0 : Int32) (q_sI Y 108 18 0) = some (if (sem (q_J Y 119)).2 = true then (0 : Int32) else 1, M') := by
    have h1 : f_X12_goes_b7 108 q_fuel (nI 0) (q_sI Y 108 18 0) = f_X12_goes_b7 108 (q_fuel - k - 1 + 1) (nI S) M' := by
      have h2 := st (q_fuel - k)
      have hq : q_fuel = 4194304 := rfl
      rw [show q_fuel - k + k = q_fuel by omega] at h2
      rw [h2, show q_fuel - k - 1 + 1 = q_fuel - k by omega]
    have h3 : f_X12_goes_b7 108 (q_fuel - k - 1 + 1) (nI S) M' = some (if (sem (q_J Y 119)).2 = true then (0 : Int32) else 1, M') := by
      rw [f_X12_goes_b7.eq_2]
      have l0 : q_lZ M' 122 (0 : Int32) = some (q_I M' 122 0) := (za_122 hM').2.1 0 (by decide)
      simp only [f_X12_goes_b102, zo_108 hM', e4', Option.bind_some, hn, if_false, l0, x122]
      cases (sem (q_J Y 119)).2 <;> rfl
    exact h1.trans h3
  refine ⟨M', ?_, z_vk.f18.tr vk (Nat.le_refl _), j121⟩
  simp only [f_X12_goes, zob_108 hL, zo_108 hL, Option.bind_some, run]
theorem z_vk_sm {n : Nat} {M M' : q_Mem} (h : z_vk n M M') : z_sm M M' := ⟨h.1, fun a ha => h.2.1 a (fun z => by rw [z] at ha; unfold z_core at ha; omega) (fun z => by rw [z] at ha; unfold z_core at ha; omega)⟩
theorem z_nk_sm {M M' : q_Mem} (h : z_nk M M') : z_sm M M' := ⟨h.1, fun a ha => by rw [h.2.1]⟩
theorem z_G_sm {M Mg : q_Mem} {fk : Nat → Int64} {rt : Nat → Int32} {wk : Int32} (h : z_G M Mg fk rt wk) : z_sm M Mg := ⟨h.1, fun a ha => h.2.1 a (fun z => by unfold z_ga at z; unfold z_core at ha; omega) (fun z => by rw [z] at ha; exact z_nc79 ha)⟩
theorem Z_tells_ok : Z_tells := by
  intro M p1 p2 p3 p4 hi
  have hL := hi.1
  obtain ⟨R, h3⟩ := zt_5 hi
  obtain ⟨R0, h30, hm0, hcn0⟩ := zt_0 hi
  have hh := z_has (x := p1) R h3 (Nat.le_refl 6)
  have hh0 := z_has (x := p2) R0 h30 hm0
  have hs0 : ∀ M1, z_Lay M1 → q_I M1 109 = q_I M 109 → f_X12_is M1 108 (0 : Int32) p2 = some (q_b (0 ≤ p2.toInt ∧ p2.toInt < (z_m (q_I M 109) 0 : Int))) := fun M1 a b => z_m_is (t := 0) (j := 0) a (by decide) (by rw [b]; exact hcn0) (by omega)
  by_cases g0 : 0 ≤ p1.toInt ∧ p1.toInt < ((6 : Nat) : Int)
  · by_cases g1 : 0 ≤ p2.toInt ∧ p2.toInt < (z_m (q_I M 109) 0 : Int)
    · by_cases g2 : (0 : Int32).toInt ≤ p3.toInt ∧ p3.toInt ≤ (27 : Int32).toInt
      · by_cases g3 : (0 : Int32).toInt ≤ p4.toInt ∧ p4.toInt ≤ (195 : Int32).toInt
        · obtain ⟨i, hj, rfl⟩ := z_of g0 (by omega)
          obtain ⟨f, hf, rfl⟩ := z_of g1 (by omega)
          obtain ⟨n, M1, hn, e0, l1, s1, f1, j1, l81, l82⟩ := zs_loadText hi hj
          have hi1 := hi.sm s1
          have L1 := hi1.1
          have e91 := z_inv9 s1
          obtain ⟨Mg, fk, pg, hG, hfat⟩ := zs_gather hi1 p3 p4
          have sg := z_G_sm hG
          have Lg := sg.1.lay L1
          have hf1 : f < z_m (q_I M1 109) 0 := by rw [e91]; exact hf
          obtain ⟨Mn, pn, Fn, In, Jn, kn⟩ := zs_nameFor hi1 hG hf1 (Mx := Mg) sg (fun _ _ => rfl) rfl
          have sn : z_sm Mg Mn := ⟨Fn, fun a _ => by rw [In]⟩
          have Ln := Fn.lay Lg
          have a81 : q_I Mn 81 1 = nI n := by rw [In, hG.2.1 81 (by unfold z_ga; omega) (by decide)]; exact l81
          have a82 : ∀ j, j < n → q_I Mn 82 j = nI (z_ct (q_I M 109) (3320 + 61 * i) n j) ∧ z_ct (q_I M 109) (3320 + 61 * i) n j < 128 := fun j hj2 => by
            rw [In, hG.2.1 82 (by unfold z_ga; omega) (by decide)]; exact l82 j hj2
          have hT : ∀ ν : Nat → Int64, (∀ k, k < 8 → q_J Mn 83 k = ν k) → z_tx0 ν Mn n (z_ct (q_I M 109) (3320 + 61 * i) n) := fun ν h => ⟨Ln, hn, a81, a82, h⟩
          obtain ⟨Mc, r1, r2⟩ := zs_read (hT (q_J Mn 83) (fun _ _ => rfl))
          have sc := z_fin_sm r2.1
          have sAll := ((s1.tr sg).tr sn).tr sc
          have hic := hi.sm sAll
          have Lc := hic.1
          have e9c := z_inv9 sAll
          have hM : z_txM Mc (3320 + 61 * i) n (z_ct (q_I M 109) (3320 + 61 * i) n) := ⟨Lc, hn, by omega, by rw [e9c]; exact e0, fun j hj2 => by rw [e9c]; exact z_ct_ok (z_tx hi hj) e0 hn j hj2⟩
          obtain ⟨Mr, q1, q2⟩ := zs_readsM hM
          have q1' : f_X12_reads Mc 108 ((3320 : Int32) + (61 : Int32) * nI i) = some ((z_gP n (z_ct (q_I M 109) (3320 + 61 * i) n) (n + 1) 0 [] none).1, Mr) := by rw [z_ix0_5]; exact q1
          have sr := z_mfin_sm q2.1
          have hir := hic.sm sr
          by_cases gE : (z_gP n (z_ct (q_I M 109) (3320 + 61 * i) n) (n + 1) 0 [] none).1 = -1
          · obtain ⟨S, hS4, hS5, hRun⟩ := q2.2 gE
            rw [gE] at r1 q1'
            have Lr := hir.1
            have e9r : q_I Mr 109 = q_I M1 109 := ((z_inv9 sr).trans e9c).trans e91.symm
            obtain ⟨M2, pf, F2, I2, J2, k2⟩ := zs_find2 hi1 Lr e9r p4
            have L2 := F2.lay Lr
            have rm : z_RM M1 M2 (z_rt M1 p4) := ⟨L2, (I2 109 (by decide)).trans e9r, k2⟩
            obtain ⟨Y, py, ky, ny⟩ := zs_findNames hi1 rm hfat (wk := p3) hf1
            have LY := ky.1.lay L2
            have y4 : q_I Y 108 4 = nI S := by rw [ky.2.1, I2 108 (by decide)]; exact hS4
            have yR : z_Run (q_I Y 113) (q_I Y 114) (q_I Y 115) 0 S (z_gP n (z_ct (q_I M 109) (3320 + 61 * i) n) (n + 1) 0 [] none).2 := by
              rw [ky.2.1, I2 113 (by decide), I2 114 (by decide), I2 115 (by decide)]; exact hRun
            obtain ⟨Yg, pY, vY, jY⟩ := zs_goes LY y4 hS5 yR
            -- the class read with the same names
            obtain ⟨Mc2, t1, t2⟩ := zs_read (hT (q_J Y 119) (fun k hk => by rw [kn k hk, ny k hk]))
            rw [gE, r1] at t1
            obtain rfl : Mc = Mc2 := (Prod.mk.inj (Option.some.inj t1)).2
            obtain ⟨tn, tv⟩ := t2.2 gE
            have sY : z_sm Mr Yg := (show z_sm Mr M2 from ⟨F2, fun a ha => I2 a (fun z => by rw [z] at ha; exact z_nc112 ha)⟩).tr ((z_nk_sm ky).tr (z_vk_sm vY))
            have LYg := sY.1.lay Lr
            have v0 : q_lJ Yg 121 (0 : Int32) = some (q_J Yg 121 0) := (za_121 LYg).2.1 0 (by decide)
            cases hnone : ((z_gP n (z_ct (q_I M 109) (3320 + 61 * i) n) (n + 1) 0 [] none).2 (q_J Y 119)).2 with
            | true =>
              rw [hnone] at tn pY
              refine ⟨-1000000000000000000, Mc, Yg, ?_, ?_, hir.sm sY⟩
              · simp only [f_X11_tells, zob_0 hL, zo_0 hL, zo_1 hL, hh, hh0, z_c_isWeek, z_c_isDay, Option.bind_some, z_b0, g0, g1, g2, g3, and_self, if_true, l1, zo_0 L1, pg, zo_0 Lg, pn, zo_0 Ln, r1, zo_0 Lc, zo_81 Lc, tn, show (z_bi true = 0) = False by decide, if_false]
              · simp only [f_X12_tells, zob_108 Lc, z_m_isText, hs0 Mc Lc e9c, z_m_isWeek, z_m_isDay, Option.bind_some, z_b0, g0, g1, g2, g3, and_self, if_true, q1', pf, py, pY]
            | false =>
              rw [hnone] at tn pY
              refine ⟨((z_gP n (z_ct (q_I M 109) (3320 + 61 * i) n) (n + 1) 0 [] none).2 (q_J Y 119)).1, Mc, Yg, ?_, ?_, hir.sm sY⟩
              · simp only [f_X11_tells, zob_0 hL, zo_0 hL, zo_1 hL, hh, hh0, z_c_isWeek, z_c_isDay, Option.bind_some, z_b0, g0, g1, g2, g3, and_self, if_true, l1, zo_0 L1, pg, zo_0 Lg, pn, zo_0 Ln, r1, zo_0 Lc, zo_81 Lc, tn, show (z_bi false = 0) = True by decide, tv]
              · have pY' : f_X12_goes Y 108 = some ((1 : Int32), Yg) := pY
                simp only [f_X12_tells, zob_108 Lc, z_m_isText, hs0 Mc Lc e9c, z_m_isWeek, z_m_isDay, Option.bind_some, z_b0, g0, g1, g2, g3, and_self, if_true, q1', pf, py, pY', show ((1 : Int32) = 0) = False by decide, if_false, zo_108 LYg, v0, jY hnone]
          · refine ⟨-3000000000000000000, Mc, Mr, ?_, ?_, hir⟩
            · simp only [f_X11_tells, zob_0 hL, zo_0 hL, zo_1 hL, hh, hh0, z_c_isWeek, z_c_isDay, Option.bind_some, z_b0, g0, g1, g2, g3, and_self, if_true, l1, zo_0 L1, pg, zo_0 Lg, pn, zo_0 Ln, r1, gE, if_false]
            · simp only [f_X12_tells, zob_108 Lc, z_m_isText, hs0 Mc Lc e9c, z_m_isWeek, z_m_isDay, Option.bind_some, z_b0, g0, g1, g2, g3, and_self, if_true, q1', gE, if_false]
        · refine ⟨-2000000000000000000, M, M, ?_, ?_, hi⟩
          · simp only [f_X11_tells, zob_0 hL, zo_0 hL, zo_1 hL, hh, hh0, z_c_isWeek, z_c_isDay, Option.bind_some, z_b0, g0, g1, g2, g3, and_self, if_true, if_false]
          · simp only [f_X12_tells, zob_108 hL, z_m_isText, hs0 M hL rfl, z_m_isWeek, z_m_isDay, Option.bind_some, z_b0, g0, g1, g2, g3, and_self, if_true, if_false]
      · refine ⟨-2000000000000000000, M, M, ?_, ?_, hi⟩
        · simp only [f_X11_tells, zob_0 hL, zo_0 hL, zo_1 hL, hh, hh0, z_c_isWeek, z_c_isDay, Option.bind_some, z_b0, g0, g1, g2, and_self, if_true, if_false]
        · simp only [f_X12_tells, zob_108 hL, z_m_isText, hs0 M hL rfl, z_m_isWeek, z_m_isDay, Option.bind_some, z_b0, g0, g1, g2, and_self, if_true, if_false]
    · refine ⟨-2000000000000000000, M, M, ?_, ?_, hi⟩
      · simp only [f_X11_tells, zob_0 hL, zo_0 hL, zo_1 hL, hh, hh0, Option.bind_some, z_b0, g0, g1, and_self, if_true, if_false]
      · simp only [f_X12_tells, zob_108 hL, z_m_isText, hs0 M hL rfl, Option.bind_some, z_b0, g0, g1, and_self, if_true, if_false]
  · refine ⟨-2000000000000000000, M, M, ?_, ?_, hi⟩
    · simp only [f_X11_tells, zob_0 hL, zo_0 hL, zo_1 hL, hh, Option.bind_some, z_b0, g0, if_false]
    · simp only [f_X12_tells, zob_108 hL, z_m_isText, Option.bind_some, z_b0, g0, if_false]
