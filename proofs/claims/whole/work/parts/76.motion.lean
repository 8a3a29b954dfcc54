/-! ===== fault, motion ===== -/
theorem zq_load {M : q_Mem} (hL : z_Lay M) {r cc w mx m i col len : Nat} (R : z_R M r cc w mx) (h3 : q_I M r 3 = nI m) (hm : m ≤ mx) (hi : i < m) (hcol : col + 61 ≤ w) (hlen : len ≤ 60) (hr : r ≠ 82) (hcc : cc ≠ 82) (h81 : q_I M 81 1 = nI len) : ∀ (d k fu : Nat) (M1 : q_Mem), k + d = len → d < fu → z_FR M M1 → (∀ a, a ≠ 82 → q_I M1 a = q_I M a) → q_J M1 = q_J M → (∀ j, j < k → q_I M1 82 j = q_I M cc (w * i + (col + 1 + j))) → ∃ M2, f_X8_load_b25 81 r (nI i) (nI col) fu (nI k) M1 = some M2 ∧ z_FR M M2 ∧ (∀ a, a ≠ 82 → q_I M2 a = q_I M a) ∧ q_J M2 = q_J M ∧ ∀ j, j < len → q_I M2 82 j = q_I M cc (w * i + (col + 1 + j)) := by
  intro d
  induction d with
  | zero =>
    intro k fu M1 hd hf hF hI hJ hk
    obtain ⟨g, rfl⟩ : ∃ g, fu = g + 1 := ⟨fu - 1, by omega⟩
    obtain rfl : k = len := by omega
    have hL1 := hF.lay hL
    have e81 : q_I M1 81 1 = nI k := by rw [hI 81 (by decide)]; exact h81
    have hn : (nI k < nI k) = False := eq_false (nI_nlt (Nat.le_refl _) (by omega))
    simp only [f_X8_load_b25.eq_2, zo_81 hL1, e81, Option.bind_some, hn, if_false]
    exact ⟨M1, rfl, hF, hI, hJ, hk⟩
  | succ d ih =>
    intro k fu M1 hd hf hF hI hJ hk
    obtain ⟨g, rfl⟩ : ∃ g, fu = g + 1 := ⟨fu - 1, by omega⟩
    have hL1 := hF.lay hL
    have e81 : q_I M1 81 1 = nI len := by rw [hI 81 (by decide)]; exact h81
    have hn : (nI k < nI len) = True := eq_true (nI_lt (by omega) (by omega))
    have hn2 : (nI k < nI 60) = True := eq_true (nI_lt (by omega) (by omega))
    have R1 := R.keep hF (by rw [hI r hr]) (by rw [hI r hr])
    have e3 : q_I M1 r 3 = nI m := by rw [hI r hr]; exact h3
    have ix : nI col + (1 : Int32) + nI k = nI (col + 1 + k) := by rw [show (1 : Int32) = nI 1 from rfl, nI_add, nI_add]
    have ix' : nI (col + 1) + nI k = nI (col + 1 + k) := by rw [nI_add]
    have rd := z_at_in R1 e3 hm hi (show col + 1 + k < w by omega)
    have ec : q_I M1 cc = q_I M cc := hI cc hcc
    rw [ec] at rd
    simp only [f_X8_load_b25.eq_2, zo_81 hL1, e81, Option.bind_some, hn, if_true, (za_82 hL1).1, hn2, ix, ix', rd, (za_82 hL1).2.2 k _ (show k < 60 by omega), ← nI_succ]
    refine ih (k + 1) g _ (by omega) (by omega) (hF.tr ⟨rfl, rfl, rfl⟩) (fun a ha => by rw [q_sI_ne ha]; exact hI a ha) hJ (fun j hj => ?_)
    rw [z_I_sI]
    by_cases e : j = k
    · subst e
      rw [if_pos ⟨rfl, rfl⟩]
    · rw [if_neg (fun z => e z.2)]; exact hk j (by omega)
theorem zs_load {M : q_Mem} (hL : z_Lay M) {r cc w mx m i col len : Nat} (R : z_R M r cc w mx) (h3 : q_I M r 3 = nI m) (hm : m ≤ mx) (hi : i < m) (hcol : col + 61 ≤ w) (hlen : len ≤ 60) (hr : r ≠ 82 ∧ r ≠ 81) (hcc : cc ≠ 82 ∧ cc ≠ 81) (hl : q_I M cc (w * i + col) = nI len) : ∃ M2, f_X8_load M 81 r (nI i) (nI col) = some M2 ∧ z_FR M M2 ∧ (∀ a, a ≠ 81 → a ≠ 82 → q_I M2 a = q_I M a) ∧ (∀ f, f ≠ 1 → q_I M2 81 f = q_I M 81 f) ∧ q_J M2 = q_J M ∧ q_I M2 81 1 = nI len ∧ ∀ j, j < len → q_I M2 82 j = q_I M cc (w * i + (col + 1 + j)) := by
  have L1 : z_Lay (q_sI M 81 1 (nI len)) := z_L1 hL
  have R1 : z_R (q_sI M 81 1 (nI len)) r cc w mx := R.keep z_FR.sI (by rw [q_sI_ne hr.2]) (by rw [q_sI_ne hr.2])
  have e3 : q_I (q_sI M 81 1 (nI len)) r 3 = nI m := by rw [q_sI_ne hr.2]; exact h3
  have e81 : q_I (q_sI M 81 1 (nI len)) 81 1 = nI len := by rw [z_I_sI, if_pos ⟨rfl, rfl⟩]
  obtain ⟨M2, r1, r2, r4, r5, r6⟩ := zq_load L1 R1 e3 hm hi hcol hlen hr.1 hcc.1 e81 len 0 q_fuel _ (by omega) (z_fu (by omega)) z_FR.rf (fun _ _ => rfl) rfl (fun j hj => absurd hj (Nat.not_lt_zero _))
  have r1' : f_X8_load_b25 81 r (nI i) (nI col) q_fuel (0 : Int32) (q_sI M 81 1 (nI len)) = some M2 := r1
  have rd := z_at_in R h3 hm hi (show col < w by omega)
  rw [hl] at rd
  have e1 : q_mi (nI 60) (nI len) = nI len := z_mi_le hlen (by decide)
  have e2 : q_mx (0 : Int32) (nI len) = nI len := by
    unfold q_mx
    by_cases c : (0 : Int32) < nI len
    · rw [if_pos c]
    · rw [if_neg c]
      have : len = 0 := by
        rcases Nat.eq_zero_or_pos len with z | z
        · exact z
        · exact absurd (nI_lt (a := 0) z (by omega)) c
      rw [this]; rfl
  refine ⟨M2, ?_, (show z_FR M (q_sI M 81 1 (nI len)) from z_FR.sI).tr r2, fun a h1 h2 => by rw [r4 a h2, q_sI_ne h1], fun f h1 => by rw [r4 81 (by decide), z_I_sI, if_neg (by omega)], r5, by rw [r4 81 (by decide)]; exact e81, fun j hj => by rw [r6 j hj, q_sI_ne hcc.2]⟩
  simp only [f_X8_load, zob_81 hL, zo_81 hL, (za_82 hL).1, rd, Option.bind_some, e1, e2, r1']
theorem z_ct_ok {st : Nat → Int32} {o n : Nat} (h : z_Tx st o) (hn : st o = nI n) (h60 : n ≤ 60) : ∀ j, j < n → st (o + 1 + j) = nI (z_ct st o n j) ∧ z_ct st o n j < 128 := by
  intro j hj
  have hb := h.2 j (by rw [hn, nI_clamp (by omega)]; exact hj)
  obtain ⟨x, hx, e⟩ : ∃ x, x < 128 ∧ st (o + 1 + j) = nI x := z_of (n := 128) ⟨hb.1, by have := hb.2; omega⟩ (by decide)
  have e2 : z_ct st o n j = x := by unfold z_ct; rw [if_pos hj, e, nI_clamp (by omega)]
  rw [e2]
  exact ⟨e, hx⟩
theorem z_fin_sm {Mb M' : q_Mem} (h : z_fin Mb M') : z_sm Mb M' := ⟨h.1, fun a ha => h.2.1 a (fun z => by rw [z] at ha; unfold z_core at ha; omega) (fun z => by rw [z] at ha; unfold z_core at ha; omega) (fun z => by rw [z] at ha; unfold z_core at ha; omega)⟩
theorem z_mfin_sm {Mb M' : q_Mem} (h : z_mfin Mb M') : z_sm Mb M' := ⟨h.1, fun a ha => h.2.1 a (fun z => by unfold z_ma at z; unfold z_core at ha; omega)⟩
/-- a text is before the reader -/
theorem zs_loadText {M : q_Mem} (hi : z_Inv M) {i : Nat} (h6 : i < 6) : ∃ n M1, n ≤ 60 ∧ q_I M 109 (3320 + 61 * i) = nI n ∧ f_X8_load M 81 12 (nI i) (0 : Int32) = some M1 ∧ z_sm M M1 ∧ (∀ a, a ≠ 81 → a ≠ 82 → q_I M1 a = q_I M a) ∧ q_J M1 = q_J M ∧ q_I M1 81 1 = nI n ∧ (∀ j, j < n → q_I M1 82 j = nI (z_ct (q_I M 109) (3320 + 61 * i) n j) ∧ z_ct (q_I M 109) (3320 + 61 * i) n j < 128) := by
  obtain ⟨R, h3⟩ := zt_5 hi
  obtain ⟨n, hn, e0, e3⟩ := z_txlen (z_tx hi h6)
  have hl : q_I M 13 (61 * i + 0) = nI n := by rw [zr_5 (j := 0) hi h6 (Nat.zero_le _), Nat.add_zero]; exact e0
  obtain ⟨M1, r1, r2, r4, r5, r6, r7, r8⟩ := zs_load hi.1 R h3 (Nat.le_refl 6) h6 (col := 0) (by decide) hn (by decide) (by decide) hl
  have ok := z_ct_ok (z_tx hi h6) e0 hn
  refine ⟨n, M1, hn, e0, r1, ⟨r2, fun a ha => r4 a (fun z => by rw [z] at ha; unfold z_core at ha; omega) (fun z => by rw [z] at ha; unfold z_core at ha; omega)⟩, r4, r6, r7, fun j hj => ⟨?_, (ok j hj).2⟩⟩
  rw [r8 j hj, zr_5 hi h6 (j := 0 + 1 + j) (by rw [e3]; omega), ← (ok j hj).1]
  congr 1
  omega
/-- both sides read a text alike -/
theorem zs_readBoth {M : q_Mem} (hi : z_Inv M) {i : Nat} (h6 : i < 6) : ∃ n M1 M2 M3, n ≤ 60 ∧ q_I M 109 (3320 + 61 * i) = nI n ∧ f_X8_load M 81 12 (nI i) (0 : Int32) = some M1 ∧ z_sm M M1 ∧ f_X8_read M1 81 = some ((z_gP n (z_ct (q_I M 109) (3320 + 61 * i) n) (n + 1) 0 [] none).1, M2) ∧ z_sm M1 M2 ∧ f_X12_reads M2 108 ((3320 : Int32) + (61 : Int32) * nI i) = some ((z_gP n (z_ct (q_I M 109) (3320 + 61 * i) n) (n + 1) 0 [] none).1, M3) ∧ z_sm M2 M3 := by
  obtain ⟨n, M1, hn, e0, l1, s1, f1, j1, l81, l82⟩ := zs_loadText hi h6
  have hT : z_tx0 (q_J M1 83) M1 n (z_ct (q_I M 109) (3320 + 61 * i) n) := ⟨s1.1.lay hi.1, hn, l81, l82, fun _ _ => rfl⟩
  obtain ⟨M2, r1, r2⟩ := zs_read hT
  have s2 := z_fin_sm r2.1
  have e9 : q_I M2 109 = q_I M 109 := (z_inv9 s2).trans (z_inv9 s1)
  have hM : z_txM M2 (3320 + 61 * i) n (z_ct (q_I M 109) (3320 + 61 * i) n) := ⟨s2.1.lay (s1.1.lay hi.1), hn, by omega, by rw [e9]; exact e0, fun j hj => by rw [e9]; exact z_ct_ok (z_tx hi h6) e0 hn j hj⟩
  obtain ⟨M3, q1, q2⟩ := zs_readsM hM
  refine ⟨n, M1, M2, M3, hn, e0, l1, s1, r1, s2, ?_, z_mfin_sm q2.1⟩
  rw [z_ix0_5]
  exact q1
theorem Z_fault_ok : Z_fault := by
  intro M p1 hi
  have hL := hi.1
  obtain ⟨R, h3⟩ := zt_5 hi
  have hh := z_has (x := p1) R h3 (Nat.le_refl 6)
  by_cases g0 : 0 ≤ p1.toInt ∧ p1.toInt < ((6 : Nat) : Int)
  · obtain ⟨i, hj, rfl⟩ := z_of g0 (by omega)
    obtain ⟨n, M1, M2, M3, _, _, l1, s1, r1, s2, q1, s3⟩ := zs_readBoth hi hj
    have hL1 := s1.1.lay hL
    have hL2 := s2.1.lay hL1
    refine ⟨(z_gP n (z_ct (q_I M 109) (3320 + 61 * i) n) (n + 1) 0 [] none).1, M2, M3, ?_, ?_, ((hi.sm s1).sm s2).sm s3⟩
    · simp only [f_X11_fault, zob_0 hL, zo_0 hL, zo_1 hL, hh, Option.bind_some, z_b0, g0, and_self, if_true, l1, zo_0 hL1, r1]
    · simp only [f_X12_fault, zob_108 hL2, z_m_isText, Option.bind_some, z_b0, g0, and_self, if_true, q1]
  · refine ⟨-2, M, M, ?_, ?_, hi⟩
    · simp only [f_X11_fault, zob_0 hL, zo_0 hL, zo_1 hL, hh, Option.bind_some, z_b0, g0, if_false]
    · simp only [f_X12_fault, zob_108 hL, z_m_isText, Option.bind_some, z_b0, g0, if_false]
/-- a motion comes: both tables together -/
theorem z_Inv_motion {M M' : q_Mem} (hi : z_Inv M) {m : Nat} (hm : z_m (q_I M 109) 6 = m) (hm10 : m < 10) (hF : z_FR M M') (hr : ∀ a, z_core a → a ≠ 14 → a ≠ 15 → a ≠ 109 → q_I M' a = q_I M a)
    (h14 : ∀ f, f ≠ 3 → q_I M' 14 f = q_I M 14 f) (h143 : q_I M' 14 3 = nI (m + 1)) (h15 : ∀ k, k < 84 * m → q_I M' 15 k = q_I M 15 k)
    (h5 : q_I M' 109 5 = nI (m + 1)) (hst : ∀ k, k ≠ 5 → (k < 3686 + 84 * m ∨ 3686 + 84 * m + 84 ≤ k) → q_I M' 109 k = q_I M 109 k)
    (hrow : ∀ j, j < 84 → (3 ≤ j → j < 64 → j - 3 ≤ (q_I M' 109 (3686 + 84 * m)).toNatClampNeg) → q_I M' 15 (84 * m + j) = q_I M' 109 (3686 + 84 * m + z_pm 6 j))
    (hV : z_VR (q_I M' 109) (z_m (q_I M 109) 0) (z_m (q_I M 109) 3) 6 m) : z_Inv M' := by
  have hs := hi.2.2.2.2.1
  have hT := hs.1 6 (by decide)
  have em : z_m (q_I M' 109) 6 = m + 1 := by
    show (q_I M' 109 5).toNatClampNeg = m + 1
    rw [h5, nI_clamp (by omega)]
  have hm0 : ∀ t, t < 11 → t ≠ 6 → z_m (q_I M' 109) t = z_m (q_I M 109) t := by
    intro t ht h6
    have h7 : t = 5 ∨ (z_tn t ≠ 5 ∧ z_tn t < 10) := by
      have : ∀ t, t < 11 → t ≠ 6 → t = 5 ∨ (z_tn t ≠ 5 ∧ z_tn t < 10) := by decide
      exact this t ht h6
    rcases h7 with rfl | ⟨z1, z2⟩
    · rw [z_m5, z_m5]
    · unfold z_m
      rw [hst _ z1 (Or.inl (by omega))]
  refine hi.upd hF (fun a ha => hr a (by unfold z_core; omega) (by omega) (by omega) (by omega)) (fun t ht => ?_) ?_
  · by_cases e : t = 6
    · subst e
      have k := hi.2.1 6 (by decide)
      exact ⟨(h14 0 (by decide)).trans k.1, (h14 1 (by decide)).trans k.2⟩
    · rw [hr _ (by unfold z_core; omega) (by omega) (by omega) (by omega)]
      exact hi.2.1 t ht
  · refine z_hs_tab (t := 6) (by decide) hs (fun a h1 h2 h3 h4 => hr a (by unfold z_core; omega) h3 h4 (by omega)) (fun k h1 h2 => ?_) (Nat.le_of_eq (hm0 0 (by decide) (by decide)).symm) (Nat.le_of_eq (hm0 3 (by decide) (by decide)).symm) ⟨?_, ?_, fun _ => ?_, fun i2 j2 h1 h2 hl => ?_⟩ (fun i2 h1 => ?_)
    · rw [show z_to 6 = 3686 from rfl, show z_tm 6 = 10 from rfl, show z_tw 6 = 84 from rfl, show 3686 + 10 * 84 = 4526 from rfl] at h2
      exact hst k h1 (by omega)
    · rw [em]; exact h143
    · rw [em]; exact hm10
    · rw [em]; exact h5
    · rw [em] at h1
      have h2' : j2 < 84 := h2
      by_cases e : i2 = m
      · subst e
        exact hrow j2 h2' (fun a1 a2 => hl.2 rfl a1 a2)
      · have e1 : q_I M' 15 (84 * i2 + j2) = q_I M 15 (84 * i2 + j2) := h15 _ (by omega)
        have hp := z_pm_lt (t := 6) h2
        have hp' : z_pm 6 j2 < 84 := hp
        have e2 : q_I M' 109 (3686 + 84 * i2 + z_pm 6 j2) = q_I M 109 (3686 + 84 * i2 + z_pm 6 j2) := hst _ (by omega) (by omega)
        have e3 : q_I M' 109 (3686 + 84 * i2) = q_I M 109 (3686 + 84 * i2) := hst _ (by omega) (by omega)
        have g := hT.2.2.2 i2 j2 (by rw [hm]; omega) h2 ⟨fun z => absurd z (by decide), fun z a1 a2 => by have q := hl.2 z a1 a2; rwa [e3] at q⟩
        exact e1.trans (g.trans e2.symm)
    · rw [em] at h1
      rw [hm0 0 (by decide) (by decide), hm0 3 (by decide) (by decide)]
      by_cases e : i2 = m
      · subst e; exact hV
      · refine (hs.2.2.2 6 (by decide) i2 (by rw [hm]; omega)).cong (fun j hj => ?_) (Nat.le_refl _) (Nat.le_refl _)
        have hj' : j < 84 := hj
        exact hst (3686 + 84 * i2 + j) (by omega) (by omega)
/-- the class copies a text into the new row -/
theorem zq_prop1 {Mc : q_Mem} (hL : z_Lay Mc) {i m : Nat} (R5 : z_R Mc 12 13 61 6) (h35 : q_I Mc 12 3 = nI 6) (R6 : z_R Mc 14 15 84 10) (h36 : q_I Mc 14 3 = nI (m + 1)) (hm : m < 10) (h6 : i < 6) : ∀ (d k fu : Nat) (M1 : q_Mem), k + d = 61 → d < fu → z_FR Mc M1 → (∀ a, a ≠ 15 → q_I M1 a = q_I Mc a) → q_J M1 = q_J Mc → (∀ j, q_I M1 15 j = if 84 * m + 3 ≤ j ∧ j < 84 * m + 3 + k then q_I Mc 13 (61 * i + (j - (84 * m + 3))) else q_I Mc 15 j) → ∃ M2, f_X0_propose_b25 87 (nI i) (nI m) fu (nI k) M1 = f_X0_propose_b69 87 (nI m) q_fuel (0 : Int32) M2 ∧ z_FR Mc M2 ∧ (∀ a, a ≠ 15 → q_I M2 a = q_I Mc a) ∧ q_J M2 = q_J Mc ∧ (∀ j, q_I M2 15 j = if 84 * m + 3 ≤ j ∧ j < 84 * m + 64 then q_I Mc 13 (61 * i + (j - (84 * m + 3))) else q_I Mc 15 j) := by
  intro d
  induction d with
  | zero =>
    intro k fu M1 hd hf hF hI hJ hk
    obtain ⟨g, rfl⟩ : ∃ g, fu = g + 1 := ⟨fu - 1, by omega⟩
    obtain rfl : k = 61 := by omega
    simp only [f_X0_propose_b25.eq_2, show ((60 : Int32) < nI 61) = True by decide, if_true]
    exact ⟨M1, rfl, hF, hI, hJ, fun j => by rw [hk j, show 84 * m + 3 + 61 = 84 * m + 64 by omega]⟩
  | succ d ih =>
    intro k fu M1 hd hf hF hI hJ hk
    obtain ⟨g, rfl⟩ : ∃ g, fu = g + 1 := ⟨fu - 1, by omega⟩
    have hL1 := hF.lay hL
    have hn : ((60 : Int32) < nI k) = False := eq_false (nI_nlt (a := 60) (by omega) (by omega))
    have R5' := R5.keep hF (by rw [hI 12 (by decide)]) (by rw [hI 12 (by decide)])
    have R6' := R6.keep hF (by rw [hI 14 (by decide)]) (by rw [hI 14 (by decide)])
    have e35 : q_I M1 12 3 = nI 6 := by rw [hI 12 (by decide)]; exact h35
    have e36 : q_I M1 14 3 = nI (m + 1) := by rw [hI 14 (by decide)]; exact h36
    have rd : f_X9_at M1 12 (nI i) ((0 : Int32) + nI k) = some (q_I Mc 13 (61 * i + k)) := by
      rw [Int32.zero_add, z_at_in R5' e35 (Nat.le_refl 6) h6 (show k < 61 by omega), hI 13 (by decide)]
    have wr : f_X9_put M1 14 (nI m) ((3 : Int32) + nI k) (q_I Mc 13 (61 * i + k)) = some (q_sI M1 15 (84 * m + (3 + k)) (q_I Mc 13 (61 * i + k))) := by
      rw [show (3 : Int32) + nI k = nI (3 + k) from nI_add 3 k]
      exact z_put_in R6' e36 (show m + 1 ≤ 10 by omega) (Nat.lt_succ_self m) (by omega)
    simp only [f_X0_propose_b25.eq_2, hn, if_false, zo_87 hL1, zo_1 hL1, Option.bind_some, rd, wr, ← nI_succ]
    refine ih (k + 1) g _ (by omega) (by omega) (hF.tr ⟨rfl, rfl, rfl⟩) (fun a ha => by rw [q_sI_ne ha]; exact hI a ha) hJ (fun j => ?_)
    rw [z_I_sI]
    by_cases e : j = 84 * m + (3 + k)
    · rw [if_pos ⟨rfl, e⟩, if_pos (by omega), show j - (84 * m + 3) = k by omega]
    · rw [if_neg (fun z => e z.2), hk j]
      by_cases e2 : 84 * m + 3 ≤ j ∧ j < 84 * m + 3 + k
      · rw [if_pos e2, if_pos (by omega)]
      · rw [if_neg e2, if_neg (by omega)]
theorem zq_prop2 {Mc : q_Mem} (hL : z_Lay Mc) {m : Nat} (R6 : z_R Mc 14 15 84 10) (h36 : q_I Mc 14 3 = nI (m + 1)) (hm : m < 10) : ∀ (d k fu : Nat) (M1 : q_Mem), k + d = 20 → d < fu → z_FR Mc M1 → (∀ a, a ≠ 15 → q_I M1 a = q_I Mc a) → q_J M1 = q_J Mc → (∀ j, q_I M1 15 j = if 84 * m + 64 ≤ j ∧ j < 84 * m + 64 + k then 0 else q_I Mc 15 j) → ∃ M2, f_X0_propose_b69 87 (nI m) fu (nI k) M1 = some (nI m, M2) ∧ z_FR Mc M2 ∧ (∀ a, a ≠ 15 → q_I M2 a = q_I Mc a) ∧ q_J M2 = q_J Mc ∧ (∀ j, q_I M2 15 j = if 84 * m + 64 ≤ j ∧ j < 84 * m + 84 then 0 else q_I Mc 15 j) := by
  intro d
  induction d with
  | zero =>
    intro k fu M1 hd hf hF hI hJ hk
    obtain ⟨g, rfl⟩ : ∃ g, fu = g + 1 := ⟨fu - 1, by omega⟩
    obtain rfl : k = 20 := by omega
    simp only [f_X0_propose_b69.eq_2, show (nI 20 < (20 : Int32)) = False by decide, if_false]
    exact ⟨M1, rfl, hF, hI, hJ, fun j => by rw [hk j, show 84 * m + 64 + 20 = 84 * m + 84 by omega]⟩
  | succ d ih =>
    intro k fu M1 hd hf hF hI hJ hk
    obtain ⟨g, rfl⟩ : ∃ g, fu = g + 1 := ⟨fu - 1, by omega⟩
    have hL1 := hF.lay hL
    have hn : (nI k < (20 : Int32)) = True := eq_true (nI_lt (b := 20) (by omega) (by omega))
    have R6' := R6.keep hF (by rw [hI 14 (by decide)]) (by rw [hI 14 (by decide)])
    have e36 : q_I M1 14 3 = nI (m + 1) := by rw [hI 14 (by decide)]; exact h36
    have wr : f_X9_put M1 14 (nI m) ((64 : Int32) + nI k) (0 : Int32) = some (q_sI M1 15 (84 * m + (64 + k)) 0) := by
      rw [show (64 : Int32) + nI k = nI (64 + k) from nI_add 64 k]
      exact z_put_in R6' e36 (show m + 1 ≤ 10 by omega) (Nat.lt_succ_self m) (by omega)
    simp only [f_X0_propose_b69.eq_2, hn, if_true, zo_87 hL1, Option.bind_some, wr, ← nI_succ]
    refine ih (k + 1) g _ (by omega) (by omega) (hF.tr ⟨rfl, rfl, rfl⟩) (fun a ha => by rw [q_sI_ne ha]; exact hI a ha) hJ (fun j => ?_)
    rw [z_I_sI]
    by_cases e : j = 84 * m + (64 + k)
    · rw [if_pos ⟨rfl, e⟩, if_pos (by omega)]
    · rw [if_neg (fun z => e z.2), hk j]
      by_cases e2 : 84 * m + 64 ≤ j ∧ j < 84 * m + 64 + k
      · rw [if_pos e2, if_pos (by omega)]
      · rw [if_neg e2, if_neg (by omega)]
/-- the model copies it -/
theorem zq_mot1 {Mc : q_Mem} (hL : z_Lay Mc) {i m : Nat} (a2 a3 : Int32) (hm : m < 10) (h6 : i < 6) : ∀ (d k fu : Nat) (M1 : q_Mem), k + d = 61 → d < fu → z_FR Mc M1 → (∀ a, a ≠ 109 → q_I M1 a = q_I Mc a) → (∀ j, q_I M1 109 j = if 3686 + 84 * m ≤ j ∧ j < 3686 + 84 * m + k then q_I Mc 109 (3320 + 61 * i + (j - (3686 + 84 * m))) else q_I Mc 109 j) → ∃ M2, f_X12_motion_b68 108 (nI i) a2 a3 (nI (3686 + 84 * m)) fu (nI k) M1 = f_X12_motion_b107 M2 108 a2 a3 (nI (3686 + 84 * m)) ∧ z_FR Mc M2 ∧ (∀ a, a ≠ 109 → q_I M2 a = q_I Mc a) ∧ (∀ j, q_I M2 109 j = if 3686 + 84 * m ≤ j ∧ j < 3686 + 84 * m + 61 then q_I Mc 109 (3320 + 61 * i + (j - (3686 + 84 * m))) else q_I Mc 109 j) := by
  intro d
  induction d with
  | zero =>
    intro k fu M1 hd hf hF hI hk
    obtain ⟨g, rfl⟩ : ∃ g, fu = g + 1 := ⟨fu - 1, by omega⟩
    obtain rfl : k = 61 := by omega
    simp only [f_X12_motion_b68.eq_2, show (nI 61 < (61 : Int32)) = False by decide, if_false]
    exact ⟨M1, rfl, hF, hI, hk⟩
  | succ d ih =>
    intro k fu M1 hd hf hF hI hk
    obtain ⟨g, rfl⟩ : ∃ g, fu = g + 1 := ⟨fu - 1, by omega⟩
    have hL1 := hF.lay hL
    have hn : (nI k < (61 : Int32)) = True := eq_true (nI_lt (b := 61) (by omega) (by omega))
    have rd : q_lI M1 109 (nI (3320 + 61 * i + k)) = some (q_I Mc 109 (3320 + 61 * i + k)) := by
      rw [z_st_lit hL1 (by omega), hk, if_neg (by omega)]
    simp only [f_X12_motion_b68.eq_2, hn, if_true, zo_108 hL1, Option.bind_some, z_ix_5, rd, nI_add, z_st_put hL1 (show 3686 + 84 * m + k < 4764 by omega), ← nI_succ]
    refine ih (k + 1) g _ (by omega) (by omega) (hF.tr ⟨rfl, rfl, rfl⟩) (fun a ha => by rw [q_sI_ne ha]; exact hI a ha) (fun j => ?_)
    rw [z_I_sI]
    by_cases e : j = 3686 + 84 * m + k
    · rw [if_pos ⟨rfl, e⟩, if_pos (by omega), show j - (3686 + 84 * m) = k by omega]
    · rw [if_neg (fun z => e z.2), hk j]
      by_cases e2 : 3686 + 84 * m ≤ j ∧ j < 3686 + 84 * m + k
      · rw [if_pos e2, if_pos (by omega)]
      · rw [if_neg e2, if_neg (by omega)]
theorem zq_mot2 {Mc : q_Mem} (hL : z_Lay Mc) {m : Nat} (hm : m < 10) (h5 : q_I Mc 109 5 = nI m) : ∀ (d k fu : Nat) (M1 : q_Mem), k + d = 20 → d < fu → z_FR Mc M1 → (∀ a, a ≠ 109 → q_I M1 a = q_I Mc a) → (∀ j, q_I M1 109 j = if 3686 + 84 * m + 64 ≤ j ∧ j < 3686 + 84 * m + 64 + k then 0 else q_I Mc 109 j) → ∃ M2, f_X12_motion_b151 108 (nI (3686 + 84 * m)) fu (nI k) M1 = some (nI m, M2) ∧ z_FR Mc M2 ∧ (∀ a, a ≠ 109 → q_I M2 a = q_I Mc a) ∧ (∀ j, q_I M2 109 j = if j = 5 then nI (m + 1) else if 3686 + 84 * m + 64 ≤ j ∧ j < 3686 + 84 * m + 84 then 0 else q_I Mc 109 j) := by
  intro d
  induction d with
  | zero =>
    intro k fu M1 hd hf hF hI hk
    obtain ⟨g, rfl⟩ : ∃ g, fu = g + 1 := ⟨fu - 1, by omega⟩
    obtain rfl : k = 20 := by omega
    have hL1 := hF.lay hL
    have e5 : q_I M1 109 5 = nI m := by rw [hk, if_neg (by omega)]; exact h5
    have mo : f_X12_more M1 108 (5 : Int32) = some (nI m, q_sI M1 109 5 (nI (m + 1))) := z_more (j := 5) hL1 (by decide) e5
    simp only [f_X12_motion_b151.eq_2, show (nI 20 < (20 : Int32)) = False by decide, if_false, mo, Option.bind_some]
    refine ⟨_, rfl, hF.tr ⟨rfl, rfl, rfl⟩, fun a ha => by rw [q_sI_ne ha]; exact hI a ha, fun j => ?_⟩
    rw [z_I_sI]
    by_cases e : j = 5
    · rw [if_pos ⟨rfl, e⟩, if_pos e]
    · rw [if_neg (fun z => e z.2), if_neg e, hk j, show 3686 + 84 * m + 64 + 20 = 3686 + 84 * m + 84 by omega]
  | succ d ih =>
    intro k fu M1 hd hf hF hI hk
    obtain ⟨g, rfl⟩ : ∃ g, fu = g + 1 := ⟨fu - 1, by omega⟩
    have hL1 := hF.lay hL
    have hn : (nI k < (20 : Int32)) = True := eq_true (nI_lt (b := 20) (by omega) (by omega))
    have ix : nI (3686 + 84 * m) + (64 : Int32) + nI k = nI (3686 + 84 * m + 64 + k) := by rw [show (64 : Int32) = nI 64 from rfl, nI_add, nI_add]
    simp only [f_X12_motion_b151.eq_2, hn, if_true, zo_108 hL1, Option.bind_some, ix, z_st_put hL1 (show 3686 + 84 * m + 64 + k < 4764 by omega), ← nI_succ]
    refine ih (k + 1) g _ (by omega) (by omega) (hF.tr ⟨rfl, rfl, rfl⟩) (fun a ha => by rw [q_sI_ne ha]; exact hI a ha) (fun j => ?_)
    rw [z_I_sI]
    by_cases e : j = 3686 + 84 * m + 64 + k
    · rw [if_pos ⟨rfl, e⟩, if_pos (by omega)]
    · rw [if_neg (fun z => e z.2), hk j]
      by_cases e2 : 3686 + 84 * m + 64 ≤ j ∧ j < 3686 + 84 * m + 64 + k
      · rw [if_pos e2, if_pos (by omega)]
      · rw [if_neg e2, if_neg (by omega)]
theorem Z_motion_ok : Z_motion := by
  intro M p1 p2 p3 hb hi
  have hL := hi.1
  obtain ⟨R, h3⟩ := zt_5 hi
  obtain ⟨R6, h36, hm6, hcn6⟩ := zt_6 hi
  have hh := z_has (x := p1) R h3 (Nat.le_refl 6)
  by_cases g0 : 0 ≤ p1.toInt ∧ p1.toInt < ((6 : Nat) : Int)
  · by_cases g1 : (0 : Int32).toInt ≤ p2.toInt ∧ p2.toInt ≤ (195 : Int32).toInt
    · obtain ⟨i, hj, rfl⟩ := z_of g0 (by omega)
      obtain ⟨n, M1, M2, M3, hn, e0, l1, s1, r1, s2, q1, s3⟩ := zs_readBoth hi hj
      have hL1 := s1.1.lay hL
      have hL2 := s2.1.lay hL1
      have s12 := s1.tr s2
      have hi2 := hi.sm s12
      have e92 := z_inv9 s12
      by_cases g2 : (z_gP n (z_ct (q_I M 109) (3320 + 61 * i) n) (n + 1) 0 [] none).1 = -1
      · rw [g2] at r1 q1
        obtain ⟨S6, k36, km6, kcn6⟩ := zt_6 hi2
        rw [e92] at k36 km6 kcn6
        by_cases g3 : z_m (q_I M 109) 6 = 10
        · -- the table is full
          rw [g3] at k36 kcn6
          refine ⟨-4, M2, M3, ?_, ?_, hi2.sm s3⟩
          · have cf : f_X9_come M2 14 p2 p3 (0 : Int32) = some (-4, M2) := z_come_full S6 k36
            simp only [f_X11_motion, f_X0_propose, zob_0 hL, zo_0 hL, zo_1 hL, hh, z_c_isDay, Option.bind_some, z_b0, g0, g1, and_self, if_true, l1, zo_0 hL1, r1, zo_0 hL2, z_c_asNumber hb, zob_87 hL2, zo_87 hL2, cf]
          · have hL3 := s3.1.lay hL2
            have e5 : q_I M3 109 5 = 10 := by rw [z_inv9 s3, e92, hcn6, g3]; rfl
            simp only [f_X12_motion, zob_108 hL2, z_m_isText, z_m_isDay, Option.bind_some, z_b0, g0, g1, and_self, if_true, q1, zo_108 hL3, zl_ hL3, e5]
        · have hm10 : z_m (q_I M 109) 6 < 10 := by omega
          generalize hmg : z_m (q_I M 109) 6 = m at *
          obtain ⟨Mc, c1, c2, c3, c4⟩ := z_come_in (a := p2) (b := p3) (d := (0 : Int32)) S6 k36 hm10
          have hLc := c2.lay hL2
          have ci : ∀ a, a ≠ 14 → a ≠ 15 → q_I Mc a = q_I M2 a := fun a h1 h2 => by
            funext k
            rw [c4, if_neg (fun z => h1 z.1), if_neg (fun z => h2 z.1)]
          have c14 : ∀ f, q_I Mc 14 f = if f = 3 then nI (m + 1) else q_I M2 14 f := fun f => by
            rw [c4]
            by_cases z : f = 3
            · rw [if_pos ⟨rfl, z⟩, if_pos z]
            · rw [if_neg (fun y => z y.2), if_neg (by omega), if_neg z]
          have c15 : ∀ k, q_I Mc 15 k = if 84 * m ≤ k ∧ k < 84 * m + 84 then z_row p2 p3 0 (k - 84 * m) else q_I M2 15 k := fun k => by
            rw [c4, if_neg (by omega)]
            by_cases z : 84 * m ≤ k ∧ k < 84 * m + 84
            · rw [if_pos ⟨rfl, z⟩, if_pos z]
            · rw [if_neg (fun y => z y.2), if_neg z]
          obtain ⟨T5, t35⟩ := zt_5 hi2
          have R5c : z_R Mc 12 13 61 6 := T5.keep c2 (by rw [ci 12 (by decide) (by decide)]) (by rw [ci 12 (by decide) (by decide)])
          have h35c : q_I Mc 12 3 = nI 6 := by rw [ci 12 (by decide) (by decide)]; exact t35
          have R6c : z_R Mc 14 15 84 10 := S6.keep c2 (by rw [c14, if_neg (by decide)]) (by rw [c14, if_neg (by decide)])
          have h36c : q_I Mc 14 3 = nI (m + 1) := by rw [c14, if_pos rfl]
          obtain ⟨Md, d1, d2, d3, d4, d5⟩ := zq_prop1 hLc R5c h35c R6c h36c hm10 hj 61 0 q_fuel Mc (by omega) (by unfold q_fuel; omega) z_FR.rf (fun _ _ => rfl) rfl (fun j => by rw [if_neg (by omega)])
          have hLd := d2.lay hLc
          have R6d := R6c.keep d2 (by rw [d3 14 (by decide)]) (by rw [d3 14 (by decide)])
          have h36d : q_I Md 14 3 = nI (m + 1) := by rw [d3 14 (by decide)]; exact h36c
          obtain ⟨Me, e1, e2, e3, e4, e5⟩ := zq_prop2 hLd R6d h36d hm10 20 0 q_fuel Md (by omega) (by unfold q_fuel; omega) z_FR.rf (fun _ _ => rfl) rfl (fun j => by rw [if_neg (by omega)])
          have hLe := e2.lay hLd
          have d1' : f_X0_propose_b25 87 (nI i) (nI m) q_fuel (0 : Int32) Mc = f_X0_propose_b69 87 (nI m) q_fuel (0 : Int32) Md := d1
          have e1' : f_X0_propose_b69 87 (nI m) q_fuel (0 : Int32) Md = some (nI m, Me) := e1
          have nm4 : (nI m = (-4 : Int32)) = False := eq_false (fun z => by
            have z2 := congrArg Int32.toInt z
            rw [nI_toInt (by omega)] at z2
            have e1 : (-4 : Int32).toInt = -4 := rfl
            omega)
          -- the class' memory at its end
          have eI : ∀ a, a ≠ 14 → a ≠ 15 → q_I Me a = q_I M2 a := fun a h1 h2 => by rw [e3 a h2, d3 a h2, ci a h1 h2]
          have e9e : q_I Me 109 = q_I M 109 := (eI 109 (by decide) (by decide)).trans e92
          -- the model reads from there
          have hMe : z_txM Me (3320 + 61 * i) n (z_ct (q_I M 109) (3320 + 61 * i) n) := ⟨hLe, hn, by omega, by rw [e9e]; exact e0, fun j hj2 => by rw [e9e]; exact z_ct_ok (z_tx hi hj) e0 hn j hj2⟩
          obtain ⟨Mf, f1, f2⟩ := zs_readsM hMe
          rw [g2] at f1
          have f1' : f_X12_reads Me 108 ((3320 : Int32) + (61 : Int32) * nI i) = some (-1, Mf) := by rw [z_ix0_5]; exact f1
          have ff := f2.1
          have hLf := ff.1.lay hLe
          have fI : ∀ a, ¬ z_ma a → q_I Mf a = q_I Me a := ff.2.1
          have e9f : q_I Mf 109 = q_I M 109 := (fI 109 (by unfold z_ma; omega)).trans e9e
          have e5f : q_I Mf 109 5 = nI m := by rw [e9f]; exact hcn6
          have n10 : (nI m = (10 : Int32)) = False := eq_false (fun z => g3 ((nI_eq (b := 10) (by omega) (by decide)).mp z))
          obtain ⟨Mg, k1, k2, k3, k4⟩ := zq_mot1 hLf p2 p3 hm10 hj 61 0 q_fuel Mf (by omega) (by unfold q_fuel; omega) z_FR.rf (fun _ _ => rfl) (fun j => by rw [if_neg (by omega)])
          have k1' : f_X12_motion_b68 108 (nI i) p2 p3 (nI (3686 + 84 * m)) q_fuel (0 : Int32) Mf = f_X12_motion_b107 Mg 108 p2 p3 (nI (3686 + 84 * m)) := k1
          have hLg := k2.lay hLf
          have hLh1 : z_Lay (q_sI Mg 109 (3686 + 84 * m + 61) p2) := z_L1 hLg
          have hLh2 : z_Lay (q_sI (q_sI Mg 109 (3686 + 84 * m + 61) p2) 109 (3686 + 84 * m + 62) p3) := z_L1 hLh1
          have hLh : z_Lay (q_sI (q_sI (q_sI Mg 109 (3686 + 84 * m + 61) p2) 109 (3686 + 84 * m + 62) p3) 109 (3686 + 84 * m + 63) 0) := z_L1 hLh2
          obtain ⟨Mh, hMh⟩ : ∃ Mh, Mh = q_sI (q_sI (q_sI Mg 109 (3686 + 84 * m + 61) p2) 109 (3686 + 84 * m + 62) p3) 109 (3686 + 84 * m + 63) 0 := ⟨_, rfl⟩
          have hI9 : ∀ k, q_I Mh 109 k = if k = 3686 + 84 * m + 63 then 0 else if k = 3686 + 84 * m + 62 then p3 else if k = 3686 + 84 * m + 61 then p2 else q_I Mg 109 k := fun k => by
            rw [hMh]
            simp only [z_I_sI, true_and]
          have hIo : ∀ a, a ≠ 109 → q_I Mh a = q_I Mg a := fun a ha => by rw [hMh, q_sI_ne ha, q_sI_ne ha, q_sI_ne ha]
          have hF : z_FR Mg Mh := by rw [hMh]; exact ⟨rfl, rfl, rfl⟩
          rw [← hMh] at hLh
          have e5h : q_I Mh 109 5 = nI m := by
            rw [hI9, if_neg (by omega), if_neg (by omega), if_neg (by omega), k4, if_neg (by omega)]; exact e5f
          obtain ⟨Mi, m1, m2, m3, m4⟩ := zq_mot2 hLh hm10 e5h 20 0 q_fuel Mh (by omega) (by unfold q_fuel; omega) z_FR.rf (fun _ _ => rfl) (fun j => by rw [if_neg (by omega)])
          have m1' : f_X12_motion_b151 108 (nI (3686 + 84 * m)) q_fuel (0 : Int32) Mh = some (nI m, Mi) := m1
          refine ⟨nI m, Me, Mi, ?_, ?_, ?_⟩
          · simp only [f_X11_motion, f_X0_propose, zob_0 hL, zo_0 hL, zo_1 hL, hh, z_c_isDay, Option.bind_some, z_b0, g0, g1, and_self, if_true, l1, zo_0 hL1, r1, zo_0 hL2, z_c_asNumber hb, zob_87 hL2, zo_87 hL2, c1, nm4, if_false, d1', e1']
          · have ixm : (3686 : Int32) + (84 : Int32) * nI m = nI (3686 + 84 * m) := z_ix0_6
            have a61 : nI (3686 + 84 * m) + (61 : Int32) = nI (3686 + 84 * m + 61) := nI_add _ 61
            have a62 : nI (3686 + 84 * m) + (62 : Int32) = nI (3686 + 84 * m + 62) := nI_add _ 62
            have a63 : nI (3686 + 84 * m) + (63 : Int32) = nI (3686 + 84 * m + 63) := nI_add _ 63
            have fin : f_X12_motion_b107 Mg 108 p2 p3 (nI (3686 + 84 * m)) = some (nI m, Mi) := by
              rcases hb with rfl | rfl
              · simp only [f_X12_motion_b107, f_X12_motion_b136, zo_108 hLg, Option.bind_some, a61, a62, a63, z_st_put hLg (show 3686 + 84 * m + 61 < 4764 by omega), zo_108 hLh1, if_true, z_st_put hLh1 (show 3686 + 84 * m + 62 < 4764 by omega), zo_108 hLh2, z_st_put hLh2 (show 3686 + 84 * m + 63 < 4764 by omega), ← hMh, m1']
              · simp only [f_X12_motion_b107, f_X12_motion_b136, zo_108 hLg, Option.bind_some, a61, a62, a63, z_st_put hLg (show 3686 + 84 * m + 61 < 4764 by omega), zo_108 hLh1, show ((1 : Int32) = 0) = False by decide, if_false, z_st_put hLh1 (show 3686 + 84 * m + 62 < 4764 by omega), zo_108 hLh2, z_st_put hLh2 (show 3686 + 84 * m + 63 < 4764 by omega), ← hMh, m1']
            simp only [f_X12_motion, zob_108 hLe, z_m_isText, z_m_isDay, Option.bind_some, z_b0, g0, g1, and_self, if_true, f1', zo_108 hLf, zl_ hLf, e5f, n10, if_false, ixm, k1', fin]
          · -- what stands at the end
            have F : z_FR M Mi := s12.1.tr (c2.tr (d2.tr (e2.tr (ff.1.tr (k2.tr (hF.tr m2))))))
            have iI : ∀ a, a ≠ 109 → ¬ z_ma a → q_I Mi a = q_I Me a := fun a h1 h2 => by rw [m3 a h1, hIo a h1, k3 a h1, fI a h2]
            have Z14 : q_I Mi 14 = q_I Mc 14 := by rw [iI 14 (by decide) (by unfold z_ma; omega), e3 14 (by decide), d3 14 (by decide)]
            have Z15 : ∀ k, q_I Mi 15 k = if 84 * m + 64 ≤ k ∧ k < 84 * m + 84 then 0 else if 84 * m + 3 ≤ k ∧ k < 84 * m + 64 then q_I Mc 13 (61 * i + (k - (84 * m + 3))) else q_I Mc 15 k := fun k => by
              rw [iI 15 (by decide) (by unfold z_ma; omega), e5 k, d5 k]
            have Z9 : ∀ k, q_I Mi 109 k = if k = 5 then nI (m + 1) else if 3686 + 84 * m + 64 ≤ k ∧ k < 3686 + 84 * m + 84 then 0 else if k = 3686 + 84 * m + 63 then 0 else if k = 3686 + 84 * m + 62 then p3 else if k = 3686 + 84 * m + 61 then p2 else if 3686 + 84 * m ≤ k ∧ k < 3686 + 84 * m + 61 then q_I M 109 (3320 + 61 * i + (k - (3686 + 84 * m))) else q_I M 109 k := fun k => by
              rw [m4 k, hI9 k, k4 k, e9f]
            have zc13 : q_I Mc 13 = q_I M 13 := by rw [ci 13 (by decide) (by decide)]; exact s12.2 13 (Or.inl (by decide))
            have zc15 : ∀ k, k < 84 * m → q_I Mc 15 k = q_I M 15 k := fun k hk => by
              rw [c15, if_neg (by omega)]; exact congrFun (s12.2 15 (Or.inl (by decide))) k
            have zl0 : q_I Mi 109 (3686 + 84 * m) = nI n := by
              rw [Z9, if_neg (by omega), if_neg (by omega), if_neg (by omega), if_neg (by omega), if_neg (by omega), if_pos (by omega), show 3320 + 61 * i + (3686 + 84 * m - (3686 + 84 * m)) = 3320 + 61 * i by omega]
              exact e0
            refine z_Inv_motion hi hmg hm10 F (fun a h0 h1 h2 h3 => ?_) (fun f hf => ?_) ?_ (fun k hk => ?_) ?_ (fun k h1 h2 => ?_) (fun j hj2 hl => ?_) ⟨⟨⟨n, hn, zl0⟩, fun j hj2 => ?_⟩, ?_, ?_, ?_, fun f hf => ?_, ?_⟩
            · rw [iI a h3 (fun z => by unfold z_ma at z; unfold z_core at h0; omega), eI a h1 h2]
              exact s12.2 a h0
            · rw [Z14, c14, if_neg hf]
              exact congrFun (s12.2 14 (Or.inl (by decide))) f
            · rw [Z14]; exact h36c
            · rw [Z15, if_neg (by omega), if_neg (by omega)]; exact zc15 k hk
            · rw [Z9, if_pos rfl]
            · rw [Z9, if_neg h1, if_neg (by omega), if_neg (by omega), if_neg (by omega), if_neg (by omega), if_neg (by omega)]
            · by_cases j3 : j < 3
              · have ez : z_pm 6 j = 61 + j := by unfold z_pm; rw [if_pos rfl, if_pos j3]
                rw [ez, Z15, if_neg (by omega), if_neg (by omega), c15, if_pos (by omega), show 84 * m + j - 84 * m = j by omega, Z9, if_neg (by omega), if_neg (by omega)]
                match j, j3 with
                | 0, _ => rw [if_neg (by omega), if_neg (by omega), if_pos (by omega)]; rfl
                | 1, _ => rw [if_neg (by omega), if_pos (by omega)]; rfl
                | 2, _ => rw [if_pos (by omega)]; rfl
              · by_cases j64 : j < 64
                · have ez : z_pm 6 j = j - 3 := by unfold z_pm; rw [if_pos rfl, if_neg j3, if_pos j64]
                  have hl2 := hl (by omega) j64
                  rw [zl0, nI_clamp (by omega)] at hl2
                  rw [ez, Z15, if_neg (by omega), if_pos (by omega), zc13, Z9, if_neg (by omega), if_neg (by omega), if_neg (by omega), if_neg (by omega), if_neg (by omega), if_pos (by omega), show 84 * m + j - (84 * m + 3) = j - 3 by omega, show 3686 + 84 * m + (j - 3) - (3686 + 84 * m) = j - 3 by omega]
                  exact zr_5 hi hj (by rw [e0, nI_clamp (by omega)]; exact hl2)
                · have ez : z_pm 6 j = j := by unfold z_pm; rw [if_pos rfl, if_neg j3, if_neg j64]
                  rw [ez, Z15, if_pos (by omega), Z9, if_neg (by omega), if_pos (by omega)]
            · have hj3 : j < (q_I Mi 109 (3686 + 84 * m)).toNatClampNeg := hj2
              rw [zl0, nI_clamp (by omega)] at hj3
              show z_bt (q_I Mi 109 (3686 + 84 * m + 1 + j)) 0 127
              rw [Z9, if_neg (by omega), if_neg (by omega), if_neg (by omega), if_neg (by omega), if_neg (by omega), if_pos (by omega), show 3320 + 61 * i + (3686 + 84 * m + 1 + j - (3686 + 84 * m)) = 3320 + 61 * i + 1 + j by omega]
              exact (z_tx hi hj).2 j (by rw [e0, nI_clamp (by omega)]; exact hj3)
            · show z_bt (q_I Mi 109 (3686 + 84 * m + 61)) 0 195
              rw [Z9, if_neg (by omega), if_neg (by omega), if_neg (by omega), if_neg (by omega), if_pos rfl]
              exact z_bt_of g1 rfl rfl
            · show z_bt (q_I Mi 109 (3686 + 84 * m + 62)) 0 1
              rw [Z9, if_neg (by omega), if_neg (by omega), if_neg (by omega), if_pos rfl]
              exact z_bt01 hb
            · show z_bt (q_I Mi 109 (3686 + 84 * m + 63)) 0 1
              rw [Z9, if_neg (by omega), if_neg (by omega), if_pos rfl]
              exact z_bt01 (Or.inl rfl)
            · show z_bt (q_I Mi 109 (3686 + 84 * m + 64 + f)) (-1) 1
              rw [Z9, if_neg (by omega), if_pos (by omega)]
              exact ⟨by decide, by decide⟩
            · have ffm : z_ff (q_I M 109) (3320 + 61 * i) := by
                unfold z_ff
                rw [e0, nI_clamp (by omega)]
                exact g2
              refine ffm.cong (zl0.trans e0.symm) (fun j hj2 => ?_)
              rw [e0, nI_clamp (by omega)] at hj2
              rw [Z9, if_neg (by omega), if_neg (by omega), if_neg (by omega), if_neg (by omega), if_neg (by omega), if_pos (by omega), show 3320 + 61 * i + (3686 + 84 * m + 1 + j - (3686 + 84 * m)) = 3320 + 61 * i + 1 + j by omega]
      · refine ⟨-3, M2, M3, ?_, ?_, hi2.sm s3⟩
        · simp only [f_X11_motion, zob_0 hL, zo_0 hL, zo_1 hL, hh, z_c_isDay, Option.bind_some, z_b0, g0, g1, and_self, if_true, l1, zo_0 hL1, r1, g2, if_false]
        · simp only [f_X12_motion, zob_108 hL2, z_m_isText, z_m_isDay, Option.bind_some, z_b0, g0, g1, and_self, if_true, q1, g2, if_false]
    · refine ⟨-2, M, M, ?_, ?_, hi⟩
      · simp only [f_X11_motion, zob_0 hL, zo_0 hL, zo_1 hL, hh, z_c_isDay, Option.bind_some, z_b0, g0, g1, and_self, if_true, if_false]
      · simp only [f_X12_motion, zob_108 hL, z_m_isText, z_m_isDay, Option.bind_some, z_b0, g0, g1, and_self, if_true, if_false]
  · refine ⟨-2, M, M, ?_, ?_, hi⟩
    · simp only [f_X11_motion, zob_0 hL, zo_0 hL, zo_1 hL, hh, Option.bind_some, z_b0, g0, if_false]
    · simp only [f_X12_motion, zob_108 hL, z_m_isText, Option.bind_some, z_b0, g0, if_false]
