/-! ===== texts: write, erase ===== -/
theorem z_t5a {k : Nat} (h2 : k < z_to 5 ∨ z_to 5 + z_tm 5 * z_tw 5 ≤ k) : k < 3320 ∨ 3686 ≤ k := by
  rw [show z_to 5 = 3320 from rfl, show z_tm 5 = 6 from rfl, show z_tw 5 = 61 from rfl, show 3320 + 6 * 61 = 3686 from rfl] at h2
  exact h2
theorem z_t5b {k i : Nat} (hi6 : i < 6) (h2 : k < 3320 ∨ 3686 ≤ k) : k < 3320 + 61 * i ∨ 3320 + 61 * i + 61 ≤ k := by
  omega
theorem z_m5 {st : Nat → Int32} : z_m st 5 = 6 := if_pos rfl
theorem z_Inv_text {M M' : q_Mem} (hi : z_Inv M) {i : Nat} (hi6 : i < 6) (hF : z_FR M M') (hr : ∀ a, a ≠ 13 → a ≠ 109 → q_I M' a = q_I M a)
    (hc2 : ∀ k, (k < 61 * i ∨ 61 * i + 61 ≤ k) → q_I M' 13 k = q_I M 13 k) (hst2 : ∀ k, (k < 3320 + 61 * i ∨ 3320 + 61 * i + 61 ≤ k) → q_I M' 109 k = q_I M 109 k)
    (hrow : ∀ j, j < 61 → j ≤ (q_I M' 109 (3320 + 61 * i)).toNatClampNeg → q_I M' 13 (61 * i + j) = q_I M' 109 (3320 + 61 * i + j)) (hV : z_Tx (q_I M' 109) (3320 + 61 * i)) : z_Inv M' := by
  refine hi.upd hF (fun a ha => hr a (by omega) (by omega)) (fun t' ht' => ?_) ?_
  · rw [hr _ (by omega) (by omega)]
    exact hi.2.1 t' ht'
  · have hs := hi.2.2.2.2.1
    have hmm : ∀ t, t < 11 → t ≠ 5 → q_I M' 109 (z_tn t) = q_I M 109 (z_tn t) := by
      intro t ht h5
      have := z_tn_lt ht h5
      exact hst2 _ (Or.inl (by omega))
    have hm0 : ∀ t, t < 11 → t ≠ 5 → z_m (q_I M' 109) t = z_m (q_I M 109) t := by
      intro t ht h5
      unfold z_m
      rw [hmm t ht h5]
    refine z_hs_tab (t := 5) (by decide) hs (fun a h1 h2 h3 h4 => hr a h4 (by omega)) (fun k h1 h2 => hst2 k (z_t5b hi6 (z_t5a h2))) (Nat.le_of_eq (hm0 0 (by decide) (by decide)).symm) (Nat.le_of_eq (hm0 3 (by decide) (by decide)).symm) ⟨?_, Nat.le_refl 6, fun z => absurd rfl z, fun i2 j2 h1 h2 hl => ?_⟩ (fun i2 h1 => ?_)
    · rw [hr _ (by decide) (by decide), z_m5]
      have g := (hs.1 5 (by decide)).1
      rw [z_m5] at g
      exact g
    · have h1' : i2 < 6 := by rw [z_m5] at h1; exact h1
      have h1 : i2 < z_m (q_I M 109) 5 := by rw [z_m5]; exact h1'
      have h2' : j2 < 61 := h2
      by_cases e : i2 = i
      · subst e
        exact hrow j2 h2' (hl.1 rfl)
      · have e1 : q_I M' 13 (61 * i2 + j2) = q_I M 13 (61 * i2 + j2) := hc2 _ (by omega)
        have e2 : q_I M' 109 (3320 + 61 * i2 + j2) = q_I M 109 (3320 + 61 * i2 + j2) := hst2 _ (by omega)
        have e3 : q_I M' 109 (3320 + 61 * i2) = q_I M 109 (3320 + 61 * i2) := hst2 _ (by omega)
        have g := (hs.1 5 (by decide)).2.2.2 i2 j2 h1 h2 ⟨fun z => by have q := hl.1 z; rwa [e3] at q, fun z => absurd z (by decide)⟩
        exact e1.trans (g.trans e2.symm)
    · have h1' : i2 < 6 := by rw [z_m5] at h1; exact h1
      have h1 : i2 < z_m (q_I M 109) 5 := by rw [z_m5]; exact h1'
      by_cases e : i2 = i
      · subst e; exact hV
      · exact z_Tx.cong (show z_Tx (q_I M 109) (3320 + 61 * i2) from hs.2.2.2 5 (by decide) i2 h1) (fun k k1 k2 => hst2 _ (by omega))
theorem z_txlen {st : Nat → Int32} {o : Nat} (h : z_Tx st o) : ∃ n, n ≤ 60 ∧ st o = nI n ∧ (st o).toNatClampNeg = n := by
  obtain ⟨n, h1, h2⟩ := h.1
  exact ⟨n, h1, h2, by rw [h2, nI_clamp (by omega)]⟩
theorem z_tx {M : q_Mem} (hi : z_Inv M) {i : Nat} (h : i < 6) : z_Tx (q_I M 109) (3320 + 61 * i) := hi.2.2.2.2.1.2.2.2 5 (by decide) i h
theorem zr_5 {M : q_Mem} (hi : z_Inv M) {i j : Nat} (h : i < 6) (hj : j ≤ (q_I M 109 (3320 + 61 * i)).toNatClampNeg) : q_I M 13 (61 * i + j) = q_I M 109 (3320 + 61 * i + j) := by
  obtain ⟨n, h1, h2, h3⟩ := z_txlen (z_tx hi h)
  exact (hi.2.2.2.2.1.1 5 (by decide)).2.2.2 i j h (show j < 61 by omega) ⟨fun _ => hj, fun z => absurd z (by decide)⟩
theorem z_ra_5 {M : q_Mem} (hi : z_Inv M) {i j : Nat} (h : i < 6) (hj : j ≤ (q_I M 109 (3320 + 61 * i)).toNatClampNeg) : f_X9_at M 12 (nI i) (nI j) = some (q_I M 109 (3320 + 61 * i + j)) := by
  obtain ⟨R, h3⟩ := zt_5 hi
  obtain ⟨n, h1, h2, h4⟩ := z_txlen (z_tx hi h)
  rw [z_at_in R h3 (by decide) h (show j < 61 by omega), zr_5 hi h hj]
theorem z_m_isText {M : q_Mem} {x : Int32} : f_X12_isText M x = some (q_b (0 ≤ x.toInt ∧ x.toInt < ((6 : Nat) : Int))) := by
  unfold f_X12_isText
  rw [z_m_in, Option.bind_some, z_b01]
  have e0 : (0 : Int32).toInt = 0 := rfl
  have e5 : (5 : Int32).toInt = 5 := rfl
  rw [e0, e5]
  congr 1
  unfold q_b
  by_cases h : 0 ≤ x.toInt ∧ x.toInt ≤ 5
  · rw [if_pos h, if_pos (by omega)]
  · rw [if_neg h, if_neg (by omega)]
theorem Z_erase_ok : Z_erase := by
  intro M p1 hi
  have hL := hi.1
  obtain ⟨R, h3⟩ := zt_5 hi
  have hh := z_has (x := p1) R h3 (Nat.le_refl 6)
  by_cases g0 : 0 ≤ p1.toInt ∧ p1.toInt < ((6 : Nat) : Int)
  · obtain ⟨i, hj, rfl⟩ := z_of g0 (by omega)
    have e1 : f_X9_put M 12 (nI i) (0 : Int32) 0 = some (q_sI M 13 (61 * i + 0) 0) := z_put_in (j := 0) R h3 (Nat.le_refl 6) hj (by decide)
    have e2 : f_X9_at M 12 (nI i) (0 : Int32) = some (q_I M 109 (3320 + 61 * i + 0)) := z_ra_5 (j := 0) hi hj (Nat.zero_le _)
    have La : z_Lay (q_sI M 13 (61 * i + 0) 0) := hL
    have r9 : ∀ k, q_I (q_sI M 13 (61 * i + 0) 0) 109 k = q_I M 109 k := fun k => by rw [z_I_sI, if_neg (by omega)]
    refine ⟨q_I M 109 (3320 + 61 * i), q_sI M 13 (61 * i + 0) 0, q_sI (q_sI M 13 (61 * i + 0) 0) 109 (3320 + 61 * i) 0, ?_, ?_, ?_⟩
    · simp only [f_X11_erase, zob_0 hL, zo_0 hL, zo_1 hL, hh, Option.bind_some, z_b0, g0, and_self, if_true, e1, e2, Nat.add_zero]
    · simp only [f_X12_erase, zob_108 La, zo_108 La, z_m_isText, Option.bind_some, z_b0, g0, and_self, if_true, zg_5 La (show i < 6 by omega), r9, zw_5 La (show i < 6 by omega)]
    · have n9 : q_I (q_sI (q_sI M 13 (61 * i + 0) 0) 109 (3320 + 61 * i) 0) 109 (3320 + 61 * i) = 0 := by rw [z_I_sI, if_pos ⟨rfl, rfl⟩]
      refine z_Inv_text hi hj ⟨rfl, rfl, rfl⟩ (fun a h1 h2 => by rw [q_sI_ne h2, q_sI_ne h1]) (fun k hk => ?_) (fun k hk => ?_) (fun j h1 h2 => ?_) ⟨⟨0, by decide, n9⟩, fun j h1 => ?_⟩
      · rw [z_I_sI, if_neg (by omega), z_I_sI, if_neg (by omega)]
      · rw [z_I_sI, if_neg (by omega), z_I_sI, if_neg (by omega)]
      · rw [n9] at h2
        have h2' : j ≤ 0 := h2
        obtain rfl : j = 0 := by omega
        rw [Nat.add_zero (3320 + 61 * i), n9, z_I_sI, if_neg (by omega), z_I_sI, if_pos ⟨rfl, rfl⟩]
      · rw [n9] at h1
        exact absurd h1 (Nat.not_lt_zero _)
  · refine ⟨-2, M, M, ?_, ?_, hi⟩
    · simp only [f_X11_erase, zob_0 hL, zo_0 hL, zo_1 hL, hh, Option.bind_some, z_b0, g0, and_self, if_true, if_false]
    · simp only [f_X12_erase, zob_108 hL, zo_108 hL, z_m_isText, Option.bind_some, z_b0, g0, and_self, if_true, if_false]
theorem Z_write_ok : Z_write := by
  intro M p1 p2 hi
  have hL := hi.1
  obtain ⟨R, h3⟩ := zt_5 hi
  have hh := z_has (x := p1) R h3 (Nat.le_refl 6)
  by_cases g0 : 0 ≤ p1.toInt ∧ p1.toInt < ((6 : Nat) : Int)
  · by_cases g1 : (0 : Int32).toInt ≤ p2.toInt ∧ p2.toInt ≤ (127 : Int32).toInt
    · obtain ⟨i, hj, rfl⟩ := z_of g0 (by omega)
      obtain ⟨n, hn, e0, e3⟩ := z_txlen (z_tx hi hj)
      have e2 : f_X9_at M 12 (nI i) (0 : Int32) = some (nI n) := by
        rw [← e0]; exact z_ra_5 (j := 0) hi hj (Nat.zero_le _)
      by_cases g2 : n = 60
      · subst g2
        refine ⟨-4, M, M, ?_, ?_, hi⟩
        · simp only [f_X11_write, zob_0 hL, zo_0 hL, zo_1 hL, hh, z_c_within, Option.bind_some, z_b0, g0, g1, and_self, if_true, e2, show (nI 60 < (60 : Int32)) = False by decide, if_false]
        · simp only [f_X12_write, zob_108 hL, zo_108 hL, z_m_isText, z_m_in, Option.bind_some, z_b0, g0, g1, and_self, if_true, zg_5 hL (show i < 6 by omega), e0, show (nI 60 = (60 : Int32)) = True by decide]
      · have c1 : (nI n < (60 : Int32)) = True := eq_true (nI_lt (b := 60) (by omega) (by omega))
        have c2 : (nI n = (60 : Int32)) = False := eq_false (fun z => g2 ((nI_eq (b := 60) (by omega) (by omega)).mp z))
        have e1 : f_X9_put M 12 (nI i) ((1 : Int32) + nI n) p2 = some (q_sI M 13 (61 * i + (1 + n)) p2) := by
          rw [show (1 : Int32) + nI n = nI (1 + n) from nI_add 1 n]
          exact z_put_in (j := 1 + n) R h3 (Nat.le_refl 6) hj (by omega)
        have e4 : f_X9_put (q_sI M 13 (61 * i + (1 + n)) p2) 12 (nI i) (0 : Int32) (nI (n + 1)) = some (q_sI (q_sI M 13 (61 * i + (1 + n)) p2) 13 (61 * i + 0) (nI (n + 1))) := z_put_in (j := 0) (R.keep z_FR.sI rfl rfl) h3 (Nat.le_refl 6) hj (by decide)
        generalize hMa : q_sI (q_sI M 13 (61 * i + (1 + n)) p2) 13 (61 * i + 0) (nI (n + 1)) = Ma at e4
        have La : z_Lay Ma := by rw [← hMa]; exact hL
        have r9 : q_I Ma 109 = q_I M 109 := by rw [← hMa, q_sI_ne (by decide), q_sI_ne (by decide)]
        have Lb : z_Lay (q_sI Ma 109 (3320 + 61 * i) (nI (n + 1))) := La
        have rb : q_I (q_sI Ma 109 (3320 + 61 * i) (nI (n + 1))) 109 (3320 + 61 * i) = nI (n + 1) := by rw [z_I_sI, if_pos ⟨rfl, rfl⟩]
        have e5 : q_tI (q_sI Ma 109 (3320 + 61 * i) (nI (n + 1))) 109 ((3320 : Int32) + (61 : Int32) * nI i + nI (n + 1)) p2 = some (q_sI (q_sI Ma 109 (3320 + 61 * i) (nI (n + 1))) 109 (3320 + 61 * i + (n + 1)) p2) := by
          rw [z_ix_5]; exact z_st_put Lb (by omega)
        generalize hMb : q_sI (q_sI Ma 109 (3320 + 61 * i) (nI (n + 1))) 109 (3320 + 61 * i + (n + 1)) p2 = Mb at e5
        have Lc : z_Lay Mb := by rw [← hMb]; exact La
        have rc : q_I Mb 109 (3320 + 61 * i) = nI (n + 1) := by rw [← hMb, z_I_sI, if_neg (by omega), rb]
        refine ⟨nI (n + 1), Ma, Mb, ?_, ?_, ?_⟩
        · simp only [f_X11_write, zob_0 hL, zo_0 hL, zo_1 hL, hh, z_c_within, Option.bind_some, z_b0, g0, g1, and_self, if_true, e2, c1, e1, ← nI_succ] at e4 ⊢
          simp only [e4, Option.bind_some]
        · simp only [f_X12_write, zob_108 La, zo_108 La, z_m_isText, z_m_in, Option.bind_some, z_b0, g0, g1, and_self, if_true, zg_5 La (show i < 6 by omega), r9, e0, c2, if_false, ← nI_succ, zw_5 La (show i < 6 by omega), zo_108 Lb, zg_5 Lb (show i < 6 by omega), rb, e5, zo_108 Lc, zg_5 Lc (show i < 6 by omega), rc]
        · have ri : ∀ a, a ≠ 13 → a ≠ 109 → q_I Mb a = q_I M a := fun a h1 h2 => by
            rw [← hMb, q_sI_ne h2, q_sI_ne h2, ← hMa, q_sI_ne h1, q_sI_ne h1]
          have k13 : ∀ k, q_I Mb 13 k = if k = 61 * i then nI (n + 1) else if k = 61 * i + (1 + n) then p2 else q_I M 13 k := fun k => by
            rw [← hMb, z_I_sI, if_neg (by omega), z_I_sI, if_neg (by omega), ← hMa, z_I_sI, z_I_sI]
            repeat' split
            all_goals first | rfl | (exfalso; omega)
          have k109 : ∀ k, q_I Mb 109 k = if k = 3320 + 61 * i then nI (n + 1) else if k = 3320 + 61 * i + (1 + n) then p2 else q_I M 109 k := fun k => by
            rw [← hMb, z_I_sI, z_I_sI, r9]
            repeat' split
            all_goals first | rfl | (exfalso; omega)
          refine z_Inv_text hi hj (by rw [← hMb, ← hMa]; exact ⟨rfl, rfl, rfl⟩) ri (fun k hk => ?_) (fun k hk => ?_) (fun j h1 h2 => ?_) ⟨⟨n + 1, by omega, rc⟩, fun j h1 => ?_⟩
          · rw [k13, if_neg (by omega), if_neg (by omega)]
          · rw [k109, if_neg (by omega), if_neg (by omega)]
          · rw [rc, nI_clamp (by omega)] at h2
            rw [k13, k109]
            by_cases c : j = 0
            · rw [if_pos (by omega), if_pos (by omega)]
            · by_cases c' : j = 1 + n
              · rw [if_neg (by omega), if_pos (by omega), if_neg (by omega), if_pos (by omega)]
              · rw [if_neg (by omega), if_neg (by omega), if_neg (by omega), if_neg (by omega)]
                exact zr_5 hi hj (by omega)
          · rw [rc, nI_clamp (by omega)] at h1
            rw [k109, if_neg (by omega)]
            by_cases c' : j = n
            · rw [if_pos (by omega)]; exact z_bt_of g1 rfl rfl
            · rw [if_neg (by omega)]
              exact (z_tx hi hj).2 j (by omega)
    · refine ⟨-2, M, M, ?_, ?_, hi⟩
      · simp only [f_X11_write, zob_0 hL, zo_0 hL, zo_1 hL, hh, z_c_within, Option.bind_some, z_b0, g0, g1, and_self, if_true, if_false]
      · simp only [f_X12_write, zob_108 hL, zo_108 hL, z_m_isText, z_m_in, Option.bind_some, z_b0, g0, g1, and_self, if_true, if_false]
  · refine ⟨-2, M, M, ?_, ?_, hi⟩
    · simp only [f_X11_write, zob_0 hL, zo_0 hL, zo_1 hL, hh, Option.bind_some, z_b0, g0, and_self, if_true, if_false]
    · simp only [f_X12_write, zob_108 hL, zo_108 hL, z_m_isText, Option.bind_some, z_b0, g0, and_self, if_true, if_false]
