/-! ===== rows come: both sides ===== -/
theorem zt_0 {M : q_Mem} (hi : z_Inv M) : z_R M 2 3 4 20 ∧ q_I M 2 3 = nI (z_m (q_I M 109) 0) ∧ z_m (q_I M 109) 0 ≤ 20 ∧ q_I M 109 0 = nI (z_m (q_I M 109) 0) := ⟨z_rows1 hi.1 hi.2.1 0 (by decide), (hi.2.2.2.2.1.1 0 (by decide)).1, (hi.2.2.2.2.1.1 0 (by decide)).2.1, (hi.2.2.2.2.1.1 0 (by decide)).2.2.1 (by decide)⟩
theorem zt_1 {M : q_Mem} (hi : z_Inv M) : z_R M 4 5 4 300 ∧ q_I M 4 3 = nI (z_m (q_I M 109) 1) ∧ z_m (q_I M 109) 1 ≤ 300 ∧ q_I M 109 1 = nI (z_m (q_I M 109) 1) := ⟨z_rows1 hi.1 hi.2.1 1 (by decide), (hi.2.2.2.2.1.1 1 (by decide)).1, (hi.2.2.2.2.1.1 1 (by decide)).2.1, (hi.2.2.2.2.1.1 1 (by decide)).2.2.1 (by decide)⟩
theorem zt_2 {M : q_Mem} (hi : z_Inv M) : z_R M 6 7 7 200 ∧ q_I M 6 3 = nI (z_m (q_I M 109) 2) ∧ z_m (q_I M 109) 2 ≤ 200 ∧ q_I M 109 2 = nI (z_m (q_I M 109) 2) := ⟨z_rows1 hi.1 hi.2.1 2 (by decide), (hi.2.2.2.2.1.1 2 (by decide)).1, (hi.2.2.2.2.1.1 2 (by decide)).2.1, (hi.2.2.2.2.1.1 2 (by decide)).2.2.1 (by decide)⟩
theorem zt_3 {M : q_Mem} (hi : z_Inv M) : z_R M 8 9 3 40 ∧ q_I M 8 3 = nI (z_m (q_I M 109) 3) ∧ z_m (q_I M 109) 3 ≤ 40 ∧ q_I M 109 3 = nI (z_m (q_I M 109) 3) := ⟨z_rows1 hi.1 hi.2.1 3 (by decide), (hi.2.2.2.2.1.1 3 (by decide)).1, (hi.2.2.2.2.1.1 3 (by decide)).2.1, (hi.2.2.2.2.1.1 3 (by decide)).2.2.1 (by decide)⟩
theorem zt_4 {M : q_Mem} (hi : z_Inv M) : z_R M 10 11 5 100 ∧ q_I M 10 3 = nI (z_m (q_I M 109) 4) ∧ z_m (q_I M 109) 4 ≤ 100 ∧ q_I M 109 4 = nI (z_m (q_I M 109) 4) := ⟨z_rows1 hi.1 hi.2.1 4 (by decide), (hi.2.2.2.2.1.1 4 (by decide)).1, (hi.2.2.2.2.1.1 4 (by decide)).2.1, (hi.2.2.2.2.1.1 4 (by decide)).2.2.1 (by decide)⟩
theorem zt_5 {M : q_Mem} (hi : z_Inv M) : z_R M 12 13 61 6 ∧ q_I M 12 3 = nI 6 := ⟨z_rows1 hi.1 hi.2.1 5 (by decide), (hi.2.2.2.2.1.1 5 (by decide)).1⟩
theorem zt_6 {M : q_Mem} (hi : z_Inv M) : z_R M 14 15 84 10 ∧ q_I M 14 3 = nI (z_m (q_I M 109) 6) ∧ z_m (q_I M 109) 6 ≤ 10 ∧ q_I M 109 5 = nI (z_m (q_I M 109) 6) := ⟨z_rows1 hi.1 hi.2.1 6 (by decide), (hi.2.2.2.2.1.1 6 (by decide)).1, (hi.2.2.2.2.1.1 6 (by decide)).2.1, (hi.2.2.2.2.1.1 6 (by decide)).2.2.1 (by decide)⟩
theorem zt_7 {M : q_Mem} (hi : z_Inv M) : z_R M 16 17 3 10 ∧ q_I M 16 3 = nI (z_m (q_I M 109) 7) ∧ z_m (q_I M 109) 7 ≤ 10 ∧ q_I M 109 6 = nI (z_m (q_I M 109) 7) := ⟨z_rows1 hi.1 hi.2.1 7 (by decide), (hi.2.2.2.2.1.1 7 (by decide)).1, (hi.2.2.2.2.1.1 7 (by decide)).2.1, (hi.2.2.2.2.1.1 7 (by decide)).2.2.1 (by decide)⟩
theorem zt_8 {M : q_Mem} (hi : z_Inv M) : z_R M 18 19 3 40 ∧ q_I M 18 3 = nI (z_m (q_I M 109) 8) ∧ z_m (q_I M 109) 8 ≤ 40 ∧ q_I M 109 7 = nI (z_m (q_I M 109) 8) := ⟨z_rows1 hi.1 hi.2.1 8 (by decide), (hi.2.2.2.2.1.1 8 (by decide)).1, (hi.2.2.2.2.1.1 8 (by decide)).2.1, (hi.2.2.2.2.1.1 8 (by decide)).2.2.1 (by decide)⟩
theorem zt_9 {M : q_Mem} (hi : z_Inv M) : z_R M 20 21 3 6 ∧ q_I M 20 3 = nI (z_m (q_I M 109) 9) ∧ z_m (q_I M 109) 9 ≤ 6 ∧ q_I M 109 8 = nI (z_m (q_I M 109) 9) := ⟨z_rows1 hi.1 hi.2.1 9 (by decide), (hi.2.2.2.2.1.1 9 (by decide)).1, (hi.2.2.2.2.1.1 9 (by decide)).2.1, (hi.2.2.2.2.1.1 9 (by decide)).2.2.1 (by decide)⟩
theorem zt_10 {M : q_Mem} (hi : z_Inv M) : z_R M 22 23 3 6 ∧ q_I M 22 3 = nI (z_m (q_I M 109) 10) ∧ z_m (q_I M 109) 10 ≤ 6 ∧ q_I M 109 9 = nI (z_m (q_I M 109) 10) := ⟨z_rows1 hi.1 hi.2.1 10 (by decide), (hi.2.2.2.2.1.1 10 (by decide)).1, (hi.2.2.2.2.1.1 10 (by decide)).2.1, (hi.2.2.2.2.1.1 10 (by decide)).2.2.1 (by decide)⟩
theorem z_put_neg {M : q_Mem} {r c w mx : Nat} {x y v : Int32} (R : z_R M r c w mx) (hx : x < 0) : f_X9_put M r x y v = some M := by
  unfold f_X9_put q_ob
  rw [if_pos R.1, if_pos hx]
theorem z_more {M : q_Mem} {j m : Nat} (hL : z_Lay M) (hj : j < 4764) (hm : q_I M 109 j = nI m) : f_X12_more M 108 (nI j) = some (nI m, q_sI M 109 j (nI (m + 1))) := by
  have hL2 : z_Lay (q_sI M 109 j (nI m + 1)) := hL
  unfold f_X12_more
  rw [zob_108 hL, (zo_108 hL).2.2.2.2.2.1, Option.bind_some, z_st_lit hL hj, Option.bind_some, hm, z_st_put hL hj, Option.bind_some, (zo_108 hL2).2.2.2.2.2.1, Option.bind_some, z_st_lit hL2 hj, Option.bind_some, z_I_sI, if_pos ⟨rfl, rfl⟩, ← nI_succ, nI_pred]
theorem z_c_asNumber {M : q_Mem} {v : Int32} (h : v = 0 ∨ v = 1) : f_X11_asNumber M v = some v := by
  unfold f_X11_asNumber
  rcases h with rfl | rfl <;> rfl
/-- writes into the model's numbers, one behind another -/
theorem z_w3 (M : q_Mem) (o n : Nat) (x a b d : Int32) (hn : n < o) (k : Nat) : q_I (q_sI (q_sI (q_sI (q_sI M 109 o a) 109 (o + 1) b) 109 (o + 2) d) 109 n x) 109 k = if k = n then x else if o ≤ k ∧ k < o + 3 then z_row a b d (k - o) else q_I M 109 k := by
  rw [z_I_sI, z_I_sI, z_I_sI, z_I_sI]
  unfold z_row
  repeat' split
  all_goals first | rfl | (exfalso; omega)
theorem z_w4 (M : q_Mem) (o n : Nat) (x a b d e : Int32) (hn : n < o) (k : Nat) : q_I (q_sI (q_sI (q_sI (q_sI (q_sI M 109 o a) 109 (o + 1) b) 109 (o + 2) d) 109 (o + 3) e) 109 n x) 109 k = if k = n then x else if o ≤ k ∧ k < o + 4 then (if k - o = 3 then e else z_row a b d (k - o)) else q_I M 109 k := by
  rw [z_I_sI, z_I_sI, z_I_sI, z_I_sI, z_I_sI]
  unfold z_row
  repeat' split
  all_goals first | rfl | (exfalso; omega)
theorem z_bt_of {v : Int32} {a b : Int32} {x y : Int} (h : a.toInt ≤ v.toInt ∧ v.toInt ≤ b.toInt) (ha : a.toInt = x) (hb : b.toInt = y) : z_bt v x y := ⟨by rw [← ha]; exact h.1, by rw [← hb]; exact h.2⟩
theorem z_bt01 {v : Int32} (h : v = 0 ∨ v = 1) : z_bt v 0 1 := by rcases h with rfl | rfl <;> exact ⟨by decide, by decide⟩
theorem z_full {m n : Nat} (h : m ≤ n) (hn : n < 2147483648) : (nI m = nI n) ↔ m = n := by rw [nI_eq (by omega) (by omega)]
theorem Z_farm_ok : Z_farm := by
  intro M p1 p2 p3 p4 hb hi
  have hL := hi.1
  obtain ⟨R, h3, hm, hcn⟩ := zt_0 hi
  by_cases hg : ((0 : Int32).toInt ≤ p1.toInt ∧ p1.toInt ≤ (200 : Int32).toInt) ∧ ((0 : Int32).toInt ≤ p2.toInt ∧ p2.toInt ≤ (200 : Int32).toInt)
  · by_cases hg3 : (0 : Int32).toInt ≤ p3.toInt ∧ p3.toInt ≤ (60 : Int32).toInt
    · by_cases hf : z_m (q_I M 109) 0 = 20
      · refine ⟨-4, M, M, ?_, ?_, hi⟩
        · unfold f_X11_farm
          rw [zob_0 hL, z_c_isPlace, Option.bind_some, z_b0, if_pos hg, z_c_within, Option.bind_some, z_b0, if_pos hg3, (zo_0 hL).2.2.2.2.2.1, Option.bind_some, (zo_1 hL).2.2.2.2.2.1, Option.bind_some, z_come_full R (by rw [h3, hf]), Option.bind_some]
          dsimp only
          rw [(zo_0 hL).2.2.2.2.2.1, Option.bind_some, (zo_1 hL).2.2.2.2.2.1, Option.bind_some, z_c_asNumber hb, Option.bind_some, z_put_neg R (by decide)]
          rfl
        · unfold f_X12_farm
          rw [zob_108 hL, z_m_in, Option.bind_some, z_b0, if_pos hg.1, z_m_in, Option.bind_some, z_b0, if_pos hg.2, z_m_in, Option.bind_some, z_b0, if_pos hg3, (zo_108 hL).2.2.2.2.2.1, Option.bind_some, show (0 : Int32) = nI 0 from rfl, z_st_lit hL (by decide), Option.bind_some, hcn, if_pos (by rw [hf]; rfl)]
      · have hlt : z_m (q_I M 109) 0 < 20 := by omega
        generalize hmm : z_m (q_I M 109) 0 = m at *
        obtain ⟨M1, c1, c2, c3, c4⟩ := z_come_in (a := p1) (b := p2) (d := p3) R h3 hlt
        have hL1 : z_Lay M1 := c2.lay hL
        have R1 : z_R M1 2 3 4 20 := R.keep c2 (by rw [c4, if_neg (by omega), if_neg (by omega)]) (by rw [c4, if_neg (by omega), if_neg (by omega)])
        have t1 : q_I M1 2 3 = nI (m + 1) := by rw [c4, if_pos ⟨rfl, rfl⟩]
        have p1e := z_put_in (i := m) (j := 3) (v := p4) R1 t1 (by omega) (by omega) (by omega)
        have s9 : ∀ k, q_I M1 109 k = q_I M 109 k := fun k => by rw [c4, if_neg (by omega), if_neg (by omega)]
        refine ⟨nI m, q_sI M1 3 (4 * m + 3) p4, q_sI (q_sI (q_sI (q_sI (q_sI (q_sI M1 3 (4 * m + 3) p4) 109 (20 + 4 * m) p1) 109 (20 + 4 * m + 1) p2) 109 (20 + 4 * m + 2) p3) 109 (20 + 4 * m + 3) p4) 109 0 (nI (m + 1)), ?_, ?_, ?_⟩
        · unfold f_X11_farm
          rw [zob_0 hL, z_c_isPlace, Option.bind_some, z_b0, if_pos hg, z_c_within, Option.bind_some, z_b0, if_pos hg3, (zo_0 hL).2.2.2.2.2.1, Option.bind_some, (zo_1 hL).2.2.2.2.2.1, Option.bind_some, c1, Option.bind_some]
          dsimp only
          rw [(zo_0 hL1).2.2.2.2.2.1, Option.bind_some, (zo_1 hL1).2.2.2.2.2.1, Option.bind_some, z_c_asNumber hb, Option.bind_some, show (3 : Int32) = nI 3 from rfl, p1e]
          rfl
        · generalize hM2 : q_sI M1 3 (4 * m + 3) p4 = M2
          have hL2 : z_Lay M2 := by rw [← hM2]; exact hL1
          have s2 : ∀ k, q_I M2 109 k = q_I M 109 k := fun k => by rw [← hM2, z_I_sI, if_neg (by omega)]; exact s9 k
          have e0 : (20 : Int32) + (4 : Int32) * nI m = nI (20 + 4 * m) := by rw [show (4 : Int32) = nI 4 from rfl, pk_mul, show (20 : Int32) = nI 20 from rfl, nI_add]
          have e1 : nI (20 + 4 * m) + (1 : Int32) = nI (20 + 4 * m + 1) := by rw [show (1 : Int32) = nI 1 from rfl, nI_add]
          have e2 : nI (20 + 4 * m) + (2 : Int32) = nI (20 + 4 * m + 2) := by rw [show (2 : Int32) = nI 2 from rfl, nI_add]
          have e3 : nI (20 + 4 * m) + (3 : Int32) = nI (20 + 4 * m + 3) := by rw [show (3 : Int32) = nI 3 from rfl, nI_add]
          have q0 : (0 : Int32) = nI 0 := rfl
          have ne20 : (nI m = (20 : Int32)) = False := eq_false (fun z => hf ((z_full (n := 20) (by omega) (by decide)).mp z))
          have g0 : q_lI M2 109 (0 : Int32) = some (nI m) := by rw [q0, z_st_lit hL2 (by decide), s2, hcn]
          have gr : ∀ M3 : q_Mem, z_Lay M3 → q_gR 11 0 M3 108 = some 109 := fun M3 h => (zo_108 h).2.2.2.2.2.1
          have pt : ∀ (M3 : q_Mem) (k : Nat) (v : Int32), z_Lay M3 → k < 4764 → q_tI M3 109 (nI k) v = some (q_sI M3 109 k v) := fun M3 k v h hk => z_st_put h hk
          have hx : ∀ v : Int32, f_X12_more (q_sI (q_sI (q_sI (q_sI M2 109 (20 + 4 * m) p1) 109 (20 + 4 * m + 1) p2) 109 (20 + 4 * m + 2) p3) 109 (20 + 4 * m + 3) v) 108 0 = some (nI m, q_sI (q_sI (q_sI (q_sI (q_sI M2 109 (20 + 4 * m) p1) 109 (20 + 4 * m + 1) p2) 109 (20 + 4 * m + 2) p3) 109 (20 + 4 * m + 3) v) 109 0 (nI (m + 1))) := fun v => z_more (j := 0) hL2 (by decide) (by rw [z_I_sI, if_neg (by omega), z_I_sI, if_neg (by omega), z_I_sI, if_neg (by omega), z_I_sI, if_neg (by omega), s2, hcn])
          have k0 : 20 + 4 * m < 4764 := by omega
          have k1 : 20 + 4 * m + 1 < 4764 := by omega
          have k2 : 20 + 4 * m + 2 < 4764 := by omega
          have k3 : 20 + 4 * m + 3 < 4764 := by omega
          have L1 : z_Lay (q_sI M2 109 (20 + 4 * m) p1) := hL2
          have L2 : z_Lay (q_sI (q_sI M2 109 (20 + 4 * m) p1) 109 (20 + 4 * m + 1) p2) := hL2
          have L3 : z_Lay (q_sI (q_sI (q_sI M2 109 (20 + 4 * m) p1) 109 (20 + 4 * m + 1) p2) 109 (20 + 4 * m + 2) p3) := hL2
          unfold f_X12_farm
          rcases hb with rfl | rfl
          · simp only [zob_108 hL2, z_m_in, Option.bind_some, z_b0, hg.1, hg.2, hg3, and_self, if_true, gr, hL2, L1, L2, L3, g0, ne20, if_false, e0, e1, e2, e3, pt, k0, k1, k2, k3, hx]
          · have n1 : ((1 : Int32) = 0) = False := by decide
            simp only [zob_108 hL2, z_m_in, Option.bind_some, z_b0, hg.1, hg.2, hg3, and_self, if_true, gr, hL2, L1, L2, L3, g0, ne20, if_false, e0, e1, e2, e3, pt, k0, k1, k2, k3, hx, n1]
        · have hcs := z_hs_come (t := 0) (st := q_I M 109) (I := q_I M) (I' := q_I (q_sI (q_sI (q_sI (q_sI (q_sI (q_sI M1 3 (4 * m + 3) p4) 109 (20 + 4 * m) p1) 109 (20 + 4 * m + 1) p2) 109 (20 + 4 * m + 2) p3) 109 (20 + 4 * m + 3) p4) 109 0 (nI (m + 1)))) (st' := q_I (q_sI (q_sI (q_sI (q_sI (q_sI (q_sI M1 3 (4 * m + 3) p4) 109 (20 + 4 * m) p1) 109 (20 + 4 * m + 1) p2) 109 (20 + 4 * m + 2) p3) 109 (20 + 4 * m + 3) p4) 109 0 (nI (m + 1))) 109) (fun j => if j = 3 then p4 else z_row p1 p2 p3 j) (by decide) (by decide) (by decide) hi.2.2.2.2.1 (by rw [hmm]; exact hlt)
            (fun a h1 h2 h4 h5 => by rw [q_sI_ne (by omega), q_sI_ne (by omega), q_sI_ne (by omega), q_sI_ne (by omega), q_sI_ne (by omega), q_sI_ne (by omega)]; funext k; rw [c4, if_neg (by omega), if_neg (by omega)])
            (by rw [q_sI_ne (by omega), q_sI_ne (by omega), q_sI_ne (by omega), q_sI_ne (by omega), q_sI_ne (by omega), q_sI_ne (by omega), hmm]; exact t1)
            (fun k => by
              rw [q_sI_ne (by omega), q_sI_ne (by omega), q_sI_ne (by omega), q_sI_ne (by omega), q_sI_ne (by omega), z_I_sI, c4, hmm]
              show (if 3 = 3 ∧ k = 4 * m + 3 then p4 else if 3 = 2 ∧ k = 3 then nI (m + 1) else if 3 = 3 ∧ 4 * m ≤ k ∧ k < 4 * m + 4 then z_row p1 p2 p3 (k - 4 * m) else q_I M 3 k) = if 4 * m ≤ k ∧ k < 4 * m + 4 then (if k - 4 * m = 3 then p4 else z_row p1 p2 p3 (k - 4 * m)) else q_I M 3 k
              repeat' split
              all_goals first | rfl | (exfalso; omega))
            (fun k => by
              have e9 : q_I (q_sI M1 3 (4 * m + 3) p4) 109 k = q_I M 109 k := by rw [z_I_sI, if_neg (by omega)]; exact s9 k
              rw [z_w4 _ _ _ _ _ _ _ _ (show 0 < 20 + 4 * m by omega), e9, hmm]
              rfl)
            ?_
          · refine hi.upd (c2.tr ⟨rfl, rfl, rfl⟩) (fun a ha => ?_) (fun t ht => ?_) hcs.1
            · rw [q_sI_ne (by omega), q_sI_ne (by omega), q_sI_ne (by omega), q_sI_ne (by omega), q_sI_ne (by omega), q_sI_ne (by omega)]; funext k; rw [c4, if_neg (by omega), if_neg (by omega)]
            · rw [q_sI_ne (by omega), q_sI_ne (by omega), q_sI_ne (by omega), q_sI_ne (by omega), q_sI_ne (by omega), q_sI_ne (by omega), c4, if_neg (by omega), if_neg (by omega), c4, if_neg (by omega), if_neg (by omega)]
              exact hi.2.1 t ht
          · have ev : ∀ j, j < 4 → q_I (q_sI (q_sI (q_sI (q_sI (q_sI (q_sI M1 3 (4 * m + 3) p4) 109 (20 + 4 * m) p1) 109 (20 + 4 * m + 1) p2) 109 (20 + 4 * m + 2) p3) 109 (20 + 4 * m + 3) p4) 109 0 (nI (m + 1))) 109 (20 + 4 * m + j) = if j = 3 then p4 else z_row p1 p2 p3 j := by
              intro j hj
              rw [z_w4 _ _ _ _ _ _ _ _ (show 0 < 20 + 4 * m by omega), if_neg (show ¬ 20 + 4 * m + j = 0 by omega), if_pos (show 20 + 4 * m ≤ 20 + 4 * m + j ∧ 20 + 4 * m + j < 20 + 4 * m + 4 by omega), show 20 + 4 * m + j - (20 + 4 * m) = j by omega]
            rw [hmm]
            have v0 := ev 0 (by decide)
            rw [Nat.add_zero (20 + 4 * m)] at v0
            have v1 := ev 1 (by decide)
            have v2 := ev 2 (by decide)
            have v3 := ev 3 (by decide)
            have w0 : z_row p1 p2 p3 0 = p1 := rfl
            have w1 : z_row p1 p2 p3 1 = p2 := rfl
            have w2 : z_row p1 p2 p3 2 = p3 := rfl
            rw [if_neg (by decide), w0] at v0
            rw [if_neg (by decide), w1] at v1
            rw [if_neg (by decide), w2] at v2
            rw [if_pos rfl] at v3
            refine ⟨?_, ?_, ?_, ?_⟩
            · rw [v0]; exact z_bt_of hg.1 rfl rfl
            · rw [v1]; exact z_bt_of hg.2 rfl rfl
            · rw [v2]; exact z_bt_of hg3 rfl rfl
            · rw [v3]; exact z_bt01 hb
    · refine ⟨-2, M, M, ?_, ?_, hi⟩
      · unfold f_X11_farm
        rw [zob_0 hL, z_c_isPlace, Option.bind_some, z_b0, if_pos hg, z_c_within, Option.bind_some, z_b0, if_neg hg3]
      · unfold f_X12_farm
        rw [zob_108 hL, z_m_in, Option.bind_some, z_b0, if_pos hg.1, z_m_in, Option.bind_some, z_b0, if_pos hg.2, z_m_in, Option.bind_some, z_b0, if_neg hg3]
  · refine ⟨-2, M, M, ?_, ?_, hi⟩
    · unfold f_X11_farm
      rw [zob_0 hL, z_c_isPlace, Option.bind_some, z_b0, if_neg hg]
    · unfold f_X12_farm
      rw [zob_108 hL, z_m_in, Option.bind_some, z_b0]
      by_cases h1 : (0 : Int32).toInt ≤ p1.toInt ∧ p1.toInt ≤ (200 : Int32).toInt
      · rw [if_pos h1, z_m_in, Option.bind_some, z_b0, if_neg (fun z => hg ⟨h1, z⟩)]
      · rw [if_neg h1]
